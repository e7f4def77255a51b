/-! judge -/
theorem l_cut {v : Int64} {k : Nat} (h : v.toInt = (k : Int)) (hk : k < 2 ^ 31) : v.toInt32 = nI k := by
  rw [← Int32.toInt_inj, Int64.toInt_toInt32, h, nI_toInt hk]
  exact Int.bmod_eq_of_le (by omega) (by omega)
theorem l_eqI {v : Int64} {k : Nat} (hk : k < 2 ^ 31) : lg_cmp v (nI k).toInt64 = 0 ↔ v.toInt = (k : Int) := by
  rw [lg_cmp_eq, ← Int64.toInt_inj, lI_toInt, nI_toInt hk]
/-- number j of the row is right -/
def jok (t : TD) (vv : Nat → Int64) (j : Nat) : Prop := (0 ≤ (vv j).toInt ∧ (vv j).toInt < tS t) ∧ (0 < j → (vv j).toInt = (tg t (vv (j - 1)).toInt.toNat : Int))
def jst (t : TD) (vv : Nat → Int64) (m r : Nat) : Prop := r ≤ m ∧ (∀ j, j < r → jok t vv j) ∧ (r < m → ¬ jok t vv r)
theorem jst_one {t : TD} {vv : Nat → Int64} {m r r2 : Nat} (h : jst t vv m r) (h2 : jst t vv m r2) : r = r2 := by
  rcases Nat.lt_trichotomy r r2 with w | w | w
  · exact absurd (h2.2.1 r w) (h.2.2 (by have := h2.1; omega))
  · exact w
  · exact absurd (h.2.1 r2 w) (h2.2.2 (by have := h.1; omega))
theorem jnat {S : Nat} {v : Int64} (h : 0 ≤ v.toInt ∧ v.toInt < S) : ∃ k, k < S ∧ v.toInt = (k : Int) ∧ v.toInt.toNat = k := ⟨v.toInt.toNat, by omega, by omega, rfl⟩
theorem mm_judge {N : Nat} {a : ud_St} {x : Int32} {t : TD} {Q : Int32 → ud_St → Prop} (hC : JC N a t) (h1 : ∀ s m, s < 4 → x = nI s → 0 < tS t → a.1 73 s = nI m → a.1 72 s ≠ -1 → m ≤ 60 → ∀ a' r, fr Psc a a' → jst t (fun j => a.2.1 74 (60 * s + j)) m r → Q (nI r) a') (h6 : ∀ s, s < 4 → x = nI s → 0 < tS t → a.1 72 s = -1 → Q (-6) (a71 a)) (h0 : (¬ ∃ s, s < 4 ∧ x = nI s ∧ 0 < tS t) → Q (-2) (a71 a)) : w_Model_judge a x Q := by
  have hC' := JC_sc hC f0_sc
  obtain ⟨c1, c2, c3, -⟩ := hC'
  have hS := tS_le c1
  have hb := t3_le c1
  unfold w_Model_judge
  refine m_isSlot (fun s hs e => t1 (m_isTable c1 c3 (fun hp => t1 ?_) (fun hp => t0 (h0 (fun ⟨_, _, _, q⟩ => by omega))))) (fun h => t0 (h0 (fun ⟨s, q1, q2, _⟩ => h s q1 q2)))
  have e7 : ∀ k j, ¬ k = 71 → (ud_sv a 71 0 0).1 k j = a.1 k j := fun k j q => by rw [us_1, if_neg (by omega)]
  rw [e, nI_clamp (by omega)]
  refine ⟨vp_in_nI hs (by omega), fun q => h6 s hs e hp ?_, fun q => ?_⟩
  · rw [← e7 72 s (by omega)]; exact q
  have q' : a.1 72 s ≠ -1 := fun z => q ((e7 72 s (by omega)).trans z)
  rcases hC.2.2.2.2.2.1 s hs with ⟨z1, z2⟩ | ⟨z1, w, m, hw, hm, z2, z3, z4, z5, z6⟩
  · exact absurd z2 q'
  have hq := h1 s m hs e hp z5 q' hm
  refine LW2.up m (fun j v c => v = nI j ∧ fr Psc a c ∧ ∀ j', j' < j → jok t (fun j => a.2.1 74 (60 * s + j)) j') ⟨rfl, f0_sc, fun j' h => by omega⟩ ?_ ?_
  · rintro j v c hj ⟨rfl, hf, hok⟩ K hK
    have c3' := (JC_sc hC hf).2.2.1
    have e73 : c.1 73 s = nI m := (hf.1 73 s (by unfold Psc; omega)).trans z5
    have e74 : ∀ k, c.2.1 74 k = a.2.1 74 k := fun k => by rw [hf.2]
    rw [e73, s60, nI_clamp (by omega), e74]
    have hno : ¬ jok t (fun j => a.2.1 74 (60 * s + j)) j → Q (nI j) c := fun h => hq c j hf ⟨by omega, hok, fun _ => h⟩
    refine ⟨vp_in_nI hs (by omega), fun z => absurd z (nI_ge hj (by omega)), fun _ => ⟨vp_in_nI (by omega) (by omega), m_isNumberL c3'.2.2.2.1 (by omega) (fun q1 q2 => t1 ?_) (fun h => t0 (hno (fun w => h w.1)))⟩⟩
    have hgo : jok t (fun j => a.2.1 74 (60 * s + j)) j → ∀ c', fr Psc a c' → K (nI j + 1) c' := fun h c' hf' => hK _ _ ⟨nI_1 j, hf', fun j' hj' => by
      by_cases e : j' = j
      · rw [e]; exact h
      · exact hok j' (by omega)⟩
    refine ⟨fun z => hgo ⟨⟨q1, q2⟩, fun w => ?_⟩ c hf, fun z => ?_⟩
    · have := (nI_leI (b := 0) (by omega) (by omega)).mp z
      omega
    · have hj0 : 0 < j := by
        rcases Nat.eq_zero_or_pos j with w | w
        · exact absurd (by rw [w]; decide) z
        · exact w
      have ej : nI (60 * s + j) - 1 = nI (60 * s + (j - 1)) := by
        rw [show 60 * s + j = 60 * s + (j - 1) + 1 by omega, ← nI_1]
        exact Int32.add_sub_cancel _ _
      rw [ej, nI_clamp (by omega), e74]
      obtain ⟨k, hk, hk2, hk3⟩ := jnat (hok (j - 1) (by omega)).1
      refine ⟨vp_in_nI (by omega) (by omega), vi_3 (by omega), ?_⟩
      rw [tN_3, show c.1 78 3 = nI (t 0 3) from c3'.2.2.2.2.1, l_cut hk2 (by omega)]
      refine m_through0 (mF_of c1 c3' hp) (mW_of c1 c3' hp).1 (by rw [← tS_eq hp]; exact hk) (Nat.le_refl _) (fun a' hf' => ?_)
      have hl := tg_lt c1 hp k hk
      refine ⟨fun z2 => hgo ⟨⟨q1, q2⟩, fun _ => ?_⟩ a' (hf.tr (hf'.mono pg_sc)), fun z2 => hq a' j (hf.tr (hf'.mono pg_sc)) ⟨by omega, hok, fun _ h => z2 ?_⟩⟩
      · have := (l_eqI (k := tg t k) (by omega)).mp z2
        rw [hk3]; exact this
      · have := h.2 hj0
        rw [hk3] at this
        exact (l_eqI (k := tg t k) (by omega)).mpr this
  · rintro v c ⟨rfl, hf, hok⟩ K
    have e73 : c.1 73 s = nI m := (hf.1 73 s (by unfold Psc; omega)).trans z5
    rw [e73]
    refine ⟨vp_in_nI hs (by omega), fun _ => ⟨vp_in_nI hs (by omega), hq c m hf ⟨Nat.le_refl _, hok, fun h => by omega⟩⟩, fun z => absurd (nI_le (Nat.le_refl _) (by omega)) z⟩
theorem s_judge (i : Nat) : us_judge (J i) (J (i + 1)) := by
  intro N a x hJ
  obtain ⟨t, hC, hX⟩ := id hJ
  have hS := tS_le hC.1
  have hb := t3_le hC.1
  unfold w_UpAndDown_judge
  have no : (¬ ∃ s, s < 4 ∧ x = nI s ∧ 0 < tS t) → w_Model_judge a x (fun r' a2 => (-2 : Int32) = r' ∧ J (i + 1) N a2) := fun h => mm_judge hC (fun s m q1 q2 q3 q4 q5 q6 => absurd ⟨s, q1, q2, q3⟩ h) (fun s q1 q2 q3 _ => absurd ⟨s, q1, q2, q3⟩ h) (fun _ => ⟨rfl, J_sc hJ f0_sc⟩)
  refine x_slotAt (fun s hs e => ⟨fun q => (by cases q), fun q hq => ?_⟩) (fun h => ⟨fun _ => no (fun ⟨s, q1, q2, _⟩ => h s q1 q2), fun q hq => by cases hq⟩)
  cases hq
  refine ⟨⟨s, hs, rfl⟩, x_hasTable hC.1 hC.2.1 (fun hp => t1 ?_) (fun hp => t0 (no (fun ⟨_, _, _, q⟩ => by omega)))⟩
  have same : ∀ s', x = nI s' → s' < 4 → s' = s := fun s' h h2 => (nI_eq (by omega) (by omega)).mp (h.symm.trans e)
  rcases hC.2.2.2.2.2.1 s hs with ⟨z1, z2⟩ | ⟨z1, w, m, hw, hm, z2, z3, z4, z5, z6⟩
  · rw [z1]
    refine t0 (mm_judge hC (fun s' m' q1 q2 q3 q4 q5 q6 => ?_) (fun _ _ _ _ _ => ⟨rfl, J_sc hJ f0_sc⟩) (fun h => absurd ⟨s, hs, e, hp⟩ h))
    rw [same s' q2 q1] at q5
    exact absurd z2 q5
  · rw [z1]
    refine t1 ?_
    have mm : ∀ r, jst t (fun j => a.2.1 74 (60 * s + j)) m r → w_Model_judge a x (fun r' a2 => nI r = r' ∧ J (i + 1) N a2) := fun r hr => mm_judge hC (fun s' m' q1 q2 q3 q4 q5 q6 a' r' hf hr' => by
        rw [same s' q2 q1] at q4 hr'
        have em : m' = m := (nI_eq (by omega) (by omega)).mp (q4.symm.trans z5)
        rw [em] at hr'
        exact ⟨by rw [jst_one hr hr'], J_mk hC hX hf⟩) (fun s' q1 q2 q3 q4 => by
        rw [same s' q2 q1, z3] at q4
        exact absurd q4 (ui_ne1 (by omega))) (fun h => absurd ⟨s, hs, e, hp⟩ h)
    have eS := tS_eq hp
    obtain ⟨f1, f2, f3⟩ := xF_of hC.1 hX.1 hp
    have hW := xW_of hC.1 hC.2.1 hp
    unfold w_UpAndDown_countRight
    refine LW2.up m (fun j d v => v = nI j ∧ (∀ j', j' < j → jok t (fun j => a.2.1 74 (60 * s + j)) j') ∧ (0 < j → ∃ k, k < tS t ∧ (a.2.1 74 (60 * s + (j - 1))).toInt.toNat = k ∧ d = nI (tg t k))) ⟨rfl, fun j' h => by omega, fun h => by omega⟩ ?_ ?_
    · rintro j d v hj ⟨rfl, hok, hd⟩ K hK
      rw [z4]
      have hno : ¬ jok t (fun j => a.2.1 74 (60 * s + j)) j → w_Model_judge a x (fun r' a2 => nI j = r' ∧ J (i + 1) N a2) := fun h => mm j ⟨by omega, hok, fun _ => h⟩
      refine ⟨fun z => absurd z (nI_ge hj (by omega)), fun _ => ?_⟩
      unfold w_Slot_get
      rw [z4, nI_clamp (by omega), z6 j hj]
      refine ⟨fun z => absurd z (nI_pos (by omega)), fun _ => ⟨fun z => absurd z (nI_ge hj (by omega)), fun _ => ⟨fun z => absurd z (nI_ge (by omega) (by omega)), fun _ => ⟨vp_in_nI (by omega) (by omega), fun z => hno (fun h => ?_), fun z => ⟨fun z2 => hno (fun h => ?_), fun z2 => ?_⟩⟩⟩⟩⟩
      · have := Int64.lt_iff_toInt_lt.mp ((lg_cmp_lt _ _).mp z)
        rw [l0_toInt] at this
        have := h.1.1
        dsimp only at this
        omega
      · rw [hC.2.1.2.2.1] at z2
        have := Int64.le_iff_toInt_le.mp ((lg_cmp_ge _ _).mp z2)
        rw [lI_toInt, nI_toInt (by omega)] at this
        have := h.1.2
        dsimp only at this
        omega
      · have b1 : 0 ≤ (a.2.1 74 (60 * s + j)).toInt := by
          rcases Int.lt_or_le (a.2.1 74 (60 * s + j)).toInt 0 with w | w
          · exact absurd ((lg_cmp_lt _ _).mpr (Int64.lt_iff_toInt_lt.mpr (by rw [l0_toInt]; exact w))) z
          · exact w
        have b2 : (a.2.1 74 (60 * s + j)).toInt < (tS t : Int) := by
          rcases Int.lt_or_le (a.2.1 74 (60 * s + j)).toInt (tS t : Int) with w | w
          · exact w
          · refine absurd ((lg_cmp_ge _ _).mpr (Int64.le_iff_toInt_le.mpr ?_)) z2
            rw [hC.2.1.2.2.1, lI_toInt, nI_toInt (by omega)]; exact w
        obtain ⟨k, hk, hk2, hk3⟩ := jnat ⟨b1, b2⟩
        have hgo : jok t (fun j => a.2.1 74 (60 * s + j)) j → w_UpAndDown_countRight_j54 a (62 + 2 * s) (nI j) (a.2.1 74 (60 * s + j)) K (fun r_8 => w_Model_judge a x (fun r' a2 => r_8 = r' ∧ J (i + 1) N a2)) := fun h => by
          unfold w_UpAndDown_countRight_j54
          rw [l_cut hk2 (by omega), hW.2.1]
          refine x_go f1 f3 hW (by omega) (Nat.le_refl _) (hK _ _ ⟨nI_1 j, fun j' hj' => ?_, fun _ => ⟨k, hk, by rw [Nat.add_sub_cancel]; exact hk3, rfl⟩⟩)
          by_cases e : j' = j
          · rw [e]; exact h
          · exact hok j' (by omega)
        refine ⟨fun z3 => hgo ⟨⟨b1, b2⟩, fun w => ?_⟩, fun z3 => ?_⟩
        · have := (nI_leI (b := 0) (by omega) (by omega)).mp z3
          omega
        · have hj0 : 0 < j := by
            rcases Nat.eq_zero_or_pos j with w | w
            · exact absurd (by rw [w]; decide) z3
            · exact w
          obtain ⟨k0, hk0, hk1, hd1⟩ := hd hj0
          have hl := tg_lt hC.1 hp k0 hk0
          rw [hd1]
          refine ⟨fun z4 => hgo ⟨⟨b1, b2⟩, fun _ => ?_⟩, fun z4 => hno (fun h => z4 ?_)⟩
          · have := (l_eqI (k := tg t k0) (by omega)).mp z4
            show _ = ((tg t (a.2.1 74 (60 * s + (j - 1))).toInt.toNat : Nat) : Int)
            rw [hk1]; exact this
          · have := h.2 hj0
            dsimp only at this
            rw [hk1] at this
            exact (l_eqI (k := tg t k0) (by omega)).mpr this
    · rintro d v ⟨rfl, hok, hd⟩ K
      rw [z4]
      exact ⟨fun _ => mm m ⟨Nat.le_refl _, hok, fun h => by omega⟩, fun z => absurd (nI_le (Nat.le_refl _) (by omega)) z⟩
