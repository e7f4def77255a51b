/-! slots: row, write, paste, count -/
/-- changed in slot s alone: x's cells 62 + 2 s and the next, the model's 72, 73 at s and 74 from 60 s on, its 75 -/
theorem J_slot {i N : Nat} {a a' : ud_St} {t : TD} (hC : JC N a t) (hX : JX i a t) (e : ∀ k j, ¬ (62 ≤ k ∧ k ≤ 69) → k ≠ 72 → k ≠ 73 → ¬ (k = 71 ∧ j = 0) → a'.1 k j = a.1 k j) (e2 : a'.2.2 = a.2.2) (hS : JS a') : J (i + 1) N a' := by
  refine ⟨t, JC_g hC (fun k j q => e k j (by unfold coreT at q; omega) (by unfold coreT at q; omega) (by unfold coreT at q; omega) (by unfold coreT at q; omega)) e2 (JT_c hC.2.2.2.1 (e _ _ (by omega) (by omega) (by omega) (by omega)) (fun j => e _ _ (by omega) (by omega) (by omega) (by omega)) (e _ _ (by omega) (by omega) (by omega) (by omega)) (fun j => e _ _ (by omega) (by omega) (by omega) (by omega))) ?_ hS, JX_e hX (fun k j _ _ => e k j (by omega) (by omega) (by omega) (by omega))⟩
  refine ⟨?_, ?_⟩
  · rw [e 3 6 (by omega) (by omega) (by omega) (by omega), e 71 14 (by omega) (by omega) (by omega) (by omega)]; exact hC.2.2.2.2.1.1
  · rw [e 3 7 (by omega) (by omega) (by omega) (by omega), e 71 15 (by omega) (by omega) (by omega) (by omega)]; exact hC.2.2.2.2.1.2
theorem x_begin {a : ud_St} {q : Nat} {v w : Int32} {Q : ud_St → Prop} (hQ : ∀ a', a'.1 = (ud_sv (ud_sv (ud_sv a q 1 1) q 2 v) q 3 w).1 → a'.2.2 = a.2.2 → (∀ k j, k ≠ q + 1 → a'.2.1 k j = a.2.1 k j) → (∀ j, j < 60 → a'.2.1 (q + 1) j = 0) → Q a') : w_Slot_begin a q v w Q := by
  unfold w_Slot_begin
  refine LW2.up 60 (fun t x b => x = nI t ∧ b.1 = (ud_sv (ud_sv (ud_sv a q 1 1) q 2 v) q 3 w).1 ∧ b.2.2 = a.2.2 ∧ (∀ k j, k ≠ q + 1 → b.2.1 k j = a.2.1 k j) ∧ ∀ j, j < t → b.2.1 (q + 1) j = 0) ⟨rfl, rfl, rfl, fun _ _ _ => rfl, fun j hj => by omega⟩ ?_ ?_
  · rintro t x b ht ⟨rfl, h1, h2, h3, h4⟩ K hK
    refine ⟨fun z => absurd z (nI_ge ht (by omega)), fun _ => ⟨vp_in_nI ht (by omega), hK _ _ ⟨nI_1 t, h1, h2, fun k j hk => ?_, fun j hj => ?_⟩⟩⟩
    · rw [us_l2, if_neg (fun z => hk z.1)]; exact h3 k j hk
    · rw [us_l2, nI_clamp (by omega)]
      by_cases e : j = t
      · rw [if_pos ⟨rfl, e⟩]
      · rw [if_neg (fun z => e z.2)]; exact h4 j (by omega)
  · rintro x b ⟨rfl, h1, h2, h3, h4⟩ K
    exact ⟨fun _ => hQ b h1 h2 h3 h4, fun z => absurd (nI_le (Nat.le_refl 60) (by omega)) z⟩
theorem s60 (s k : Nat) : (60 : Int32) * nI s + nI k = nI (60 * s + k) := by rw [show (60 : Int32) * nI s = nI (60 * s) from ui_mul 60 s, nI_add]
theorem mm_row {a : ud_St} {x y z : Int32} {Q : Int32 → ud_St → Prop} (h1 : ∀ s w n, s < 4 → w < 4 → n < 61 → x = nI s → y = nI w → z = nI n → ∀ a', a'.1 = (ud_sv (ud_sv (ud_sv a 71 0 0) 72 s (nI w)) 73 s (nI n)).1 → a'.2.2 = a.2.2 → (∀ k j, ¬ (k = 74 ∧ 60 * s ≤ j ∧ j < 60 * s + 60) → a'.2.1 k j = a.2.1 k j) → (∀ j, j < n → a'.2.1 74 (60 * s + j) = 0) → Q 0 a') (h2 : (¬ ∃ s w, s < 4 ∧ w < 4 ∧ x = nI s ∧ y = nI w ∧ z ≤ 60) → Q (-2) (ud_sv a 71 0 0)) (h3 : (∃ s w, s < 4 ∧ w < 4 ∧ x = nI s ∧ y = nI w ∧ z < 0) → Q (-3) (ud_sv a 71 0 0)) : w_Model_row a x y z Q := by
  unfold w_Model_row
  refine m_isSlot (fun s hs e => t1 (m_in0 4 (by omega) (by decide) (fun w hw e2 => t1 ⟨fun q => ⟨fun q2 => ?_, fun q2 => h3 ⟨s, w, hs, hw, e, e2, Int32.not_le.mp q2⟩⟩, fun q => h2 (fun ⟨_, _, _, _, _, _, q2⟩ => q q2)⟩) (fun h => t0 (h2 (fun ⟨_, w, _, q1, _, q2, _⟩ => h w q1 q2))))) (fun h => t0 (h2 (fun ⟨s, _, q1, _, q2, _⟩ => h s q1 q2)))
  obtain ⟨n, hn, e3⟩ := nI_of (x := z) (Int32.not_lt.mpr q2)
  have hn60 : n < 61 := by
    rw [e3] at q
    have := (nI_leI (b := 60) hn (by omega)).mp q
    omega
  rw [e, e3, e2]
  refine ⟨vp_in_nI hs (by omega), vp_in_nI hs (by omega), ?_⟩
  rw [nI_clamp (by omega)]
  refine LW2.up n (fun t x b => x = nI t ∧ b.1 = (ud_sv (ud_sv (ud_sv a 71 0 0) 72 s (nI w)) 73 s (nI n)).1 ∧ b.2.2 = a.2.2 ∧ (∀ k j, ¬ (k = 74 ∧ 60 * s ≤ j ∧ j < 60 * s + 60) → b.2.1 k j = a.2.1 k j) ∧ ∀ j, j < t → b.2.1 74 (60 * s + j) = 0) ⟨rfl, rfl, rfl, fun _ _ _ => rfl, fun j hj => by omega⟩ ?_ ?_
  · rintro t x b ht ⟨rfl, g1, g2, g3, g4⟩ K hK
    rw [s60]
    refine ⟨fun z => absurd z (nI_ge ht (by omega)), fun _ => ⟨vp_in_nI (by omega) (by omega), hK _ _ ⟨nI_1 t, g1, g2, fun k j hk => ?_, fun j hj => ?_⟩⟩⟩
    · rw [us_l2, nI_clamp (by omega), if_neg (by omega)]; exact g3 k j hk
    · rw [us_l2, nI_clamp (by omega)]
      by_cases e : j = t
      · rw [if_pos ⟨rfl, by omega⟩]
      · rw [if_neg (by omega)]; exact g4 j (by omega)
  · rintro x b ⟨rfl, g1, g2, g3, g4⟩ K
    exact ⟨fun _ => h1 s w n hs hw hn60 e e2 e3 b g1 g2 g3 g4, fun z => absurd (nI_le (Nat.le_refl n) (by omega)) z⟩
theorem s_row (i : Nat) : us_row (J i) (J (i + 1)) := by
  intro N a x y z hJ
  obtain ⟨t, hC, hX⟩ := id hJ
  have hj2 := J_sc hJ f0_sc
  unfold w_UpAndDown_row
  have no : (¬ ∃ s w, s < 4 ∧ w < 4 ∧ x = nI s ∧ y = nI w ∧ z ≤ 60) → w_Model_row a x y z (fun r' a2 => (-2 : Int32) = r' ∧ J (i + 1) N a2) := fun h => mm_row (fun s w n hs hw hn e e2 e3 => absurd ⟨s, w, hs, hw, e, e2, by rw [e3]; exact nI_le (b := 60) (by omega) (by omega)⟩ h) (fun _ => ⟨rfl, hj2⟩) (fun ⟨s, w, hs, hw, e, e2, q⟩ => absurd ⟨s, w, hs, hw, e, e2, by
      rw [Int32.le_iff_toInt_le]
      rw [Int32.lt_iff_toInt_lt] at q
      have e0 : (0 : Int32).toInt = 0 := by decide
      have e6 : (60 : Int32).toInt = 60 := by decide
      omega⟩ h)
  refine x_slotAt (fun s hs e => ⟨fun q => (by cases q), fun q hq => ?_⟩) (fun h => ⟨fun _ => no (fun ⟨s, _, q1, _, q2, _⟩ => h s q1 q2), fun q hq => by cases hq⟩)
  cases hq
  have no2 : (∀ k, k < 4 → y ≠ nI k) → w_Model_row a x y z (fun r' a2 => (-2 : Int32) = r' ∧ J (i + 1) N a2) := fun h => no (fun ⟨_, w, _, q1, _, q2, _⟩ => h w q1 q2)
  refine ⟨⟨s, hs, rfl⟩, ar_gt 3 (by omega) no2 no2 (fun w hw e2 => ⟨fun q => ⟨fun q2 => ?_, fun q2 => ?_⟩, fun q => no (fun ⟨_, _, _, _, _, _, z⟩ => q z)⟩)⟩
  · refine x_begin (fun b f1 f2 f3 f4 => mm_row (fun s' w' n hs' hw' hn e' e2' e3 c g1 g2 g3 g4 => ⟨rfl, ?_⟩) (fun h => absurd ⟨s, w, hs, hw, e, e2, q⟩ h) (fun ⟨_, _, _, _, _, _, z⟩ => absurd z (Int32.not_lt.mpr q2)))
    have es : s' = s := (nI_eq (by omega) (by omega)).mp (e'.symm.trans e)
    have ew : w' = w := (nI_eq (by omega) (by omega)).mp (e2'.symm.trans e2)
    subst es ew
    have ec : ∀ k j, c.1 k j = if k = 73 ∧ j = s' then nI n else if k = 72 ∧ j = s' then nI w' else if k = 71 ∧ j = 0 then 0 else if k = 62 + 2 * s' ∧ j = 3 then z else if k = 62 + 2 * s' ∧ j = 2 then y else if k = 62 + 2 * s' ∧ j = 1 then 1 else a.1 k j := fun k j => by
      rw [g1, us_1, us_1, us_1, f1, us_1, us_1, us_1]
    have el : ∀ k j, k ≠ 62 + 2 * s' + 1 → ¬ (k = 74 ∧ 60 * s' ≤ j ∧ j < 60 * s' + 60) → c.2.1 k j = a.2.1 k j := fun k j q1 q2 => (g3 k j q2).trans (f3 k j q1)
    refine J_slot hC hX (fun k j q1 q2 q3 q4 => ?_) (g2.trans f2) (fun s hs => ?_)
    · rw [ec, if_neg (by omega), if_neg (by omega), if_neg (by omega), if_neg (by omega), if_neg (by omega), if_neg (by omega)]
    · by_cases e : s = s'
      · subst e
        refine Or.inr ⟨?_, w', n, hw, by omega, ?_, ?_, ?_, ?_, fun j hj => ?_⟩
        · rw [ec, if_neg (by omega), if_neg (by omega), if_neg (by omega), if_neg (by omega), if_neg (by omega), if_pos ⟨rfl, rfl⟩]
        · rw [ec, if_neg (by omega), if_neg (by omega), if_neg (by omega), if_neg (by omega), if_pos ⟨rfl, rfl⟩]; exact e2
        · rw [ec, if_neg (by omega), if_pos ⟨rfl, rfl⟩]
        · rw [ec, if_neg (by omega), if_neg (by omega), if_neg (by omega), if_pos ⟨rfl, rfl⟩]; exact e3
        · rw [ec, if_pos ⟨rfl, rfl⟩]
        · rw [g4 j hj, g3 _ _ (by omega), f4 j (by omega)]
      · have e1 : ∀ j, c.1 (62 + 2 * s) j = a.1 (62 + 2 * s) j := fun j => by
          rw [ec, if_neg (by omega), if_neg (by omega), if_neg (by omega), if_neg (by omega), if_neg (by omega), if_neg (by omega)]
        have e3 : c.1 72 s = a.1 72 s := by
          rw [ec, if_neg (by omega), if_neg (by omega), if_neg (by omega), if_neg (by omega), if_neg (by omega), if_neg (by omega)]
        have e4 : c.1 73 s = a.1 73 s := by
          rw [ec, if_neg (by omega), if_neg (by omega), if_neg (by omega), if_neg (by omega), if_neg (by omega), if_neg (by omega)]
        rw [e1, e1, e1, e3, e4]
        rcases hC.2.2.2.2.2.1 s hs with q | ⟨q1, w, m, hw, hm, q2, q3, q4, q5, q6⟩
        · exact Or.inl q
        · refine Or.inr ⟨q1, w, m, hw, hm, q2, q3, q4, q5, fun j hj => ?_⟩
          rw [el _ _ (by omega) (by omega), el _ _ (by omega) (by omega)]
          exact q6 j hj
  · have q2' := Int32.not_le.mp q2
    refine mm_row (fun s' w' n hs' hw' hn e' e2' e3 => ?_) (fun h => absurd ⟨s, w, hs, hw, e, e2, q⟩ h) (fun _ => ⟨rfl, hj2⟩)
    rw [e3] at q2'
    exact absurd q2' (nI_pos (by omega))
/-- what is cut to a width -/
def cutw (w : Nat) (v : Int64) : Int64 := match w with
  | 0 => v.toInt32.toInt8.toInt32.toInt64
  | 1 => v.toInt32.toInt16.toInt32.toInt64
  | 2 => v.toInt32.toInt64
  | _ => v
theorem cut_w {w : Nat} {v : Int64} {Q : Int64 → Prop} (hw : w < 4) (h : Q (cutw w v)) : ((nI w = 0 → Q (Int32.toInt64 (Int8.toInt32 (Int32.toInt8 (Int64.toInt32 v))))) ∧ (¬ nI w = 0 → ((nI w = 1 → Q (Int32.toInt64 (Int16.toInt32 (Int32.toInt16 (Int64.toInt32 v))))) ∧ (¬ nI w = 1 → ((nI w = 2 → Q (Int32.toInt64 (Int64.toInt32 v))) ∧ (¬ nI w = 2 → Q v)))))) := by
  rcases (show w = 0 ∨ w = 1 ∨ w = 2 ∨ w = 3 by omega) with rfl | rfl | rfl | rfl
  · exact ⟨fun _ => h, fun q => absurd rfl q⟩
  · exact ⟨fun q => absurd q (by decide), fun _ => ⟨fun _ => h, fun q => absurd rfl q⟩⟩
  · exact ⟨fun q => absurd q (by decide), fun _ => ⟨fun q => absurd q (by decide), fun _ => ⟨fun _ => h, fun q => absurd rfl q⟩⟩⟩
  · exact ⟨fun q => absurd q (by decide), fun _ => ⟨fun q => absurd q (by decide), fun _ => ⟨fun q => absurd q (by decide), fun _ => h⟩⟩⟩
theorem x_cut {a : ud_St} {q w : Nat} {v : Int64} {Q : Int64 → Prop} (h2 : a.1 q 2 = nI w) (hw : w < 4) (h : Q (cutw w v)) : w_Slot_cut a q v Q := by
  unfold w_Slot_cut
  rw [h2]
  exact cut_w (Q := Q) hw h
theorem m_cut {a : ud_St} {w : Nat} {v : Int64} {Q : Int64 → Prop} (hw : w < 4) (h : Q (cutw w v)) : w_Model_cut a v (nI w) Q := by
  unfold w_Model_cut
  exact cut_w (Q := Q) hw h
theorem s_write (i : Nat) : us_write (J i) (J (i + 1)) := by
  intro N a x y v hJ
  obtain ⟨t, hC, hX⟩ := id hJ
  have hj2 := J_sc hJ f0_sc
  have e7 : ∀ k j, ¬ k = 71 → (ud_sv a 71 0 0).1 k j = a.1 k j := fun k j q => by rw [us_1, if_neg (by omega)]
  unfold w_UpAndDown_write
  refine x_slotAt (fun s hs e => ⟨fun q => (by cases q), fun q hq => ?_⟩) (fun h => ⟨fun _ => ?_, fun q hq => by cases hq⟩)
  · cases hq
    refine ⟨⟨s, hs, rfl⟩, ?_⟩
    rcases hC.2.2.2.2.2.1 s hs with ⟨q1, q2⟩ | ⟨q1, w, m, hw, hm, q2, q3, q4, q5, q6⟩
    · rw [q1]
      refine t0 ?_
      unfold w_Model_write
      refine m_isSlot (fun s' hs' e' => t1 ?_) (fun h => absurd e (h s hs))
      rw [e, nI_clamp (by omega), e7 _ _ (by omega), q2]
      exact ⟨vp_in_nI hs (by omega), fun _ => ⟨rfl, hj2⟩, fun z => absurd rfl z⟩
    · rw [q1]
      refine t1 ?_
      have m0 : ∀ {R : Int32 → ud_St → Prop}, ((∀ k, k < m → y ≠ nI k) → R (-7) (ud_sv a 71 0 0)) → (∀ k, k < m → y = nI k → R 0 (ud_sl (ud_sv a 71 0 0) 74 (60 * s + k) (cutw w v))) → w_Model_write a x y v R := by
        intro R r1 r2
        unfold w_Model_write
        refine m_isSlot (fun s' hs' e' => t1 ?_) (fun h => absurd e (h s hs))
        rw [e, nI_clamp (by omega), e7 _ _ (by omega), q3, e7 _ _ (by omega), q5]
        refine ⟨vp_in_nI hs (by omega), fun z => absurd z (ui_ne1 (by omega)), fun _ => ⟨vp_in_nI hs (by omega), m_in0 m (by omega) (hi_B (by omega)) (fun k hk e2 => t1 ⟨vp_in_nI hs (by omega), ?_⟩) (fun h => t0 (r1 h))⟩⟩
        refine m_cut hw ?_
        rw [e2, s60, nI_clamp (by omega)]
        exact ⟨vp_in_nI (by omega) (by omega), r2 k hk e2⟩
      unfold w_Slot_put
      rw [q4]
      have no : (∀ k, k < m → y ≠ nI k) → w_Model_write a x y v (fun r' a2 => (-7 : Int32) = r' ∧ J (i + 1) N a2) := fun h => m0 (fun _ => ⟨rfl, hj2⟩) (fun k hk e2 => absurd e2 (h k hk))
      refine ar_ge (by omega) (fun h => t0 (no h)) (fun h => t0 (no h)) (fun k hk e2 => ⟨fun _ => ?_, fun z => absurd (by rw [e2]; exact nI_lt (by omega) (by omega)) z⟩)
      refine x_cut q2 hw ⟨by rw [e2]; exact vp_in_nI (by omega) (by omega), t1 ?_⟩
      rw [e2, nI_clamp (by omega), ← e2]
      -- the model over the changed state
      have m1 : w_Model_write (ud_sl a (62 + 2 * s + 1) k (cutw w v)) x y v (fun r' a2 => (0 : Int32) = r' ∧ J (i + 1) N a2) := by
        unfold w_Model_write
        have e8 : ∀ k' j, ¬ k' = 71 → (ud_sv (ud_sl a (62 + 2 * s + 1) k (cutw w v)) 71 0 0).1 k' j = a.1 k' j := fun k' j q => by rw [us_1, if_neg (by omega)]; rfl
        refine m_isSlot (fun s' hs' e' => t1 ?_) (fun h => absurd e (h s hs))
        rw [e, nI_clamp (by omega), e8 _ _ (by omega), q3, e8 _ _ (by omega), q5]
        refine ⟨vp_in_nI hs (by omega), fun z => absurd z (ui_ne1 (by omega)), fun _ => ⟨vp_in_nI hs (by omega), m_in0 m (by omega) (hi_B (by omega)) (fun k' hk' e2' => t1 ⟨vp_in_nI hs (by omega), ?_⟩) (fun h => absurd e2 (h k hk))⟩⟩
        refine m_cut hw ?_
        rw [e2, s60, nI_clamp (by omega)]
        refine ⟨vp_in_nI (by omega) (by omega), rfl, ?_⟩
        refine J_slot hC hX (fun k' j z1 z2 z3 z4 => by rw [us_l1, us_1, if_neg z4]; rfl) rfl (fun s2 hs2 => ?_)
        have ec : ∀ k' j, ¬ k' = 71 → (ud_sl (ud_sv (ud_sl a (62 + 2 * s + 1) k (cutw w v)) 71 0 0) 74 (60 * s + k) (cutw w v)).1 k' j = a.1 k' j := fun k' j q => by rw [us_l1]; exact e8 k' j q
        have el : ∀ k' j, (ud_sl (ud_sv (ud_sl a (62 + 2 * s + 1) k (cutw w v)) 71 0 0) 74 (60 * s + k) (cutw w v)).2.1 k' j = if k' = 74 ∧ j = 60 * s + k then cutw w v else if k' = 62 + 2 * s + 1 ∧ j = k then cutw w v else a.2.1 k' j := fun k' j => by rw [us_l2, us_2, us_l2]
        rw [ec _ _ (by omega), ec _ _ (by omega), ec _ _ (by omega), ec _ _ (by omega), ec _ _ (by omega)]
        rcases hC.2.2.2.2.2.1 s2 hs2 with g | ⟨g1, w', m', hw', hm', g2, g3, g4, g5, g6⟩
        · exact Or.inl g
        · refine Or.inr ⟨g1, w', m', hw', hm', g2, g3, g4, g5, fun j hj => ?_⟩
          rw [el, el]
          by_cases e5 : s2 = s ∧ j = k
          · rw [if_neg (by omega), if_pos (by omega), if_pos (by omega)]
          · rw [if_neg (by omega), if_neg (by omega), if_neg (by omega), if_neg (by omega)]
            exact g6 j hj
      exact m1
  · unfold w_Model_write
    exact m_isSlot (fun s hs e => absurd e (h s hs)) (fun _ => t0 ⟨rfl, hj2⟩)
