/-! fewest -/
def srd (t : TD) (c p n : Nat) : Prop := ∃ d, (∃ y, y < tS t ∧ cb t c n y) ∧ ∀ y, y < tS t → cb t c n y → dg (t 0 0) (t 0 1) y p = d
def few (t : TD) (c p : Nat) (r : Int32) : Prop := (∃ n, n < 201 ∧ r = nI n ∧ srd t c p n ∧ ∀ m, m < n → ¬ srd t c p m) ∨ (r = -1 ∧ ∀ n, n < 201 → ¬ srd t c p n)
theorem few_one {t : TD} {c p : Nat} {r r2 : Int32} (h : few t c p r) (h2 : few t c p r2) : r = r2 := by
  rcases h with ⟨n, d1, e, q1, q2⟩ | ⟨e, q⟩ <;> rcases h2 with ⟨g, d2, e2, w1, w2⟩ | ⟨e2, w⟩
  · rcases Nat.lt_trichotomy n g with z | z | z
    · exact absurd q1 (w2 n z)
    · rw [e, e2, z]
    · exact absurd w1 (q2 g z)
  · exact absurd q1 (w n d1)
  · exact absurd w1 (q g d2)
  · rw [e, e2]
theorem sur_s {t : TD} {c p n : Nat} {r : Int32} {A B : Prop} (hb : 0 < t 0 0) (hb2 : t 0 0 ≤ 16) (h : sur (cb t c n) (tS t) (fun y => dg (t 0 0) (t 0 1) y p) r) (h0 : ¬ srd t c p n → A) (h1 : srd t c p n → B) : (r = -1 → A) ∧ (¬ r = -1 → B) := by
  rcases h with ⟨d, e, ⟨y, q1, q2⟩, q3⟩ | ⟨e, q⟩
  · have e1 : dg (t 0 0) (t 0 1) y p = d := q3 y q1 q2
    have : dg (t 0 0) (t 0 1) y p < t 0 0 := dg_lt hb
    refine ⟨fun z => ?_, fun _ => h1 ⟨d, ⟨y, q1, q2⟩, q3⟩⟩
    rw [e] at z
    exact absurd z (ui_ne1 (by omega))
  · exact ⟨fun _ => h0 q, fun z => absurd e z⟩
theorem mm_fewest {N : Nat} {a : ud_St} {x z : Int32} {t : TD} {Q : Int32 → ud_St → Prop} (hC : JC N a t) (h1 : ∀ c p, c < 4 → p < t 0 1 → 0 < tS t → x = nI c → z = nI p → ∀ a' r, fr Psc a a' → few t c p r → Q r a') (h0 : (¬ ∃ c p, c < 4 ∧ p < t 0 1 ∧ 0 < tS t ∧ x = nI c ∧ z = nI p) → Q (-2) (a71 a)) : w_Model_fewest a x z Q := by
  obtain ⟨c1, c2, c3, -⟩ := JC_sc hC f0_sc
  have hb := t3_le c1
  unfold w_Model_fewest
  simp only [tN_1, show (ud_sv a 71 0 0).1 78 1 = nI (t 0 1) from c3.2.2.1]
  refine m_isCrowd (y := 0) c1 c3 (fun c n hc _ hp e _ => t1 ⟨vi_1 (by omega), m_in0 (t 0 1) (by omega) (hi_B (by omega)) (fun p hpl e3 => t1 ?_) (fun h => t0 (h0 (fun ⟨_, p, _, q1, _, _, q2⟩ => h p q1 q2)))⟩) (fun h => t0 (h0 (fun ⟨c, p, q1, q3, q4, q5, q7⟩ => h ⟨c, 0, q1, by omega, q4, q5, rfl⟩)))
  have hq := h1 c p hc hpl hp e e3
  have eS := tS_eq hp
  have hF0 := mF_of c1 c3 hp
  obtain ⟨_, _, _, b1, b2, _⟩ := id hF0
  rw [e, e3]
  refine m_behindN (n := 0) hC hp (by omega) (by omega) (fun a1 hf1 hN1 hB1 => ?_)
  refine LW2.up 201 (fun k x b => x = nI k ∧ fr Psc a b ∧ mN b (tg t) (tS t) ∧ mB b (cb t c k) (tS t) ∧ ∀ m, m < k → ¬ srd t c p m) ⟨rfl, hf1, hN1, hB1, fun m hm => by omega⟩ ?_ ?_
  · rintro k x b hk ⟨rfl, hf, hN, hB, hno⟩ K hK
    have hF := mF_of (JC_sc hC hf).1 (JC_sc hC hf).2.2.1 hp
    refine ⟨fun q => ?_, fun _ => ?_⟩
    · have := (nI_ltI (a := 200) (by omega) (by omega)).mp q; omega
    · refine m_sureAt hF (by rw [← eS]; exact hB) hpl (fun b2 r hf2 hr => ?_)
      have hfb2 : fr Psc a b2 := hf.tr (hf2.mono (fun k j q => pg_sc k j (ps_g k j q)))
      have hN2 : mN b2 (tg t) (tS t) := ⟨(hf2.1 78 2 (by unfold Ps; omega)).trans hN.1, hN.2.1, hN.2.2.1, fun x hx => (hf2.1 85 x (by unfold Ps; omega)).trans (hN.2.2.2 x hx)⟩
      have hB2 : mB b2 (cb t c k) (tS t) := fun x hx => by rw [hf2.1 90 x (by unfold Ps; omega)]; exact hB x hx
      rw [← eS] at hr
      refine sur_s (by omega) (by omega) hr (fun w => m_goesN hN2 hB2 (fun b3 hf3 hB3 => hK _ _ ⟨nI_1 k, hfb2.tr (hf3.mono (fun k j q => by unfold Pgo at q; unfold Psc; omega)), ⟨(hf3.1 78 2 (by unfold Pgo; omega)).trans hN2.1, hN2.2.1, hN2.2.2.1, fun x hx => (hf3.1 85 x (by unfold Pgo; omega)).trans (hN2.2.2.2 x hx)⟩, mB_s hN2.2.2.1 rfl hB3, fun m hm => ?_⟩)) (fun w => hq b2 _ hfb2 (Or.inl ⟨k, hk, rfl, w, hno⟩))
      by_cases em : m = k
      · rw [em]; exact w
      · exact hno m (by omega)
  · rintro x b ⟨rfl, hf, hN, hB, hno⟩ K
    exact ⟨fun _ => hq b _ hf (Or.inr ⟨rfl, hno⟩), fun q => absurd (nI_lt (a := 200) (by omega) (by omega)) q⟩
theorem s_fewest (i : Nat) (hi : i < 512) : us_fewest (J i) (J (i + 1)) := by
  intro N a x z hJ
  obtain ⟨t, hC, hX⟩ := id hJ
  have hS := tS_le hC.1
  have hb := t3_le hC.1
  unfold w_UpAndDown_fewest
  have no : (¬ ∃ c p, c < 4 ∧ p < t 0 1 ∧ 0 < tS t ∧ x = nI c ∧ z = nI p) → w_Model_fewest a x z (fun r' a2 => (-2 : Int32) = r' ∧ J (i + 1) N a2) := fun h => mm_fewest hC (fun c p q1 q2 q3 q4 q5 => absurd ⟨c, p, q1, q2, q3, q4, q5⟩ h) (fun _ => ⟨rfl, J_sc hJ f0_sc⟩)
  refine x_isCrowd hC.1 hC.2.1 (fun c hc hp e => t1 (x_isPlace hC.1 hC.2.1 (fun p hpl e3 => t1 ?_) (fun h => t0 (no (fun ⟨_, p, _, q1, _, _, q2⟩ => h ⟨p, q1, q2⟩))))) (fun h => t0 (no (fun ⟨c, _, q1, _, q2, q3, _⟩ => h ⟨c, q1, q2, q3⟩)))
  subst e e3
  refine x_know hC hX hp (fun a1 mk hmk hK0 => ?_)
  have fin : ∀ b mk' r, xK N b t mk' → mk' ≤ mk + 402 → few t c p r → w_Model_fewest b (nI c) (nI p) (fun r' a2 => r = r' ∧ J (i + 1) N a2) := fun b mk' r hK' hm' hr => by
    refine mm_fewest hK'.1 (fun c' p' q1 q2 q3 q4 q5 a3 r' hf hr' => ⟨?_, t, JC_sc hK'.1 hf, JX_sc (xK_J (i := i + 1) hK' (by omega) (by omega)) (Nat.le_refl _) hf⟩) (fun h => absurd ⟨c, p, hc, hpl, hp, rfl, rfl⟩ h)
    rw [← (nI_eq (by omega) (by omega)).mp q4, ← (nI_eq (by omega) (by omega)).mp q5] at hr'
    exact few_one hr hr'
  refine LW2.up 201 (fun k x b => x = nI k ∧ (∃ mk', xK N b t mk' ∧ mk' ≤ mk + 201 + k ∧ (k = 0 ∨ (b.1 45 3 = nI c ∧ b.1 45 4 = nI (k - 1) ∧ ∃ L0, cH b t c (k - 1) mk' L0))) ∧ (k = 0 → b = a1) ∧ ∀ m, m < k → ¬ srd t c p m) ⟨rfl, ⟨mk, hK0, by omega, Or.inl rfl⟩, fun _ => rfl, fun m hm => by omega⟩ ?_ ?_
  · rintro k x b hk ⟨rfl, ⟨mk0, hK, hmk0, hcur⟩, hb1, hno⟩ K hKK
    refine ⟨fun q => ?_, fun _ => ?_⟩
    · have := (nI_ltI (a := 200) (by omega) (by omega)).mp q; omega
    · have hmb : k = 0 → mk0 ≤ mk := fun e => by
        have eb := hb1 e
        subst eb
        have e1 := hK.2.2.2.2.1.1
        have e2 := hK0.2.2.2.2.1.1
        rw [e1] at e2
        have := (nI_eq (by omega) (by omega)).mp e2
        omega
      refine x_crowd hK hp hc (by omega) (by omega) (fun b2 mk' L hK' m1 m2 hcH h3 h4 => ?_)
      have hbd : mk' ≤ mk + 202 + k := by
        rcases hcur with w | ⟨w1, w2, L0, w3⟩
        · have := hmb w; omega
        · have := m2 (k - 1) L0 w1 w2 (by omega) w3
          by_cases ek : k = 0
          · have := hmb ek; omega
          · omega
      obtain ⟨f1, f2, f3⟩ := xF_of hK'.1.1 hK'.2.1 hp
      refine x_sureFigure f1 f2 hS hcH.1 hcH.2.1 hpl (fun r hr => ?_)
      refine sur_s (by have := f1.2.2.2.1; omega) (by omega) hr (fun w => ?_) (fun w => fin b2 mk' _ hK' (by omega) (Or.inl ⟨k, hk, rfl, w, hno⟩))
      have hno' : ∀ m, m < k + 1 → ¬ srd t c p m := fun m hm => by
        by_cases em : m = k
        · rw [em]; exact w
        · exact hno m (by omega)
      refine ⟨fun _ => hKK _ _ ⟨nI_1 k, ⟨mk', hK', by omega, Or.inr ⟨h3, h4, L, hcH⟩⟩, fun q => by omega, hno'⟩, fun q => fin b2 mk' _ hK' (by omega) (Or.inr ⟨rfl, fun n hn hs => ?_⟩)⟩
      rcases hcH.2.2 with w2 | w2
      · exact q w2
      · rcases Nat.lt_or_ge n k with w3 | w3
        · exact hno n w3 hs
        · obtain ⟨d, ⟨y, y1, y2⟩, y3⟩ := hs
          exact w ⟨d, ⟨y, y1, (w2 n w3 y).mp y2⟩, fun u u1 u2 => y3 u u1 ((w2 n w3 u).mpr u2)⟩
  · rintro x b ⟨rfl, ⟨mk0, hK, hmk0, hcur⟩, hb1, hno⟩ K
    exact ⟨fun _ => fin b mk0 _ hK (by omega) (Or.inr ⟨rfl, hno⟩), fun q => absurd (nI_lt (a := 200) (by omega) (by omega)) q⟩
