/-! rounds, round, on, most, take -/
theorem m_isHome {a : ud_St} {g : Nat → Nat} {S x : Nat} {Q : Int32 → Prop} (hN : mN a g S) (hR : mR a g S) (hx : x < S) (h1 : hb g x = true → Q 1) (h0 : hb g x = false → Q 0) : w_Model_isHome a (nI x) Q := by
  obtain ⟨h2, hS, hg, h85⟩ := id hN
  have hh := (hm_sp hg hx).2.2
  unfold w_Model_isHome
  rw [nI_clamp (by omega), (hR x hx).2.1]
  refine ⟨vp_in_nI (by omega) (by omega), fun z => h1 (hb_t.mpr ((nI_eq (by omega) (by omega)).mp z)), fun z => h0 ((hb_iff 0).mpr (fun w => z (by rw [w])))⟩
theorem m_manyRounds {a : ud_St} {g : Nat → Nat} {S : Nat} {Q : Int32 → Prop} (hN : mN a g S) (hR : mR a g S) (hQ : Q (nI (rk g S))) : w_Model_manyRounds a Q := by
  obtain ⟨h2, hS, hg, h85⟩ := id hN
  unfold w_Model_manyRounds
  simp only [tN_2, h2]
  refine LW2.up S (fun n c x => c = nI (rk g n) ∧ x = nI n) ⟨rfl, rfl⟩ ?_ ?_
  · rintro n c x hn ⟨rfl, rfl⟩ K hK
    exact ⟨vi_2 (by omega), fun z => absurd z (nI_ge hn (by omega)), fun _ => m_isHome hN hR hn (fun z => t1 (hK _ _ ⟨ct_y z, nI_1 n⟩)) (fun z => t0 (hK _ _ ⟨ct_n z, nI_1 n⟩))⟩
  · rintro c x ⟨rfl, rfl⟩ K
    exact ⟨vi_2 (by omega), fun _ => hQ, fun z => absurd (nI_le (Nat.le_refl S) (by omega)) z⟩
/-- z is the least number on the first longest round ahead of t -/
def bH (g : Nat → Nat) (t z : Nat) : Prop := z < t ∧ hb g z = true ∧ (∀ u, u < t → hb g u = true → ln g u ≤ ln g z) ∧ ∀ u, u < z → hb g u = true → ln g u < ln g z
theorem bH_one {g : Nat → Nat} {t y z : Nat} (hy : bH g t y) (hz : bH g t z) : y = z := by
  rcases Nat.lt_trichotomy y z with w | w | w
  · have a1 := hz.2.2.2 y w hy.2.1
    have a2 := hy.2.2.1 z hz.1 hz.2.1
    omega
  · exact w
  · have a1 := hy.2.2.2 z w hz.2.1
    have a2 := hz.2.2.1 y hy.1 hy.2.1
    omega
theorem bR_H {g : Nat → Nat} {S : Nat} {l h : Int32} (hg : ∀ x, x < S → g x < S) (hS : 0 < S) (hb' : bR g S l h) : ∃ z, bH g S z ∧ l = nI (ln g z) ∧ h = nI z := by
  rcases hb' with ⟨q, -⟩ | ⟨z, z1, z2, z3, z4, z5, z6⟩
  · have := q _ (hm_sp hg hS).2.2
    rw [hb_hm hg hS] at this
    cases this
  · exact ⟨z, ⟨z1, z2, z3, z4⟩, z5, z6⟩
theorem m_longest {a : ud_St} {g : Nat → Nat} {S : Nat} {Q : Int32 → Prop} (hN : mN a g S) (hR : mR a g S) (hS0 : 0 < S) (hQ : ∀ z, bH g S z → Q (nI z)) : w_Model_longest a Q := by
  obtain ⟨h2, hS, hg, h85⟩ := id hN
  unfold w_Model_longest
  simp only [tN_2, h2]
  refine LW2.up S (fun n c x => x = nI n ∧ ((c = nI 0 ∧ ∀ u, u < n → hb g u = false) ∨ ∃ z, c = nI z ∧ bH g n z)) ⟨rfl, Or.inl ⟨rfl, fun u hu => by omega⟩⟩ ?_ ?_
  · rintro n c x hn ⟨rfl, hc⟩ K hK
    refine ⟨vi_2 (by omega), fun z => absurd z (nI_ge hn (by omega)), fun _ => m_isHome hN hR hn (fun hbn => t1 ?_) (fun hbn => t0 (hK _ _ ⟨nI_1 n, ?_⟩))⟩
    · rcases hc with ⟨rfl, hu⟩ | ⟨z, rfl, hz⟩
      · have new : bH g (n + 1) n := by
          refine ⟨by omega, hbn, fun u hu2 hbu => ?_, fun u hu2 hbu => ?_⟩
          · by_cases e : u = n
            · rw [e]; exact Nat.le_refl _
            · rw [hu u (by omega)] at hbu; cases hbu
          · rw [hu u hu2] at hbu; cases hbu
        refine m_isHome hN hR hS0 (fun hb0 => t1 ?_) (fun hb0 => t0 (hK _ _ ⟨nI_1 n, Or.inr ⟨n, rfl, new⟩⟩))
        have hn0 : n = 0 := by
          rcases Nat.eq_zero_or_pos n with w | w
          · exact w
          · rw [hu 0 w] at hb0; cases hb0
        subst hn0
        refine ⟨vp_in_nI (by omega) (by omega), vp_in_nI (by omega) (by omega), fun _ => hK _ _ ⟨nI_1 0, Or.inr ⟨0, rfl, new⟩⟩, fun _ => hK _ _ ⟨nI_1 0, Or.inr ⟨0, rfl, new⟩⟩⟩
      · refine m_isHome hN hR (by have := hz.1; omega) (fun _ => t1 ?_) (fun hb0 => by rw [hz.2.1] at hb0; cases hb0)
        have hpn := hb_per hg hn hbn
        have hpz := hb_per hg (by have := hz.1; omega) hz.2.1
        have l1 := ln_le hg hn hpn
        have l2 := ln_le hg (by have := hz.1; omega) hpz
        have hz1 := hz.1
        rw [nI_clamp (by omega), nI_clamp (by omega), (hR n hn).2.2.1 hpn, (hR z (by omega)).2.2.1 hpz]
        refine ⟨vp_in_nI (by omega) (by omega), vp_in_nI (by omega) (by omega), fun w => hK _ _ ⟨nI_1 n, Or.inr ⟨z, rfl, by omega, hz.2.1, fun u hu hbu => ?_, hz.2.2.2⟩⟩, fun w => hK _ _ ⟨nI_1 n, Or.inr ⟨n, rfl, by omega, hbn, fun u hu hbu => ?_, fun u hu hbu => ?_⟩⟩⟩
        · by_cases e : u = n
          · rw [e]; exact (nI_leI (by omega) (by omega)).mp w
          · exact hz.2.2.1 u (by omega) hbu
        · have w' := (ui_ltn (by omega) (by omega)).mp w
          by_cases e : u = n
          · rw [e]; exact Nat.le_refl _
          · have := hz.2.2.1 u (by omega) hbu; omega
        · have w' := (ui_ltn (by omega) (by omega)).mp w
          have := hz.2.2.1 u hu hbu; omega
    · rcases hc with ⟨rfl, hu⟩ | ⟨z, rfl, hz⟩
      · refine Or.inl ⟨rfl, fun u hu2 => ?_⟩
        by_cases e : u = n
        · rw [e]; exact hbn
        · exact hu u (by omega)
      · refine Or.inr ⟨z, rfl, by have := hz.1; omega, hz.2.1, fun u hu hbu => ?_, hz.2.2.2⟩
        by_cases e : u = n
        · rw [e, hbn] at hbu; cases hbu
        · exact hz.2.2.1 u (by omega) hbu
  · rintro c x ⟨rfl, hc⟩ K
    refine ⟨vi_2 (by omega), fun _ => ?_, fun z => absurd (nI_le (Nat.le_refl S) (by omega)) z⟩
    rcases hc with ⟨-, hu⟩ | ⟨z, rfl, hz⟩
    · have := hu _ (hm_sp hg hS0).2.2
      rw [hb_hm hg hS0] at this
      cases this
    · exact hQ z hz
theorem rs_ct {g : Nat → Nat} {S : Nat} (hg : ∀ x, x < S → g x < S) : rs g S = fb_ct (fun z => decide (g z = z)) S := by
  unfold rs
  refine fb_ct_cong (fun z hz => ?_)
  have e : (hb g z = true ∧ ln g z = 1) ↔ g z = z := by
    constructor
    · rintro ⟨h1, h2⟩
      have := (ln_sp (hb_per hg hz h1)).2.1
      rw [h2] at this
      exact this
    · intro h
      have hp : per g z := ⟨1, by omega, h⟩
      have hall : ∀ k, itr g k z = z := fun k => by
        induction k with
        | zero => rfl
        | succ k ih => rw [itr_s, ih, h]
      refine ⟨hb_t.mpr ?_, ?_⟩
      · obtain ⟨k, hk⟩ := (hm_sp hg hz).2.1
        rw [← hk, hall]
      · exact mn_eq (p := fun k => 0 < k ∧ itr g k z = z) ⟨by omega, h⟩ (fun m hm q => by omega)
  by_cases h : g z = z
  · rw [decide_eq_true h, @decide_eq_true _ (Classical.propDecidable _) (e.mpr h)]
  · rw [decide_eq_false h, @decide_eq_false _ (Classical.propDecidable _) (fun q => h (e.mp q))]
theorem mm_rounds {N : Nat} {a : ud_St} {x : Int32} {t : TD} {Q : Int32 → ud_St → Prop} (hC : JC N a t) (h1 : 0 < tS t → ∀ w z, w < 4 → x = nI w → bH (tg t) (tS t) z → ∀ a', fr Psc a a' → Q (nI (if w = 0 then rk (tg t) (tS t) else if w = 1 then rs (tg t) (tS t) else if w = 2 then ln (tg t) z else z)) a') (h0 : (¬ (0 < tS t ∧ ∃ w, w < 4 ∧ x = nI w)) → Q (-2) (a71 a)) : w_Model_rounds a x Q := by
  obtain ⟨c1, c2, c3, -⟩ := JC_sc hC f0_sc
  have hS := tS_le c1
  unfold w_Model_rounds
  refine m_isTable c1 c3 (fun hp => t1 (m_in0 4 (by omega) (by decide) (fun w hw e => t1 ?_) (fun h => t0 (h0 (fun ⟨_, w, q1, q2⟩ => h w q1 q2))))) (fun h => t0 (h0 (fun q => by omega)))
  have hg := tg_lt hC.1 hp
  refine mm_all hC hp (fun a2 hf hN hR hF => ?_)
  have hq := fun z hz => h1 hp w z hw e hz a2 hf
  rw [e]
  have hex : ∃ z, bH (tg t) (tS t) z := by
    refine Classical.byContradiction fun hno => ?_
    have : w_Model_longest a2 (fun _ => False) := m_longest hN hR hp (fun z hz => absurd ⟨z, hz⟩ hno)
    unfold w_Model_longest at this
    obtain ⟨I, μ, i0, hI⟩ := this
    have key : ∀ n y0 y1, μ y0 y1 < n → I y0 y1 → False := by
      intro n
      induction n with
      | zero => intro _ _ h _; omega
      | succ n ih =>
        intro y0 y1 hm hi
        have hh := (hI y0 y1 hi).2
        by_cases c : a2.1 78 (Int32.toNatClampNeg 2) ≤ y1
        · exact hh.1 c
        · have h3 := hh.2 c
          unfold w_Model_isHome at h3
          by_cases d : a2.1 87 y1.toNatClampNeg = y1
          · have h4 := (h3.2.1 d).2 (by decide)
            by_cases d2 : a2.1 87 y0.toNatClampNeg = y0
            · have h5 := ((h4.2.1 d2).2 (by decide)).2.2
              by_cases d3 : a2.1 88 y1.toNatClampNeg ≤ a2.1 88 y0.toNatClampNeg
              · have := h5.1 d3; exact ih _ _ (by omega) this.1
              · have := h5.2 d3; exact ih _ _ (by omega) this.1
            · have := (h4.2.2 d2).1 rfl; exact ih _ _ (by omega) this.1
          · have := (h3.2.2 d).1 rfl; exact ih _ _ (by omega) this.1
    exact key _ _ _ (Nat.lt_succ_self _) i0
  obtain ⟨z0, hz0⟩ := hex
  have hz01 := hz0.1
  have hbz := hb_per hg hz01 hz0.2.1
  rcases (show w = 0 ∨ w = 1 ∨ w = 2 ∨ w = 3 by omega) with rfl | rfl | rfl | rfl
  · exact ⟨fun _ => m_manyRounds hN hR (hq z0 hz0), fun z => absurd rfl z⟩
  · refine ⟨fun z => absurd z (by decide), fun _ => ⟨fun _ => ?_, fun z => absurd (by decide) z⟩⟩
    have hq1 := hq z0 hz0
    simp only [tN_2, hN.1]
    rw [rs_ct hg] at hq1
    refine LW2.up (tS t) (fun n c x => c = nI (fb_ct (fun z => decide (tg t z = z)) n) ∧ x = nI n) ⟨rfl, rfl⟩ ?_ ?_
    · rintro n c x hn ⟨rfl, rfl⟩ K hK
      have hgn := hg n hn
      rw [nI_clamp (by omega), hN.2.2.2 n hn]
      exact ⟨vi_2 (by omega), fun z => absurd z (nI_ge hn (by omega)), fun _ => ⟨vp_in_nI (by omega) (by omega), fun z => hK _ _ ⟨ct_y (decide_eq_true ((nI_eq (by omega) (by omega)).mp z)), nI_1 n⟩, fun z => hK _ _ ⟨ct_n (decide_eq_false (fun w => z (by rw [w]))), nI_1 n⟩⟩⟩
    · rintro c x ⟨rfl, rfl⟩ K
      exact ⟨vi_2 (by omega), fun _ => hq1, fun z => absurd (nI_le (Nat.le_refl _) (by omega)) z⟩
  · refine ⟨fun z => absurd z (by decide), fun _ => ⟨fun z => absurd z (by decide), fun _ => ⟨fun _ => m_longest hN hR hp (fun z hz => ⟨vp_in_nI (by have := hz.1; omega) (by omega), ?_⟩), fun z => absurd rfl z⟩⟩⟩
    have := hz.1
    rw [nI_clamp (by omega), (hR z hz.1).2.2.1 (hb_per hg hz.1 hz.2.1)]
    exact hq z hz
  · exact ⟨fun z => absurd z (by decide), fun _ => ⟨fun z => absurd z (by decide), fun _ => ⟨fun z => absurd z (by decide), fun _ => m_longest hN hR hp (fun z hz => hq z hz)⟩⟩⟩
theorem s_rounds (i : Nat) : us_rounds (J i) (J (i + 1)) := by
  intro N a x hJ
  obtain ⟨t, hC, hX⟩ := id hJ
  have hS := tS_le hC.1
  unfold w_UpAndDown_rounds
  have no : (¬ (0 < tS t ∧ ∃ w, w < 4 ∧ x = nI w)) → w_Model_rounds a x (fun r' a2 => (-2 : Int32) = r' ∧ J (i + 1) N a2) := fun h => mm_rounds hC (fun hp w z hw e _ => absurd ⟨hp, w, hw, e⟩ h) (fun _ => ⟨rfl, J_sc hJ f0_sc⟩)
  refine x_hasTable hC.1 hC.2.1 (fun hp => t1 ?_) (fun hp => t0 (no (fun q => by omega)))
  have no2 : (∀ n, n < 3 + 1 → x ≠ nI n) → w_Model_rounds a x (fun r' a2 => (-2 : Int32) = r' ∧ J (i + 1) N a2) := fun h => no (fun ⟨_, n, q1, q2⟩ => h n q1 q2)
  refine ar_le 3 (by omega) no2 no2 (fun w hw e => ?_)
  subst e
  have hg := tg_lt hC.1 hp
  refine x_known hC hX hp (fun a1 hf hR hI hC1 hX1 => ?_)
  obtain ⟨r1, r2, r3, r4, r5, r6, r7⟩ := hR
  obtain ⟨z, hz, e1, e2⟩ := bR_H hg hp r6
  rw [r4, r5, e1, e2]
  have fin : ∀ v, v = nI (if w = 0 then rk (tg t) (tS t) else if w = 1 then rs (tg t) (tS t) else if w = 2 then ln (tg t) z else z) → w_Model_rounds a1 (nI w) (fun r' a2 => v = r' ∧ J (i + 1) N a2) := fun v hv => mm_rounds hC1 (fun _ w' z' hw' e' hz' a2 hf2 => ⟨by rw [hv, (nI_eq (by omega) (by omega)).mp e', bH_one hz hz'], J_mk hC1 hX1 hf2⟩) (fun h => absurd ⟨hp, w, hw, rfl⟩ h)
  rcases (show w = 0 ∨ w = 1 ∨ w = 2 ∨ w = 3 by omega) with rfl | rfl | rfl | rfl
  · exact ⟨fun _ => fin _ rfl, fun z => absurd rfl z⟩
  · exact ⟨fun z => absurd z (by decide), fun _ => ⟨fun _ => fin _ rfl, fun z => absurd rfl z⟩⟩
  · exact ⟨fun z => absurd z (by decide), fun _ => ⟨fun z => absurd z (by decide), fun _ => ⟨fun _ => fin _ rfl, fun z => absurd rfl z⟩⟩⟩
  · exact ⟨fun z => absurd z (by decide), fun _ => ⟨fun z => absurd z (by decide), fun _ => ⟨fun z => absurd z (by decide), fun _ => fin _ rfl⟩⟩⟩
