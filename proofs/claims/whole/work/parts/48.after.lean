/-! after, ends -/
theorem x_tailOf {a : ud_St} {g : Nat → Nat} {S x : Nat} {Q : Int32 → Prop} (h : xR a g S) (hx : x < S) (hQ : Q (nI (tl g x))) : w_Paths_tailOf a (nI x) Q := by
  unfold w_Paths_tailOf
  have := h.1.2.1
  exact ub_atn (by omega) (by omega) (by rw [(h.2.1 x hx).1]; exact hQ)
theorem x_homeOf {a : ud_St} {g : Nat → Nat} {S x : Nat} {Q : Int32 → Prop} (h : xR a g S) (hx : x < S) (hQ : Q (nI (rk g (hm g x)))) : w_Paths_homeOf a (nI x) Q := by
  unfold w_Paths_homeOf
  have := h.1.2.1
  exact ub_atn (by omega) (by omega) (by rw [(h.2.1 x hx).2]; exact hQ)
theorem rk_S {g : Nat → Nat} {S h : Nat} (hh : h < S) (q : hb g h = true) : rk g h < S := Nat.lt_of_lt_of_le (rk_lt hh q) (fb_ct_le _ S)
theorem x_leastOf {a : ud_St} {g : Nat → Nat} {S h : Nat} {Q : Int32 → Prop} (hR : xR a g S) (hh : h < S) (q : hb g h = true) (hQ : Q (nI h)) : w_Paths_leastOf a (nI (rk g h)) Q := by
  unfold w_Paths_leastOf
  have h1 := hR.1.2.1
  have h2 := rk_S hh q
  exact ub_atn (by omega) (by omega) (by rw [hR.2.2.1 h hh q]; exact hQ)
theorem hb_hm {g : Nat → Nat} {S x : Nat} (hg : ∀ x, x < S → g x < S) (hx : x < S) : hb g (hm g x) = true := hb_t.mpr (hm_hm hg hx)
theorem x_lengthOf {a : ud_St} {g : Nat → Nat} {S h : Nat} {Q : Int32 → Prop} (hR : xR a g S) (hh : h < S) (q : hb g h = true) (hQ : Q (nI (ln g h))) : w_Paths_lengthOf a (nI (rk g h)) Q := by
  obtain ⟨h0, hS, hg, h37⟩ := id hR.1
  have hp := hb_per hg hh q
  have hl := ln_sp hp
  have hll := ln_le hg hh hp
  unfold w_Paths_lengthOf
  refine x_leastOf hR hh q (x_nextOf hR.1 hh ?_)
  rw [h0]
  refine LW2.up (ln g h - 1) (fun k c y => c = nI (k + 1) ∧ y = nI (itr g (k + 1) h)) ⟨rfl, rfl⟩ ?_ ?_
  · rintro k c y hk ⟨rfl, rfl⟩ K hK
    have hi := itr_lt hg hh (k + 1)
    refine ⟨fun z => absurd z (nI_ge (by omega) (by omega)), fun _ => ⟨fun z => absurd ((nI_eq (by omega) (by omega)).mp z) (hl.2.2 _ (by omega) (by omega)), fun _ => x_nextOf hR.1 hi (hK _ _ ⟨nI_1 _, by rw [← itr_s (g := g)]⟩)⟩⟩
  · rintro c y ⟨rfl, rfl⟩ K
    have e : ln g h - 1 + 1 = ln g h := by omega
    rw [e, hl.2.1]
    exact ⟨fun _ => hQ, fun _ => ⟨fun _ => hQ, fun z => absurd rfl z⟩⟩
theorem x_walk {a : ud_St} {g : Nat → Nat} {S x m : Nat} {Q : Int32 → Prop} (hN : xN a g S) (hx : x < S) (hm : m ≤ S) (hQ : Q (nI (itr g m x))) : LW2 (fun (x4_5 : Int32) (x5_6 : Int32) (K_3 : Int32 → Int32 → Prop) => ((nI m ≤ x5_6 → Q x4_5) ∧ (¬ nI m ≤ x5_6 → (((a.1 36 0) ≤ x5_6 → Q x4_5) ∧ (¬ (a.1 36 0) ≤ x5_6 → w_Paths_nextOf a x4_5 (fun r_7 => K_3 r_7 (x5_6 + 1))))))) (nI x) (0 : Int32) := by
  obtain ⟨h0, hS, hg, h37⟩ := id hN
  rw [h0]
  refine LW2.up m (fun k y i => y = nI (itr g k x) ∧ i = nI k) ⟨rfl, rfl⟩ ?_ ?_
  · rintro k y i hk ⟨rfl, rfl⟩ K hK
    have hi := itr_lt hg hx k
    exact ⟨fun z => absurd z (nI_ge hk (by omega)), fun _ => ⟨fun z => absurd z (nI_ge (by omega) (by omega)), fun _ => x_nextOf hN hi (hK _ _ ⟨by rw [← itr_s (g := g)], nI_1 k⟩)⟩⟩
  · rintro y i ⟨rfl, rfl⟩ K
    exact ⟨fun _ => hQ, fun z => absurd (nI_le (Nat.le_refl m) (by omega)) z⟩
/-- whole rounds left out -/
theorem itr_cut {g : Nat → Nat} {S x n : Nat} (hg : ∀ x, x < S → g x < S) (hx : x < S) (hn : tl g x ≤ n) : itr g n x = itr g (tl g x + (n - tl g x) % ln g (hm g x)) x ∧ tl g x + (n - tl g x) % ln g (hm g x) < S := by
  have ht := tl_sp hg hx
  have hl := ln_sp ht.1
  have h2 := tl_ln hg hx
  rw [← ln_hm hg hx]
  have hm := Nat.mod_lt (n - tl g x) hl.1
  refine ⟨?_, by omega⟩
  conv => lhs; rw [show n = (n - tl g x) + tl g x by omega, itr_add, itr_ln ht.1, ← itr_add]
  rw [Nat.add_comm]
theorem x_afterGoes {a : ud_St} {g : Nat → Nat} {S x n : Nat} {Q : Int32 → Prop} (hR : xR a g S) (hx : x < S) (hn : n < 2 ^ 31) (hQ : Q (nI (itr g n x))) : w_Paths_afterGoes a (nI x) (nI n) Q := by
  obtain ⟨h0, hS, hg, h37⟩ := id hR.1
  have ht := tl_sp hg hx
  unfold w_Paths_afterGoes
  refine x_tailOf hR hx ⟨fun z => ?_, fun z => x_tailOf hR hx (x_tailOf hR hx (x_homeOf hR hx ?_))⟩
  · have z' := (nI_leI hn (by omega)).mp z
    exact x_walk hR.1 hx (by omega) hQ
  · have z' : tl g x ≤ n := by
      rcases Nat.lt_or_ge n (tl g x) with w | w
      · exact absurd (nI_le (Nat.le_of_lt w) (by omega)) z
      · exact w
    have hhm := (hm_sp hg hx).2.2
    have hl := ln_sp (hm_sp hg hx).1
    have hll := ln_le hg hhm (hm_sp hg hx).1
    refine x_lengthOf hR hhm (hb_hm hg hx) ?_
    rw [ui_sub z']
    refine ub_over (by omega) hl.1 (by omega) ?_
    have hc := itr_cut hg hx z'
    rw [nI_add]
    exact x_walk hR.1 hx (by omega) (by rw [← hc.1]; exact hQ)
theorem m_behind {a : ud_St} {g : Nat → Nat} {S x n : Nat} {Q : Int32 → Prop} (hN : mN a g S) (hx : x < S) (hn : n < 2 ^ 31) (hQ : Q (nI (itr g n x))) : w_Model_behind a (nI x) (nI n) Q := by
  obtain ⟨h0, hS, hg, h85⟩ := id hN
  unfold w_Model_behind
  refine LW2.up n (fun k y i => y = nI (itr g k x) ∧ i = nI k) ⟨rfl, rfl⟩ ?_ ?_
  · rintro k y i hk ⟨rfl, rfl⟩ K hK
    have hi := itr_lt hg hx k
    rw [nI_clamp (by omega), h85 _ hi, ← itr_s (g := g)]
    exact ⟨fun z => absurd z (nI_ge hk hn), fun _ => ⟨vp_in_nI (by omega) (by omega), hK _ _ ⟨rfl, nI_1 k⟩⟩⟩
  · rintro y i ⟨rfl, rfl⟩ K
    exact ⟨fun _ => hQ, fun z => absurd (nI_le (Nat.le_refl n) hn) z⟩
theorem mm_after {N : Nat} {a : ud_St} {x y : Int32} {t : TD} {Q : Int32 → ud_St → Prop} (hC : JC N a t) (h1 : ∀ k n, k < tS t → n < 1000000001 → x = nI k → y = nI n → ∀ a', fr Psc a a' → Q (nI (itr (tg t) n k)) a') (h0 : (¬ ∃ k n, k < tS t ∧ n < 1000000001 ∧ x = nI k ∧ y = nI n) → Q (-2) (a71 a)) : w_Model_after a x y Q := by
  obtain ⟨c1, c2, c3, -⟩ := JC_sc hC f0_sc
  have hS := tS_le c1
  unfold w_Model_after
  refine m_isNumber c3.2.2.2.1 (by omega) (fun k hk e => t1 (m_in0 1000000001 (by omega) (by decide) (fun n hn e2 => t1 ?_) (fun h => t0 (h0 (fun ⟨_, n, _, q1, _, q2⟩ => h n q1 q2))))) (fun h => t0 (h0 (fun ⟨k, _, q1, _, q2, _⟩ => h k q1 q2)))
  have hp : 0 < tS t := by omega
  have hg := tg_lt hC.1 hp
  refine mm_all hC hp (fun a2 hf hN hR hF => ?_)
  have hq := h1 k n hk hn e e2 a2 hf
  have hv : vp_in x 10000 := by rw [e]; exact vp_in_nI (by omega) (by omega)
  have hc : x.toNatClampNeg = k := by rw [e, nI_clamp (by omega)]
  have ht := tl_sp hg hk
  have hh := (hm_sp hg hk).2.2
  obtain ⟨r1, r2, r3, r4⟩ := hR k hk
  have hph := (hm_sp hg hk).1
  have hl := ln_sp hph
  have hll := ln_le hg hh hph
  rw [hc, r1, e, e2, r2, nI_clamp (by omega), (hR _ hh).2.2.1 hph]
  have hv2 : vp_in (nI k) 10000 := vp_in_nI (by omega) (by omega)
  refine ⟨hv2, fun z => ?_, fun z => m_behind hN hk (by omega) hq⟩
  have z' := (nI_ltI (by omega) (by omega)).mp z
  have hc2 := itr_cut hg hk (n := n) (by omega)
  refine ⟨hv2, m_behind hN hk (by omega) ⟨hv2, hv2, vp_in_nI (by omega) (by omega), nI_ne0 hl.1 (by omega), ?_⟩⟩
  rw [ui_sub (by omega), ui_mod (by omega) (by omega)]
  refine m_behind hN (itr_lt hg hk _) (by omega) ?_
  rw [← itr_add, Nat.add_comm, ← hc2.1]
  exact hq
theorem s_after (i : Nat) : us_after (J i) (J (i + 1)) := by
  intro N a x y hJ
  obtain ⟨t, hC, hX⟩ := id hJ
  have hS := tS_le hC.1
  unfold w_UpAndDown_after
  have no : (¬ ∃ k n, k < tS t ∧ n < 1000000001 ∧ x = nI k ∧ y = nI n) → w_Model_after a x y (fun r' a2 => (-2 : Int32) = r' ∧ J (i + 1) N a2) := fun h => mm_after hC (fun k n q1 q2 q3 q4 => absurd ⟨k, n, q1, q2, q3, q4⟩ h) (fun _ => ⟨rfl, J_sc hJ f0_sc⟩)
  refine x_isNumber hC.2.1.2.2.1 (by omega) (fun k hk e => t1 ?_) (fun h => t0 (no (fun ⟨k, _, q1, _, q2, _⟩ => h k q1 q2)))
  have no2 : (∀ n, n < 1000000000 + 1 → y ≠ nI n) → w_Model_after a x y (fun r' a2 => (-2 : Int32) = r' ∧ J (i + 1) N a2) := fun h => no (fun ⟨_, n, _, q1, _, q2⟩ => h n q1 q2)
  refine ar_le 1000000000 (by omega) no2 no2 (fun n hn e2 => ?_)
  subst e e2
  have hp : 0 < tS t := by omega
  refine x_known hC hX hp (fun a1 hf hR hI hC1 hX1 => x_afterGoes hR hk (by omega) (mm_after hC1 (fun k' n' q1 q2 q3 q4 a2 hf2 => ⟨?_, J_mk hC1 hX1 hf2⟩) (fun h => absurd ⟨k, n, hk, hn, rfl, rfl⟩ h)))
  rw [(nI_eq (by omega) (by omega)).mp q3, (nI_eq (by omega) (by omega)).mp q4]
/-- what ends answers -/
noncomputable def endv (g : Nat → Nat) (k w : Nat) : Nat := if w = 0 then tl g k else if w = 1 then ln g (hm g k) else if w = 2 then hm g k else itr g (tl g k) k
theorem mm_ends {N : Nat} {a : ud_St} {x y : Int32} {t : TD} {Q : Int32 → ud_St → Prop} (hC : JC N a t) (h1 : ∀ k w, k < tS t → w < 4 → x = nI k → y = nI w → ∀ a', fr Psc a a' → Q (nI (endv (tg t) k w)) a') (h0 : (¬ ∃ k w, k < tS t ∧ w < 4 ∧ x = nI k ∧ y = nI w) → Q (-2) (a71 a)) : w_Model_ends_ a x y Q := by
  obtain ⟨c1, c2, c3, -⟩ := JC_sc hC f0_sc
  have hS := tS_le c1
  unfold w_Model_ends_
  refine m_isNumber c3.2.2.2.1 (by omega) (fun k hk e => t1 (m_in0 4 (by omega) (by decide) (fun w hw e2 => t1 ?_) (fun h => t0 (h0 (fun ⟨_, w, _, q1, _, q2⟩ => h w q1 q2))))) (fun h => t0 (h0 (fun ⟨k, _, q1, _, q2, _⟩ => h k q1 q2)))
  have hp : 0 < tS t := by omega
  have hg := tg_lt hC.1 hp
  refine mm_all hC hp (fun a2 hf hN hR hF => ?_)
  have hq := h1 k w hk hw e e2 a2 hf
  have ht := tl_sp hg hk
  have hh := (hm_sp hg hk).2.2
  obtain ⟨r1, r2, r3, r4⟩ := hR k hk
  have hph := (hm_sp hg hk).1
  rw [e, nI_clamp (by omega), r1, r2, nI_clamp (by omega), (hR _ hh).2.2.1 hph, e2]
  have hv2 : vp_in (nI k) 10000 := vp_in_nI (by omega) (by omega)
  rcases (show w = 0 ∨ w = 1 ∨ w = 2 ∨ w = 3 by omega) with rfl | rfl | rfl | rfl
  · exact ⟨fun _ => ⟨hv2, hq⟩, fun z => absurd rfl z⟩
  · exact ⟨fun z => absurd z (by decide), fun _ => ⟨fun _ => ⟨hv2, vp_in_nI (by omega) (by omega), hq⟩, fun z => absurd rfl z⟩⟩
  · exact ⟨fun z => absurd z (by decide), fun _ => ⟨fun z => absurd z (by decide), fun _ => ⟨fun _ => ⟨hv2, hq⟩, fun z => absurd rfl z⟩⟩⟩
  · exact ⟨fun z => absurd z (by decide), fun _ => ⟨fun z => absurd z (by decide), fun _ => ⟨fun z => absurd z (by decide), fun _ => ⟨hv2, m_behind hN hk (by omega) hq⟩⟩⟩⟩
theorem s_ends (i : Nat) : us_ends (J i) (J (i + 1)) := by
  intro N a x y hJ
  obtain ⟨t, hC, hX⟩ := id hJ
  have hS := tS_le hC.1
  unfold w_UpAndDown_ends
  have no : (¬ ∃ k w, k < tS t ∧ w < 4 ∧ x = nI k ∧ y = nI w) → w_Model_ends_ a x y (fun r' a2 => (-2 : Int32) = r' ∧ J (i + 1) N a2) := fun h => mm_ends hC (fun k n q1 q2 q3 q4 => absurd ⟨k, n, q1, q2, q3, q4⟩ h) (fun _ => ⟨rfl, J_sc hJ f0_sc⟩)
  refine x_isNumber hC.2.1.2.2.1 (by omega) (fun k hk e => t1 ?_) (fun h => t0 (no (fun ⟨k, _, q1, _, q2, _⟩ => h k q1 q2)))
  have no2 : (∀ n, n < 3 + 1 → y ≠ nI n) → w_Model_ends_ a x y (fun r' a2 => (-2 : Int32) = r' ∧ J (i + 1) N a2) := fun h => no (fun ⟨_, n, _, q1, _, q2⟩ => h n q1 q2)
  refine ar_le 3 (by omega) no2 no2 (fun w hw e2 => ?_)
  subst e e2
  have hp : 0 < tS t := by omega
  have hg := tg_lt hC.1 hp
  refine x_known hC hX hp (fun a1 hf hR hI hC1 hX1 => ?_)
  have hh := (hm_sp hg hk).2.2
  have ht := tl_sp hg hk
  have fin : ∀ v, v = endv (tg t) k w → w_Model_ends_ a1 (nI k) (nI w) (fun r' a2 => nI v = r' ∧ J (i + 1) N a2) := fun v hv => mm_ends hC1 (fun k' n' q1 q2 q3 q4 a2 hf2 => ⟨by rw [hv, (nI_eq (by omega) (by omega)).mp q3, (nI_eq (by omega) (by omega)).mp q4], J_mk hC1 hX1 hf2⟩) (fun h => absurd ⟨k, w, hk, hw, rfl, rfl⟩ h)
  rcases (show w = 0 ∨ w = 1 ∨ w = 2 ∨ w = 3 by omega) with rfl | rfl | rfl | rfl
  · exact ⟨fun _ => x_tailOf hR hk (fin _ rfl), fun z => absurd rfl z⟩
  · exact ⟨fun z => absurd z (by decide), fun _ => ⟨fun _ => x_homeOf hR hk (x_lengthOf hR hh (hb_hm hg hk) (fin _ rfl)), fun z => absurd rfl z⟩⟩
  · exact ⟨fun z => absurd z (by decide), fun _ => ⟨fun z => absurd z (by decide), fun _ => ⟨fun _ => x_homeOf hR hk (x_leastOf hR hh (hb_hm hg hk) (fin _ rfl)), fun z => absurd rfl z⟩⟩⟩
  · exact ⟨fun z => absurd z (by decide), fun _ => ⟨fun z => absurd z (by decide), fun _ => ⟨fun z => absurd z (by decide), fun _ => x_tailOf hR hk (x_afterGoes hR hk (by omega) (fin _ rfl))⟩⟩⟩
