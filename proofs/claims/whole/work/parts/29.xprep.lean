/-! x's figures made ready -/
theorem x_splitFirst {a : ud_St} {b n : Nat} {L : List Nat} {Q : Int32 → Prop} (h : xF a b n) (hl : L.length = n) (hL : ∀ j, j < n → a.1 28 j = nI (L.getD j 0)) (hQ : Q (nI (tn b L))) : w_Figures_splitFromFirst a Q := by
  unfold w_Figures_splitFromFirst
  obtain ⟨h1, h2, h3, hb, hb2, hn, hn2, hS⟩ := id h
  rw [h1, h2]
  refine LW2.up n (fun t v k => v = nI (tn b (L.take t)) ∧ k = nI t) ⟨rfl, rfl⟩ ?_ ?_
  · rintro t v k ht ⟨rfl, rfl⟩ K hK
    refine ⟨fun q => absurd q (nI_ge ht (by omega)), fun _ => ub_atn (by omega) (by omega) ?_⟩
    rw [hL t ht, ui_mul, nI_add]
    exact hK _ _ ⟨by rw [tn_take (by omega)], nI_1 t⟩
  · rintro v k ⟨rfl, rfl⟩ K
    rw [take_all hl]
    exact ⟨fun _ => hQ, fun q => absurd (nI_le (Nat.le_refl n) (by omega)) q⟩
theorem x_splitLast {a : ud_St} {b n : Nat} {L : List Nat} {Q : Int32 → Prop} (h : xF a b n) (hl : L.length = n) (hL : ∀ j, j < n → a.1 28 j = nI (L.getD j 0)) (hQ : Q (nI (tn b L.reverse))) : w_Figures_splitFromLast a Q := by
  unfold w_Figures_splitFromLast
  obtain ⟨h1, h2, h3, hb, hb2, hn, hn2, hS⟩ := id h
  rw [h1, h2]
  refine LW2.up n (fun t v k => v = nI (tn b (L.reverse.take t)) ∧ k = nI (n - t) - 1) ⟨rfl, rfl⟩ ?_ ?_
  · rintro t v k ht ⟨rfl, rfl⟩ K hK
    rw [ui_pred (by omega : 0 < n - t)]
    refine ⟨fun q => absurd q (nI_pos (by omega)), fun _ => ub_atn (by omega) (by omega) ?_⟩
    rw [hL _ (by omega), ui_mul, nI_add, ui_m1]
    exact hK _ _ ⟨by rw [tn_take (by rw [List.length_reverse]; omega), rev_getD hl ht], by rw [Nat.sub_sub]⟩
  · rintro v k ⟨rfl, rfl⟩ K
    rw [take_all (by rw [List.length_reverse, hl]), Nat.sub_self]
    exact ⟨fun _ => hQ, fun q => absurd ui_end q⟩
/-- what making x ready may change -/
def Px (x k j : Nat) : Prop := k = 28 ∨ (29 ≤ k ∧ k ≤ 35 ∧ j = x)
theorem xF.px {a a' : ud_St} {b n x : Nat} (h : xF a b n) (hf : fr (Px x) a a') : xF a' b n := by
  obtain ⟨h1, h2, h3, h4⟩ := h
  exact ⟨(hf.1 26 0 (by unfold Px; omega)).trans h1, (hf.1 26 1 (by unfold Px; omega)).trans h2, (hf.1 26 2 (by unfold Px; omega)).trans h3, h4⟩
theorem xP.px {a a' : ud_St} {b n x : Nat} (h : xP a b n) (hf : fr (Px x) a a') : xP a' b n := fun i hi => (hf.1 27 i (by unfold Px; omega)).trans (h i hi)
theorem dg_0 {b n x : Nat} (hb : 0 < b) (hn : 1 ≤ n) (hx : x < b ^ n) : dg b n x 0 = x / b ^ (n - 1) := by
  unfold dg
  rw [Nat.sub_zero]
  exact Nat.mod_eq_of_lt (by rw [Nat.div_lt_iff_lt_mul (Nat.pow_pos hb), Nat.mul_comm, ← pow_split hn]; exact hx)
theorem x_prepareOne {a : ud_St} {b n x : Nat} {Q : ud_St → Prop} (h : xF a b n) (hp : xP a b n) (hx : x < b ^ n) (hQ : ∀ a', fr (Px x) a a' → xG1 a' b n x → Q a') : w_Figures_prepareOne a (nI x) Q := by
  unfold w_Figures_prepareOne
  obtain ⟨h1, h2, h3, hb, hb2, hn, hn2, hS⟩ := id h
  have hS0 : 0 < b ^ n := Nat.pow_pos (by omega)
  have m28 : ∀ {u v : ud_St}, fr (fun k _ => k = 28) u v → fr (Px x) u v := fun q => q.mono (fun k j z => Or.inl z)
  refine LW5.up n (fun t s1 s2 s3 i a' => s1 = nI (((dl b n x).take t).map (fun d => d ^ 1)).sum ∧ s2 = nI (((dl b n x).take t).map (fun d => d ^ 2)).sum ∧ s3 = nI (((dl b n x).take t).map (fun d => d ^ 3)).sum ∧ i = nI t ∧ fr (fun k _ => k = 28) a a' ∧ ∀ j, j < t → a'.1 28 j = nI (dg b n x j)) ⟨rfl, rfl, rfl, rfl, fr.rf, fun j hj => by omega⟩ ?_ ?_
  · rintro t s1 s2 s3 i a' ht ⟨rfl, rfl, rfl, rfl, hf, hd⟩ K hK
    have hF := h.px (m28 hf)
    rw [hF.2.1]
    refine ⟨fun q => absurd q (nI_ge ht (by omega)), fun _ => x_figureOf hF (hp.px (m28 hf)) (by omega) ht (ub_putn (by omega) (by omega) ?_)⟩
    have e : ∀ p, (((dl b n x).take (t + 1)).map (fun d => d ^ p)).sum = (((dl b n x).take t).map (fun d => d ^ p)).sum + dg b n x t ^ p := fun p => by
      rw [dl_take b n x t ht, List.map_append, List.map_singleton, sum_snoc]
    rw [ui_mul, ui_mul, nI_add, nI_add, nI_add]
    refine hK _ _ _ _ _ ⟨by rw [e, Nat.pow_one], by rw [e, Nat.pow_two], by rw [e, Nat.pow_succ, Nat.pow_two], nI_1 t, hf.sv rfl, fun j hj => ?_⟩
    rw [us_1]
    by_cases hj2 : j = t
    · rw [if_pos ⟨rfl, hj2⟩, hj2]
    · rw [if_neg (fun q => hj2 q.2)]
      exact hd j (by omega)
  · rintro s1 s2 s3 i a1 ⟨rfl, rfl, rfl, rfl, hf, hd⟩ K
    have ef : ∀ p, ((dl b n x).map (fun d => d ^ p)).sum = fPow p b n x := fun _ => rfl
    rw [take_all (dl_len b n x), ef 1, ef 2, ef 3]
    have fx := m28 hf
    have hF := h.px fx
    rw [hF.2.1]
    refine ⟨fun _ => ?_, fun q => absurd (nI_le (Nat.le_refl n) (by omega)) q⟩
    have b1 := fPow_lt (p := 1) (x := x) (by omega : 0 < b) hb2 hn2 (by omega)
    have b2 := fPow_lt (p := 2) (x := x) (by omega : 0 < b) hb2 hn2 (by omega)
    have b3 := fPow_lt (p := 3) (x := x) (by omega : 0 < b) hb2 hn2 (by omega)
    have st : ∀ {u : ud_St} (k : Nat) (v : Int32), fr (Px x) a u → 29 ≤ k → k ≤ 35 → fr (Px x) a (ud_sv u k x v) := fun k v q z1 z2 => q.sv (Or.inr ⟨z1, z2, rfl⟩)
    rw [hF.2.2.1]
    refine ub_over b1 hS0 (by omega) (ub_putn (by omega) (by omega) ?_)
    have f2 := st 34 (nI (fPow 1 b n x % b ^ n)) fx (by omega) (by omega)
    rw [(h.px f2).2.2.1]
    refine ub_over b2 hS0 (by omega) (ub_putn (by omega) (by omega) ?_)
    have f3 := st 32 (nI (fPow 2 b n x % b ^ n)) f2 (by omega) (by omega)
    rw [(h.px f3).2.2.1]
    refine ub_over b3 hS0 (by omega) (ub_putn (by omega) (by omega) ?_)
    have f4 := st 33 (nI (fPow 3 b n x % b ^ n)) f3 (by omega) (by omega)
    have d4 : ∀ j, j < n → (ud_sv (ud_sv (ud_sv a1 34 x (nI (fPow 1 b n x % b ^ n))) 32 x (nI (fPow 2 b n x % b ^ n))) 33 x (nI (fPow 3 b n x % b ^ n))).1 28 j = nI ((dl b n x).getD j 0) := fun j hj => by
      rw [us_1, if_neg (by omega), us_1, if_neg (by omega), us_1, if_neg (by omega), dl_getD hj]
      exact hd j hj
    refine x_splitLast (h.px f4) (dl_len b n x) d4 (ub_putn (by omega) (by omega) ?_)
    have f5 := st 31 (nI (fTurn b n x)) f4 (by omega) (by omega)
    have d5 := fun j (hj : j < n) => d4 j hj
    rw [show tn b (dl b n x).reverse = fTurn b n x from rfl, (h.px f5).2.1, ui_pred (by omega : 0 < n)]
    have hq1 : 0 < b ^ (n - 1) := Nat.pow_pos (by omega)
    have hq2 := pow_le_S (i := n - 1) hb (by omega) hS
    refine x_power (h.px f5) (hp.px f5) (by omega) (ub_over (by omega) hq1 (by omega) ?_)
    refine ub_atn (j := 0) (by omega) (by omega) ?_
    simp only [show ∀ (u : ud_St) (v : Int32), (ud_sv u 31 x v).1 28 0 = u.1 28 0 from fun u v => by rw [us_1, if_neg (by omega)]]
    rw [d4 0 (by omega), dl_getD (by omega), dg_0 (by omega) hn hx, (h.px f5).1, ui_mul, nI_add]
    refine ub_putn (by omega) (by omega) ?_
    have f6 := st 35 (nI (fFirst b n x)) f5 (by omega) (by omega)
    rw [show x % b ^ (n - 1) * b + x / b ^ (n - 1) = fFirst b n x from rfl]
    refine x_sortSplit (D := dl b n x) (dl_len b n x) hn hn2 (h.px f6).2.1 (fun j hj => ?_) (fun d hd2 => by have := dl_lt (by omega) d hd2; omega) (fun a7 hf7 hs7 => ?_)
    · rw [us_1, if_neg (by omega), us_1, if_neg (by omega)]
      exact d4 j hj
    · have f7 := f6.tr (m28 hf7)
      have hl7 : (isr (dl b n x)).length = n := by rw [isr_len, dl_len]
      refine x_splitFirst (h.px f7) hl7 hs7 (ub_putn (by omega) (by omega) ?_)
      have f8 := st 30 (nI (fUp b n x)) f7 (by omega) (by omega)
      rw [show tn b (isr (dl b n x)) = fUp b n x from rfl]
      refine x_splitLast (h.px f8) hl7 (fun j hj => by rw [us_1, if_neg (by omega)]; exact hs7 j hj) (ub_putn (by omega) (by omega) ?_)
      have f9 := st 29 (nI (fDown b n x)) f8 (by omega) (by omega)
      rw [show tn b (isr (dl b n x)).reverse = fDown b n x from rfl]
      refine hQ _ f9 ?_
      have g : ∀ k, k ≠ 28 → a7.1 k x = _ := fun k hk => hf7.1 k x hk
      refine ⟨?_, ?_, ?_, ?_, ?_, ?_, ?_⟩ <;> simp [us_1, g]
