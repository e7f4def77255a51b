/-! x's figures and words -/
def xF (a : ud_St) (b n : Nat) : Prop := a.1 26 0 = nI b ∧ a.1 26 1 = nI n ∧ a.1 26 2 = nI (b ^ n) ∧ 2 ≤ b ∧ b ≤ 16 ∧ 1 ≤ n ∧ n ≤ 8 ∧ b ^ n ≤ 10000
def xP (a : ud_St) (b n : Nat) : Prop := ∀ i, i ≤ n → a.1 27 i = nI (b ^ i)
/-- the rows made ready, at x -/
def xG1 (a : ud_St) (b n x : Nat) : Prop := a.1 29 x = nI (fDown b n x) ∧ a.1 30 x = nI (fUp b n x) ∧ a.1 31 x = nI (fTurn b n x) ∧ a.1 32 x = nI (fPow 2 b n x % b ^ n) ∧ a.1 33 x = nI (fPow 3 b n x % b ^ n) ∧ a.1 34 x = nI (fPow 1 b n x % b ^ n) ∧ a.1 35 x = nI (fFirst b n x)
def xG (a : ud_St) (b n : Nat) : Prop := ∀ x, x < b ^ n → xG1 a b n x
theorem pow_le_S {b n i : Nat} (hb : 2 ≤ b) (hi : i ≤ n) (hS : b ^ n ≤ 10000) : b ^ i ≤ 10000 := Nat.le_trans (Nat.pow_le_pow_right (by omega) hi) hS
theorem x_power {a : ud_St} {b n i : Nat} {Q : Int32 → Prop} (h : xF a b n) (hp : xP a b n) (hi : i ≤ n) (hQ : Q (nI (b ^ i))) : w_Figures_power a (nI i) Q := by
  unfold w_Figures_power
  have := h.2.2.2.2.2.2.1
  exact ub_atn (by omega) (by omega) (by rw [hp i hi]; exact hQ)
theorem x_figureOf {a : ud_St} {b n x i : Nat} {Q : Int32 → Prop} (h : xF a b n) (hp : xP a b n) (hx : x < 2 ^ 31) (hi : i < n) (hQ : Q (nI (dg b n x i))) : w_Figures_figureOf a (nI x) (nI i) Q := by
  unfold w_Figures_figureOf
  obtain ⟨h1, h2, h3, hb, hb2, hn, hn2, hS⟩ := id h
  rw [h1, h2, ui_pred (by omega : 0 < n), ui_sub (by omega)]
  have hq : 0 < b ^ (n - 1 - i) := Nat.pow_pos (by omega)
  have hq2 := pow_le_S (i := n - 1 - i) hb (by omega) hS
  refine x_power h hp (by omega) (ub_part hx hq (by omega) (ub_over ?_ (by omega) (by omega) hQ))
  exact Nat.lt_of_le_of_lt (Nat.div_le_self _ _) hx
theorem x_leaving {a : ud_St} {b n x c : Nat} {Q : Int32 → Prop} (h : xF a b n) (hx : x < 2 ^ 31) (hc : c < 2 ^ 31) (hQ : Q (nI (fOut b n x c))) : w_Figures_leaving a (nI x) (nI c) Q := by
  unfold w_Figures_leaving
  obtain ⟨h1, h2, h3, hb, hb2, hn, hn2, hS⟩ := id h
  rw [h1, h2]
  refine ⟨fun _ => ?_, fun q => absurd (nI_le (a := 2) hb (by omega)) q⟩
  refine LW4.up n (fun t made place rest i => made = nI (tn b (((dl b n x).drop (n - t)).filter (fun d => d != c))) ∧ place = nI (b ^ (((dl b n x).drop (n - t)).filter (fun d => d != c)).length) ∧ rest = nI (x / b ^ t) ∧ i = nI t) ⟨by rw [Nat.sub_zero, List.drop_of_length_le (by rw [dl_len]; exact Nat.le_refl _)]; rfl, by rw [Nat.sub_zero, List.drop_of_length_le (by rw [dl_len]; exact Nat.le_refl _)]; rfl, by simp, rfl⟩ ?_ ?_
  · rintro t made place rest i ht ⟨rfl, rfl, rfl, rfl⟩ K hK
    have hxt : x / b ^ t < 2 ^ 31 := Nat.lt_of_le_of_lt (Nat.div_le_self _ _) hx
    have e : (dl b n x).drop (n - (t + 1)) = dg b n x (n - (t + 1)) :: (dl b n x).drop (n - t) := by
      rw [List.drop_eq_getElem_cons (by rw [dl_len]; omega), show n - (t + 1) + 1 = n - t by omega]
      congr 1
      simp [dl]
    have ed : x / b ^ t % b = dg b n x (n - (t + 1)) := by
      unfold dg
      rw [show n - 1 - (n - (t + 1)) = t by omega]
    have hdl : dg b n x (n - (t + 1)) < b := dg_lt (by omega)
    have hb0 : ¬ nI b = 0 := nI_ne0 (by omega) (by omega)
    rw [ui_mod hxt (by omega), ui_div hxt (by omega), ed, Nat.div_div_eq_div_mul, ← Nat.pow_succ]
    rw [e] at hK
    refine ⟨fun q => absurd q (nI_ge ht (by omega)), fun _ => ⟨hb0, fun q => ⟨hb0, ?_⟩, fun q => ⟨hb0, ?_⟩⟩⟩
    · have q' := (nI_eq (by omega) hc).mp q
      rw [List.filter_cons_of_neg (by simp [q'])] at hK
      exact hK _ _ _ _ ⟨rfl, rfl, rfl, nI_1 t⟩
    · have q' : dg b n x (n - (t + 1)) ≠ c := fun z => q (by rw [z])
      rw [List.filter_cons_of_pos (by simp [q'])] at hK
      refine hK _ _ _ _ ⟨?_, ?_, rfl, nI_1 t⟩
      · rw [ui_mul, nI_add, tn_cons, Nat.add_comm]
      · rw [ui_mul, List.length_cons, Nat.pow_succ]
  · rintro made place rest i ⟨rfl, rfl, rfl, rfl⟩ K
    rw [Nat.sub_self, List.drop_zero]
    exact ⟨fun _ => hQ, fun q => absurd (nI_le (Nat.le_refl n) (by omega)) q⟩
