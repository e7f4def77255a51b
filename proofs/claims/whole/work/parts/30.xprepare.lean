/-! x's figures for a base and long -/
def figOK (a : ud_St) (b n : Nat) : Prop := (b = 0 ∧ n = 0 ∧ a.1 26 0 = nI 0 ∧ a.1 26 1 = nI 0 ∧ a.1 26 2 = nI 0) ∨ (xF a b n ∧ xP a b n ∧ xG a b n)
/-- x's figures, all of them -/
def Pf (k _j : Nat) : Prop := 26 ≤ k ∧ k ≤ 35
theorem px_f {x : Nat} : ∀ k j, Px x k j → Pf k j := fun k j h => by unfold Px at h; unfold Pf; omega
theorem x_prep76 {a0 a : ud_St} {x1 x2 x3 : Int32} {b n : Nat} {Q : ud_St → Prop} (h : xF a b n) (hp : xP a b n) (hQ : ∀ a', fr Pf a a' → xF a' b n → xP a' b n → xG a' b n → Q a') : w_Figures_prepare_j76 a0 x1 x2 x3 a 0 Q := by
  unfold w_Figures_prepare_j76
  have hS := h.2.2.2.2.2.2.2
  refine LW2.up (b ^ n) (fun t i a' => i = nI t ∧ fr Pf a a' ∧ xF a' b n ∧ xP a' b n ∧ ∀ x, x < t → xG1 a' b n x) ⟨rfl, fr.rf, h, hp, fun x hx => by omega⟩ ?_ ?_
  · rintro t i a' ht ⟨rfl, hf, hF, hP, hG⟩ K hK
    rw [hF.2.2.1]
    refine ⟨fun q => absurd q (nI_ge ht (by omega)), fun _ => x_prepareOne hF hP ht (fun a2 hf2 hg2 => ?_)⟩
    refine hK _ _ ⟨nI_1 t, hf.tr (hf2.mono px_f), hF.px hf2, hP.px hf2, fun x hx => ?_⟩
    by_cases hxt : x = t
    · rw [hxt]; exact hg2
    · have e : ∀ k, 29 ≤ k → k ≤ 35 → a2.1 k x = a'.1 k x := fun k _ _ => hf2.1 k x (by unfold Px; omega)
      obtain ⟨g1, g2, g3, g4, g5, g6, g7⟩ := hG x (by omega)
      exact ⟨(e 29 (by omega) (by omega)).trans g1, (e 30 (by omega) (by omega)).trans g2, (e 31 (by omega) (by omega)).trans g3, (e 32 (by omega) (by omega)).trans g4, (e 33 (by omega) (by omega)).trans g5, (e 34 (by omega) (by omega)).trans g6, (e 35 (by omega) (by omega)).trans g7⟩
  · rintro i a' ⟨rfl, hf, hF, hP, hG⟩ K
    rw [hF.2.2.1]
    exact ⟨fun _ => hQ a' hf hF hP hG, fun q => absurd (nI_le (Nat.le_refl _) (by omega)) q⟩
theorem x_prep38 {a0 a : ud_St} {x1 x2 x3 : Int32} {b n : Nat} {Q : ud_St → Prop} (h : xF a b n) (hQ : ∀ a', fr Pf a a' → xF a' b n → xP a' b n → xG a' b n → Q a') : w_Figures_prepare_j38 a0 x1 x2 x3 a 1 0 Q := by
  unfold w_Figures_prepare_j38
  obtain ⟨h1, h2, h3, hb, hb2, hn, hn2, hS⟩ := id h
  refine LW3.up (n + 1) (fun t p i a' => p = nI (b ^ t) ∧ i = nI t ∧ fr (fun k _ => k = 27) a a' ∧ ∀ j, j < t → a'.1 27 j = nI (b ^ j)) ⟨rfl, rfl, fr.rf, fun j hj => by omega⟩ ?_ ?_
  · rintro t p i a' ht ⟨rfl, rfl, hf, hd⟩ K hK
    have e1 : a'.1 26 1 = nI n := (hf.1 26 1 (by omega)).trans h2
    have e0 : a'.1 26 0 = nI b := (hf.1 26 0 (by omega)).trans h1
    rw [e1]
    refine ⟨fun q => absurd ((nI_ltI (by omega) (by omega)).mp q) (by omega), fun _ => ub_putn (by omega) (by omega) ?_⟩
    rw [us_1, if_neg (by omega), e0, ui_mul, ← Nat.pow_succ]
    refine hK _ _ _ ⟨rfl, nI_1 t, hf.sv rfl, fun j hj => ?_⟩
    rw [us_1]
    by_cases hj2 : j = t
    · rw [if_pos ⟨rfl, hj2⟩, hj2]
    · rw [if_neg (fun q => hj2 q.2)]
      exact hd j (by omega)
  · rintro p i a' ⟨rfl, rfl, hf, hd⟩ K
    have e1 : a'.1 26 1 = nI n := (hf.1 26 1 (by omega)).trans h2
    have hF : xF a' b n := ⟨(hf.1 26 0 (by omega)).trans h1, e1, (hf.1 26 2 (by omega)).trans h3, hb, hb2, hn, hn2, hS⟩
    have hf2 : fr Pf a a' := hf.mono (fun k j q => by unfold Pf; omega)
    rw [e1]
    exact ⟨fun _ => x_prep76 hF (fun i hi => hd i (by omega)) (fun a2 g1 g2 g3 g4 => hQ a2 (hf2.tr g1) g2 g3 g4), fun q => absurd (nI_lt (Nat.lt_succ_self n) (by omega)) q⟩
