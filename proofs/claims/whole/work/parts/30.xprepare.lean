/-! x's figures for a base and long -/
def figOK (a : ud_St) (b n : Nat) : Prop := (b = 0 ∧ n = 0 ∧ a.1 26 0 = nI 0 ∧ a.1 26 1 = nI 0 ∧ a.1 26 2 = nI 0) ∨ (xF a b n ∧ xP a b n ∧ xG a b n)
/-- x's figures, all of them -/
def Pf (k _j : Nat) : Prop := 26 ≤ k ∧ k ≤ 35
theorem px_f {x : Nat} : ∀ k j, Px x k j → Pf k j := fun k j h => by unfold Px at h; unfold Pf; omega
theorem x_prep76 {a0 a : ud_St} {x1 x2 x3 : Int32} {b n : Nat} {Q : ud_St → Prop} (h : xF a b n) (hp : xP a b n) (hQ : ∀ a', fr Pf a a' → xF a' b n → xP a' b n → xG a' b n → Q a') : w_Figures_prepare_j76 a0 x1 x2 x3 a 0 Q := by
  unfold w_Figures_prepare_j76
  have hS := h.2.2.2.2.2.2.2
  refine LW2.up (b ^ n) (fun t i a' => i = nI t ∧ fr Pf a a' ∧ xF a' b n ∧ xP a' b n ∧ ∀ x, x < t → xG1 a' b n x) ⟨rfl, fr.rf, h, hp, fun x hx => by omega⟩ ?_ ?_
  · rintro t i a' ht ⟨rfl, hf, hF, hP, hG⟩ K hK
    rw [hF.2.2.1]
    refine ⟨fun q => absurd q (nI_ge ht (by omega)), fun _ => x_prepareOne hF hP ht (fun a2 hf2 hg2 => ?_)⟩
    refine hK _ _ ⟨nI_1 t, hf.tr (hf2.mono px_f), hF.px hf2, hP.px hf2, fun x hx => ?_⟩
    by_cases hxt : x = t
    · rw [hxt]; exact hg2
    · have e : ∀ k, 29 ≤ k → k ≤ 35 → a2.1 k x = a'.1 k x := fun k _ _ => hf2.1 k x (by unfold Px; omega)
      obtain ⟨g1, g2, g3, g4, g5, g6, g7⟩ := hG x (by omega)
      exact ⟨(e 29 (by omega) (by omega)).trans g1, (e 30 (by omega) (by omega)).trans g2, (e 31 (by omega) (by omega)).trans g3, (e 32 (by omega) (by omega)).trans g4, (e 33 (by omega) (by omega)).trans g5, (e 34 (by omega) (by omega)).trans g6, (e 35 (by omega) (by omega)).trans g7⟩
  · rintro i a' ⟨rfl, hf, hF, hP, hG⟩ K
    rw [hF.2.2.1]
    exact ⟨fun _ => hQ a' hf hF hP hG, fun q => absurd (nI_le (Nat.le_refl _) (by omega)) q⟩
theorem x_prep38 {a0 a : ud_St} {x1 x2 x3 : Int32} {b n : Nat} {Q : ud_St → Prop} (h : xF a b n) (hQ : ∀ a', fr Pf a a' → xF a' b n → xP a' b n → xG a' b n → Q a') : w_Figures_prepare_j38 a0 x1 x2 x3 a 1 0 Q := by
  unfold w_Figures_prepare_j38
  obtain ⟨h1, h2, h3, hb, hb2, hn, hn2, hS⟩ := id h
  refine LW3.up (n + 1) (fun t p i a' => p = nI (b ^ t) ∧ i = nI t ∧ fr (fun k _ => k = 27) a a' ∧ ∀ j, j < t → a'.1 27 j = nI (b ^ j)) ⟨rfl, rfl, fr.rf, fun j hj => by omega⟩ ?_ ?_
  · rintro t p i a' ht ⟨rfl, rfl, hf, hd⟩ K hK
    have e1 : a'.1 26 1 = nI n := (hf.1 26 1 (by omega)).trans h2
    have e0 : a'.1 26 0 = nI b := (hf.1 26 0 (by omega)).trans h1
    rw [e1]
    refine ⟨fun q => absurd ((nI_ltI (by omega) (by omega)).mp q) (by omega), fun _ => ub_putn (by omega) (by omega) ?_⟩
    rw [us_1, if_neg (by omega), e0, ui_mul, ← Nat.pow_succ]
    refine hK _ _ _ ⟨rfl, nI_1 t, hf.sv rfl, fun j hj => ?_⟩
    rw [us_1]
    by_cases hj2 : j = t
    · rw [if_pos ⟨rfl, hj2⟩, hj2]
    · rw [if_neg (fun q => hj2 q.2)]
      exact hd j (by omega)
  · rintro p i a' ⟨rfl, rfl, hf, hd⟩ K
    have e1 : a'.1 26 1 = nI n := (hf.1 26 1 (by omega)).trans h2
    have hF : xF a' b n := ⟨(hf.1 26 0 (by omega)).trans h1, e1, (hf.1 26 2 (by omega)).trans h3, hb, hb2, hn, hn2, hS⟩
    have hf2 : fr Pf a a' := hf.mono (fun k j q => by unfold Pf; omega)
    rw [e1]
    exact ⟨fun _ => x_prep76 hF (fun i hi => hd i (by omega)) (fun a2 g1 g2 g3 g4 => hQ a2 (hf2.tr g1) g2 g3 g4), fun q => absurd (nI_lt (Nat.lt_succ_self n) (by omega)) q⟩
theorem figOK.b {a : ud_St} {b n : Nat} (h : figOK a b n) : b ≤ 16 ∧ n ≤ 8 ∧ a.1 26 0 = nI b ∧ a.1 26 1 = nI n := by
  rcases h with ⟨rfl, rfl, h1, h2, h3⟩ | ⟨⟨h1, h2, h3, hb, hb2, hn, hn2, hS⟩, -, -⟩
  · exact ⟨by omega, by omega, h1, h2⟩
  · exact ⟨hb2, hn2, h1, h2⟩
/-- a base and long that a table may have, or none; and the size -/
def bnOK (b n S : Nat) : Prop := (b = 0 ∧ n = 0 ∧ S = 0) ∨ (2 ≤ b ∧ b ≤ 16 ∧ 1 ≤ n ∧ n ≤ 8 ∧ b ^ n ≤ 10000 ∧ S = b ^ n)
theorem x_prepare {a : ud_St} {b0 n0 b n S : Nat} {Q : ud_St → Prop} (h0 : figOK a b0 n0) (hb : bnOK b n S) (hQ : ∀ a', fr Pf a a' → figOK a' b n → Q a') : w_Figures_prepare a (nI b) (nI n) (nI S) Q := by
  unfold w_Figures_prepare
  obtain ⟨q1, q2, q3, q4⟩ := h0.b
  have hbb : b ≤ 16 ∧ n ≤ 8 := by
    rcases hb with ⟨rfl, rfl, rfl⟩ | ⟨g1, g2, g3, g4, g5, rfl⟩
    · omega
    · omega
  have go : w_Figures_prepare_j38 a (nI b) (nI n) (nI S) (ud_sv (ud_sv (ud_sv a 26 0 (nI b)) 26 1 (nI n)) 26 2 (nI S)) 1 0 Q := by
    have hf : fr Pf a (ud_sv (ud_sv (ud_sv a 26 0 (nI b)) 26 1 (nI n)) 26 2 (nI S)) := ((fr.rf.sv (by unfold Pf; omega)).sv (by unfold Pf; omega)).sv (by unfold Pf; omega)
    rcases hb with ⟨rfl, rfl, rfl⟩ | ⟨g1, g2, g3, g4, g5, rfl⟩
    · unfold w_Figures_prepare_j38
      refine LW3.up 1 (fun t p i a' => i = nI t ∧ fr Pf a a' ∧ a'.1 26 0 = nI 0 ∧ a'.1 26 1 = nI 0 ∧ a'.1 26 2 = nI 0) ⟨rfl, hf, by simp [us_1], by simp [us_1], by simp [us_1]⟩ ?_ ?_
      · rintro t p i a' ht ⟨rfl, hf2, e0, e1, e2⟩ K hK
        have ht0 : t = 0 := by omega
        subst ht0
        rw [e1]
        refine ⟨fun q => absurd q (by decide), fun _ => ub_putn (by omega) (by omega) ?_⟩
        exact hK _ _ _ ⟨rfl, hf2.sv (by unfold Pf; omega), by rw [us_1, if_neg (by omega)]; exact e0, by rw [us_1, if_neg (by omega)]; exact e1, by rw [us_1, if_neg (by omega)]; exact e2⟩
      · rintro p i a' ⟨rfl, hf2, e0, e1, e2⟩ K
        rw [e1]
        refine ⟨fun _ => ?_, fun q => absurd (by decide) q⟩
        unfold w_Figures_prepare_j76
        refine LW2.up 0 (fun t i a2 => i = 0 ∧ a2 = a') ⟨rfl, rfl⟩ (fun k _ _ hk => by omega) ?_
        rintro i a2 ⟨rfl, rfl⟩ K2
        rw [e2]
        exact ⟨fun _ => hQ _ hf2 (Or.inl ⟨rfl, rfl, e0, e1, e2⟩), fun q => absurd (by decide) q⟩
    · refine x_prep38 (b := b) (n := n) ⟨by simp [us_1], by simp [us_1], by simp [us_1], g1, g2, g3, g4, g5⟩ (fun a2 z1 z2 z3 z4 => hQ a2 (hf.tr z1) (Or.inr ⟨z2, z3, z4⟩))
  rw [q3, q4]
  refine ⟨fun e1 => ⟨fun e2 => ?_, fun _ => go⟩, fun _ => go⟩
  have e1' := (nI_eq (by omega) (by omega)).mp e1
  have e2' := (nI_eq (by omega) (by omega)).mp e2
  subst e1' e2'
  exact hQ a fr.rf h0
