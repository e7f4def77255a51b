/-! the model's figures -/
theorem tN_0 : Int32.toNatClampNeg 0 = 0 := by decide
theorem tN_1 : Int32.toNatClampNeg 1 = 1 := by decide
theorem tN_2 : Int32.toNatClampNeg 2 = 2 := by decide
theorem tN_3 : Int32.toNatClampNeg 3 = 3 := by decide
theorem tN_4 : Int32.toNatClampNeg 4 = 4 := by decide
theorem tN_5 : Int32.toNatClampNeg 5 = 5 := by decide
theorem vi_0 {n : Nat} (h : 0 < n) : vp_in 0 n := by unfold vp_in; rw [tN_0]; intro q; rcases q with q | q; exact absurd q (by decide); omega
theorem vi_1 {n : Nat} (h : 1 < n) : vp_in 1 n := by unfold vp_in; rw [tN_1]; intro q; rcases q with q | q; exact absurd q (by decide); omega
theorem vi_2 {n : Nat} (h : 2 < n) : vp_in 2 n := by unfold vp_in; rw [tN_2]; intro q; rcases q with q | q; exact absurd q (by decide); omega
theorem vi_3 {n : Nat} (h : 3 < n) : vp_in 3 n := by unfold vp_in; rw [tN_3]; intro q; rcases q with q | q; exact absurd q (by decide); omega
theorem vi_4 {n : Nat} (h : 4 < n) : vp_in 4 n := by unfold vp_in; rw [tN_4]; intro q; rcases q with q | q; exact absurd q (by decide); omega
theorem vi_5 {n : Nat} (h : 5 < n) : vp_in 5 n := by unfold vp_in; rw [tN_5]; intro q; rcases q with q | q; exact absurd q (by decide); omega
theorem ui_m1 (x : Int32) : x + (-1) = x - 1 := (Int32.sub_eq_add_neg x 1).symm
theorem ui_end : nI 0 - 1 < 0 := by decide
/-- what may differ -/
def fr (P : Nat → Nat → Prop) (a a' : ud_St) : Prop := (∀ k j, ¬ P k j → a'.1 k j = a.1 k j) ∧ a'.2 = a.2
theorem fr.rf {P : Nat → Nat → Prop} {a : ud_St} : fr P a a := ⟨fun _ _ _ => rfl, rfl⟩
theorem fr.tr {P : Nat → Nat → Prop} {a b c : ud_St} (h1 : fr P a b) (h2 : fr P b c) : fr P a c := ⟨fun k j h => (h2.1 k j h).trans (h1.1 k j h), h2.2.trans h1.2⟩
theorem fr.mono {P R : Nat → Nat → Prop} {a b : ud_St} (h : fr P a b) (hp : ∀ k j, P k j → R k j) : fr R a b := ⟨fun k j q => h.1 k j (fun z => q (hp k j z)), h.2⟩
theorem fr.sv {P : Nat → Nat → Prop} {a b : ud_St} (h : fr P a b) {k j : Nat} {v : Int32} (hp : P k j) : fr P a (ud_sv b k j v) := ⟨fun k' j' q => by
  rw [us_1, if_neg (fun z => q (by rw [z.1, z.2]; exact hp))]
  exact h.1 k' j' q, h.2⟩
/-- the model's scratch of a go -/
def Pg (k j : Nat) : Prop := k = 83 ∨ k = 84 ∨ (k = 71 ∧ j = 25)
def Ps (k _j : Nat) : Prop := k = 83 ∨ k = 84
theorem ps_g : ∀ k j, Ps k j → Pg k j := fun _ _ h => h.elim Or.inl (fun q => Or.inr (Or.inl q))
def mF (a : ud_St) (b n : Nat) : Prop := a.1 78 0 = nI b ∧ a.1 78 1 = nI n ∧ a.1 78 2 = nI (b ^ n) ∧ 2 ≤ b ∧ b ≤ 16 ∧ 1 ≤ n ∧ n ≤ 8 ∧ b ^ n ≤ 10000
theorem mF.fr {a a' : ud_St} {b n : Nat} (h : mF a b n) (hf : fr Pg a a') : mF a' b n := by
  obtain ⟨h1, h2, h3, h4⟩ := h
  exact ⟨(hf.1 78 0 (by unfold Pg; omega)).trans h1, (hf.1 78 1 (by unfold Pg; omega)).trans h2, (hf.1 78 2 (by unfold Pg; omega)).trans h3, h4⟩
theorem m_figures {a : ud_St} {b n x : Nat} {Q : ud_St → Prop} (h : mF a b n) (hx : x < 2 ^ 31) (hQ : ∀ a', fr (fun k _ => k = 83) a a' → (∀ j, j < n → a'.1 83 j = nI (dg b n x j)) → Q a') : w_Model_figures a (nI x) Q := by
  obtain ⟨h1, h2, h3, hb, hb2, hn, hn2, hS⟩ := h
  unfold w_Model_figures
  refine ⟨vi_1 (by omega), ?_⟩
  simp only [tN_0, tN_1, h2]
  refine LW3.up n (fun t l k a' => l = nI (x / b ^ t) ∧ k = nI (n - t) - 1 ∧ fr (fun k _ => k = 83) a a' ∧ ∀ j, n - t ≤ j → j < n → a'.1 83 j = nI (dg b n x j)) ⟨by simp, rfl, fr.rf, fun j q1 q2 => by omega⟩ ?_ ?_
  · rintro t l k a' ht ⟨rfl, rfl, hf, hd⟩ K hK
    have hb1 : a'.1 78 0 = nI b := (hf.1 78 0 (by omega)).trans h1
    have hxt : x / b ^ t < 2 ^ 31 := Nat.lt_of_le_of_lt (Nat.div_le_self _ _) hx
    rw [ui_pred (by omega : 0 < n - t)]
    refine ⟨fun q => absurd q (nI_pos (by omega)), fun _ => ⟨vi_0 (by omega), ?_, vp_in_nI (by omega) (by omega), vi_0 (by omega), ?_, ?_⟩⟩
    · rw [hb1]; exact nI_ne0 (by omega) (by omega)
    · rw [us_1, if_neg (by omega), hb1]; exact nI_ne0 (by omega) (by omega)
    · rw [us_1, if_neg (by omega), hb1, nI_clamp (by omega), ui_mod hxt (by omega), ui_div hxt (by omega), ui_m1]
      refine hK _ _ _ ⟨by rw [Nat.div_div_eq_div_mul, Nat.pow_succ], by rw [Nat.sub_sub], hf.sv rfl, fun j q1 q2 => ?_⟩
      rw [us_1]
      by_cases hj : j = n - t - 1
      · rw [if_pos ⟨rfl, hj⟩]
        unfold dg
        rw [hj, show n - 1 - (n - t - 1) = t by omega]
      · rw [if_neg (fun q => hj q.2)]
        exact hd j (by omega) q2
  · rintro l k a' ⟨rfl, rfl, hf, hd⟩ K
    rw [Nat.sub_self]
    exact ⟨fun _ => hQ a' hf (fun j q => hd j (by omega) q), fun q => absurd ui_end q⟩
