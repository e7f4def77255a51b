/-! the model's rounds -/
/-- the model's NEXT of all numbers -/
def mN (a : ud_St) (g : Nat → Nat) (S : Nat) : Prop := a.1 78 2 = nI S ∧ S ≤ 10000 ∧ (∀ x, x < S → g x < S) ∧ ∀ x, x < S → a.1 85 x = nI (g x)
def Pr (k _j : Nat) : Prop := 86 ≤ k ∧ k ≤ 89
theorem mN.fr {a a' : ud_St} {g : Nat → Nat} {S : Nat} (h : mN a g S) (hf : fr Pr a a') : mN a' g S := ⟨(hf.1 78 2 (by unfold Pr; omega)).trans h.1, h.2.1, h.2.2.1, fun x hx => (hf.1 85 x (by unfold Pr; omega)).trans (h.2.2.2 x hx)⟩
def Po (g : Nat → Nat) (y k j : Nat) : Prop := (k = 87 ∨ k = 88) ∧ ∃ i, itr g i y = j
theorem po_r' {g : Nat → Nat} {y : Nat} : ∀ k j, Po g y k j → Pr k j := fun k j h => by unfold Pr; have := h.1; omega
theorem m_laysRound {a : ud_St} {g : Nat → Nat} {S y : Nat} {Q : ud_St → Prop} (hN : mN a g S) (hy : y < S) (hp : per g y) (hQ : ∀ a', fr (Po g y) a a' → (∀ i, a'.1 87 (itr g i y) = nI (hm g y) ∧ a'.1 88 (itr g i y) = nI (ln g y)) → Q a') : w_Model_laysRound a (nI y) Q := by
  obtain ⟨h2, hS, hg, h85⟩ := id hN
  have hl := ln_sp hp
  have hil := fun i => itr_lt hg hy i
  have hll := ln_le hg hy hp
  have hml := (hm_sp hg hy).2.2
  have hfin : ∀ m, (∃ j, itr g j y = m) → (∀ j, j < ln g y → m ≤ itr g j y) → m = hm g y := by
    rintro m ⟨j, hj⟩ h
    have h1 : hm g y ≤ m := hm_le (by rw [← hj]; exact per_itr hp j) ⟨j, hj⟩
    obtain ⟨k, hk⟩ := (hm_sp hg hy).2.1
    have h3 := h (k % ln g y) (Nat.mod_lt _ hl.1)
    rw [← itr_ln hp k, hk] at h3
    omega
  unfold w_Model_laysRound w_Model_laysRound_j7
  refine LW3.up (ln g y) (fun k l n z => k < ln g y ∧ n = nI k ∧ z = nI (itr g k y) ∧ ∃ m, l = nI m ∧ m < S ∧ (∃ j, itr g j y = m) ∧ ∀ j, j < k → m ≤ itr g j y) ⟨hl.1, rfl, rfl, y, rfl, hy, ⟨0, rfl⟩, fun j hj => by omega⟩ ?_ ?_
  · rintro k l n z - ⟨hk, rfl, rfl, m, rfl, hm1, hm2, hm3⟩ K hK
    have step : ∀ u, u < S → (∃ j, itr g j y = u) → (∀ j, j < k + 1 → u ≤ itr g j y) → w_Model_laysRound_j19 a (nI y) a (nI y) (nI k) (nI (itr g k y)) (nI u) K Q := by
      intro u hu1 hu2 hu3
      unfold w_Model_laysRound_j19
      have hik := hil k
      refine ⟨vp_in_nI (by omega) (by omega), ?_⟩
      rw [nI_clamp (by omega), h85 _ hik, ← itr_s (g := g)]
      have hik1 := hil (k + 1)
      refine ⟨fun q => ?_, fun q => ?_⟩
      · have q' : itr g (k + 1) y = y := (nI_eq (by omega) (by omega)).mp q
        have ek : k + 1 = ln g y := by
          rcases Nat.lt_or_ge (k + 1) (ln g y) with z | z
          · exact absurd q' (hl.2.2 _ (by omega) z)
          · omega
        rw [ek] at hu3
        have eu := hfin u hu2 hu3
        subst eu
        rw [q', nI_1, ek]
        unfold w_Model_laysRound_j38
        refine LW2.up (ln g y) (fun i z a' => i < ln g y ∧ z = nI (itr g i y) ∧ fr (Po g y) a a' ∧ ∀ j, j < i → a'.1 87 (itr g j y) = nI (hm g y) ∧ a'.1 88 (itr g j y) = nI (ln g y)) ⟨hl.1, rfl, fr.rf, fun j hj => by omega⟩ ?_ ?_
        · rintro i z a' - ⟨hi, rfl, hf, hd⟩ K2 hK2
          have hii := hil i
          have hv : vp_in (nI (itr g i y)) 10000 := vp_in_nI (by omega) (by omega)
          refine ⟨hv, hv, hv, ?_⟩
          have e85 : (ud_sv (ud_sv a' 87 (itr g i y) (nI (hm g y))) 88 (itr g i y) (nI (ln g y))).1 85 (itr g i y) = nI (itr g (i + 1) y) := by
            rw [us_1, if_neg (by omega), us_1, if_neg (by omega), hf.1 85 _ (by unfold Po; omega), h85 _ hii, ← itr_s (g := g)]
          have hf2 : fr (Po g y) a (ud_sv (ud_sv a' 87 (itr g i y) (nI (hm g y))) 88 (itr g i y) (nI (ln g y))) := (hf.sv ⟨Or.inl rfl, i, rfl⟩).sv ⟨Or.inr rfl, i, rfl⟩
          have hd2 : ∀ j, j < i + 1 → (ud_sv (ud_sv a' 87 (itr g i y) (nI (hm g y))) 88 (itr g i y) (nI (ln g y))).1 87 (itr g j y) = nI (hm g y) ∧ (ud_sv (ud_sv a' 87 (itr g i y) (nI (hm g y))) 88 (itr g i y) (nI (ln g y))).1 88 (itr g j y) = nI (ln g y) := by
            intro j hj
            by_cases e : itr g j y = itr g i y
            · rw [e]; simp [us_1]
            · have hj2 : j < i := by
                rcases Nat.lt_or_ge j i with z | z
                · exact z
                · exact absurd (by rw [show j = i by omega]) e
              simp only [us_1, e, and_false, if_false]
              have := hd j hj2
              simpa using this
          rw [nI_clamp (by omega), e85]
          have hi1 := hil (i + 1)
          refine ⟨fun q2 => ?_, fun q2 => hK2 _ _ ⟨?_, rfl, hf2, hd2⟩⟩
          · have q3 : itr g (i + 1) y = y := (nI_eq (by omega) (by omega)).mp q2
            have ei : i + 1 = ln g y := by
              rcases Nat.lt_or_ge (i + 1) (ln g y) with z | z
              · exact absurd q3 (hl.2.2 _ (by omega) z)
              · omega
            refine hQ _ hf2 (fun j => ?_)
            rw [itr_ln hp j]
            exact hd2 _ (by rw [ei]; exact Nat.mod_lt _ hl.1)
          · rcases Nat.lt_or_ge (i + 1) (ln g y) with z | z
            · exact z
            · have ei : i + 1 = ln g y := by omega
              exact absurd (by rw [ei, hl.2.1]) q2
        · rintro z a' ⟨hi, -⟩
          exact absurd hi (Nat.lt_irrefl _)
      · rw [nI_1]
        refine hK _ _ _ ⟨?_, rfl, rfl, u, rfl, hu1, hu2, hu3⟩
        rcases Nat.lt_or_ge (k + 1) (ln g y) with z | z
        · exact z
        · have ek : k + 1 = ln g y := by omega
          exact absurd (by rw [ek, hl.2.1]) q
    have hik := hil k
    refine ⟨fun q => ?_, fun q => ?_⟩
    · have q' := (nI_leI (by omega) (by omega)).mp q
      exact step m hm1 hm2 (fun j hj => by
        rcases Nat.lt_or_ge j k with z | z
        · exact hm3 j z
        · rw [show j = k by omega]; exact q')
    · have q' := (ui_ltn (by omega) (by omega)).mp q
      exact step _ hik ⟨k, rfl⟩ (fun j hj => by
        rcases Nat.lt_or_ge j k with z | z
        · have := hm3 j z; omega
        · rw [show j = k by omega]; exact Nat.le_refl _)
  · rintro l n z ⟨hk, -⟩
    exact absurd hk (Nat.lt_irrefl _)
