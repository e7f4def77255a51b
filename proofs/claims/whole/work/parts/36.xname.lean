/-! x's rounds: named, and back from them -/
def Pw (k _j : Nat) : Prop := k = 38 ∨ k = 39 ∨ k = 41
def Pwr (g : Nat → Nat) (y k j : Nat) : Prop := (k = 38 ∨ k = 39 ∨ k = 41) ∧ ∃ i, itr g i y = j
theorem x_walkRound {a : ud_St} {g : Nat → Nat} {S y : Nat} {Q : Int32 → ud_St → Prop} (hN : xN a g S) (hy : y < S) (hp : per g y) (hw : ∀ i, ∃ v, 0 < v ∧ v < 2 ^ 31 ∧ a.1 41 (itr g i y) = nI v) (hQ : ∀ a', fr (Pwr g y) a a' → (∀ i, a'.1 41 (itr g i y) = 0 ∧ a'.1 38 (itr g i y) = 0 ∧ a'.1 39 (itr g i y) = a.1 36 10) → Q (nI (ln g y)) a') : w_Paths_walkRound a (nI y) Q := by
  obtain ⟨h0, hS, hg, h37⟩ := id hN
  have hl := ln_sp hp
  have hll := ln_le hg hy hp
  unfold w_Paths_walkRound
  refine LW3.up (ln g y) (fun k n z b => n = nI k ∧ z = nI (itr g k y) ∧ fr (Pwr g y) a b ∧ (∀ i, i < k → b.1 41 (itr g i y) = 0 ∧ b.1 38 (itr g i y) = 0 ∧ b.1 39 (itr g i y) = a.1 36 10) ∧ ∀ i, k ≤ i → i < ln g y → b.1 41 (itr g i y) = a.1 41 (itr g i y)) ⟨rfl, rfl, fr.rf, fun i hi => by omega, fun i _ _ => rfl⟩ ?_ ?_
  · rintro k n z b hk ⟨rfl, rfl, hf, hd, hr⟩ K hK
    have hN' := xN_fr hN hf (fun x => by unfold Pwr; omega) (by unfold Pwr; omega)
    have hik := itr_lt hg hy k
    obtain ⟨v, hv1, hv2, hv3⟩ := hw k
    rw [hN'.1]
    refine ⟨fun q => absurd q (nI_ge (by omega) (by omega)), fun _ => ub_atn (by omega) (by omega) ?_⟩
    rw [hr k (Nat.le_refl _) hk, hv3]
    have e10 : ∀ (c : ud_St) (u w : Int32), (ud_sv (ud_sv c 41 (itr g k y) u) 38 (itr g k y) w).1 36 10 = c.1 36 10 := fun c u w => by rw [us_1, if_neg (by omega), us_1, if_neg (by omega)]
    refine ⟨fun q => absurd q (nI_nle hv1 hv2), fun _ => ub_putn (by omega) (by omega) (ub_putn (by omega) (by omega) (ub_putn (by omega) (by omega) ?_))⟩
    have hff : ∀ u w x, fr (Pwr g y) a (ud_sv (ud_sv (ud_sv b 41 (itr g k y) u) 38 (itr g k y) w) 39 (itr g k y) x) := fun u w x => ((hf.sv ⟨by omega, k, rfl⟩).sv ⟨by omega, k, rfl⟩).sv ⟨by omega, k, rfl⟩
    rw [e10, hf.1 36 10 (by unfold Pwr; omega)]
    refine x_nextOf (xN_fr hN (hff _ _ _) (fun x => by unfold Pwr; omega) (by unfold Pwr; omega)) hik ?_
    rw [← itr_s (g := g)]
    refine hK _ _ _ ⟨nI_1 k, rfl, hff _ _ _, fun i hi => ?_, fun i hi hi2 => ?_⟩
    · by_cases e : itr g i y = itr g k y
      · rw [e]; simp [us_1]
      · have hik2 : i < k := by
          rcases Nat.lt_or_ge i k with w | w
          · exact w
          · exact absurd (by rw [show i = k by omega]) e
        have := hd i hik2
        simpa [us_1, e] using this
    · have e : itr g i y ≠ itr g k y := fun e => itr_inj hp (i := k) (j := i) (by omega) hi2 e.symm
      simp only [us_1, e, and_false, if_false]
      exact hr i (by omega) hi2
  · rintro n z b ⟨rfl, rfl, hf, hd, -⟩ K
    have hN' := xN_fr hN hf (fun x => by unfold Pwr; omega) (by unfold Pwr; omega)
    have hall : ∀ i, b.1 41 (itr g i y) = 0 ∧ b.1 38 (itr g i y) = 0 ∧ b.1 39 (itr g i y) = a.1 36 10 := fun i => by
      rw [itr_ln hp i]
      exact hd _ (Nat.mod_lt _ hl.1)
    have fin := hQ b hf hall
    rw [hN'.1, hl.2.1]
    refine ⟨fun _ => fin, fun _ => ub_atn (by omega) (by omega) ?_⟩
    have := (hall 0).1
    rw [show itr g 0 y = y from rfl] at this
    rw [this]
    exact ⟨fun _ => fin, fun q => absurd (by decide) q⟩
/-- rounds of one number, ahead of t -/
noncomputable def rs (g : Nat → Nat) (t : Nat) : Nat := fb_ct (fun z => @decide (hb g z = true ∧ ln g z = 1) (Classical.propDecidable _)) t
theorem rs_s (g : Nat → Nat) (t : Nat) : rs g (t + 1) = rs g t + (@ite Nat (hb g t = true ∧ ln g t = 1) (Classical.propDecidable _) 1 0) := by
  unfold rs
  rw [fb_ct_succ]
  by_cases h : hb g t = true ∧ ln g t = 1
  · rw [@decide_eq_true _ (Classical.propDecidable _) h, @if_pos _ (Classical.propDecidable _) h]; rfl
  · rw [@decide_eq_false _ (Classical.propDecidable _) h, @if_neg _ (Classical.propDecidable _) h]; rfl
/-- the first longest round ahead of t, if there is one -/
def bR (g : Nat → Nat) (t : Nat) (l h : Int32) : Prop := ((∀ z, z < t → hb g z = false) ∧ l = 0 ∧ h = -1) ∨ ∃ z, z < t ∧ hb g z = true ∧ (∀ u, u < t → hb g u = true → ln g u ≤ ln g z) ∧ (∀ u, u < z → hb g u = true → ln g u < ln g z) ∧ l = nI (ln g z) ∧ h = nI z
/-- behind the naming of the first t -/
def nR (a : ud_St) (g : Nat → Nat) (S t : Nat) : Prop := (∀ z, z < S → per g z → hm g z < t → a.1 41 z = 0 ∧ a.1 38 z = 0 ∧ a.1 39 z = nI (rk g (hm g z))) ∧ (∀ z, z < S → per g z → t ≤ hm g z → ∃ v, 0 < v ∧ v < 2 ^ 31 ∧ a.1 41 z = nI v) ∧ (∀ z, z < S → ¬ per g z → a.1 41 z = 0) ∧ (∀ h, h < t → hb g h = true → a.1 40 (rk g h) = nI h) ∧ a.1 36 10 = nI (rk g t) ∧ a.1 36 11 = nI (rs g t) ∧ bR g t (a.1 36 12) (a.1 36 13)
def Pnm (k j : Nat) : Prop := Pw k j ∨ k = 40 ∨ (k = 36 ∧ 10 ≤ j ∧ j ≤ 13)
theorem xN_nm {a a' : ud_St} {g : Nat → Nat} {S : Nat} (h : xN a g S) (hf : fr Pnm a a') : xN a' g S := xN_fr h hf (fun x => by unfold Pnm Pw; omega) (by unfold Pnm Pw; omega)
theorem hb_iff (hm0 : Nat) {g : Nat → Nat} {z : Nat} : (hb g z = false) ↔ ¬ hm g z = z := by
  rw [← hb_t (g := g)]
  cases hb g z <;> simp
theorem x_nameRounds {a : ud_St} {g : Nat → Nat} {S : Nat} {Q : ud_St → Prop} (hN : xN a g S) (hw : ∀ y, y < S → ∃ v, v ≤ S ∧ a.1 41 y = nI v ∧ (0 < v ↔ per g y)) (hQ : ∀ a', fr Pnm a a' → nR a' g S S → Q a') : w_Paths_nameRounds a Q := by
  obtain ⟨h0, hS, hg, h37⟩ := id hN
  unfold w_Paths_nameRounds
  refine LW2.up S (fun t x b => x = nI t ∧ fr Pnm a b ∧ nR b g S t) ⟨rfl, (((fr.rf.sv (by unfold Pnm; omega)).sv (by unfold Pnm; omega)).sv (by unfold Pnm; omega)).sv (by unfold Pnm; omega), fun z _ _ h => by omega, fun z hz hp _ => ?_, fun z hz hp => ?_, fun h hh => by omega, ?_, ?_, Or.inl ⟨fun z hz => by omega, ?_, ?_⟩⟩ ?_ ?_
  · obtain ⟨v, hv1, hv2, hv3⟩ := hw z hz
    exact ⟨v, hv3.mpr hp, by omega, by simpa [us_1] using hv2⟩
  · obtain ⟨v, hv1, hv2, hv3⟩ := hw z hz
    have : v = 0 := by
      rcases Nat.eq_zero_or_pos v with q | q
      · exact q
      · exact absurd (hv3.mp q) hp
    subst this
    rw [show (0 : Int32) = nI 0 from rfl]
    simpa [us_1] using hv2
  · simp only [us_1]; rfl
  · simp only [us_1]; rfl
  · simp [us_1]
  · simp [us_1]
  · rintro t x b ht ⟨rfl, hf, n1, n2, n3, n4, n5, n6, n7⟩ K hK
    have hN' := xN_nm hN hf
    rw [hN'.1]
    refine ⟨fun q => absurd q (nI_ge ht (by omega)), fun _ => ub_atn (by omega) (by omega) ?_⟩
    by_cases hbt : hb g t = true
    · have hmt := hb_t.mp hbt
      have hp := hb_per hg ht hbt
      obtain ⟨v, hv1, hv2, hv3⟩ := n2 t ht hp (by omega)
      rw [hv3]
      have hrk : rk g t < S := Nat.lt_of_lt_of_le (rk_lt ht hbt) (fb_ct_le _ S)
      have hrk1 : rk g (t + 1) = rk g t + 1 := by
        unfold rk
        rw [fb_ct_succ, hbt]
        rfl
      have hl := ln_sp hp
      have hll := ln_le hg ht hp
      refine ⟨fun q => absurd q (nI_nle hv1 hv2), fun _ => ?_⟩
      refine x_walkRound hN' ht hp (fun i => n2 _ (itr_lt hg ht i) (per_itr hp i) (by rw [hm_itr hg ht]; omega)) (fun b1 hf1 hs1 => ?_)
      have e1 : ∀ k j, k ≠ 38 → k ≠ 39 → k ≠ 41 → b1.1 k j = b.1 k j := fun k j z1 z2 z3 => hf1.1 k j (by unfold Pwr; omega)
      rw [e1 36 10 (by omega) (by omega) (by omega), n5]
      refine ub_putn (by omega) (by omega) ?_
      rw [nI_1]
      -- the state behind the naming of t's round
      have hfx : ∀ c : ud_St, (∀ k j, ¬ (k = 36 ∧ 11 ≤ j ∧ j ≤ 13) → c.1 k j = (ud_sv (ud_sv b1 36 10 (nI (rk g t + 1))) 40 (rk g t) (nI t)).1 k j) → c.2 = b1.2 → c.1 36 11 = nI (rs g (t + 1)) → bR g (t + 1) (c.1 36 12) (c.1 36 13) → fr Pnm a c ∧ nR c g S (t + 1) := by
        intro c hc hc2 hc3 hc4
        have d : ∀ k j, k ≠ 36 → k ≠ 40 → c.1 k j = b1.1 k j := fun k j z1 z2 => by
          rw [hc k j (by omega), us_1, if_neg (by omega), us_1, if_neg (by omega)]
        have hround : ∀ z, z < S → per g z → hm g z = t → ∃ i, itr g i t = z := fun z hz hpz e => hm_reach hg ht hz hpz (by rw [e]; exact hmt)
        refine ⟨⟨fun k j q => ?_, ?_⟩, fun z hz hpz h => ?_, fun z hz hpz h => ?_, fun z hz hpz => ?_, fun h hh hbh => ?_, ?_, hc3, hc4⟩
        · have q' : k ≠ 38 ∧ k ≠ 39 ∧ k ≠ 41 ∧ k ≠ 40 ∧ ¬ (k = 36 ∧ 10 ≤ j ∧ j ≤ 13) := by unfold Pnm Pw at q; omega
          rw [hc k j (by omega), us_1, if_neg (by omega), us_1, if_neg (by omega), e1 k j q'.1 q'.2.1 q'.2.2.1]
          exact hf.1 k j q
        · rw [hc2, hf1.2]; exact hf.2
        · rw [d 41 z (by omega) (by omega), d 38 z (by omega) (by omega), d 39 z (by omega) (by omega)]
          by_cases e : hm g z = t
          · obtain ⟨i, hi⟩ := hround z hz hpz e
            have := hs1 i
            rw [hi, n5] at this
            rw [e]
            exact this
          · have hnr : ∀ k, ¬ Pwr g t k z := fun k q => by
              obtain ⟨i, hi⟩ := q.2
              rw [← hi, hm_itr hg ht] at e
              exact e hmt
            rw [hf1.1 41 z (hnr _), hf1.1 38 z (hnr _), hf1.1 39 z (hnr _)]
            exact n1 z hz hpz (by omega)
        · have hnr : ∀ k, ¬ Pwr g t k z := fun k q => by
            obtain ⟨i, hi⟩ := q.2
            rw [← hi, hm_itr hg ht] at h
            omega
          rw [d 41 z (by omega) (by omega), hf1.1 41 z (hnr _)]
          exact n2 z hz hpz (by omega)
        · have hnr : ∀ k, ¬ Pwr g t k z := fun k q => by
            obtain ⟨i, hi⟩ := q.2
            exact hpz (by rw [← hi]; exact per_itr hp i)
          rw [d 41 z (by omega) (by omega), hf1.1 41 z (hnr _)]
          exact n3 z hz hpz
        · rw [hc 40 _ (by omega), us_1]
          by_cases e : h = t
          · rw [if_pos ⟨rfl, by rw [e]⟩, e]
          · rw [if_neg (fun q => e (rk_inj hbh hbt q.2)), us_1, if_neg (by omega), e1 40 _ (by omega) (by omega) (by omega)]
            exact n4 h (by omega) hbh
        · rw [hc 36 10 (by omega), us_1, if_neg (by omega), us_1, if_pos ⟨rfl, rfl⟩, hrk1]
      have e36 : ∀ j, j ≠ 10 → (ud_sv (ud_sv b1 36 10 (nI (rk g t + 1))) 40 (rk g t) (nI t)).1 36 j = b.1 36 j := fun j hj => by
        rw [us_1, if_neg (by omega), us_1, if_neg (by omega)]
        exact e1 36 j (by omega) (by omega) (by omega)
      have j81 : ∀ u : Nat, rs g (t + 1) = rs g t + u → w_Paths_nameRounds_j81 a (ud_sv (ud_sv b1 36 10 (nI (rk g t + 1))) 40 (rk g t) (nI t)) (nI t) (nI (ln g t)) (nI u) (nI (rs g t)) K Q := by
        intro u hu
        unfold w_Paths_nameRounds_j81
        rw [nI_add, ← hu]
        have e12 : (ud_sv (ud_sv (ud_sv b1 36 10 (nI (rk g t + 1))) 40 (rk g t) (nI t)) 36 11 (nI (rs g (t + 1)))).1 36 12 = b.1 36 12 := by
          rw [us_1, if_neg (by omega)]; exact e36 12 (by omega)
        have e13 : (ud_sv (ud_sv (ud_sv b1 36 10 (nI (rk g t + 1))) 40 (rk g t) (nI t)) 36 11 (nI (rs g (t + 1)))).1 36 13 = b.1 36 13 := by
          rw [us_1, if_neg (by omega)]; exact e36 13 (by omega)
        have e11 : (ud_sv (ud_sv (ud_sv b1 36 10 (nI (rk g t + 1))) 40 (rk g t) (nI t)) 36 11 (nI (rs g (t + 1)))).1 36 11 = nI (rs g (t + 1)) := by
          rw [us_1, if_pos ⟨rfl, rfl⟩]
        rw [e12]
        -- whether t's round is longer
        have hcase : (b.1 36 12 = 0 ∧ ∀ z, z < t → hb g z = false) ∨ ∃ z, z < t ∧ hb g z = true ∧ (∀ u, u < t → hb g u = true → ln g u ≤ ln g z) ∧ (∀ u, u < z → hb g u = true → ln g u < ln g z) ∧ b.1 36 12 = nI (ln g z) ∧ b.1 36 13 = nI z := by
          rcases n7 with ⟨q1, q2, q3⟩ | q
          · exact Or.inl ⟨q2, q1⟩
          · exact Or.inr q
        have new : (∀ u, u < t → hb g u = true → ln g u < ln g t) → K (nI t + 1) (ud_sv (ud_sv (ud_sv (ud_sv (ud_sv b1 36 10 (nI (rk g t + 1))) 40 (rk g t) (nI t)) 36 11 (nI (rs g (t + 1)))) 36 12 (nI (ln g t))) 36 13 (nI t)) := by
          intro hlt
          refine hK _ _ ⟨nI_1 t, hfx _ (fun k j q => ?_) rfl ?_ (Or.inr ⟨t, Nat.lt_succ_self t, hbt, fun u hu hbu => ?_, hlt, ?_, ?_⟩)⟩
          · rw [us_1, if_neg (by omega), us_1, if_neg (by omega), us_1, if_neg (by omega)]
          · rw [us_1, if_neg (by omega), us_1, if_neg (by omega)]; exact e11
          · by_cases e : u = t
            · rw [e]; exact Nat.le_refl _
            · exact Nat.le_of_lt (hlt u (by omega) hbu)
          · rw [us_1, if_neg (by omega), us_1, if_pos ⟨rfl, rfl⟩]
          · rw [us_1, if_pos ⟨rfl, rfl⟩]
        rcases hcase with ⟨q1, q2⟩ | ⟨z, z1, z2, z3, z4, z5, z6⟩
        · rw [q1]
          exact ⟨fun w => absurd w (nI_nle hl.1 (by omega)), fun _ => new (fun u hu hbu => absurd (q2 u hu) (by rw [hbu]; decide))⟩
        · have hlz := ln_le hg (by omega : z < S) (hb_per hg (by omega) z2)
          rw [z5]
          refine ⟨fun w => ?_, fun w => ?_⟩
          · have w' := (nI_leI (by omega) (by omega)).mp w
            refine hK _ _ ⟨nI_1 t, hfx _ (fun k j q => ?_) rfl e11 (Or.inr ⟨z, by omega, z2, fun u hu hbu => ?_, z4, e12.trans z5, e13.trans z6⟩)⟩
            · rw [us_1, if_neg (by omega)]
            · by_cases e : u = t
              · rw [e]; exact w'
              · exact z3 u (by omega) hbu
          · have w' := (ui_ltn (by omega) (by omega)).mp w
            exact new (fun u hu hbu => Nat.lt_of_le_of_lt (z3 u hu hbu) w')
      rw [e36 11 (by omega), n6]
      refine ⟨fun e => ?_, fun e => ?_⟩
      · have e' : ln g t = 1 := (nI_eq (b := 1) (by omega) (by omega)).mp e
        exact j81 1 (by rw [rs_s, @if_pos _ (Classical.propDecidable _) ⟨hbt, e'⟩])
      · have e' : ¬ ln g t = 1 := fun w => e (by rw [w]; rfl)
        exact j81 0 (by rw [rs_s, @if_neg _ (Classical.propDecidable _) (fun w => e' w.2)])
    · have hbf : hb g t = false := by cases h : hb g t with
        | false => rfl
        | true => exact absurd h hbt
      have hne : ∀ z, z < S → hm g z ≠ t := fun z hz e => hbt (hb_t.mpr (by rw [← e]; exact hm_hm hg hz))
      have e41 : b.1 41 t = 0 := by
        by_cases hp : per g t
        · exact (n1 t ht hp (by have := hm_le (x := t) hp ⟨0, rfl⟩; have := hne t ht; omega)).1
        · exact n3 t ht hp
      rw [e41]
      have hrk1 : rk g (t + 1) = rk g t := by
        unfold rk
        rw [fb_ct_succ, hbf]
        rfl
      have hrs1 : rs g (t + 1) = rs g t := by
        rw [rs_s, @if_neg _ (Classical.propDecidable _) (fun w => hbt w.1)]
        exact Nat.add_zero _
      refine ⟨fun _ => hK _ _ ⟨nI_1 t, hf, fun z hz hpz h => n1 z hz hpz (by have := hne z hz; omega), fun z hz hpz h => n2 z hz hpz (by omega), n3, fun h hh hbh => ?_, by rw [hrk1]; exact n5, by rw [hrs1]; exact n6, ?_⟩, fun q => absurd (by decide) q⟩
      · by_cases e : h = t
        · rw [e] at hbh; exact absurd hbh hbt
        · exact n4 h (by omega) hbh
      · rcases n7 with ⟨q1, q2, q3⟩ | ⟨z, z1, z2, z3, z4, z5, z6⟩
        · refine Or.inl ⟨fun z hz => ?_, q2, q3⟩
          by_cases e : z = t
          · rw [e]; exact hbf
          · exact q1 z (by omega)
        · refine Or.inr ⟨z, by omega, z2, fun u hu hbu => ?_, z4, z5, z6⟩
          by_cases e : u = t
          · rw [e] at hbu; exact absurd hbu hbt
          · exact z3 u (by omega) hbu
  · rintro x b ⟨rfl, hf, hn⟩ K
    rw [(xN_nm hN hf).1]
    exact ⟨fun _ => hQ b hf hn, fun q => absurd (nI_le (Nat.le_refl S) (by omega)) q⟩
