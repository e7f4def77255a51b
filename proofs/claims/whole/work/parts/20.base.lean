/-! basics: loops by a counter, small rows -/
/-- the greatest k up to n with P -/
noncomputable def ub_gr (P : Nat → Prop) : Nat → Nat
  | 0 => 0
  | n + 1 => @ite Nat (P (n + 1)) (Classical.propDecidable _) (n + 1) (ub_gr P n)
theorem ub_gr_le (P : Nat → Prop) : ∀ n, ub_gr P n ≤ n
  | 0 => Nat.le_refl _
  | n + 1 => by
    unfold ub_gr
    by_cases h : P (n + 1)
    · rw [if_pos h]; exact Nat.le_refl _
    · rw [if_neg h]; exact Nat.le_succ_of_le (ub_gr_le P n)
theorem ub_gr_ge {P : Nat → Prop} : ∀ {n k : Nat}, k ≤ n → P k → k ≤ ub_gr P n
  | 0, k, h, _ => by omega
  | n + 1, k, h, hp => by
    unfold ub_gr
    by_cases h1 : P (n + 1)
    · rw [if_pos h1]; exact h
    · rw [if_neg h1]
      have : k ≠ n + 1 := fun q => h1 (q ▸ hp)
      exact ub_gr_ge (by omega) hp
theorem ub_gr_at {P : Nat → Prop} : ∀ {n k : Nat}, k ≤ n → P k → P (ub_gr P n)
  | 0, k, h, hp => by
    have : k = 0 := by omega
    subst this
    exact hp
  | n + 1, k, h, hp => by
    unfold ub_gr
    by_cases h1 : P (n + 1)
    · rw [if_pos h1]; exact h1
    · rw [if_neg h1]
      have : k ≠ n + 1 := fun q => h1 (q ▸ hp)
      exact ub_gr_at (k := k) (by omega) hp
theorem LW1.up {A0 : Type} {F : A0 → (A0 → Prop) → Prop} {x0 : A0} (N : Nat) (I : Nat → A0 → Prop) (h0 : I 0 x0) (hs : ∀ k y0, k < N → I k y0 → ∀ K : A0 → Prop, (∀ z0, I (k + 1) z0 → K z0) → F y0 K) (he : ∀ y0, I N y0 → ∀ K, F y0 K) : LW1 F x0 := by
  refine ⟨fun y0 => ∃ k, k ≤ N ∧ I k y0, fun y0 => N - ub_gr (fun k => I k y0) N, ⟨0, Nat.zero_le _, h0⟩, ?_⟩
  rintro y0 ⟨k, hk, hi⟩
  have h1 := ub_gr_at (P := fun k => I k y0) hk hi
  have h2 := ub_gr_le (fun k => I k y0) N
  obtain ⟨g, hg⟩ : ∃ g, g = ub_gr (fun k => I k y0) N := ⟨_, rfl⟩
  rw [← hg] at h1 h2
  rcases Nat.lt_or_ge g N with h | h
  · refine hs g y0 h h1 _ (fun z0 hz => ⟨⟨g + 1, h, hz⟩, ?_⟩)
    have h3 := ub_gr_ge (P := fun k => I k z0) h hz
    show N - ub_gr (fun k => I k z0) N < N - ub_gr (fun k => I k y0) N
    rw [← hg]
    omega
  · have : g = N := by omega
    subst this
    exact he y0 h1 _
theorem LW2.up {A0 A1 : Type} {F : A0 → A1 → (A0 → A1 → Prop) → Prop} {x0 : A0} {x1 : A1} (N : Nat) (I : Nat → A0 → A1 → Prop) (h0 : I 0 x0 x1) (hs : ∀ k y0 y1, k < N → I k y0 y1 → ∀ K : A0 → A1 → Prop, (∀ z0 z1, I (k + 1) z0 z1 → K z0 z1) → F y0 y1 K) (he : ∀ y0 y1, I N y0 y1 → ∀ K, F y0 y1 K) : LW2 F x0 x1 := by
  refine ⟨fun y0 y1 => ∃ k, k ≤ N ∧ I k y0 y1, fun y0 y1 => N - ub_gr (fun k => I k y0 y1) N, ⟨0, Nat.zero_le _, h0⟩, ?_⟩
  rintro y0 y1 ⟨k, hk, hi⟩
  have h1 := ub_gr_at (P := fun k => I k y0 y1) hk hi
  have h2 := ub_gr_le (fun k => I k y0 y1) N
  obtain ⟨g, hg⟩ : ∃ g, g = ub_gr (fun k => I k y0 y1) N := ⟨_, rfl⟩
  rw [← hg] at h1 h2
  rcases Nat.lt_or_ge g N with h | h
  · refine hs g y0 y1 h h1 _ (fun z0 z1 hz => ⟨⟨g + 1, h, hz⟩, ?_⟩)
    have h3 := ub_gr_ge (P := fun k => I k z0 z1) h hz
    show N - ub_gr (fun k => I k z0 z1) N < N - ub_gr (fun k => I k y0 y1) N
    rw [← hg]
    omega
  · have : g = N := by omega
    subst this
    exact he y0 y1 h1 _
theorem LW3.up {A0 A1 A2 : Type} {F : A0 → A1 → A2 → (A0 → A1 → A2 → Prop) → Prop} {x0 : A0} {x1 : A1} {x2 : A2} (N : Nat) (I : Nat → A0 → A1 → A2 → Prop) (h0 : I 0 x0 x1 x2) (hs : ∀ k y0 y1 y2, k < N → I k y0 y1 y2 → ∀ K : A0 → A1 → A2 → Prop, (∀ z0 z1 z2, I (k + 1) z0 z1 z2 → K z0 z1 z2) → F y0 y1 y2 K) (he : ∀ y0 y1 y2, I N y0 y1 y2 → ∀ K, F y0 y1 y2 K) : LW3 F x0 x1 x2 := by
  refine ⟨fun y0 y1 y2 => ∃ k, k ≤ N ∧ I k y0 y1 y2, fun y0 y1 y2 => N - ub_gr (fun k => I k y0 y1 y2) N, ⟨0, Nat.zero_le _, h0⟩, ?_⟩
  rintro y0 y1 y2 ⟨k, hk, hi⟩
  have h1 := ub_gr_at (P := fun k => I k y0 y1 y2) hk hi
  have h2 := ub_gr_le (fun k => I k y0 y1 y2) N
  obtain ⟨g, hg⟩ : ∃ g, g = ub_gr (fun k => I k y0 y1 y2) N := ⟨_, rfl⟩
  rw [← hg] at h1 h2
  rcases Nat.lt_or_ge g N with h | h
  · refine hs g y0 y1 y2 h h1 _ (fun z0 z1 z2 hz => ⟨⟨g + 1, h, hz⟩, ?_⟩)
    have h3 := ub_gr_ge (P := fun k => I k z0 z1 z2) h hz
    show N - ub_gr (fun k => I k z0 z1 z2) N < N - ub_gr (fun k => I k y0 y1 y2) N
    rw [← hg]
    omega
  · have : g = N := by omega
    subst this
    exact he y0 y1 y2 h1 _
theorem LW4.up {A0 A1 A2 A3 : Type} {F : A0 → A1 → A2 → A3 → (A0 → A1 → A2 → A3 → Prop) → Prop} {x0 : A0} {x1 : A1} {x2 : A2} {x3 : A3} (N : Nat) (I : Nat → A0 → A1 → A2 → A3 → Prop) (h0 : I 0 x0 x1 x2 x3) (hs : ∀ k y0 y1 y2 y3, k < N → I k y0 y1 y2 y3 → ∀ K : A0 → A1 → A2 → A3 → Prop, (∀ z0 z1 z2 z3, I (k + 1) z0 z1 z2 z3 → K z0 z1 z2 z3) → F y0 y1 y2 y3 K) (he : ∀ y0 y1 y2 y3, I N y0 y1 y2 y3 → ∀ K, F y0 y1 y2 y3 K) : LW4 F x0 x1 x2 x3 := by
  refine ⟨fun y0 y1 y2 y3 => ∃ k, k ≤ N ∧ I k y0 y1 y2 y3, fun y0 y1 y2 y3 => N - ub_gr (fun k => I k y0 y1 y2 y3) N, ⟨0, Nat.zero_le _, h0⟩, ?_⟩
  rintro y0 y1 y2 y3 ⟨k, hk, hi⟩
  have h1 := ub_gr_at (P := fun k => I k y0 y1 y2 y3) hk hi
  have h2 := ub_gr_le (fun k => I k y0 y1 y2 y3) N
  obtain ⟨g, hg⟩ : ∃ g, g = ub_gr (fun k => I k y0 y1 y2 y3) N := ⟨_, rfl⟩
  rw [← hg] at h1 h2
  rcases Nat.lt_or_ge g N with h | h
  · refine hs g y0 y1 y2 y3 h h1 _ (fun z0 z1 z2 z3 hz => ⟨⟨g + 1, h, hz⟩, ?_⟩)
    have h3 := ub_gr_ge (P := fun k => I k z0 z1 z2 z3) h hz
    show N - ub_gr (fun k => I k z0 z1 z2 z3) N < N - ub_gr (fun k => I k y0 y1 y2 y3) N
    rw [← hg]
    omega
  · have : g = N := by omega
    subst this
    exact he y0 y1 y2 y3 h1 _
theorem LW5.up {A0 A1 A2 A3 A4 : Type} {F : A0 → A1 → A2 → A3 → A4 → (A0 → A1 → A2 → A3 → A4 → Prop) → Prop} {x0 : A0} {x1 : A1} {x2 : A2} {x3 : A3} {x4 : A4} (N : Nat) (I : Nat → A0 → A1 → A2 → A3 → A4 → Prop) (h0 : I 0 x0 x1 x2 x3 x4) (hs : ∀ k y0 y1 y2 y3 y4, k < N → I k y0 y1 y2 y3 y4 → ∀ K : A0 → A1 → A2 → A3 → A4 → Prop, (∀ z0 z1 z2 z3 z4, I (k + 1) z0 z1 z2 z3 z4 → K z0 z1 z2 z3 z4) → F y0 y1 y2 y3 y4 K) (he : ∀ y0 y1 y2 y3 y4, I N y0 y1 y2 y3 y4 → ∀ K, F y0 y1 y2 y3 y4 K) : LW5 F x0 x1 x2 x3 x4 := by
  refine ⟨fun y0 y1 y2 y3 y4 => ∃ k, k ≤ N ∧ I k y0 y1 y2 y3 y4, fun y0 y1 y2 y3 y4 => N - ub_gr (fun k => I k y0 y1 y2 y3 y4) N, ⟨0, Nat.zero_le _, h0⟩, ?_⟩
  rintro y0 y1 y2 y3 y4 ⟨k, hk, hi⟩
  have h1 := ub_gr_at (P := fun k => I k y0 y1 y2 y3 y4) hk hi
  have h2 := ub_gr_le (fun k => I k y0 y1 y2 y3 y4) N
  obtain ⟨g, hg⟩ : ∃ g, g = ub_gr (fun k => I k y0 y1 y2 y3 y4) N := ⟨_, rfl⟩
  rw [← hg] at h1 h2
  rcases Nat.lt_or_ge g N with h | h
  · refine hs g y0 y1 y2 y3 y4 h h1 _ (fun z0 z1 z2 z3 z4 hz => ⟨⟨g + 1, h, hz⟩, ?_⟩)
    have h3 := ub_gr_ge (P := fun k => I k z0 z1 z2 z3 z4) h hz
    show N - ub_gr (fun k => I k z0 z1 z2 z3 z4) N < N - ub_gr (fun k => I k y0 y1 y2 y3 y4) N
    rw [← hg]
    omega
  · have : g = N := by omega
    subst this
    exact he y0 y1 y2 y3 y4 h1 _
theorem LW6.up {A0 A1 A2 A3 A4 A5 : Type} {F : A0 → A1 → A2 → A3 → A4 → A5 → (A0 → A1 → A2 → A3 → A4 → A5 → Prop) → Prop} {x0 : A0} {x1 : A1} {x2 : A2} {x3 : A3} {x4 : A4} {x5 : A5} (N : Nat) (I : Nat → A0 → A1 → A2 → A3 → A4 → A5 → Prop) (h0 : I 0 x0 x1 x2 x3 x4 x5) (hs : ∀ k y0 y1 y2 y3 y4 y5, k < N → I k y0 y1 y2 y3 y4 y5 → ∀ K : A0 → A1 → A2 → A3 → A4 → A5 → Prop, (∀ z0 z1 z2 z3 z4 z5, I (k + 1) z0 z1 z2 z3 z4 z5 → K z0 z1 z2 z3 z4 z5) → F y0 y1 y2 y3 y4 y5 K) (he : ∀ y0 y1 y2 y3 y4 y5, I N y0 y1 y2 y3 y4 y5 → ∀ K, F y0 y1 y2 y3 y4 y5 K) : LW6 F x0 x1 x2 x3 x4 x5 := by
  refine ⟨fun y0 y1 y2 y3 y4 y5 => ∃ k, k ≤ N ∧ I k y0 y1 y2 y3 y4 y5, fun y0 y1 y2 y3 y4 y5 => N - ub_gr (fun k => I k y0 y1 y2 y3 y4 y5) N, ⟨0, Nat.zero_le _, h0⟩, ?_⟩
  rintro y0 y1 y2 y3 y4 y5 ⟨k, hk, hi⟩
  have h1 := ub_gr_at (P := fun k => I k y0 y1 y2 y3 y4 y5) hk hi
  have h2 := ub_gr_le (fun k => I k y0 y1 y2 y3 y4 y5) N
  obtain ⟨g, hg⟩ : ∃ g, g = ub_gr (fun k => I k y0 y1 y2 y3 y4 y5) N := ⟨_, rfl⟩
  rw [← hg] at h1 h2
  rcases Nat.lt_or_ge g N with h | h
  · refine hs g y0 y1 y2 y3 y4 y5 h h1 _ (fun z0 z1 z2 z3 z4 z5 hz => ⟨⟨g + 1, h, hz⟩, ?_⟩)
    have h3 := ub_gr_ge (P := fun k => I k z0 z1 z2 z3 z4 z5) h hz
    show N - ub_gr (fun k => I k z0 z1 z2 z3 z4 z5) N < N - ub_gr (fun k => I k y0 y1 y2 y3 y4 y5) N
    rw [← hg]
    omega
  · have : g = N := by omega
    subst this
    exact he y0 y1 y2 y3 y4 y5 h1 _
theorem LW7.up {A0 A1 A2 A3 A4 A5 A6 : Type} {F : A0 → A1 → A2 → A3 → A4 → A5 → A6 → (A0 → A1 → A2 → A3 → A4 → A5 → A6 → Prop) → Prop} {x0 : A0} {x1 : A1} {x2 : A2} {x3 : A3} {x4 : A4} {x5 : A5} {x6 : A6} (N : Nat) (I : Nat → A0 → A1 → A2 → A3 → A4 → A5 → A6 → Prop) (h0 : I 0 x0 x1 x2 x3 x4 x5 x6) (hs : ∀ k y0 y1 y2 y3 y4 y5 y6, k < N → I k y0 y1 y2 y3 y4 y5 y6 → ∀ K : A0 → A1 → A2 → A3 → A4 → A5 → A6 → Prop, (∀ z0 z1 z2 z3 z4 z5 z6, I (k + 1) z0 z1 z2 z3 z4 z5 z6 → K z0 z1 z2 z3 z4 z5 z6) → F y0 y1 y2 y3 y4 y5 y6 K) (he : ∀ y0 y1 y2 y3 y4 y5 y6, I N y0 y1 y2 y3 y4 y5 y6 → ∀ K, F y0 y1 y2 y3 y4 y5 y6 K) : LW7 F x0 x1 x2 x3 x4 x5 x6 := by
  refine ⟨fun y0 y1 y2 y3 y4 y5 y6 => ∃ k, k ≤ N ∧ I k y0 y1 y2 y3 y4 y5 y6, fun y0 y1 y2 y3 y4 y5 y6 => N - ub_gr (fun k => I k y0 y1 y2 y3 y4 y5 y6) N, ⟨0, Nat.zero_le _, h0⟩, ?_⟩
  rintro y0 y1 y2 y3 y4 y5 y6 ⟨k, hk, hi⟩
  have h1 := ub_gr_at (P := fun k => I k y0 y1 y2 y3 y4 y5 y6) hk hi
  have h2 := ub_gr_le (fun k => I k y0 y1 y2 y3 y4 y5 y6) N
  obtain ⟨g, hg⟩ : ∃ g, g = ub_gr (fun k => I k y0 y1 y2 y3 y4 y5 y6) N := ⟨_, rfl⟩
  rw [← hg] at h1 h2
  rcases Nat.lt_or_ge g N with h | h
  · refine hs g y0 y1 y2 y3 y4 y5 y6 h h1 _ (fun z0 z1 z2 z3 z4 z5 z6 hz => ⟨⟨g + 1, h, hz⟩, ?_⟩)
    have h3 := ub_gr_ge (P := fun k => I k z0 z1 z2 z3 z4 z5 z6) h hz
    show N - ub_gr (fun k => I k z0 z1 z2 z3 z4 z5 z6) N < N - ub_gr (fun k => I k y0 y1 y2 y3 y4 y5 y6) N
    rw [← hg]
    omega
  · have : g = N := by omega
    subst this
    exact he y0 y1 y2 y3 y4 y5 y6 h1 _
theorem us_1 (a : ud_St) (k j : Nat) (v : Int32) (k' j' : Nat) : (ud_sv a k j v).1 k' j' = if k' = k ∧ j' = j then v else a.1 k' j' := rfl
theorem us_2 (a : ud_St) (k j : Nat) (v : Int32) : (ud_sv a k j v).2 = a.2 := rfl
theorem us_l1 (a : ud_St) (k j : Nat) (v : Int64) : (ud_sl a k j v).1 = a.1 := rfl
theorem us_l2 (a : ud_St) (k j : Nat) (v : Int64) (k' j' : Nat) : (ud_sl a k j v).2.1 k' j' = if k' = k ∧ j' = j then v else a.2.1 k' j' := rfl
theorem us_l3 (a : ud_St) (k j : Nat) (v : Int64) : (ud_sl a k j v).2.2 = a.2.2 := rfl
theorem ui_0 : (0 : Int32) = nI 0 := rfl
theorem ui_1 : (1 : Int32) = nI 1 := rfl
theorem ui_n (n : Nat) : (OfNat.ofNat n : Int32) = nI n := rfl
/-- nI n - 1 -/
theorem ui_pred {n : Nat} (h : 0 < n) : nI n - 1 = nI (n - 1) := by
  obtain ⟨m, rfl⟩ : ∃ m, n = m + 1 := ⟨n - 1, by omega⟩
  exact nI_pred m
theorem ui_sub {a b : Nat} (h : b ≤ a) : nI a - nI b = nI (a - b) := by
  have h1 : nI (a - b) + nI b = nI a := by rw [nI_add, Nat.sub_add_cancel h]
  rw [← h1, Int32.add_sub_cancel]
theorem ui_mul (a b : Nat) : nI a * nI b = nI (a * b) := by
  unfold nI
  rw [← Int32.ofNat_mul]
theorem ui_div {a b : Nat} (ha : a < 2 ^ 31) (hb : b < 2 ^ 31) : nI a / nI b = nI (a / b) := by
  apply Int32.toInt_inj.mp
  have h3 : a / b < 2 ^ 31 := Nat.lt_of_le_of_lt (Nat.div_le_self a b) ha
  rw [Int32.toInt_div, nI_toInt ha, nI_toInt hb, nI_toInt h3, ← Int.ofNat_tdiv]
  generalize a / b = q at h3 ⊢
  exact Int.bmod_eq_of_le (by omega) (by omega)
theorem ui_mod {a b : Nat} (ha : a < 2 ^ 31) (hb : b < 2 ^ 31) : nI a % nI b = nI (a % b) := by
  apply Int32.toInt_inj.mp
  have h3 : a % b < 2 ^ 31 := Nat.lt_of_le_of_lt (Nat.mod_le a b) ha
  rw [Int32.toInt_mod, nI_toInt ha, nI_toInt hb, nI_toInt h3, ← Int.ofNat_tmod]
theorem ui_neg1 : (-1 : Int32) < 0 := by decide
theorem ui_ne1 {k : Nat} (h : k < 2 ^ 31) : ¬ nI k = -1 := fun q => by
  have h1 := congrArg Int32.toInt q
  rw [nI_toInt h] at h1
  have h2 : (-1 : Int32).toInt = -1 := by decide
  omega
/-- a value that is no small number -/
theorem ui_cases (x : Int32) : x < 0 ∨ ∃ k, k < 2 ^ 31 ∧ x = nI k := by
  by_cases h : x < 0
  · exact Or.inl h
  · exact Or.inr (nI_of h)
theorem ui_ltn {k n : Nat} (hk : k < 2 ^ 31) (hn : n < 2 ^ 31) : (¬ nI n ≤ nI k) ↔ k < n := by rw [nI_leI hn hk]; omega
/-- Cells -/
def uat (a : ud_St) (k n : Nat) (x : Int32) : Int32 := if x < 0 then 0 else if nI n ≤ x then 0 else a.1 k x.toNatClampNeg
theorem ub_at {a : ud_St} {k n : Nat} {x : Int32} {Q : Int32 → Prop} (hn : n < 2 ^ 31) (h : Q (uat a k n x)) : w_Cells_at a k n x Q := by
  unfold w_Cells_at
  unfold uat at h
  refine ⟨fun h1 => ?_, fun h1 => ⟨fun h2 => ?_, fun h2 => ⟨?_, ?_⟩⟩⟩
  · rwa [if_pos h1] at h
  · rwa [if_neg h1, if_pos h2] at h
  · obtain ⟨j, hj, rfl⟩ := nI_of h1
    exact vp_in_nI ((ui_ltn hj hn).mp h2) hn
  · rwa [if_neg h1, if_neg h2] at h
theorem uat_in {a : ud_St} {k n j : Nat} (hj : j < n) (hn : n < 2 ^ 31) : uat a k n (nI j) = a.1 k j := by
  unfold uat
  rw [if_neg (nI_pos (by omega)), if_neg ((ui_ltn (by omega) hn).mpr hj), nI_clamp (by omega)]
theorem ub_atn {a : ud_St} {k n j : Nat} {Q : Int32 → Prop} (hj : j < n) (hn : n < 2 ^ 31) (h : Q (a.1 k j)) : w_Cells_at a k n (nI j) Q := ub_at hn (by rw [uat_in hj hn]; exact h)
theorem ub_putn {a : ud_St} {k n j : Nat} {v : Int32} {Q : ud_St → Prop} (hj : j < n) (hn : n < 2 ^ 31) (h : Q (ud_sv a k j v)) : w_Cells_put a k n (nI j) v Q := by
  unfold w_Cells_put
  refine ⟨fun h1 => absurd h1 (nI_pos (by omega)), fun _ => ⟨fun h2 => absurd h2 ((ui_ltn (by omega) hn).mpr hj), fun _ => ⟨vp_in_nI hj hn, ?_⟩⟩⟩
  rw [nI_clamp (by omega)]
  exact h
theorem ub_over {a : ud_St} {x y : Nat} {Q : Int32 → Prop} (hx : x < 2 ^ 31) (hy : 0 < y) (hy2 : y < 2 ^ 31) (h : Q (nI (x % y))) : w_Cells_over a (nI x) (nI y) Q := by
  unfold w_Cells_over
  refine ⟨fun h1 => absurd h1 (nI_nle hy hy2), fun _ => ⟨nI_ne0 hy hy2, ?_⟩⟩
  rw [ui_mod hx hy2]
  exact h
theorem ub_part {a : ud_St} {x y : Nat} {Q : Int32 → Prop} (hx : x < 2 ^ 31) (hy : 0 < y) (hy2 : y < 2 ^ 31) (h : Q (nI (x / y))) : w_Cells_part a (nI x) (nI y) Q := by
  unfold w_Cells_part
  refine ⟨fun h1 => absurd h1 (nI_nle hy hy2), fun _ => ⟨nI_ne0 hy hy2, ?_⟩⟩
  rw [ui_div hx hy2]
  exact h
