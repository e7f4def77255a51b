/-! what is asked of arguments, on both sides -/
theorem lI_toInt (x : Int32) : x.toInt64.toInt = x.toInt := Int32.toInt_toInt64 x
theorem l0_toInt : (0 : Int64).toInt = 0 := by decide
theorem m_in {a : ud_St} {x lo hi : Int64} {Q : Int32 → Prop} (h1 : lo.toInt ≤ x.toInt → x.toInt ≤ hi.toInt → Q 1) (h0 : ¬ (lo.toInt ≤ x.toInt ∧ x.toInt ≤ hi.toInt) → Q 0) : w_Model_in a x lo hi Q := by
  unfold w_Model_in
  refine ⟨fun q => h0 (fun z => ?_), fun q => ⟨fun q2 => h0 (fun z => ?_), fun q2 => h1 ?_ ?_⟩⟩
  · have q' := Int64.lt_iff_toInt_lt.mp ((lg_cmp_lt _ _).mp q); omega
  · have q' := Int64.lt_iff_toInt_lt.mp ((lg_cmp_gt _ _).mp q2); omega
  · rcases Int.lt_or_le x.toInt lo.toInt with w | w
    · exact absurd ((lg_cmp_lt _ _).mpr (Int64.lt_iff_toInt_lt.mpr w)) q
    · exact w
  · rcases Int.lt_or_le hi.toInt x.toInt with w | w
    · exact absurd ((lg_cmp_gt _ _).mpr (Int64.lt_iff_toInt_lt.mpr w)) q2
    · exact w
theorem iz_toInt {x : Int32} (h : 0 ≤ x.toInt) : ∃ k : Nat, k < 2 ^ 31 ∧ x = nI k := by
  refine nI_of (fun q => ?_)
  have := Int32.lt_iff_toInt_lt.mp q
  have h0 : (0 : Int32).toInt = 0 := by decide
  omega
/-- in(x, 0, n - 1) -/
theorem m_in0 {a : ud_St} {x : Int32} {hi : Int64} {Q : Int32 → Prop} (n : Nat) (hn : n ≤ 2 ^ 31) (hh : hi.toInt = (n : Int) - 1) (h1 : ∀ k, k < n → x = nI k → Q 1) (h0 : (∀ k, k < n → x ≠ nI k) → Q 0) : w_Model_in a x.toInt64 0 hi Q := by
  refine m_in (fun q1 q2 => ?_) (fun q => h0 (fun k hk e => q ?_))
  · rw [l0_toInt, lI_toInt] at q1
    rw [lI_toInt] at q2
    obtain ⟨k, hk, rfl⟩ := iz_toInt q1
    rw [nI_toInt hk] at q2
    exact h1 k (by omega) rfl
  · subst e
    rw [l0_toInt, lI_toInt, nI_toInt (by omega)]
    omega
/-- in(x, 1, n) -/
theorem m_in1 {a : ud_St} {x : Int32} {hi : Int64} {Q : Int32 → Prop} (n : Nat) (hn : n < 2 ^ 31) (hh : hi.toInt = (n : Int)) (h1 : ∀ k, 1 ≤ k → k ≤ n → x = nI k → Q 1) (h0 : (∀ k, 1 ≤ k → k ≤ n → x ≠ nI k) → Q 0) : w_Model_in a x.toInt64 1 hi Q := by
  have l1 : (1 : Int64).toInt = 1 := by decide
  refine m_in (fun q1 q2 => ?_) (fun q => h0 (fun k hk1 hk e => q ?_))
  · rw [l1, lI_toInt] at q1
    rw [lI_toInt] at q2
    obtain ⟨k, hk, rfl⟩ := iz_toInt (x := x) (by omega)
    rw [nI_toInt hk] at q1 q2
    exact h1 k (by omega) (by omega) rfl
  · subst e
    rw [l1, lI_toInt, nI_toInt (by omega)]
    omega
theorem hi_A {n : Nat} (h : n < 2 ^ 31) : ((nI n).toInt64 - 1).toInt = (n : Int) - 1 := by
  have e : (nI n).toInt64.toInt = (n : Int) := by rw [lI_toInt, nI_toInt h]
  have l1 : (1 : Int64).toInt = 1 := by decide
  rw [fb_subL (by rw [e, l1]; omega) (by rw [e, l1]; omega), e, l1]
theorem hi_B {n : Nat} (h : n < 2 ^ 31) : ((nI n - 1).toInt64).toInt = (n : Int) - 1 := by
  have l1 : (1 : Int32).toInt = 1 := by decide
  rw [lI_toInt, fb_subI (by rw [nI_toInt h, l1]; omega) (by rw [nI_toInt h, l1]; omega), nI_toInt h, l1]
theorem hi_C {n : Nat} (h : n < 2 ^ 31) : ((nI n).toInt64).toInt = ((n + 1 : Nat) : Int) - 1 := by
  rw [lI_toInt, nI_toInt h]; omega
/-- x < 0, n ≤ x -/
theorem ar_ge {x : Int32} {n : Nat} {A B C : Prop} (hn : n < 2 ^ 31) (hA : (∀ k, k < n → x ≠ nI k) → A) (hB : (∀ k, k < n → x ≠ nI k) → B) (hC : ∀ k, k < n → x = nI k → C) : (x < 0 → A) ∧ (¬ x < 0 → ((nI n ≤ x → B) ∧ (¬ nI n ≤ x → C))) := by
  refine ⟨fun q => hA (fun k hk e => ?_), fun q => ?_⟩
  · rw [e] at q; exact nI_pos (by omega) q
  · obtain ⟨k, hk, rfl⟩ := nI_of q
    refine ⟨fun z => hB (fun j hj e => ?_), fun z => hC k ((ui_ltn hk hn).mp z) rfl⟩
    have := (nI_eq hk (by omega)).mp e
    have := (nI_leI hn hk).mp z
    omega
/-- x < 0, m < x -/
theorem ar_gt {x : Int32} {A B C : Prop} (m : Nat) (hn : m < 2 ^ 31) (hA : (∀ k, k < m + 1 → x ≠ nI k) → A) (hB : (∀ k, k < m + 1 → x ≠ nI k) → B) (hC : ∀ k, k < m + 1 → x = nI k → C) : (x < 0 → A) ∧ (¬ x < 0 → ((nI m < x → B) ∧ (¬ nI m < x → C))) := by
  refine ⟨fun q => hA (fun k hk e => ?_), fun q => ?_⟩
  · rw [e] at q; exact nI_pos (by omega) q
  · obtain ⟨k, hk, rfl⟩ := nI_of q
    refine ⟨fun z => hB (fun j hj e => ?_), fun z => hC k ?_ rfl⟩
    · have := (nI_eq hk (by omega)).mp e
      have := (nI_ltI hn hk).mp z
      omega
    · rcases Nat.lt_or_ge m k with w | w
      · exact absurd (nI_lt w hk) z
      · omega
/-- x < 0, x ≤ m -/
theorem ar_le {x : Int32} {A B C : Prop} (m : Nat) (hn : m < 2 ^ 31) (hA : (∀ k, k < m + 1 → x ≠ nI k) → A) (hB : (∀ k, k < m + 1 → x ≠ nI k) → B) (hC : ∀ k, k < m + 1 → x = nI k → C) : (x < 0 → A) ∧ (¬ x < 0 → ((x ≤ nI m → C) ∧ (¬ x ≤ nI m → B))) := by
  refine ⟨fun q => hA (fun k hk e => ?_), fun q => ?_⟩
  · rw [e] at q; exact nI_pos (by omega) q
  · obtain ⟨k, hk, rfl⟩ := nI_of q
    refine ⟨fun z => hC k ?_ rfl, fun z => hB (fun j hj e => ?_)⟩
    · have := (nI_leI hk hn).mp z; omega
    · have := (nI_eq hk (by omega)).mp e
      have := (ui_ltn hn hk).mp z
      omega
/-- x < 0, x < n -/
theorem ar_lt {x : Int32} {A B C : Prop} (n : Nat) (hn : n < 2 ^ 31) (hA : (∀ k, k < n → x ≠ nI k) → A) (hB : (∀ k, k < n → x ≠ nI k) → B) (hC : ∀ k, k < n → x = nI k → C) : (x < 0 → A) ∧ (¬ x < 0 → ((x < nI n → C) ∧ (¬ x < nI n → B))) := by
  refine ⟨fun q => hA (fun k hk e => ?_), fun q => ?_⟩
  · rw [e] at q; exact nI_pos (by omega) q
  · obtain ⟨k, hk, rfl⟩ := nI_of q
    refine ⟨fun z => hC k ((nI_ltI hk hn).mp z) rfl, fun z => hB (fun j hj e => ?_)⟩
    have := (nI_eq hk (by omega)).mp e
    exact z (nI_lt (by omega) hn)
/-- the two answers of a test -/
theorem t0 {A B : Prop} (h : A) : ((0 : Int32) = 0 → A) ∧ (¬ (0 : Int32) = 0 → B) := ⟨fun _ => h, fun q => absurd rfl q⟩
theorem t1 {A B : Prop} (h : B) : ((1 : Int32) = 0 → A) ∧ (¬ (1 : Int32) = 0 → B) := ⟨fun q => absurd q (by decide), fun _ => h⟩
theorem x_isNumber {a : ud_St} {x : Int32} {S : Nat} {Q : Int32 → Prop} (hS : a.1 4 2 = nI S) (hS2 : S < 2 ^ 31) (h1 : ∀ k, k < S → x = nI k → Q 1) (h0 : (∀ k, k < S → x ≠ nI k) → Q 0) : w_UpAndDown_isNumber a x Q := by
  unfold w_UpAndDown_isNumber
  rw [hS]
  exact ar_ge hS2 h0 h0 h1
theorem m_isNumberL {a : ud_St} {x : Int64} {S : Nat} {Q : Int32 → Prop} (hS : a.1 78 2 = nI S) (hS2 : S < 2 ^ 31) (h1 : 0 ≤ x.toInt → x.toInt < S → Q 1) (h0 : ¬ (0 ≤ x.toInt ∧ x.toInt < S) → Q 0) : w_Model_isNumber a x Q := by
  unfold w_Model_isNumber
  simp only [tN_2, hS]
  refine ⟨vi_2 (by omega), m_in (fun q1 q2 => ⟨Or.inr rfl, h1 ?_ ?_⟩) (fun q => ⟨Or.inl rfl, h0 (fun z => q ?_)⟩)⟩
  · rw [l0_toInt] at q1; exact q1
  · rw [hi_A hS2] at q2; omega
  · rw [l0_toInt, hi_A hS2]; omega
theorem m_isNumber {a : ud_St} {x : Int32} {S : Nat} {Q : Int32 → Prop} (hS : a.1 78 2 = nI S) (hS2 : S < 2 ^ 31) (h1 : ∀ k, k < S → x = nI k → Q 1) (h0 : (∀ k, k < S → x ≠ nI k) → Q 0) : w_Model_isNumber a x.toInt64 Q := by
  unfold w_Model_isNumber
  simp only [tN_2, hS]
  exact ⟨vi_2 (by omega), m_in0 S (by omega) (hi_A hS2) (fun k hk e => ⟨Or.inr rfl, h1 k hk e⟩) (fun h => ⟨Or.inl rfl, h0 h⟩)⟩
theorem x_isWord {a : ud_St} {x : Int32} {S : Nat} {Q : Int32 → Prop} (hS : a.1 5 2 = nI S) (hS2 : S < 2 ^ 31) (h1 : ∀ k, k < S → x = nI k → Q 1) (h0 : (∀ k, k < S → x ≠ nI k) → Q 0) : w_UpAndDown_isWord a x Q := by
  unfold w_UpAndDown_isWord
  rw [hS]
  exact ar_ge hS2 h0 h0 h1
theorem m_isWord {a : ud_St} {x : Int32} {S : Nat} {Q : Int32 → Prop} (hS : a.1 78 3 = nI S) (hS2 : S < 2 ^ 31) (h1 : ∀ k, k < S → x = nI k → Q 1) (h0 : (∀ k, k < S → x ≠ nI k) → Q 0) : w_Model_isWord a x Q := by
  unfold w_Model_isWord
  simp only [tN_3, hS]
  exact ⟨vi_3 (by omega), m_in0 S (by omega) (hi_B hS2) (fun k hk e => ⟨Or.inr rfl, h1 k hk e⟩) (fun h => ⟨Or.inl rfl, h0 h⟩)⟩
theorem m_isSlot {a : ud_St} {x : Int32} {Q : Int32 → Prop} (h1 : ∀ k, k < 4 → x = nI k → Q 1) (h0 : (∀ k, k < 4 → x ≠ nI k) → Q 0) : w_Model_isSlot a x Q := by
  unfold w_Model_isSlot
  exact m_in0 4 (by omega) (by decide) (fun k hk e => ⟨Or.inr rfl, h1 k hk e⟩) (fun h => ⟨Or.inl rfl, h0 h⟩)
theorem x_slotAt {a : ud_St} {x : Int32} {Q : Option Nat → Prop} (h1 : ∀ k, k < 4 → x = nI k → Q (some (62 + 2 * k))) (h0 : (∀ k, k < 4 → x ≠ nI k) → Q none) : w_UpAndDown_slotAt a x Q := by
  unfold w_UpAndDown_slotAt
  refine ar_ge (n := 4) (by omega) h0 h0 (fun k hk e => ⟨by rw [e]; exact vp_in_nI hk (by omega), ?_⟩)
  rw [e, nI_clamp (by omega)]
  exact h1 k hk e
/-- whether there is a table -/
theorem tS_pos {t : TD} (h : tOK t) : 0 < tS t ↔ 0 < t 0 2 := by
  unfold tS
  rcases h with ⟨q, -⟩ | ⟨q, -, q2, -⟩
  · rw [if_pos q, q]
  · rw [if_neg (by omega)]
    have : 0 < t 0 0 ^ t 0 1 := Nat.pow_pos (by omega)
    omega
theorem tS_le {t : TD} (h : tOK t) : tS t ≤ 10000 := by
  unfold tS
  rcases h with ⟨q, -⟩ | ⟨q, -, q2, -, -, -, q3, -⟩
  · rw [if_pos q]; omega
  · rw [if_neg (by omega)]; exact q3
theorem tS_eq {t : TD} (h : 0 < tS t) : tS t = t 0 0 ^ t 0 1 := by
  unfold tS at h ⊢
  by_cases q : t 0 2 = 0
  · rw [if_pos q] at h; omega
  · rw [if_neg q]
theorem tL_lt {t : TD} (h : tOK t) : t 0 2 ≤ 1000 := by
  rcases h with ⟨q, -⟩ | ⟨q, q2, -⟩ <;> omega
theorem x_hasTable {a : ud_St} {t : TD} {Q : Int32 → Prop} (h : tOK t) (hx : xT a 4 t) (h1 : 0 < tS t → Q 1) (h0 : tS t = 0 → Q 0) : w_UpAndDown_hasTable a Q := by
  unfold w_UpAndDown_hasTable
  rw [hx.2.2.1]
  have := tS_le h
  refine ⟨fun q => h0 ?_, fun q => h1 ?_⟩
  · have := (nI_leI (b := 0) (by omega) (by omega)).mp q
    omega
  · rcases Nat.eq_zero_or_pos (tS t) with w | w
    · exact absurd (by rw [w]; decide) q
    · exact w
theorem m_isTable {a : ud_St} {t : TD} {Q : Int32 → Prop} (h : tOK t) (hm : mT a 0 t) (h1 : 0 < tS t → Q 1) (h0 : tS t = 0 → Q 0) : w_Model_isTable a Q := by
  unfold w_Model_isTable
  simp only [tN_0, hm.1]
  have := tL_lt h
  have hp := tS_pos h
  refine ⟨vi_0 (by omega), fun q => h0 ?_, fun q => h1 ?_⟩
  · have := (nI_leI (b := 0) (by omega) (by omega)).mp q
    omega
  · rcases Nat.eq_zero_or_pos (t 0 2) with w | w
    · exact absurd (by rw [w]; decide) q
    · omega
/-- a table, as its figures and words -/
theorem mF_of {a : ud_St} {t : TD} (h : tOK t) (hm : mT a 0 t) (hp : 0 < tS t) : mF a (t 0 0) (t 0 1) := by
  have e := tS_eq hp
  have hp2 := (tS_pos h).mp hp
  obtain ⟨h1, h2, h3, h4, -⟩ := hm
  rcases h with ⟨q, -⟩ | ⟨-, -, q2, q3, q4, q5, q6, -⟩
  · omega
  · exact ⟨h2, h3, by rw [← e]; exact h4, q2, q3, q4, q5, q6⟩
theorem mW_of {a : ud_St} {t : TD} (h : tOK t) (hm : mT a 0 t) (hp : 0 < tS t) : mW a (t 0 0) (t 0 3) (t 1) (t 2) ∧ a.1 78 3 = nI (t 0 3) := by
  have hp2 := (tS_pos h).mp hp
  obtain ⟨h1, h2, h3, h4, h5, h6, h7, h8, -⟩ := hm
  rcases h with ⟨q, -⟩ | ⟨-, -, q2, q3, q4, q5, q6, q7, -, -, q8, -⟩
  · omega
  · refine ⟨⟨q7, fun i hi => ?_⟩, h5⟩
    have := h8 i hi
    rw [show 24 * 0 + 2 * i = 2 * i by omega] at this
    exact ⟨this.1, this.2, q8 i hi⟩
theorem xF_of {a : ud_St} {t : TD} (h : tOK t) (hf : figOK a (t 0 0) (t 0 1)) (hp : 0 < tS t) : xF a (t 0 0) (t 0 1) ∧ xP a (t 0 0) (t 0 1) ∧ xG a (t 0 0) (t 0 1) := by
  have hp2 := (tS_pos h).mp hp
  rcases h with ⟨q, -⟩ | ⟨-, -, q2, -⟩
  · omega
  · rcases hf with ⟨q, -⟩ | q
    · omega
    · exact q
theorem xW_of {a : ud_St} {t : TD} (h : tOK t) (hx : xT a 4 t) (hp : 0 < tS t) : xW a 5 (t 0 3) (t 1) (t 2) := by
  have hp2 := (tS_pos h).mp hp
  obtain ⟨h1, h2, h3, h4, h5, h6, h7, h8, h9, -⟩ := hx
  rcases h with ⟨q, -⟩ | ⟨-, -, q2, q3, q4, q5, q6, q7, -, -, q8, -⟩
  · omega
  · exact ⟨q7, h6, fun i hi => ⟨(h9 i hi).1, (h9 i hi).2, (q8 i hi).1, wok_99 q3 (q8 i hi)⟩⟩
theorem t3_le {t : TD} (h : tOK t) : t 0 3 ≤ 12 ∧ t 0 4 ≤ 6 ∧ t 0 5 ≤ 20 ∧ t 0 0 ≤ 16 ∧ t 0 1 ≤ 8 := by
  rcases h with ⟨-, q1, q2, q3, q4, q5⟩ | ⟨-, -, q2, q3, q4, q5, q6, q7, q8, q9, -⟩ <;> omega
