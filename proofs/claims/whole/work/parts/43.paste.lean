/-! paste, count -/
theorem n2 {x : Int32} {y : Int32} (hx : ¬ x < 0) (hy : ¬ y < 0) : ∃ i n : Nat, i < 2 ^ 31 ∧ n < 2 ^ 31 ∧ x = nI i ∧ y = nI n := by
  obtain ⟨i, hi, e⟩ := nI_of hx
  obtain ⟨n, hn, e2⟩ := nI_of hy
  exact ⟨i, n, hi, hn, e, e2⟩
theorem ladd {i n : Nat} (hi : i < 2 ^ 31) (hn : n < 2 ^ 31) : ((nI i).toInt64 + (nI n).toInt64).toInt = (i : Int) + n := by
  have h1 : (nI i).toInt64.toInt = (i : Int) := by rw [lI_toInt, nI_toInt hi]
  have h2 : (nI n).toInt64.toInt = (n : Int) := by rw [lI_toInt, nI_toInt hn]
  rw [fb_addL (by rw [h1, h2]; omega) (by rw [h1, h2]; omega), h1, h2]
theorem lgt {i n m : Nat} (hi : i < 2 ^ 31) (hn : n < 2 ^ 31) (hm : m < 2 ^ 31) : (0 < lg_cmp ((nI i).toInt64 + (nI n).toInt64) (nI m).toInt64) ↔ m < i + n := by
  rw [lg_cmp_gt, Int64.lt_iff_toInt_lt, ladd hi hn, lI_toInt, nI_toInt hm]; omega
theorem lle {i n m : Nat} (hi : i < 2 ^ 31) (hn : n < 2 ^ 31) (hm : m < 2 ^ 31) : (lg_cmp ((nI i).toInt64 + (nI n).toInt64) (nI m).toInt64 ≤ 0) ↔ i + n ≤ m := by
  rw [lg_cmp_le, Int64.le_iff_toInt_le, ladd hi hn, lI_toInt, nI_toInt hm]; omega
/-- spans: i and n are not below 0, i + n is no more than the count -/
theorem x_spans {a : ud_St} {q m : Nat} {x y : Int32} {Q : Int32 → Prop} (h3 : a.1 q 3 = nI m) (hm : m ≤ 60) (h1 : ∀ i n, i + n ≤ m → x = nI i → y = nI n → Q 1) (h0 : (¬ ∃ i n : Nat, i + n ≤ m ∧ x = nI i ∧ y = nI n) → Q 0) : w_Slot_spans a q x y Q := by
  unfold w_Slot_spans
  rw [h3]
  refine ⟨fun z => h0 (fun ⟨i, n, _, e, _⟩ => by rw [e] at z; exact nI_pos (by omega) z), fun z => ⟨fun z2 => h0 (fun ⟨i, n, _, _, e⟩ => by rw [e] at z2; exact nI_pos (by omega) z2), fun z2 => ?_⟩⟩
  obtain ⟨i, n, hi, hn, e, e2⟩ := n2 z z2
  have inj : ∀ j k : Nat, j + k ≤ m → x = nI j → y = nI k → j = i ∧ k = n := fun j k hjk q1 q2 => ⟨(nI_eq (by omega) hi).mp (q1.symm.trans e), (nI_eq (by omega) hn).mp (q2.symm.trans e2)⟩
  subst e e2
  refine ⟨fun w => h0 (fun ⟨j, k, q0, q1, q2⟩ => ?_), fun w => ?_⟩
  · have := inj j k q0 q1 q2
    have := (nI_ltI (by omega) hi).mp w
    omega
  · have him : i ≤ m := by
      rcases Nat.lt_or_ge m i with w2 | w2
      · exact absurd (nI_lt w2 hi) w
      · exact w2
    rw [ui_sub him]
    refine ⟨fun w => h0 (fun ⟨j, k, q0, q1, q2⟩ => ?_), fun w => h1 i n ?_ rfl rfl⟩
    · have := inj j k q0 q1 q2
      have := (nI_ltI (by omega) hn).mp w
      omega
    · rcases Nat.lt_or_ge (m - i) n with w2 | w2
      · exact absurd (nI_lt w2 hn) w
      · omega
/-- the slots' side of the invariant, read off -/
theorem JS_at {a : ud_St} (h : JS a) {s : Nat} (hs : s < 4) : (a.1 (62 + 2 * s) 1 = 0 ∧ a.1 72 s = -1) ∨ (a.1 (62 + 2 * s) 1 = 1 ∧ ∃ w c, w < 4 ∧ c ≤ 60 ∧ a.1 (62 + 2 * s) 2 = nI w ∧ a.1 72 s = nI w ∧ a.1 (62 + 2 * s) 3 = nI c ∧ a.1 73 s = nI c ∧ ∀ j, j < c → a.2.1 (62 + 2 * s + 1) j = a.2.1 74 (60 * s + j)) := h s hs
theorem m_pasted {a0 b : ud_St} {x1 x2 x3 x4 x5 : Int32} {s i s2 k n : Nat} {Q : Int32 → ud_St → Prop} (hs : s < 4) (hs2 : s2 < 4) (hi : i + n ≤ 60) (hk : k + n ≤ 60) (hQ : ∀ c, c.1 = b.1 → c.2.2 = b.2.2 → (∀ k' j, k' ≠ 74 → k' ≠ 75 → c.2.1 k' j = b.2.1 k' j) → (∀ j, c.2.1 74 j = if 60 * s2 + k ≤ j ∧ j < 60 * s2 + k + n then b.2.1 74 (60 * s + i + (j - (60 * s2 + k))) else b.2.1 74 j) → Q 0 c) : w_Model_paste_j118 a0 x1 x2 x3 x4 x5 b (nI s) (nI i) (nI s2) (nI k) (nI n) 0 Q := by
  have ix : ∀ u v w : Nat, ((60 : Int32) * nI u) + nI v + nI w = nI (60 * u + v + w) := fun u v w => by rw [s60, nI_add]
  unfold w_Model_paste_j118
  refine LW2.up n (fun t x c => x = nI t ∧ c.1 = b.1 ∧ c.2.2 = b.2.2 ∧ (∀ k' j, k' ≠ 75 → c.2.1 k' j = b.2.1 k' j) ∧ ∀ j, j < t → c.2.1 75 j = b.2.1 74 (60 * s + i + j)) ⟨rfl, rfl, rfl, fun _ _ _ => rfl, fun j hj => by omega⟩ ?_ ?_
  · rintro t x c ht ⟨rfl, h1, h2, h3, h4⟩ K hK
    rw [ix]
    refine ⟨fun z => absurd z (nI_ge ht (by omega)), fun _ => ⟨vp_in_nI (by omega) (by omega), vp_in_nI (by omega) (by omega), hK _ _ ⟨nI_1 t, h1, h2, fun k' j hk' => ?_, fun j hj => ?_⟩⟩⟩
    · rw [us_l2, if_neg (fun z => hk' z.1)]; exact h3 k' j hk'
    · rw [us_l2, nI_clamp (by omega), nI_clamp (by omega)]
      by_cases e : j = t
      · rw [if_pos ⟨rfl, e⟩, e]; exact h3 _ _ (by omega)
      · rw [if_neg (fun z => e z.2)]; exact h4 j (by omega)
  · rintro x c ⟨rfl, h1, h2, h3, h4⟩ K
    refine ⟨fun _ => ?_, fun z => absurd (nI_le (Nat.le_refl n) (by omega)) z⟩
    unfold w_Model_paste_j155
    refine LW2.up n (fun t x d => x = nI t ∧ d.1 = b.1 ∧ d.2.2 = b.2.2 ∧ (∀ k' j, k' ≠ 74 → d.2.1 k' j = c.2.1 k' j) ∧ ∀ j, d.2.1 74 j = if 60 * s2 + k ≤ j ∧ j < 60 * s2 + k + t then b.2.1 74 (60 * s + i + (j - (60 * s2 + k))) else b.2.1 74 j) ⟨rfl, h1, h2, fun _ _ _ => rfl, fun j => by rw [if_neg (by omega)]; exact h3 74 j (by omega)⟩ ?_ ?_
    · rintro t x d ht ⟨rfl, g1, g2, g3, g4⟩ K2 hK2
      rw [ix]
      refine ⟨fun z => absurd z (nI_ge ht (by omega)), fun _ => ⟨vp_in_nI (by omega) (by omega), vp_in_nI (by omega) (by omega), hK2 _ _ ⟨nI_1 t, g1, g2, fun k' j hk' => ?_, fun j => ?_⟩⟩⟩
      · rw [us_l2, if_neg (fun z => hk' z.1)]; exact g3 k' j hk'
      · rw [us_l2, nI_clamp (by omega), nI_clamp (by omega)]
        by_cases e : j = 60 * s2 + k + t
        · rw [if_pos ⟨rfl, e⟩, g3 75 t (by omega), h4 t ht, if_pos (by omega), show 60 * s + i + (j - (60 * s2 + k)) = 60 * s + i + t by omega]
        · rw [if_neg (fun z => e z.2), g4 j]
          by_cases e2 : 60 * s2 + k ≤ j ∧ j < 60 * s2 + k + t
          · rw [if_pos e2, if_pos (by omega)]
          · rw [if_neg e2, if_neg (by omega)]
    · rintro x d ⟨rfl, g1, g2, g3, g4⟩ K2
      exact ⟨fun _ => hQ d g1 g2 (fun k' j q1 q2 => (g3 k' j q1).trans (h3 k' j q2)) g4, fun z => absurd (nI_le (Nat.le_refl n) (by omega)) z⟩
theorem s_paste (i : Nat) : us_paste (J i) (J (i + 1)) := by
  intro N a x1 x2 x3 x4 x5 hJ
  obtain ⟨t, hC, hX⟩ := id hJ
  have hj2 := J_sc hJ f0_sc
  have hS := hC.2.2.2.2.2.1
  have e7 : ∀ (b : ud_St) k j, ¬ k = 71 → (ud_sv b 71 0 0).1 k j = b.1 k j := fun b k j q => by rw [us_1, if_neg (by omega)]
  unfold w_UpAndDown_paste
  -- where one is no slot
  have no1 : (∀ s, s < 4 → x1 ≠ nI s) → w_Model_paste a x1 x2 x3 x4 x5 (fun r' a2 => (-2 : Int32) = r' ∧ J (i + 1) N a2) := fun h => by
    unfold w_Model_paste
    exact m_isSlot (fun s hs e => absurd e (h s hs)) (fun _ => t0 ⟨rfl, hj2⟩)
  have no2 : (∀ s, s < 4 → x3 ≠ nI s) → w_Model_paste a x1 x2 x3 x4 x5 (fun r' a2 => (-2 : Int32) = r' ∧ J (i + 1) N a2) := fun h => by
    unfold w_Model_paste
    exact m_isSlot (fun _ _ _ => t1 (m_isSlot (fun s hs e => absurd e (h s hs)) (fun _ => t0 ⟨rfl, hj2⟩))) (fun _ => t0 ⟨rfl, hj2⟩)
  refine x_slotAt (fun s hs e => ?_) (fun h => x_slotAt (fun _ _ _ => ⟨fun _ => no1 h, fun q hq => (by cases hq)⟩) (fun _ => ⟨fun _ => no1 h, fun q hq => (by cases hq)⟩))
  refine x_slotAt (fun s2 hs2 e2 => ⟨fun q => (by cases q), fun q hq => ?_⟩) (fun h => ⟨fun q => (by cases q), fun q hq => ?_⟩)
  · cases hq
    refine ⟨⟨s, hs, rfl⟩, fun q => (by cases q), fun q hq => ?_⟩
    cases hq
    refine ⟨⟨s2, hs2, rfl⟩, ?_⟩
    have mm : ∀ (b : ud_St) {R : Int32 → ud_St → Prop}, (∀ k j, b.1 k j = a.1 k j) → (a.1 72 s = -1 → R (-6) (ud_sv b 71 0 0)) → (a.1 72 s ≠ -1 → a.1 72 s2 = -1 → R (-6) (ud_sv b 71 0 0)) → (a.1 72 s ≠ -1 → a.1 72 s2 ≠ -1 → a.1 72 s ≠ a.1 72 s2 → R (-8) (ud_sv b 71 0 0)) → (∀ m m2, a.1 72 s ≠ -1 → a.1 72 s2 ≠ -1 → a.1 72 s = a.1 72 s2 → m ≤ 60 → m2 ≤ 60 → a.1 73 s = nI m → a.1 73 s2 = nI m2 → ((∀ i k n, x2 = nI i → x4 = nI k → x5 = nI n → ¬ (i + n ≤ m ∧ k + n ≤ m2)) → R (-7) (ud_sv b 71 0 0)) ∧ (∀ i k n, x2 = nI i → x4 = nI k → x5 = nI n → i + n ≤ m → k + n ≤ m2 → ∀ c, c.1 = (ud_sv b 71 0 0).1 → c.2.2 = b.2.2 → (∀ k' j, k' ≠ 74 → k' ≠ 75 → c.2.1 k' j = b.2.1 k' j) → (∀ j, c.2.1 74 j = if 60 * s2 + k ≤ j ∧ j < 60 * s2 + k + n then b.2.1 74 (60 * s + i + (j - (60 * s2 + k))) else b.2.1 74 j) → R 0 c)) → w_Model_paste b x1 x2 x3 x4 x5 R := by
      intro b R eb r1 r2 r3 r4
      unfold w_Model_paste
      refine m_isSlot (fun s' hs' e' => t1 (m_isSlot (fun s2' hs2' e2' => t1 ?_) (fun h => absurd e2 (h s2 hs2)))) (fun h => absurd e (h s hs))
      have v1 : vp_in x1 4 := by rw [e]; exact vp_in_nI hs (by omega)
      have v2 : vp_in x3 4 := by rw [e2]; exact vp_in_nI hs2 (by omega)
      have c1 : x1.toNatClampNeg = s := by rw [e, nI_clamp (by omega)]
      have c2 : x3.toNatClampNeg = s2 := by rw [e2, nI_clamp (by omega)]
      simp only [c1, c2, e7 b 72 _ (by omega), e7 b 73 _ (by omega), eb]
      refine ⟨v1, fun q => r1 q, fun q => ⟨v2, fun q2 => r2 q q2, fun q2 => ⟨v1, v2, fun q3 => ?_, fun q3 => r3 q q2 q3⟩⟩⟩
      rcases JS_at hS hs with ⟨-, g⟩ | ⟨-, w, m, hw, hm, -, g1, -, g2, -⟩
      · exact absurd g q
      rcases JS_at hS hs2 with ⟨-, g⟩ | ⟨-, w2, m2, hw2, hm2, -, g3, -, g4, -⟩
      · exact absurd g q2
      obtain ⟨r5, r6⟩ := r4 m m2 q q2 q3 hm hm2 g2 g4
      refine ⟨fun z => r5 (fun i k n q1 _ _ _ => by rename_i zz; rw [q1] at z; exact absurd z (fun z => by
        have := Int32.lt_iff_toInt_lt.mp z
        rw [nI_toInt (by omega)] at this
        have h0 : (0 : Int32).toInt = 0 := by decide
        omega)), fun z => ⟨fun z2 => r5 (fun i k n _ q1 _ _ => by rename_i zz; rw [q1] at z2; exact absurd z2 (nI_pos (by omega))), fun z2 => ⟨fun z3 => r5 (fun i k n _ _ q1 _ => by rename_i zz; rw [q1] at z3; exact absurd z3 (nI_pos (by omega))), fun z3 => ⟨v1, ?_⟩⟩⟩⟩
      obtain ⟨i', n, hi, hn, e3, e4⟩ := n2 z z3
      obtain ⟨k, n', hk, hn', e5, e6⟩ := n2 z2 z3
      rw [g2, g4, e3, e4, e5]
      refine ⟨fun w => r5 (fun i2 k2 n2' q1 q2 q3 q4 => ?_), fun w => ⟨v2, fun w2 => ?_, fun w2 => r5 (fun i2 k2 n2' q1 q2 q3 q4 => ?_)⟩⟩
      · have w' := (lgt hi hn (by omega)).mp w
        have z1 := (nI_eq hi (by omega)).mp (e3.symm.trans q1)
        have z2 := (nI_eq hn (by omega)).mp (e4.symm.trans q3)
        omega
      · have w' : ¬ m < i' + n := fun q => w ((lgt hi hn (by omega)).mpr q)
        have w2' := (lle hk hn (by omega)).mp w2
        rw [e, e2]
        exact m_pasted hs hs2 (by omega) (by omega) (fun c c1 c2 c3 c4 => r6 i' k n e3 e5 e4 (by omega) w2' c c1 c2 c3 c4)
      · have w2' : ¬ k + n ≤ m2 := fun q => w2 ((lle hk hn (by omega)).mpr q)
        have z1 := (nI_eq hk (by omega)).mp (e5.symm.trans q2)
        have z2 := (nI_eq hn (by omega)).mp (e4.symm.trans q3)
        omega
    rcases JS_at hS hs with ⟨g1, g2⟩ | ⟨g1, w, m, hw, hm, g2, g3, g4, g5, g6⟩
    · rw [g1]
      exact t0 (mm a (fun _ _ => rfl) (fun _ => ⟨rfl, hj2⟩) (fun q => absurd g2 q) (fun q => absurd g2 q) (fun _ _ q => absurd g2 q))
    rcases JS_at hS hs2 with ⟨f1, f2⟩ | ⟨f1, w2, m2, hw2, hm2, f2, f3, f4, f5, f6⟩
    · rw [g1, f1]
      exact t1 (t0 (mm a (fun _ _ => rfl) (fun q => absurd (by rw [← g3]; exact q) (ui_ne1 (by omega))) (fun _ _ => ⟨rfl, hj2⟩) (fun _ q => absurd f2 q) (fun _ _ _ q => absurd f2 q)))
    rw [g1, f1]
    refine t1 (t1 ?_)
    have n1 : a.1 72 s ≠ -1 := by rw [g3]; exact ui_ne1 (by omega)
    have n3 : a.1 72 s2 ≠ -1 := by rw [f3]; exact ui_ne1 (by omega)
    refine ⟨fun q => ?_, fun q => ?_⟩
    · rw [g2, f2] at q
      have q3 : a.1 72 s = a.1 72 s2 := by rw [g3, f3]; exact q
      have no7 : (∀ i k n, x2 = nI i → x4 = nI k → x5 = nI n → ¬ (i + n ≤ m ∧ k + n ≤ m2)) → w_Model_paste a x1 x2 x3 x4 x5 (fun r' a2 => (-7 : Int32) = r' ∧ J (i + 1) N a2) := fun h => mm a (fun _ _ => rfl) (fun q => absurd q n1) (fun _ q => absurd q n3) (fun _ _ q => absurd q3 q) (fun u u2 _ _ _ hu hu2 q5 q6 => by
        have y1 : u = m := (nI_eq (by omega) (by omega)).mp (q5.symm.trans g5)
        have y2 : u2 = m2 := (nI_eq (by omega) (by omega)).mp (q6.symm.trans f5)
        subst y1 y2
        exact ⟨fun _ => ⟨rfl, hj2⟩, fun i k n q1 q2 q3 q4 q5 => absurd ⟨q4, q5⟩ (h i k n q1 q2 q3)⟩)
      refine x_spans g4 hm (fun i' n hin e3 e4 => t1 ?_) (fun h => t0 (no7 (fun i k n q1 _ q3 q4 => h ⟨i, n, q4.1, q1, q3⟩)))
      refine x_spans f4 hm2 (fun k n' hkn e5 e6 => t1 ?_) (fun h => t0 (no7 (fun i k n _ q2 q3 q4 => h ⟨k, n, q4.2, q2, q3⟩)))
      have en : n' = n := (nI_eq (by omega) (by omega)).mp (e6.symm.trans e4)
      subst en
      refine ⟨⟨by rw [e3]; exact nI_pos (by omega), by rw [e5]; exact nI_pos (by omega), by rw [e4]; exact nI_pos (by omega), by rw [e3, e4, nI_clamp (by omega), nI_clamp (by omega)]; omega, by rw [e5, e4, nI_clamp (by omega), nI_clamp (by omega)]; omega⟩, ?_⟩
      rw [show x2.toNatClampNeg = i' by rw [e3, nI_clamp (by omega)], show x4.toNatClampNeg = k by rw [e5, nI_clamp (by omega)], show x5.toNatClampNeg = n' by rw [e4, nI_clamp (by omega)]]
      refine mm _ (fun _ _ => rfl) (fun q => absurd q n1) (fun _ q => absurd q n3) (fun _ _ q => absurd q3 q) (fun u u2 _ _ _ hu hu2 q5 q6 => ⟨fun h => ?_, fun i2 k2 n2' y1 y2 y3 y4 y5 c c1 c2 c3 c4 => ⟨rfl, ?_⟩⟩)
      · have y1 : u = m := (nI_eq (by omega) (by omega)).mp (q5.symm.trans g5)
        have y2 : u2 = m2 := (nI_eq (by omega) (by omega)).mp (q6.symm.trans f5)
        subst y1 y2
        exact absurd ⟨hin, hkn⟩ (h i' k n' e3 e5 e4)
      · have z1 : i2 = i' := (nI_eq (by omega) (by omega)).mp (y1.symm.trans e3)
        have z2 : k2 = k := (nI_eq (by omega) (by omega)).mp (y2.symm.trans e5)
        have z3 : n2' = n' := (nI_eq (by omega) (by omega)).mp (y3.symm.trans e4)
        subst z1 z2 z3
        refine J_slot hC hX (fun k' j q1 q2 q3 q4 => by rw [c1, us_1, if_neg q4]; rfl) c2 (fun s3 hs3 => ?_)
        have ec : ∀ k' j, ¬ k' = 71 → c.1 k' j = a.1 k' j := fun k' j q => by rw [c1, e7 _ _ _ q]; rfl
        have el : ∀ u j, u < 4 → c.2.1 (62 + 2 * u + 1) j = if u = s2 then va_cpy (a.2.1 (62 + 2 * s + 1)) (a.2.1 (62 + 2 * s2 + 1)) i2 k2 n2' j else a.2.1 (62 + 2 * u + 1) j := fun u j hu4 => by
          by_cases hu : 62 + 2 * u + 1 = 75
          · omega
          · rw [c3 _ _ (by omega) hu]
            show (if 62 + 2 * u + 1 = 62 + 2 * s2 + 1 then _ else _) = _
            by_cases e : u = s2
            · rw [if_pos (by omega), if_pos e]
            · rw [if_neg (by omega), if_neg e]
        have c4' : ∀ j, c.2.1 74 j = if 60 * s2 + k2 ≤ j ∧ j < 60 * s2 + k2 + n2' then a.2.1 74 (60 * s + i2 + (j - (60 * s2 + k2))) else a.2.1 74 j := fun j => by
          rw [c4 j]
          have e74 : ∀ j, (ud_cp a (62 + 2 * s) (62 + 2 * s2) i2 k2 n2').2.1 74 j = a.2.1 74 j := fun j => by
            show (if 74 = 62 + 2 * s2 + 1 then _ else _) = _
            rw [if_neg (by omega)]
          rw [e74, e74]
        rw [ec _ _ (by omega), ec _ _ (by omega), ec _ _ (by omega), ec _ _ (by omega), ec _ _ (by omega)]
        rcases JS_at hS hs3 with k1 | ⟨k1, w3, m3, hw3, hm3, k2', k3, k4, k5, k6⟩
        · exact Or.inl k1
        · refine Or.inr ⟨k1, w3, m3, hw3, hm3, k2', k3, k4, k5, fun j hj => ?_⟩
          rw [el _ _ hs3, c4']
          by_cases e : s3 = s2
          · rw [if_pos e]
            subst e
            unfold va_cpy
            by_cases e8 : k2 ≤ j ∧ j < k2 + n2'
            · rw [if_pos e8, if_pos (by omega), g6 _ (by omega), show 60 * s + i2 + (60 * s3 + j - (60 * s3 + k2)) = 60 * s + (i2 + (j - k2)) by omega]
            · rw [if_neg e8, if_neg (by omega)]
              exact k6 j hj
          · rw [if_neg e, if_neg (by omega)]
            exact k6 j hj
    · rw [g2, f2] at q
      exact mm a (fun _ _ => rfl) (fun q => absurd q n1) (fun _ q => absurd q n3) (fun _ _ _ => ⟨rfl, hj2⟩) (fun _ _ _ _ q3 => absurd (by rw [← g3, ← f3]; exact q3) q)
  · cases hq
    exact ⟨⟨s, hs, rfl⟩, fun _ => no2 h, fun q hq => (by cases hq)⟩
