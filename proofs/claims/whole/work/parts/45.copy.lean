/-! tables copied: keep, restore -/
theorem img_e {G : Nat → Nat} {z q i : Nat} {a : ud_St} (h1 : 92 ≤ q) (h2 : (q - 92) % 11 = 0) (hi : i < 11) : ud_e G z a (q + i) = (ud_J G z (q + i) (a.1 (q + i))).getD i (.inr (0, [])) := by
  show ud_E G z _ _ _ _ = _
  unfold ud_E
  rw [if_neg (by omega), show (q + i - 92) % 11 = i by omega]
theorem img_T {N q : Nat} (h1 : 92 ≤ q) (h2 : (q - 92) % 11 = 0) (h3 : q + 11 ≤ N) : ud_isT N q := by
  refine ⟨⟨by omega, fun G z a => img_e (i := 0) h1 h2 (by omega)⟩, ⟨⟨by omega, fun G z a => img_e (i := 1) h1 h2 (by omega)⟩, ⟨by omega, fun G z a => img_e (i := 2) h1 h2 (by omega)⟩, ⟨by omega, fun G z a => img_e (i := 3) h1 h2 (by omega)⟩⟩, ⟨⟨by omega, fun G z a => img_e (i := 4) h1 h2 (by omega)⟩, ⟨by omega, fun G z a => img_e (i := 5) h1 h2 (by omega)⟩, ⟨by omega, fun G z a => img_e (i := 6) h1 h2 (by omega)⟩⟩, ⟨⟨by omega, fun G z a => img_e (i := 7) h1 h2 (by omega)⟩, ⟨by omega, fun G z a => img_e (i := 8) h1 h2 (by omega)⟩, ⟨by omega, fun G z a => img_e (i := 9) h1 h2 (by omega)⟩⟩, ⟨by omega, fun G z a => img_e (i := 10) h1 h2 (by omega)⟩⟩
def Pwc (k0 k _j : Nat) : Prop := k0 ≤ k ∧ k ≤ k0 + 2
def Ptc (k0 k _j : Nat) : Prop := k0 ≤ k ∧ k ≤ k0 + 10
theorem x_wcopy {a : ud_St} {k0 k1 m : Nat} {Q : ud_St → Prop} (h2 : a.1 k1 2 = nI m) (hm : m ≤ 12) (hk : k0 + 2 < k1 ∨ k1 + 2 < k0) (hQ : ∀ a', fr (Pwc k0) a a' → a'.1 k0 2 = nI m → (∀ i, i < m → a'.1 (k0 + 1) i = a.1 (k1 + 1) i ∧ a'.1 (k0 + 2) i = a.1 (k1 + 2) i) → Q a') : w_Words_copy a k0 k1 Q := by
  unfold w_Words_copy
  refine LW2.up m (fun t x b => x = nI t ∧ fr (Pwc k0) a b ∧ b.1 k0 2 = nI m ∧ ∀ i, i < t → b.1 (k0 + 1) i = a.1 (k1 + 1) i ∧ b.1 (k0 + 2) i = a.1 (k1 + 2) i) ⟨rfl, fr.rf.sv (by unfold Pwc; omega), by rw [us_1, if_pos ⟨rfl, rfl⟩, h2], fun i hi => by omega⟩ ?_ ?_
  · rintro t x b ht ⟨rfl, hf, g1, g2⟩ K hK
    rw [g1]
    unfold w_Words_sort w_Words_number w_Words_change
    refine ⟨fun z => absurd z (nI_ge ht (by omega)), fun _ => ub_atn (by omega) (by omega) (ub_atn (by omega) (by omega) (ub_putn (by omega) (by omega) (ub_putn (by omega) (by omega) (hK _ _ ⟨nI_1 t, (hf.sv (by unfold Pwc; omega)).sv (by unfold Pwc; omega), ?_, fun i hi => ?_⟩))))⟩
    · rw [us_1, if_neg (by omega), us_1, if_neg (by omega)]; exact g1
    · rw [hf.1 (k1 + 1) t (by unfold Pwc; omega), hf.1 (k1 + 2) t (by unfold Pwc; omega), us_1, if_neg (by omega), us_1, us_1]
      by_cases e : i = t
      · rw [if_pos ⟨rfl, e⟩, if_pos ⟨rfl, e⟩, e]; exact ⟨rfl, rfl⟩
      · rw [if_neg (fun z => e z.2), if_neg (fun z => e z.2), us_1, if_neg (by omega)]
        exact g2 i (by omega)
  · rintro x b ⟨rfl, hf, g1, g2⟩ K
    rw [g1]
    exact ⟨fun _ => hQ b hf g1 g2, fun z => absurd (nI_le (Nat.le_refl m) (by omega)) z⟩
theorem x_tcopy {a : ud_St} {k0 k1 : Nat} {t : TD} {Q : ud_St → Prop} (hx : xT a k1 t) (hok : tOK t) (hk : k0 + 10 < k1 ∨ k1 + 10 < k0) (hQ : ∀ a', fr (Ptc k0) a a' → xT a' k0 t → Q a') : w_Table_copy a k0 k1 Q := by
  have hb := t3_le hok
  obtain ⟨x1, x2, x3, x4, x5, x6, x7, x8, x9, x10, x11⟩ := hx
  unfold w_Table_copy
  have o : ∀ (b : ud_St) (p j q : Nat) (v : Int32), p ≠ k0 → (ud_sv b k0 q v).1 p j = b.1 p j := fun b p j q v h => by rw [us_1, if_neg (fun z => h z.1)]
  rw [o _ _ _ _ _ (by omega), o _ _ _ _ _ (by omega), o _ _ _ _ _ (by omega), o _ _ _ _ _ (by omega), o _ _ _ _ _ (by omega), o _ _ _ _ _ (by omega), x1, x2, x3, x4]
  obtain ⟨b0, hb0⟩ : ∃ b0, ud_sv (ud_sv (ud_sv (ud_sv a k0 0 (nI (t 0 0))) k0 1 (nI (t 0 1))) k0 2 (nI (tS t))) k0 3 (nI (t 0 2)) = b0 := ⟨_, rfl⟩
  rw [hb0]
  have f0 : fr (Ptc k0) a b0 := by
    rw [← hb0]
    exact (((fr.rf.sv (by unfold Ptc; omega)).sv (by unfold Ptc; omega)).sv (by unfold Ptc; omega)).sv (by unfold Ptc; omega)
  have r0 : b0.1 k0 0 = nI (t 0 0) ∧ b0.1 k0 1 = nI (t 0 1) ∧ b0.1 k0 2 = nI (tS t) ∧ b0.1 k0 3 = nI (t 0 2) := by
    rw [← hb0]; simp [us_1]
  have k1o : ∀ {c : ud_St}, fr (Ptc k0) a c → ∀ p j, k1 ≤ p → p ≤ k1 + 10 → c.1 p j = a.1 p j := fun hf p j q1 q2 => hf.1 p j (by unfold Ptc; omega)
  refine x_wcopy (m := t 0 3) ((k1o f0 _ _ (by omega) (by omega)).trans x6) hb.1 (by omega) (fun b1 f1 g1 g2 => ?_)
  have f1' : fr (Ptc k0) a b1 := f0.tr (f1.mono (fun k j q => by unfold Pwc at q; unfold Ptc; omega))
  refine x_wcopy (m := t 0 4) ((k1o f1' _ _ (by omega) (by omega)).trans x7) (by omega) (by omega) (fun b2 f2 g3 g4 => ?_)
  have f2' : fr (Ptc k0) a b2 := f1'.tr (f2.mono (fun k j q => by unfold Pwc at q; unfold Ptc; omega))
  refine x_wcopy (m := t 0 4) ((k1o f2' _ _ (by omega) (by omega)).trans x8) (by omega) (by omega) (fun b3 f3 g5 g6 => ?_)
  have f3' : fr (Ptc k0) a b3 := f2'.tr (f3.mono (fun k j q => by unfold Pwc at q; unfold Ptc; omega))
  rw [(k1o f3' k1 8 (by omega) (by omega)).trans x5]
  refine LW2.up (t 0 5) (fun n x b => x = nI n ∧ fr (fun k j => k = k0 + 10 ∨ (k = k0 ∧ j = 8)) b3 b ∧ b.1 k0 8 = nI (t 0 5) ∧ ∀ i, i < n → b.1 (k0 + 10) i = nI (t 7 i)) ⟨rfl, fr.rf.sv (by omega), by rw [us_1, if_pos ⟨rfl, rfl⟩], fun i hi => by omega⟩ ?_ ?_
  · rintro n x b hn ⟨rfl, hf, g7, g8⟩ K hK
    rw [g7]
    refine ⟨fun z => absurd z (nI_ge hn (by omega)), fun _ => ub_atn (by omega) (by omega) (ub_putn (by omega) (by omega) (hK _ _ ⟨nI_1 n, hf.sv (by omega), ?_, fun i hi => ?_⟩))⟩
    · rw [us_1, if_neg (by omega)]; exact g7
    · rw [us_1]
      by_cases e : i = n
      · rw [if_pos ⟨rfl, e⟩, hf.1 _ _ (by omega), k1o f3' _ _ (by omega) (by omega), x11 n hn, e]
      · rw [if_neg (fun z => e z.2)]; exact g8 i (by omega)
  · rintro x b ⟨rfl, hf, g7, g8⟩ K
    rw [g7]
    refine ⟨fun _ => hQ b (f3'.tr (hf.mono (fun k j q => by unfold Ptc; omega))) ?_, fun z => absurd (nI_le (Nat.le_refl _) (by omega)) z⟩
    have e3 : ∀ k j, k ≠ k0 + 10 → ¬ (k = k0 ∧ j = 8) → b.1 k j = b3.1 k j := fun k j q1 q2 => hf.1 k j (by omega)
    have e2 : ∀ k j, ¬ (k0 + 7 ≤ k ∧ k ≤ k0 + 9) → b3.1 k j = b2.1 k j := fun k j q => f3.1 k j (by unfold Pwc; omega)
    have e1 : ∀ k j, ¬ (k0 + 4 ≤ k ∧ k ≤ k0 + 6) → b2.1 k j = b1.1 k j := fun k j q => f2.1 k j (by unfold Pwc; omega)
    have e0 : ∀ k j, ¬ (k0 + 1 ≤ k ∧ k ≤ k0 + 3) → b1.1 k j = b0.1 k j := fun k j q => f1.1 k j (by unfold Pwc; omega)
    refine ⟨?_, ?_, ?_, ?_, g7, ?_, ?_, ?_, fun i hi => ⟨?_, ?_⟩, fun i hi => ⟨?_, ?_, ?_, ?_⟩, g8⟩
    · rw [e3 _ _ (by omega) (by omega), e2 _ _ (by omega), e1 _ _ (by omega), e0 _ _ (by omega)]; exact r0.1
    · rw [e3 _ _ (by omega) (by omega), e2 _ _ (by omega), e1 _ _ (by omega), e0 _ _ (by omega)]; exact r0.2.1
    · rw [e3 _ _ (by omega) (by omega), e2 _ _ (by omega), e1 _ _ (by omega), e0 _ _ (by omega)]; exact r0.2.2.1
    · rw [e3 _ _ (by omega) (by omega), e2 _ _ (by omega), e1 _ _ (by omega), e0 _ _ (by omega)]; exact r0.2.2.2
    · rw [e3 _ _ (by omega) (by omega), e2 _ _ (by omega), e1 _ _ (by omega)]; exact g1
    · rw [e3 _ _ (by omega) (by omega), e2 _ _ (by omega)]; exact g3
    · rw [e3 _ _ (by omega) (by omega)]; exact g5
    · rw [e3 _ _ (by omega) (by omega), e2 _ _ (by omega), e1 _ _ (by omega), show k0 + 2 = k0 + 1 + 1 by omega, (g2 i hi).1, k1o f0 _ _ (by omega) (by omega)]; exact (x9 i hi).1
    · rw [e3 _ _ (by omega) (by omega), e2 _ _ (by omega), e1 _ _ (by omega), show k0 + 3 = k0 + 1 + 2 by omega, (g2 i hi).2, k1o f0 _ _ (by omega) (by omega)]; exact (x9 i hi).2
    · rw [e3 _ _ (by omega) (by omega), e2 _ _ (by omega), show k0 + 5 = k0 + 4 + 1 by omega, (g4 i hi).1, k1o f1' _ _ (by omega) (by omega)]; exact (x10 i hi).1
    · rw [e3 _ _ (by omega) (by omega), e2 _ _ (by omega), show k0 + 6 = k0 + 4 + 2 by omega, (g4 i hi).2, k1o f1' _ _ (by omega) (by omega)]; exact (x10 i hi).2.1
    · rw [e3 _ _ (by omega) (by omega), show k0 + 8 = k0 + 7 + 1 by omega, (g6 i hi).1, k1o f2' _ _ (by omega) (by omega)]; exact (x10 i hi).2.2.1
    · rw [e3 _ _ (by omega) (by omega), show k0 + 9 = k0 + 7 + 2 by omega, (g6 i hi).2, k1o f2' _ _ (by omega) (by omega)]; exact (x10 i hi).2.2.2
/-- row B of a model's row of rows -/
def Pcr (k0 n B k j : Nat) : Prop := k = k0 ∧ n * B ≤ j ∧ j < n * B + n
theorem m_copyRow {a : ud_St} {k0 n0 n A B : Nat} {Q : ud_St → Prop} (hn : n ≤ 24) (hA : n * A + n ≤ n0) (hB : n * B + n ≤ n0) (h0 : n0 ≤ 120) (hAB : n * A + n ≤ n * B ∨ n * B + n ≤ n * A) (hQ : ∀ a', fr (Pcr k0 n B) a a' → (∀ j, j < n → a'.1 k0 (n * B + j) = a.1 k0 (n * A + j)) → Q a') : w_Model_copyRow a k0 n0 (nI n) (nI A) (nI B) Q := by
  unfold w_Model_copyRow
  refine LW2.up n (fun t x b => x = nI t ∧ fr (Pcr k0 n B) a b ∧ ∀ j, j < t → b.1 k0 (n * B + j) = a.1 k0 (n * A + j)) ⟨rfl, fr.rf, fun j hj => by omega⟩ ?_ ?_
  · rintro t x b ht ⟨rfl, hf, hd⟩ K hK
    rw [ui_mul, ui_mul, nI_add, nI_add, nI_clamp (by omega), nI_clamp (by omega)]
    refine ⟨fun z => absurd z (nI_ge ht (by omega)), fun _ => ⟨vp_in_nI (by omega) (by omega), vp_in_nI (by omega) (by omega), hK _ _ ⟨nI_1 t, hf.sv ⟨rfl, by omega, by omega⟩, fun j hj => ?_⟩⟩⟩
    rw [us_1]
    by_cases e : j = t
    · rw [if_pos ⟨rfl, by omega⟩, e]
      exact hf.1 _ _ (fun q => by have := q.2; omega)
    · rw [if_neg (by omega)]; exact hd j (by omega)
  · rintro x b ⟨rfl, hf, hd⟩ K
    exact ⟨fun _ => hQ b hf hd, fun z => absurd (nI_le (Nat.le_refl n) (by omega)) z⟩
/-- the model's table B -/
def Pct (B k j : Nat) : Prop := (k = 77 ∧ j = B) ∨ (k = 78 ∧ 6 * B ≤ j ∧ j < 6 * B + 6) ∨ (k = 79 ∧ 24 * B ≤ j ∧ j < 24 * B + 24) ∨ (k = 80 ∧ 24 * B ≤ j ∧ j < 24 * B + 24) ∨ (k = 81 ∧ 20 * B ≤ j ∧ j < 20 * B + 20)
theorem m_copyTable {a : ud_St} {A B : Nat} {t : TD} {Q : ud_St → Prop} (hA : A < 5) (hB : B < 5) (hAB : A ≠ B) (hok : tOK t) (hm : mT a A t) (hQ : ∀ a', fr (Pct B) a a' → mT a' B t → Q a') : w_Model_copyTable a (nI A) (nI B) Q := by
  have hb := t3_le hok
  obtain ⟨m1, m2, m3, m4, m5, m6, m7, m8, m9, m10⟩ := hm
  unfold w_Model_copyTable
  refine m_copyRow (n := 1) (by omega) (by omega) (by omega) (by omega) (by omega) (fun b1 f1 g1 => ?_)
  refine m_copyRow (n := 6) (by omega) (by omega) (by omega) (by omega) (by omega) (fun b2 f2 g2 => ?_)
  refine m_copyRow (n := 24) (by omega) (by omega) (by omega) (by omega) (by omega) (fun b3 f3 g3 => ?_)
  refine m_copyRow (n := 24) (by omega) (by omega) (by omega) (by omega) (by omega) (fun b4 f4 g4 => ?_)
  refine m_copyRow (n := 20) (by omega) (by omega) (by omega) (by omega) (by omega) (fun b5 f5 g5 => ?_)
  have e1 : ∀ k j, k ≠ 77 → b1.1 k j = a.1 k j := fun k j q => f1.1 k j (by unfold Pcr; omega)
  have e2 : ∀ k j, k ≠ 78 → b2.1 k j = b1.1 k j := fun k j q => f2.1 k j (by unfold Pcr; omega)
  have e3 : ∀ k j, k ≠ 79 → b3.1 k j = b2.1 k j := fun k j q => f3.1 k j (by unfold Pcr; omega)
  have e4 : ∀ k j, k ≠ 80 → b4.1 k j = b3.1 k j := fun k j q => f4.1 k j (by unfold Pcr; omega)
  have e5 : ∀ k j, k ≠ 81 → b5.1 k j = b4.1 k j := fun k j q => f5.1 k j (by unfold Pcr; omega)
  have hf : fr (Pct B) a b5 := by
    refine ((((f1.mono (fun k j q => ?_)).tr (f2.mono (fun k j q => ?_))).tr (f3.mono (fun k j q => ?_))).tr (f4.mono (fun k j q => ?_))).tr (f5.mono (fun k j q => ?_)) <;> (unfold Pcr at q; unfold Pct; omega)
  have h78 : ∀ j, j < 6 → b5.1 78 (6 * B + j) = a.1 78 (6 * A + j) := fun j hj => by
    rw [e5 _ _ (by omega), e4 _ _ (by omega), e3 _ _ (by omega), g2 j hj, e1 _ _ (by omega)]
  have h79 : ∀ j, j < 24 → b5.1 79 (24 * B + j) = a.1 79 (24 * A + j) := fun j hj => by
    rw [e5 _ _ (by omega), e4 _ _ (by omega), g3 j hj, e2 _ _ (by omega), e1 _ _ (by omega)]
  have h80 : ∀ j, j < 24 → b5.1 80 (24 * B + j) = a.1 80 (24 * A + j) := fun j hj => by
    rw [e5 _ _ (by omega), g4 j hj, e3 _ _ (by omega), e2 _ _ (by omega), e1 _ _ (by omega)]
  refine hQ b5 hf ⟨?_, (h78 0 (by omega)).trans m2, (h78 1 (by omega)).trans m3, (h78 2 (by omega)).trans m4, (h78 3 (by omega)).trans m5, (h78 4 (by omega)).trans m6, (h78 5 (by omega)).trans m7, fun i hi => ⟨(h79 (2 * i) (by omega)).trans (m8 i hi).1, (h79 (2 * i + 1) (by omega)).trans (m8 i hi).2⟩, fun i hi => ⟨(h80 (4 * i) (by omega)).trans (m9 i hi).1, (h80 (4 * i + 1) (by omega)).trans (m9 i hi).2.1, (h80 (4 * i + 2) (by omega)).trans (m9 i hi).2.2.1, (h80 (4 * i + 3) (by omega)).trans (m9 i hi).2.2.2⟩, fun i hi => ?_⟩
  · rw [e5 _ _ (by omega), e4 _ _ (by omega), e3 _ _ (by omega), e2 _ _ (by omega)]
    have := g1 0 (by omega)
    simp only [Nat.one_mul, Nat.add_zero] at this
    rw [this]; exact m1
  · rw [g5 i (by omega), e4 _ _ (by omega), e3 _ _ (by omega), e2 _ _ (by omega), e1 _ _ (by omega)]; exact m10 i hi
theorem mT_o {a a' : ud_St} {m B : Nat} {t : TD} (h : mT a m t) (hok : tOK t) (hf : ∀ k j, 77 ≤ k → k ≤ 81 → ¬ Pct B k j → a'.1 k j = a.1 k j) (hmB : m ≠ B) : mT a' m t := by
  have hb := t3_le hok
  obtain ⟨m1, m2, m3, m4, m5, m6, m7, m8, m9, m10⟩ := h
  have e : ∀ k j, 77 ≤ k → k ≤ 81 → ¬ Pct B k j → a'.1 k j = a.1 k j := hf
  refine ⟨(e _ _ (by omega) (by omega) (by unfold Pct; omega)).trans m1, (e _ _ (by omega) (by omega) (by unfold Pct; omega)).trans m2, (e _ _ (by omega) (by omega) (by unfold Pct; omega)).trans m3, (e _ _ (by omega) (by omega) (by unfold Pct; omega)).trans m4, (e _ _ (by omega) (by omega) (by unfold Pct; omega)).trans m5, (e _ _ (by omega) (by omega) (by unfold Pct; omega)).trans m6, (e _ _ (by omega) (by omega) (by unfold Pct; omega)).trans m7, fun i hi => ⟨(e _ _ (by omega) (by omega) (by unfold Pct; omega)).trans (m8 i hi).1, (e _ _ (by omega) (by omega) (by unfold Pct; omega)).trans (m8 i hi).2⟩, fun i hi => ⟨(e _ _ (by omega) (by omega) (by unfold Pct; omega)).trans (m9 i hi).1, (e _ _ (by omega) (by omega) (by unfold Pct; omega)).trans (m9 i hi).2.1, (e _ _ (by omega) (by omega) (by unfold Pct; omega)).trans (m9 i hi).2.2.1, (e _ _ (by omega) (by omega) (by unfold Pct; omega)).trans (m9 i hi).2.2.2⟩, fun i hi => (e _ _ (by omega) (by omega) (by unfold Pct; omega)).trans (m10 i hi)⟩
