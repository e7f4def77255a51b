/-! table: the model's told and slip; all lines -/
theorem mP_t {a b : ud_St} {t : TD} {v : Nat} (h : mP a t) (e1 : b.1 81 (80 + t 0 5) = nI v) (e3 : b.1 78 29 = nI (t 0 5 + 1)) (e : ∀ k j, 77 ≤ k → k ≤ 81 → ¬ (k = 81 ∧ j = 80 + t 0 5) → ¬ (k = 78 ∧ j = 29) → b.1 k j = a.1 k j) : mP b (tto t v) := by
  obtain ⟨h1, h2, h3, h4, h5, h6, h7, h8, h9, h10⟩ := h
  refine ⟨(e _ _ (by omega) (by omega) (by omega) (by omega)).trans h1, (e _ _ (by omega) (by omega) (by omega) (by omega)).trans h2, (e _ _ (by omega) (by omega) (by omega) (by omega)).trans h3, (e _ _ (by omega) (by omega) (by omega) (by omega)).trans h4, (e _ _ (by omega) (by omega) (by omega) (by omega)).trans h5, (e _ _ (by omega) (by omega) (by omega) (by omega)).trans h6, e3, fun i hi => ?_, fun i hi => ?_, fun i hi => ?_⟩
  · exact ⟨(e _ _ (by omega) (by omega) (by omega) (by omega)).trans (h8 i hi).1, (e _ _ (by omega) (by omega) (by omega) (by omega)).trans (h8 i hi).2⟩
  · obtain ⟨q1, q2, q3, q4⟩ := h9 i hi
    exact ⟨(e _ _ (by omega) (by omega) (by omega) (by omega)).trans q1, (e _ _ (by omega) (by omega) (by omega) (by omega)).trans q2, (e _ _ (by omega) (by omega) (by omega) (by omega)).trans q3, (e _ _ (by omega) (by omega) (by omega) (by omega)).trans q4⟩
  · have hi' : i < t 0 5 + 1 := hi
    by_cases q : i = t 0 5
    · subst q
      simp [tto]
      exact e1
    · have := h10 i (by omega)
      rw [e _ _ (by omega) (by omega) (by omega) (by omega)]
      simp [tto, q, this]
theorem mP_s {a b : ud_St} {t : TD} {s v s2 v2 : Nat} (h : mP a t) (e1 : b.1 80 (96 + 4 * t 0 4) = nI s) (e2 : b.1 80 (96 + 4 * t 0 4 + 1) = enc s v) (e4 : b.1 80 (96 + 4 * t 0 4 + 2) = nI s2) (e5 : b.1 80 (96 + 4 * t 0 4 + 3) = enc s2 v2) (e3 : b.1 78 28 = nI (t 0 4 + 1)) (e : ∀ k j, 77 ≤ k → k ≤ 81 → ¬ (k = 80 ∧ 96 + 4 * t 0 4 ≤ j ∧ j ≤ 96 + 4 * t 0 4 + 3) → ¬ (k = 78 ∧ j = 28) → b.1 k j = a.1 k j) : mP b (tsl t s v s2 v2) := by
  obtain ⟨h1, h2, h3, h4, h5, h6, h7, h8, h9, h10⟩ := h
  refine ⟨(e _ _ (by omega) (by omega) (by omega) (by omega)).trans h1, (e _ _ (by omega) (by omega) (by omega) (by omega)).trans h2, (e _ _ (by omega) (by omega) (by omega) (by omega)).trans h3, (e _ _ (by omega) (by omega) (by omega) (by omega)).trans h4, (e _ _ (by omega) (by omega) (by omega) (by omega)).trans h5, e3, (e _ _ (by omega) (by omega) (by omega) (by omega)).trans h7, fun i hi => ?_, fun i hi => ?_, fun i hi => (e _ _ (by omega) (by omega) (by omega) (by omega)).trans (h10 i hi)⟩
  · exact ⟨(e _ _ (by omega) (by omega) (by omega) (by omega)).trans (h8 i hi).1, (e _ _ (by omega) (by omega) (by omega) (by omega)).trans (h8 i hi).2⟩
  · have hi' : i < t 0 4 + 1 := hi
    by_cases q : i = t 0 4
    · subst q
      simp [tsl]
      exact ⟨e1, e2, e4, e5⟩
    · have := h9 i (by omega)
      rw [e _ _ (by omega) (by omega) (by omega) (by omega), e _ _ (by omega) (by omega) (by omega) (by omega), e _ _ (by omega) (by omega) (by omega) (by omega), e _ _ (by omega) (by omega) (by omega) (by omega)]
      simp [tsl, q, this]
/-- whether a doing was read -/
def m21 (a : ud_St) (t : TD) : Prop := (a.1 71 21 = 0 ∧ t 0 3 = 0) ∨ (a.1 71 21 = 1 ∧ 0 < t 0 3)
theorem m_j77T {a0 a x : ud_St} {f : Nat → Nat} {c : Nat} {R : TK} {t : TD} {Q : ud_St → Prop} (h : mat a0 a f c R) (hp : mP a t) (hk : kOK t) (h20 : t 0 5 < 20) (h1 : ∀ R' t', lnT f c R t = .ok (R', t') → ∀ a', a'.1 71 21 = a.1 71 21 → t' 0 3 = t 0 3 → mat a0 a' f c R' → mP a' t' → Q a') (h0 : ∀ e, lnT f c R t = .error e → ∀ a', mbad a0 a' e → Q a') : w_Model_line_j77 x a (0 : Int32) Q := by
  obtain ⟨k1, k2, k3, k4, k5, -⟩ := id hk
  have esz : sz t = t 0 0 ^ t 0 1 := by unfold sz; rw [if_neg (by omega)]
  have hpos : 0 < t 0 0 ^ t 0 1 := Nat.pow_pos (by omega)
  unfold lnT at h1 h0
  rw [if_pos h20] at h1 h0
  unfold w_Model_line_j77
  refine ⟨fun _ => m_nx h (fun a1 hf1 hx1 => ⟨fun _ => m_many (j := 5) (by omega) (m_many (j := 2) (by omega) ?_), fun z => absurd rfl z⟩), fun z => absurd h.2.2.2.2 z⟩
  have hp1 : mP a1 t := mP_c hp (fun k j _ _ => hf1.1 k j (by unfold Pnx; omega))
  have e29 : a1.1 78 (24 + 5) = nI (t 0 5) := hp1.2.2.2.2.2.2.1
  have e26 : a1.1 78 (24 + 2) = nI (sz t) := hp1.2.2.2.1
  rw [e29, e26, esz, ui_pred hpos, ← esz, show (80 : Int32) + nI (t 0 5) = nI (80 + t 0 5) from nI_add 80 _, nI_clamp (by omega)]
  simp only [tN29]
  have hv : vp_in (nI (80 + t 0 5)) 100 := vp_in_nI (by omega) (by omega)
  have h29 : vp_in (29 : Int32) 30 := vp_in_nI (n := 29) (by omega) (by omega)
  refine m_number (lo := 0) hx1 (by omega) (by rw [esz]; omega) (fun v R' e v1 v2 a2 hf2 hx2 => ⟨hv, h29, h29, ?_⟩) (fun e he a2 hx2 => ⟨hv, h29, h29, ?_⟩)
  · rw [e] at h1
    have e2 : (ud_sv a2 81 (80 + t 0 5) (nI v)).1 78 29 = nI (t 0 5) := by rw [us_1, if_neg (by omega), hf2.1 78 29 (by unfold Pnx; omega)]; exact e29
    rw [e2, nI_1]
    refine h1 _ _ rfl _ ?_ rfl (mat_sv (mat_sv hx2 (by unfold Pmr; omega) (by omega)) (by unfold Pmr; omega) (by omega)) (mP_t hp1 ?_ ?_ (fun k j q1 q2 q3 q4 => ?_))
    · rw [us_1, if_neg (by omega), us_1, if_neg (by omega), hf2.1 71 21 (by unfold Pnx; omega), hf1.1 71 21 (by unfold Pnx; omega)]
    · rw [us_1, if_neg (by omega), us_1, if_pos ⟨rfl, rfl⟩]
    · rw [us_1, if_pos ⟨rfl, rfl⟩]
    · rw [us_1, if_neg q4, us_1, if_neg q3]; exact hf2.1 k j (by unfold Pnx; omega)
  · rw [he] at h0
    exact h0 _ rfl _ (mbad_sv (mbad_sv hx2 (by unfold Pmr; omega) (by omega)) (show Pmr 78 29 by unfold Pmr; omega) (by omega))
theorem m_j77S {a0 a x : ud_St} {f : Nat → Nat} {c : Nat} {R : TK} {t : TD} {Q : ud_St → Prop} (h : mat a0 a f c R) (hp : mP a t) (hk : kOK t) (h6 : t 0 4 < 6) (h1 : ∀ R' t', lnS f c R t = .ok (R', t') → ∀ a', a'.1 71 21 = a.1 71 21 → t' 0 3 = t 0 3 → mat a0 a' f c R' → mP a' t' → Q a') (h0 : ∀ e, lnS f c R t = .error e → ∀ a', mbad a0 a' e → Q a') : w_Model_line_j77 x a (1 : Int32) Q := by
  obtain ⟨k1, k2, k3, k4, k5, -⟩ := id hk
  unfold lnS at h1 h0
  rw [if_pos h6] at h1 h0
  have h28 : vp_in (28 : Int32) 30 := vp_in_nI (n := 28) (by omega) (by omega)
  unfold w_Model_line_j77
  refine ⟨fun _ => m_nx h (fun a1 hf1 hx1 => ⟨fun z => absurd z (by decide), fun _ => m_many (j := 4) (by omega) ?_⟩), fun z => absurd h.2.2.2.2 z⟩
  have hp1 : mP a1 t := mP_c hp (fun k j _ _ => hf1.1 k j (by unfold Pnx; omega))
  have e28 : a1.1 78 (24 + 4) = nI (t 0 4) := hp1.2.2.2.2.2.1
  rw [e28, show (24 : Int32) + nI (t 0 4) = nI (24 + t 0 4) from nI_add 24 _, show (4 : Int32) * nI (24 + t 0 4) = nI (4 * (24 + t 0 4)) from ui_mul 4 _, show 4 * (24 + t 0 4) = 96 + 4 * t 0 4 by omega]
  have badj : ∀ d e, mbad a0 d e → (∀ a', mbad a0 a' e → Q a') → w_Model_line_j127 x d (nI (96 + 4 * t 0 4)) Q := fun d e hb hq => by
    unfold w_Model_line_j127
    refine m_isGood (fun z => absurd z (mbad_n hb)) (fun _ => t0 ⟨h28, h28, ?_⟩)
    rw [tN28]
    exact hq _ (mbad_sv hb (by unfold Pmr; omega) (by omega))
  refine m_wordTo hx1 (Or.inr rfl) (by omega) (by omega) hp1.2.1 (by omega) k2 (fun s v R1 e hwk a2 hf2 d1 d2 hx2 => ?_) (fun e he a2 hx2 => ?_)
  · rw [e] at h1 h0
    dsimp only at h1 h0
    refine m_isGood (fun _ => t1 ?_) (fun z => absurd hx2.2.2.2.2 z)
    refine m_asks (t := 21) hx2 (by omega) (by decide) (fun R2 e2 a3 hf3 hx3 => ?_) (fun e he a3 hx3 => ?_)
    · rw [e2] at h1 h0
      dsimp only at h1 h0
      have e24 : a3.1 78 24 = nI (t 0 0) := by rw [hf3.1 78 24 (by unfold Pnx; omega), hf2.1 78 24 (by unfold Pwd Pnx; omega)]; exact hp1.2.1
      unfold w_Model_line_j127
      refine m_isGood (fun _ => t1 ?_) (fun z => absurd hx3.2.2.2.2 z)
      rw [show nI (96 + 4 * t 0 4) + 2 = nI (96 + 4 * t 0 4 + 2) from nI_add _ 2]
      refine m_wordTo hx3 (Or.inr rfl) (by omega) (by omega) e24 (by omega) k2 (fun s2 v2 R3 e3 hwk2 a4 hf4 d3 d4 hx4 => ⟨h28, h28, ?_⟩) (fun e he a4 hx4 => ⟨h28, h28, ?_⟩)
      · rw [e3] at h1
        dsimp only at h1
        have e428 : a4.1 78 28 = nI (t 0 4) := by rw [hf4.1 78 28 (by unfold Pwd Pnx; omega), hf3.1 78 28 (by unfold Pnx; omega), hf2.1 78 28 (by unfold Pwd Pnx; omega)]; exact e28
        rw [tN28, e428, nI_1]
        refine h1 _ _ rfl _ ?_ rfl (mat_sv hx4 (by unfold Pmr; omega) (by omega)) (mP_s hp1 ?_ ?_ ?_ ?_ ?_ (fun k j q1 q2 q3 q4 => ?_))
        · rw [us_1, if_neg (by omega), hf4.1 71 21 (by unfold Pwd Pnx; omega), hf3.1 71 21 (by unfold Pnx; omega), hf2.1 71 21 (by unfold Pwd Pnx; omega), hf1.1 71 21 (by unfold Pnx; omega)]
        · rw [us_1, if_neg (by omega), hf4.1 80 _ (by unfold Pwd Pnx; omega), hf3.1 80 _ (by unfold Pnx; omega)]; exact d1
        · rw [us_1, if_neg (by omega), hf4.1 80 _ (by unfold Pwd Pnx; omega), hf3.1 80 _ (by unfold Pnx; omega)]; exact d2
        · rw [us_1, if_neg (by omega)]; exact d3
        · rw [us_1, if_neg (by omega)]; exact d4
        · rw [us_1, if_pos ⟨rfl, rfl⟩]
        · rw [us_1, if_neg q4, hf4.1 k j (by unfold Pwd Pnx; omega), hf3.1 k j (by unfold Pnx; omega), hf2.1 k j (by unfold Pwd Pnx; omega)]
      · rw [he] at h0
        rw [tN28]
        exact h0 _ rfl _ (mbad_sv hx4 (by unfold Pmr; omega) (by omega))
    · rw [he] at h0
      exact badj a3 e hx3 (h0 _ rfl)
  · rw [he] at h0
    exact m_isGood (fun z => absurd z (mbad_n hx2)) (fun _ => t0 (badj a2 e hx2 (h0 _ rfl)))
theorem m_line {a0 a : ud_St} {f : Nat → Nat} {c : Nat} {R : TK} {t : TD} {Q : ud_St → Prop} (h : mat a0 a f c R) (hp : mP a t) (hk : kOK t) (h21 : m21 a t) (hl : t 0 2 ≠ 0) (h1 : ∀ R' t', lnA f c R t = .ok (R', t') → ∀ a', m21 a' t' → mat a0 a' f c R' → mP a' t' → Q a') (h0 : ∀ e, lnA f c R t = .error e → ∀ a', mbad a0 a' e → Q a') (h2 : ∀ R' : TK, lnA f c R t = .error (1, R'.2.1) → R'.1 ≠ 3 → ∀ a', mat a0 a' f c R' → Q a') : w_Model_line a Q := by
  have hk4 := hk.2.2.2.2.2.2.1
  have hk5 := hk.2.2.2.2.2.2.2.1
  have e28 : a.1 78 (24 + 4) = nI (t 0 4) := hp.2.2.2.2.2.1
  have e29 : a.1 78 (24 + 5) = nI (t 0 5) := hp.2.2.2.2.2.2.1
  unfold lnA at h1 h0 h2
  rw [if_neg hl] at h1 h0 h2
  have j77B : ∀ d e y, mbad a0 d e → (∀ a', mbad a0 a' e → Q a') → w_Model_line_j77 a d y Q := fun d e y hb hq => by
    unfold w_Model_line_j77
    exact ⟨fun z => absurd z (mbad_n hb), fun _ => hq d hb⟩
  unfold w_Model_line
  refine m_is (t := 20) h (by omega) (by decide) (fun w20 => ?_) (fun w20 => ?_)
  · have w19 := isW_one (r := tx 19) w20 (by decide)
    have w3 := isW_one (r := tx 3) w20 (by decide)
    rw [if_neg (by rw [w3]; decide), if_neg (by rw [w19]; decide), if_pos w20] at h1 h0 h2
    refine m_is (t := 19) h (by omega) (by decide) (fun w => absurd (w19.symm.trans w) (by decide)) (fun _ => ?_)
    refine m_is (t := 3) h (by omega) (by decide) (fun w => absurd (w3.symm.trans w) (by decide)) (fun _ => t0 (t1 ?_))
    unfold w_Model_line_j44
    refine t1 (m_many (j := 4) (by omega) ?_)
    rw [e28]
    refine ⟨fun z => ?_, fun z => ?_⟩
    · have e6 := (nI_eq (b := 6) (by omega) (by omega)).mp z
      have eS : lnS f c R t = .error (3, R.2.1) := by unfold lnS; rw [if_neg (by omega)]
      unfold w_Model_line_j72
      exact m_fails (s := 3) h (by omega) (by omega) (fun a' hx => j77B a' _ _ hx (h0 _ eS))
    · have h6 : t 0 4 < 6 := by
        have : ¬ t 0 4 = 6 := fun e => z (by rw [e]; rfl)
        omega
      unfold w_Model_line_j58
      refine t0 (m_j77S h hp hk h6 (fun R' t' e a' e21 e3 hx hp' => h1 R' t' e a' ?_ hx hp') h0)
      unfold m21
      rw [e21, e3]
      exact h21
  · refine m_is (t := 19) h (by omega) (by decide) (fun w19 => ?_) (fun w19 => ?_)
    · have w3 := isW_one (r := tx 3) w19 (by decide)
      rw [if_neg (by rw [w3]; decide), if_pos w19] at h1 h0 h2
      refine m_is (t := 3) h (by omega) (by decide) (fun w => absurd (w3.symm.trans w) (by decide)) (fun _ => t0 (t0 (t1 ?_)))
      unfold w_Model_line_j44
      refine t0 ?_
      unfold w_Model_line_j58
      refine t1 (m_many (j := 5) (by omega) ?_)
      rw [e29]
      refine ⟨fun z => ?_, fun z => ?_⟩
      · have e20 := (nI_eq (b := 20) (by omega) (by omega)).mp z
        have eT : lnT f c R t = .error (3, R.2.1) := by unfold lnT; rw [if_neg (by omega)]
        unfold w_Model_line_j72
        exact m_fails (s := 3) h (by omega) (by omega) (fun a' hx => j77B a' _ _ hx (h0 _ eT))
      · have h20 : t 0 5 < 20 := by
          have : ¬ t 0 5 = 20 := fun e => z (by rw [e]; rfl)
          omega
        refine m_j77T h hp hk h20 (fun R' t' e a' e21 e3 hx hp' => h1 R' t' e a' ?_ hx hp') h0
        unfold m21
        rw [e21, e3]
        exact h21
    · refine m_is (t := 3) h (by omega) (by decide) (fun w3 => t1 ?_) (fun w3 => t0 (t0 (t0 ?_)))
      · rw [if_pos w3] at h1 h0 h2
        exact m_doing h hp hk h21 (fun R' t' e a' e21 hx hp' h3 => h1 R' t' e a' (Or.inr ⟨e21, h3⟩) hx hp') h0 h2
      · rw [if_neg (by rw [w3]; decide), if_neg (by rw [w19]; decide), if_neg (by rw [w20]; decide)] at h0
        refine m_fails (s := 1) h (by omega) (by omega) (fun a' hx => ?_)
        unfold w_Model_line_j44
        refine t0 ?_
        unfold w_Model_line_j58
        exact t0 (j77B a' _ _ hx (h0 _ rfl))
theorem m_ends {a0 a : ud_St} {f : Nat → Nat} {c : Nat} {R : TK} {Q : ud_St → Prop} (h : mat a0 a f c R) (h1 : R.1 = 3 → ∀ a', fm Pnx a a' → mat a0 a' f c (tokF f c R.2.2) → Q a') (h0 : R.1 ≠ 3 → ∀ a', mbad a0 a' (1, R.2.1) → Q a') : w_Model_ends a Q := by
  have ho := h.2.2.2.1.2.2.2.1
  unfold w_Model_ends
  rw [h.2.2.1.1]
  refine ⟨fun z => ?_, fun z => ?_⟩
  · have e := (nI_eq (b := 3) (by omega) (by omega)).mp z
    unfold w_Model_ends_j13
    exact ⟨fun _ => m_nx h (fun a' hf hx => h1 e a' hf hx), fun w => absurd h.2.2.2.2 w⟩
  · refine m_fails (s := 1) h (by omega) (by omega) (fun a' hx => ?_)
    unfold w_Model_ends_j13
    exact ⟨fun w => absurd w (mbad_n hx), fun _ => h0 (fun e => z (by rw [e]; rfl)) a' hx⟩
