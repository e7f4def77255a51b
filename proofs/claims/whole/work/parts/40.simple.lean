/-! the simple pairs of calls -/
theorem J_mk {i N : Nat} {a a' : ud_St} {t : TD} (hC : JC N a t) (hX : JX i a t) (hf : fr Psc a a') : J (i + 1) N a' := ⟨t, JC_sc hC hf, JX_sc hX (Nat.le_succ i) hf⟩
theorem J_up {i N : Nat} {a : ud_St} (h : J i N a) : J (i + 1) N a := J_sc h fr.rf
theorem J_92 {i N : Nat} {a : ud_St} (h : J i N a) : 92 ≤ N := by
  obtain ⟨t, h1, -⟩ := h
  exact h1.2.2.2.2.2.2.1
/-- the cells of tables and images alone -/
def coreT (k : Nat) : Prop := (4 ≤ k ∧ k ≤ 14) ∨ (77 ≤ k ∧ k ≤ 82) ∨ 92 ≤ k
theorem JC_g {N : Nat} {a a' : ud_St} {t : TD} (h : JC N a t) (e : ∀ k j, coreT k → a'.1 k j = a.1 k j) (e2 : a'.2.2 = a.2.2) (hT : JT a') (hF : JF a') (hS : JS a') : JC N a' t := by
  obtain ⟨h1, h2, h3, h4, h5, h6, h7⟩ := h
  exact ⟨h1, xT_c h2 (fun k j _ _ => e k j (by unfold coreT; omega)), mT_c h3 (fun k j _ _ => e k j (by unfold coreT; omega)), hT, hF, hS, JI_c h7 e2 (fun k j _ _ => e k j (by unfold coreT; omega)) (fun k j _ => e k j (by unfold coreT; omega))⟩
theorem s_fault (i : Nat) : us_fault (J i) (J (i + 1)) := by
  intro N a x hJ
  obtain ⟨t, ⟨c1, c2, c3, c4, c5, c6, c7⟩, hX⟩ := id hJ
  have h2 := J_sc hJ f0_sc
  have e14 : (ud_sv a 71 0 0).1 71 14 = a.1 71 14 := by rw [us_1, if_neg (by omega)]
  have e15 : (ud_sv a 71 0 0).1 71 15 = a.1 71 15 := by rw [us_1, if_neg (by omega)]
  unfold w_UpAndDown_fault w_Model_fault
  rw [e14, e15, c5.1, c5.2]
  exact ⟨fun q => ⟨fun _ => ⟨rfl, h2⟩, fun z => absurd q z⟩, fun q => ⟨fun q2 => ⟨fun z => absurd z q, fun _ => ⟨fun _ => ⟨rfl, h2⟩, fun z => absurd q2 z⟩⟩, fun q2 => ⟨fun z => absurd z q, fun _ => ⟨fun z => absurd z q2, fun _ => ⟨rfl, h2⟩⟩⟩⟩⟩
theorem s_size (i : Nat) : us_size (J i) (J (i + 1)) := by
  intro N a hJ
  obtain ⟨t, hC, hX⟩ := id hJ
  have h2 := J_sc hJ f0_sc
  obtain ⟨c1, c2, c3, -⟩ := JC_sc hC f0_sc
  unfold w_UpAndDown_size w_Model_size
  refine x_hasTable hC.1 hC.2.1 (fun hp => t1 ?_) (fun hp => t0 ?_)
  · refine m_isTable c1 c3 (fun _ => t1 ⟨vi_2 (by omega), ?_, h2⟩) (fun z => by omega)
    rw [tN_2, c3.2.2.2.1, hC.2.1.2.2.1]
  · exact m_isTable c1 c3 (fun z => by omega) (fun _ => t0 ⟨rfl, h2⟩)
/-- the model's state behind the first row of each call -/
abbrev a71 (a : ud_St) : ud_St := ud_sv a 71 0 0
theorem mm_told {a : ud_St} {x : Int32} {t : TD} {Q : Int32 → ud_St → Prop} (c1 : tOK t) (c3 : mT (a71 a) 0 t) (h1 : ∀ k, k < t 0 5 → x = nI k → Q (nI (t 7 k)) (a71 a)) (h0 : (∀ k, k < t 0 5 → x ≠ nI k) → Q (-1) (a71 a)) : w_Model_told a x Q := by
  have hb := t3_le c1
  obtain ⟨m1, m2, m3, m4, m5, m6, m7, m8, m9, m10⟩ := c3
  unfold w_Model_told
  simp only [tN_5, show (ud_sv a 71 0 0).1 78 5 = nI (t 0 5) from m7]
  refine ⟨vi_5 (by omega), m_in0 (t 0 5) (by omega) (hi_B (by omega)) (fun k hk e => t1 ⟨by rw [e]; exact vp_in_nI (by omega) (by omega), ?_⟩) (fun h => t0 (h0 h))⟩
  rw [e, nI_clamp (by omega)]
  have := m10 k hk
  rw [show 20 * 0 + k = k by omega] at this
  rw [this]
  exact h1 k hk e
theorem s_told (i : Nat) : us_told (J i) (J (i + 1)) := by
  intro N a x hJ
  obtain ⟨t, hC, hX⟩ := id hJ
  have h2 := J_sc hJ f0_sc
  obtain ⟨c1, c2, c3, -⟩ := JC_sc hC f0_sc
  have hb := t3_le c1
  obtain ⟨x1, x2, x3, x4, x5, x6, x7, x8, x9, x10, x11⟩ := hC.2.1
  unfold w_UpAndDown_told
  rw [x5]
  have no : (∀ k, k < t 0 5 → x ≠ nI k) → w_Model_told a x (fun r' a2 => (-1 : Int32) = r' ∧ J (i + 1) N a2) := fun h => mm_told c1 c3 (fun k hk e => absurd e (h k hk)) (fun _ => ⟨rfl, h2⟩)
  refine ar_ge (by omega) no no (fun k hk e => ?_)
  subst e
  refine ub_atn (by omega) (by omega) (mm_told c1 c3 (fun k' hk' e' => ⟨?_, h2⟩) (fun h => absurd rfl (h k hk)))
  rw [← (nI_eq (by omega) (by omega)).mp e']
  exact x11 k hk
theorem mm_word {a : ud_St} {x y : Int32} {t : TD} {Q : Int32 → ud_St → Prop} (c1 : tOK t) (c3 : mT (a71 a) 0 t) (h1 : ∀ k, k < t 0 3 → x = nI k → (y = nI 0 → Q (nI (t 1 k)) (a71 a)) ∧ (y = nI 1 → Q (enc (t 1 k) (t 2 k)) (a71 a))) (h0 : (¬ ∃ k w, k < t 0 3 ∧ w < 2 ∧ x = nI k ∧ y = nI w) → Q (-2) (a71 a)) : w_Model_word a x y Q := by
  have hb := t3_le c1
  obtain ⟨m1, m2, m3, m4, m5, m6, m7, m8, m9, m10⟩ := c3
  unfold w_Model_word
  refine m_isWord m5 (by omega) (fun k hk e => t1 (m_in0 2 (by omega) (by decide) (fun w hw e2 => t1 ?_) (fun h => t0 (h0 (fun ⟨k, w, _, q1, _, q2⟩ => h w q1 q2))))) (fun h => t0 (h0 (fun ⟨k, w, q1, _, q2, _⟩ => h k q1 q2)))
  have hm8 := m8 k hk
  rw [show 24 * 0 + 2 * k = 2 * k by omega] at hm8
  have hq := h1 k hk e
  have e3 : (2 : Int32) * x + y = nI (2 * k + w) := by rw [e, e2, show (2 : Int32) * nI k = nI (2 * k) from ui_mul 2 k, nI_add]
  rw [e3, nI_clamp (by omega)]
  refine ⟨vp_in_nI (by omega) (by omega), ?_⟩
  rcases (show w = 0 ∨ w = 1 by omega) with rfl | rfl
  · rw [Nat.add_zero, hm8.1]; exact hq.1 e2
  · rw [hm8.2]; exact hq.2 e2
theorem twok {t : TD} (c1 : tOK t) {k : Nat} (hk : k < t 0 3) : wok (t 0 0) (t 1 k) (t 2 k) := by
  rcases c1 with ⟨-, -, -, q, -⟩ | ⟨-, -, -, -, -, -, -, -, -, -, q, -⟩
  · omega
  · exact q k hk
theorem s_word (i : Nat) : us_word (J i) (J (i + 1)) := by
  intro N a x y hJ
  obtain ⟨t, hC, hX⟩ := id hJ
  have h2 := J_sc hJ f0_sc
  obtain ⟨c1, c2, c3, -⟩ := JC_sc hC f0_sc
  have hb := t3_le c1
  unfold w_UpAndDown_word
  obtain ⟨x1, x2, x3, x4, x5, x6, x7, x8, x9, x10, x11⟩ := hC.2.1
  have no : (¬ ∃ k w, k < t 0 3 ∧ w < 2 ∧ x = nI k ∧ y = nI w) → w_Model_word a x y (fun r' a2 => (-2 : Int32) = r' ∧ J (i + 1) N a2) := fun h => mm_word c1 c3 (fun k hk e => ⟨fun e2 => absurd ⟨k, 0, hk, by omega, e, e2⟩ h, fun e2 => absurd ⟨k, 1, hk, by omega, e, e2⟩ h⟩) (fun _ => ⟨rfl, h2⟩)
  refine x_isWord x6 (by omega) (fun k hk e => t1 ?_) (fun h => t0 (no (fun ⟨k, w, q1, _, q2, _⟩ => h k q1 q2)))
  have no2 : (∀ k, k < 2 → y ≠ nI k) → w_Model_word a x y (fun r' a2 => (-2 : Int32) = r' ∧ J (i + 1) N a2) := fun h => no (fun ⟨k, w, _, q1, _, q2⟩ => h w q1 q2)
  refine ar_le 1 (by omega) no2 no2 (fun w hw e2 => ?_)
  have hwk := twok c1 hk
  unfold w_Words_sort w_Words_number
  rw [e]
  refine ub_atn (by omega) (by omega) ?_
  rw [(x9 k hk).1, ← e, e2]
  refine ⟨fun q => ?_, fun q => ⟨fun z => ?_, fun z => ?_⟩⟩
  · rw [q] at e2 ⊢
    refine mm_word c1 c3 (fun k' hk' e' => ⟨fun _ => ⟨?_, h2⟩, fun z => absurd z (by decide)⟩) (fun h => absurd ⟨k, 0, hk, by omega, e, rfl⟩ h)
    rw [(nI_eq (by omega) (by omega)).mp (e.symm.trans e')]
  · have w1 : w = 1 := by
      have : w ≠ 0 := fun z => q (by rw [z]; rfl)
      omega
    subst w1
    have : t 1 k < 12 := (nI_ltI (b := 12) (by have := hwk.1; omega) (by omega)).mp z
    refine mm_word c1 c3 (fun k' hk' e' => ⟨fun z => absurd z (by decide), fun _ => ⟨?_, h2⟩⟩) (fun h => absurd ⟨k, 1, hk, by omega, e, rfl⟩ h)
    unfold enc
    rw [← (nI_eq (by omega) (by omega)).mp (e.symm.trans e'), if_pos this]
  · have w1 : w = 1 := by
      have : w ≠ 0 := fun z => q (by rw [z]; rfl)
      omega
    subst w1
    have : ¬ t 1 k < 12 := fun w => z (nI_lt (b := 12) w (by omega))
    rw [e]
    refine ub_atn (by omega) (by omega) ?_
    rw [(x9 k hk).2, ← e]
    refine mm_word c1 c3 (fun k' hk' e' => ⟨fun z => absurd z (by decide), fun _ => ⟨?_, h2⟩⟩) (fun h => absurd ⟨k, 1, hk, by omega, e, rfl⟩ h)
    unfold enc
    rw [← (nI_eq (by omega) (by omega)).mp (e.symm.trans e'), if_neg this]
theorem fig_sc : ∀ k j : Nat, k = 83 → Psc k j := fun k j q => by unfold Psc; omega
theorem mm_figure {a : ud_St} {x y : Int32} {t : TD} {Q : Int32 → ud_St → Prop} (c1 : tOK t) (c3 : mT (a71 a) 0 t) (h1 : ∀ k w, k < tS t → w < t 0 1 → x = nI k → y = nI w → ∀ a', fr Psc a a' → Q (nI (dg (t 0 0) (t 0 1) k w)) a') (h0 : (¬ ∃ k w, k < tS t ∧ w < t 0 1 ∧ x = nI k ∧ y = nI w) → Q (-2) (a71 a)) : w_Model_figure a x y Q := by
  have hb := t3_le c1
  have hS := tS_le c1
  unfold w_Model_figure
  simp only [tN_1, show (ud_sv a 71 0 0).1 78 1 = nI (t 0 1) from c3.2.2.1]
  refine m_isNumber c3.2.2.2.1 (by omega) (fun k hk e => t1 ⟨vi_1 (by omega), m_in0 (t 0 1) (by omega) (hi_B (by omega)) (fun w hw e2 => t1 ?_) (fun h => t0 (h0 (fun ⟨k, w, _, q1, _, q2⟩ => h w q1 q2)))⟩) (fun h => t0 (h0 (fun ⟨k, w, q1, _, q2, _⟩ => h k q1 q2)))
  rw [e]
  refine m_figures (mF_of c1 c3 (by omega)) (by omega) (fun a' hf hd => ⟨by rw [e2]; exact vp_in_nI (by omega) (by omega), ?_⟩)
  rw [e2, nI_clamp (by omega), hd w hw]
  exact h1 k w hk hw e e2 a' (f0_sc.tr (hf.mono fig_sc))
theorem s_figure (i : Nat) : us_figure (J i) (J (i + 1)) := by
  intro N a x y hJ
  obtain ⟨t, hC, hX⟩ := id hJ
  have h2 := J_sc hJ f0_sc
  obtain ⟨c1, c2, c3, -⟩ := JC_sc hC f0_sc
  have hb := t3_le c1
  have hS := tS_le c1
  unfold w_UpAndDown_figure
  have hx := hC.2.1
  have no : (¬ ∃ k w, k < tS t ∧ w < t 0 1 ∧ x = nI k ∧ y = nI w) → w_Model_figure a x y (fun r' a2 => (-2 : Int32) = r' ∧ J (i + 1) N a2) := fun h => mm_figure c1 c3 (fun k w hk hw e e2 => absurd ⟨k, w, hk, hw, e, e2⟩ h) (fun _ => ⟨rfl, h2⟩)
  refine x_isNumber hx.2.2.1 (by omega) (fun k hk e => t1 ?_) (fun h => t0 (no (fun ⟨k, w, q1, _, q2, _⟩ => h k q1 q2)))
  rw [hx.2.1]
  have no2 : (∀ k, k < t 0 1 → y ≠ nI k) → w_Model_figure a x y (fun r' a2 => (-2 : Int32) = r' ∧ J (i + 1) N a2) := fun h => no (fun ⟨k, w, _, q1, _, q2⟩ => h w q1 q2)
  refine ar_lt (t 0 1) (by omega) no2 no2 (fun w hw e2 => ?_)
  obtain ⟨f1, f2, f3⟩ := xF_of hC.1 hX.1 (by omega)
  subst e e2
  refine x_figureOf f1 f2 (by omega) hw (mm_figure c1 c3 (fun k' w' hk' hw' e e2 a' hf => ⟨?_, J_mk hC hX hf⟩) (fun h => absurd ⟨k, w, hk, hw, rfl, rfl⟩ h))
  rw [(nI_eq (by omega) (by omega)).mp e, (nI_eq (by omega) (by omega)).mp e2]
theorem s_next (i : Nat) : us_next (J i) (J (i + 1)) := by
  intro N a x hJ
  obtain ⟨t, hC, hX⟩ := id hJ
  have h2 := J_sc hJ f0_sc
  obtain ⟨c1, c2, c3, -⟩ := JC_sc hC f0_sc
  have hS := tS_le c1
  unfold w_UpAndDown_next w_Model_next_
  have hx := hC.2.1
  have m3 := c3.2.2.2.1
  refine x_isNumber hx.2.2.1 (by omega) (fun k hk e => t1 ?_) (fun h => t0 (m_isNumber m3 (by omega) (fun k hk e => absurd e (h k hk)) (fun _ => t0 ⟨rfl, h2⟩)))
  subst e
  have hp : 0 < tS t := by omega
  have eS := tS_eq hp
  obtain ⟨f1, f2, f3⟩ := xF_of hC.1 hX.1 hp
  have hW := xW_of hC.1 hx hp
  obtain ⟨g1, g2⟩ := mW_of c1 c3 hp
  rw [hW.2.1]
  refine x_go f1 f3 hW (by omega) (Nat.le_refl _) (m_isNumber m3 (by omega) (fun _ _ _ => t1 ⟨vi_3 (by omega), ?_⟩) (fun z => absurd rfl (z k hk)))
  rw [tN_3, g2]
  exact m_through0 (mF_of c1 c3 hp) g1 (by omega) (Nat.le_refl _) (fun a' hf => ⟨rfl, J_mk hC hX (f0_sc.tr (hf.mono pg_sc))⟩)
theorem mm_through {a : ud_St} {x y : Int32} {t : TD} {Q : Int32 → ud_St → Prop} (c1 : tOK t) (c3 : mT (a71 a) 0 t) (h1 : ∀ k w, k < tS t → w < t 0 3 + 1 → x = nI k → y = nI w → ∀ a', fr Psc a a' → Q (nI (gw (t 0 0) (t 0 1) (t 1) (t 2) k w).1) a') (h0 : (¬ ∃ k w, k < tS t ∧ w < t 0 3 + 1 ∧ x = nI k ∧ y = nI w) → Q (-2) (a71 a)) : w_Model_through a x y Q := by
  have hb := t3_le c1
  have hS := tS_le c1
  unfold w_Model_through
  simp only [tN_3, show (ud_sv a 71 0 0).1 78 3 = nI (t 0 3) from c3.2.2.2.2.1]
  refine m_isNumber c3.2.2.2.1 (by omega) (fun k hk e => t1 ⟨vi_3 (by omega), m_in0 (t 0 3 + 1) (by omega) (hi_C (by omega)) (fun w hw e2 => t1 ?_) (fun h => t0 (h0 (fun ⟨k, w, _, q1, _, q2⟩ => h w q1 q2)))⟩) (fun h => t0 (h0 (fun ⟨k, w, q1, _, q2, _⟩ => h k q1 q2)))
  have hp : 0 < tS t := by omega
  have eS := tS_eq hp
  rw [e, e2]
  exact m_through0 (mF_of c1 c3 hp) (mW_of c1 c3 hp).1 (by omega) (by omega) (fun a' hf => h1 k w hk hw e e2 a' (f0_sc.tr (hf.mono pg_sc)))
theorem s_through (i : Nat) : us_through (J i) (J (i + 1)) := by
  intro N a x y hJ
  obtain ⟨t, hC, hX⟩ := id hJ
  have h2 := J_sc hJ f0_sc
  obtain ⟨c1, c2, c3, -⟩ := JC_sc hC f0_sc
  have hS := tS_le c1
  have hb := t3_le c1
  unfold w_UpAndDown_through
  have hx := hC.2.1
  have no : (¬ ∃ k w, k < tS t ∧ w < t 0 3 + 1 ∧ x = nI k ∧ y = nI w) → w_Model_through a x y (fun r' a2 => (-2 : Int32) = r' ∧ J (i + 1) N a2) := fun h => mm_through c1 c3 (fun k w hk hw e e2 => absurd ⟨k, w, hk, hw, e, e2⟩ h) (fun _ => ⟨rfl, h2⟩)
  refine x_isNumber hx.2.2.1 (by omega) (fun k hk e => t1 ?_) (fun h => t0 (no (fun ⟨k, w, q1, _, q2, _⟩ => h k q1 q2)))
  have hp : 0 < tS t := by omega
  have eS := tS_eq hp
  obtain ⟨f1, f2, f3⟩ := xF_of hC.1 hX.1 hp
  have hW := xW_of hC.1 hx hp
  rw [hW.2.1]
  have no2 : (∀ k, k < t 0 3 + 1 → y ≠ nI k) → w_Model_through a x y (fun r' a2 => (-2 : Int32) = r' ∧ J (i + 1) N a2) := fun h => no (fun ⟨k, w, _, q1, _, q2⟩ => h w q1 q2)
  refine ar_le (t 0 3) (by omega) no2 no2 (fun w hw e2 => ?_)
  subst e e2
  refine x_go f1 f3 hW (by omega) (by omega) (mm_through c1 c3 (fun k' w' hk' hw' e e2 a' hf => ⟨?_, J_mk hC hX hf⟩) (fun h => absurd ⟨k, w, hk, hw, rfl, rfl⟩ h))
  rw [(nI_eq (by omega) (by omega)).mp e, (nI_eq (by omega) (by omega)).mp e2]
