/-! keep, restore -/
theorem keep_fin {N N' i k q : Nat} {a c : ud_St} {t : TD} (hC : JC N a t) (hX : JX i a t) (hk : k < 3) (hq1 : 92 ≤ q) (hq2 : (q - 92) % 11 = 0) (hq3 : q + 11 ≤ N') (hN : N ≤ N') (hN2 : (N' - 92) % 11 = 0) (hd : ∀ k' q', k' < 3 → k' ≠ k → a.2.2 70 k' = some q' → q' + 11 ≤ q ∨ q + 11 ≤ q') (h1 : xT c q t) (h2 : mT c (1 + k) t) (h3 : c.1 82 k = 1) (h4 : ∀ k' j, ¬ Ptc q k' j → ¬ Pct (1 + k) k' j → ¬ (k' = 82 ∧ j = k) → ¬ (k' = 71 ∧ j = 0) → k' < N → c.1 k' j = a.1 k' j) (h5 : c.2.1 = a.2.1) (h6 : ∀ k', k' < 3 → c.2.2 70 k' = if k' = k then some q else a.2.2 70 k') : J (i + 1) N' c := by
  obtain ⟨d1, d2, d3, d4, d5, d6, d7⟩ := hC
  obtain ⟨g1, g2, g3, g4⟩ := d7
  have e : ∀ k' j, k' < 92 → ¬ (77 ≤ k' ∧ k' ≤ 82) → ¬ (k' = 71 ∧ j = 0) → c.1 k' j = a.1 k' j := fun k' j q1 q2 q3 => h4 k' j (by unfold Ptc; omega) (by unfold Pct; omega) (by omega) q3 (by omega)
  refine ⟨t, ⟨d1, xT_c d2 (fun k' j _ _ => e k' j (by omega) (by omega) (by omega)), mT_o d3 d1 (B := 1 + k) (fun k' j _ _ q => h4 k' j (by unfold Ptc; omega) q (by omega) (by omega) (by omega)) (by omega), JT_c d4 (e _ _ (by omega) (by omega) (by omega)) (fun j => e _ _ (by omega) (by omega) (by omega)) (e _ _ (by omega) (by omega) (by omega)) (fun j => e _ _ (by omega) (by omega) (by omega)), ?_, JS_c d6 (fun k' j _ _ => e _ _ (by omega) (by omega) (by omega)) (fun k' j _ _ => e _ _ (by omega) (by omega) (by omega)) h5, by omega, hN2, fun k' hk' => ?_, fun k1 k2 p z1 z2 z3 z4 => ?_⟩, JX_e hX (fun k' j _ _ => e _ _ (by omega) (by omega) (by omega))⟩
  · refine ⟨?_, ?_⟩
    · rw [e 3 6 (by omega) (by omega) (by omega), e 71 14 (by omega) (by omega) (by omega)]; exact d5.1
    · rw [e 3 7 (by omega) (by omega) (by omega), e 71 15 (by omega) (by omega) (by omega)]; exact d5.2
  · rw [h6 k' hk']
    by_cases ek : k' = k
    · rw [if_pos ek, ek]
      exact Or.inr ⟨h3, q, t, rfl, hq1, hq2, hq3, h1, by rw [Nat.add_comm]; exact h2, d1⟩
    · rw [if_neg ek, h4 82 k' (by unfold Ptc; omega) (by unfold Pct; omega) (by omega) (by omega) (by omega)]
      rcases g3 k' hk' with z | ⟨z1, q', t', z2, z3, z4, z5, z6, z7, z8⟩
      · exact Or.inl z
      · have hdd := hd k' q' hk' ek z2
        exact Or.inr ⟨z1, q', t', z2, z3, z4, by omega, xT_c z6 (fun p j w1 w2 => h4 p j (by unfold Ptc; omega) (by unfold Pct; omega) (by omega) (by omega) (by omega)), mT_o z7 z8 (B := 1 + k) (fun p j _ _ w => h4 p j (by unfold Ptc; omega) w (by omega) (by omega) (by omega)) (by omega), z8⟩
  · rw [h6 k1 z1] at z3
    rw [h6 k2 z2] at z4
    by_cases e1 : k1 = k
    · by_cases e2 : k2 = k
      · omega
      · rw [if_pos e1] at z3
        rw [if_neg e2] at z4
        cases z3
        have := hd k2 q z2 e2 z4
        omega
    · by_cases e2 : k2 = k
      · rw [if_neg e1] at z3
        rw [if_pos e2] at z4
        cases z4
        have := hd k1 q z1 e1 z3
        omega
      · rw [if_neg e1] at z3
        rw [if_neg e2] at z4
        exact g4 k1 k2 p z1 z2 z3 z4
theorem m_keep {b : ud_St} {k : Nat} {t : TD} {Q : Int32 → ud_St → Prop} (hk : k < 3) (hok : tOK t) (hm : mT b 0 t) (hQ : ∀ c, (∀ k' j, ¬ Pct (1 + k) k' j → ¬ (k' = 82 ∧ j = k) → ¬ (k' = 71 ∧ j = 0) → c.1 k' j = b.1 k' j) → mT c (1 + k) t → c.1 82 k = 1 → c.2 = b.2 → Q 0 c) : w_Model_keep b (nI k) Q := by
  unfold w_Model_keep
  refine m_in0 3 (by omega) (by decide) (fun _ _ _ => t1 ?_) (fun h => absurd rfl (h k hk))
  have e1 : (1 : Int32) + nI k = nI (1 + k) := nI_add 1 k
  rw [e1]
  refine m_copyTable (A := 0) (B := 1 + k) (by omega) (by omega) (by omega) hok (mT_c hm (fun k' j _ _ => by rw [us_1, if_neg (by omega)])) (fun c hf hc => ⟨vp_in_nI hk (by omega), ?_⟩)
  rw [nI_clamp (by omega)]
  refine hQ _ (fun k' j q1 q2 q3 => ?_) (mT_c hc (fun k' j _ _ => by rw [us_1, if_neg (by omega)])) ?_ ?_
  · rw [us_1, if_neg q2, hf.1 k' j q1, us_1, if_neg q3]
  · rw [us_1, if_pos ⟨rfl, rfl⟩]; decide
  · rw [us_2, hf.2]; rfl
theorem s_keep1 (i : Nat) : us_keep1 (J i) (J (i + 1)) := by
  intro N a x hJ hv hn
  obtain ⟨t, hC, hX⟩ := id hJ
  obtain ⟨k, hk, rfl⟩ := vp_in_of hv (by omega)
  rw [nI_clamp (by omega)] at hn ⊢
  obtain ⟨d1, d2, d3, d4, d5, d6, g1, g2, g3, g4⟩ := id hC
  refine ⟨g2, ?_⟩
  have ef : ∀ k' j, k' < N → (ud_fr a N k).1 k' j = a.1 k' j := fun k' j q => if_neg (by omega)
  refine x_tcopy (k0 := N) (k1 := 4) (t := t) (xT_c d2 (fun k' j _ _ => ef k' j (by omega))) d1 (by omega) (fun b hf hb => ?_)
  refine m_keep hk d1 (mT_c d3 (fun k' j _ _ => (hf.1 k' j (by unfold Ptc; omega)).trans (ef k' j (by omega)))) (fun c hc1 hc2 hc3 hc4 => ⟨rfl, ?_⟩)
  refine keep_fin (q := N) hC hX hk g1 g2 (Nat.le_refl _) (Nat.le_add_right _ _) (by omega) (fun k' q' z1 z2 z3 => ?_) (xT_c hb (fun k' j _ _ => hc1 k' j (by unfold Pct; omega) (by omega) (by omega))) hc2 hc3 (fun k' j q1 q2 q3 q4 q5 => ?_) ?_ (fun k' hk' => ?_)
  · rcases g3 k' z1 with ⟨w, -⟩ | ⟨-, q, t', w1, w2, w3, w4, -⟩
    · rw [w] at z3; cases z3
    · rw [w1] at z3; cases z3; exact Or.inl w4
  · rw [hc1 k' j q2 q3 q4, hf.1 k' j q1, ef k' j q5]
  · rw [hc4, hf.2]; rfl
  · rw [hc4, hf.2]
    show (if 70 = 70 ∧ k' = k then some N else a.2.2 70 k') = _
    by_cases e : k' = k
    · rw [if_pos ⟨rfl, e⟩, if_pos e]
    · rw [if_neg (fun w => e w.2), if_neg e]
theorem s_keep (i : Nat) : us_keep (J i) (J (i + 1)) := by
  intro N a x hJ hn
  obtain ⟨t, hC, hX⟩ := id hJ
  obtain ⟨d1, d2, d3, d4, d5, d6, g1, g2, g3, g4⟩ := id hC
  unfold w_UpAndDown_keep w_UpAndDown_isImage
  have no : (∀ k, k < 3 → x ≠ nI k) → w_Model_keep a x (fun r' a2 => (-2 : Int32) = r' ∧ J (i + 1) N a2) := fun h => by
    unfold w_Model_keep
    exact m_in0 3 (by omega) (by decide) (fun k hk e => absurd e (h k hk)) (fun _ => t0 ⟨rfl, J_sc hJ f0_sc⟩)
  refine ar_ge (n := 3) (by omega) (fun h => t0 (no h)) (fun h => t0 (no h)) (fun k hk e => t1 ?_)
  subst e
  have hv : vp_in (nI k) 3 := vp_in_nI hk (by omega)
  have hn' : a.2.2 70 k ≠ none := fun q => hn ⟨hv, by rw [nI_clamp (by omega)]; exact q⟩
  rw [nI_clamp (by omega)]
  refine ⟨hv, fun q => hn' q, fun q hq => ?_⟩
  rcases g3 k hk with ⟨w, -⟩ | ⟨-, q', t', w1, w2, w3, w4, -⟩
  · exact absurd w hn'
  have eq : q' = q := by
    rw [w1] at hq; cases hq; rfl
  subst eq
  refine ⟨img_T w2 w3 w4, hv, x_tcopy d2 d1 (by omega) (fun b hf hb => ?_)⟩
  refine m_keep hk d1 (mT_c d3 (fun k' j _ _ => hf.1 k' j (by unfold Ptc; omega))) (fun c hc1 hc2 hc3 hc4 => ⟨rfl, ?_⟩)
  refine keep_fin (q := q') hC hX hk w2 w3 w4 (Nat.le_refl _) g2 (fun k' p z1 z2 z3 => ?_) (xT_c hb (fun k' j _ _ => hc1 k' j (by unfold Pct; omega) (by omega) (by omega))) hc2 hc3 (fun k' j q1 q2 q3 q4 _ => ?_) ?_ (fun k' hk' => ?_)
  · rcases g3 k' z1 with ⟨w, -⟩ | ⟨-, p', t'', v1, v2, v3, v4, -⟩
    · rw [w] at z3; cases z3
    · have : p' = p := by rw [v1] at z3; cases z3; rfl
      subst this
      have hne : p' ≠ q' := fun e => z2 (g4 k' k p' z1 hk z3 (by rw [e]; exact w1))
      omega
  · rw [hc1 k' j q2 q3 q4, hf.1 k' j q1]
  · rw [hc4, hf.2]
  · rw [hc4, hf.2]
    by_cases e : k' = k
    · rw [if_pos e, e]; exact w1
    · rw [if_neg e]
theorem bn_of {t : TD} (h : tOK t) : bnOK (t 0 0) (t 0 1) (tS t) := by
  unfold tS
  rcases h with ⟨q, q1, q2, -⟩ | ⟨q, -, q2, q3, q4, q5, q6, -⟩
  · exact Or.inl ⟨q1, q2, if_pos q⟩
  · exact Or.inr ⟨q2, q3, q4, q5, q6, if_neg (by omega)⟩
/-- x's caches behind a new table -/
def Pbg (k j : Nat) : Prop := Pf k j ∨ (k = 36 ∧ j = 9) ∨ (k = 45 ∧ j = 3)
theorem x_beginT {a : ud_St} {b0 n0 : Nat} {t : TD} {Q : ud_St → Prop} (hx : xT a 4 t) (hok : tOK t) (h0 : figOK a b0 n0) (hQ : ∀ a', fr Pbg a a' → figOK a' (t 0 0) (t 0 1) → a'.1 36 9 = 0 → a'.1 45 3 = -1 → Q a') : w_UpAndDown_begin a Q := by
  unfold w_UpAndDown_begin w_UpAndDown_forget
  rw [hx.1, hx.2.1, hx.2.2.1]
  refine x_prepare h0 (bn_of hok) (fun b hf hb => hQ _ ?_ (figOK_c hb (fun k j _ _ => by rw [us_1, if_neg (by omega), us_1, if_neg (by omega)])) (by simp [us_1]) (by simp [us_1]))
  have h1 : fr Pbg a b := hf.mono (fun k j q => Or.inl q)
  have h2 : fr Pbg a (ud_sv b 36 9 0) := h1.sv (Or.inr (Or.inl ⟨rfl, rfl⟩))
  exact h2.sv (Or.inr (Or.inr ⟨rfl, rfl⟩))
theorem JX_new {i : Nat} {a c : ud_St} {t t' : TD} (h : JX i a t) (hf : figOK c (t' 0 0) (t' 0 1)) (e36 : c.1 36 9 = 0) (e45 : c.1 45 3 = -1) (e : ∀ k j, (45 ≤ k ∧ k ≤ 47 ∧ ¬ (k = 45 ∧ j = 3)) ∨ k = 49 ∨ k = 54 ∨ k = 55 → c.1 k j = a.1 k j) : JX (i + 1) c t' := by
  obtain ⟨f1, f2, ⟨mk, ⟨f3, f4, f5⟩, -⟩, f6⟩ := h
  refine ⟨hf, Or.inl e36, ⟨mk, ⟨(e _ _ (by omega)).trans f3, by omega, fun u hu => ?_⟩, Or.inl e45⟩, coOK_c f6 (fun k j _ => e _ _ (by omega))⟩
  obtain ⟨v, v1, v2⟩ := f5 u hu
  exact ⟨v, v1, (e _ _ (by omega)).trans v2⟩
theorem s_restore (i : Nat) : us_restore (J i) (J (i + 1)) := by
  intro N a x hJ
  obtain ⟨t, hC, hX⟩ := id hJ
  obtain ⟨d1, d2, d3, d4, d5, d6, g1, g2, g3, g4⟩ := id hC
  have hj2 := J_sc hJ f0_sc
  unfold w_UpAndDown_restore w_UpAndDown_isImage
  have no : (∀ k, k < 3 → x ≠ nI k) → w_Model_restore a x (fun r' a2 => (-2 : Int32) = r' ∧ J (i + 1) N a2) := fun h => by
    unfold w_Model_restore
    exact m_in0 3 (by omega) (by decide) (fun k hk e => absurd e (h k hk)) (fun _ => t0 ⟨rfl, hj2⟩)
  refine ar_ge (n := 3) (by omega) (fun h => t0 (no h)) (fun h => t0 (no h)) (fun k hk e => t1 ?_)
  subst e
  have hv : vp_in (nI k) 3 := vp_in_nI hk (by omega)
  rw [nI_clamp (by omega)]
  have e82 : ∀ b : ud_St, (ud_sv b 71 0 0).1 82 k = b.1 82 k := fun b => by rw [us_1, if_neg (by omega)]
  refine ⟨hv, fun q => ?_, fun q hq => ?_⟩
  · rcases g3 k hk with ⟨-, w⟩ | ⟨-, q', t', w1, -⟩
    · unfold w_Model_restore
      refine m_in0 3 (by omega) (by decide) (fun _ _ _ => t1 ?_) (fun h => absurd rfl (h k hk))
      rw [nI_clamp (by omega), e82, w]
      exact ⟨hv, fun _ => ⟨rfl, hj2⟩, fun z => absurd rfl z⟩
    · rw [w1] at q; cases q
  · rcases g3 k hk with ⟨w, -⟩ | ⟨w0, q', t', w1, w2, w3, w4, w5, w6, w7⟩
    · rw [w] at hq; cases hq
    have eq : q' = q := by
      rw [w1] at hq; cases hq; rfl
    subst eq
    refine ⟨img_T w2 w3 w4, hv, x_tcopy w5 w7 (by omega) (fun b hf hb => ?_)⟩
    refine x_beginT hb w7 (figOK_c hX.1 (fun k' j _ _ => hf.1 k' j (by unfold Ptc; omega))) (fun c hfc hc1 hc2 hc3 => ?_)
    have ec : ∀ k' j, ¬ Ptc 4 k' j → ¬ Pbg k' j → c.1 k' j = a.1 k' j := fun k' j q1 q2 => (hfc.1 k' j q2).trans (hf.1 k' j q1)
    unfold w_Model_restore
    refine m_in0 3 (by omega) (by decide) (fun _ _ _ => t1 ?_) (fun h => absurd rfl (h k hk))
    rw [nI_clamp (by omega), e82, ec 82 k (by unfold Ptc; omega) (by unfold Pbg Pf; omega), w0]
    refine ⟨hv, fun z => absurd z (by decide), fun _ => ?_⟩
    have e1 : (1 : Int32) + nI k = nI (1 + k) := nI_add 1 k
    rw [e1]
    refine m_copyTable (A := 1 + k) (B := 0) (by omega) (by omega) (by omega) w7 (by
      rw [Nat.add_comm]
      exact mT_c w6 (fun k' j _ _ => by rw [us_1, if_neg (by omega)]; exact ec k' j (by unfold Ptc; omega) (by unfold Pbg Pf; omega))) (fun d hfd hd => ⟨rfl, t', ?_⟩)
    have ed : ∀ k' j, ¬ Ptc 4 k' j → ¬ Pbg k' j → ¬ Pct 0 k' j → ¬ (k' = 71 ∧ j = 0) → d.1 k' j = a.1 k' j := fun k' j q1 q2 q3 q4 => by rw [hfd.1 k' j q3, us_1, if_neg q4, ec k' j q1 q2]
    have ed2 : ∀ k' j, ¬ Pct 0 k' j → ¬ (k' = 71 ∧ j = 0) → d.1 k' j = c.1 k' j := fun k' j q3 q4 => by rw [hfd.1 k' j q3, us_1, if_neg q4]
    have e2 : d.2 = a.2 := by
      have : d.2 = c.2 := by rw [hfd.2]; rfl
      rw [this, hfc.2, hf.2]
    refine ⟨⟨w7, xT_c hb (fun k' j _ _ => ?_), hd, JT_c d4 (ed _ _ (by unfold Ptc; omega) (by unfold Pbg Pf; omega) (by unfold Pct; omega) (by omega)) (fun j => ed _ _ (by unfold Ptc; omega) (by unfold Pbg Pf; omega) (by unfold Pct; omega) (by omega)) (ed _ _ (by unfold Ptc; omega) (by unfold Pbg Pf; omega) (by unfold Pct; omega) (by omega)) (fun j => ed _ _ (by unfold Ptc; omega) (by unfold Pbg Pf; omega) (by unfold Pct; omega) (by omega)), ?_, JS_c d6 (fun k' j _ _ => ed _ _ (by unfold Ptc; omega) (by unfold Pbg Pf; omega) (by unfold Pct; omega) (by omega)) (fun k' j _ _ => ed _ _ (by unfold Ptc; omega) (by unfold Pbg Pf; omega) (by unfold Pct; omega) (by omega)) (by rw [e2]), g1, g2, fun k' hk' => ?_, by rw [e2]; exact g4⟩, JX_new hX (figOK_c hc1 (fun k' j _ _ => ed2 k' j (by unfold Pct; omega) (by omega))) ((ed2 _ _ (by unfold Pct; omega) (by omega)).trans hc2) ((ed2 _ _ (by unfold Pct; omega) (by omega)).trans hc3) (fun k' j q => ed _ _ (by unfold Ptc; omega) (by unfold Pbg Pf; omega) (by unfold Pct; omega) (by omega))⟩
    · rw [ed2 k' j (by unfold Pct; omega) (by omega)]
      exact hfc.1 k' j (by unfold Pbg Pf; omega)
    · refine ⟨?_, ?_⟩
      · rw [ed 3 6 (by unfold Ptc; omega) (by unfold Pbg Pf; omega) (by unfold Pct; omega) (by omega), ed 71 14 (by unfold Ptc; omega) (by unfold Pbg Pf; omega) (by unfold Pct; omega) (by omega)]; exact d5.1
      · rw [ed 3 7 (by unfold Ptc; omega) (by unfold Pbg Pf; omega) (by unfold Pct; omega) (by omega), ed 71 15 (by unfold Ptc; omega) (by unfold Pbg Pf; omega) (by unfold Pct; omega) (by omega)]; exact d5.2
    · rw [e2, ed 82 k' (by unfold Ptc; omega) (by unfold Pbg Pf; omega) (by unfold Pct; omega) (by omega)]
      rcases g3 k' hk' with z | ⟨z1, p, u, z2, z3, z4, z5, z6, z7, z8⟩
      · exact Or.inl z
      · exact Or.inr ⟨z1, p, u, z2, z3, z4, z5, xT_c z6 (fun p' j _ _ => ed _ _ (by unfold Ptc; omega) (by unfold Pbg Pf; omega) (by unfold Pct; omega) (by omega)), mT_o z7 z8 (B := 0) (fun p' j _ _ w => ed _ _ (by unfold Ptc; omega) (by unfold Pbg Pf; omega) w (by omega)) (by omega), z8⟩
