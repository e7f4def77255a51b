/-! table, both sides -/
theorem lOK_tOK {t : TD} (h : lOK t) (h8 : t 0 2 ≤ 800) : tOK t := by
  rcases h with w | w
  · subst w; exact Or.inl ⟨rfl, rfl, rfl, rfl, rfl, rfl⟩
  · exact kOK_tOK w.1 w.2 (by omega)
theorem sz_tS {t : TD} (h : lOK t) : sz t = tS t := by
  unfold sz tS
  rcases h with w | ⟨w, w2⟩
  · subst w; rfl
  · have := w.2.2.1
    rw [if_neg (by omega), if_neg (by omega)]
theorem xT_of {a : ud_St} {t : TD} (h : pX a t) (hl : lOK t) : xT a 15 t := by
  obtain ⟨h1, h2, h3, h4, h5, h6, h7, h8, h9, h10, h11⟩ := h
  rw [sz_tS hl] at h3
  exact ⟨h1, h2, h3, h4, h5, h6, h7, h8, h9, h10, h11⟩
theorem mT_of {a : ud_St} {t : TD} (h : mP a t) (hl : lOK t) : mT a 4 t := by
  obtain ⟨h1, h2, h3, h4, h5, h6, h7, h8, h9, h10⟩ := h
  rw [sz_tS hl] at h4
  exact ⟨h1, h2, h3, h4, h5, h6, h7, h8, h9, h10⟩
theorem pz_ct {k j : Nat} (h : 77 ≤ k) (h2 : k ≤ 81) (h3 : Pmz k j) : Pct 4 k j := by unfold Pmz Pmr at h3; unfold Pct; omega
/-- all but the tables: changed are x's token, spare table, tape and fault, the model's, and its spare table -/
theorem J_tab {N : Nat} {a d : ud_St} {t t' : TD} (hC : JC N a t) (hok : tOK t') (hx : xT d 4 t') (hm : mT d 0 t') (e : ∀ k j, ¬ (k ≤ 61) → ¬ Pmz k j → ¬ Pct 0 k j → d.1 k j = a.1 k j) (e2 : ∀ k j, ¬ (k = 71 ∧ j = 11) → d.2.1 k j = a.2.1 k j) (e3 : d.2.2 = a.2.2) (hT1 : d.1 1 1 = 0) (hT2 : d.1 71 6 = 0) (hF : JF d) : JC N d t' := by
  obtain ⟨h1, h2, h3, h4, h5, h6, g1, g2, g3, g4⟩ := hC
  refine ⟨hok, hx, hm, ⟨0, by omega, hT1, hT2, fun i hi => by omega⟩, hF, fun i hi => ?_, g1, g2, fun k hk => ?_, by rw [e3]; exact g4⟩
  · have o : ∀ k j, 62 ≤ k → k ≤ 73 → k ≠ 71 → d.1 k j = a.1 k j := fun k j q1 q2 q3 => e k j (by omega) (by unfold Pmz Pmr; omega) (by unfold Pct; omega)
    rcases h6 i hi with ⟨q1, q2⟩ | ⟨q1, w, m, hw, hm, q2, q3, q4, q5, q6⟩
    · exact Or.inl ⟨(o _ _ (by omega) (by omega) (by omega)).trans q1, (o _ _ (by omega) (by omega) (by omega)).trans q2⟩
    · exact Or.inr ⟨(o _ _ (by omega) (by omega) (by omega)).trans q1, w, m, hw, hm, (o _ _ (by omega) (by omega) (by omega)).trans q2, (o _ _ (by omega) (by omega) (by omega)).trans q3, (o _ _ (by omega) (by omega) (by omega)).trans q4, (o _ _ (by omega) (by omega) (by omega)).trans q5, fun j hj => by rw [e2 _ _ (by omega), e2 _ _ (by omega)]; exact q6 j hj⟩
  · rw [e3, e 82 k (by omega) (by unfold Pmz Pmr; omega) (by unfold Pct; omega)]
    rcases g3 k hk with z | ⟨z1, p, u, z2, z3, z4, z5, z6, z7, z8⟩
    · exact Or.inl z
    · refine Or.inr ⟨z1, p, u, z2, z3, z4, z5, xT_c z6 (fun p' j _ _ => e p' j (by omega) (by unfold Pmz Pmr; omega) (by unfold Pct; omega)), ?_, z8⟩
      -- the image's own cells
      obtain ⟨b, hb⟩ : ∃ b : ud_St, b = (fun k j => @ite Int32 (Pct 4 k j) (Classical.propDecidable _) (d.1 k j) (a.1 k j), a.2) := ⟨_, rfl⟩
      have hb1 : ∀ k j, ¬ Pct 4 k j → b.1 k j = a.1 k j := fun k j q => by rw [hb]; exact @if_neg _ (Classical.propDecidable _) q _ _ _
      have hb2 : ∀ k j, Pct 4 k j → b.1 k j = d.1 k j := fun k j q => by rw [hb]; exact @if_pos _ (Classical.propDecidable _) q _ _ _
      have m1 : mT b (k + 1) u := mT_o z7 z8 (B := 4) (fun k' j _ _ q => hb1 k' j q) (by omega)
      refine mT_o m1 z8 (B := 0) (fun k' j q1 q2 q => ?_) (by omega)
      by_cases q4 : Pct 4 k' j
      · exact (hb2 k' j q4).symm
      · rw [hb1 k' j q4]
        exact e k' j (by omega) (fun w => q4 (pz_ct q1 q2 w)) q
theorem s_table (i : Nat) : us_table (J i) (J (i + 1)) := by
  intro N a hJ
  obtain ⟨t, hC, hX⟩ := id hJ
  obtain ⟨f, c, hc, hb1, hb6, hby⟩ := bys_of hC.2.2.2.1
  have xb : xby a f c := ⟨hc, hb1, fun i hi => ⟨(hby i hi).1, (hby i hi).2.1⟩⟩
  unfold w_UpAndDown_table
  refine x_read xb (fun t' e a1 hf1 hp1 hl1 h8 e6 e7 => t1 ?_) (fun e he a1 hx1 => t0 ?_)
  · have hok := lOK_tOK hl1 h8
    have hp1' : pX (ud_sv a1 1 1 0) t' := pX_c hp1 (fun k j _ _ => by rw [us_1, if_neg (by omega)])
    refine x_tcopy (k0 := 4) (k1 := 15) (xT_of hp1' hl1) hok (by omega) (fun b hfb hb => ?_)
    have fa : figOK b (t 0 0) (t 0 1) := figOK_c hX.1 (fun k j _ _ => by rw [hfb.1 k j (by unfold Ptc; omega), us_1, if_neg (by omega), hf1.1 k j (by unfold Pxr; omega)])
    refine x_beginT hb hok fa (fun c' hfc hc1 hc2 hc3 => ?_)
    have ec : ∀ k j, ¬ Ptc 4 k j → ¬ Pbg k j → ¬ Pxr k j → ¬ (k = 1 ∧ j = 1) → c'.1 k j = a.1 k j := fun k j q1 q2 q3 q4 => by rw [hfc.1 k j q2, hfb.1 k j q1, us_1, if_neg q4, hf1.1 k j q3]
    have ec2 : c'.2 = a.2 := by rw [hfc.2, hfb.2, us_2, hf1.2]
    have hx4 : xT c' 4 t' := xT_c hb (fun k j _ _ => hfc.1 k j (by unfold Pbg Pf; omega))
    have mb : mby c' f c := ⟨hc, by rw [ec 71 6 (by unfold Ptc; omega) (by unfold Pbg Pf; omega) (by unfold Pxr; omega) (by omega)]; exact hb6, fun i hi => ⟨(hby i hi).1, by rw [ec 76 i (by unfold Ptc; omega) (by unfold Pbg Pf; omega) (by unfold Pxr; omega) (by omega)]; exact (hby i hi).2.2⟩⟩
    rw [hx4.2.2.2.1]
    refine m_table mb (fun t2 e2 d hfd hpd hld h82 d6 d14 d15 => ?_) (fun e2 he2 d hfd d6 d14 d15 => ?_)
    · have et : t' = t2 := by rw [e] at e2; injection e2
      subst et
      refine m_copyTable (A := 4) (B := 0) (by omega) (by omega) (by omega) hok (mT_of hpd hld) (fun g hfg hg => ⟨vi_0 (by omega), hg.1.symm, t', ?_⟩)
      have eg : ∀ k j, ¬ Pct 0 k j → ¬ Pmz k j → g.1 k j = c'.1 k j := fun k j q1 q2 => (hfg.1 k j q1).trans (hfd.1 k j q2)
      refine ⟨J_tab hC hok (xT_c hx4 (fun k j _ _ => eg k j (by unfold Pct; omega) (by unfold Pmz Pmr; omega))) hg (fun k j q1 q2 q3 => ?_) (fun k j q => ?_) ?_ ?_ ?_ ⟨?_, ?_⟩, JX_new hX ?_ ?_ ?_ (fun k j q => ?_)⟩
      · rw [eg k j q3 q2]
        exact ec k j (by unfold Ptc; omega) (by unfold Pbg Pf; omega) (by unfold Pxr; omega) (by omega)
      · rw [hfg.2, hfd.2.1 k j q, ec2]
      · rw [hfg.2, hfd.2.2, ec2]
      · rw [eg 1 1 (by unfold Pct; omega) (by unfold Pmz Pmr; omega), hfc.1 1 1 (by unfold Pbg Pf; omega), hfb.1 1 1 (by unfold Ptc; omega), us_1, if_pos ⟨rfl, rfl⟩]
      · rw [hfg.1 71 6 (by unfold Pct; omega)]; exact d6
      · rw [eg 3 6 (by unfold Pct; omega) (by unfold Pmz Pmr; omega), hfc.1 3 6 (by unfold Pbg Pf; omega), hfb.1 3 6 (by unfold Ptc; omega), us_1, if_neg (by omega), e6, hfg.1 71 14 (by unfold Pct; omega), d14]
      · rw [eg 3 7 (by unfold Pct; omega) (by unfold Pmz Pmr; omega), hfc.1 3 7 (by unfold Pbg Pf; omega), hfb.1 3 7 (by unfold Ptc; omega), us_1, if_neg (by omega), e7, hfg.1 71 15 (by unfold Pct; omega), d15]
      · exact figOK_c hc1 (fun k j _ _ => eg k j (by unfold Pct; omega) (by unfold Pmz Pmr; omega))
      · rw [eg 36 9 (by unfold Pct; omega) (by unfold Pmz Pmr; omega)]; exact hc2
      · rw [eg 45 3 (by unfold Pct; omega) (by unfold Pmz Pmr; omega)]; exact hc3
      · rw [eg k j (by unfold Pct; omega) (by unfold Pmz Pmr; omega)]
        exact ec k j (by unfold Ptc; omega) (by unfold Pbg Pf; omega) (by unfold Pxr; omega) (by omega)
    · rw [e] at he2; cases he2
  · obtain ⟨hf1, e6, e7⟩ := hx1
    have ec : ∀ k j, ¬ Pxr k j → ¬ (k = 1 ∧ j = 1) → (ud_sv a1 1 1 0).1 k j = a.1 k j := fun k j q3 q4 => by rw [us_1, if_neg q4, hf1.1 k j q3]
    have mb : mby (ud_sv a1 1 1 0) f c := ⟨hc, by rw [ec 71 6 (by unfold Pxr; omega) (by omega)]; exact hb6, fun i hi => ⟨(hby i hi).1, by rw [ec 76 i (by unfold Pxr; omega) (by omega)]; exact (hby i hi).2.2⟩⟩
    refine m_table mb (fun t2 e2 d hfd hpd hld h82 d6 d14 d15 => by rw [he] at e2; cases e2) (fun e2 he2 d hfd d6 d14 d15 => ⟨rfl, t, ?_⟩)
    have ee : e = e2 := by rw [he] at he2; injection he2
    subst ee
    have ed : ∀ k j, ¬ Pmz k j → ¬ Pxr k j → ¬ (k = 1 ∧ j = 1) → d.1 k j = a.1 k j := fun k j q1 q2 q3 => (hfd.1 k j q1).trans (ec k j q2 q3)
    refine ⟨J_tab hC hC.1 (xT_c hC.2.1 (fun k j _ _ => ed k j (by unfold Pmz Pmr; omega) (by unfold Pxr; omega) (by omega))) (mT_o hC.2.2.1 hC.1 (B := 4) (fun k j q1 q2 q => ed k j (fun w => q (pz_ct q1 q2 w)) (by unfold Pxr; omega) (by omega)) (by omega)) (fun k j q1 q2 _ => ed k j q2 (by unfold Pxr; omega) (by omega)) (fun k j q => by rw [hfd.2.1 k j q, us_2, hf1.2]) (by rw [hfd.2.2, us_2, hf1.2]) ?_ d6 ⟨?_, ?_⟩, JX_c hX (Nat.le_succ i) (fun k j q => ed k j (by unfold Pmz Pmr; omega) (by unfold Pxr; omega) (by omega))⟩
    · rw [hfd.1 1 1 (by unfold Pmz Pmr; omega), us_1, if_pos ⟨rfl, rfl⟩]
    · rw [hfd.1 3 6 (by unfold Pmz Pmr; omega), us_1, if_neg (by omega), e6, d14]
    · rw [hfd.1 3 7 (by unfold Pmz Pmr; omega), us_1, if_neg (by omega), e7, d15]
