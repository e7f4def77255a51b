/-! slip, fits, which, judge -/
def csl (t : TD) (i s : Nat) : Prop := t 1 i = t 5 s ∧ t 2 i = t 6 s
/-- the NEXT with slip s at word i -/
def slv (t : TD) (x i s : Nat) : Nat := gx (t 0 0) (t 0 1) (t 0 3) (fun j => if j = i then t 3 s else t 1 j) (fun j => if j = i then t 4 s else t 2 j) x
theorem twok2 {t : TD} (c1 : tOK t) {k : Nat} (hk : k < t 0 4) : wok (t 0 0) (t 3 k) (t 4 k) ∧ wok (t 0 0) (t 5 k) (t 6 k) := by
  rcases c1 with ⟨-, -, -, -, q, -⟩ | ⟨-, -, -, -, -, -, -, -, -, -, -, q, -⟩
  · omega
  · exact q k hk
theorem enc_inj {b s k k' : Nat} (hb : b ≤ 16) (h1 : wok b s k) (h2 : wok b s k') : enc s k = enc s k' ↔ k = k' := by
  refine ⟨fun e => ?_, fun e => by rw [e]⟩
  unfold enc at e
  by_cases h : s < 12
  · rw [h1.2.1 h, h2.2.1 h]
  · rw [if_neg h, if_neg h] at e
    have a1 := wok_99 hb h1
    have a2 := wok_99 hb h2
    exact (nI_eq (by omega) (by omega)).mp e
theorem x_canSlip {a : ud_St} {t : TD} {i s : Nat} {Q : Int32 → Prop} (hok : tOK t) (hx : xT a 4 t) (hi : i < t 0 3) (hs : s < t 0 4) (h1 : csl t i s → Q 1) (h0 : ¬ csl t i s → Q 0) : w_UpAndDown_canSlip a (nI i) (nI s) Q := by
  have hb := t3_le hok
  obtain ⟨x1, x2, x3, x4, x5, x6, x7, x8, x9, x10, x11⟩ := hx
  obtain ⟨y1, y2, y3, y4⟩ := x10 s hs
  have w1 := twok hok hi
  have w2 := (twok2 hok hs).2
  have v1 := wok_99 hb.2.2.2.1 w1
  have v2 := wok_99 hb.2.2.2.1 w2
  have u1 := w1.1
  have u2 := w2.1
  unfold w_UpAndDown_canSlip w_Words_is w_Words_sort w_Words_number
  refine ub_atn (by omega) (by omega) (ub_atn (by omega) (by omega) (ub_atn (by omega) (by omega) ?_))
  rw [y3, y4, (x9 i hi).1]
  refine ⟨fun e => ub_atn (by omega) (by omega) ?_, fun e => ⟨Or.inl rfl, h0 (fun q => e (by rw [q.1]))⟩⟩
  rw [(x9 i hi).2]
  have e' := (nI_eq (by omega) (by omega)).mp e
  exact ⟨fun e2 => ⟨Or.inr rfl, h1 ⟨e', (nI_eq (by omega) (by omega)).mp e2⟩⟩, fun e2 => ⟨Or.inl rfl, h0 (fun q => e2 (by rw [q.2]))⟩⟩
theorem x_nextSlipped {i0 N : Nat} {a : ud_St} {t : TD} {x i s : Nat} {Q : Int32 → ud_St → Prop} (hC : JC N a t) (hX : JX i0 a t) (hx : x < tS t) (hi : i < t 0 3) (hs : s < t 0 4) (hQ : ∀ a', fr Pe a a' → Q (nI (slv t x i s)) a') : w_UpAndDown_nextSlipped a (nI x) (nI i) (nI s) Q := by
  have hb := t3_le hC.1
  have hp : 0 < tS t := by omega
  have eS := tS_eq hp
  obtain ⟨f1, f2, f3⟩ := xF_of hC.1 hX.1 hp
  obtain ⟨x1, x2, x3, x4, x5, x6, x7, x8, x9, x10, x11⟩ := hC.2.1
  obtain ⟨y1, y2, y3, y4⟩ := x10 s hs
  have w2 := (twok2 hC.1 hs).1
  unfold w_UpAndDown_nextSlipped w_Words_sort w_Words_number w_Words_change
  refine x_wcopy (m := t 0 3) x6 hb.1 (by omega) (fun b hf g1 g2 => ?_)
  refine ub_atn (by omega) (by omega) (ub_atn (by omega) (by omega) (ub_putn (by omega) (by omega) (ub_putn (by omega) (by omega) ?_)))
  have hfe : fr Pe a b := hf.mono (fun k j q => by unfold Pwc at q; unfold Pe; omega)
  have hf2 : fr Pe a (ud_sv (ud_sv b (56 + 1) i (b.1 (8 + 1) s)) (56 + 2) i (b.1 (8 + 2) s)) := (hfe.sv (by unfold Pe; omega)).sv (by unfold Pe; omega)
  have e9 : b.1 (8 + 1) s = nI (t 3 s) := (hfe.1 _ _ (by unfold Pe; omega)).trans y1
  have e10 : b.1 (8 + 2) s = nI (t 4 s) := (hfe.1 _ _ (by unfold Pe; omega)).trans y2
  have hW : xW (ud_sv (ud_sv b (56 + 1) i (b.1 (8 + 1) s)) (56 + 2) i (b.1 (8 + 2) s)) 56 (t 0 3) (fun j => if j = i then t 3 s else t 1 j) (fun j => if j = i then t 4 s else t 2 j) := by
    refine ⟨hb.1, by rw [us_1, if_neg (by omega), us_1, if_neg (by omega)]; exact g1, fun j hj => ?_⟩
    rw [us_1, if_neg (by omega), us_1, us_1]
    by_cases e : j = i
    · have p1 : (if j = i then t 3 s else t 1 j) = t 3 s := if_pos e
      have p2 : (if j = i then t 4 s else t 2 j) = t 4 s := if_pos e
      dsimp only
      rw [p1, p2, if_pos ⟨rfl, e⟩, if_pos ⟨rfl, e⟩, e9, e10]
      exact ⟨rfl, rfl, w2.1, wok_99 hb.2.2.2.1 w2⟩
    · have p1 : (if j = i then t 3 s else t 1 j) = t 1 j := if_neg e
      have p2 : (if j = i then t 4 s else t 2 j) = t 2 j := if_neg e
      dsimp only
      rw [p1, p2, if_neg (fun q => e q.2), if_neg (fun q => e q.2), us_1, if_neg (by omega), (g2 j hj).1, (g2 j hj).2]
      have wj := twok hC.1 hj
      exact ⟨(x9 j hj).1, (x9 j hj).2, wj.1, wok_99 hb.2.2.2.1 wj⟩
  dsimp only
  rw [hW.2.1]
  have xFe : xF (ud_sv (ud_sv b (56 + 1) i (b.1 (8 + 1) s)) (56 + 2) i (b.1 (8 + 2) s)) (t 0 0) (t 0 1) := ⟨(hf2.1 26 0 (by unfold Pe; omega)).trans f1.1, (hf2.1 26 1 (by unfold Pe; omega)).trans f1.2.1, (hf2.1 26 2 (by unfold Pe; omega)).trans f1.2.2.1, f1.2.2.2⟩
  have xGe : xG (ud_sv (ud_sv b (56 + 1) i (b.1 (8 + 1) s)) (56 + 2) i (b.1 (8 + 2) s)) (t 0 0) (t 0 1) := fun z hz => by
    obtain ⟨g1, g2, g3, g4, g5, g6, g7⟩ := f3 z hz
    have e : ∀ k, k ≤ 35 → _ := fun k (_ : k ≤ 35) => hf2.1 k z (by unfold Pe; omega)
    exact ⟨(e 29 (by omega)).trans g1, (e 30 (by omega)).trans g2, (e 31 (by omega)).trans g3, (e 32 (by omega)).trans g4, (e 33 (by omega)).trans g5, (e 34 (by omega)).trans g6, (e 35 (by omega)).trans g7⟩
  exact x_go xFe xGe hW (by omega) (Nat.le_refl _) (hQ _ hf2)
theorem m_slipped {b : ud_St} {t : TD} {x i s : Nat} {Q : Int32 → ud_St → Prop} (hok : tOK t) (hm : mT b 0 t) (hx : x < tS t) (hi : i < t 0 3) (hs : s < t 0 4) (h1 : csl t i s → ∀ c, fr Pg b c → Q (nI (slv t x i s)) c) (h0 : ¬ csl t i s → Q (-1) b) : w_Model_slipped b (nI x) (nI i) (nI s) Q := by
  have hb := t3_le hok
  have hp : 0 < tS t := by omega
  have eS := tS_eq hp
  have hF := mF_of hok hm hp
  obtain ⟨f1, f2, f3, hb2, hb16, hn, hn2, hS⟩ := id hF
  obtain ⟨m1, m2, m3, m4, m5, m6, m7, m8, m9, m10⟩ := id hm
  have hm8 := m8 i hi
  have hm9 := m9 s hs
  simp only [Nat.mul_zero, Nat.zero_add] at hm8 hm9
  have w1 := twok hok hi
  obtain ⟨w2, w3⟩ := twok2 hok hs
  have u1 := w1.1
  have u3 := w3.1
  have e1 : (2 : Int32) * nI i = nI (2 * i) := ui_mul 2 i
  have e2 : (2 : Int32) * nI i + 1 = nI (2 * i + 1) := by rw [e1]; exact nI_1 _
  have e3 : (4 : Int32) * nI s = nI (4 * s) := ui_mul 4 s
  have e4 : (4 : Int32) * nI s + 2 = nI (4 * s + 2) := by rw [e3]; exact nI_add _ 2
  have e5 : (4 : Int32) * nI s + 3 = nI (4 * s + 3) := by rw [e3]; exact nI_add _ 3
  have e6 : (4 : Int32) * nI s + 1 = nI (4 * s + 1) := by rw [e3]; exact nI_1 _
  unfold w_Model_slipped
  rw [e2, e4, e5, e6, e1, e3, nI_clamp (by omega), nI_clamp (by omega), nI_clamp (by omega), nI_clamp (by omega), nI_clamp (by omega), nI_clamp (by omega), hm8.1, hm8.2, hm9.2.2.1, hm9.2.2.2]
  refine ⟨vp_in_nI (by omega) (by omega), vp_in_nI (by omega) (by omega), fun q => ⟨vp_in_nI (by omega) (by omega), vp_in_nI (by omega) (by omega), fun q2 => ?_, fun q2 => h0 (fun c => q2 (by rw [c.1, c.2]))⟩, fun q => h0 (fun c => q (by rw [c.1]))⟩
  have q' := (nI_eq (by omega) (by omega)).mp q
  have hc : csl t i s := ⟨q', by rw [q'] at q2 w1; exact (enc_inj hb16 w1 w3).mp q2⟩
  have hq := h1 hc
  refine LW3.up (t 0 3) (fun j v k c => v = nI (gw (t 0 0) (t 0 1) (fun j => if j = i then t 3 s else t 1 j) (fun j => if j = i then t 4 s else t 2 j) x j).1 ∧ k = nI j ∧ c.1 71 25 = nI (gw (t 0 0) (t 0 1) (fun j => if j = i then t 3 s else t 1 j) (fun j => if j = i then t 4 s else t 2 j) x j).2 ∧ fr Pg b c) ⟨rfl, rfl, by rw [us_1, if_pos ⟨rfl, rfl⟩]; rfl, fr.rf.sv (Or.inr (Or.inr ⟨rfl, rfl⟩))⟩ ?_ ?_
  · rintro j v k c hj ⟨rfl, rfl, hk, hf⟩ K hK
    have hl := gw_lt (ws := fun j => if j = i then t 3 s else t 1 j) (wn := fun j => if j = i then t 4 s else t 2 j) hb2 hn (show x < t 0 0 ^ t 0 1 by omega) j
    have e78 : c.1 78 3 = nI (t 0 3) := (hf.1 78 3 (by unfold Pg; omega)).trans m5
    have d1 : (2 : Int32) * nI j = nI (2 * j) := ui_mul 2 j
    have d2 : (2 : Int32) * nI j + 1 = nI (2 * j + 1) := by rw [d1]; exact nI_1 _
    simp only [tN_3, e78]
    rw [d2, d1, nI_clamp (by omega), nI_clamp (by omega), hf.1 80 _ (by unfold Pg; omega), hf.1 80 _ (by unfold Pg; omega), hf.1 79 _ (by unfold Pg; omega), hf.1 79 _ (by unfold Pg; omega), hm9.1, hm9.2.1]
    have hm8j := m8 j hj
    simp only [Nat.mul_zero, Nat.zero_add] at hm8j
    rw [hm8j.1, hm8j.2]
    refine ⟨vi_3 (by omega), fun z => absurd z (nI_ge hj (by omega)), fun _ => ⟨fun z => ?_, fun z => ?_⟩⟩
    · have z' := (nI_eq (by omega) (by omega)).mp z
      refine ⟨vp_in_nI (by omega) (by omega), vp_in_nI (by omega) (by omega), m_does (k := t 4 s) (hF.fr hf) hl.1 hl.2 hk w2.1 (fun w => by unfold enc; rw [if_neg (by omega)]) (wok_99 hb16 w2) (fun d hfd hkd => hK _ _ _ ⟨?_, nI_1 j, ?_, hf.tr hfd⟩)⟩
      · show _ = nI (wdo _ _ (if j = i then t 3 s else t 1 j) (if j = i then t 4 s else t 2 j) _ _)
        rw [if_pos z', if_pos z']
      · rw [hkd]
        unfold wkept
        show _ = nI (if (if j = i then t 3 s else t 1 j) = 3 then wdo _ _ (if j = i then t 3 s else t 1 j) (if j = i then t 4 s else t 2 j) _ _ else _)
        rw [if_pos z', if_pos z']
    · have z' : ¬ j = i := fun w => z (by rw [w])
      have wj := twok hok hj
      refine ⟨vp_in_nI (by omega) (by omega), vp_in_nI (by omega) (by omega), m_does (k := t 2 j) (hF.fr hf) hl.1 hl.2 hk wj.1 (fun w => by unfold enc; rw [if_neg (by omega)]) (wok_99 hb16 wj) (fun d hfd hkd => hK _ _ _ ⟨?_, nI_1 j, ?_, hf.tr hfd⟩)⟩
      · show _ = nI (wdo _ _ (if j = i then t 3 s else t 1 j) (if j = i then t 4 s else t 2 j) _ _)
        rw [if_neg z', if_neg z']
      · rw [hkd]
        unfold wkept
        show _ = nI (if (if j = i then t 3 s else t 1 j) = 3 then wdo _ _ (if j = i then t 3 s else t 1 j) (if j = i then t 4 s else t 2 j) _ _ else _)
        rw [if_neg z', if_neg z']
  · rintro v k c ⟨rfl, rfl, hk, hf⟩ K
    have e78 : c.1 78 3 = nI (t 0 3) := (hf.1 78 3 (by unfold Pg; omega)).trans m5
    simp only [tN_3, e78]
    exact ⟨vi_3 (by omega), fun _ => hq c hf, fun z => absurd (nI_le (Nat.le_refl _) (by omega)) z⟩
theorem slv_lt {t : TD} (h : tOK t) {x i s : Nat} (hx : x < tS t) : slv t x i s < tS t := by
  have hp : 0 < tS t := by omega
  have e := tS_eq hp
  have hp2 := (tS_pos h).mp hp
  rw [e] at hx ⊢
  rcases h with ⟨q, -⟩ | ⟨-, -, q2, -, q3, -⟩
  · omega
  · exact gx_lt q2 q3 hx
theorem mm_slip {N : Nat} {a : ud_St} {x y z : Int32} {t : TD} {Q : Int32 → ud_St → Prop} (hC : JC N a t) (h1 : ∀ k i s, k < tS t → i < t 0 3 → s < t 0 4 → csl t i s → x = nI k → y = nI i → z = nI s → ∀ a', fr Psc a a' → Q (nI (slv t k i s)) a') (h0 : (¬ ∃ k i s, k < tS t ∧ i < t 0 3 ∧ s < t 0 4 ∧ csl t i s ∧ x = nI k ∧ y = nI i ∧ z = nI s) → Q (-2) (a71 a)) : w_Model_slip a x y z Q := by
  obtain ⟨c1, c2, c3, -⟩ := JC_sc hC f0_sc
  have hS := tS_le c1
  have hb := t3_le c1
  unfold w_Model_slip
  simp only [tN_4, show (ud_sv a 71 0 0).1 78 4 = nI (t 0 4) from c3.2.2.2.2.2.1]
  refine m_isNumber c3.2.2.2.1 (by omega) (fun k hk e => t1 (m_isWord c3.2.2.2.2.1 (by omega) (fun i hi e2 => t1 ⟨vi_4 (by omega), m_in0 (t 0 4) (by omega) (hi_B (by omega)) (fun s hs e3 => t1 ?_) (fun h => t0 (h0 (fun ⟨_, _, s, _, _, q1, _, _, _, q2⟩ => h s q1 q2)))⟩) (fun h => t0 (h0 (fun ⟨_, i, _, _, q1, _, _, _, q2, _⟩ => h i q1 q2))))) (fun h => t0 (h0 (fun ⟨k, _, _, q1, _, _, _, q2, _⟩ => h k q1 q2)))
  rw [e, e2, e3]
  have hl := slv_lt (t := t) (i := i) (s := s) c1 hk
  refine m_slipped c1 c3 hk hi hs (fun hc c hf => ⟨fun q => absurd q (ui_ne1 (by omega)), fun _ => h1 k i s hk hi hs hc e e2 e3 c (f0_sc.tr (hf.mono pg_sc))⟩) (fun hc => ⟨fun _ => h0 (fun ⟨k', i', s', q1, q2, q3, q4, q5, q6, q7⟩ => hc ?_), fun q => absurd rfl q⟩)
  rw [(nI_eq (by omega) (by omega)).mp (e2.symm.trans q6), (nI_eq (by omega) (by omega)).mp (e3.symm.trans q7)]
  exact q4
theorem s_slip (i : Nat) : us_slip (J i) (J (i + 1)) := by
  intro N a x y z hJ
  obtain ⟨t, hC, hX⟩ := id hJ
  have hS := tS_le hC.1
  have hb := t3_le hC.1
  unfold w_UpAndDown_slip
  have no : (¬ ∃ k i s, k < tS t ∧ i < t 0 3 ∧ s < t 0 4 ∧ csl t i s ∧ x = nI k ∧ y = nI i ∧ z = nI s) → w_Model_slip a x y z (fun r' a2 => (-2 : Int32) = r' ∧ J (i + 1) N a2) := fun h => mm_slip hC (fun k i s q1 q2 q3 q4 q5 q6 q7 => absurd ⟨k, i, s, q1, q2, q3, q4, q5, q6, q7⟩ h) (fun _ => ⟨rfl, J_sc hJ f0_sc⟩)
  obtain ⟨x1, x2, x3, x4, x5, x6, x7, x8, -⟩ := hC.2.1
  refine x_isNumber x3 (by omega) (fun k hk e => t1 (x_isWord x6 (by omega) (fun w hw e2 => t1 ?_) (fun h => t0 (no (fun ⟨_, i, _, _, q1, _, _, _, q2, _⟩ => h i q1 q2))))) (fun h => t0 (no (fun ⟨k, _, _, q1, _, _, _, q2, _⟩ => h k q1 q2)))
  rw [x7]
  have no2 : (∀ s, s < t 0 4 → z ≠ nI s) → w_Model_slip a x y z (fun r' a2 => (-2 : Int32) = r' ∧ J (i + 1) N a2) := fun h => no (fun ⟨_, _, s, _, _, q1, _, _, _, q2⟩ => h s q1 q2)
  refine ar_ge (by omega) no2 no2 (fun s hs e3 => ?_)
  subst e e2 e3
  refine x_canSlip hC.1 hC.2.1 hw hs (fun hc => t1 (x_nextSlipped hC hX hk hw hs (fun a1 hf => ?_))) (fun hc => t0 (no (fun ⟨k', i', s', q1, q2, q3, q4, q5, q6, q7⟩ => hc ?_)))
  · have hC1 := JC_sc hC (hf.mono pe_sc)
    have hX1 := JX_sc hX (Nat.le_refl i) (hf.mono pe_sc)
    refine mm_slip hC1 (fun k' i' s' q1 q2 q3 q4 q5 q6 q7 a2 hf2 => ⟨?_, J_mk hC1 hX1 hf2⟩) (fun h => absurd ⟨k, w, s, hk, hw, hs, hc, rfl, rfl, rfl⟩ h)
    rw [(nI_eq (by omega) (by omega)).mp q5, (nI_eq (by omega) (by omega)).mp q6, (nI_eq (by omega) (by omega)).mp q7]
  · rw [(nI_eq (by omega) (by omega)).mp q6, (nI_eq (by omega) (by omega)).mp q7]
    exact q4
/-- slip s at word i makes l of k -/
noncomputable def hsl (t : TD) (k l i s : Nat) : Bool := @decide (csl t i s ∧ slv t k i s = l) (Classical.propDecidable _)
theorem hsl_t {t : TD} {k l i s : Nat} : hsl t k l i s = true ↔ csl t i s ∧ slv t k i s = l := @decide_eq_true_iff _ (Classical.propDecidable _)
theorem hsl_f {t : TD} {k l i s : Nat} (h : ¬ (csl t i s ∧ slv t k i s = l)) : hsl t k l i s = false := @decide_eq_false _ (Classical.propDecidable _) h
theorem x_isSlipTo {i0 N : Nat} {a : ud_St} {t : TD} {x y i s : Nat} {Q : Int32 → ud_St → Prop} (hC : JC N a t) (hX : JX i0 a t) (hx : x < tS t) (hy : y < tS t) (hi : i < t 0 3) (hs : s < t 0 4) (h1 : hsl t x y i s = true → ∀ a', fr Pe a a' → Q 1 a') (h0 : hsl t x y i s = false → ∀ a', fr Pe a a' → Q 0 a') : w_UpAndDown_isSlipTo a (nI x) (nI y) (nI i) (nI s) Q := by
  have hS := tS_le hC.1
  have hl := slv_lt (t := t) (i := i) (s := s) hC.1 hx
  unfold w_UpAndDown_isSlipTo
  refine x_canSlip hC.1 hC.2.1 hi hs (fun hc => t1 (x_nextSlipped hC hX hx hi hs (fun a1 hf => ⟨fun q => h1 (hsl_t.mpr ⟨hc, (nI_eq (by omega) (by omega)).mp q⟩) a1 hf, fun q => h0 (hsl_f (fun w => q (by rw [w.2]))) a1 hf⟩))) (fun hc => t0 (h0 (hsl_f (fun w => hc w.1)) a fr.rf))
theorem m_slipTo {b : ud_St} {t : TD} {x y i s : Nat} {Q : Int32 → ud_St → Prop} (hok : tOK t) (hm : mT b 0 t) (hx : x < tS t) (hy : y < tS t) (hi : i < t 0 3) (hs : s < t 0 4) (h1 : hsl t x y i s = true → ∀ c r, fr Pg b c → r = nI y → Q r c) (h0 : hsl t x y i s = false → ∀ c r, fr Pg b c → r ≠ nI y → Q r c) : w_Model_slipped b (nI x) (nI i) (nI s) Q := by
  have hS := tS_le hok
  have hl := slv_lt (t := t) (i := i) (s := s) hok hx
  refine m_slipped hok hm hx hi hs (fun hc c hf => ?_) (fun hc => h0 (hsl_f (fun w => hc w.1)) b _ fr.rf (fun q => ui_ne1 (by omega) q.symm))
  by_cases e : slv t x i s = y
  · exact h1 (hsl_t.mpr ⟨hc, e⟩) c _ hf (by rw [e])
  · exact h0 (hsl_f (fun w => e w.2)) c _ hf (fun q => e ((nI_eq (by omega) (by omega)).mp q))
/-- how many at word i; how many in all -/
noncomputable def fit1 (t : TD) (k l i : Nat) : Nat := fb_ct (hsl t k l i) (t 0 4)
theorem mm_fits {N : Nat} {a : ud_St} {x y : Int32} {t : TD} {Q : Int32 → ud_St → Prop} (hC : JC N a t) (h1 : ∀ k l, k < tS t → l < tS t → x = nI k → y = nI l → ∀ a', fr Psc a a' → Q (nI (fb_sm (fit1 t k l) (t 0 3))) a') (h0 : (¬ ∃ k l, k < tS t ∧ l < tS t ∧ x = nI k ∧ y = nI l) → Q (-2) (a71 a)) : w_Model_fits a x y Q := by
  obtain ⟨c1, c2, c3, -⟩ := JC_sc hC f0_sc
  have hS := tS_le c1
  have hb := t3_le c1
  unfold w_Model_fits
  refine m_isNumber c3.2.2.2.1 (by omega) (fun k hk e => t1 (m_isNumber c3.2.2.2.1 (by omega) (fun l hl e2 => t1 ?_) (fun h => t0 (h0 (fun ⟨_, l, _, q1, _, q2⟩ => h l q1 q2))))) (fun h => t0 (h0 (fun ⟨k, _, q1, _, q2, _⟩ => h k q1 q2)))
  rw [e, e2]
  have hq := h1 k l hk hl e e2
  have mTe : ∀ {c}, fr Psc a c → mT c 0 t := fun h => (JC_sc hC h).2.2.1
  unfold w_Model_fits_j31
  refine LW3.up (t 0 3) (fun i f v c => f = nI (fb_sm (fit1 t k l) i) ∧ v = nI i ∧ fr Psc a c) ⟨rfl, rfl, f0_sc⟩ ?_ ?_
  · rintro i f v c hi ⟨rfl, rfl, hf⟩ K hK
    simp only [tN_3, show c.1 78 3 = nI (t 0 3) from (mTe hf).2.2.2.2.1]
    refine ⟨vi_3 (by omega), fun z => absurd z (nI_ge hi (by omega)), fun _ => ?_⟩
    unfold w_Model_fits_j45
    refine LW3.up (t 0 4) (fun s f v d => f = nI (fb_sm (fit1 t k l) i + fb_ct (hsl t k l i) s) ∧ v = nI s ∧ fr Psc a d) ⟨rfl, rfl, hf⟩ ?_ ?_
    · rintro s f v d hs ⟨rfl, rfl, hfd⟩ K2 hK2
      simp only [tN_4, show d.1 78 4 = nI (t 0 4) from (mTe hfd).2.2.2.2.2.1]
      refine ⟨vi_4 (by omega), fun z => absurd z (nI_ge hs (by omega)), fun _ => m_slipTo c1 (mTe hfd) hk hl hi hs (fun hh d2 r hf2 hr => ⟨fun _ => hK2 _ _ _ ⟨?_, nI_1 s, hfd.tr (hf2.mono pg_sc)⟩, fun z => absurd hr z⟩) (fun hh d2 r hf2 hr => ⟨fun z => absurd z hr, fun _ => hK2 _ _ _ ⟨?_, nI_1 s, hfd.tr (hf2.mono pg_sc)⟩⟩)⟩
      · rw [fb_ct_succ, hh]; exact nI_1 _
      · rw [fb_ct_succ, hh]; exact nI_add _ 0
    · rintro f v d ⟨rfl, rfl, hfd⟩ K2
      simp only [tN_4, show d.1 78 4 = nI (t 0 4) from (mTe hfd).2.2.2.2.2.1]
      exact ⟨vi_4 (by omega), fun _ => hK _ _ _ ⟨rfl, nI_1 i, hfd⟩, fun z => absurd (nI_le (Nat.le_refl _) (by omega)) z⟩
  · rintro f v c ⟨rfl, rfl, hf⟩ K
    simp only [tN_3, show c.1 78 3 = nI (t 0 3) from (mTe hf).2.2.2.2.1]
    exact ⟨vi_3 (by omega), fun _ => hq c hf, fun z => absurd (nI_le (Nat.le_refl _) (by omega)) z⟩
theorem s_fits (i : Nat) : us_fits (J i) (J (i + 1)) := by
  intro N a x y hJ
  obtain ⟨t, hC, hX⟩ := id hJ
  have hS := tS_le hC.1
  have hb := t3_le hC.1
  unfold w_UpAndDown_fits
  have no : (¬ ∃ k l, k < tS t ∧ l < tS t ∧ x = nI k ∧ y = nI l) → w_Model_fits a x y (fun r' a2 => (-2 : Int32) = r' ∧ J (i + 1) N a2) := fun h => mm_fits hC (fun k n q1 q2 q3 q4 => absurd ⟨k, n, q1, q2, q3, q4⟩ h) (fun _ => ⟨rfl, J_sc hJ f0_sc⟩)
  refine x_isNumber hC.2.1.2.2.1 (by omega) (fun k hk e => t1 (x_isNumber hC.2.1.2.2.1 (by omega) (fun l hl e2 => t1 ?_) (fun h => t0 (no (fun ⟨_, l, _, q1, _, q2⟩ => h l q1 q2))))) (fun h => t0 (no (fun ⟨k, _, q1, _, q2, _⟩ => h k q1 q2)))
  subst e e2
  have cc : ∀ {c}, fr Pe a c → JC N c t := fun h => JC_sc hC (h.mono pe_sc)
  have cx : ∀ {c}, fr Pe a c → JX i c t := fun h => JX_sc hX (Nat.le_refl i) (h.mono pe_sc)
  unfold w_UpAndDown_fits_j24
  refine LW3.up (t 0 3) (fun w f v c => f = nI (fb_sm (fit1 t k l) w) ∧ v = nI w ∧ fr Pe a c) ⟨rfl, rfl, fr.rf⟩ ?_ ?_
  · rintro w f v c hw ⟨rfl, rfl, hf⟩ K hK
    rw [(cc hf).2.1.2.2.2.2.2.1]
    refine ⟨fun z => absurd z (nI_ge hw (by omega)), fun _ => ?_⟩
    unfold w_UpAndDown_fits_j42
    refine LW3.up (t 0 4) (fun s f v d => f = nI (fb_sm (fit1 t k l) w + fb_ct (hsl t k l w) s) ∧ v = nI s ∧ fr Pe a d) ⟨rfl, rfl, hf⟩ ?_ ?_
    · rintro s f v d hs ⟨rfl, rfl, hfd⟩ K2 hK2
      rw [(cc hfd).2.1.2.2.2.2.2.2.1]
      refine ⟨fun z => absurd z (nI_ge hs (by omega)), fun _ => x_isSlipTo (cc hfd) (cx hfd) hk hl hw hs (fun hh d2 hf2 => t1 (hK2 _ _ _ ⟨?_, nI_1 s, hfd.tr hf2⟩)) (fun hh d2 hf2 => t0 (hK2 _ _ _ ⟨?_, nI_1 s, hfd.tr hf2⟩))⟩
      · rw [fb_ct_succ, hh]; exact nI_1 _
      · rw [fb_ct_succ, hh]; exact nI_add _ 0
    · rintro f v d ⟨rfl, rfl, hfd⟩ K2
      rw [(cc hfd).2.1.2.2.2.2.2.2.1]
      exact ⟨fun _ => hK _ _ _ ⟨rfl, nI_1 w, hfd⟩, fun z => absurd (nI_le (Nat.le_refl _) (by omega)) z⟩
  · rintro f v c ⟨rfl, rfl, hf⟩ K
    rw [(cc hf).2.1.2.2.2.2.2.1]
    refine ⟨fun _ => mm_fits (cc hf) (fun k' l' q1 q2 q3 q4 a2 hf2 => ⟨?_, J_mk (cc hf) (cx hf) hf2⟩) (fun h => absurd ⟨k, l, hk, hl, rfl, rfl⟩ h), fun z => absurd (nI_le (Nat.le_refl _) (by omega)) z⟩
    rw [(nI_eq (by omega) (by omega)).mp q3, (nI_eq (by omega) (by omega)).mp q4]
/-- the first word and slip that make l of k -/
def fst2 (t : TD) (k l i s : Nat) : Prop := i < t 0 3 ∧ s < t 0 4 ∧ hsl t k l i s = true ∧ (∀ s', s' < s → hsl t k l i s' = false) ∧ ∀ i' s', i' < i → s' < t 0 4 → hsl t k l i' s' = false
theorem fst2_one {t : TD} {k l i s i2 s2 : Nat} (h1 : fst2 t k l i s) (h2 : fst2 t k l i2 s2) : i = i2 ∧ s = s2 := by
  have e : i = i2 := by
    rcases Nat.lt_trichotomy i i2 with w | w | w
    · have := h2.2.2.2.2 i s w h1.2.1; rw [h1.2.2.1] at this; cases this
    · exact w
    · have := h1.2.2.2.2 i2 s2 w h2.2.1; rw [h2.2.2.1] at this; cases this
  subst e
  refine ⟨rfl, ?_⟩
  rcases Nat.lt_trichotomy s s2 with w | w | w
  · have := h2.2.2.2.1 s w; rw [h1.2.2.1] at this; cases this
  · exact w
  · have := h1.2.2.2.1 s2 w; rw [h2.2.2.1] at this; cases this
theorem ten (i s : Nat) : (10 : Int32) * nI i + nI s = nI (10 * i + s) := by rw [show (10 : Int32) * nI i = nI (10 * i) from ui_mul 10 i, nI_add]
theorem mm_which {N : Nat} {a : ud_St} {x y : Int32} {t : TD} {Q : Int32 → ud_St → Prop} (hC : JC N a t) (h1 : ∀ k l, k < tS t → l < tS t → x = nI k → y = nI l → ∀ a', fr Psc a a' → (∀ i s, fst2 t k l i s → Q (nI (10 * i + s)) a') ∧ ((∀ i s, i < t 0 3 → s < t 0 4 → hsl t k l i s = false) → Q (-1) a')) (h0 : (¬ ∃ k l, k < tS t ∧ l < tS t ∧ x = nI k ∧ y = nI l) → Q (-2) (a71 a)) : w_Model_which a x y Q := by
  obtain ⟨c1, c2, c3, -⟩ := JC_sc hC f0_sc
  have hS := tS_le c1
  have hb := t3_le c1
  unfold w_Model_which
  refine m_isNumber c3.2.2.2.1 (by omega) (fun k hk e => t1 (m_isNumber c3.2.2.2.1 (by omega) (fun l hl e2 => t1 ?_) (fun h => t0 (h0 (fun ⟨_, l, _, q1, _, q2⟩ => h l q1 q2))))) (fun h => t0 (h0 (fun ⟨k, _, q1, _, q2, _⟩ => h k q1 q2)))
  rw [e, e2]
  have hq := h1 k l hk hl e e2
  have mTe : ∀ {c}, fr Psc a c → mT c 0 t := fun h => (JC_sc hC h).2.2.1
  unfold w_Model_which_j28
  refine LW2.up (t 0 3) (fun i v c => v = nI i ∧ fr Psc a c ∧ ∀ i' s', i' < i → s' < t 0 4 → hsl t k l i' s' = false) ⟨rfl, f0_sc, fun i' s' h => by omega⟩ ?_ ?_
  · rintro i v c hi ⟨rfl, hf, hno⟩ K hK
    simp only [tN_3, show c.1 78 3 = nI (t 0 3) from (mTe hf).2.2.2.2.1]
    refine ⟨vi_3 (by omega), fun z => absurd z (nI_ge hi (by omega)), fun _ => ?_⟩
    unfold w_Model_which_j41
    refine LW2.up (t 0 4) (fun s v d => v = nI s ∧ fr Psc a d ∧ ∀ s', s' < s → hsl t k l i s' = false) ⟨rfl, hf, fun s' h => by omega⟩ ?_ ?_
    · rintro s v d hs ⟨rfl, hfd, hno2⟩ K2 hK2
      simp only [tN_4, show d.1 78 4 = nI (t 0 4) from (mTe hfd).2.2.2.2.2.1]
      refine ⟨vi_4 (by omega), fun z => absurd z (nI_ge hs (by omega)), fun _ => m_slipTo c1 (mTe hfd) hk hl hi hs (fun hh d2 r hf2 hr => ⟨fun _ => ?_, fun z => absurd hr z⟩) (fun hh d2 r hf2 hr => ⟨fun z => absurd z hr, fun _ => hK2 _ _ ⟨nI_1 s, hfd.tr (hf2.mono pg_sc), fun s' hs' => ?_⟩⟩)⟩
      · rw [ten]
        exact (hq d2 (hfd.tr (hf2.mono pg_sc))).1 i s ⟨hi, hs, hh, hno2, hno⟩
      · by_cases e : s' = s
        · rw [e]; exact hh
        · exact hno2 s' (by omega)
    · rintro v d ⟨rfl, hfd, hno2⟩ K2
      simp only [tN_4, show d.1 78 4 = nI (t 0 4) from (mTe hfd).2.2.2.2.2.1]
      refine ⟨vi_4 (by omega), fun _ => hK _ _ ⟨nI_1 i, hfd, fun i' s' hi' hs' => ?_⟩, fun z => absurd (nI_le (Nat.le_refl _) (by omega)) z⟩
      by_cases e : i' = i
      · rw [e]; exact hno2 s' hs'
      · exact hno i' s' (by omega) hs'
  · rintro v c ⟨rfl, hf, hno⟩ K
    simp only [tN_3, show c.1 78 3 = nI (t 0 3) from (mTe hf).2.2.2.2.1]
    exact ⟨vi_3 (by omega), fun _ => (hq c hf).2 (fun i s hi hs => hno i s hi hs), fun z => absurd (nI_le (Nat.le_refl _) (by omega)) z⟩
theorem s_which (i : Nat) : us_which (J i) (J (i + 1)) := by
  intro N a x y hJ
  obtain ⟨t, hC, hX⟩ := id hJ
  have hS := tS_le hC.1
  have hb := t3_le hC.1
  unfold w_UpAndDown_which
  have no : (¬ ∃ k l, k < tS t ∧ l < tS t ∧ x = nI k ∧ y = nI l) → w_Model_which a x y (fun r' a2 => (-2 : Int32) = r' ∧ J (i + 1) N a2) := fun h => mm_which hC (fun k n q1 q2 q3 q4 => absurd ⟨k, n, q1, q2, q3, q4⟩ h) (fun _ => ⟨rfl, J_sc hJ f0_sc⟩)
  refine x_isNumber hC.2.1.2.2.1 (by omega) (fun k hk e => t1 (x_isNumber hC.2.1.2.2.1 (by omega) (fun l hl e2 => t1 ?_) (fun h => t0 (no (fun ⟨_, l, _, q1, _, q2⟩ => h l q1 q2))))) (fun h => t0 (no (fun ⟨k, _, q1, _, q2, _⟩ => h k q1 q2)))
  subst e e2
  have cc : ∀ {c}, fr Pe a c → JC N c t := fun h => JC_sc hC (h.mono pe_sc)
  have cx : ∀ {c}, fr Pe a c → JX i c t := fun h => JX_sc hX (Nat.le_refl i) (h.mono pe_sc)
  have mm : ∀ c v, fr Pe a c → (∀ i s, fst2 t k l i s → v = nI (10 * i + s)) → ((∀ i s, i < t 0 3 → s < t 0 4 → hsl t k l i s = false) → v = -1) → w_Model_which c (nI k) (nI l) (fun r' a2 => v = r' ∧ J (i + 1) N a2) := fun c v hf v1 v2 => by
    refine mm_which (cc hf) (fun k' l' q1 q2 q3 q4 a2 hf2 => ?_) (fun h => absurd ⟨k, l, hk, hl, rfl, rfl⟩ h)
    rw [← (nI_eq (by omega) (by omega)).mp q3, ← (nI_eq (by omega) (by omega)).mp q4]
    exact ⟨fun i s h => ⟨v1 i s h, J_mk (cc hf) (cx hf) hf2⟩, fun h => ⟨v2 h, J_mk (cc hf) (cx hf) hf2⟩⟩
  unfold w_UpAndDown_which_j21
  refine LW2.up (t 0 3) (fun w v c => v = nI w ∧ fr Pe a c ∧ ∀ i' s', i' < w → s' < t 0 4 → hsl t k l i' s' = false) ⟨rfl, fr.rf, fun i' s' h => by omega⟩ ?_ ?_
  · rintro w v c hw ⟨rfl, hf, hno⟩ K hK
    rw [(cc hf).2.1.2.2.2.2.2.1]
    refine ⟨fun z => absurd z (nI_ge hw (by omega)), fun _ => ?_⟩
    unfold w_UpAndDown_which_j38
    refine LW2.up (t 0 4) (fun s v d => v = nI s ∧ fr Pe a d ∧ ∀ s', s' < s → hsl t k l w s' = false) ⟨rfl, hf, fun s' h => by omega⟩ ?_ ?_
    · rintro s v d hs ⟨rfl, hfd, hno2⟩ K2 hK2
      rw [(cc hfd).2.1.2.2.2.2.2.2.1]
      refine ⟨fun z => absurd z (nI_ge hs (by omega)), fun _ => x_isSlipTo (cc hfd) (cx hfd) hk hl hw hs (fun hh d2 hf2 => t1 ?_) (fun hh d2 hf2 => t0 (hK2 _ _ ⟨nI_1 s, hfd.tr hf2, fun s' hs' => ?_⟩))⟩
      · rw [ten]
        have hfst : fst2 t k l w s := ⟨hw, hs, hh, hno2, hno⟩
        refine mm d2 _ (hfd.tr hf2) (fun i' s' h => ?_) (fun h => ?_)
        · rw [(fst2_one hfst h).1, (fst2_one hfst h).2]
        · have := h w s hw hs
          rw [hh] at this; cases this
      · by_cases e : s' = s
        · rw [e]; exact hh
        · exact hno2 s' (by omega)
    · rintro v d ⟨rfl, hfd, hno2⟩ K2
      rw [(cc hfd).2.1.2.2.2.2.2.2.1]
      refine ⟨fun _ => hK _ _ ⟨nI_1 w, hfd, fun i' s' hi' hs' => ?_⟩, fun z => absurd (nI_le (Nat.le_refl _) (by omega)) z⟩
      by_cases e : i' = w
      · rw [e]; exact hno2 s' hs'
      · exact hno i' s' (by omega) hs'
  · rintro v c ⟨rfl, hf, hno⟩ K
    rw [(cc hf).2.1.2.2.2.2.2.1]
    refine ⟨fun _ => mm c _ hf (fun i' s' h => ?_) (fun _ => rfl), fun z => absurd (nI_le (Nat.le_refl _) (by omega)) z⟩
    have := hno i' s' h.1 h.2.1
    rw [h.2.2.1] at this; cases this
