/-! what x knows, what the model lays; kinds, kind, odd -/
theorem tg_lt {t : TD} (h : tOK t) (hp : 0 < tS t) : ∀ x, x < tS t → tg t x < tS t := by
  intro x hx
  have e := tS_eq hp
  have hp2 := (tS_pos h).mp hp
  rw [e] at hx ⊢
  rcases h with ⟨q, -⟩ | ⟨-, -, q2, -, q3, -⟩
  · omega
  · exact gx_lt q2 q3 hx
theorem x_known {i N : Nat} {a : ud_St} {t : TD} {Q : ud_St → Prop} (hC : JC N a t) (hX : JX i a t) (hp : 0 < tS t) (hQ : ∀ a1, fr Pp a a1 → xR a1 (tg t) (tS t) → xI a1 (tg t) (tS t) → JC N a1 t → JX i a1 t → Q a1) : w_UpAndDown_known a Q := by
  have eS := tS_eq hp
  obtain ⟨f1, f2, f3⟩ := xF_of hC.1 hX.1 hp
  have hW := xW_of hC.1 hC.2.1 hp
  unfold w_UpAndDown_known w_Paths_prepare
  have fin : ∀ a1, fr Pp a a1 → xR a1 (tg t) (tS t) → xI a1 (tg t) (tS t) → Q a1 := fun a1 hf hR hI => by
    refine hQ a1 hf hR hI (JC_c hC (fun k j q => hf.1 k j (by unfold core at q; unfold Pp; omega)) hf.2) ⟨figOK_c hX.1 (fun k j _ _ => hf.1 k j (by unfold Pp; omega)), Or.inr ⟨hR, hI⟩, crOK_c hX.2.2.1 (Nat.le_refl _) (fun k j _ _ => hf.1 k j (by unfold Pp; omega)), coOK_c hX.2.2.2 (fun k j _ => hf.1 k j (by unfold Pp; omega))⟩
  refine ⟨fun q => ?_, fun q => ?_⟩
  · refine x_lay f1 f3 hW (by omega) (fun b hf hR _ => x_listInto hR.1 (by rw [← eS]; exact hp) (fun c hfc hI => fin _ ?_ ?_ ?_))
    · exact (hf.tr (hfc.mono (fun k j q => by unfold Pli at q; unfold Pp; omega))).sv (by unfold Pp; omega)
    · have hR2 : xR b (tg t) (tS t) := by rw [eS]; exact hR
      obtain ⟨r1, r2, r3, r4, r5, r6, m, r7, r8⟩ := hR2
      have e : ∀ k j, 36 ≤ k → k ≤ 40 → ¬ (k = 36 ∧ j = 9) → (ud_sv c 36 9 1).1 k j = b.1 k j := fun k j _ _ q => by rw [us_1, if_neg q]; exact hfc.1 k j (by unfold Pli; omega)
      refine ⟨⟨(e _ _ (by omega) (by omega) (by omega)).trans r1.1, r1.2.1, r1.2.2.1, fun x hx => (e _ _ (by omega) (by omega) (by omega)).trans (r1.2.2.2 x hx)⟩, fun x hx => ⟨(e _ _ (by omega) (by omega) (by omega)).trans (r2 x hx).1, (e _ _ (by omega) (by omega) (by omega)).trans (r2 x hx).2⟩, fun x hx hb => (e _ _ (by omega) (by omega) (by omega)).trans (r3 x hx hb), (e _ _ (by omega) (by omega) (by omega)).trans r4, (e _ _ (by omega) (by omega) (by omega)).trans r5, ?_, m, (e _ _ (by omega) (by omega) (by omega)).trans r7, r8⟩
      rw [e 36 12 (by omega) (by omega) (by omega), e 36 13 (by omega) (by omega) (by omega)]
      exact r6
    · rw [eS]
      exact xI_c hI (fun k j _ _ => by rw [us_1, if_neg (by omega)])
  · rcases hX.2.1 with z | ⟨hR, hI⟩
    · exact absurd z q
    · exact fin a fr.rf hR hI
theorem mm_lays {N : Nat} {a : ud_St} {t : TD} {Q : ud_St → Prop} (hC : JC N a t) (hp : 0 < tS t) (hQ : ∀ a2, fr Psc a a2 → mN a2 (tg t) (tS t) → mF a2 (t 0 0) (t 0 1) → Q a2) : w_Model_lays (a71 a) Q := by
  have c3 := (JC_sc hC f0_sc).2.2.1
  have eS := tS_eq hp
  have hF := mF_of hC.1 c3 hp
  have hW := mW_of hC.1 c3 hp
  refine m_lays hF hW.1 hW.2 (fun a2 hf hd => ?_)
  have hF2 : mF a2 (t 0 0) (t 0 1) := ⟨(hf.1 78 0 (by unfold Pl Pg; omega)).trans hF.1, (hf.1 78 1 (by unfold Pl Pg; omega)).trans hF.2.1, (hf.1 78 2 (by unfold Pl Pg; omega)).trans hF.2.2.1, hF.2.2.2⟩
  refine hQ a2 (f0_sc.tr (hf.mono pl_sc)) ⟨by rw [eS]; exact hF2.2.2.1, tS_le hC.1, tg_lt hC.1 hp, fun x hx => hd x (by omega)⟩ hF2
theorem mm_all {N : Nat} {a : ud_St} {t : TD} {Q : ud_St → Prop} (hC : JC N a t) (hp : 0 < tS t) (hQ : ∀ a2, fr Psc a a2 → mN a2 (tg t) (tS t) → mR a2 (tg t) (tS t) → mF a2 (t 0 0) (t 0 1) → Q a2) : w_Model_all (a71 a) Q := by
  unfold w_Model_all
  refine mm_lays hC hp (fun a2 hf hN hF => m_goesAll hN (fun a3 hf3 hN3 hR3 => hQ a3 (hf.tr (hf3.mono pr_sc)) hN3 hR3 ⟨(hf3.1 78 0 (by unfold Pr; omega)).trans hF.1, (hf3.1 78 1 (by unfold Pr; omega)).trans hF.2.1, (hf3.1 78 2 (by unfold Pr; omega)).trans hF.2.2.1, hF.2.2.2⟩))
theorem ct_y {p : Nat → Bool} {t : Nat} (h : p t = true) : nI (fb_ct p t) + 1 = nI (fb_ct p (t + 1)) := by
  rw [fb_ct_succ, h]; exact nI_1 _
theorem ct_n {p : Nat → Bool} {t : Nat} (h : p t = false) : nI (fb_ct p t) + 0 = nI (fb_ct p (t + 1)) := by
  rw [fb_ct_succ, h]; exact nI_add _ 0
theorem x_least {a : ud_St} {b n x : Nat} {Q : Int32 → Prop} (h : xF a b n) (hg : xG a b n) (hx : x < b ^ n) (hQ : Q (nI (fUp b n x))) : w_Figures_leastOfKind a (nI x) Q := by
  unfold w_Figures_leastOfKind
  have := h.2.2.2.2.2.2.2
  exact ub_atn (by omega) (by omega) (by rw [(hg x hx).2.1]; exact hQ)
theorem m_cells {a a' : ud_St} {b n : Nat} (h : mF a b n) (hf : fr Ps a a') : mF a' b n := h.fr (hf.mono ps_g)
theorem s_kinds (i : Nat) : us_kinds (J i) (J (i + 1)) := by
  intro N a hJ
  obtain ⟨t, hC, hX⟩ := id hJ
  obtain ⟨c1, c2, c3, -⟩ := JC_sc hC f0_sc
  unfold w_UpAndDown_kinds w_Model_kinds
  refine x_hasTable hC.1 hC.2.1 (fun hp => t1 ?_) (fun hp => t0 (m_isTable c1 c3 (fun z => by omega) (fun _ => t0 ⟨rfl, J_sc hJ f0_sc⟩)))
  obtain ⟨f1, f2, f3⟩ := xF_of hC.1 hX.1 hp
  have hF := mF_of c1 c3 hp
  have hS := hF.2.2.2.2.2.2.2
  have hlt := fun x => fUp_lt (b := t 0 0) (n := t 0 1) (x := x) (by have := hF.2.2.2.1; omega)
  unfold w_Figures_countKinds
  rw [f1.2.2.1]
  refine LW2.up (t 0 0 ^ t 0 1) (fun n c x => c = nI (fb_ct (fun x => decide (fUp (t 0 0) (t 0 1) x = x)) n) ∧ x = nI n) ⟨rfl, rfl⟩ ?_ ?_
  · rintro n c x hn ⟨rfl, rfl⟩ K hK
    have := hlt n
    refine ⟨fun z => absurd z (nI_ge hn (by omega)), fun _ => x_least f1 f3 hn ⟨fun z => hK _ _ ⟨ct_y (decide_eq_true ((nI_eq (by omega) (by omega)).mp z)), nI_1 n⟩, fun z => hK _ _ ⟨ct_n (decide_eq_false (fun w => z (by rw [w]))), nI_1 n⟩⟩⟩
  · rintro c x ⟨rfl, rfl⟩ K
    refine ⟨fun _ => ?_, fun z => absurd (nI_le (Nat.le_refl _) (by omega)) z⟩
    refine m_isTable c1 c3 (fun _ => t1 ?_) (fun z => by omega)
    refine LW3.up (t 0 0 ^ t 0 1) (fun n c x b => c = nI (fb_ct (fun x => decide (fUp (t 0 0) (t 0 1) x = x)) n) ∧ x = nI n ∧ fr Ps (a71 a) b) ⟨rfl, rfl, fr.rf⟩ ?_ ?_
    · rintro n c x b hn ⟨rfl, rfl, hf⟩ K2 hK2
      have := hlt n
      have hFb := m_cells hF hf
      simp only [tN_2, hFb.2.2.1]
      refine ⟨vi_2 (by omega), fun z => absurd z (nI_ge hn (by omega)), fun _ => m_up hFb (by omega) (fun b2 hf2 => ⟨fun z => hK2 _ _ _ ⟨ct_y (decide_eq_true ((nI_eq (by omega) (by omega)).mp z)), nI_1 n, hf.tr hf2⟩, fun z => hK2 _ _ _ ⟨ct_n (decide_eq_false (fun w => z (by rw [w]))), nI_1 n, hf.tr hf2⟩⟩)⟩
    · rintro c x b ⟨rfl, rfl, hf⟩ K2
      simp only [tN_2, (m_cells hF hf).2.2.1]
      exact ⟨vi_2 (by omega), fun _ => ⟨trivial, J_mk hC hX (f0_sc.tr (hf.mono (fun k j q => pg_sc k j (ps_g k j q))))⟩, fun z => absurd (nI_le (Nat.le_refl _) (by omega)) z⟩
theorem mm_kind {a : ud_St} {x y : Int32} {t : TD} {Q : Int32 → ud_St → Prop} (c1 : tOK t) (c3 : mT (a71 a) 0 t) (h1 : ∀ k, k < tS t → x = nI k → ∀ a', fr Psc a a' → (y = nI 0 → Q (nI (fUp (t 0 0) (t 0 1) k)) a') ∧ (y = nI 1 → Q (nI (fb_ct (fun z => decide (fUp (t 0 0) (t 0 1) z = fUp (t 0 0) (t 0 1) k)) (tS t))) a')) (h0 : (¬ ∃ k w, k < tS t ∧ w < 2 ∧ x = nI k ∧ y = nI w) → Q (-2) (a71 a)) : w_Model_kind a x y Q := by
  have hS := tS_le c1
  unfold w_Model_kind
  refine m_isNumber c3.2.2.2.1 (by omega) (fun k hk e => t1 (m_in0 2 (by omega) (by decide) (fun w hw e2 => t1 ?_) (fun h => t0 (h0 (fun ⟨_, w, _, q1, _, q2⟩ => h w q1 q2))))) (fun h => t0 (h0 (fun ⟨k, _, q1, _, q2, _⟩ => h k q1 q2)))
  have hp : 0 < tS t := by omega
  have eS := tS_eq hp
  have hF := mF_of c1 c3 hp
  have hlt := fun x => fUp_lt (b := t 0 0) (n := t 0 1) (x := x) (by have := hF.2.2.2.1; omega)
  have hk' := h1 k hk e
  rw [e]
  refine m_up hF (by omega) (fun b hf => ?_)
  have hfb : ∀ {c}, fr Ps (a71 a) c → fr Psc a c := fun h => f0_sc.tr (h.mono (fun k j q => pg_sc k j (ps_g k j q)))
  refine ⟨fun z => (hk' b (hfb hf)).1 z, fun z => ?_⟩
  have w1 : w = 1 := by
    have : w ≠ 0 := fun q => z (by rw [e2, q]; rfl)
    omega
  subst w1
  have hl1 := hlt k
  refine LW3.up (tS t) (fun n c x d => c = nI (fb_ct (fun z => decide (fUp (t 0 0) (t 0 1) z = fUp (t 0 0) (t 0 1) k)) n) ∧ x = nI n ∧ fr Ps (a71 a) d) ⟨rfl, rfl, hf⟩ ?_ ?_
  · rintro n c x d hn ⟨rfl, rfl, hfd⟩ K2 hK2
    have := hlt n
    have hFb := m_cells hF hfd
    simp only [tN_2, hFb.2.2.1, ← eS]
    refine ⟨vi_2 (by omega), fun z => absurd z (nI_ge hn (by omega)), fun _ => m_up hFb (by omega) (fun b2 hf2 => ⟨fun z => hK2 _ _ _ ⟨ct_y (decide_eq_true ((nI_eq (by omega) (by omega)).mp z)), nI_1 n, hfd.tr hf2⟩, fun z => hK2 _ _ _ ⟨ct_n (decide_eq_false (fun w => z (by rw [w]))), nI_1 n, hfd.tr hf2⟩⟩)⟩
  · rintro c x d ⟨rfl, rfl, hfd⟩ K2
    simp only [tN_2, (m_cells hF hfd).2.2.1, ← eS]
    exact ⟨vi_2 (by omega), fun _ => (hk' d (hfb hfd)).2 e2, fun z => absurd (nI_le (Nat.le_refl _) (by omega)) z⟩
theorem s_kind (i : Nat) : us_kind (J i) (J (i + 1)) := by
  intro N a x y hJ
  obtain ⟨t, hC, hX⟩ := id hJ
  have h2 := J_sc hJ f0_sc
  obtain ⟨c1, c2, c3, -⟩ := JC_sc hC f0_sc
  have hS := tS_le c1
  unfold w_UpAndDown_kind
  have no : (¬ ∃ k w, k < tS t ∧ w < 2 ∧ x = nI k ∧ y = nI w) → w_Model_kind a x y (fun r' a2 => (-2 : Int32) = r' ∧ J (i + 1) N a2) := fun h => mm_kind c1 c3 (fun k hk e a' hf => ⟨fun e2 => absurd ⟨k, 0, hk, by omega, e, e2⟩ h, fun e2 => absurd ⟨k, 1, hk, by omega, e, e2⟩ h⟩) (fun _ => ⟨rfl, h2⟩)
  refine x_isNumber hC.2.1.2.2.1 (by omega) (fun k hk e => t1 ?_) (fun h => t0 (no (fun ⟨k, _, q1, _, q2, _⟩ => h k q1 q2)))
  have no2 : (∀ k, k < 1 + 1 → y ≠ nI k) → w_Model_kind a x y (fun r' a2 => (-2 : Int32) = r' ∧ J (i + 1) N a2) := fun h => no (fun ⟨_, w, _, q1, _, q2⟩ => h w q1 q2)
  refine ar_le 1 (by omega) no2 no2 (fun w hw e2 => ?_)
  subst e e2
  have hp : 0 < tS t := by omega
  have eS := tS_eq hp
  obtain ⟨f1, f2, f3⟩ := xF_of hC.1 hX.1 hp
  have hlt := fun x => fUp_lt (b := t 0 0) (n := t 0 1) (x := x) (by have := f1.2.2.2.1; omega)
  have inj : ∀ k', k' < tS t → nI k = nI k' → k' = k := fun k' h q => ((nI_eq (by omega) (by omega)).mp q).symm
  refine ⟨fun z => ?_, fun z => ?_⟩
  · refine x_least f1 f3 (by omega) (mm_kind c1 c3 (fun k' hk' e' a' hf => ⟨fun _ => ⟨?_, J_mk hC hX hf⟩, fun e3 => ?_⟩) (fun h => absurd ⟨k, w, hk, hw, rfl, rfl⟩ h))
    · rw [inj k' hk' e']
    · rw [z] at e3; exact absurd e3 (by decide)
  · have w1 : w = 1 := by
      have : w ≠ 0 := fun q => z (by rw [q]; rfl)
      omega
    subst w1
    unfold w_Figures_countOfKind
    refine x_least f1 f3 (by omega) ?_
    rw [f1.2.2.1, ← eS]
    have hl1 := hlt k
    refine LW2.up (tS t) (fun n c x => c = nI (fb_ct (fun z => decide (fUp (t 0 0) (t 0 1) z = fUp (t 0 0) (t 0 1) k)) n) ∧ x = nI n) ⟨rfl, rfl⟩ ?_ ?_
    · rintro n c x hn ⟨rfl, rfl⟩ K hK
      have := hlt n
      refine ⟨fun z => absurd z (nI_ge hn (by omega)), fun _ => x_least f1 f3 (by omega) ⟨fun z => hK _ _ ⟨ct_y (decide_eq_true ((nI_eq (by omega) (by omega)).mp z)), nI_1 n⟩, fun z => hK _ _ ⟨ct_n (decide_eq_false (fun w => z (by rw [w]))), nI_1 n⟩⟩⟩
    · rintro c x ⟨rfl, rfl⟩ K
      refine ⟨fun _ => mm_kind c1 c3 (fun k' hk' e' a' hf => ⟨fun e3 => absurd e3 (by decide), fun _ => ⟨?_, J_mk hC hX hf⟩⟩) (fun h => absurd ⟨k, 1, hk, by omega, rfl, rfl⟩ h), fun z => absurd (nI_le (Nat.le_refl _) (by omega)) z⟩
      rw [inj k' hk' e']
theorem s_odd (i : Nat) : us_odd (J i) (J (i + 1)) := by
  intro N a hJ
  obtain ⟨t, hC, hX⟩ := id hJ
  obtain ⟨c1, c2, c3, -⟩ := JC_sc hC f0_sc
  have hS := tS_le c1
  unfold w_UpAndDown_odd
  refine x_hasTable hC.1 hC.2.1 (fun hp => t1 ?_) (fun hp => t0 ?_)
  · refine x_known hC hX hp (fun a1 hf hR hI hC1 hX1 => ?_)
    have eS := tS_eq hp
    have hg := tg_lt hC.1 hp
    obtain ⟨f1, f2, f3⟩ := xF_of hC1.1 hX1.1 hp
    have hlt := fun x => fUp_lt (b := t 0 0) (n := t 0 1) (x := x) (by have := f1.2.2.2.1; omega)
    unfold w_Paths_firstOdd
    rw [hR.1.1]
    -- the model, to the first odd one
    have mm : ∀ {Q : Int32 → ud_St → Prop}, ((∀ x, x < tS t → tg t x = tg t (fUp (t 0 0) (t 0 1) x)) → ∀ a2, fr Psc a1 a2 → Q (-1) a2) → (∀ x, x < tS t → (∀ z, z < x → tg t z = tg t (fUp (t 0 0) (t 0 1) z)) → tg t x ≠ tg t (fUp (t 0 0) (t 0 1) x) → ∀ a2, fr Psc a1 a2 → Q (nI x) a2) → w_Model_odd a1 Q := by
      intro Q q1 q2
      unfold w_Model_odd
      refine m_isTable c1 (JC_sc hC1 f0_sc).2.2.1 (fun _ => t1 (mm_lays hC1 hp (fun a2 hf2 hN hF => ?_))) (fun z => by omega)
      refine LW2.up (tS t) (fun n x b => x = nI n ∧ fr Ps a2 b ∧ ∀ z, z < n → tg t z = tg t (fUp (t 0 0) (t 0 1) z)) ⟨rfl, fr.rf, fun z hz => by omega⟩ ?_ ?_
      · rintro n x b hn ⟨rfl, hfb, hz⟩ K hK
        have hl := hlt n
        have e85 : ∀ {c}, fr Ps a2 c → ∀ x, x < tS t → c.1 85 x = nI (tg t x) := fun h x hx => (h.1 85 x (by unfold Ps; omega)).trans (hN.2.2.2 x hx)
        have g1 := hg n hn
        have g2 := hg _ (show fUp (t 0 0) (t 0 1) n < tS t by omega)
        have hsc : ∀ {c}, fr Ps a2 c → fr Psc a1 c := fun h => hf2.tr (h.mono (fun k j q => pg_sc k j (ps_g k j q)))
        simp only [tN_2, (m_cells hF hfb).2.2.1, ← eS]
        rw [nI_clamp (by omega), e85 hfb n hn]
        refine ⟨vi_2 (by omega), fun z => absurd z (nI_ge hn (by omega)), fun _ => ⟨vp_in_nI (by omega) (by omega), m_up (m_cells hF hfb) (by omega) (fun c hfc => ⟨vp_in_nI (by omega) (by omega), ?_⟩)⟩⟩
        rw [nI_clamp (by omega), e85 (hfb.tr hfc) _ (by omega)]
        refine ⟨fun z => hK _ _ ⟨nI_1 n, hfb.tr hfc, fun u hu => ?_⟩, fun z => q2 n hn hz (fun w => z (by rw [w])) c (hsc (hfb.tr hfc))⟩
        by_cases e : u = n
        · rw [e]; exact (nI_eq (by omega) (by omega)).mp z
        · exact hz u (by omega)
      · rintro x b ⟨rfl, hfb, hz⟩ K
        simp only [tN_2, (m_cells hF hfb).2.2.1, ← eS]
        exact ⟨vi_2 (by omega), fun _ => q1 hz b (hf2.tr (hfb.mono (fun k j q => pg_sc k j (ps_g k j q)))), fun z => absurd (nI_le (Nat.le_refl _) (by omega)) z⟩
    refine LW1.up (tS t) (fun n x => x = nI n ∧ ∀ z, z < n → tg t z = tg t (fUp (t 0 0) (t 0 1) z)) ⟨rfl, fun z hz => by omega⟩ ?_ ?_
    · rintro n x hn ⟨rfl, hz⟩ K hK
      have hl := hlt n
      have g1 := hg n hn
      have g2 := hg _ (show fUp (t 0 0) (t 0 1) n < tS t by omega)
      refine ⟨fun z => absurd z (nI_ge hn (by omega)), fun _ => x_nextOf hR.1 hn (x_least f1 f3 (by omega) (x_nextOf hR.1 (by omega) ⟨fun z => hK _ ⟨nI_1 n, fun u hu => ?_⟩, fun z => ?_⟩))⟩
      · by_cases e : u = n
        · rw [e]; exact (nI_eq (by omega) (by omega)).mp z
        · exact hz u (by omega)
      · have z' : tg t n ≠ tg t (fUp (t 0 0) (t 0 1) n) := fun w => z (by rw [w])
        refine mm (fun h => absurd (h n hn) z') (fun x hx hx1 hx2 a2 hf2 => ⟨?_, J_mk hC1 hX1 hf2⟩)
        have : x = n := by
          rcases Nat.lt_trichotomy x n with w | w | w
          · exact absurd (hz x w) hx2
          · exact w
          · exact absurd (hx1 n w) z'
        rw [this]
    · rintro x ⟨rfl, hz⟩ K
      exact ⟨fun _ => mm (fun _ a2 hf2 => ⟨rfl, J_mk hC1 hX1 hf2⟩) (fun x hx _ hx2 => absurd (hz x hx) hx2), fun z => absurd (nI_le (Nat.le_refl _) (by omega)) z⟩
  · unfold w_Model_odd
    exact m_isTable c1 c3 (fun z => by omega) (fun _ => t0 ⟨rfl, J_sc hJ f0_sc⟩)
