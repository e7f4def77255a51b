/-! sure, left, rest -/
/-- what is sure: d if all of P have it and there is one, else -1 -/
def sur (P : Nat → Prop) (S : Nat) (f : Nat → Nat) (r : Int32) : Prop := (∃ d, r = nI d ∧ (∃ y, y < S ∧ P y) ∧ ∀ y, y < S → P y → f y = d) ∨ (r = -1 ∧ ¬ ∃ d, (∃ y, y < S ∧ P y) ∧ ∀ y, y < S → P y → f y = d)
theorem sur_one {P : Nat → Prop} {S : Nat} {f : Nat → Nat} {r r2 : Int32} (h : sur P S f r) (h2 : sur P S f r2) : r = r2 := by
  rcases h with ⟨d, e, ⟨y, q1, q2⟩, q3⟩ | ⟨e, q⟩ <;> rcases h2 with ⟨d2, e2, ⟨y2, w1, w2⟩, w3⟩ | ⟨e2, w⟩
  · rw [e, e2, ← q3 y q1 q2, ← w3 y q1 q2]
  · exact absurd ⟨d, ⟨y, q1, q2⟩, q3⟩ w
  · exact absurd ⟨d2, ⟨y2, w1, w2⟩, w3⟩ q
  · rw [e, e2]
theorem m_sureAt {a : ud_St} {b n p : Nat} {P : Nat → Prop} {Q : Int32 → ud_St → Prop} (hF : mF a b n) (hB : mB a P (b ^ n)) (hp : p < n) (hQ : ∀ a' r, fr Ps a a' → sur P (b ^ n) (fun y => dg b n y p) r → Q r a') : w_Model_sureAt a (nI p) Q := by
  obtain ⟨f1, f2, f3, hb, hb2, hn, hn2, hS⟩ := id hF
  have hdg : ∀ y, dg b n y p < b := fun y => dg_lt (by omega)
  unfold w_Model_sureAt
  refine LW3.up (b ^ n) (fun k v x c => x = nI k ∧ fr Ps a c ∧ ((v = -1 ∧ ∀ y, y < k → ¬ P y) ∨ ∃ d, v = nI d ∧ d < 16 ∧ (∃ y, y < k ∧ P y) ∧ ∀ y, y < k → P y → dg b n y p = d)) ⟨rfl, fr.rf, Or.inl ⟨rfl, fun y hy => by omega⟩⟩ ?_ ?_
  · rintro k v x c hk ⟨rfl, hf, hv⟩ K hK
    have hFc := m_cells hF hf
    have hBc : mB c P (b ^ n) := fun x hx => by rw [hf.1 90 x (by unfold Ps; omega)]; exact hB x hx
    simp only [tN_2, hFc.2.2.1]
    rw [nI_clamp (by omega)]
    refine ⟨vi_2 (by omega), fun z => absurd z (nI_ge hk (by omega)), fun _ => ⟨vp_in_nI (by omega) (by omega), mB_1 hBc hk (fun hPk => m_figures hFc (by omega) (fun e hf2 h83 => ?_)) (fun hPk => hK _ _ _ ⟨nI_1 k, hf, ?_⟩)⟩⟩
    · have hfe : fr Ps a e := hf.tr (hf2.mono (fun k j q => Or.inl q))
      have hd := hdg k
      rw [nI_clamp (by omega), h83 p hp]
      refine ⟨fun z => ⟨vp_in_nI (by omega) (by omega), hK _ _ _ ⟨nI_1 k, hfe, Or.inr ⟨_, rfl, by omega, ⟨k, by omega, hPk⟩, fun y hy hPy => ?_⟩⟩⟩, fun z => ⟨vp_in_nI (by omega) (by omega), fun z2 => ⟨vp_in_nI (by omega) (by omega), hK _ _ _ ⟨nI_1 k, hfe, ?_⟩⟩, fun z2 => hQ e _ hfe (Or.inr ⟨rfl, fun ⟨d', _, w⟩ => z2 ?_⟩)⟩⟩
      · rcases hv with ⟨-, w⟩ | ⟨d, w, w2, -⟩
        · by_cases ey : y = k
          · rw [ey]
          · exact absurd hPy (w y (by omega))
        · rw [w] at z; exact absurd z (ui_ne1 (by omega))
      · rcases hv with ⟨w, -⟩ | ⟨d, w, w2, w3, w4⟩
        · exact absurd w z
        · rw [w] at z2
          have := (nI_eq (by omega) (by omega)).mp z2
          refine Or.inr ⟨dg b n k p, rfl, by omega, ⟨k, by omega, hPk⟩, fun y hy hPy => ?_⟩
          by_cases ey : y = k
          · rw [ey]
          · rw [w4 y (by omega) hPy]; exact this
      · rcases hv with ⟨w5, -⟩ | ⟨d, w5, w2, ⟨y, w3, w6⟩, w4⟩
        · exact absurd w5 z
        · rw [w5, ← w4 y w3 w6]
          have e1 : dg b n y p = d' := w y (by omega) w6
          have e2 : dg b n k p = d' := w k hk hPk
          rw [e1, e2]
    · rcases hv with ⟨w, w2⟩ | ⟨d, w, w2, ⟨y, w3, w6⟩, w4⟩
      · refine Or.inl ⟨w, fun y hy => ?_⟩
        by_cases ey : y = k
        · rw [ey]; exact hPk
        · exact w2 y (by omega)
      · refine Or.inr ⟨d, w, w2, ⟨y, by omega, w6⟩, fun y hy hPy => ?_⟩
        by_cases ey : y = k
        · rw [ey] at hPy; exact absurd hPy hPk
        · exact w4 y (by omega) hPy
  · rintro v x c ⟨rfl, hf, hv⟩ K
    simp only [tN_2, (m_cells hF hf).2.2.1]
    refine ⟨vi_2 (by omega), fun _ => hQ c v hf ?_, fun z => absurd (nI_le (Nat.le_refl _) (by omega)) z⟩
    rcases hv with ⟨w, w2⟩ | ⟨d, w, w2, w3, w4⟩
    · exact Or.inr ⟨w, fun ⟨_, ⟨y, q1, q2⟩, _⟩ => w2 y q1 q2⟩
    · exact Or.inl ⟨d, w, w3, w4⟩
theorem x_sureFigure {a : ud_St} {b n p mk S : Nat} {L : List Nat} {P : Nat → Prop} {Q : Int32 → Prop} (hF : xF a b n) (hP : xP a b n) (hS : S ≤ 10000) (hc : crS a S mk L) (hL : ∀ y, y ∈ L ↔ P y) (hp : p < n) (hQ : ∀ r, sur P S (fun y => dg b n y p) r → Q r) : w_Crowd_sureFigure a (nI p) Q := by
  obtain ⟨c1, c2, c3, c4, c5, c6⟩ := hc
  have hle := set_le c3 c4
  obtain ⟨f1, f2, f3, hb, hb2, hn, hn2, -⟩ := id hF
  have hdg : ∀ y, dg b n y p < b := fun y => dg_lt (by omega)
  have hPS : ∀ y, P y → y < S := fun y h => c4 y ((hL y).mpr h)
  unfold w_Crowd_sureFigure
  rw [c2]
  refine ⟨fun z => hQ _ (Or.inr ⟨rfl, fun ⟨_, ⟨y, q1, q2⟩, _⟩ => ?_⟩), fun z => ?_⟩
  · have e := (nI_eq (b := 0) (by omega) (by omega)).mp z
    have := (hL y).mpr q2
    rw [List.length_eq_zero_iff.mp e] at this
    cases this
  · have h0 : 0 < L.length := by
      rcases Nat.eq_zero_or_pos L.length with w | w
      · exact absurd (by rw [w]; rfl) z
      · exact w
    have at_ : ∀ k (hk : k < L.length), a.1 46 k = nI L[k] := fun k hk => by rw [c5 k hk, gd_at hk]
    have lt_ : ∀ k (hk : k < L.length), L[k] < S := fun k hk => c4 _ (List.getElem_mem hk)
    have ins : ∀ k (hk : k < L.length), P L[k] := fun k hk => (hL _).mp (List.getElem_mem hk)
    have l0 := lt_ 0 h0
    refine ub_atn (j := 0) (by omega) (by omega) ?_
    rw [at_ 0 h0]
    refine x_figureOf hF hP (by omega) hp ?_
    refine LW1.up (L.length - 1) (fun k x => x = nI (k + 1) ∧ ∀ j (hj : j < L.length), j < k + 1 → dg b n L[j] p = dg b n L[0] p) ⟨rfl, fun j hj hj2 => by simp [show j = 0 by omega]⟩ ?_ ?_
    · rintro k x hk ⟨rfl, hall⟩ K hK
      have hk1 : k + 1 < L.length := by omega
      have l1 := lt_ (k + 1) hk1
      refine ⟨fun z => absurd z (nI_ge hk1 (by omega)), fun _ => ub_atn (by omega) (by omega) ?_⟩
      rw [at_ (k + 1) hk1]
      have d1 := hdg L[k + 1]
      have d2 := hdg L[0]
      refine x_figureOf hF hP (by omega) hp ⟨fun z => hK _ ⟨nI_1 _, fun j hj hj2 => ?_⟩, fun z => hQ _ (Or.inr ⟨rfl, fun ⟨d, _, w⟩ => z ?_⟩)⟩
      · by_cases ej : j = k + 1
        · subst ej; exact (nI_eq (by omega) (by omega)).mp z
        · exact hall j hj (by omega)
      · have e1 : dg b n L[k + 1] p = d := w _ l1 (ins _ hk1)
        have e2 : dg b n L[0] p = d := w _ l0 (ins _ h0)
        rw [e1, e2]
    · rintro x ⟨rfl, hall⟩ K
      refine ⟨fun _ => hQ _ (Or.inl ⟨_, rfl, ⟨L[0], l0, ins 0 h0⟩, fun y hy hPy => ?_⟩), fun z => absurd (nI_le (by omega) (by omega)) z⟩
      obtain ⟨j, hj, e⟩ := List.getElem_of_mem ((hL y).mpr hPy)
      rw [← e]
      exact hall j hj (by omega)
/-- x, its rounds known, with the mark of its crowd -/
def xK (N : Nat) (a : ud_St) (t : TD) (mk : Nat) : Prop := JC N a t ∧ figOK a (t 0 0) (t 0 1) ∧ (xR a (tg t) (tS t) ∧ xI a (tg t) (tS t)) ∧ coOK a ∧ crA a t mk
theorem xK_J {i N mk : Nat} {a : ud_St} {t : TD} (h : xK N a t mk) (hi : mk ≤ 1000 * i) (hm : mk < 2 ^ 31) : JX i a t := ⟨h.2.1, Or.inr h.2.2.1, crA_to hi hm (tS_le h.1.1) h.2.2.2.2, h.2.2.2.1⟩
theorem x_crowd {N n c mk : Nat} {a : ud_St} {t : TD} {Q : ud_St → Prop} (h : xK N a t mk) (hp : 0 < tS t) (hc : c < 4) (hn : n < 201) (hm : mk + 2000 < 2 ^ 31) (hQ : ∀ a' mk' L, xK N a' t mk' → mk' ≤ mk + 201 → (∀ gs L0, a.1 45 3 = nI c → a.1 45 4 = nI gs → gs ≤ n → cH a t c gs mk L0 → mk' ≤ mk + (n - gs)) → cH a' t c n mk' L → a'.1 45 3 = nI c → a'.1 45 4 = nI n → Q a') : w_UpAndDown_behind a (nI c) (nI n) Q := by
  obtain ⟨hC, hf, hR, hco, hA⟩ := h
  obtain ⟨f1, f2, f3⟩ := xF_of hC.1 hf hp
  refine x_behind hC.1 hp hC.2.1 f1 f2 f3 hR.1.1 (by omega) (by omega) hm hA (fun a' mk' L hfr m1 m2 hcH h4 h3 => hQ a' mk' L ⟨JC_c hC (fun k j q => hfr.1 k j (by unfold core at q; unfold Pc2 Pc1 Pc0; omega)) hfr.2, figOK_c hf (fun k j _ _ => hfr.1 k j (by unfold Pc2 Pc1 Pc0; omega)), ⟨xR_c hR.1 (fun k j _ _ => hfr.1 k j (by unfold Pc2 Pc1 Pc0; omega)), xI_c hR.2 (fun k j _ _ => hfr.1 k j (by unfold Pc2 Pc1 Pc0; omega))⟩, coOK_c hco (fun k j _ => hfr.1 k j (by unfold Pc2 Pc1 Pc0; omega)), crB_of hcH, Or.inr ⟨c, n, L, by omega, by omega, h3, h4, hcH⟩⟩ m1 m2 hcH h3 h4)
theorem x_know {i N : Nat} {a : ud_St} {t : TD} {Q : ud_St → Prop} (hC : JC N a t) (hX : JX i a t) (hp : 0 < tS t) (hQ : ∀ a1 mk, mk ≤ 1000 * i → xK N a1 t mk → Q a1) : w_UpAndDown_known a Q := x_known hC hX hp (fun a1 _ hR hI hC1 hX1 => by
  obtain ⟨mk, q1, q2⟩ := crA_of hC1.1 hp hX1.2.2.1
  exact hQ a1 mk q1 ⟨hC1, hX1.1, ⟨hR, hI⟩, hX1.2.2.2, q2⟩)
theorem x_isCrowd {a : ud_St} {t : TD} {x : Int32} {Q : Int32 → Prop} (hok : tOK t) (hx : xT a 4 t) (h1 : ∀ c, c < 4 → 0 < tS t → x = nI c → Q 1) (h0 : (¬ ∃ c, c < 4 ∧ 0 < tS t ∧ x = nI c) → Q 0) : w_UpAndDown_isCrowd a x Q := by
  unfold w_UpAndDown_isCrowd
  exact x_hasTable hok hx (fun hp => t1 (ar_gt 3 (by omega) (fun h => h0 (fun ⟨c, q1, _, q2⟩ => h c q1 q2)) (fun h => h0 (fun ⟨c, q1, _, q2⟩ => h c q1 q2)) (fun c hc e => h1 c hc hp e))) (fun hp => t0 (h0 (fun ⟨c, _, q, _⟩ => by omega)))
theorem x_isPlace {a : ud_St} {t : TD} {x : Int32} {Q : Int32 → Prop} (hok : tOK t) (hx : xT a 4 t) (h1 : ∀ p, p < t 0 1 → x = nI p → Q 1) (h0 : (¬ ∃ p, p < t 0 1 ∧ x = nI p) → Q 0) : w_UpAndDown_isPlace a x Q := by
  have hb := t3_le hok
  unfold w_UpAndDown_isPlace
  rw [hx.2.1]
  exact ar_ge (by omega) (fun h => h0 (fun ⟨p, q1, q2⟩ => h p q1 q2)) (fun h => h0 (fun ⟨p, q1, q2⟩ => h p q1 q2)) h1
theorem m_isCrowd {a : ud_St} {t : TD} {x y : Int32} {Q : Int32 → Prop} (hok : tOK t) (hm : mT a 0 t) (h1 : ∀ c n, c < 4 → n < 201 → 0 < tS t → x = nI c → y = nI n → Q 1) (h0 : (¬ ∃ c n, c < 4 ∧ n < 201 ∧ 0 < tS t ∧ x = nI c ∧ y = nI n) → Q 0) : w_Model_isCrowd a x y Q := by
  unfold w_Model_isCrowd
  refine m_isTable hok hm (fun hp => t1 ?_) (fun hp => t0 (h0 (fun ⟨_, _, _, _, q, _⟩ => by omega)))
  refine m_in0 4 (by omega) (by decide) (fun c hc e => t1 ?_) (fun h => t0 (h0 (fun ⟨c, _, q1, _, _, q2, _⟩ => h c q1 q2)))
  exact m_in0 201 (by omega) (by decide) (fun n hn e2 => t1 (h1 c n hc hn hp e e2)) (fun h => t0 (h0 (fun ⟨_, n, _, q1, _, _, q2⟩ => h n q1 q2)))
theorem mm_sure {N : Nat} {a : ud_St} {x y z : Int32} {t : TD} {Q : Int32 → ud_St → Prop} (hC : JC N a t) (h1 : ∀ c n p, c < 4 → n < 201 → p < t 0 1 → 0 < tS t → x = nI c → y = nI n → z = nI p → ∀ a' r, fr Psc a a' → sur (cb t c n) (tS t) (fun y => dg (t 0 0) (t 0 1) y p) r → Q r a') (h0 : (¬ ∃ c n p, c < 4 ∧ n < 201 ∧ p < t 0 1 ∧ 0 < tS t ∧ x = nI c ∧ y = nI n ∧ z = nI p) → Q (-2) (a71 a)) : w_Model_sure a x y z Q := by
  obtain ⟨c1, c2, c3, -⟩ := JC_sc hC f0_sc
  have hb := t3_le c1
  unfold w_Model_sure
  simp only [tN_1, show (ud_sv a 71 0 0).1 78 1 = nI (t 0 1) from c3.2.2.1]
  refine m_isCrowd c1 c3 (fun c n hc hn hp e e2 => t1 ⟨vi_1 (by omega), m_in0 (t 0 1) (by omega) (hi_B (by omega)) (fun p hpl e3 => t1 ?_) (fun h => t0 (h0 (fun ⟨_, _, p, _, _, q1, _, _, _, q2⟩ => h p q1 q2)))⟩) (fun h => t0 (h0 (fun ⟨c, n, p, q1, q2, q3, q4, q5, q6, q7⟩ => h ⟨c, n, q1, q2, q4, q5, q6⟩)))
  have hq := h1 c n p hc hn hpl hp e e2 e3
  rw [e, e2, e3]
  refine m_behindN hC hp (by omega) (by omega) (fun a1 hf _ hB => ?_)
  have hC1 := JC_sc hC hf
  have hF := mF_of hC1.1 hC1.2.2.1 hp
  have eS := tS_eq hp
  rw [eS] at hB hq
  exact m_sureAt hF hB hpl (fun a' r hf' hr => hq a' r (hf.tr (hf'.mono (fun k j q => pg_sc k j (ps_g k j q)))) hr)
theorem s_sure (i : Nat) (hi : i < 512) : us_sure (J i) (J (i + 1)) := by
  intro N a x y z hJ
  obtain ⟨t, hC, hX⟩ := id hJ
  have hS := tS_le hC.1
  have hb := t3_le hC.1
  unfold w_UpAndDown_sure
  have no : (¬ ∃ c n p, c < 4 ∧ n < 201 ∧ p < t 0 1 ∧ 0 < tS t ∧ x = nI c ∧ y = nI n ∧ z = nI p) → w_Model_sure a x y z (fun r' a2 => (-2 : Int32) = r' ∧ J (i + 1) N a2) := fun h => mm_sure hC (fun c n p q1 q2 q3 q4 q5 q6 q7 => absurd ⟨c, n, p, q1, q2, q3, q4, q5, q6, q7⟩ h) (fun _ => ⟨rfl, J_sc hJ f0_sc⟩)
  refine x_isCrowd hC.1 hC.2.1 (fun c hc hp e => t1 (x_isBehind (fun n hn e2 => t1 (x_isPlace hC.1 hC.2.1 (fun p hpl e3 => t1 ?_) (fun h => t0 (no (fun ⟨_, _, p, _, _, q1, _, _, _, q2⟩ => h ⟨p, q1, q2⟩))))) (fun h => t0 (no (fun ⟨_, n, _, _, q1, _, _, _, q2, _⟩ => h n q1 q2))))) (fun h => t0 (no (fun ⟨c, _, _, q1, _, _, q2, q3, _⟩ => h ⟨c, q1, q2, q3⟩)))
  subst e e2 e3
  refine x_know hC hX hp (fun a1 mk hmk hK => x_crowd hK hp hc hn (by omega) (fun a2 mk' L hK' m1 _ hcH h3 h4 => ?_))
  obtain ⟨f1, f2, f3⟩ := xF_of hK'.1.1 hK'.2.1 hp
  refine x_sureFigure f1 f2 hS hcH.1 hcH.2.1 hpl (fun r hr => ?_)
  refine mm_sure hK'.1 (fun c' n' p' q1 q2 q3 q4 q5 q6 q7 a3 r' hf hr' => ⟨?_, t, JC_sc hK'.1 hf, JX_sc (xK_J (i := i + 1) hK' (by omega) (by omega)) (Nat.le_refl _) hf⟩) (fun h => absurd ⟨c, n, p, hc, hn, hpl, hp, rfl, rfl, rfl⟩ h)
  rw [← (nI_eq (by omega) (by omega)).mp q5, ← (nI_eq (by omega) (by omega)).mp q6, ← (nI_eq (by omega) (by omega)).mp q7] at hr'
  exact sur_one hr hr'
