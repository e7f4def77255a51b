/-! left, rest, fewest -/
noncomputable def pd (P : Nat → Prop) (y : Nat) : Bool := @decide (P y) (Classical.propDecidable _)
theorem pd_t {P : Nat → Prop} {y : Nat} : pd P y = true ↔ P y := @decide_eq_true_iff _ (Classical.propDecidable _)
theorem pd_f {P : Nat → Prop} {y : Nat} (h : ¬ P y) : pd P y = false := @decide_eq_false _ (Classical.propDecidable _) h
theorem m_manyIn {a : ud_St} {S : Nat} {P : Nat → Prop} {Q : Int32 → Prop} (h2 : a.1 78 2 = nI S) (hS : S ≤ 10000) (hB : mB a P S) (hQ : Q (nI (fb_ct (pd P) S))) : w_Model_manyIn a Q := by
  unfold w_Model_manyIn
  refine LW2.up S (fun k c x => c = nI (fb_ct (pd P) k) ∧ x = nI k) ⟨rfl, rfl⟩ ?_ ?_
  · rintro k c x hk ⟨rfl, rfl⟩ K hK
    simp only [tN_2, h2]
    rw [nI_clamp (by omega)]
    exact ⟨vi_2 (by omega), fun z => absurd z (nI_ge hk (by omega)), fun _ => ⟨vp_in_nI (by omega) (by omega), mB_1 hB hk (fun p => hK _ _ ⟨ct_y (pd_t.mpr p), nI_1 k⟩) (fun p => hK _ _ ⟨ct_n (pd_f p), nI_1 k⟩)⟩⟩
  · rintro c x ⟨rfl, rfl⟩ K
    simp only [tN_2, h2]
    exact ⟨vi_2 (by omega), fun _ => hQ, fun z => absurd (nI_le (Nat.le_refl _) (by omega)) z⟩
theorem mm_left {N : Nat} {a : ud_St} {x y : Int32} {t : TD} {Q : Int32 → ud_St → Prop} (hC : JC N a t) (h1 : ∀ c n, c < 4 → n < 201 → 0 < tS t → x = nI c → y = nI n → ∀ a', fr Psc a a' → Q (nI (fb_ct (pd (cb t c n)) (tS t))) a') (h0 : (¬ ∃ c n, c < 4 ∧ n < 201 ∧ 0 < tS t ∧ x = nI c ∧ y = nI n) → Q (-2) (a71 a)) : w_Model_left a x y Q := by
  obtain ⟨c1, c2, c3, -⟩ := JC_sc hC f0_sc
  have hS := tS_le c1
  unfold w_Model_left
  refine m_isCrowd c1 c3 (fun c n hc hn hp e e2 => t1 ?_) (fun h => t0 (h0 h))
  have hq := h1 c n hc hn hp e e2
  rw [e, e2]
  exact m_behindN hC hp (by omega) (by omega) (fun a1 hf hN hB => m_manyIn hN.1 hS hB (hq a1 hf))
theorem s_left (i : Nat) (hi : i < 512) : us_left (J i) (J (i + 1)) := by
  intro N a x y hJ
  obtain ⟨t, hC, hX⟩ := id hJ
  unfold w_UpAndDown_left
  have no : (¬ ∃ c n, c < 4 ∧ n < 201 ∧ 0 < tS t ∧ x = nI c ∧ y = nI n) → w_Model_left a x y (fun r' a2 => (-2 : Int32) = r' ∧ J (i + 1) N a2) := fun h => mm_left hC (fun c n q1 q2 q4 q5 q6 => absurd ⟨c, n, q1, q2, q4, q5, q6⟩ h) (fun _ => ⟨rfl, J_sc hJ f0_sc⟩)
  refine x_isCrowd hC.1 hC.2.1 (fun c hc hp e => t1 (x_isBehind (fun n hn e2 => t1 ?_) (fun h => t0 (no (fun ⟨_, n, _, q1, _, _, q2⟩ => h n q1 q2))))) (fun h => t0 (no (fun ⟨c, _, q1, _, q2, q3, _⟩ => h ⟨c, q1, q2, q3⟩)))
  subst e e2
  refine x_know hC hX hp (fun a1 mk hmk hK => x_crowd hK hp hc hn (by omega) (fun a2 mk' L hK' m1 _ hcH h3 h4 => ?_))
  refine mm_left hK'.1 (fun c' n' q1 q2 q4 q5 q6 a3 hf => ⟨?_, t, JC_sc hK'.1 hf, JX_sc (xK_J (i := i + 1) hK' (by omega) (by omega)) (Nat.le_refl _) hf⟩) (fun h => absurd ⟨c, n, hc, hn, hp, rfl, rfl⟩ h)
  rw [← (nI_eq (by omega) (by omega)).mp q5, ← (nI_eq (by omega) (by omega)).mp q6, hcH.1.2.1, set_len (S := tS t) (p := pd (cb t c n)) hcH.1.2.2.1 (fun y _ => pd_t.trans (hcH.2.1 y).symm) hcH.1.2.2.2.1]
/-- one rest by d -/
def onr (P : Nat → Prop) (S d : Nat) : Prop := ∀ y z, y < S → z < S → P y → P z → y % d = z % d
def grr (P : Nat → Prop) (S : Nat) (r : Int32) : Prop := (∃ d, r = nI d ∧ 2 ≤ d ∧ d ≤ 99 ∧ (∃ y, y < S ∧ P y) ∧ onr P S d ∧ ∀ e, d < e → e ≤ 99 → ¬ onr P S e) ∨ (r = -1 ∧ ((¬ ∃ y, y < S ∧ P y) ∨ ∀ e, 2 ≤ e → e ≤ 99 → ¬ onr P S e))
theorem grr_one {P : Nat → Prop} {S : Nat} {r r2 : Int32} (h : grr P S r) (h2 : grr P S r2) : r = r2 := by
  rcases h with ⟨d, e, d1, d2, q1, q2, q3⟩ | ⟨e, q⟩ <;> rcases h2 with ⟨g, e2, g1, g2, w1, w2, w3⟩ | ⟨e2, w⟩
  · rcases Nat.lt_trichotomy d g with z | z | z
    · exact absurd w2 (q3 g z g2)
    · rw [e, e2, z]
    · exact absurd q2 (w3 d z d2)
  · rcases w with w | w
    · exact absurd q1 w
    · exact absurd q2 (w d d1 d2)
  · rcases q with q | q
    · exact absurd w1 q
    · exact absurd w2 (q g g1 g2)
  · rw [e, e2]
theorem m_isRest {a : ud_St} {S d : Nat} {P : Nat → Prop} {Q : Int32 → Prop} (h2 : a.1 78 2 = nI S) (hS : S ≤ 10000) (hB : mB a P S) (hd : 0 < d) (hd2 : d < 2 ^ 31) (h1 : onr P S d → Q 1) (h0 : ¬ onr P S d → Q 0) : w_Model_isRest a (nI d) Q := by
  have dn : ¬ nI d = 0 := fun z => by have := (nI_eq (b := 0) hd2 (by omega)).mp z; omega
  unfold w_Model_isRest
  refine LW2.up S (fun k v x => x = nI k ∧ ((v = -1 ∧ ∀ y, y < k → ¬ P y) ∨ ∃ z, z < k ∧ P z ∧ v = nI (z % d) ∧ ∀ y, y < k → P y → y % d = z % d)) ⟨rfl, Or.inl ⟨rfl, fun y hy => by omega⟩⟩ ?_ ?_
  · rintro k v x hk ⟨rfl, hv⟩ K hK
    simp only [tN_2, h2]
    rw [nI_clamp (by omega), ui_mod (by omega) hd2]
    have ml : k % d < d := Nat.mod_lt _ hd
    refine ⟨vi_2 (by omega), fun z => absurd z (nI_ge hk (by omega)), fun _ => ⟨vp_in_nI (by omega) (by omega), mB_1 hB hk (fun hPk => ⟨fun z => ⟨dn, hK _ _ ⟨nI_1 k, Or.inr ⟨k, by omega, hPk, rfl, fun y hy hPy => ?_⟩⟩⟩, fun z => ⟨dn, fun z2 => ⟨dn, hK _ _ ⟨nI_1 k, Or.inr ⟨k, by omega, hPk, rfl, fun y hy hPy => ?_⟩⟩⟩, fun z2 => h0 (fun w => ?_)⟩⟩) (fun hPk => hK _ _ ⟨nI_1 k, ?_⟩)⟩⟩
    · rcases hv with ⟨-, w⟩ | ⟨u, _, _, w, _⟩
      · by_cases ey : y = k
        · rw [ey]
        · exact absurd hPy (w y (by omega))
      · rw [w] at z
        have : u % d < d := Nat.mod_lt _ hd
        exact absurd z (ui_ne1 (by omega))
    · rcases hv with ⟨w, -⟩ | ⟨u, w1, w2, w3, w4⟩
      · exact absurd w z
      · rw [w3] at z2
        have : u % d < d := Nat.mod_lt _ hd
        have := (nI_eq (by omega) (by omega)).mp z2
        by_cases ey : y = k
        · rw [ey]
        · rw [w4 y (by omega) hPy]; exact this
    · rcases hv with ⟨w, -⟩ | ⟨u, w1, w2, w3, w4⟩
      · exact absurd w z
      · rw [w3] at z2
        exact z2 (by rw [w u k (by omega) hk w2 hPk])
    · rcases hv with ⟨w, w2⟩ | ⟨u, w1, w2, w3, w4⟩
      · refine Or.inl ⟨w, fun y hy => ?_⟩
        by_cases ey : y = k
        · rw [ey]; exact hPk
        · exact w2 y (by omega)
      · refine Or.inr ⟨u, by omega, w2, w3, fun y hy hPy => ?_⟩
        by_cases ey : y = k
        · rw [ey] at hPy; exact absurd hPy hPk
        · exact w4 y (by omega) hPy
  · rintro v x ⟨rfl, hv⟩ K
    simp only [tN_2, h2]
    refine ⟨vi_2 (by omega), fun _ => h1 (fun y z hy hz hPy hPz => ?_), fun z => absurd (nI_le (Nat.le_refl _) (by omega)) z⟩
    rcases hv with ⟨-, w⟩ | ⟨u, w1, w2, w3, w4⟩
    · exact absurd hPy (w y hy)
    · rw [w4 y hy hPy, w4 z hz hPz]
theorem mm_rest {N : Nat} {a : ud_St} {x y : Int32} {t : TD} {Q : Int32 → ud_St → Prop} (hC : JC N a t) (h1 : ∀ c n, c < 4 → n < 201 → 0 < tS t → x = nI c → y = nI n → ∀ a' r, fr Psc a a' → grr (cb t c n) (tS t) r → Q r a') (h0 : (¬ ∃ c n, c < 4 ∧ n < 201 ∧ 0 < tS t ∧ x = nI c ∧ y = nI n) → Q (-2) (a71 a)) : w_Model_rest a x y Q := by
  obtain ⟨c1, c2, c3, -⟩ := JC_sc hC f0_sc
  have hS := tS_le c1
  unfold w_Model_rest
  refine m_isCrowd c1 c3 (fun c n hc hn hp e e2 => t1 ?_) (fun h => t0 (h0 h))
  have hq := h1 c n hc hn hp e e2
  rw [e, e2]
  refine m_behindN hC hp (by omega) (by omega) (fun a1 hf hN hB => m_manyIn hN.1 hS hB ?_)
  have hle := fb_ct_le (pd (cb t c n)) (tS t)
  refine ⟨fun z => hq a1 _ hf (Or.inr ⟨rfl, Or.inl (fun ⟨y, q1, q2⟩ => ?_)⟩), fun z => ?_⟩
  · have e0 := (nI_eq (b := 0) (by omega) (by omega)).mp z
    have := fb_ct_zero.mp e0 y q1
    rw [pd_t.mpr q2] at this
    cases this
  have hex : ∃ y, y < tS t ∧ cb t c n y := by
    have : 0 < fb_ct (pd (cb t c n)) (tS t) := by
      rcases Nat.eq_zero_or_pos (fb_ct (pd (cb t c n)) (tS t)) with w | w
      · exact absurd (by rw [w]; rfl) z
      · exact w
    obtain ⟨y, q1, q2⟩ := fb_ct_pos.mp this
    exact ⟨y, q1, pd_t.mp q2⟩
  refine LW1.up 98 (fun k x => x = nI (99 - k) ∧ ∀ e, 99 - k < e → e ≤ 99 → ¬ onr (cb t c n) (tS t) e) ⟨rfl, fun e q1 q2 => by omega⟩ ?_ ?_
  · rintro k x hk ⟨rfl, hall⟩ K hK
    refine ⟨fun q => ?_, fun _ => m_isRest hN.1 hS hB (by omega) (by omega) (fun w => t1 (hq a1 _ hf (Or.inl ⟨99 - k, rfl, by omega, by omega, hex, w, hall⟩))) (fun w => t0 (hK _ ⟨?_, fun e q1 q2 => ?_⟩))⟩
    · have := (nI_ltI (b := 2) (by omega) (by omega)).mp q
      omega
    · rw [ui_m1, ui_pred (by omega)]; congr 1
    · by_cases ee : e = 99 - k
      · rw [ee]; exact w
      · exact hall e (by omega) q2
  · rintro x ⟨rfl, hall⟩ K
    exact ⟨fun _ => hq a1 _ hf (Or.inr ⟨rfl, Or.inr (fun e q1 q2 => hall e (by omega) q2)⟩), fun z => absurd (nI_lt (b := 2) (by omega) (by omega)) z⟩
theorem x_isOneRest {a : ud_St} {mk S d : Nat} {L : List Nat} {P : Nat → Prop} {Q : Int32 → Prop} (hS : S ≤ 10000) (hc : crS a S mk L) (hL : ∀ y, y ∈ L ↔ P y) (h0 : 0 < L.length) (hd : 0 < d) (hd2 : d < 2 ^ 31) (hy : onr P S d → Q 1) (hn : ¬ onr P S d → Q 0) : w_Crowd_isOneRest a (nI d) Q := by
  obtain ⟨c1, c2, c3, c4, c5, c6⟩ := hc
  have hle := set_le c3 c4
  have at_ : ∀ k (hk : k < L.length), a.1 46 k = nI L[k] := fun k hk => by rw [c5 k hk, gd_at hk]
  have lt_ : ∀ k (hk : k < L.length), L[k] < S := fun k hk => c4 _ (List.getElem_mem hk)
  have ins : ∀ k (hk : k < L.length), P L[k] := fun k hk => (hL _).mp (List.getElem_mem hk)
  have l0 := lt_ 0 h0
  unfold w_Crowd_isOneRest
  refine ub_atn (j := 0) (by omega) (by omega) ?_
  rw [at_ 0 h0]
  refine ub_over (by omega) hd hd2 ?_
  refine LW1.up (L.length - 1) (fun k x => x = nI (k + 1) ∧ ∀ j (hj : j < L.length), j < k + 1 → L[j] % d = L[0] % d) ⟨rfl, fun j hj hj2 => by simp [show j = 0 by omega]⟩ ?_ ?_
  · rintro k x hk ⟨rfl, hall⟩ K hK
    have hk1 : k + 1 < L.length := by omega
    have l1 := lt_ (k + 1) hk1
    rw [c2]
    refine ⟨fun z => absurd z (nI_ge hk1 (by omega)), fun _ => ub_atn (by omega) (by omega) ?_⟩
    rw [at_ (k + 1) hk1]
    have d1 : L[k + 1] % d < d := Nat.mod_lt _ hd
    have d2 : L[0] % d < d := Nat.mod_lt _ hd
    refine ub_over (by omega) hd hd2 ⟨fun z => hK _ ⟨nI_1 _, fun j hj hj2 => ?_⟩, fun z => hn (fun w => z ?_)⟩
    · by_cases ej : j = k + 1
      · subst ej; exact (nI_eq (by omega) (by omega)).mp z
      · exact hall j hj (by omega)
    · rw [w _ _ l1 l0 (ins _ hk1) (ins _ h0)]
  · rintro x ⟨rfl, hall⟩ K
    rw [c2]
    refine ⟨fun _ => hy (fun y z hyS hzS hPy hPz => ?_), fun z => absurd (nI_le (by omega) (by omega)) z⟩
    obtain ⟨j, hj, e⟩ := List.getElem_of_mem ((hL y).mpr hPy)
    obtain ⟨j2, hj2, e2⟩ := List.getElem_of_mem ((hL z).mpr hPz)
    rw [← e, ← e2, hall j hj (by omega), hall j2 hj2 (by omega)]
theorem x_greatest {a : ud_St} {mk S : Nat} {L : List Nat} {P : Nat → Prop} {Q : Int32 → Prop} (hS : S ≤ 10000) (hc : crS a S mk L) (hL : ∀ y, y ∈ L ↔ P y) (hQ : ∀ r, grr P S r → Q r) : w_Crowd_greatestOfOneRest a Q := by
  have hle := set_le hc.2.2.1 hc.2.2.2.1
  unfold w_Crowd_greatestOfOneRest
  rw [hc.2.1]
  refine ⟨fun z => hQ _ (Or.inr ⟨rfl, Or.inl (fun ⟨y, q1, q2⟩ => ?_)⟩), fun z => ?_⟩
  · have e := (nI_eq (b := 0) (by omega) (by omega)).mp z
    have := (hL y).mpr q2
    rw [List.length_eq_zero_iff.mp e] at this
    cases this
  have h0 : 0 < L.length := by
    rcases Nat.eq_zero_or_pos L.length with w | w
    · exact absurd (by rw [w]; rfl) z
    · exact w
  have hex : ∃ y, y < S ∧ P y := ⟨L[0], hc.2.2.2.1 _ (List.getElem_mem h0), (hL _).mp (List.getElem_mem h0)⟩
  refine LW1.up 98 (fun k x => x = nI (99 - k) ∧ ∀ e, 99 - k < e → e ≤ 99 → ¬ onr P S e) ⟨rfl, fun e q1 q2 => by omega⟩ ?_ ?_
  · rintro k x hk ⟨rfl, hall⟩ K hK
    refine ⟨fun q => ?_, fun _ => x_isOneRest hS hc hL h0 (by omega) (by omega) (fun w => t1 (hQ _ (Or.inl ⟨99 - k, rfl, by omega, by omega, hex, w, hall⟩))) (fun w => t0 (hK _ ⟨?_, fun e q1 q2 => ?_⟩))⟩
    · have := (nI_ltI (b := 2) (by omega) (by omega)).mp q
      omega
    · rw [ui_m1, ui_pred (by omega)]; congr 1
    · by_cases ee : e = 99 - k
      · rw [ee]; exact w
      · exact hall e (by omega) q2
  · rintro x ⟨rfl, hall⟩ K
    exact ⟨fun _ => hQ _ (Or.inr ⟨rfl, Or.inr (fun e q1 q2 => hall e (by omega) q2)⟩), fun z => absurd (nI_lt (b := 2) (by omega) (by omega)) z⟩
theorem s_rest (i : Nat) (hi : i < 512) : us_rest (J i) (J (i + 1)) := by
  intro N a x y hJ
  obtain ⟨t, hC, hX⟩ := id hJ
  have hS := tS_le hC.1
  unfold w_UpAndDown_rest
  have no : (¬ ∃ c n, c < 4 ∧ n < 201 ∧ 0 < tS t ∧ x = nI c ∧ y = nI n) → w_Model_rest a x y (fun r' a2 => (-2 : Int32) = r' ∧ J (i + 1) N a2) := fun h => mm_rest hC (fun c n q1 q2 q4 q5 q6 => absurd ⟨c, n, q1, q2, q4, q5, q6⟩ h) (fun _ => ⟨rfl, J_sc hJ f0_sc⟩)
  refine x_isCrowd hC.1 hC.2.1 (fun c hc hp e => t1 (x_isBehind (fun n hn e2 => t1 ?_) (fun h => t0 (no (fun ⟨_, n, _, q1, _, _, q2⟩ => h n q1 q2))))) (fun h => t0 (no (fun ⟨c, _, q1, _, q2, q3, _⟩ => h ⟨c, q1, q2, q3⟩)))
  subst e e2
  refine x_know hC hX hp (fun a1 mk hmk hK => x_crowd hK hp hc hn (by omega) (fun a2 mk' L hK' m1 _ hcH h3 h4 => x_greatest hS hcH.1 hcH.2.1 (fun r hr => ?_)))
  refine mm_rest hK'.1 (fun c' n' q1 q2 q4 q5 q6 a3 r' hf hr' => ⟨?_, t, JC_sc hK'.1 hf, JX_sc (xK_J (i := i + 1) hK' (by omega) (by omega)) (Nat.le_refl _) hf⟩) (fun h => absurd ⟨c, n, hc, hn, hp, rfl, rfl⟩ h)
  rw [← (nI_eq (by omega) (by omega)).mp q5, ← (nI_eq (by omega) (by omega)).mp q6] at hr'
  exact grr_one hr hr'
