/-! gardens, garden, from -/
/-- NEXT of none -/
def gdn (g : Nat → Nat) (S z : Nat) : Bool := decide (pc g z S = 0)
theorem pc_0 {g : Nat → Nat} {S z : Nat} : pc g z S = 0 ↔ ∀ u, u < S → g u ≠ z := by
  unfold pc
  rw [fb_ct_zero]
  exact forall_congr' fun u => forall_congr' fun _ => decide_eq_false_iff_not
theorem x_countInto {a : ud_St} {g : Nat → Nat} {S x : Nat} {Q : Int32 → Prop} (hN : xN a g S) (hI : xI a g S) (hx : x < S) (hQ : Q (nI (pc g x S))) : w_Paths_countInto a (nI x) Q := by
  have hS := hN.2.1
  unfold w_Paths_countInto
  rw [nI_1]
  refine ub_atn (by omega) (by omega) (ub_atn (by omega) (by omega) ?_)
  rw [hI.1 (x + 1) (by omega), hI.1 x (by omega), sp_s, ui_sub (by omega), Nat.add_sub_cancel_left]
  exact hQ
theorem x_into {a : ud_St} {g : Nat → Nat} {S x y : Nat} {Q : Int32 → Prop} (hN : xN a g S) (hI : xI a g S) (hx : x < S) (hy : y < S) (e : g y = x) (hQ : Q (nI y)) : w_Paths_into a (nI x) (nI (pc g x y)) Q := by
  have hS := hN.2.1
  have hp := ps_lt (g := g) hN.2.2.1 hy
  unfold w_Paths_into
  refine ub_atn (by omega) (by omega) ?_
  rw [hI.1 x (by omega), nI_add]
  have e2 : sp g S x + pc g x y = ps g S y := by unfold ps; rw [e]
  rw [e2]
  exact ub_atn (by omega) (by omega) (by rw [hI.2 y hy]; exact hQ)
theorem m_gardenOf {a : ud_St} {g : Nat → Nat} {S : Nat} {x : Int32} {Q : Int32 → ud_St → Prop} (hN : mN a g S) (h1 : ∀ z, z < S → gdn g S z = true → x = nI (fb_ct (gdn g S) z) → ∀ a', fr Psc a a' → Q (nI z) a') (h2 : x = -1 → ∀ a', fr Psc a a' → Q (nI (fb_ct (gdn g S) S)) a') (h0 : x ≠ -1 → (∀ z, z < S → gdn g S z = true → x ≠ nI (fb_ct (gdn g S) z)) → ∀ a', fr Psc a a' → Q (-1) a') : w_Model_gardenOf a x Q := by
  obtain ⟨n2, hS, hg, h85⟩ := id hN
  have hN' : ∀ {c}, fr (fun k _ => k = 89) a c → mN c g S := fun h => hN.fr (h.mono (fun k j q => by unfold Pr; omega))
  have hsc : ∀ {c}, fr (fun k _ => k = 89) a c → fr Psc a c := fun h => h.mono (fun k j q => by unfold Psc; omega)
  unfold w_Model_gardenOf w_Model_gardenOf_j2
  refine LW2.up S (fun n y b => y = nI n ∧ fr (fun k _ => k = 89) a b ∧ ∀ z, z < n → b.1 89 z = 0) ⟨rfl, fr.rf, fun z hz => by omega⟩ ?_ ?_
  · rintro n y b hn ⟨rfl, hf, hd⟩ K hK
    simp only [tN_2, (hN' hf).1]
    rw [nI_clamp (by omega)]
    refine ⟨vi_2 (by omega), fun z => absurd z (nI_ge hn (by omega)), fun _ => ⟨vp_in_nI (by omega) (by omega), hK _ _ ⟨nI_1 n, hf.sv rfl, fun z hz => ?_⟩⟩⟩
    rw [us_1]
    by_cases e : z = n
    · rw [if_pos ⟨rfl, e⟩]
    · rw [if_neg (fun w => e w.2)]; exact hd z (by omega)
  rintro y b ⟨rfl, hf, hd⟩ K
  simp only [tN_2, (hN' hf).1]
  refine ⟨vi_2 (by omega), fun _ => ?_, fun z => absurd (nI_le (Nat.le_refl S) (by omega)) z⟩
  unfold w_Model_gardenOf_j27
  refine LW2.up S (fun n y b => y = nI n ∧ fr (fun k _ => k = 89) a b ∧ ∀ z, z < S → ((∃ u, u < n ∧ g u = z) → b.1 89 z = 1) ∧ ((¬ ∃ u, u < n ∧ g u = z) → b.1 89 z = 0)) ⟨rfl, hf, fun z hz => ⟨fun ⟨u, hu, _⟩ => by omega, fun _ => hd z hz⟩⟩ ?_ ?_
  · rintro n y b hn ⟨rfl, hf, hd⟩ K hK
    have hgn := hg n hn
    simp only [tN_2, (hN' hf).1]
    rw [nI_clamp (by omega), (hN' hf).2.2.2 n hn, nI_clamp (by omega)]
    refine ⟨vi_2 (by omega), fun z => absurd z (nI_ge hn (by omega)), fun _ => ⟨vp_in_nI (by omega) (by omega), vp_in_nI (by omega) (by omega), hK _ _ ⟨nI_1 n, hf.sv rfl, fun z hz => ⟨fun hu => ?_, fun hu => ?_⟩⟩⟩⟩
    · rw [us_1]
      by_cases e : z = g n
      · rw [if_pos ⟨rfl, e⟩]
      · rw [if_neg (fun w => e w.2)]
        obtain ⟨u, hu1, hu2⟩ := hu
        have : u ≠ n := fun w => e (by rw [← hu2, w])
        exact (hd z hz).1 ⟨u, by omega, hu2⟩
    · have e : z ≠ g n := fun e => hu ⟨n, by omega, e.symm⟩
      rw [us_1, if_neg (fun w => e w.2)]
      exact (hd z hz).2 (fun ⟨u, hu1, hu2⟩ => hu ⟨u, by omega, hu2⟩)
  rintro y b ⟨rfl, hf, hd⟩ K
  simp only [tN_2, (hN' hf).1]
  refine ⟨vi_2 (by omega), fun _ => ?_, fun z => absurd (nI_le (Nat.le_refl S) (by omega)) z⟩
  have hg1 : ∀ z, z < S → (gdn g S z = true → b.1 89 z = 0) ∧ (gdn g S z = false → b.1 89 z = 1) := fun z hz => by
    unfold gdn
    refine ⟨fun w => (hd z hz).2 (fun ⟨u, hu1, hu2⟩ => pc_0.mp (of_decide_eq_true w) u hu1 hu2), fun w => (hd z hz).1 (Classical.byContradiction fun hno => of_decide_eq_false w (pc_0.mpr (fun u hu e => hno ⟨u, hu, e⟩)))⟩
  unfold w_Model_gardenOf_j59
  simp only [tN_2, (hN' hf).1]
  refine LW2.up S (fun n c y => c = nI (fb_ct (gdn g S) n) ∧ y = nI n ∧ ∀ z, z < n → gdn g S z = true → x ≠ nI (fb_ct (gdn g S) z)) ⟨rfl, rfl, fun z hz => by omega⟩ ?_ ?_
  · rintro n c y hn ⟨rfl, rfl, hz⟩ K hK
    rw [nI_clamp (by omega)]
    refine ⟨vi_2 (by omega), fun z => absurd z (nI_ge hn (by omega)), fun _ => ⟨vp_in_nI (by omega) (by omega), fun w => ?_, fun w => ?_⟩⟩
    · have hf1 : gdn g S n = false := by
        cases e : gdn g S n with
        | false => rfl
        | true => rw [(hg1 n hn).1 e] at w; exact absurd w (by decide)
      refine hK _ _ ⟨?_, nI_1 n, fun z hz2 hz3 => ?_⟩
      · have := ct_n (p := gdn g S) hf1
        rw [← this]; exact (Int32.add_zero _).symm
      · by_cases e : z = n
        · rw [e, hf1] at hz3; cases hz3
        · exact hz z (by omega) hz3
    · have hf1 : gdn g S n = true := by
        cases e : gdn g S n with
        | true => rfl
        | false => exact absurd ((hg1 n hn).2 e) w
      refine ⟨fun w2 => h1 n hn hf1 w2.symm b (hsc hf), fun w2 => hK _ _ ⟨ct_y hf1, nI_1 n, fun z hz2 hz3 => ?_⟩⟩
      by_cases e : z = n
      · rw [e]; exact fun q => w2 q.symm
      · exact hz z (by omega) hz3
  · rintro c y ⟨rfl, rfl, hz⟩ K
    exact ⟨vi_2 (by omega), fun _ => ⟨fun w => h2 w b (hsc hf), fun w => h0 w hz b (hsc hf)⟩, fun z => absurd (nI_le (Nat.le_refl S) (by omega)) z⟩
theorem s_gardens (i : Nat) : us_gardens (J i) (J (i + 1)) := by
  intro N a hJ
  obtain ⟨t, hC, hX⟩ := id hJ
  have hS := tS_le hC.1
  unfold w_UpAndDown_gardens
  refine x_hasTable hC.1 hC.2.1 (fun hp => t1 ?_) (fun hp => t0 ?_)
  · have hg := tg_lt hC.1 hp
    refine x_known hC hX hp (fun a1 hf hR hI hC1 hX1 => ?_)
    unfold w_Paths_countGardens
    rw [hR.1.1]
    refine LW2.up (tS t) (fun n c x => c = nI (fb_ct (gdn (tg t) (tS t)) n) ∧ x = nI n) ⟨rfl, rfl⟩ ?_ ?_
    · rintro n c x hn ⟨rfl, rfl⟩ K hK
      have hpl := pc_le (tg t) n (tS t)
      exact ⟨fun z => absurd z (nI_ge hn (by omega)), fun _ => x_countInto hR.1 hI hn ⟨fun z => hK _ _ ⟨ct_y (decide_eq_true ((nI_eq (b := 0) (by omega) (by omega)).mp z)), nI_1 n⟩, fun z => hK _ _ ⟨ct_n (decide_eq_false (fun w => z (by rw [w]; rfl))), nI_1 n⟩⟩⟩
    · rintro c x ⟨rfl, rfl⟩ K
      refine ⟨fun _ => ?_, fun z => absurd (nI_le (Nat.le_refl _) (by omega)) z⟩
      unfold w_Model_gardens
      have hct := fb_ct_le (gdn (tg t) (tS t))
      refine m_isTable hC1.1 (JC_sc hC1 f0_sc).2.2.1 (fun _ => t1 (mm_lays hC1 hp (fun a2 hf2 hN hF => m_gardenOf hN (fun z hz _ w => ?_) (fun _ a3 hf3 => ⟨rfl, J_mk hC1 hX1 (hf2.tr hf3)⟩) (fun w => absurd rfl w)))) (fun q => by omega)
      exact absurd w.symm (ui_ne1 (by have := hct z; omega))
  · unfold w_Model_gardens
    exact m_isTable hC.1 (JC_sc hC f0_sc).2.2.1 (fun q => by omega) (fun _ => t0 ⟨rfl, J_sc hJ f0_sc⟩)
theorem s_garden (i : Nat) : us_garden (J i) (J (i + 1)) := by
  intro N a x hJ
  obtain ⟨t, hC, hX⟩ := id hJ
  have hS := tS_le hC.1
  unfold w_UpAndDown_garden
  refine x_hasTable hC.1 hC.2.1 (fun hp => t1 ⟨fun hx => ?_, fun hx => ?_⟩) (fun hp => t0 ?_)
  · have hg := tg_lt hC.1 hp
    obtain ⟨j, hj, rfl⟩ := nI_of (x := x) (Int32.not_lt.mpr hx)
    refine x_known hC hX hp (fun a1 hf hR hI hC1 hX1 => ?_)
    have hct := fb_ct_le (gdn (tg t) (tS t))
    have mm : ∀ v, ((∀ z, z < tS t → gdn (tg t) (tS t) z = true → j = fb_ct (gdn (tg t) (tS t)) z → v = nI z) ∧ ((∀ z, z < tS t → gdn (tg t) (tS t) z = true → j ≠ fb_ct (gdn (tg t) (tS t)) z) → v = -1)) → w_Model_garden a1 (nI j) (fun r' a2 => v = r' ∧ J (i + 1) N a2) := fun v hv => by
      unfold w_Model_garden
      refine m_isTable hC1.1 (JC_sc hC1 f0_sc).2.2.1 (fun _ => t1 (mm_lays hC1 hp (fun a2 hf2 hN hF => ⟨fun _ => m_gardenOf hN (fun z hz hz2 w a3 hf3 => ⟨hv.1 z hz hz2 ((nI_eq hj (by have := hct z; omega)).mp w), J_mk hC1 hX1 (hf2.tr hf3)⟩) (fun w => absurd w (ui_ne1 hj)) (fun _ hno a3 hf3 => ⟨hv.2 (fun z hz hz2 e => hno z hz hz2 (by rw [e])), J_mk hC1 hX1 (hf2.tr hf3)⟩), fun w => absurd hx w⟩))) (fun q => by omega)
    unfold w_Paths_gardenAt
    rw [hR.1.1]
    refine LW2.up (tS t) (fun n c x => c = nI (fb_ct (gdn (tg t) (tS t)) n) ∧ x = nI n ∧ ∀ z, z < n → gdn (tg t) (tS t) z = true → j ≠ fb_ct (gdn (tg t) (tS t)) z) ⟨rfl, rfl, fun z hz => by omega⟩ ?_ ?_
    · rintro n c x hn ⟨rfl, rfl, hz⟩ K hK
      have hpl := pc_le (tg t) n (tS t)
      have hcn := hct n
      refine ⟨fun z => absurd z (nI_ge hn (by omega)), fun _ => x_countInto hR.1 hI hn ⟨fun z => ?_, fun z => ?_⟩⟩
      · have hgn : gdn (tg t) (tS t) n = true := decide_eq_true ((nI_eq (b := 0) (by omega) (by omega)).mp z)
        refine ⟨fun w => mm _ ⟨fun z' q1 q2 q3 => ?_, fun hno => ?_⟩, fun w => hK _ _ ⟨ct_y hgn, nI_1 n, fun u hu hu2 => ?_⟩⟩
        · have w' := (nI_eq (by omega) hj).mp w
          rw [fb_ct_kth_one hgn q2 (by omega)]
        · have w' := (nI_eq (by omega) hj).mp w
          exact absurd w'.symm (hno n hn hgn)
        · by_cases e : u = n
          · rw [e]; exact fun q => w (by rw [q])
          · exact hz u (by omega) hu2
      · have hgn : gdn (tg t) (tS t) n = false := decide_eq_false (fun w => z (by rw [w]; rfl))
        refine hK _ _ ⟨?_, nI_1 n, fun u hu hu2 => ?_⟩
        · have := ct_n (p := gdn (tg t) (tS t)) hgn
          rw [← this]; exact (Int32.add_zero _).symm
        · by_cases e : u = n
          · rw [e, hgn] at hu2; cases hu2
          · exact hz u (by omega) hu2
    · rintro c x ⟨rfl, rfl, hz⟩ K
      exact ⟨fun _ => mm _ ⟨fun z q1 q2 q3 => absurd q3 (hz z q1 q2), fun _ => rfl⟩, fun z => absurd (nI_le (Nat.le_refl _) (by omega)) z⟩
  · unfold w_Model_garden
    exact m_isTable hC.1 (JC_sc hC f0_sc).2.2.1 (fun _ => t1 (mm_lays hC hp (fun a2 hf2 _ _ => ⟨fun w => absurd w hx, fun _ => ⟨rfl, J_mk hC hX hf2⟩⟩))) (fun q => by omega)
  · unfold w_Model_garden
    exact m_isTable hC.1 (JC_sc hC f0_sc).2.2.1 (fun q => by omega) (fun _ => t0 ⟨rfl, J_sc hJ f0_sc⟩)
theorem m_fromOf {a : ud_St} {g : Nat → Nat} {S x : Nat} {y : Int32} {Q : Int32 → Prop} (hN : mN a g S) (hx : x < S) (h1 : ∀ z, z < S → g z = x → y = nI (pc g x z) → Q (nI z)) (h2 : y = -1 → Q (nI (pc g x S))) (h0 : y ≠ -1 → (∀ z, z < S → g z = x → y ≠ nI (pc g x z)) → Q (-1)) : w_Model_fromOf a (nI x) y Q := by
  obtain ⟨n2, hS, hg, h85⟩ := id hN
  unfold w_Model_fromOf
  simp only [tN_2, n2]
  refine LW2.up S (fun n c u => c = nI (pc g x n) ∧ u = nI n ∧ ∀ z, z < n → g z = x → y ≠ nI (pc g x z)) ⟨rfl, rfl, fun z hz => by omega⟩ ?_ ?_
  · rintro n c u hn ⟨rfl, rfl, hz⟩ K hK
    have hgn := hg n hn
    rw [nI_clamp (by omega), h85 n hn]
    refine ⟨vi_2 (by omega), fun z => absurd z (nI_ge hn (by omega)), fun _ => ⟨vp_in_nI (by omega) (by omega), fun w => ?_, fun w => ?_⟩⟩
    · have w' := (nI_eq (by omega) (by omega)).mp w
      refine ⟨fun w2 => h1 n hn w' w2.symm, fun w2 => hK _ _ ⟨by rw [pc_s, if_pos w']; exact nI_1 _, nI_1 n, fun z hz2 hz3 => ?_⟩⟩
      by_cases e : z = n
      · rw [e]; exact fun q => w2 q.symm
      · exact hz z (by omega) hz3
    · have w' : g n ≠ x := fun q => w (by rw [q])
      refine hK _ _ ⟨by rw [pc_s, if_neg w', Nat.add_zero], nI_1 n, fun z hz2 hz3 => ?_⟩
      by_cases e : z = n
      · rw [e] at hz3; exact absurd hz3 w'
      · exact hz z (by omega) hz3
  · rintro c u ⟨rfl, rfl, hz⟩ K
    exact ⟨vi_2 (by omega), fun _ => ⟨fun w => h2 w, fun w => h0 w hz⟩, fun z => absurd (nI_le (Nat.le_refl S) (by omega)) z⟩
theorem s_from (i : Nat) : us_from (J i) (J (i + 1)) := by
  intro N a x y hJ
  obtain ⟨t, hC, hX⟩ := id hJ
  have hS := tS_le hC.1
  have c3 := (JC_sc hC f0_sc).2.2.1
  have h2 := J_sc hJ f0_sc
  unfold w_UpAndDown_from
  have l1 : (-1 : Int32).toInt = -1 := by decide
  refine x_isNumber hC.2.1.2.2.1 (by omega) (fun k hk e => t1 ⟨fun w => ?_, fun w => ?_⟩) (fun h => t0 ?_)
  · subst e
    have hp : 0 < tS t := by omega
    have hg := tg_lt hC.1 hp
    refine x_known hC hX hp (fun a1 hf hR hI hC1 hX1 => ?_)
    have hpl := pc_le (tg t) k (tS t)
    have mm : ∀ v, ((∀ z, z < tS t → tg t z = k → y = nI (pc (tg t) k z) → v = nI z) ∧ (y = -1 → v = nI (pc (tg t) k (tS t))) ∧ (y ≠ -1 → (∀ z, z < tS t → tg t z = k → y ≠ nI (pc (tg t) k z)) → v = -1)) → w_Model_from a1 (nI k) y (fun r' a2 => v = r' ∧ J (i + 1) N a2) := fun v hv => by
      unfold w_Model_from
      refine m_isNumber (JC_sc hC1 f0_sc).2.2.1.2.2.2.1 (by omega) (fun _ _ _ => t1 ⟨fun _ => ?_, fun q => absurd w q⟩) (fun h => absurd rfl (h k hk))
      exact mm_lays hC1 hp (fun a2 hf2 hN hF => m_fromOf hN hk (fun z q1 q2 q3 => ⟨hv.1 z q1 q2 q3, J_mk hC1 hX1 hf2⟩) (fun q => ⟨hv.2.1 q, J_mk hC1 hX1 hf2⟩) (fun q1 q2 => ⟨hv.2.2 q1 q2, J_mk hC1 hX1 hf2⟩))
    refine ⟨fun w2 => x_countInto hR.1 hI hk (mm _ ⟨fun z _ _ q => absurd (w2.symm.trans q).symm (ui_ne1 (by have := pc_le (tg t) k z; have := pc_mono (tg t) k (show z ≤ tS t by omega); omega)), fun _ => rfl, fun q => absurd w2 q⟩), fun w2 => x_countInto hR.1 hI hk ⟨fun w3 => mm _ ⟨fun z q1 q2 q3 => ?_, fun q => absurd q w2, fun _ _ => rfl⟩, fun w3 => ?_⟩⟩
    · have a1 := pc_lt (g := tg t) q1
      rw [q2] at a1
      rw [q3] at w3
      have := (nI_leI (by omega) (by omega)).mp w3
      omega
    · have hy0 : ¬ y < 0 := fun q => w2 (by
        have q' := Int32.lt_iff_toInt_lt.mp q
        have w' := Int32.le_iff_toInt_le.mp w
        have l0 : (0 : Int32).toInt = 0 := by decide
        apply Int32.toInt_inj.mp
        omega)
      obtain ⟨j, hj, rfl⟩ := nI_of hy0
      have w3' := (ui_ltn hj (by omega)).mp w3
      obtain ⟨z, hz, hz2, hz3⟩ := fb_ct_kth (p := fun z => decide (tg t z = k)) w3'
      have hz2' : tg t z = k := of_decide_eq_true hz2
      have hz3' : pc (tg t) k z = j := hz3
      rw [← hz3']
      refine x_into hR.1 hI hk hz hz2' ?_
      rw [hz3']
      refine mm _ ⟨fun u q1 q2 q3 => ?_, fun q => absurd q w2, fun _ hno => absurd (by rw [hz3']) (hno z hz hz2')⟩
      have := pc_mono (tg t) k (show u ≤ tS t by omega)
      have e2 : pc (tg t) k u = pc (tg t) k z := by rw [hz3']; exact ((nI_eq hj (by omega)).mp q3).symm
      rw [fb_ct_kth_one (p := fun z => decide (tg t z = k)) (decide_eq_true q2) hz2 e2]
  · unfold w_Model_from
    exact m_isNumber c3.2.2.2.1 (by omega) (fun _ _ _ => t1 ⟨fun q => absurd q w, fun _ => ⟨rfl, h2⟩⟩) (fun _ => t0 ⟨rfl, h2⟩)
  · unfold w_Model_from
    exact m_isNumber c3.2.2.2.1 (by omega) (fun k hk e => absurd e (h k hk)) (fun _ => t0 ⟨rfl, h2⟩)
