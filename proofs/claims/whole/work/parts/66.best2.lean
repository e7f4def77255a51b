/-! best, x's side -/
def Pen (h w k j : Nat) : Prop := (k = 50 ∧ j = w) ∨ (k = 49 ∧ j = 3 * h + w)
theorem x_enter {a : ud_St} {b n m h w k v : Nat} {told : Int32} {T : Nat → Int32} {Q : ud_St → Prop} (hw : w < 3) (hh : h < 2) (hst : stp b n m w k T (a.1 50 w) (a.1 49 (3 * h + w))) (hv : bV (rg b n m k) (b ^ n) w v) (hv2 : v ≤ 10000) (ht : told = T k) (hQ : ∀ a', fr (Pen h w) a a' → stp b n m w (k + 1) T (a'.1 50 w) (a'.1 49 (3 * h + w)) → Q a') : w_Contest_enter a (nI (3 * h)) (nI w) (nI v) told Q := by
  unfold w_Contest_enter
  refine ub_atn (by omega) (by omega) ?_
  refine stp_s hw hst hv hv2 (fun q => hQ a fr.rf q) (fun q => ub_putn (by omega) (by omega) ?_)
  rw [nI_add]
  refine ub_putn (by omega) (by omega) (hQ _ ((fr.rf.sv (Or.inl ⟨rfl, rfl⟩)).sv (Or.inr ⟨rfl, rfl⟩)) ?_)
  rw [us_1, if_neg (by omega), us_1, if_pos ⟨rfl, rfl⟩, us_1, if_pos ⟨rfl, rfl⟩, ht]
  exact q
def Pbe (h k j : Nat) : Prop := (36 ≤ k ∧ k ≤ 44) ∨ (50 ≤ k ∧ k ≤ 53) ∨ (k = 49 ∧ 3 * h ≤ j ∧ j < 3 * h + 3)
theorem x_compete {a : ud_St} {b n m : Nat} {Q : ud_St → Prop} (hF : xF a b n) (hG : xG a b n) (hm : 1 ≤ m) (hm2 : m ≤ 2) (hQ : ∀ a', fr (Pbe (m - 1)) a a' → a'.1 36 9 = 0 → (∀ w, w < 3 → ∃ r, bB b n m w r ∧ a'.1 49 (3 * (m - 1) + w) = nI (bT m r)) → Q a') : w_Contest_compete a (nI m) Q := by
  obtain ⟨f1, f2, f3, hb1, hb2, hn, hn2, hS⟩ := id hF
  have h12 : 12 ^ m ≤ 1728 := p12 (by omega)
  have hp12 : 0 < 12 ^ m := Nat.pow_pos (by omega)
  have e3 : (3 : Int32) * (nI m - 1) = nI (3 * (m - 1)) := by rw [ui_pred (by omega)]; exact ui_mul 3 _
  have main : ∀ b0, fr (Pbe (m - 1)) a b0 → (∀ w, w < 3 → b0.1 50 w = -1) → w_Contest_compete_j43 a (nI m) b0 (nI m) (nI (12 ^ m)) 0 Q := fun b0 hf0 h50 => by
    unfold w_Contest_compete_j43
    refine LW2.up (12 ^ m) (fun k x c => x = nI k ∧ fr (Pbe (m - 1)) a c ∧ (∀ w, w < 3 → stp b n m w k (fun r => nI (bT m r)) (c.1 50 w) (c.1 49 (3 * (m - 1) + w))) ∧ (0 < k → c.1 36 9 = 0)) ⟨rfl, hf0, fun w hw => by rw [h50 w hw]; exact stp_0, fun h => by omega⟩ ?_ ?_
    · rintro k x c hk ⟨rfl, hf, hst, -⟩ K hK
      refine ⟨fun z => absurd z (nI_ge hk (by omega)), fun _ => x_spell (by omega) hk (fun c1 hf1 hW => ?_)⟩
      have hfa1 : fr (Pbe (m - 1)) a c1 := hf.tr (hf1.mono (fun k j q => by unfold Pwc at q; unfold Pbe; omega))
      have hF1 : xF c1 b n := ⟨(hfa1.1 26 0 (by unfold Pbe; omega)).trans hF.1, (hfa1.1 26 1 (by unfold Pbe; omega)).trans hF.2.1, (hfa1.1 26 2 (by unfold Pbe; omega)).trans hF.2.2.1, hF.2.2.2⟩
      have hG1 : xG c1 b n := fun x hx => by
        obtain ⟨g1, g2, g3, g4, g5, g6, g7⟩ := hG x hx
        have e : ∀ k, 26 ≤ k → k ≤ 35 → c1.1 k x = a.1 k x := fun k _ _ => hfa1.1 k x (by unfold Pbe; omega)
        exact ⟨(e _ (by omega) (by omega)).trans g1, (e _ (by omega) (by omega)).trans g2, (e _ (by omega) (by omega)).trans g3, (e _ (by omega) (by omega)).trans g4, (e _ (by omega) (by omega)).trans g5, (e _ (by omega) (by omega)).trans g6, (e _ (by omega) (by omega)).trans g7⟩
      refine x_lay hF1 hG1 hW (by omega) (fun c2 hf2 hR e9 => ?_)
      have hfa2 : fr (Pbe (m - 1)) a c2 := hfa1.tr (hf2.mono (fun k j q => by unfold Pp at q; unfold Pbe; omega))
      have hR' : xR c2 (rg b n m k) (b ^ n) := hR
      obtain ⟨r1, r2, r3, r4, r5, r6, mg, r7, r8, r9⟩ := id hR'
      have hg : ∀ x, x < b ^ n → rg b n m k x < b ^ n := r1.2.2.1
      have hS0 : 0 < b ^ n := Nat.pow_pos (by omega)
      have w52 : ∀ j, j < m → c2.1 52 j = nI (rw12 m k j) := fun j hj => (hf2.1 52 j (by unfold Pp; omega)).trans (hW.2.2 j hj).1
      have st2 : ∀ w, w < 3 → stp b n m w k (fun r => nI (bT m r)) (c2.1 50 w) (c2.1 49 (3 * (m - 1) + w)) := fun w hw => by
        rw [hf2.1 50 w (by unfold Pp; omega), hf1.1 50 w (by unfold Pwc; omega), hf2.1 49 _ (by unfold Pp; omega), hf1.1 49 _ (by unfold Pwc; omega)]
        exact hst w hw
      -- behind the sorts
      have ent : ∀ told, told = nI (bT m k) → w_Contest_compete_j105 a (nI m) c2 (nI m) (nI (12 ^ m)) (nI k) told K Q := fun told ht => by
        unfold w_Contest_compete_j105
        rw [e3]
        have hlong : ∃ z, bH (rg b n m k) (b ^ n) z ∧ c2.1 36 12 = nI (ln (rg b n m k) z) := by
          rcases r6 with ⟨q1, -, -⟩ | ⟨z, q1, q2, q3, q4, q5, q6⟩
          · have := q1 _ (hm_sp hg hS0).2.2
            have h2 := hb_hm hg hS0
            rw [h2] at this; cases this
          · exact ⟨z, ⟨q1, q2, q3, q4⟩, q5⟩
        obtain ⟨z, hz, ez⟩ := hlong
        have hln : ln (rg b n m k) z ≤ 10000 := by
          have : ln (rg b n m k) z ≤ b ^ n := ln_le hg hz.1 (hb_per hg hz.1 hz.2.1); omega
        rw [ez]
        refine x_enter (w := 0) (by omega) (by omega) (st2 0 (by omega)) (bV_0 hz) hln ht (fun d0 g0 s0 => ?_)
        have e10 : d0.1 36 10 = nI (rk (rg b n m k) (b ^ n)) := (g0.1 36 10 (by unfold Pen; omega)).trans r4
        rw [e10]
        have st1 : stp b n m 1 k (fun r => nI (bT m r)) (d0.1 50 1) (d0.1 49 (3 * (m - 1) + 1)) := by
          rw [g0.1 50 1 (by unfold Pen; omega), g0.1 49 _ (by unfold Pen; omega)]; exact st2 1 (by omega)
        refine x_enter (w := 1) (by omega) (by omega) st1 bV_1 (by have := fb_ct_le (hb (rg b n m k)) (b ^ n); unfold rk; omega) ht (fun d1 g1 s1 => ?_)
        have e14 : d1.1 36 14 = nI mg := (g1.1 36 14 (by unfold Pen; omega)).trans ((g0.1 36 14 (by unfold Pen; omega)).trans r7)
        rw [e14]
        have st3 : stp b n m 2 k (fun r => nI (bT m r)) (d1.1 50 2) (d1.1 49 (3 * (m - 1) + 2)) := by
          rw [g1.1 50 2 (by unfold Pen; omega), g1.1 49 _ (by unfold Pen; omega), g0.1 50 2 (by unfold Pen; omega), g0.1 49 _ (by unfold Pen; omega)]; exact st2 2 (by omega)
        have hmg : mg ≤ 10000 := by
          obtain ⟨z, q1, q2⟩ := r9
          have := (tl_sp hg q1).2.2
          omega
        refine x_enter (w := 2) (by omega) (by omega) st3 (bV_2 r8 r9) hmg ht (fun d2 g2 s2 => hK _ _ ⟨nI_1 k, ?_, fun w hw => ?_, fun _ => ?_⟩)
        · have mono : ∀ w, w < 3 → ∀ k j, Pen (m - 1) w k j → Pbe (m - 1) k j := fun w hw k j q => by unfold Pen at q; unfold Pbe; omega
          exact ((hfa2.tr (g0.mono (mono 0 (by omega)))).tr (g1.mono (mono 1 (by omega)))).tr (g2.mono (mono 2 (by omega)))
        · rcases (show w = 0 ∨ w = 1 ∨ w = 2 by omega) with rfl | rfl | rfl
          · rw [g2.1 50 0 (by unfold Pen; omega), g2.1 49 _ (by unfold Pen; omega), g1.1 50 0 (by unfold Pen; omega), g1.1 49 _ (by unfold Pen; omega)]; exact s0
          · rw [g2.1 50 1 (by unfold Pen; omega), g2.1 49 _ (by unfold Pen; omega)]; exact s1
          · exact s2
        · exact (g2.1 36 9 (by unfold Pen; omega)).trans ((g1.1 36 9 (by unfold Pen; omega)).trans ((g0.1 36 9 (by unfold Pen; omega)).trans e9))
      unfold w_Words_sort
      refine ⟨fun z => ?_, fun z => ?_⟩
      · have em := (nI_eq (b := 1) (by omega) (by omega)).mp z
        subst em
        refine ub_atn (j := 0) (by omega) (by omega) (ent _ ?_)
        rw [w52 0 (by omega)]
        unfold rw12 bT
        rw [if_pos rfl]
        simp only [Nat.sub_self, Nat.pow_zero, Nat.div_one]
        rw [Nat.mod_eq_of_lt (by omega)]
      · have em : m = 2 := by
          have : ¬ m = 1 := fun q => z (by rw [q]; rfl)
          omega
        subst em
        refine ub_atn (j := 0) (by omega) (by omega) (ub_atn (j := 1) (by omega) (by omega) (ent _ ?_))
        rw [w52 0 (by omega), w52 1 (by omega), show (100 : Int32) * nI (rw12 2 k 0) = nI (100 * rw12 2 k 0) from ui_mul 100 _, nI_add]
        unfold rw12 bT
        rw [if_neg (by omega)]
        simp only [show 2 - 1 - 0 = 1 from rfl, show 2 - 1 - 1 = 0 from rfl, Nat.pow_zero, Nat.pow_one, Nat.div_one]
        have h144 : k < 144 := hk
        rw [Nat.mod_eq_of_lt (show k / 12 < 12 by omega)]
    · rintro x c ⟨rfl, hf, hst, h9⟩ K
      refine ⟨fun _ => hQ c hf (h9 hp12) (fun w hw => stp_end (hst w hw)), fun z => absurd (nI_le (Nat.le_refl _) (by omega)) z⟩
  unfold w_Contest_compete w_Contest_compete_j3
  refine LW2.up 3 (fun k x c => x = nI k ∧ fr (Pbe (m - 1)) a c ∧ ∀ w, w < k → c.1 50 w = -1) ⟨rfl, fr.rf, fun w hw => by omega⟩ ?_ ?_
  · rintro k x c hk ⟨rfl, hf, h50⟩ K hK
    refine ⟨fun z => absurd z (nI_ge (b := 3) hk (by omega)), fun _ => ub_putn (by omega) (by omega) (hK _ _ ⟨nI_1 k, hf.sv (by unfold Pbe; omega), fun w hw => ?_⟩)⟩
    rw [us_1]
    by_cases e : w = k
    · rw [if_pos ⟨rfl, e⟩]
    · rw [if_neg (fun q => e q.2)]; exact h50 w (by omega)
  · rintro x c ⟨rfl, hf, h50⟩ K
    have mm := main c hf h50
    refine ⟨fun _ => ⟨fun z => ?_, fun z => ?_⟩, fun z => absurd (nI_le (a := 3) (Nat.le_refl _) (by omega)) z⟩
    · have em := (nI_eq (b := 1) (by omega) (by omega)).mp z
      subst em
      exact mm
    · have em : m = 2 := by
        have : ¬ m = 1 := fun q => z (by rw [q]; rfl)
        omega
      subst em
      exact mm
theorem s_best (i : Nat) : us_best (J i) (J (i + 1)) := by
  intro N a x y hJ
  obtain ⟨t, hC, hX⟩ := id hJ
  have hS := tS_le hC.1
  unfold w_UpAndDown_best
  have no : (¬ ∃ m w, 1 ≤ m ∧ m ≤ 2 ∧ w < 3 ∧ 0 < tS t ∧ x = nI m ∧ y = nI w) → w_Model_best a x y (fun r' a2 => (-2 : Int32) = r' ∧ J (i + 1) N a2) := fun h => mm_best hC (fun m w r q1 q2 q3 q4 q5 q6 _ => absurd ⟨m, w, q1, q2, q3, q4, q5, q6⟩ h) (fun _ => ⟨rfl, J_sc hJ f0_sc⟩)
  have no1 : (∀ k, 1 ≤ k → k ≤ 2 → x ≠ nI k) → w_Model_best a x y (fun r' a2 => (-2 : Int32) = r' ∧ J (i + 1) N a2) := fun h => no (fun ⟨m, _, q1, q2, _, _, q3, _⟩ => h m q1 q2 q3)
  have no2 : (∀ k, k < 2 + 1 → y ≠ nI k) → w_Model_best a x y (fun r' a2 => (-2 : Int32) = r' ∧ J (i + 1) N a2) := fun h => no (fun ⟨_, w, _, _, q1, _, _, q2⟩ => h w q1 q2)
  refine x_hasTable hC.1 hC.2.1 (fun hp => t1 (ar_1 2 (by omega) no1 no1 (fun m hm hm2 e => ar_le 2 (by omega) no2 no2 (fun w hw e2 => ?_)))) (fun hp => t0 (no (fun ⟨_, _, _, _, _, q, _⟩ => by omega)))
  subst e e2
  have eS := tS_eq hp
  obtain ⟨f1, f2, f3⟩ := xF_of hC.1 hX.1 hp
  obtain ⟨g1, g2, g3, b1, b2, n1, n2, -⟩ := id f1
  have ans : ∀ c r, bB (t 0 0) (t 0 1) m w r → JC N c t → JX i c t → w_Model_best c (nI m) (nI w) (fun r' a2 => nI (bT m r) = r' ∧ J (i + 1) N a2) := fun c r hr hCc hXc => by
    refine mm_best hCc (fun m' w' r' q1 q2 q3 q4 q5 q6 hr' a3 hf => ⟨?_, J_mk hCc hXc hf⟩) (fun h => absurd ⟨m, w, hm, hm2, by omega, hp, rfl, rfl⟩ h)
    rw [← (nI_eq (by omega) (by omega)).mp q5, ← (nI_eq (by omega) (by omega)).mp q6] at hr'
    rw [← (nI_eq (by omega) (by omega)).mp q5, bB_one (by omega) hr hr']
  have em : nI m - 1 = nI (m - 1) := ui_pred (by omega)
  have e3 : (3 : Int32) * nI (m - 1) = nI (3 * (m - 1)) := ui_mul 3 _
  have new : w_Contest_winner_j37 a (nI m) (nI w) a (nI m) (nI w) (nI (m - 1)) (fun r_3 a_4 => w_Model_best a_4 (nI m) (nI w) (fun r' a2 => r_3 = r' ∧ J (i + 1) N a2)) := by
    unfold w_Contest_winner_j37
    refine x_compete f1 f3 hm hm2 (fun c hf e9 hall => ?_)
    rw [hf.1 26 0 (by unfold Pbe; omega), g1]
    refine ub_putn (by omega) (by omega) ?_
    have e26 : (ud_sv c 54 (m - 1) (nI (t 0 0))).1 26 1 = nI (t 0 1) := by rw [us_1, if_neg (by omega), hf.1 26 1 (by unfold Pbe; omega), g2]
    rw [e26]
    refine ub_putn (by omega) (by omega) ?_
    rw [e3, nI_add]
    refine ub_atn (by omega) (by omega) ?_
    have e49 : ∀ j, (ud_sv (ud_sv c 54 (m - 1) (nI (t 0 0))) 55 (m - 1) (nI (t 0 1))).1 49 j = c.1 49 j := fun j => by rw [us_1, if_neg (by omega), us_1, if_neg (by omega)]
    obtain ⟨r, hr, er⟩ := hall w (by omega)
    rw [e49, er]
    have eo : ∀ k j, ¬ Pbe (m - 1) k j → k ≠ 54 → k ≠ 55 → (ud_sv (ud_sv c 54 (m - 1) (nI (t 0 0))) 55 (m - 1) (nI (t 0 1))).1 k j = a.1 k j := fun k j q q2 q3 => by rw [us_1, if_neg (by omega), us_1, if_neg (by omega)]; exact hf.1 k j q
    refine ans _ r hr (JC_c hC (fun k j q => eo k j (by unfold core at q; unfold Pbe; omega) (by unfold core at q; omega) (by unfold core at q; omega)) hf.2) ⟨figOK_c hX.1 (fun k j _ _ => eo k j (by unfold Pbe; omega) (by omega) (by omega)), Or.inl ?_, crOK_c hX.2.2.1 (Nat.le_refl _) (fun k j _ _ => eo k j (by unfold Pbe; omega) (by omega) (by omega)), fun h hh => ?_⟩
    · rw [us_1, if_neg (by omega), us_1, if_neg (by omega)]; exact e9
    · by_cases eh : h = m - 1
      · subst eh
        refine Or.inr ⟨t 0 0, t 0 1, by omega, by omega, by omega, by rw [us_1, if_neg (by omega), us_1, if_pos ⟨rfl, rfl⟩], by rw [us_1, if_pos ⟨rfl, rfl⟩], fun w' hw' => ?_⟩
        obtain ⟨r', hr', er'⟩ := hall w' hw'
        have e1 : m - 1 + 1 = m := by omega
        exact ⟨r', by rw [e1]; exact hr', by rw [e49, er', e1]⟩
      · have q54 : (ud_sv (ud_sv c 54 (m - 1) (nI (t 0 0))) 55 (m - 1) (nI (t 0 1))).1 54 h = a.1 54 h := by rw [us_1, if_neg (by omega), us_1, if_neg (by omega)]; exact hf.1 54 h (by unfold Pbe; omega)
        have q55 : (ud_sv (ud_sv c 54 (m - 1) (nI (t 0 0))) 55 (m - 1) (nI (t 0 1))).1 55 h = a.1 55 h := by rw [us_1, if_neg (by omega), us_1, if_neg (by omega)]; exact hf.1 55 h (by unfold Pbe; omega)
        rw [q54, q55]
        rcases hX.2.2.2 h hh with q | ⟨b', n', z1, z2, z3, z4, z5, z6⟩
        · exact Or.inl q
        · refine Or.inr ⟨b', n', z1, z2, z3, z4, z5, fun w' hw' => ?_⟩
          obtain ⟨r', hr', er'⟩ := z6 w' hw'
          exact ⟨r', hr', by rw [e49, hf.1 49 _ (by unfold Pbe; omega)]; exact er'⟩
  unfold w_Contest_winner
  rw [em]
  refine ub_atn (by omega) (by omega) ?_
  rw [g1, g2]
  refine ⟨fun z => ub_atn (by omega) (by omega) ⟨fun z2 => ?_, fun _ => new⟩, fun _ => new⟩
  rw [e3, nI_add]
  refine ub_atn (by omega) (by omega) ?_
  rcases hX.2.2.2 (m - 1) (by omega) with q | ⟨b', n', y1, y2, y3, y4, y5, y6⟩
  · rw [q] at z
    have := (nI_eq (a := 0) (by omega) (by omega)).mp z
    omega
  · rw [y4] at z
    rw [y5] at z2
    have eb := (nI_eq (by omega) (by omega)).mp z
    have en := (nI_eq (by omega) (by omega)).mp z2
    subst eb en
    obtain ⟨r, hr, er⟩ := y6 w (by omega)
    have e1 : m - 1 + 1 = m := by omega
    rw [e1] at hr er
    rw [er]
    exact ans a r hr hC hX
