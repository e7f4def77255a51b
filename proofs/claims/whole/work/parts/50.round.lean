/-! round, on, most, take -/
/-- the most of f over those below n with p -/
def mx (p : Nat → Bool) (f : Nat → Nat) : Nat → Nat
  | 0 => 0
  | n + 1 => if p n then max (mx p f n) (f n) else mx p f n
theorem mx_ge {p : Nat → Bool} {f : Nat → Nat} : ∀ {n u : Nat}, u < n → p u = true → f u ≤ mx p f n
  | 0, _, h, _ => by omega
  | n + 1, u, h, hu => by
    unfold mx
    by_cases e : u = n
    · subst e; rw [if_pos hu]; omega
    · have := mx_ge (p := p) (f := f) (show u < n by omega) hu
      split <;> omega
theorem mx_le {p : Nat → Bool} {f : Nat → Nat} {m : Nat} : ∀ {n : Nat}, (∀ u, u < n → p u = true → f u ≤ m) → mx p f n ≤ m
  | 0, _ => Nat.zero_le _
  | n + 1, h => by
    unfold mx
    have := mx_le (p := p) (f := f) (m := m) (n := n) (fun u hu => h u (by omega))
    by_cases e : p n = true
    · rw [if_pos e]; have := h n (by omega) e; omega
    · rw [if_neg e]; exact this
theorem mx_eq {p : Nat → Bool} {f : Nat → Nat} {n m : Nat} (h1 : ∀ u, u < n → p u = true → f u ≤ m) (h2 : ∃ u, u < n ∧ p u = true ∧ f u = m) : mx p f n = m := by
  obtain ⟨u, hu, hp, e⟩ := h2
  have a1 := mx_ge (f := f) hu hp
  have a2 := mx_le h1
  omega
theorem mx_y {p : Nat → Bool} {f : Nat → Nat} {n : Nat} (h : p n = true) : mx p f (n + 1) = max (mx p f n) (f n) := by
  rw [mx, if_pos h]
theorem mx_n {p : Nat → Bool} {f : Nat → Nat} {n : Nat} (h : p n = false) : mx p f (n + 1) = mx p f n := by
  rw [mx, if_neg (by rw [h]; decide)]
theorem nI_max {a b : Nat} (ha : a < 2 ^ 31) (hb : b < 2 ^ 31) : (if nI a < nI b then nI b else nI a) = nI (max a b) := by
  by_cases w : a < b
  · rw [if_pos (nI_lt w hb), Nat.max_eq_right (by omega)]
  · rw [if_neg (nI_nlt (by omega) ha), Nat.max_eq_left (by omega)]
/-- round j: its least number -/
theorem rk_kth {g : Nat → Nat} {S j : Nat} (hj : j < rk g S) : ∃ h, h < S ∧ hb g h = true ∧ rk g h = j := by
  obtain ⟨h, h1, h2, h3⟩ := fb_ct_kth hj
  exact ⟨h, h1, h2, h3⟩
theorem m_homeOf {a : ud_St} {g : Nat → Nat} {S : Nat} {x : Int32} {Q : Int32 → Prop} (hN : mN a g S) (hR : mR a g S) (h1 : ∀ h, h < S → hb g h = true → x = nI (rk g h) → Q (nI h)) (h0 : (∀ j, j < rk g S → x ≠ nI j) → Q (-1)) : w_Model_homeOf a x Q := by
  obtain ⟨h2, hS, hg, h85⟩ := id hN
  have hrk : rk g S ≤ S := fb_ct_le _ S
  unfold w_Model_homeOf
  simp only [tN_2, h2]
  by_cases hx : x < 0
  · have hno : ∀ j, j < rk g S → x ≠ nI j := fun j hj e => by rw [e] at hx; exact nI_pos (by omega) hx
    refine LW2.up 0 (fun n c y => y = nI 0) rfl (fun k _ _ hk => by omega) ?_
    rintro c y rfl K
    exact ⟨vi_2 (by omega), fun _ => h0 hno, fun _ => ⟨fun _ => h0 hno, fun z => absurd hx z⟩⟩
  obtain ⟨j, hj, rfl⟩ := nI_of hx
  refine LW2.up S (fun n c y => y = nI n ∧ rk g n ≤ j ∧ c = nI (j - rk g n)) ⟨rfl, Nat.zero_le _, rfl⟩ ?_ ?_
  · rintro n c y hn ⟨rfl, hle, rfl⟩ K hK
    refine ⟨vi_2 (by omega), fun z => absurd z (nI_ge hn (by omega)), fun _ => ⟨fun z => absurd z hx, fun _ => m_isHome hN hR hn (fun hbn => t1 ⟨fun z => ?_, fun z => ?_⟩) (fun hbn => t0 (hK _ _ ⟨nI_1 n, ?_, ?_⟩))⟩⟩
    · have z' := (nI_eq (b := 0) (by omega) (by omega)).mp z
      exact h1 n hn hbn (by rw [show j = rk g n by omega])
    · have z' : j - rk g n ≠ 0 := fun w => z (by rw [w]; rfl)
      have e : rk g (n + 1) = rk g n + 1 := by
        unfold rk
        rw [fb_ct_succ, hbn]
        rfl
      refine hK _ _ ⟨nI_1 n, by omega, ?_⟩
      rw [e, ui_m1, ui_pred (by omega), Nat.sub_sub]
    · have e : rk g (n + 1) = rk g n := by
        unfold rk
        rw [fb_ct_succ, hbn]
        rfl
      rw [e]; exact hle
    · have e : rk g (n + 1) = rk g n := by
        unfold rk
        rw [fb_ct_succ, hbn]
        rfl
      rw [e]
  · rintro c y ⟨rfl, hle, rfl⟩ K
    exact ⟨vi_2 (by omega), fun _ => h0 (fun j' hj' e => by
      have := (nI_eq hj (by omega)).mp e
      omega), fun z => absurd (nI_le (Nat.le_refl S) (by omega)) z⟩
/-- what round answers of the round with least number h -/
noncomputable def rndv (g : Nat → Nat) (S h w : Nat) : Nat := if w = 0 then h else if w = 1 then ln g h else if w = 2 then fb_ct (fun z => decide (hm g z = h)) S else mx (fun z => decide (hm g z = h)) (tl g) S
theorem mm_round {N : Nat} {a : ud_St} {x y : Int32} {t : TD} {Q : Int32 → ud_St → Prop} (hC : JC N a t) (h1 : 0 < tS t → ∀ h w, h < tS t → hb (tg t) h = true → w < 4 → x = nI (rk (tg t) h) → y = nI w → ∀ a', fr Psc a a' → Q (nI (rndv (tg t) (tS t) h w)) a') (hn : 0 < tS t → ∀ w, w < 4 → y = nI w → (∀ j, j < rk (tg t) (tS t) → x ≠ nI j) → ∀ a', fr Psc a a' → Q (-1) a') (h0 : (¬ (0 < tS t ∧ ∃ w, w < 4 ∧ y = nI w)) → Q (-2) (a71 a)) : w_Model_round a x y Q := by
  obtain ⟨c1, c2, c3, -⟩ := JC_sc hC f0_sc
  have hS := tS_le c1
  unfold w_Model_round
  refine m_isTable c1 c3 (fun hp => t1 (m_in0 4 (by omega) (by decide) (fun w hw e => t1 ?_) (fun h => t0 (h0 (fun ⟨_, w, q1, q2⟩ => h w q1 q2))))) (fun h => t0 (h0 (fun q => by omega)))
  have hg := tg_lt hC.1 hp
  refine mm_all hC hp (fun a2 hf hN hR hF => m_homeOf hN hR (fun h hh hbh ex => ⟨fun z => absurd z (ui_ne1 (by omega)), fun _ => ?_⟩) (fun hno => ⟨fun _ => hn hp w hw e hno a2 hf, fun z => absurd rfl z⟩))
  have hq := h1 hp h w hh hbh hw ex e a2 hf
  rw [e]
  rcases (show w = 0 ∨ w = 1 ∨ (2 ≤ w ∧ w < 4) by omega) with rfl | rfl | ⟨hw2, hw4⟩
  · exact ⟨fun _ => hq, fun z => absurd rfl z⟩
  · refine ⟨fun z => absurd z (by decide), fun _ => ⟨fun _ => ⟨vp_in_nI (by omega) (by omega), ?_⟩, fun z => absurd rfl z⟩⟩
    rw [nI_clamp (by omega), (hR h hh).2.2.1 (hb_per hg hh hbh)]
    exact hq
  · refine ⟨fun z => absurd z (nI_ne0 (by omega) (by omega)), fun _ => ⟨fun z => absurd ((nI_eq (b := 1) (by omega) (by omega)).mp z) (by omega), fun _ => ?_⟩⟩
    simp only [tN_2, hN.1]
    refine LW3.up (tS t) (fun n c m x => c = nI (fb_ct (fun z => decide (hm (tg t) z = h)) n) ∧ m = nI (mx (fun z => decide (hm (tg t) z = h)) (tl (tg t)) n) ∧ x = nI n) ⟨rfl, rfl, rfl⟩ ?_ ?_
    · rintro n c m x hn' ⟨rfl, rfl, rfl⟩ K hK
      obtain ⟨r1, r2, -⟩ := hR n hn'
      have hmn := (hm_sp hg hn').2.2
      have htn := (tl_sp hg hn').2.2
      have hmx : mx (fun z => decide (hm (tg t) z = h)) (tl (tg t)) n ≤ tS t := mx_le (fun u hu _ => Nat.le_of_lt (tl_sp hg (by omega)).2.2)
      rw [nI_clamp (by omega), r1, r2]
      have hv : vp_in (nI n) 10000 := vp_in_nI (by omega) (by omega)
      refine ⟨vi_2 (by omega), fun z => absurd z (nI_ge hn' (by omega)), fun _ => ⟨hv, fun z => ⟨hv, fun z2 => ?_, fun z2 => ⟨hv, ?_⟩⟩, fun z => ?_⟩⟩
      · have ht := decide_eq_true ((nI_eq (by omega) (by omega)).mp z)
        have z2' := (nI_leI (by omega) (by omega)).mp z2
        refine hK _ _ _ ⟨ct_y (p := fun z => decide (hm (tg t) z = h)) ht, ?_, nI_1 n⟩
        rw [mx_y (p := fun z => decide (hm (tg t) z = h)) ht, Nat.max_eq_left z2']
      · have ht := decide_eq_true ((nI_eq (by omega) (by omega)).mp z)
        have z2' := (ui_ltn (by omega) (by omega)).mp z2
        refine hK _ _ _ ⟨ct_y (p := fun z => decide (hm (tg t) z = h)) ht, ?_, nI_1 n⟩
        rw [mx_y (p := fun z => decide (hm (tg t) z = h)) ht, Nat.max_eq_right (by omega)]
      · have ht : decide (hm (tg t) n = h) = false := decide_eq_false (fun w => z (by rw [w]))
        refine hK _ _ _ ⟨?_, ?_, nI_1 n⟩
        · have := ct_n (p := fun z => decide (hm (tg t) z = h)) ht
          rw [← this]; exact (Int32.add_zero _).symm
        · rw [mx_n (p := fun z => decide (hm (tg t) z = h)) ht]
    · rintro c m x ⟨rfl, rfl, rfl⟩ K
      refine ⟨vi_2 (by omega), fun _ => ⟨fun z => ?_, fun z => ?_⟩, fun z => absurd (nI_le (Nat.le_refl _) (by omega)) z⟩
      · have : w = 2 := (nI_eq (b := 2) (by omega) (by omega)).mp z
        subst this; exact hq
      · have : w = 3 := by
          have : w ≠ 2 := fun q => z (by rw [q]; rfl)
          omega
        subst this; exact hq
theorem x_comersTo {a : ud_St} {g : Nat → Nat} {S h : Nat} {Q : Int32 → Prop} (hR : xR a g S) (hh : h < S) (q : hb g h = true) (hQ : Q (nI (fb_ct (fun z => decide (hm g z = h)) S))) : w_Paths_comersTo a (nI (rk g h)) Q := by
  obtain ⟨h0, hS, hg, h37⟩ := id hR.1
  have hk := rk_S hh q
  unfold w_Paths_comersTo
  rw [h0]
  refine LW2.up S (fun n c x => c = nI (fb_ct (fun z => decide (hm g z = h)) n) ∧ x = nI n) ⟨rfl, rfl⟩ ?_ ?_
  · rintro n c x hn ⟨rfl, rfl⟩ K hK
    have hmn := (hm_sp hg hn).2.2
    have hrn := rk_S hmn (hb_hm hg hn)
    exact ⟨fun z => absurd z (nI_ge hn (by omega)), fun _ => x_homeOf hR hn ⟨fun z => hK _ _ ⟨ct_y (decide_eq_true (rk_inj (hb_hm hg hn) q ((nI_eq (by omega) (by omega)).mp z))), nI_1 n⟩, fun z => hK _ _ ⟨ct_n (decide_eq_false (fun w => z (by rw [w]))), nI_1 n⟩⟩⟩
  · rintro c x ⟨rfl, rfl⟩ K
    exact ⟨fun _ => hQ, fun z => absurd (nI_le (Nat.le_refl S) (by omega)) z⟩
theorem x_mostGoesTo {a : ud_St} {g : Nat → Nat} {S h : Nat} {Q : Int32 → Prop} (hR : xR a g S) (hh : h < S) (q : hb g h = true) (hQ : Q (nI (mx (fun z => decide (hm g z = h)) (tl g) S))) : w_Paths_mostGoesTo a (nI (rk g h)) Q := by
  obtain ⟨h0, hS, hg, h37⟩ := id hR.1
  have hk := rk_S hh q
  unfold w_Paths_mostGoesTo
  rw [h0]
  refine LW2.up S (fun n c x => c = nI (mx (fun z => decide (hm g z = h)) (tl g) n) ∧ x = nI n) ⟨rfl, rfl⟩ ?_ ?_
  · rintro n c x hn ⟨rfl, rfl⟩ K hK
    have hmn := (hm_sp hg hn).2.2
    have hrn := rk_S hmn (hb_hm hg hn)
    have htn := (tl_sp hg hn).2.2
    have hmx : mx (fun z => decide (hm g z = h)) (tl g) n ≤ S := mx_le (fun u hu _ => Nat.le_of_lt (tl_sp hg (by omega)).2.2)
    refine ⟨fun z => absurd z (nI_ge hn (by omega)), fun _ => x_homeOf hR hn ⟨fun z => x_tailOf hR hn ?_, fun z => hK _ _ ⟨?_, nI_1 n⟩⟩⟩
    · rw [nI_max (by omega) (by omega)]
      exact hK _ _ ⟨by rw [mx_y (p := fun z => decide (hm g z = h)) (decide_eq_true (rk_inj (hb_hm hg hn) q ((nI_eq (by omega) (by omega)).mp z)))], nI_1 n⟩
    · rw [mx_n (p := fun z => decide (hm g z = h)) (decide_eq_false (fun w => z (by rw [w])))]
  · rintro c x ⟨rfl, rfl⟩ K
    exact ⟨fun _ => hQ, fun z => absurd (nI_le (Nat.le_refl S) (by omega)) z⟩
theorem s_round (i : Nat) : us_round (J i) (J (i + 1)) := by
  intro N a x y hJ
  obtain ⟨t, hC, hX⟩ := id hJ
  have hS := tS_le hC.1
  unfold w_UpAndDown_round
  have no : (¬ (0 < tS t ∧ ∃ w, w < 4 ∧ y = nI w)) → w_Model_round a x y (fun r' a2 => (-2 : Int32) = r' ∧ J (i + 1) N a2) := fun h => mm_round hC (fun hp _ w _ _ hw _ e => absurd ⟨hp, w, hw, e⟩ h) (fun hp w hw e => absurd ⟨hp, w, hw, e⟩ h) (fun _ => ⟨rfl, J_sc hJ f0_sc⟩)
  refine x_hasTable hC.1 hC.2.1 (fun hp => t1 ?_) (fun hp => t0 (no (fun q => by omega)))
  have no2 : (∀ n, n < 3 + 1 → y ≠ nI n) → w_Model_round a x y (fun r' a2 => (-2 : Int32) = r' ∧ J (i + 1) N a2) := fun h => no (fun ⟨_, n, q1, q2⟩ => h n q1 q2)
  refine ar_le 3 (by omega) no2 no2 (fun w hw e => ?_)
  subst e
  have hg := tg_lt hC.1 hp
  refine x_known hC hX hp (fun a1 hf hR hI hC1 hX1 => ?_)
  have hrk : rk (tg t) (tS t) ≤ tS t := fb_ct_le _ _
  rw [hR.2.2.2.1]
  have no3 : (∀ j, j < rk (tg t) (tS t) → x ≠ nI j) → w_Model_round a1 x (nI w) (fun r' a2 => (-1 : Int32) = r' ∧ J (i + 1) N a2) := fun h => mm_round hC1 (fun _ h' w' q1 q2 q3 q4 _ => absurd q4 (h _ (rk_lt q1 q2))) (fun _ _ _ _ _ a2 hf2 => ⟨rfl, J_mk hC1 hX1 hf2⟩) (fun h => absurd ⟨hp, w, hw, rfl⟩ h)
  refine ar_lt (rk (tg t) (tS t)) (by omega) no3 no3 (fun j hj e => ?_)
  obtain ⟨h, hh, hbh, hk⟩ := rk_kth hj
  subst e
  have fin : ∀ v, v = rndv (tg t) (tS t) h w → w_Model_round a1 (nI j) (nI w) (fun r' a2 => nI v = r' ∧ J (i + 1) N a2) := fun v hv => mm_round hC1 (fun _ h' w' q1 q2 q3 q4 q5 a2 hf2 => ⟨by
    have := rk_S q1 q2
    have e1 : rk (tg t) h = rk (tg t) h' := by rw [hk]; exact (nI_eq (by omega) (by omega)).mp q4
    rw [hv, (nI_eq (by omega) (by omega)).mp q5, rk_inj hbh q2 e1], J_mk hC1 hX1 hf2⟩) (fun _ w' _ _ hno => absurd rfl (hno j hj)) (fun h => absurd ⟨hp, w, hw, rfl⟩ h)
  rw [← hk] at fin ⊢
  rcases (show w = 0 ∨ w = 1 ∨ w = 2 ∨ w = 3 by omega) with rfl | rfl | rfl | rfl
  · exact ⟨fun _ => x_leastOf hR hh hbh (fin _ rfl), fun z => absurd rfl z⟩
  · exact ⟨fun z => absurd z (by decide), fun _ => ⟨fun _ => x_lengthOf hR hh hbh (fin _ rfl), fun z => absurd rfl z⟩⟩
  · exact ⟨fun z => absurd z (by decide), fun _ => ⟨fun z => absurd z (by decide), fun _ => ⟨fun _ => x_comersTo hR hh hbh (fin _ rfl), fun z => absurd rfl z⟩⟩⟩
  · exact ⟨fun z => absurd z (by decide), fun _ => ⟨fun z => absurd z (by decide), fun _ => ⟨fun z => absurd z (by decide), fun _ => x_mostGoesTo hR hh hbh (fin _ rfl)⟩⟩⟩
theorem mm_on {N : Nat} {a : ud_St} {x y : Int32} {t : TD} {Q : Int32 → ud_St → Prop} (hC : JC N a t) (h1 : 0 < tS t → ∀ h k, h < tS t → hb (tg t) h = true → k < ln (tg t) h → x = nI (rk (tg t) h) → y = nI k → ∀ a', fr Psc a a' → Q (nI (itr (tg t) k h)) a') (hn : 0 < tS t → (¬ ∃ h k, h < tS t ∧ hb (tg t) h = true ∧ k < ln (tg t) h ∧ x = nI (rk (tg t) h) ∧ y = nI k) → ∀ a', fr Psc a a' → Q (-1) a') (h0 : tS t = 0 → Q (-2) (a71 a)) : w_Model_on a x y Q := by
  obtain ⟨c1, c2, c3, -⟩ := JC_sc hC f0_sc
  have hS := tS_le c1
  unfold w_Model_on
  refine m_isTable c1 c3 (fun hp => t1 ?_) (fun h => t0 (h0 h))
  have hg := tg_lt hC.1 hp
  refine mm_all hC hp (fun a2 hf hN hR hF => m_homeOf hN hR (fun h hh hbh ex => ⟨fun z => absurd z (ui_ne1 (by omega)), fun _ => ?_⟩) (fun hno => ⟨fun _ => hn hp (fun ⟨h, _, q1, q2, _, q3, _⟩ => hno _ (rk_lt q1 q2) q3) a2 hf, fun z => absurd rfl z⟩))
  have hph := hb_per hg hh hbh
  have hll := ln_le hg hh hph
  refine ⟨vp_in_nI (by omega) (by omega), ?_⟩
  rw [nI_clamp (by omega), (hR h hh).2.2.1 hph]
  refine m_in0 (ln (tg t) h) (by omega) (hi_B (by omega)) (fun k hk e => t1 ?_) (fun hno => t0 (hn hp (fun ⟨h', k, q1, q2, q3, q4, q5⟩ => ?_) a2 hf))
  · rw [e]
    exact m_behind hN hh (by omega) (h1 hp h k hh hbh hk ex e a2 hf)
  · have b1 := rk_S hh hbh
    have b2 := rk_S q1 q2
    have e1 : rk (tg t) h = rk (tg t) h' := (nI_eq (by omega) (by omega)).mp (ex.symm.trans q4)
    rw [← rk_inj hbh q2 e1] at q3
    exact hno k q3 q5
theorem s_on (i : Nat) : us_on (J i) (J (i + 1)) := by
  intro N a x y hJ
  obtain ⟨t, hC, hX⟩ := id hJ
  have hS := tS_le hC.1
  unfold w_UpAndDown_on
  refine x_hasTable hC.1 hC.2.1 (fun hp => t1 ?_) (fun hp => t0 (mm_on hC (fun q => by omega) (fun q => by omega) (fun _ => ⟨rfl, J_sc hJ f0_sc⟩)))
  have hg := tg_lt hC.1 hp
  refine x_known hC hX hp (fun a1 hf hR hI hC1 hX1 => ?_)
  have hrk : rk (tg t) (tS t) ≤ tS t := fb_ct_le _ _
  rw [hR.2.2.2.1]
  have no : (¬ ∃ h k, h < tS t ∧ hb (tg t) h = true ∧ k < ln (tg t) h ∧ x = nI (rk (tg t) h) ∧ y = nI k) → w_Model_on a1 x y (fun r' a2 => (-1 : Int32) = r' ∧ J (i + 1) N a2) := fun hno => mm_on hC1 (fun _ h k q1 q2 q3 q4 q5 => absurd ⟨h, k, q1, q2, q3, q4, q5⟩ hno) (fun _ _ a2 hf2 => ⟨rfl, J_mk hC1 hX1 hf2⟩) (fun q => by omega)
  have no3 : (∀ j, j < rk (tg t) (tS t) → x ≠ nI j) → w_Model_on a1 x y (fun r' a2 => (-1 : Int32) = r' ∧ J (i + 1) N a2) := fun h => no (fun ⟨h', _, q1, q2, _, q3, _⟩ => h _ (rk_lt q1 q2) q3)
  refine ar_ge (by omega) no3 no3 (fun j hj e => ?_)
  obtain ⟨h, hh, hbh, hk⟩ := rk_kth hj
  subst e
  have hph := hb_per hg hh hbh
  have hll := ln_le hg hh hph
  have inj : ∀ h', h' < tS t → hb (tg t) h' = true → nI j = nI (rk (tg t) h') → h' = h := fun h' q1 q2 q3 => by
    have := rk_S q1 q2
    have e1 : rk (tg t) h' = rk (tg t) h := by rw [hk]; exact ((nI_eq (by omega) (by omega)).mp q3).symm
    exact rk_inj q2 hbh e1
  refine ⟨fun z => no (fun ⟨h', k, q1, q2, q3, q4, q5⟩ => ?_), fun z => ?_⟩
  · have := ln_le hg q1 (hb_per hg q1 q2)
    rw [q5] at z; exact nI_pos (by omega) z
  · obtain ⟨k, hk2, rfl⟩ := nI_of z
    rw [← hk]
    refine x_lengthOf hR hh hbh ⟨fun w => x_leastOf hR hh hbh (x_afterGoes hR hh hk2 ?_), fun w => ?_⟩
    · have w' := (nI_ltI hk2 (by omega)).mp w
      refine mm_on hC1 (fun _ h' k' q1 q2 q3 q4 q5 a2 hf2 => ⟨?_, J_mk hC1 hX1 hf2⟩) (fun _ hno => absurd ⟨h, k, hh, hbh, w', rfl, rfl⟩ hno) (fun q => by omega)
      have := ln_le hg q1 (hb_per hg q1 q2)
      rw [hk] at q4
      rw [inj h' q1 q2 q4, (nI_eq (by omega) (by omega)).mp q5]
    · rw [hk]
      refine no (fun ⟨h', k', q1, q2, q3, q4, q5⟩ => w ?_)
      have := ln_le hg q1 (hb_per hg q1 q2)
      have e2 := (nI_eq hk2 (by omega)).mp q5
      rw [inj h' q1 q2 q4] at q3
      rw [e2]
      exact nI_lt q3 (by omega)
theorem m_manyOf {a : ud_St} {g : Nat → Nat} {S n : Nat} {Q : Int32 → Prop} (hN : mN a g S) (hR : mR a g S) (hn : n < 2 ^ 31) (hQ : Q (nI (fb_ct (fun z => decide (tl g z = n)) S))) : w_Model_manyOf a (nI n) Q := by
  obtain ⟨h2, hS, hg, h85⟩ := id hN
  unfold w_Model_manyOf
  simp only [tN_2, h2]
  refine LW2.up S (fun k c x => c = nI (fb_ct (fun z => decide (tl g z = n)) k) ∧ x = nI k) ⟨rfl, rfl⟩ ?_ ?_
  · rintro k c x hk ⟨rfl, rfl⟩ K hK
    have htk := (tl_sp hg hk).2.2
    rw [nI_clamp (by omega), (hR k hk).1]
    exact ⟨vi_2 (by omega), fun z => absurd z (nI_ge hk (by omega)), fun _ => ⟨vp_in_nI (by omega) (by omega), fun z => hK _ _ ⟨ct_y (decide_eq_true ((nI_eq (by omega) hn).mp z)), nI_1 k⟩, fun z => hK _ _ ⟨ct_n (decide_eq_false (fun w => z (by rw [w]))), nI_1 k⟩⟩⟩
  · rintro c x ⟨rfl, rfl⟩ K
    exact ⟨vi_2 (by omega), fun _ => hQ, fun z => absurd (nI_le (Nat.le_refl S) (by omega)) z⟩
theorem x_countTaking {a : ud_St} {g : Nat → Nat} {S n : Nat} {Q : Int32 → Prop} (hR : xR a g S) (hn : n < 2 ^ 31) (hQ : Q (nI (fb_ct (fun z => decide (tl g z = n)) S))) : w_Paths_countTaking a (nI n) Q := by
  obtain ⟨h0, hS, hg, h37⟩ := id hR.1
  unfold w_Paths_countTaking
  rw [h0]
  refine LW2.up S (fun k c x => c = nI (fb_ct (fun z => decide (tl g z = n)) k) ∧ x = nI k) ⟨rfl, rfl⟩ ?_ ?_
  · rintro k c x hk ⟨rfl, rfl⟩ K hK
    have htk := (tl_sp hg hk).2.2
    exact ⟨fun z => absurd z (nI_ge hk (by omega)), fun _ => x_tailOf hR hk ⟨fun z => hK _ _ ⟨ct_y (decide_eq_true ((nI_eq (by omega) hn).mp z)), nI_1 k⟩, fun z => hK _ _ ⟨ct_n (decide_eq_false (fun w => z (by rw [w]))), nI_1 k⟩⟩⟩
  · rintro c x ⟨rfl, rfl⟩ K
    exact ⟨fun _ => hQ, fun z => absurd (nI_le (Nat.le_refl S) (by omega)) z⟩
theorem s_take (i : Nat) : us_take (J i) (J (i + 1)) := by
  intro N a x hJ
  obtain ⟨t, hC, hX⟩ := id hJ
  obtain ⟨c1, c2, c3, -⟩ := JC_sc hC f0_sc
  unfold w_UpAndDown_take
  have h2 := J_sc hJ f0_sc
  refine x_hasTable hC.1 hC.2.1 (fun hp => t1 ⟨fun z => ?_, fun z => ?_⟩) (fun hp => t0 ?_)
  · obtain ⟨n, hn, rfl⟩ := nI_of (x := x) (Int32.not_lt.mpr z)
    refine x_known hC hX hp (fun a1 hf hR hI hC1 hX1 => x_countTaking hR hn ?_)
    unfold w_Model_take
    refine m_isTable c1 (JC_sc hC1 f0_sc).2.2.1 (fun _ => t1 ⟨fun _ => ?_, fun w => absurd z w⟩) (fun q => by omega)
    exact mm_all hC1 hp (fun a2 hf2 hN hR2 hF => m_manyOf hN hR2 hn ⟨rfl, J_mk hC1 hX1 hf2⟩)
  · unfold w_Model_take
    exact m_isTable c1 c3 (fun _ => t1 ⟨fun w => absurd w z, fun _ => ⟨rfl, h2⟩⟩) (fun q => by omega)
  · unfold w_Model_take
    exact m_isTable c1 c3 (fun q => by omega) (fun _ => t0 ⟨rfl, h2⟩)
/-- what most answers: m goes, z the least number that takes so many -/
theorem mm_most {N : Nat} {a : ud_St} {x : Int32} {t : TD} {Q : Int32 → ud_St → Prop} (hC : JC N a t) (h1 : 0 < tS t → ∀ w m z, w < 3 → x = nI w → (∀ u, u < tS t → tl (tg t) u ≤ m) → z < tS t → tl (tg t) z = m → (∀ u, u < z → tl (tg t) u ≠ m) → ∀ a', fr Psc a a' → Q (nI (if w = 0 then m else if w = 1 then z else fb_ct (fun z => decide (tl (tg t) z = m)) (tS t))) a') (h0 : (¬ (0 < tS t ∧ ∃ w, w < 3 ∧ x = nI w)) → Q (-2) (a71 a)) : w_Model_most a x Q := by
  obtain ⟨c1, c2, c3, -⟩ := JC_sc hC f0_sc
  have hS := tS_le c1
  unfold w_Model_most
  refine m_isTable c1 c3 (fun hp => t1 (m_in0 3 (by omega) (by decide) (fun w hw e => t1 ?_) (fun h => t0 (h0 (fun ⟨_, w, q1, q2⟩ => h w q1 q2))))) (fun h => t0 (h0 (fun q => by omega)))
  have hg := tg_lt hC.1 hp
  refine mm_all hC hp (fun a2 hf hN hR hF => ?_)
  have hall : ∀ u, u < tS t → tl (tg t) u ≤ mx (fun _ => true) (tl (tg t)) (tS t) := fun u hu => mx_ge hu rfl
  have hlt : mx (fun _ => true) (tl (tg t)) (tS t) < tS t := by
    have := mx_le (p := fun _ => true) (f := tl (tg t)) (m := tS t - 1) (n := tS t) (fun u hu _ => by have := (tl_sp hg hu).2.2; omega)
    omega
  have hex : ∃ z, z < tS t ∧ tl (tg t) z = mx (fun _ => true) (tl (tg t)) (tS t) := by
    refine Classical.byContradiction fun hno => ?_
    rcases Nat.eq_zero_or_pos (mx (fun _ => true) (tl (tg t)) (tS t)) with w | w
    · have := hall 0 hp
      exact hno ⟨0, hp, by omega⟩
    · have := mx_le (p := fun _ => true) (f := tl (tg t)) (m := mx (fun _ => true) (tl (tg t)) (tS t) - 1) (n := tS t) (fun u hu _ => by
        have a1 := hall u hu
        have a2 : tl (tg t) u ≠ mx (fun _ => true) (tl (tg t)) (tS t) := fun e => hno ⟨u, hu, e⟩
        omega)
      omega
  have hfst := mn_sp (p := fun z => z < tS t ∧ tl (tg t) z = mx (fun _ => true) (tl (tg t)) (tS t)) hex
  obtain ⟨z, hz⟩ : ∃ z, z = mn (fun z => z < tS t ∧ tl (tg t) z = mx (fun _ => true) (tl (tg t)) (tS t)) := ⟨_, rfl⟩
  rw [← hz] at hfst
  have hq := h1 hp w _ z hw e hall hfst.1.1 hfst.1.2 (fun u hu q => hfst.2 u hu ⟨by omega, q⟩) a2 hf
  unfold w_Model_mostTail
  simp only [tN_2, hN.1]
  refine LW2.up (tS t) (fun n c x => c = nI (mx (fun _ => true) (tl (tg t)) n) ∧ x = nI n) ⟨rfl, rfl⟩ ?_ ?_
  · rintro n c x hn ⟨rfl, rfl⟩ K hK
    have htn := (tl_sp hg hn).2.2
    have hmx : mx (fun _ => true) (tl (tg t)) n ≤ tS t := mx_le (fun u hu _ => Nat.le_of_lt (tl_sp hg (by omega)).2.2)
    rw [nI_clamp (by omega), (hR n hn).1]
    have hv : vp_in (nI n) 10000 := vp_in_nI (by omega) (by omega)
    refine ⟨vi_2 (by omega), fun z => absurd z (nI_ge hn (by omega)), fun _ => ⟨hv, fun z => hK _ _ ⟨?_, nI_1 n⟩, fun z => ⟨hv, hK _ _ ⟨?_, nI_1 n⟩⟩⟩⟩
    · have z' := (nI_leI (by omega) (by omega)).mp z
      rw [mx_y (p := fun _ => true) rfl, Nat.max_eq_left z']
    · have z' := (ui_ltn (by omega) (by omega)).mp z
      rw [mx_y (p := fun _ => true) rfl, Nat.max_eq_right (by omega)]
  · rintro c x ⟨rfl, rfl⟩ K
    refine ⟨vi_2 (by omega), fun _ => ?_, fun z => absurd (nI_le (Nat.le_refl _) (by omega)) z⟩
    rw [e]
    rcases (show w = 0 ∨ w = 1 ∨ w = 2 by omega) with rfl | rfl | rfl
    · exact ⟨fun q => absurd q (by decide), fun _ => ⟨fun _ => hq, fun q => absurd rfl q⟩⟩
    · refine ⟨fun _ => ?_, fun q => absurd rfl q⟩
      refine LW1.up z (fun n x => x = nI n) rfl ?_ ?_
      · rintro n x hn rfl K hK
        have hn2 : n < tS t := by have := hfst.1.1; omega
        have htn := (tl_sp hg hn2).2.2
        rw [nI_clamp (by omega), (hR n hn2).1]
        exact ⟨vp_in_nI (by omega) (by omega), fun q => absurd ((nI_eq (by omega) (by omega)).mp q) (fun q => hfst.2 n hn ⟨hn2, q⟩), fun _ => hK _ (nI_1 n)⟩
      · rintro x rfl K
        have hz2 := hfst.1.1
        rw [nI_clamp (by omega), (hR z hz2).1, hfst.1.2]
        exact ⟨vp_in_nI (by omega) (by omega), fun _ => hq, fun q => absurd rfl q⟩
    · exact ⟨fun q => absurd q (by decide), fun _ => ⟨fun q => absurd q (by decide), fun _ => m_manyOf hN hR (by omega) hq⟩⟩
theorem s_most (i : Nat) : us_most (J i) (J (i + 1)) := by
  intro N a x hJ
  obtain ⟨t, hC, hX⟩ := id hJ
  have hS := tS_le hC.1
  unfold w_UpAndDown_most
  have no : (¬ (0 < tS t ∧ ∃ w, w < 3 ∧ x = nI w)) → w_Model_most a x (fun r' a2 => (-2 : Int32) = r' ∧ J (i + 1) N a2) := fun h => mm_most hC (fun hp w _ _ hw e => absurd ⟨hp, w, hw, e⟩ h) (fun _ => ⟨rfl, J_sc hJ f0_sc⟩)
  refine x_hasTable hC.1 hC.2.1 (fun hp => t1 ?_) (fun hp => t0 (no (fun q => by omega)))
  have no2 : (∀ n, n < 2 + 1 → x ≠ nI n) → w_Model_most a x (fun r' a2 => (-2 : Int32) = r' ∧ J (i + 1) N a2) := fun h => no (fun ⟨_, n, q1, q2⟩ => h n q1 q2)
  refine ar_le 2 (by omega) no2 no2 (fun w hw e => ?_)
  subst e
  have hg := tg_lt hC.1 hp
  refine x_known hC hX hp (fun a1 hf hR hI hC1 hX1 => ?_)
  obtain ⟨m, m1, m2, u, u1, u2⟩ := hR.2.2.2.2.2.2
  have hm := (tl_sp hg u1).2.2
  rw [m1]
  have fin : ∀ v, (∀ z, z < tS t → tl (tg t) z = m → (∀ u, u < z → tl (tg t) u ≠ m) → v = (if w = 0 then m else if w = 1 then z else fb_ct (fun z => decide (tl (tg t) z = m)) (tS t))) → w_Model_most a1 (nI w) (fun r' a2 => nI v = r' ∧ J (i + 1) N a2) := fun v hv => mm_most hC1 (fun _ w' m' z' q1 q2 q3 q4 q5 q6 a2 hf2 => ⟨by
    have em : m' = m := by
      have b1 := q3 u u1
      have b2 := m2 z' q4
      omega
    subst em
    rw [hv z' q4 q5 q6, (nI_eq (by omega) (by omega)).mp q2], J_mk hC1 hX1 hf2⟩) (fun h => absurd ⟨hp, w, hw, rfl⟩ h)
  rcases (show w = 0 ∨ w = 1 ∨ w = 2 by omega) with rfl | rfl | rfl
  · exact ⟨fun _ => fin _ (fun _ _ _ _ => rfl), fun z => absurd rfl z⟩
  · refine ⟨fun z => absurd z (by decide), fun _ => ⟨fun _ => ?_, fun z => absurd rfl z⟩⟩
    have hfst := mn_sp (p := fun z => z < tS t ∧ tl (tg t) z = m) ⟨u, u1, u2⟩
    obtain ⟨z, hz⟩ : ∃ z, z = mn (fun z => z < tS t ∧ tl (tg t) z = m) := ⟨_, rfl⟩
    rw [← hz] at hfst
    have hz2 := hfst.1.1
    unfold w_Paths_leastTaking
    rw [hR.1.1]
    refine LW1.up z (fun n x => x = nI n) rfl ?_ ?_
    · rintro n x hn rfl K hK
      have hn2 : n < tS t := by omega
      have htn := (tl_sp hg hn2).2.2
      exact ⟨fun q => absurd q (nI_ge hn2 (by omega)), fun _ => x_tailOf hR hn2 ⟨fun q => absurd ((nI_eq (by omega) (by omega)).mp q) (fun q => hfst.2 n hn ⟨hn2, q⟩), fun _ => hK _ (nI_1 n)⟩⟩
    · rintro x rfl K
      refine ⟨fun q => absurd q (nI_ge hz2 (by omega)), fun _ => x_tailOf hR hz2 ?_⟩
      rw [hfst.1.2]
      refine ⟨fun _ => fin _ (fun z' w1 w2 w3 => ?_), fun q => absurd rfl q⟩
      show z = z'
      rcases Nat.lt_trichotomy z z' with w | w | w
      · exact absurd hfst.1.2 (w3 z w)
      · exact w
      · exact absurd ⟨w1, w2⟩ (hfst.2 z' w)
  · exact ⟨fun z => absurd z (by decide), fun _ => ⟨fun z => absurd z (by decide), fun _ => x_countTaking hR (by omega) (fin _ (fun _ _ _ _ => rfl))⟩⟩
