/-! evening, x's side -/
def Pev (k _j : Nat) : Prop := k = 59 ∨ k = 60
theorem x_draw {a : ud_St} {S s n : Nat} {Q : ud_St → Prop} (hs : s < 2147483648) (hS0 : 0 < S) (hS : S ≤ 10000) (hn : n ≤ 100) (hQ : ∀ a', fr Pev a a' → a'.1 59 1 = nI n → (∀ k, k < n → a'.1 60 k = nI (dr S s k)) → Q a') : w_Evening_draw a (nI s) (nI n) (nI S) Q := by
  have hlc := lc_lt hs
  unfold w_Evening_draw
  refine LW3.up n (fun k v x b => v.toInt = (lc s k : Int) ∧ x = nI k ∧ fr Pev a b ∧ b.1 59 1 = nI n ∧ ∀ j, j < k → b.1 60 j = nI (dr S s j)) ⟨by rw [lI_toInt, nI_toInt (by omega)]; rfl, rfl, fr.rf.sv (by unfold Pev; omega), by rw [us_1, if_pos ⟨rfl, rfl⟩], fun j hj => by omega⟩ ?_ ?_
  · rintro k v x b hk ⟨hv, rfl, hf, h59, h60⟩ K hK
    have e4 := lcg hv (hlc k)
    have hl : lc s (k + 1) / 65536 < 2 ^ 31 := by have := hlc (k + 1); omega
    rw [l_cut (lcd e4) hl]
    refine ⟨fun z => absurd z (nI_ge hk (by omega)), fun _ => ub_over hl hS0 (by omega) (ub_putn (by omega) (by omega) (hK _ _ _ ⟨e4, nI_1 k, hf.sv (by unfold Pev; omega), ?_, fun j hj => ?_⟩))⟩
    · rw [us_1, if_neg (by omega)]; exact h59
    · rw [us_1]
      by_cases e : j = k
      · rw [if_pos ⟨rfl, e⟩, e]; rfl
      · rw [if_neg (fun q => e q.2)]; exact h60 j (by omega)
  · rintro v x b ⟨hv, rfl, hf, h59, h60⟩ K
    exact ⟨fun _ => hQ b hf h59 h60, fun z => absurd (nI_le (Nat.le_refl _) (by omega)) z⟩
theorem x_homeAt {a : ud_St} {g d : Nat → Nat} {S n k : Nat} {Q : Int32 → Prop} (hR : xR a g S) (hd : ∀ k, d k < S) (hn : n ≤ 100) (h60 : ∀ k, k < n → a.1 60 k = nI (d k)) (hk : k < n) (hQ : Q (nI (rk g (hm g (d k))))) : w_Evening_homeAt a (nI k) Q := by
  have := hR.1.2.1
  have := hd k
  unfold w_Evening_homeAt w_Paths_homeOf
  refine ub_atn (by omega) (by omega) ?_
  rw [h60 k hk]
  refine ub_atn (by omega) (by omega) ?_
  rw [(hR.2.1 _ (hd k)).2]
  exact hQ
theorem rk_hm {g d : Nat → Nat} {S j k : Nat} (hg : ∀ x, x < S → g x < S) (hS : S ≤ 10000) (hd : ∀ k, d k < S) : nI (rk g (hm g (d j))) = nI (rk g (hm g (d k))) ↔ hm g (d j) = hm g (d k) := by
  have r1 := rk_S (hm_sp hg (hd j)).2.2 (hb_hm hg (hd j))
  have r2 := rk_S (hm_sp hg (hd k)).2.2 (hb_hm hg (hd k))
  rw [nI_eq (by omega) (by omega)]
  exact ⟨fun e => rk_inj (hb_hm hg (hd j)) (hb_hm hg (hd k)) e, fun e => by rw [e]⟩
theorem s_evening (i : Nat) : us_evening (J i) (J (i + 1)) := by
  intro N a x y z hJ
  obtain ⟨t, hC, hX⟩ := id hJ
  have hS := tS_le hC.1
  unfold w_UpAndDown_evening
  have no : (¬ ∃ s n w, s < 2000000001 ∧ 1 ≤ n ∧ n ≤ 100 ∧ w < 3 ∧ 0 < tS t ∧ x = nI s ∧ y = nI n ∧ z = nI w) → w_Model_evening a x y z (fun r' a2 => (-2 : Int32) = r' ∧ J (i + 1) N a2) := fun h => mm_evening hC (fun s n w q1 q2 q3 q4 q5 q6 q7 q8 => absurd ⟨s, n, w, q1, q2, q3, q4, q5, q6, q7, q8⟩ h) (fun _ => ⟨rfl, J_sc hJ f0_sc⟩)
  have no1 : (∀ k, k < 2000000000 + 1 → x ≠ nI k) → w_Model_evening a x y z (fun r' a2 => (-2 : Int32) = r' ∧ J (i + 1) N a2) := fun h => no (fun ⟨s, _, _, q1, _, _, _, _, q2, _⟩ => h s q1 q2)
  have no2 : (∀ k, 1 ≤ k → k ≤ 100 → y ≠ nI k) → w_Model_evening a x y z (fun r' a2 => (-2 : Int32) = r' ∧ J (i + 1) N a2) := fun h => no (fun ⟨_, n, _, _, q1, q2, _, _, _, q3, _⟩ => h n q1 q2 q3)
  have no3 : (∀ k, k < 2 + 1 → z ≠ nI k) → w_Model_evening a x y z (fun r' a2 => (-2 : Int32) = r' ∧ J (i + 1) N a2) := fun h => no (fun ⟨_, _, w, _, _, _, q1, _, _, _, q2⟩ => h w q1 q2)
  refine x_hasTable hC.1 hC.2.1 (fun hp => t1 (ar_gt 2000000000 (by omega) no1 no1 (fun s hs e => ar_1 100 (by omega) no2 no2 (fun n hn1 hn2 e2 => ar_le 2 (by omega) no3 no3 (fun w hw e3 => ?_))))) (fun hp => t0 (no (fun ⟨_, _, _, _, _, _, _, q, _⟩ => by omega)))
  subst e e2 e3
  refine x_known hC hX hp (fun a1 hf1 hR hI hC1 hX1 => ?_)
  rw [hC1.2.1.2.2.1]
  refine x_draw (by omega) hp hS hn2 (fun a2 hf2 h59 h60 => ?_)
  have hfp : fr Psc a1 a2 := hf2.mono (fun k j q => by unfold Pev at q; unfold Psc; omega)
  have hC2 := JC_sc hC1 hfp
  have hX2 := JX_sc hX1 (Nat.le_refl i) hfp
  have hR2 : xR a2 (tg t) (tS t) := xR_c hR (fun k j _ _ => hf2.1 k j (by unfold Pev; omega))
  have hg := hR2.1.2.2.1
  have hd : ∀ k, dr (tS t) s k < tS t := fun k => Nat.mod_lt _ hp
  have ans : ∀ v, v = nI (evA (tg t) (dr (tS t) s) n w) → w_Model_evening a2 (nI s) (nI n) (nI w) (fun r' a3 => v = r' ∧ J (i + 1) N a3) := fun v ev => by
    refine mm_evening hC2 (fun s' n' w' q1 q2 q3 q4 q5 q6 q7 q8 a3 hf => ⟨?_, J_mk hC2 hX2 hf⟩) (fun h => absurd ⟨s, n, w, by omega, hn1, hn2, by omega, hp, rfl, rfl, rfl⟩ h)
    rw [← (nI_eq (by omega) (by omega)).mp q6, ← (nI_eq (by omega) (by omega)).mp q7, ← (nI_eq (by omega) (by omega)).mp q8]
    exact ev
  have hat : ∀ k, k < n → ∀ Q : Int32 → Prop, Q (nI (rk (tg t) (hm (tg t) (dr (tS t) s k)))) → w_Evening_homeAt a2 (nI k) Q := fun k hk Q hQ => x_homeAt hR2 hd hn2 h60 hk hQ
  refine ⟨fun q => ?_, fun q => ⟨fun q2 => ?_, fun q2 => ?_⟩⟩
  · have ew := (nI_eq (b := 0) (by omega) (by omega)).mp q
    unfold w_Evening_unlikeRounds
    refine LW2.up n (fun k c x => c = nI (fb_ct (pd (ev1 (tg t) (dr (tS t) s))) k) ∧ x = nI k) ⟨rfl, rfl⟩ ?_ ?_
    · rintro k c x hk ⟨rfl, rfl⟩ K hK
      rw [h59]
      refine ⟨fun z => absurd z (nI_ge hk (by omega)), fun _ => ?_⟩
      unfold w_Evening_isFirstHome
      refine LW1.up k (fun j x => x = nI j ∧ ∀ j', j' < j → hm (tg t) (dr (tS t) s j') ≠ hm (tg t) (dr (tS t) s k)) ⟨rfl, fun j' h => by omega⟩ ?_ ?_
      · rintro j x hj ⟨rfl, hno⟩ K2 hK2
        refine ⟨fun z => absurd z (nI_ge hj (by omega)), fun _ => hat j (by omega) _ (hat k hk _ ⟨fun z => t0 (hK _ _ ⟨ct_n (pd_f (fun w => w j hj ((rk_hm hg hS hd).mp z))), nI_1 k⟩), fun z => hK2 _ ⟨nI_1 j, fun j' hj' => ?_⟩⟩)⟩
        by_cases ej : j' = j
        · rw [ej]; exact fun w => z ((rk_hm hg hS hd).mpr w)
        · exact hno j' (by omega)
      · rintro x ⟨rfl, hno⟩ K2
        exact ⟨fun _ => t1 (hK _ _ ⟨ct_y (pd_t.mpr hno), nI_1 k⟩), fun z => absurd (nI_le (Nat.le_refl _) (by omega)) z⟩
    · rintro c x ⟨rfl, rfl⟩ K
      rw [h59]
      exact ⟨fun _ => ans _ (by unfold evA; rw [if_pos ew]), fun z => absurd (nI_le (Nat.le_refl _) (by omega)) z⟩
  · have ew := (nI_eq (b := 1) (by omega) (by omega)).mp q2
    unfold w_Evening_longestWay
    refine LW2.up n (fun k c x => c = nI (mx (fun _ => true) (fun k => tl (tg t) (dr (tS t) s k)) k) ∧ x = nI k) ⟨rfl, rfl⟩ ?_ ?_
    · rintro k c x hk ⟨rfl, rfl⟩ K hK
      rw [h59]
      have htl : ∀ k, tl (tg t) (dr (tS t) s k) < tS t := fun k => (tl_sp hg (hd k)).2.2
      have hmx : mx (fun _ => true) (fun k => tl (tg t) (dr (tS t) s k)) k ≤ tS t := mx_le (fun u _ _ => Nat.le_of_lt (htl u))
      have hdk := hd k
      have htk := htl k
      refine ⟨fun z => absurd z (nI_ge hk (by omega)), fun _ => ub_atn (by omega) (by omega) ?_⟩
      rw [h60 k hk]
      unfold w_Paths_tailOf
      refine ub_atn (by omega) (by omega) ?_
      rw [(hR2.2.1 _ hdk).1]
      dsimp only
      rw [nI_max (by omega) (by omega)]
      exact hK _ _ ⟨by rw [mx_y (p := fun _ => true) rfl], nI_1 k⟩
    · rintro c x ⟨rfl, rfl⟩ K
      rw [h59]
      exact ⟨fun _ => ans _ (by unfold evA; rw [if_neg (by omega), if_pos ew]), fun z => absurd (nI_le (Nat.le_refl _) (by omega)) z⟩
  · have ew0 : ¬ w = 0 := fun e => q (by rw [e]; rfl)
    have ew1 : ¬ w = 1 := fun e => q2 (by rw [e]; rfl)
    unfold w_Evening_withTheFirst
    refine LW2.up n (fun k c x => c = nI (fb_ct (pd (ev3 (tg t) (dr (tS t) s))) k) ∧ x = nI k) ⟨rfl, rfl⟩ ?_ ?_
    · rintro k c x hk ⟨rfl, rfl⟩ K hK
      rw [h59]
      refine ⟨fun z => absurd z (nI_ge hk (by omega)), fun _ => hat k hk _ (hat 0 (by omega) _ ⟨fun z => hK _ _ ⟨ct_y (pd_t.mpr ((rk_hm hg hS hd).mp z)), nI_1 k⟩, fun z => hK _ _ ⟨ct_n (pd_f (fun w => z ((rk_hm hg hS hd).mpr w))), nI_1 k⟩⟩)⟩
    · rintro c x ⟨rfl, rfl⟩ K
      rw [h59]
      exact ⟨fun _ => ans _ (by unfold evA; rw [if_neg ew0, if_neg ew1]), fun z => absurd (nI_le (Nat.le_refl _) (by omega)) z⟩
