/-! x's Crowd begins; behind -/
theorem x_isOf {a : ud_St} {t : TD} {c x : Nat} {Q : Int32 → Prop} (hF : xF a (t 0 0) (t 0 1)) (hP : xP a (t 0 0) (t 0 1)) (hG : xG a (t 0 0) (t 0 1)) (hx : x < t 0 0 ^ t 0 1) (hc : c < 3) (h45 : a.1 45 3 = nI c) (h1 : cin t c x → Q 1) (h0 : ¬ cin t c x → Q 0) : w_Crowd_isOf a (nI x) Q := by
  obtain ⟨f1, f2, f3, hb, hb2, hn, hn2, hS⟩ := id hF
  have hl : (isr (dl (t 0 0) (t 0 1) x)).length = t 0 1 := by rw [isr_len, dl_len]
  have hd : ∀ d ∈ isr (dl (t 0 0) (t 0 1) x), d < t 0 0 := fun d h => dl_lt (by omega) d (isr_mem.mp h)
  have hUp := fUp_lt (b := t 0 0) (n := t 0 1) (x := x) (by omega)
  have hDn : fDown (t 0 0) (t 0 1) x < t 0 0 ^ t 0 1 := by
    have := tn_lt (b := t 0 0) (by omega) (isr (dl (t 0 0) (t 0 1) x)).reverse (fun d h => hd d (List.mem_reverse.mp h))
    rwa [List.length_reverse, hl] at this
  unfold w_Crowd_isOf
  rw [h45]
  refine ⟨fun z => ?_, fun z => ⟨fun z2 => ?_, fun z2 => h1 (Or.inl ?_)⟩⟩
  · have e : c = 1 := (nI_eq (b := 1) (by omega) (by omega)).mp z
    subst e
    unfold w_Figures_allAlike
    refine ub_atn (by omega) (by omega) (ub_atn (by omega) (by omega) ?_)
    rw [(hG x hx).1, (hG x hx).2.1]
    have al := alike (x := x) (show 0 < t 0 0 by omega) (show 0 < t 0 1 by omega)
    refine ⟨fun q => t1 (h0 (fun w => ?_)), fun q => t0 (h1 (Or.inr (Or.inl ⟨rfl, fun w => q (by rw [al.mpr w])⟩)))⟩
    rcases w with w | w | w | w
    · omega
    · exact w.2 (al.mp ((nI_eq (by omega) (by omega)).mp q))
    · omega
    · omega
  · have e : c = 2 := (nI_eq (b := 2) (by omega) (by omega)).mp z2
    subst e
    unfold w_Figures_allUnlike
    refine x_least hF hG hx ?_
    have fg : ∀ i, i < t 0 1 → ∀ Q : Int32 → Prop, Q (nI (sg (t 0 0) (t 0 1) x i)) → w_Figures_figureOf a (nI (fUp (t 0 0) (t 0 1) x)) (nI i) Q := fun i hi Q hq => x_figureOf hF hP (by omega) hi (by unfold fUp; rw [dg_tn (by omega) hl hd hi]; exact hq)
    have sl : ∀ i, i < t 0 1 → sg (t 0 0) (t 0 1) x i < t 0 0 := fun i hi => hd _ (by unfold sg; rw [gd_at (by omega)]; exact List.getElem_mem _)
    refine LW1.up (t 0 1 - 1) (fun k y => y = nI (k + 1) ∧ ∀ j, 1 ≤ j → j < k + 1 → sg (t 0 0) (t 0 1) x j ≠ sg (t 0 0) (t 0 1) x (j - 1)) ⟨rfl, fun j _ _ => by omega⟩ ?_ ?_
    · rintro k y hk ⟨rfl, hall⟩ K hK
      rw [f2]
      have em : nI (k + 1) - 1 = nI k := by rw [ui_pred (by omega)]; rfl
      rw [em]
      refine ⟨fun q => absurd q (nI_ge (by omega) (by omega)), fun _ => fg k (by omega) _ (fg (k + 1) (by omega) _ ?_)⟩
      have s1 := sl k (by omega)
      have s2 := sl (k + 1) (by omega)
      refine ⟨fun q => t0 (h0 (fun w => ?_)), fun q => hK _ ⟨nI_1 _, fun j hj1 hj2 => ?_⟩⟩
      · rcases w with w | w | w | w
        · omega
        · omega
        · exact w.2 (k + 1) (by omega) (by omega) ((nI_eq (by omega) (by omega)).mp q).symm
        · omega
      · by_cases ej : j = k + 1
        · rw [ej]
          exact fun w => q (by rw [w]; rfl)
        · exact hall j hj1 (by omega)
    · rintro y ⟨rfl, hall⟩ K
      rw [f2]
      exact ⟨fun _ => t1 (h1 (Or.inr (Or.inr (Or.inl ⟨rfl, fun k h1 h2 => hall k h1 (by omega)⟩)))), fun z => absurd (nI_le (by omega) (by omega)) z⟩
  · have : ¬ c = 1 := fun e => z (by rw [e]; rfl)
    have : ¬ c = 2 := fun e => z2 (by rw [e]; rfl)
    omega
/-- marks are bounded -/
def crB (a : ud_St) (mk : Nat) : Prop := a.1 45 2 = nI mk ∧ ∀ x, x < 10000 → ∃ v, v ≤ mk ∧ a.1 47 x = nI v
def Pc2 (k j : Nat) : Prop := Pc1 k j ∨ (k = 45 ∧ j = 3)
theorem x_crBegin {a : ud_St} {t : TD} {c mk : Nat} {Q : ud_St → Prop} (hok : tOK t) (hp : 0 < tS t) (hx : xT a 4 t) (hF : xF a (t 0 0) (t 0 1)) (hP : xP a (t 0 0) (t 0 1)) (hG : xG a (t 0 0) (t 0 1)) (hc : c ≤ 3) (hm : mk + 1000 < 2 ^ 31) (hB : crB a mk) (hQ : ∀ a' L, fr Pc2 a a' → cH a' t c 0 (mk + 1) L → a'.1 45 4 = nI 0 → a'.1 45 3 = nI c → Q a') : w_Crowd_begin a (nI c) Q := by
  have hS := tS_le hok
  have eS := tS_eq hp
  have hb := t3_le hok
  have i0 : ∀ y, y < tS t → (cb t c 0 y ↔ cin t c y) := fun y hy => ⟨fun ⟨x, q1, q2, e⟩ => by rw [← e]; exact q2, fun h => ⟨y, hy, h, rfl⟩⟩
  have ilt : ∀ y, cb t c 0 y → y < tS t := fun y ⟨x, q1, _, e⟩ => by rw [← e]; exact q1
  unfold w_Crowd_begin
  have e2 : (ud_sv (ud_sv (ud_sv (ud_sv a 45 3 (nI c)) 45 4 0) 45 5 0) 45 6 0).1 45 2 = nI mk := by
    rw [us_1, if_neg (by omega), us_1, if_neg (by omega), us_1, if_neg (by omega), us_1, if_neg (by omega)]; exact hB.1
  rw [e2, nI_1]
  generalize hb0 : ud_sv (ud_sv (ud_sv (ud_sv (ud_sv a 45 3 (nI c)) 45 4 0) 45 5 0) 45 6 0) 45 2 (nI (mk + 1)) = b0
  have g : ∀ k j, b0.1 k j = if k = 45 ∧ j = 2 then nI (mk + 1) else if k = 45 ∧ j = 6 then 0 else if k = 45 ∧ j = 5 then 0 else if k = 45 ∧ j = 4 then 0 else if k = 45 ∧ j = 3 then nI c else a.1 k j := fun k j => by rw [← hb0]; rfl
  have hf0 : fr Pc2 a b0 := by
    rw [← hb0]
    exact ((((fr.rf.sv (Or.inr (by omega))).sv (Or.inl (Or.inr (by omega)))).sv (Or.inl (Or.inl (by unfold Pc0; omega)))).sv (Or.inl (Or.inl (by unfold Pc0; omega)))).sv (Or.inl (Or.inl (by unfold Pc0; omega)))
  have g3 : b0.1 45 3 = nI c := by rw [g, if_neg (by omega), if_neg (by omega), if_neg (by omega), if_neg (by omega), if_pos (by omega)]
  have g4 : b0.1 45 4 = nI 0 := by rw [g, if_neg (by omega), if_neg (by omega), if_neg (by omega), if_pos (by omega)]; rfl
  have g6 : b0.1 45 6 = 0 := by rw [g, if_neg (by omega), if_pos (by omega)]
  have gS : crS b0 (tS t) (mk + 1) [] := by
    refine ⟨by rw [g, if_pos (by omega)], by rw [g, if_neg (by omega), if_neg (by omega), if_pos (by omega)]; rfl, List.nodup_nil, fun y hy => (by cases hy), fun k hk => absurd hk (Nat.not_lt_zero k), fun x hx => ?_⟩
    obtain ⟨v, q1, q2⟩ := hB.2 x hx
    refine ⟨v, by omega, ?_, fun _ => ⟨fun w => by omega, fun w => by cases w⟩⟩
    rw [g, if_neg (by omega), if_neg (by omega), if_neg (by omega), if_neg (by omega), if_neg (by omega)]; exact q2
  have fin : ∀ b L, fr (fun k j => k = 46 ∨ k = 47 ∨ (k = 45 ∧ j = 5)) b0 b → crS b (tS t) (mk + 1) L → (∀ y, y ∈ L ↔ cb t c 0 y) → Q b := fun b L hf hc hL => hQ b L (hf0.tr (hf.mono (fun k j q => by unfold Pc2 Pc1 Pc0; omega))) ⟨hc, hL, Or.inl ((hf.1 _ _ (by omega)).trans g6)⟩ ((hf.1 _ _ (by omega)).trans g4) ((hf.1 _ _ (by omega)).trans g3)
  rw [g3]
  refine ⟨fun z => ?_, fun z => ?_⟩
  · have e : c = 3 := (nI_eq (b := 3) (by omega) (by omega)).mp z
    obtain ⟨x1, x2, x3, x4, x5, x6, x7, x8, x9, x10, x11⟩ := id hx
    have hlt : ∀ i, i < t 0 5 → t 7 i < tS t := fun i hi => by
      have hp2 := (tS_pos hok).mp hp
      rw [eS]
      rcases hok with ⟨q, -⟩ | ⟨-, -, -, -, -, -, -, -, -, -, -, -, q⟩
      · omega
      · exact q i hi
    unfold w_Crowd_begin_j41
    refine LW2.up (t 0 5) (fun k x b => x = nI k ∧ fr (fun k j => k = 46 ∨ k = 47 ∨ (k = 45 ∧ j = 5)) b0 b ∧ ∃ L, crS b (tS t) (mk + 1) L ∧ ∀ y, y ∈ L ↔ ∃ i, i < k ∧ t 7 i = y) ⟨rfl, fr.rf, [], gS, fun y => ⟨fun h => (by cases h), fun ⟨i, h, _⟩ => by omega⟩⟩ ?_ ?_
    · rintro k x b hk ⟨rfl, hf, L, hL, hm2⟩ K hK
      have ea : ∀ k j, k ≠ 45 → k ≠ 46 → k ≠ 47 → b.1 k j = a.1 k j := fun k j q1 q2 q3 => (hf.1 k j (by omega)).trans (hf0.1 k j (by unfold Pc2 Pc1 Pc0; omega))
      rw [ea 4 8 (by omega) (by omega) (by omega), x5]
      refine ⟨fun q => absurd q (nI_ge hk (by omega)), fun _ => ub_atn (by omega) (by omega) ?_⟩
      rw [ea 14 k (by omega) (by omega) (by omega), x11 k hk]
      refine x_admit hS (by omega) hL (hlt k hk) (fun b' hf' hc' _ _ => hK _ _ ⟨nI_1 k, hf.tr hf', _, hc', fun y => ?_⟩)
      rw [adm_mem, hm2]
      constructor
      · rintro (⟨i, q, e⟩ | e)
        · exact ⟨i, by omega, e⟩
        · exact ⟨k, by omega, e.symm⟩
      · rintro ⟨i, q, e⟩
        by_cases ei : i = k
        · exact Or.inr (by rw [← e, ei])
        · exact Or.inl ⟨i, by omega, e⟩
    · rintro x b ⟨rfl, hf, L, hL, hm2⟩ K
      have ea : ∀ k j, k ≠ 45 → k ≠ 46 → k ≠ 47 → b.1 k j = a.1 k j := fun k j q1 q2 q3 => (hf.1 k j (by omega)).trans (hf0.1 k j (by unfold Pc2 Pc1 Pc0; omega))
      rw [ea 4 8 (by omega) (by omega) (by omega), x5]
      refine ⟨fun _ => fin b L hf hL (fun y => ?_), fun z => absurd (nI_le (Nat.le_refl _) (by omega)) z⟩
      rw [hm2]
      constructor
      · rintro ⟨i, q, e2⟩
        exact ⟨y, by rw [← e2]; exact hlt i q, Or.inr (Or.inr (Or.inr ⟨e, i, q, e2⟩)), rfl⟩
      · intro h
        rcases (i0 y (ilt y h)).mp h with w | w | w | w
        · omega
        · omega
        · omega
        · exact w.2
  · have e : c < 3 := by
      rcases Nat.lt_or_ge c 3 with w | w
      · exact w
      · exact absurd (by rw [show c = 3 by omega]; rfl) z
    unfold w_Crowd_begin_j73
    refine LW2.up (tS t) (fun k x b => x = nI k ∧ fr (fun k j => k = 46 ∨ k = 47 ∨ (k = 45 ∧ j = 5)) b0 b ∧ ∃ L, crS b (tS t) (mk + 1) L ∧ ∀ y, y ∈ L ↔ y < k ∧ cin t c y) ⟨rfl, fr.rf, [], gS, fun y => ⟨fun h => (by cases h), fun ⟨h, _⟩ => by omega⟩⟩ ?_ ?_
    · rintro k x b hk ⟨rfl, hf, L, hL, hm2⟩ K hK
      have ea : ∀ k j, k ≠ 45 → k ≠ 46 → k ≠ 47 → b.1 k j = a.1 k j := fun k j q1 q2 q3 => (hf.1 k j (by omega)).trans (hf0.1 k j (by unfold Pc2 Pc1 Pc0; omega))
      have hF' : xF b (t 0 0) (t 0 1) := ⟨(ea _ _ (by omega) (by omega) (by omega)).trans hF.1, (ea _ _ (by omega) (by omega) (by omega)).trans hF.2.1, (ea _ _ (by omega) (by omega) (by omega)).trans hF.2.2.1, hF.2.2.2⟩
      have hP' : xP b (t 0 0) (t 0 1) := fun i hi => (ea _ _ (by omega) (by omega) (by omega)).trans (hP i hi)
      have hG' : xG b (t 0 0) (t 0 1) := fun x hx => by
        obtain ⟨g1, g2, g3, g4, g5, g6, g7⟩ := hG x hx
        exact ⟨(ea _ _ (by omega) (by omega) (by omega)).trans g1, (ea _ _ (by omega) (by omega) (by omega)).trans g2, (ea _ _ (by omega) (by omega) (by omega)).trans g3, (ea _ _ (by omega) (by omega) (by omega)).trans g4, (ea _ _ (by omega) (by omega) (by omega)).trans g5, (ea _ _ (by omega) (by omega) (by omega)).trans g6, (ea _ _ (by omega) (by omega) (by omega)).trans g7⟩
      rw [hF'.2.2.1, ← eS]
      refine ⟨fun q => absurd q (nI_ge hk (by omega)), fun _ => x_isOf (c := c) hF' hP' hG' (by omega) e ((hf.1 _ _ (by omega)).trans g3) (fun h => t1 ?_) (fun h => t0 (hK _ _ ⟨nI_1 k, hf, L, hL, fun y => ?_⟩))⟩
      · refine x_admit hS (by omega) hL hk (fun b' hf' hc' _ _ => hK _ _ ⟨nI_1 k, hf.tr hf', _, hc', fun y => ?_⟩)
        rw [adm_mem, hm2]
        constructor
        · rintro (⟨q, w⟩ | e)
          · exact ⟨by omega, w⟩
          · exact ⟨by omega, by rw [e]; exact h⟩
        · rintro ⟨q, w⟩
          by_cases ey : y = k
          · exact Or.inr ey
          · exact Or.inl ⟨by omega, w⟩
      · rw [hm2]
        constructor
        · rintro ⟨q, w⟩; exact ⟨by omega, w⟩
        · rintro ⟨q, w⟩
          by_cases ey : y = k
          · rw [ey] at w; exact absurd w h
          · exact ⟨by omega, w⟩
    · rintro x b ⟨rfl, hf, L, hL, hm2⟩ K
      have e26 : b.1 26 2 = nI (tS t) := by rw [eS]; exact (hf.1 26 2 (by omega)).trans ((hf0.1 26 2 (by unfold Pc2 Pc1 Pc0; omega)).trans hF.2.2.1)
      rw [e26]
      refine ⟨fun _ => fin b L hf hL (fun y => ?_), fun z => absurd (nI_le (Nat.le_refl _) (by omega)) z⟩
      rw [hm2]
      exact ⟨fun ⟨q, w⟩ => (i0 y q).mpr w, fun h => ⟨ilt y h, (i0 y (ilt y h)).mp h⟩⟩
