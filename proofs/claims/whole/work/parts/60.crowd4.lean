/-! behind, on both sides -/
/-- the crowd that x holds, with its mark -/
def crA (a : ud_St) (t : TD) (mk : Nat) : Prop := crB a mk ∧ (a.1 45 3 = -1 ∨ ∃ c gs L, c ≤ 3 ∧ gs ≤ 200 ∧ a.1 45 3 = nI c ∧ a.1 45 4 = nI gs ∧ cH a t c gs mk L)
theorem crA_of {i : Nat} {a : ud_St} {t : TD} (hok : tOK t) (hg : 0 < tS t) (h : crOK i a t) : ∃ mk, mk ≤ 1000 * i ∧ crA a t mk := by
  obtain ⟨mk, ⟨h1, h2, h3⟩, h4⟩ := h
  refine ⟨mk, h2, ⟨h1, h3⟩, h4.imp_right (fun ⟨c, gs, L, q1, q2, q3, q4, q5, q6, q7, q8, q9, q10⟩ => ⟨c, gs, L, q2, q4, q1, q3, ⟨h1, q7, q5, fun y hy => cb_lt (tg_lt hok hg) ((q6 y).mp hy), q8, fun x hx => ?_⟩, q6, q10⟩)⟩
  obtain ⟨v, w1, w2⟩ := h3 x hx
  by_cases e : v < 2 ^ 31 ∧ mk < 2 ^ 31
  · exact ⟨v, w1, w2, fun hxS => by rw [← q9 x hxS, w2, nI_eq e.1 e.2]⟩
  · by_cases hl : x < tS t
    · by_cases hx' : x ∈ L
      · exact ⟨mk, Nat.le_refl _, (q9 x hl).mpr hx', fun _ => ⟨fun _ => hx', fun _ => rfl⟩⟩
      · refine ⟨v, w1, w2, fun _ => ⟨fun ev => absurd ((q9 x hl).mp (by rw [w2, ev])) hx', fun w => absurd w hx'⟩⟩
    · exact ⟨v, w1, w2, fun w => absurd w hl⟩
theorem crA_to {i mk : Nat} {a : ud_St} {t : TD} (hi : mk ≤ 1000 * i) (hm : mk < 2 ^ 31) (hS : tS t ≤ 10000) (h : crA a t mk) : crOK i a t := by
  obtain ⟨⟨h1, h2⟩, h3⟩ := h
  refine ⟨mk, ⟨h1, hi, h2⟩, h3.imp_right (fun ⟨c, gs, L, q1, q2, q3, q4, ⟨c1, c2, c3, c4, c5, c6⟩, q6, q7⟩ => ⟨c, gs, L, q3, q1, q4, q2, c3, q6, c2, c5, fun x hx => ?_, q7⟩)⟩
  obtain ⟨v, w1, w2, w3⟩ := c6 x (by omega)
  rw [w2, nI_eq (by omega) hm]
  exact w3 hx
theorem crB_of {a : ud_St} {t : TD} {c gs mk : Nat} {L : List Nat} (h : cH a t c gs mk L) : crB a mk := ⟨h.1.1, fun x hx => by
  obtain ⟨v, q1, q2, -⟩ := h.1.2.2.2.2.2 x hx
  exact ⟨v, q1, q2⟩⟩
theorem x_behind {a : ud_St} {t : TD} {c n mk : Nat} {Q : ud_St → Prop} (hok : tOK t) (hp : 0 < tS t) (hx : xT a 4 t) (hF : xF a (t 0 0) (t 0 1)) (hP : xP a (t 0 0) (t 0 1)) (hG : xG a (t 0 0) (t 0 1)) (hN : xN a (tg t) (tS t)) (hc : c ≤ 3) (hn : n ≤ 200) (hm : mk + 2000 < 2 ^ 31) (hA : crA a t mk) (hQ : ∀ a' mk' L, fr Pc2 a a' → mk' ≤ mk + 201 → (∀ gs L0, a.1 45 3 = nI c → a.1 45 4 = nI gs → gs ≤ n → cH a t c gs mk L0 → mk' ≤ mk + (n - gs)) → cH a' t c n mk' L → a'.1 45 4 = nI n → a'.1 45 3 = nI c → Q a') : w_UpAndDown_behind a (nI c) (nI n) Q := by
  have hbeg : (∀ gs L0, a.1 45 3 = nI c → a.1 45 4 = nI gs → gs ≤ n → cH a t c gs mk L0 → False) → w_UpAndDown_behind_j22 a (nI c) (nI n) a (nI c) (nI n) Q := fun hno => by
    unfold w_UpAndDown_behind_j22
    refine x_crBegin hok hp hx hF hP hG hc (by omega) hA.1 (fun a1 L hf hc1 h4 h3 => ?_)
    have hN' := xN_c hN (a' := a1) (fun k j _ _ => hf.1 k j (by unfold Pc2 Pc1 Pc0; omega))
    refine x_goOn hN' (by omega) hc1 h4 (Nat.zero_le _) hn (fun a2 mk' L' hf2 m1 m2 hc2 h42 => hQ a2 mk' L' (hf.tr (hf2.mono (fun k j q => Or.inl q))) (by omega) (fun gs L0 q1 q2 q3 q4 => (hno gs L0 q1 q2 q3 q4).elim) hc2 h42 ((hf2.1 45 3 (by unfold Pc1 Pc0; omega)).trans h3))
  unfold w_UpAndDown_behind
  rcases hA.2 with h | ⟨c0, gs, L, q1, q2, q3, q4, q5⟩
  · rw [h]
    refine ⟨fun z => absurd z.symm (ui_ne1 (by omega)), fun _ => hbeg (fun gs L0 z1 _ _ _ => ?_)⟩
    rw [h] at z1
    exact absurd z1.symm (ui_ne1 (by omega))
  · rw [q3, q4]
    refine ⟨fun z => ⟨fun z2 => ?_, fun z2 => hbeg (fun gs' L0 _ w2 w3 _ => ?_)⟩, fun z => hbeg (fun gs' L0 w1 _ _ _ => z (by rw [← q3]; exact w1))⟩
    · have e := (nI_eq (by omega) (by omega)).mp z
      subst e
      have hle := (nI_leI (by omega) (by omega)).mp z2
      refine x_goOn hN (by omega) q5 q4 hle hn (fun a2 mk' L' hf2 m1 m2 hc2 h42 => hQ a2 mk' L' (hf2.mono (fun k j q => Or.inl q)) (by omega) (fun gs' L0 _ w2 _ _ => ?_) hc2 h42 ((hf2.1 45 3 (by unfold Pc1 Pc0; omega)).trans q3))
      rw [q4] at w2
      rcases Nat.lt_or_ge gs' (2 ^ 31) with w | w
      · have := (nI_eq (by omega) w).mp w2
        omega
      · omega
    · rw [q4] at w2
      have := (nI_eq (by omega) (by omega)).mp w2
      exact z2 (nI_le (by omega) (by omega))
/-- the model's set -/
def mB (a : ud_St) (P : Nat → Prop) (S : Nat) : Prop := ∀ x, x < S → (P x → a.1 90 x = 1) ∧ (¬ P x → a.1 90 x = 0)
theorem mB_1 {a : ud_St} {P : Nat → Prop} {S x : Nat} (h : mB a P S) (hx : x < S) {A B : Prop} (h1 : P x → B) (h0 : ¬ P x → A) : (a.1 90 x = 0 → A) ∧ (¬ a.1 90 x = 0 → B) := by
  by_cases p : P x
  · rw [(h x hx).1 p]; exact t1 (h1 p)
  · rw [(h x hx).2 p]; exact t0 (h0 p)
theorem m_isTold {a : ud_St} {t : TD} {x : Nat} {Q : Int32 → Prop} (hok : tOK t) (hm : mT a 0 t) (hx : x < 2 ^ 31) (h1 : (∃ i, i < t 0 5 ∧ t 7 i = x) → Q 1) (h0 : (¬ ∃ i, i < t 0 5 ∧ t 7 i = x) → Q 0) : w_Model_isTold a (nI x) Q := by
  have hb := t3_le hok
  obtain ⟨m1, m2, m3, m4, m5, m6, m7, m8, m9, m10⟩ := hm
  have e5 : a.1 78 (Int32.toNatClampNeg 5) = nI (t 0 5) := m7
  unfold w_Model_isTold
  refine LW1.up (t 0 5) (fun k y => y = nI k ∧ ∀ i, i < k → t 7 i ≠ x) ⟨rfl, fun i hi => by omega⟩ ?_ ?_
  · rintro k y hk ⟨rfl, hn⟩ K hK
    have e10 := m10 k hk
    simp only [Nat.mul_zero, Nat.zero_add] at e10
    have hl : t 7 k < 2 ^ 31 := by
      rcases hok with ⟨-, -, -, -, -, q⟩ | ⟨-, -, -, -, -, -, q, -, -, -, -, -, q2⟩
      · omega
      · have := q2 k hk; omega
    rw [e5, nI_clamp (by omega), e10]
    refine ⟨vi_5 (by omega), fun z => absurd z (nI_ge hk (by omega)), fun _ => ⟨vp_in_nI (by omega) (by omega), fun z => h1 ⟨k, hk, (nI_eq hl hx).mp z⟩, fun z => hK _ ⟨nI_1 k, fun i hi => ?_⟩⟩⟩
    by_cases e : i = k
    · rw [e]; exact fun w => z (by rw [w])
    · exact hn i (by omega)
  · rintro y ⟨rfl, hn⟩ K
    rw [e5]
    exact ⟨vi_5 (by omega), fun _ => h0 (fun ⟨i, q, e⟩ => hn i q e), fun z => absurd (nI_le (Nat.le_refl _) (by omega)) z⟩
theorem m_isOf {a : ud_St} {t : TD} {c x : Nat} {Q : Int32 → ud_St → Prop} (hok : tOK t) (hm : mT a 0 t) (hp : 0 < tS t) (hc : c ≤ 3) (hx : x < tS t) (h1 : cin t c x → ∀ a', fr Ps a a' → Q 1 a') (h0 : ¬ cin t c x → ∀ a', fr Ps a a' → Q 0 a') : w_Model_isOf a (nI c) (nI x) Q := by
  have hS := tS_le hok
  have hF := mF_of hok hm hp
  obtain ⟨f1, f2, f3, hb, hb2, hn, hn2, hS2⟩ := id hF
  have hl : (isr (dl (t 0 0) (t 0 1) x)).length = t 0 1 := by rw [isr_len, dl_len]
  have hd : ∀ d ∈ isr (dl (t 0 0) (t 0 1) x), d < t 0 0 := fun d h => dl_lt (by omega) d (isr_mem.mp h)
  have sl : ∀ i, i < t 0 1 → sg (t 0 0) (t 0 1) x i < t 0 0 := fun i hi => hd _ (by unfold sg; rw [gd_at (by omega)]; exact List.getElem_mem _)
  unfold w_Model_isOf
  refine ⟨fun z => h1 (Or.inl ((nI_eq (b := 0) (by omega) (by omega)).mp z)) a fr.rf, fun z => ⟨fun z3 => ?_, fun z3 => ?_⟩⟩
  · have e : c = 3 := (nI_eq (b := 3) (by omega) (by omega)).mp z3
    exact m_isTold hok hm (by omega) (fun w => ⟨Or.inr rfl, h1 (Or.inr (Or.inr (Or.inr ⟨e, w⟩))) a fr.rf⟩) (fun w => ⟨Or.inl rfl, h0 (fun q => by
      rcases q with q | q | q | q
      · omega
      · omega
      · omega
      · exact w q.2) a fr.rf⟩)
  · refine m_sorts hF (by omega) (fun a2 hf h83 h84 => ?_)
    have e1 : a2.1 78 (Int32.toNatClampNeg 1) = nI (t 0 1) := (hf.1 78 1 (by unfold Ps; omega)).trans f2
    have s84 : ∀ i, i < t 0 1 → a2.1 84 i = nI (sg (t 0 0) (t 0 1) x i) := h84
    have em : nI (t 0 1) - 1 = nI (t 0 1 - 1) := ui_pred (by omega)
    refine ⟨fun z1 => ?_, fun z1 => ?_⟩
    · have e : c = 1 := (nI_eq (b := 1) (by omega) (by omega)).mp z1
      have e0 : a2.1 84 (Int32.toNatClampNeg 0) = nI (sg (t 0 0) (t 0 1) x 0) := s84 0 (by omega)
      rw [e1, em, nI_clamp (by omega), s84 (t 0 1 - 1) (by omega), e0]
      have s1 := sl 0 (by omega)
      have s2 := sl (t 0 1 - 1) (by omega)
      refine ⟨vi_0 (by omega), vi_1 (by omega), vp_in_nI (by omega) (by omega), fun q => h0 (fun w => ?_) a2 hf, fun q => h1 (Or.inr (Or.inl ⟨e, fun w => q (by rw [w])⟩)) a2 hf⟩
      have q' := (nI_eq (by omega) (by omega)).mp q
      rcases w with w | w | w | w
      · omega
      · exact w.2 q'
      · omega
      · omega
    · have e : c = 2 := by
        have : ¬ c = 0 := fun e => z (by rw [e]; rfl)
        have : ¬ c = 1 := fun e => z1 (by rw [e]; rfl)
        have : ¬ c = 3 := fun e => z3 (by rw [e]; rfl)
        omega
      refine LW1.up (t 0 1 - 1) (fun k y => y = nI (k + 1) ∧ ∀ j, 1 ≤ j → j < k + 1 → sg (t 0 0) (t 0 1) x j ≠ sg (t 0 0) (t 0 1) x (j - 1)) ⟨rfl, fun j _ _ => by omega⟩ ?_ ?_
      · rintro k y hk ⟨rfl, hall⟩ K hK
        have em2 : nI (k + 1) - 1 = nI k := by rw [ui_pred (by omega)]; rfl
        rw [e1, em2, nI_clamp (by omega), nI_clamp (by omega), s84 _ (by omega), s84 _ (by omega)]
        have s1 := sl k (by omega)
        have s2 := sl (k + 1) (by omega)
        refine ⟨vi_1 (by omega), fun q => absurd q (nI_ge (by omega) (by omega)), fun _ => ⟨vp_in_nI (by omega) (by omega), vp_in_nI (by omega) (by omega), fun q => h0 (fun w => ?_) a2 hf, fun q => hK _ ⟨nI_1 _, fun j hj1 hj2 => ?_⟩⟩⟩
        · rcases w with w | w | w | w
          · omega
          · omega
          · have q' := (nI_eq (by omega) (by omega)).mp q
            exact w.2 (k + 1) (by omega) (by omega) q'
          · omega
        · by_cases ej : j = k + 1
          · rw [ej]
            exact fun w => q (by rw [w]; rfl)
          · exact hall j hj1 (by omega)
      · rintro y ⟨rfl, hall⟩ K
        rw [e1]
        exact ⟨vi_1 (by omega), fun _ => h1 (Or.inr (Or.inr (Or.inl ⟨e, fun k h1 h2 => hall k h1 (by omega)⟩))) a2 hf, fun z => absurd (nI_le (by omega) (by omega)) z⟩
def Pb (k j : Nat) : Prop := Ps k j ∨ k = 90 ∨ k = 91
theorem m_crowds {a : ud_St} {t : TD} {c : Nat} {Q : ud_St → Prop} (hok : tOK t) (hm : mT a 0 t) (hp : 0 < tS t) (hc : c ≤ 3) (hQ : ∀ a', fr Pb a a' → mB a' (cb t c 0) (tS t) → Q a') : w_Model_crowds a (nI c) Q := by
  have hS := tS_le hok
  have i0 : ∀ y, y < tS t → (cb t c 0 y ↔ cin t c y) := fun y hy => ⟨fun ⟨x, q1, q2, e⟩ => by rw [← e]; exact q2, fun h => ⟨y, hy, h, rfl⟩⟩
  unfold w_Model_crowds
  refine LW2.up (tS t) (fun k x b => x = nI k ∧ fr Pb a b ∧ mB b (cb t c 0) k) ⟨rfl, fr.rf, fun x hx => by omega⟩ ?_ ?_
  · rintro k x b hk ⟨rfl, hf, hB⟩ K hK
    have hm' : mT b 0 t := mT_c hm (fun k j _ _ => hf.1 k j (by unfold Pb Ps; omega))
    have e2 : b.1 78 (Int32.toNatClampNeg 2) = nI (tS t) := hm'.2.2.2.1
    rw [e2, nI_clamp (by omega)]
    have up : ∀ v b', fr Ps b b' → (cb t c 0 k → v = 1) → (¬ cb t c 0 k → v = 0) → K (nI k + 1) (ud_sv b' 90 k v) := fun v b' hf' v1 v0 => hK _ _ ⟨nI_1 k, (hf.tr (hf'.mono (fun k j q => Or.inl q))).sv (by unfold Pb; omega), fun x hx => by
      rw [us_1]
      by_cases e : x = k
      · rw [if_pos ⟨rfl, e⟩, e]; exact ⟨v1, v0⟩
      · rw [if_neg (fun w => e w.2), hf'.1 90 x (by unfold Ps; omega)]
        exact hB x (by omega)⟩
    refine ⟨vi_2 (by omega), fun z => absurd z (nI_ge hk (by omega)), fun _ => m_isOf hok hm' hp hc hk (fun h b' hf' => ⟨vp_in_nI (by omega) (by omega), up _ b' hf' (fun _ => rfl) (fun w => absurd ((i0 k hk).mpr h) w)⟩) (fun h b' hf' => ⟨vp_in_nI (by omega) (by omega), up _ b' hf' (fun w => absurd ((i0 k hk).mp w) h) (fun _ => rfl)⟩)⟩
  · rintro x b ⟨rfl, hf, hB⟩ K
    have e2 : b.1 78 (Int32.toNatClampNeg 2) = nI (tS t) := (hf.1 78 2 (by unfold Pb Ps; omega)).trans hm.2.2.2.1
    rw [e2]
    exact ⟨vi_2 (by omega), fun _ => hQ b hf hB, fun z => absurd (nI_le (Nat.le_refl _) (by omega)) z⟩
def Pgo (k _j : Nat) : Prop := k = 90 ∨ k = 91
theorem m_goesN {a : ud_St} {g : Nat → Nat} {S : Nat} {P : Nat → Prop} {Q : ud_St → Prop} (hN : mN a g S) (hB : mB a P S) (hQ : ∀ a', fr Pgo a a' → mB a' (fun y => ∃ x, x < S ∧ P x ∧ g x = y) S → Q a') : w_Model_goes a Q := by
  obtain ⟨h78, hS, hg, h85⟩ := hN
  have e2 : ∀ {b}, fr Pgo a b → b.1 78 (Int32.toNatClampNeg 2) = nI S := fun hf => (hf.1 78 2 (by unfold Pgo; omega)).trans h78
  unfold w_Model_goes w_Model_goes_j2
  refine LW2.up S (fun k x b => x = nI k ∧ fr Pgo a b ∧ mB b P S ∧ ∀ y, y < k → b.1 91 y = 0) ⟨rfl, fr.rf, hB, fun y hy => by omega⟩ ?_ ?_
  · rintro k x b hk ⟨rfl, hf, hb, h91⟩ K hK
    rw [e2 hf, nI_clamp (by omega)]
    refine ⟨vi_2 (by omega), fun z => absurd z (nI_ge hk (by omega)), fun _ => ⟨vp_in_nI (by omega) (by omega), hK _ _ ⟨nI_1 k, hf.sv (by unfold Pgo; omega), fun x hx => ?_, fun y hy => ?_⟩⟩⟩
    · rw [us_1, if_neg (by omega)]; exact hb x hx
    · rw [us_1]
      by_cases e : y = k
      · rw [if_pos ⟨rfl, e⟩]; rfl
      · rw [if_neg (fun w => e w.2)]; exact h91 y (by omega)
  · rintro x b ⟨rfl, hf, hb, h91⟩ K
    rw [e2 hf]
    refine ⟨vi_2 (by omega), fun _ => ?_, fun z => absurd (nI_le (Nat.le_refl _) (by omega)) z⟩
    unfold w_Model_goes_j27
    refine LW2.up S (fun k x b => x = nI k ∧ fr Pgo a b ∧ mB b P S ∧ ∀ y, y < S → ((∃ x, x < k ∧ P x ∧ g x = y) → b.1 91 y = 1) ∧ ((¬ ∃ x, x < k ∧ P x ∧ g x = y) → b.1 91 y = 0)) ⟨rfl, hf, hb, fun y hy => ⟨fun ⟨x, q, _⟩ => by omega, fun _ => h91 y hy⟩⟩ ?_ ?_
    · rintro k x b hk ⟨rfl, hf, hb, h91⟩ K hK
      have e85 : b.1 85 k = nI (g k) := (hf.1 85 k (by unfold Pgo; omega)).trans (h85 k hk)
      have hgk := hg k hk
      rw [e2 hf, nI_clamp (by omega), e85, nI_clamp (by omega)]
      refine ⟨vi_2 (by omega), fun z => absurd z (nI_ge hk (by omega)), fun _ => ⟨vp_in_nI (by omega) (by omega), mB_1 hb hk (fun p => ⟨vp_in_nI (by omega) (by omega), vp_in_nI (by omega) (by omega), hK _ _ ⟨nI_1 k, hf.sv (by unfold Pgo; omega), fun x hx => ?_, fun y hy => ?_⟩⟩) (fun p => hK _ _ ⟨nI_1 k, hf, hb, fun y hy => ?_⟩)⟩⟩
      · rw [us_1, if_neg (by omega)]; exact hb x hx
      · rw [us_1]
        by_cases e : y = g k
        · rw [if_pos ⟨rfl, e⟩]
          exact ⟨fun _ => rfl, fun w => absurd ⟨k, by omega, p, e.symm⟩ w⟩
        · rw [if_neg (fun w => e w.2)]
          refine ⟨fun ⟨x, q1, q2, q3⟩ => (h91 y hy).1 ⟨x, ?_, q2, q3⟩, fun w => (h91 y hy).2 (fun ⟨x, q1, q2, q3⟩ => w ⟨x, by omega, q2, q3⟩)⟩
          by_cases ex : x = k
          · rw [ex] at q3; exact absurd q3.symm e
          · omega
      · refine ⟨fun ⟨x, q1, q2, q3⟩ => (h91 y hy).1 ⟨x, ?_, q2, q3⟩, fun w => (h91 y hy).2 (fun ⟨x, q1, q2, q3⟩ => w ⟨x, by omega, q2, q3⟩)⟩
        by_cases ex : x = k
        · rw [ex] at q2; exact absurd q2 p
        · omega
    · rintro x b ⟨rfl, hf, hb, h91⟩ K
      rw [e2 hf]
      refine ⟨vi_2 (by omega), fun _ => ?_, fun z => absurd (nI_le (Nat.le_refl _) (by omega)) z⟩
      unfold w_Model_goes_j66
      refine LW2.up S (fun k x d => x = nI k ∧ fr Pgo b d ∧ (∀ y, d.1 91 y = b.1 91 y) ∧ mB d (fun y => ∃ x, x < S ∧ P x ∧ g x = y) k) ⟨rfl, fr.rf, fun _ => rfl, fun x hx => by omega⟩ ?_ ?_
      · rintro k x d hk ⟨rfl, hfd, hd91, hdB⟩ K hK
        rw [e2 (hf.tr hfd), nI_clamp (by omega), hd91]
        refine ⟨vi_2 (by omega), fun z => absurd z (nI_ge hk (by omega)), fun _ => ⟨vp_in_nI (by omega) (by omega), vp_in_nI (by omega) (by omega), hK _ _ ⟨nI_1 k, hfd.sv (by unfold Pgo; omega), fun y => ?_, fun x hx => ?_⟩⟩⟩
        · rw [us_1, if_neg (by omega)]; exact hd91 y
        · rw [us_1]
          by_cases e : x = k
          · rw [if_pos ⟨rfl, e⟩, e]
            exact ⟨fun p => by rw [(h91 k hk).1 p]; rfl, fun p => by rw [(h91 k hk).2 p]; rfl⟩
          · rw [if_neg (fun w => e w.2)]; exact hdB x (by omega)
      · rintro x d ⟨rfl, hfd, hd91, hdB⟩ K
        rw [e2 (hf.tr hfd)]
        exact ⟨vi_2 (by omega), fun _ => hQ d (hf.tr hfd) hdB, fun z => absurd (nI_le (Nat.le_refl _) (by omega)) z⟩
theorem mB_s {a : ud_St} {t : TD} {c n S : Nat} (hg : ∀ x, x < tS t → tg t x < tS t) (hS : S = tS t) (h : mB a (fun y => ∃ x, x < S ∧ cb t c n x ∧ tg t x = y) S) : mB a (cb t c (n + 1)) S := fun x hx => by
  have e : cb t c (n + 1) x ↔ ∃ z, z < S ∧ cb t c n z ∧ tg t z = x := by
    rw [cb_s]
    exact ⟨fun ⟨z, q, e⟩ => ⟨z, by rw [hS]; exact cb_lt hg q, q, e⟩, fun ⟨z, _, q, e⟩ => ⟨z, q, e⟩⟩
  exact ⟨fun p => (h x hx).1 (e.mp p), fun p => (h x hx).2 (fun q => p (e.mpr q))⟩
theorem m_behindN {N : Nat} {a : ud_St} {t : TD} {c n : Nat} {Q : ud_St → Prop} (hC : JC N a t) (hp : 0 < tS t) (hc : c ≤ 3) (hn : n ≤ 200) (hQ : ∀ a', fr Psc a a' → mN a' (tg t) (tS t) → mB a' (cb t c n) (tS t) → Q a') : w_Model_crowdsBehind (a71 a) (nI c) (nI n) Q := by
  unfold w_Model_crowdsBehind
  refine mm_lays hC hp (fun a1 hf1 hN1 _ => ?_)
  have hC1 := JC_sc hC hf1
  refine m_crowds hC.1 hC1.2.2.1 hp hc (fun a2 hf2 hB2 => ?_)
  have pb : ∀ k j, Pb k j → Psc k j := fun k j q => by unfold Pb Ps at q; unfold Psc; omega
  have hN2 : mN a2 (tg t) (tS t) := ⟨(hf2.1 78 2 (by unfold Pb Ps; omega)).trans hN1.1, hN1.2.1, hN1.2.2.1, fun x hx => (hf2.1 85 x (by unfold Pb Ps; omega)).trans (hN1.2.2.2 x hx)⟩
  refine LW2.up n (fun k x b => x = nI k ∧ fr Psc a b ∧ mN b (tg t) (tS t) ∧ mB b (cb t c k) (tS t)) ⟨rfl, hf1.tr (hf2.mono pb), hN2, hB2⟩ ?_ ?_
  · rintro k x b hk ⟨rfl, hf, hN, hB⟩ K hK
    refine ⟨fun z => absurd z (nI_ge hk (by omega)), fun _ => m_goesN hN hB (fun b' hf' hB' => hK _ _ ⟨nI_1 k, hf.tr (hf'.mono (fun k j q => by unfold Pgo at q; unfold Psc; omega)), ⟨(hf'.1 78 2 (by unfold Pgo; omega)).trans hN.1, hN.2.1, hN.2.2.1, fun x hx => (hf'.1 85 x (by unfold Pgo; omega)).trans (hN.2.2.2 x hx)⟩, mB_s hN.2.2.1 rfl hB'⟩)⟩
  · rintro x b ⟨rfl, hf, hN, hB⟩ K
    exact ⟨fun _ => hQ b hf hN hB, fun z => absurd (nI_le (Nat.le_refl _) (by omega)) z⟩
