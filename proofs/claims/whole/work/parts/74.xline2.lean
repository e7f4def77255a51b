/-! table: x's slip, base and all lines -/
/-- the slip's word is in, what is meant is not yet -/
theorem pX_s {a : ud_St} {t : TD} {s v s2 v2 : Nat} (h : pX a t) : ∀ b, (∀ k j, b.1 k j = if k = 22 ∧ j = 2 then nI (t 0 4 + 1) else if k = 24 ∧ j = t 0 4 then nI v2 else if k = 23 ∧ j = t 0 4 then nI s2 else if k = 19 ∧ j = 2 then nI (t 0 4 + 1) else if k = 21 ∧ j = t 0 4 then nI v else if k = 20 ∧ j = t 0 4 then nI s else a.1 k j) → pX b (tsl t s v s2 v2) := by
  intro b hb
  obtain ⟨h1, h2, h3, h4, h5, h6, h7, h8, h9, h10, h11⟩ := h
  have o : ∀ k j, ¬ (19 ≤ k ∧ k ≤ 24) → b.1 k j = a.1 k j := fun k j q => by rw [hb, if_neg (by omega), if_neg (by omega), if_neg (by omega), if_neg (by omega), if_neg (by omega), if_neg (by omega)]
  refine ⟨(o _ _ (by omega)).trans h1, (o _ _ (by omega)).trans h2, (o _ _ (by omega)).trans h3, (o _ _ (by omega)).trans h4, (o _ _ (by omega)).trans h5, (o _ _ (by omega)).trans h6, ?_, ?_, fun i hi => ?_, fun i hi => ?_, fun i hi => (o _ _ (by omega)).trans (h11 i hi)⟩
  · rw [hb, if_neg (by omega), if_neg (by omega), if_neg (by omega), if_pos ⟨rfl, rfl⟩]; rfl
  · rw [hb, if_pos ⟨rfl, rfl⟩]; rfl
  · exact ⟨(o _ _ (by omega)).trans (h9 i hi).1, (o _ _ (by omega)).trans (h9 i hi).2⟩
  · have hi' : i < t 0 4 + 1 := hi
    rw [hb, hb, hb, hb]
    by_cases e : i = t 0 4
    · subst e
      simp [tsl]
    · have := h10 i (by omega)
      simp [tsl, e, this]
theorem x_readSlip {a0 a : ud_St} {f : Nat → Nat} {c : Nat} {R : TK} {t : TD} {Q : Int32 → ud_St → Prop} (h : xat a0 a f c R) (hp : pX a t) (hk : kOK t) (h1 : ∀ R' t', lnS f c R t = .ok (R', t') → ∀ a', xln a0 a' f c R R' t t' → Q 1 a') (h0 : ∀ e, lnS f c R t = .error e → ∀ a', xbad a0 a' e → Q 0 a') : w_Reader_readSlip a Q := by
  have ho := h.2.2.2.1
  obtain ⟨k1, k2, k3, k4, k5, k6, k7, -⟩ := id hk
  unfold lnS at h1 h0
  unfold w_Reader_readSlip
  rw [hp.2.2.2.2.2.2.1]
  refine ⟨fun z => ?_, fun z => ?_⟩
  · have h6 := (nI_ltI (b := 6) (by omega) (by omega)).mp z
    rw [if_pos h6] at h1 h0
    refine x_adv h (fun a1 hf1 hx1 => ?_)
    have hp1 : pX a1 t := pX_c hp (fun k j _ _ => hf1.1 k j (by unfold Pad; omega))
    have hle0 := (tok_ok (f := f) ho.2.2.1).1
    have hle1 := (tok_ok (f := f) ho.2.2.1).2.1
    refine x_readWord hx1 hp1.1 (by omega) k2 (fun s v R1 e hle hwk a2 hf2 e4 e5 hx2 => t1 ?_) (fun e he a2 hx2 => t0 ?_)
    · rw [e] at h1 h0
      dsimp only at h1 h0
      have hp2 : pX a2 t := pX_c hp1 (fun k j _ _ => hf2.1 k j (by unfold Ptk; omega))
      rw [e4, e5]
      refine x_wadd (m := t 0 4) hp2.2.2.2.2.2.2.1 (by omega) ?_
      have hx3 := xat_sv (k := 19) (j := 2) (v := nI (t 0 4 + 1)) (xat_sv (k := 19 + 2) (j := t 0 4) (v := nI v) (xat_sv (k := 19 + 1) (j := t 0 4) (v := nI s) hx2 (by omega)) (by omega)) (by omega)
      obtain ⟨b3, hb3⟩ : ∃ b3, b3 = ud_sv (ud_sv (ud_sv a2 (19 + 1) (t 0 4) (nI s)) (19 + 2) (t 0 4) (nI v)) 19 2 (nI (t 0 4 + 1)) := ⟨_, rfl⟩
      rw [← hb3] at hx3 ⊢
      have ho3 := hx3.2.2.2.1
      refine x_readText hx3 (by omega) (fun R2 e2 hle2 a4 hf4 hx4 => t1 ?_) (fun e he a4 hx4 => t0 ?_)
      · rw [e2] at h1 h0
        dsimp only at h1 h0
        have e15 : a4.1 15 0 = nI (t 0 0) := by rw [hf4.1 15 0 (by unfold Ptk; omega), hb3, us_1, if_neg (by omega), us_1, if_neg (by omega), us_1, if_neg (by omega)]; exact hp2.1
        have ho4 := hx4.2.2.2.1
        refine x_readWord hx4 e15 (by omega) k2 (fun s2 v2 R3 e3 hle3 hwk2 a5 hf5 e45 e55 hx5 => t1 ?_) (fun e he a5 hx5 => t0 ?_)
        · rw [e3] at h1
          dsimp only at h1
          have ec5 : ∀ k j, 15 ≤ k → k ≤ 25 → a5.1 k j = b3.1 k j := fun k j q1 q2 => (hf5.1 k j (by unfold Ptk; omega)).trans (hf4.1 k j (by unfold Ptk; omega))
          have e22 : a5.1 22 2 = nI (t 0 4) := by rw [ec5 _ _ (by omega) (by omega), hb3, us_1, if_neg (by omega), us_1, if_neg (by omega), us_1, if_neg (by omega)]; exact hp2.2.2.2.2.2.2.2.1
          rw [e45, e55]
          refine x_wadd (m := t 0 4) e22 (by omega) ?_
          have o1 := ho3.2.1
          have o2 := ho4.2.1
          refine h1 _ _ rfl _ ⟨by omega, xat_sv (xat_sv (xat_sv hx5 (by omega)) (by omega)) (by omega), ?_, kOK_s hk h6 hwk hwk2, rfl⟩
          have base := pX_s (s := s) (v := v) (s2 := s2) (v2 := v2) hp2 (fun k j => if k = 22 ∧ j = 2 then nI (t 0 4 + 1) else if k = 24 ∧ j = t 0 4 then nI v2 else if k = 23 ∧ j = t 0 4 then nI s2 else if k = 19 ∧ j = 2 then nI (t 0 4 + 1) else if k = 21 ∧ j = t 0 4 then nI v else if k = 20 ∧ j = t 0 4 then nI s else a2.1 k j, a2.2) (fun k j => rfl)
          refine pX_c base (fun k j q1 q2 => ?_)
          rw [us_1, us_1, us_1, ec5 k j q1 q2, hb3, us_1, us_1, us_1]
        · rw [he] at h0
          exact h0 _ rfl a5 hx5
      · rw [he] at h0
        exact h0 _ rfl a4 hx4
    · rw [he] at h0
      exact h0 _ rfl a2 hx2
  · rw [if_neg (fun e => z (nI_lt (b := 6) e (by omega)))] at h0
    exact x_wrong (s := 3) h (fun a' hx => ⟨Or.inl rfl, h0 _ rfl a' hx⟩)
theorem bo_sp (b : Nat) : bo b ≤ 8 ∧ (∀ L, L < bo b → b ^ (L + 1) ≤ 10000) ∧ (bo b < 8 → 10000 < b ^ (bo b + 1)) := by
  obtain ⟨q1, q2, q3, q4⟩ := run_sp (fun L => decide (b ^ (L + 1) ≤ 10000)) 8 0
  have e : bo b = run (fun L => decide (b ^ (L + 1) ≤ 10000)) 8 0 := rfl
  rw [← e] at q1 q2 q3 q4
  refine ⟨q2, fun L hL => of_decide_eq_true (q3 L (Nat.zero_le _) hL), fun h => ?_⟩
  have := of_decide_eq_false (q4 (by omega))
  omega
theorem x_longest {a : ud_St} {b : Nat} {Q : Int32 → Prop} (hb : 2 ≤ b) (hb2 : b ≤ 16) (hQ : Q (nI (bo b))) : w_Reader_longest a (nI b) Q := by
  obtain ⟨q1, q2, q3⟩ := bo_sp b
  unfold w_Reader_longest
  have bd : ∀ L, L ≤ bo b → b ^ (L + 1) ≤ 160000 := fun L hL => by
    cases L with
    | zero => simp; omega
    | succ L =>
      have := q2 L (by omega)
      rw [Nat.pow_succ]
      calc b ^ (L + 1) * b ≤ 10000 * 16 := Nat.mul_le_mul this hb2
        _ = 160000 := rfl
  refine LW2.up (bo b) (fun L m s => m = nI L ∧ s = nI (b ^ (L + 1))) ⟨rfl, by rw [Nat.pow_one]⟩ ?_ ?_
  · rintro L m s hL ⟨rfl, rfl⟩ K hK
    have h1 := q2 L hL
    refine ⟨fun z => absurd ((nI_leI (a := 8) (by omega) (by omega)).mp z) (by omega), fun _ => ⟨fun z => absurd ((nI_ltI (a := 10000) (by omega) (by omega)).mp z) (by omega), fun _ => hK _ _ ⟨nI_1 L, ?_⟩⟩⟩
    rw [ui_mul, Nat.pow_succ b (L + 1)]
  · rintro m s ⟨rfl, rfl⟩ K
    have hb3 := bd (bo b) (Nat.le_refl _)
    refine ⟨fun _ => hQ, fun z => ⟨fun _ => hQ, fun z2 => ?_⟩⟩
    have h8 : bo b < 8 := by
      rcases Nat.lt_or_ge (bo b) 8 with w | w
      · exact w
      · exact absurd (nI_le (a := 8) w (by omega)) z
    exact absurd (nI_lt (a := 10000) (q3 h8) (by omega)) z2
theorem bo_1 {b n : Nat} (hb : 2 ≤ b) (h1 : 1 ≤ n) (h : n ≤ bo b) : b ^ n ≤ 10000 := by
  have := (bo_sp b).2.1 (n - 1) (by omega)
  rwa [show n - 1 + 1 = n by omega] at this
def t00 : TD := fun _ _ => 0
theorem kOK_b {b n : Nat} (h1 : 2 ≤ b) (h2 : b ≤ 16) (h3 : 1 ≤ n) (h4 : n ≤ 8) (h5 : b ^ n ≤ 10000) : kOK (tb t00 b n) := ⟨h1, h2, h3, h4, h5, Nat.zero_le _, Nat.zero_le _, Nat.zero_le _, fun i hi => absurd hi (Nat.not_lt_zero i), fun i hi => absurd hi (Nat.not_lt_zero i), fun i hi => absurd hi (Nat.not_lt_zero i)⟩
theorem x_readBase {a0 a : ud_St} {f : Nat → Nat} {c : Nat} {R : TK} {Q : Int32 → ud_St → Prop} (h : xat a0 a f c R) (hp : pX a t00) (h1 : ∀ R' t', lnB f c R t00 = .ok (R', t') → ∀ a', xln a0 a' f c R R' t00 t' → Q 1 a') (h0 : ∀ e, lnB f c R t00 = .error e → ∀ a', xbad a0 a' e → Q 0 a') : w_Reader_readBase a Q := by
  have ho := h.2.2.2.1
  unfold lnB at h1 h0
  unfold w_Reader_readBase
  refine x_readText h (by omega) (fun R1 e1 hle1 a1 hf1 hx1 => t1 ?_) (fun e he a1 hx1 => t0 (by rw [he] at h0; exact h0 _ rfl a1 hx1))
  rw [e1] at h1 h0
  dsimp only at h1 h0
  refine x_readText hx1 (by omega) (fun R2 e2 hle2 a2 hf2 hx2 => t1 ?_) (fun e he a2 hx2 => t0 (by rw [he] at h0; exact h0 _ rfl a2 hx2))
  rw [e2] at h1 h0
  dsimp only at h1 h0
  refine x_readBetween (lo := 2) (hi := 16) hx2 (by omega) (by omega) (fun b R3 e3 hle3 b1 b2 a3 hf3 _ e53 hx3 => t1 ?_) (fun e he a3 hx3 => t0 (by rw [he] at h0; exact h0 _ rfl a3 hx3))
  rw [e3] at h1 h0
  dsimp only at h1 h0
  rw [e53]
  have hx4 := xat_sv (k := 15) (j := 0) (v := nI b) hx3 (Or.inr (by omega))
  refine x_readText hx4 (by omega) (fun R4 e4 hle4 a4 hf4 hx4 => t1 ?_) (fun e he a4 hx4 => t0 (by rw [he] at h0; exact h0 _ rfl a4 hx4))
  rw [e4] at h1 h0
  dsimp only at h1 h0
  have e15 : a4.1 15 0 = nI b := by rw [hf4.1 15 0 (by unfold Ptk; omega), us_1, if_pos ⟨rfl, rfl⟩]
  rw [e15]
  have hbo := bo_sp b
  refine x_longest b1 b2 (x_readBetween (lo := 1) (hi := bo b) hx4 (by omega) (by omega) (fun n R5 e5 hle5 n1 n2 a5 hf5 _ e55 hx5 => t1 ?_) (fun e he a5 hx5 => t0 (by rw [he] at h0; exact h0 _ rfl a5 hx5)))
  rw [e5] at h1
  dsimp only at h1
  have o1 := hx1.2.2.2.1.2.1
  have o2 := hx2.2.2.2.1.2.1
  have o3 := hx3.2.2.2.1.2.1
  have o4 := hx4.2.2.2.1.2.1
  have hS := bo_1 b1 n1 n2
  rw [e55]
  have ec : ∀ k j, 15 ≤ k → k ≤ 25 → ¬ (k = 15 ∧ j = 0) → a5.1 k j = a.1 k j := fun k j q1 q2 q3 => by
    rw [hf5.1 k j (by unfold Ptk; omega), hf4.1 k j (by unfold Ptk; omega), us_1, if_neg q3, hf3.1 k j (by unfold Ptk; omega), hf2.1 k j (by unfold Ptk; omega), hf1.1 k j (by unfold Ptk; omega)]
  have e50 : a5.1 15 0 = nI b := by rw [hf5.1 15 0 (by unfold Ptk; omega)]; exact e15
  refine LW2.up n (fun i x d => x = nI i ∧ xat a0 d f c R5 ∧ d.1 15 2 = nI (b ^ i) ∧ d.1 15 1 = nI n ∧ d.1 15 0 = nI b ∧ ∀ k j, 15 ≤ k → k ≤ 25 → ¬ (k = 15 ∧ j ≤ 2) → d.1 k j = a.1 k j) ⟨rfl, xat_sv (xat_sv hx5 (Or.inr (by omega))) (Or.inr (by omega)), by rw [us_1, if_pos ⟨rfl, rfl⟩]; rfl, by rw [us_1, if_neg (by omega), us_1, if_pos ⟨rfl, rfl⟩], by rw [us_1, if_neg (by omega), us_1, if_neg (by omega)]; exact e50, fun k j q1 q2 q3 => by rw [us_1, if_neg (by omega), us_1, if_neg (by omega)]; exact ec k j q1 q2 (by omega)⟩ ?_ ?_
  · rintro i x d hi ⟨rfl, hxd, d2, d1, d0, de⟩ K hK
    rw [d1, d2, d0, ui_mul]
    refine ⟨fun z => absurd z (nI_ge hi (by omega)), fun _ => hK _ _ ⟨nI_1 i, xat_sv hxd (Or.inr (by omega)), by rw [us_1, if_pos ⟨rfl, rfl⟩, Nat.pow_succ], by rw [us_1, if_neg (by omega)]; exact d1, by rw [us_1, if_neg (by omega)]; exact d0, fun k j q1 q2 q3 => by rw [us_1, if_neg (by omega)]; exact de k j q1 q2 q3⟩⟩
  · rintro x d ⟨rfl, hxd, d2, d1, d0, de⟩ K
    rw [d1]
    refine ⟨fun _ => h1 _ _ rfl d ⟨by omega, hxd, ?_, kOK_b b1 b2 n1 (by omega) hS, rfl⟩, fun z => absurd (nI_le (Nat.le_refl _) (by omega)) z⟩
    obtain ⟨p1, p2, p3, p4, p5, p6, p7, p8, p9, p10, p11⟩ := hp
    refine ⟨d0, d1, ?_, (de _ _ (by omega) (by omega) (by omega)).trans p4, (de _ _ (by omega) (by omega) (by omega)).trans p5, (de _ _ (by omega) (by omega) (by omega)).trans p6, (de _ _ (by omega) (by omega) (by omega)).trans p7, (de _ _ (by omega) (by omega) (by omega)).trans p8, fun i hi => absurd hi (Nat.not_lt_zero i), fun i hi => absurd hi (Nat.not_lt_zero i), fun i hi => absurd hi (Nat.not_lt_zero i)⟩
    rw [d2]
    have : sz (tb t00 b n) = b ^ n := by
      show (if n = 0 then 0 else b ^ n) = b ^ n
      rw [if_neg (by omega)]
    rw [this]
/-- between the lines -/
def lOK (t : TD) : Prop := t = t00 ∨ (kOK t ∧ 1 ≤ t 0 2)
theorem x_readLine {a0 a : ud_St} {f : Nat → Nat} {c : Nat} {R : TK} {t : TD} {Q : Int32 → ud_St → Prop} (h : xat a0 a f c R) (hp : pX a t) (hk : lOK t) (h8 : t 0 2 ≤ 800) (h1 : ∀ R' t', lnA f c R t = .ok (R', t') → ∀ a', xln a0 a' f c R R' t t' → Q 1 a') (h0 : ∀ e, lnA f c R t = .error e → ∀ a', xbad a0 a' e → Q 0 a') : w_Reader_readLine a Q := by
  have ho := h.2.2.2.1
  unfold lnA at h1 h0
  unfold w_Reader_readLine
  rw [hp.2.2.2.1]
  refine ⟨fun z => ?_, fun z => ?_⟩
  · have e := (nI_eq (b := 0) (by omega) (by omega)).mp z
    rw [if_pos e] at h1 h0
    rcases hk with w | w
    · subst w
      exact x_readBase h hp (fun R' t' e a' hx => ⟨Or.inr rfl, h1 R' t' e a' hx⟩) (fun e he a' hx => ⟨Or.inl rfl, h0 e he a' hx⟩)
    · omega
  · have e : ¬ t 0 2 = 0 := fun e => z (by rw [e]; rfl)
    rw [if_neg e] at h1 h0
    have hkk : kOK t := by
      rcases hk with w | w
      · subst w; exact absurd rfl e
      · exact w.1
    refine x_isText h.2.1 h.2.2.1 ho.2.1 ho.2.2.1 ho.2.2.2.1 (by omega) (fun w => t1 ?_) (fun w => t0 ?_)
    · rw [if_pos w] at h1 h0
      exact x_readDoing h hp hkk (fun R' t' e a' hx => ⟨Or.inr rfl, h1 R' t' e a' hx⟩) (fun e he a' hx => ⟨Or.inl rfl, h0 e he a' hx⟩)
    · rw [if_neg (by rw [w]; decide)] at h1 h0
      refine x_isText h.2.1 h.2.2.1 ho.2.1 ho.2.2.1 ho.2.2.2.1 (by omega) (fun w => t1 ?_) (fun w => t0 ?_)
      · rw [if_pos w] at h1 h0
        exact x_readTold h hp hkk (fun R' t' e a' hx => ⟨Or.inr rfl, h1 R' t' e a' hx⟩) (fun e he a' hx => ⟨Or.inl rfl, h0 e he a' hx⟩)
      · rw [if_neg (by rw [w]; decide)] at h1 h0
        refine x_isText h.2.1 h.2.2.1 ho.2.1 ho.2.2.1 ho.2.2.2.1 (by omega) (fun w => t1 ?_) (fun w => t0 ?_)
        · rw [if_pos w] at h1 h0
          exact x_readSlip h hp hkk (fun R' t' e a' hx => ⟨Or.inr rfl, h1 R' t' e a' hx⟩) (fun e he a' hx => ⟨Or.inl rfl, h0 e he a' hx⟩)
        · rw [if_neg (by rw [w]; decide)] at h0
          exact x_wrong (s := 1) h (fun a' hx => ⟨Or.inl rfl, h0 _ rfl a' hx⟩)
theorem x_readSign {a0 a : ud_St} {f : Nat → Nat} {c : Nat} {R : TK} {Q : Int32 → ud_St → Prop} (h : xat a0 a f c R) (h1 : R.1 = 3 → ∀ a', fr Pad a a' → xat a0 a' f c (tokF f c R.2.2) → Q 1 a') (h0 : R.1 ≠ 3 → ∀ a', xbad a0 a' (1, R.2.1) → Q 0 a') : w_Reader_readSign a Q := by
  have ho := h.2.2.2.1.2.2.2.1
  unfold w_Reader_readSign
  rw [h.2.2.1.1]
  refine ⟨fun z => ?_, fun z => ?_⟩
  · have e := (nI_eq (b := 3) (by omega) (by omega)).mp z
    exact x_adv h (fun a' hf hx => h1 e a' hf hx)
  · exact x_wrong (s := 1) h (fun a' hx => ⟨Or.inl rfl, h0 (fun e => z (by rw [e]; rfl)) a' hx⟩)
theorem kOK_l {t : TD} (h : kOK t) : kOK (tln t) := h
theorem pX_l {a : ud_St} {t : TD} (h : pX a t) : pX (ud_sv a 15 3 (nI (t 0 2 + 1))) (tln t) := by
  obtain ⟨h1, h2, h3, h4, h5, h6, h7, h8, h9, h10, h11⟩ := h
  have o : ∀ k j, ¬ (k = 15 ∧ j = 3) → (ud_sv a 15 3 (nI (t 0 2 + 1))).1 k j = a.1 k j := fun k j q => by rw [us_1, if_neg q]
  refine ⟨(o _ _ (by omega)).trans h1, (o _ _ (by omega)).trans h2, (o _ _ (by omega)).trans h3, by rw [us_1, if_pos ⟨rfl, rfl⟩]; rfl, (o _ _ (by omega)).trans h5, (o _ _ (by omega)).trans h6, (o _ _ (by omega)).trans h7, (o _ _ (by omega)).trans h8, fun i hi => ?_, fun i hi => ?_, fun i hi => (o _ _ (by omega)).trans (h11 i hi)⟩
  · exact ⟨(o _ _ (by omega)).trans (h9 i hi).1, (o _ _ (by omega)).trans (h9 i hi).2⟩
  · obtain ⟨q1, q2, q3, q4⟩ := h10 i hi
    exact ⟨(o _ _ (by omega)).trans q1, (o _ _ (by omega)).trans q2, (o _ _ (by omega)).trans q3, (o _ _ (by omega)).trans q4⟩
def rdF (f : Nat → Nat) (c : Nat) : Except (Nat × Nat) TD := lnZ f c 801 (tokF f c 0) t00
theorem x_read {a : ud_St} {f : Nat → Nat} {c : Nat} {Q : Int32 → ud_St → Prop} (hb : xby a f c) (h1 : ∀ t, rdF f c = .ok t → ∀ a', fr Pxr a a' → pX a' t → lOK t → t 0 2 ≤ 800 → a'.1 3 6 = 0 → a'.1 3 7 = -1 → Q 1 a') (h0 : ∀ e, rdF f c = .error e → ∀ a', xbad a a' e → Q 0 a') : w_Reader_read a Q := by
  have hc := hb.1
  unfold w_Reader_read w_Table_clear
  obtain ⟨b, hbe⟩ : ∃ b, b = ud_sv (ud_sv (ud_sv (ud_sv (ud_sv (ud_sv (ud_sv (ud_sv (ud_sv (ud_sv (ud_sv a 3 6 (0 : Int32)) 3 7 (-1 : Int32)) 3 3 (0 : Int32)) 15 0 (0 : Int32)) 15 1 (0 : Int32)) 15 2 (0 : Int32)) 15 3 (0 : Int32)) 16 2 (0 : Int32)) 19 2 (0 : Int32)) 22 2 (0 : Int32)) 15 8 (0 : Int32) := ⟨_, rfl⟩
  rw [← hbe]
  have hfb : fr Pxr a b := by
    rw [hbe]
    exact ((((((((((fr.rf.sv (by unfold Pxr; omega)).sv (by unfold Pxr; omega)).sv (by unfold Pxr; omega)).sv (by unfold Pxr; omega)).sv (by unfold Pxr; omega)).sv (by unfold Pxr; omega)).sv (by unfold Pxr; omega)).sv (by unfold Pxr; omega)).sv (by unfold Pxr; omega)).sv (by unfold Pxr; omega)).sv (by unfold Pxr; omega)
  have b36 : b.1 3 6 = 0 := by rw [hbe]; simp [us_1]
  have b37 : b.1 3 7 = -1 := by rw [hbe]; simp [us_1]
  have b33 : b.1 3 3 = nI 0 := by rw [hbe]; simp [us_1]; rfl
  have bp : pX b t00 := by
    rw [hbe]
    refine ⟨?_, ?_, ?_, ?_, ?_, ?_, ?_, ?_, fun i hi => absurd hi (Nat.not_lt_zero i), fun i hi => absurd hi (Nat.not_lt_zero i), fun i hi => absurd hi (Nat.not_lt_zero i)⟩ <;> simp [us_1] <;> rfl
  have hbb := xby_fr hb (a' := b) (fun k j _ => hfb.1 k j (by unfold Pxr; omega))
  refine x_advance hbb b33 (Nat.zero_le _) (fun a1 hf1 hr1 => ?_)
  have hx1 : xat a a1 f c (tokF f c 0) := ⟨hfb.tr (hf1.mono (fun k j q => by unfold Pad at q; unfold Pxr; omega)), xby_fr hbb (fun k j _ => hf1.1 k j (by unfold Pad; omega)), hr1, tok_ok (Nat.zero_le _), (hf1.1 _ _ (by unfold Pad; omega)).trans b36, (hf1.1 _ _ (by unfold Pad; omega)).trans b37⟩
  refine LW2.up 801 (fun i x d => x = nI i ∧ ∃ R t, rdF f c = lnZ f c (801 - i) R t ∧ t 0 2 = i ∧ i ≤ R.2.1 ∧ xat a d f c R ∧ pX d t ∧ lOK t) ⟨rfl, tokF f c 0, t00, rfl, rfl, Nat.zero_le _, hx1, pX_c bp (fun k j _ _ => hf1.1 k j (by unfold Pad; omega)), Or.inl rfl⟩ ?_ ?_
  · rintro i x d hi ⟨rfl, R, t, hz, hti, hiR, hx, hpt, hl⟩ K hK
    have ho := hx.2.2.2.1
    obtain ⟨o1, o2, o3, o4, o5, o6, o7⟩ := id ho
    rw [show 801 - i = (800 - i) + 1 by omega] at hz
    have hz' : rdF f c = if R.1 = 0 then .ok t else
      match lnA f c R t with
      | .error e => .error e
      | .ok (R', t') => if R'.1 = 3 then lnZ f c (800 - i) (tokF f c R'.2.2) (tln t') else .error (1, R'.2.1) := hz
    rw [hx.2.2.1.1]
    refine ⟨fun q => absurd ((nI_ltI (a := 800) (by omega) (by omega)).mp q) (by omega), fun _ => ⟨fun q => ?_, fun q => ?_⟩⟩
    · have e := (nI_eq (b := 0) (by omega) (by omega)).mp q
      rw [if_pos e] at hz'
      exact h1 t hz' d hx.1 hpt hl (by omega) hx.2.2.2.2.1 hx.2.2.2.2.2
    · have e : ¬ R.1 = 0 := fun e => q (by rw [e]; rfl)
      rw [if_neg e] at hz'
      have o6' := o6 e
      refine x_readLine hx hpt hl (by omega) (fun R' t' el d' ⟨l1, l2, l3, l4, l5⟩ => t1 ?_) (fun e he d' hx' => t0 (h0 e (by rw [hz', he]) d' hx'))
      rw [el] at hz'
      dsimp only at hz'
      have o' := l2.2.2.2.1
      refine x_readSign l2 (fun e3 d2 hf2 hx2 => t1 ?_) (fun e3 d2 hx2 => t0 (h0 _ (by rw [hz', if_neg e3]) d2 hx2))
      rw [if_pos e3] at hz'
      have hp2 : pX d2 t' := pX_c l3 (fun k j _ _ => hf2.1 k j (by unfold Pad; omega))
      rw [hp2.2.2.2.1, nI_1 (t' 0 2)]
      have w1 := (tok_ok (f := f) o'.2.2.1).1
      have w2 := o'.2.2.2.2.2.1 (by omega)
      refine hK _ _ ⟨nI_1 i, tokF f c R'.2.2, tln t', ?_, ?_, by omega, xat_sv hx2 (Or.inr (by omega)), pX_l hp2, Or.inr ⟨l4, by show 1 ≤ t' 0 2 + 1; omega⟩⟩
      · rw [hz', show 801 - (i + 1) = 800 - i by omega]
      · show t' 0 2 + 1 = i + 1
        omega
  · rintro x d ⟨rfl, R, t, hz, hti, hiR, hx, hpt, hl⟩ K
    have ho := hx.2.2.2.1
    have := ho.2.1
    have := ho.2.2.1
    omega
