/-! table: x's lines -/
/-- a table of a base and a long -/
def kOK (t : TD) : Prop := 2 ≤ t 0 0 ∧ t 0 0 ≤ 16 ∧ 1 ≤ t 0 1 ∧ t 0 1 ≤ 8 ∧ t 0 0 ^ t 0 1 ≤ 10000 ∧ t 0 3 ≤ 12 ∧ t 0 4 ≤ 6 ∧ t 0 5 ≤ 20 ∧
   (∀ i, i < t 0 3 → wok (t 0 0) (t 1 i) (t 2 i)) ∧ (∀ i, i < t 0 4 → wok (t 0 0) (t 3 i) (t 4 i) ∧ wok (t 0 0) (t 5 i) (t 6 i)) ∧ ∀ i, i < t 0 5 → t 7 i < t 0 0 ^ t 0 1
theorem kOK_tOK {t : TD} (h : kOK t) (h1 : 1 ≤ t 0 2) (h2 : t 0 2 ≤ 1000) : tOK t := Or.inr ⟨h1, h2, h⟩
theorem kOK_w {t : TD} {s v : Nat} (h : kOK t) (hm : t 0 3 < 12) (hw : wok (t 0 0) s v) : kOK (tw t s v) := by
  obtain ⟨h1, h2, h3, h4, h5, h6, h7, h8, h9, h10, h11⟩ := h
  refine ⟨h1, h2, h3, h4, h5, by show t 0 3 + 1 ≤ 12; omega, h7, h8, fun i hi => ?_, h10, h11⟩
  have hi' : i < t 0 3 + 1 := hi
  show wok (t 0 0) (tw t s v 1 i) (tw t s v 2 i)
  unfold tw
  by_cases e : i = t 0 3
  · rw [if_neg (by omega), if_pos ⟨rfl, e⟩, if_neg (by omega), if_neg (by omega), if_pos ⟨rfl, e⟩]; exact hw
  · rw [if_neg (by omega), if_neg (fun q => e q.2), if_neg (by omega), if_neg (by omega), if_neg (by omega), if_neg (fun q => e q.2)]; exact h9 i (by omega)
theorem kOK_s {t : TD} {s v s2 v2 : Nat} (h : kOK t) (hm : t 0 4 < 6) (hw : wok (t 0 0) s v) (hw2 : wok (t 0 0) s2 v2) : kOK (tsl t s v s2 v2) := by
  obtain ⟨h1, h2, h3, h4, h5, h6, h7, h8, h9, h10, h11⟩ := h
  refine ⟨h1, h2, h3, h4, h5, h6, by show t 0 4 + 1 ≤ 6; omega, h8, h9, fun i hi => ?_, h11⟩
  have hi' : i < t 0 4 + 1 := hi
  show wok (t 0 0) (tsl t s v s2 v2 3 i) (tsl t s v s2 v2 4 i) ∧ wok (t 0 0) (tsl t s v s2 v2 5 i) (tsl t s v s2 v2 6 i)
  by_cases e : i = t 0 4
  · subst e
    simp only [tsl]
    simp
    exact ⟨hw, hw2⟩
  · simp only [tsl]
    simp [e]
    exact h10 i (by omega)
theorem kOK_t {t : TD} {v : Nat} (h : kOK t) (hm : t 0 5 < 20) (hw : v < t 0 0 ^ t 0 1) : kOK (tto t v) := by
  obtain ⟨h1, h2, h3, h4, h5, h6, h7, h8, h9, h10, h11⟩ := h
  refine ⟨h1, h2, h3, h4, h5, h6, h7, by show t 0 5 + 1 ≤ 20; omega, h9, h10, fun i hi => ?_⟩
  have hi' : i < t 0 5 + 1 := hi
  show tto t v 7 i < t 0 0 ^ t 0 1
  unfold tto
  by_cases e : i = t 0 5
  · rw [if_neg (by omega), if_pos ⟨rfl, e⟩]; exact hw
  · rw [if_neg (by omega), if_neg (fun q => e q.2)]; exact h11 i (by omega)
theorem pX_w {a : ud_St} {t : TD} {s v : Nat} (h : pX a t) : pX (ud_sv (ud_sv (ud_sv a (16 + 1) (t 0 3) (nI s)) (16 + 2) (t 0 3) (nI v)) 16 2 (nI (t 0 3 + 1))) (tw t s v) := by
  obtain ⟨h1, h2, h3, h4, h5, h6, h7, h8, h9, h10, h11⟩ := h
  have o : ∀ k j, k ≠ 16 → k ≠ 17 → k ≠ 18 → (ud_sv (ud_sv (ud_sv a (16 + 1) (t 0 3) (nI s)) (16 + 2) (t 0 3) (nI v)) 16 2 (nI (t 0 3 + 1))).1 k j = a.1 k j := fun k j q1 q2 q3 => by rw [us_1, if_neg (by omega), us_1, if_neg (by omega), us_1, if_neg (by omega)]
  refine ⟨(o _ _ (by omega) (by omega) (by omega)).trans h1, (o _ _ (by omega) (by omega) (by omega)).trans h2, (o _ _ (by omega) (by omega) (by omega)).trans h3, (o _ _ (by omega) (by omega) (by omega)).trans h4, (o _ _ (by omega) (by omega) (by omega)).trans h5, by rw [us_1, if_pos ⟨rfl, rfl⟩]; rfl, (o _ _ (by omega) (by omega) (by omega)).trans h7, (o _ _ (by omega) (by omega) (by omega)).trans h8, fun i hi => ?_, fun i hi => ?_, fun i hi => (o _ _ (by omega) (by omega) (by omega)).trans (h11 i hi)⟩
  · have hi' : i < t 0 3 + 1 := hi
    by_cases e : i = t 0 3
    · subst e
      simp [us_1, tw]
    · have := h9 i (by omega)
      simp [us_1, tw, e, this]
  · obtain ⟨q1, q2, q3, q4⟩ := h10 i hi
    exact ⟨(o _ _ (by omega) (by omega) (by omega)).trans q1, (o _ _ (by omega) (by omega) (by omega)).trans q2, (o _ _ (by omega) (by omega) (by omega)).trans q3, (o _ _ (by omega) (by omega) (by omega)).trans q4⟩
theorem wrd_15 {f : Nat → Nat} {c b : Nat} {R : TK} (h : srtH f R = 15) : wrd f c R b = .error (1, R.2.1) := by unfold wrd; rw [if_pos h]
/-- the line behind R -/
def xln (a0 a : ud_St) (f : Nat → Nat) (c : Nat) (R R' : TK) (t t' : TD) : Prop := R.2.2 ≤ R'.2.1 ∧ xat a0 a f c R' ∧ pX a t' ∧ kOK t' ∧ t' 0 2 = t 0 2
theorem x_readDoing {a0 a : ud_St} {f : Nat → Nat} {c : Nat} {R : TK} {t : TD} {Q : Int32 → ud_St → Prop} (h : xat a0 a f c R) (hp : pX a t) (hk : kOK t) (h1 : ∀ R' t', lnD f c R t = .ok (R', t') → ∀ a', xln a0 a' f c R R' t t' → Q 1 a') (h0 : ∀ e, lnD f c R t = .error e → ∀ a', xbad a0 a' e → Q 0 a') : w_Reader_readDoing a Q := by
  have ho := h.2.2.2.1
  unfold lnD at h1 h0
  unfold w_Reader_readDoing
  rw [hp.2.2.2.2.2.1]
  have hk3 := hk.2.2.2.2.2.1
  refine ⟨fun z => ?_, fun z => ?_⟩
  · have e3 : t 0 3 = 0 := by
      have := (nI_leI (b := 0) (by omega) (by omega)).mp z; omega
    rw [if_pos e3] at h1 h0
    refine x_adv h (fun a1 hf1 hx1 => ?_)
    refine LW2.up 13 (fun i x b => x = nI i ∧ ∃ Ri ti, doL f c 13 0 (tokF f c R.2.2) t = doL f c (13 - i) i Ri ti ∧ ti 0 3 = i ∧ R.2.2 ≤ Ri.2.1 ∧ xat a0 b f c Ri ∧ pX b ti ∧ kOK ti ∧ ti 0 2 = t 0 2) ⟨rfl, tokF f c R.2.2, t, rfl, e3, (tok_ok ho.2.2.1).1, hx1, pX_c hp (fun k j _ _ => hf1.1 k j (by unfold Pad; omega)), hk, rfl⟩ ?_ ?_
    · rintro i x b hi ⟨rfl, Ri, ti, hd, hi3, hle, hx, hpi, hki, h02⟩ K hK
      have hoi := hx.2.2.2.1
      have ei : 13 - i = (12 - i) + 1 := by omega
      rw [ei] at hd
      have hd' : doL f c 13 0 (tokF f c R.2.2) t = if 0 < i ∧ Ri.1 = 3 then .ok (Ri, ti) else if i = 12 ∧ srtH f Ri ≠ 15 then .error (3, Ri.2.1) else
        match wrd f c Ri (ti 0 0) with
        | .error e => .error e
        | .ok (s, v, R') => doL f c (12 - i) (i + 1) R' (tw ti s v) := hd
      refine ⟨fun q => absurd ((nI_ltI (a := 12) (by omega) (by omega)).mp q) (by omega), fun _ => ?_⟩
      have j62 : ¬ (0 < i ∧ Ri.1 = 3) → (i < 12 ∨ srtH f Ri = 15) → w_Reader_readDoing_j62 a b (nI i) K Q := fun n1 n2 => by
        rw [if_neg n1, if_neg (by omega)] at hd'
        unfold w_Reader_readDoing_j62
        refine x_readWord hx hpi.1 (by have := hki.1; omega) hki.2.1 (fun s v R' e hle' hwk a' hf' e4 e5 hx' => t1 ?_) (fun e he a' hx' => t0 ?_)
        · have hi12 : i < 12 := by
            rcases n2 with q | q
            · exact q
            · rw [wrd_15 q] at e; cases e
          rw [e] at hd'
          rw [e4, e5]
          have hp' : pX a' ti := pX_c hpi (fun k j _ _ => hf'.1 k j (by unfold Ptk; omega))
          refine x_wadd (m := ti 0 3) hp'.2.2.2.2.2.1 (by omega) (hK _ _ ⟨nI_1 i, R', tw ti s v, ?_, by show ti 0 3 + 1 = i + 1; omega, by have := hoi.2.1; omega, xat_sv (xat_sv (xat_sv hx' (by omega)) (by omega)) (by omega), pX_w hp', kOK_w hki (by omega) hwk, h02⟩)
          rw [show 13 - (i + 1) = 12 - i by omega]
          exact hd'
        · rw [he] at hd'
          exact h0 _ hd' a' hx'
      have j42 : ¬ (0 < i ∧ Ri.1 = 3) → w_Reader_readDoing_j42 a b (nI i) K Q := fun n1 => by
        have hs15 := srtH_le f Ri
        unfold w_Reader_readDoing_j42
        refine x_sortHere hx.2.1 hx.2.2.1 hoi.2.1 hoi.2.2.1 hoi.2.2.2.1 (fun w => ⟨fun q => absurd q (ui_ne1 (by omega)), fun _ => ⟨fun q => ?_, fun q => j62 n1 (Or.inl ?_)⟩⟩) (fun w => ⟨fun _ => j62 n1 (Or.inr w), fun q => absurd rfl q⟩)
        · have e12 := (nI_eq (b := 12) (by omega) (by omega)).mp q
          rw [if_neg n1, if_pos ⟨e12, by omega⟩] at hd'
          exact x_wrong (s := 3) hx (fun a' hx' => ⟨Or.inl rfl, h0 _ hd' a' hx'⟩)
        · have : ¬ i = 12 := fun e => q (by rw [e]; rfl)
          omega
      refine ⟨fun q => ?_, fun q => ?_⟩
      · have := (nI_leI (b := 0) (by omega) (by omega)).mp q
        exact j42 (by omega)
      · have hi0 : 0 < i := by
          rcases Nat.eq_zero_or_pos i with w | w
          · exact absurd (by rw [w]; decide) q
          · exact w
        rw [hx.2.2.1.1]
        have ho4 := hoi.2.2.2.1
        refine ⟨fun q2 => ?_, fun q2 => j42 (fun w => q2 (by rw [w.2]; rfl))⟩
        have e33 := (nI_eq (b := 3) (by omega) (by omega)).mp q2
        rw [if_pos ⟨hi0, e33⟩] at hd'
        exact h1 _ _ hd' b ⟨hle, hx, hpi, hki, h02⟩
    · rintro x b ⟨rfl, Ri, ti, hd, hi3, hle, hx, hpi, hki, h02⟩ K
      have := hki.2.2.2.2.2.1
      omega
  · rw [if_neg (fun e => z (by rw [e]; decide))] at h0
    exact x_wrong (s := 2) h (fun a' hx => ⟨Or.inl rfl, h0 _ rfl a' hx⟩)
theorem pX_t {a : ud_St} {t : TD} {v : Nat} (h : pX a t) : pX (ud_sv (ud_sv a 25 (t 0 5) (nI v)) 15 8 (nI (t 0 5 + 1))) (tto t v) := by
  obtain ⟨h1, h2, h3, h4, h5, h6, h7, h8, h9, h10, h11⟩ := h
  have o : ∀ k j, ¬ (k = 15 ∧ j = 8) → k ≠ 25 → (ud_sv (ud_sv a 25 (t 0 5) (nI v)) 15 8 (nI (t 0 5 + 1))).1 k j = a.1 k j := fun k j q1 q2 => by rw [us_1, if_neg (by omega), us_1, if_neg (by omega)]
  refine ⟨(o _ _ (by omega) (by omega)).trans h1, (o _ _ (by omega) (by omega)).trans h2, (o _ _ (by omega) (by omega)).trans h3, (o _ _ (by omega) (by omega)).trans h4, by rw [us_1, if_pos ⟨rfl, rfl⟩]; rfl, (o _ _ (by omega) (by omega)).trans h6, (o _ _ (by omega) (by omega)).trans h7, (o _ _ (by omega) (by omega)).trans h8, fun i hi => ?_, fun i hi => ?_, fun i hi => ?_⟩
  · exact ⟨(o _ _ (by omega) (by omega)).trans (h9 i hi).1, (o _ _ (by omega) (by omega)).trans (h9 i hi).2⟩
  · obtain ⟨q1, q2, q3, q4⟩ := h10 i hi
    exact ⟨(o _ _ (by omega) (by omega)).trans q1, (o _ _ (by omega) (by omega)).trans q2, (o _ _ (by omega) (by omega)).trans q3, (o _ _ (by omega) (by omega)).trans q4⟩
  · have hi' : i < t 0 5 + 1 := hi
    rw [us_1, if_neg (by omega), us_1]
    unfold tto
    by_cases e : i = t 0 5
    · rw [if_pos ⟨rfl, e⟩, if_neg (by omega), if_pos ⟨rfl, e⟩]
    · rw [if_neg (fun q => e q.2), if_neg (by omega), if_neg (fun q => e q.2)]; exact h11 i (by omega)
theorem x_readTold {a0 a : ud_St} {f : Nat → Nat} {c : Nat} {R : TK} {t : TD} {Q : Int32 → ud_St → Prop} (h : xat a0 a f c R) (hp : pX a t) (hk : kOK t) (h1 : ∀ R' t', lnT f c R t = .ok (R', t') → ∀ a', xln a0 a' f c R R' t t' → Q 1 a') (h0 : ∀ e, lnT f c R t = .error e → ∀ a', xbad a0 a' e → Q 0 a') : w_Reader_readTold a Q := by
  have ho := h.2.2.2.1
  have hk5 := hk.2.2.2.2.2.2.2.1
  obtain ⟨k1, k2, k3, k4, k5, -⟩ := id hk
  have esz : sz t = t 0 0 ^ t 0 1 := by unfold sz; rw [if_neg (by omega)]
  have hpos : 0 < t 0 0 ^ t 0 1 := Nat.pow_pos (by omega)
  unfold lnT at h1 h0
  unfold w_Reader_readTold
  rw [hp.2.2.2.2.1]
  refine ⟨fun z => ?_, fun z => ?_⟩
  · have h20 := (nI_ltI (b := 20) (by omega) (by omega)).mp z
    rw [if_pos h20] at h1 h0
    refine x_adv h (fun a1 hf1 hx1 => ?_)
    have hp1 : pX a1 t := pX_c hp (fun k j _ _ => hf1.1 k j (by unfold Pad; omega))
    rw [hp1.2.2.1, esz, ui_pred hpos, ← esz]
    refine x_readBetween (lo := 0) hx1 (by omega) (by rw [esz]; omega) (fun v R' e hle v1 v2 a' hf' e4 e5 hx' => t1 ?_) (fun e he a' hx' => t0 ?_)
    · rw [e] at h1
      have hp' : pX a' t := pX_c hp1 (fun k j _ _ => hf'.1 k j (by unfold Ptk; omega))
      unfold w_Table_tell
      rw [e5, hp'.2.2.2.2.1]
      refine ub_putn (by omega) (by omega) ?_
      have e15 : (ud_sv a' 25 (t 0 5) (nI v)).1 15 8 = nI (t 0 5) := by rw [us_1, if_neg (by omega)]; exact hp'.2.2.2.2.1
      rw [e15, nI_1]
      have := (tok_ok (f := f) ho.2.2.1).1
      have := (tok_ok (f := f) ho.2.2.1).2.1
      exact h1 _ _ rfl _ ⟨by omega, xat_sv (xat_sv hx' (by omega)) (by omega), pX_t hp', kOK_t hk h20 (by rw [← esz]; rw [esz] at v2 ⊢; omega), rfl⟩
    · rw [he] at h0
      exact h0 _ rfl a' hx'
  · rw [if_neg (fun e => z (nI_lt (b := 20) e (by omega)))] at h0
    exact x_wrong (s := 3) h (fun a' hx => ⟨Or.inl rfl, h0 _ rfl a' hx⟩)
