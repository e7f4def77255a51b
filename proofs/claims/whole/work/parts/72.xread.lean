/-! table: x's reader -/
def Pxr (k _j : Nat) : Prop := k = 3 ∨ (15 ≤ k ∧ k ≤ 25)
def pX (a : ud_St) (t : TD) : Prop :=
  a.1 15 0 = nI (t 0 0) ∧ a.1 15 1 = nI (t 0 1) ∧ a.1 15 2 = nI (sz t) ∧ a.1 15 3 = nI (t 0 2) ∧ a.1 15 8 = nI (t 0 5) ∧ a.1 16 2 = nI (t 0 3) ∧ a.1 19 2 = nI (t 0 4) ∧ a.1 22 2 = nI (t 0 4) ∧
  (∀ i, i < t 0 3 → a.1 17 i = nI (t 1 i) ∧ a.1 18 i = nI (t 2 i)) ∧
  (∀ i, i < t 0 4 → a.1 20 i = nI (t 3 i) ∧ a.1 21 i = nI (t 4 i) ∧ a.1 23 i = nI (t 5 i) ∧ a.1 24 i = nI (t 6 i)) ∧
  ∀ i, i < t 0 5 → a.1 25 i = nI (t 7 i)
theorem pX_c {a a' : ud_St} {t : TD} (h : pX a t) (e : ∀ k j, 15 ≤ k → k ≤ 25 → a'.1 k j = a.1 k j) : pX a' t := by
  obtain ⟨h1, h2, h3, h4, h5, h6, h7, h8, h9, h10, h11⟩ := h
  refine ⟨(e _ _ (by omega) (by omega)).trans h1, (e _ _ (by omega) (by omega)).trans h2, (e _ _ (by omega) (by omega)).trans h3, (e _ _ (by omega) (by omega)).trans h4, (e _ _ (by omega) (by omega)).trans h5, (e _ _ (by omega) (by omega)).trans h6, (e _ _ (by omega) (by omega)).trans h7, (e _ _ (by omega) (by omega)).trans h8, fun i hi => ?_, fun i hi => ?_, fun i hi => (e _ _ (by omega) (by omega)).trans (h11 i hi)⟩
  · exact ⟨(e _ _ (by omega) (by omega)).trans (h9 i hi).1, (e _ _ (by omega) (by omega)).trans (h9 i hi).2⟩
  · obtain ⟨q1, q2, q3, q4⟩ := h10 i hi
    exact ⟨(e _ _ (by omega) (by omega)).trans q1, (e _ _ (by omega) (by omega)).trans q2, (e _ _ (by omega) (by omega)).trans q3, (e _ _ (by omega) (by omega)).trans q4⟩
/-- at R, with no fault; at a fault -/
def xat (a0 a : ud_St) (f : Nat → Nat) (c : Nat) (R : TK) : Prop := fr Pxr a0 a ∧ xby a f c ∧ xr a R ∧ tkOK f c 0 R ∧ a.1 3 6 = 0 ∧ a.1 3 7 = -1
def xbad (a0 a : ud_St) (e : Nat × Nat) : Prop := fr Pxr a0 a ∧ a.1 3 6 = nI e.1 ∧ a.1 3 7 = nI e.2
theorem tkOK_0 {f : Nat → Nat} {c p : Nat} {R : TK} (h : tkOK f c p R) : tkOK f c 0 R := ⟨Nat.zero_le _, h.2⟩
theorem x_wrong {a0 a : ud_St} {f : Nat → Nat} {c s : Nat} {R : TK} {Q : Int32 → ud_St → Prop} (h : xat a0 a f c R) (hQ : ∀ a', xbad a0 a' (s, R.2.1) → Q 0 a') : w_Reader_wrong a (nI s) Q := by
  obtain ⟨h1, h2, h3, h4, h5, h6⟩ := h
  unfold w_Reader_wrong
  refine hQ _ ⟨(h1.sv (Or.inl rfl)).sv (Or.inl rfl), ?_, ?_⟩
  · rw [us_1, if_neg (by omega), us_1, if_pos ⟨rfl, rfl⟩]
  · rw [us_1, if_pos ⟨rfl, rfl⟩, us_1, if_neg (by omega)]; exact h3.2.1
/-- only the token and readSort, readNumber may change -/
def Ptk (k j : Nat) : Prop := k = 3 ∧ 1 ≤ j ∧ j ≤ 5
theorem x_adv {a0 a : ud_St} {f : Nat → Nat} {c : Nat} {R : TK} {Q : ud_St → Prop} (h : xat a0 a f c R) (hQ : ∀ a', fr Pad a a' → xat a0 a' f c (tokF f c R.2.2) → Q a') : w_Reader_advance a Q := by
  obtain ⟨h1, h2, h3, h4, h5, h6⟩ := h
  refine x_advance h2 h3.2.2 h4.2.2.1 (fun a' hf hr => hQ a' hf ⟨h1.tr (hf.mono (fun k j q => by unfold Pad at q; unfold Pxr; omega)), xby_fr h2 (fun k j _ => hf.1 k j (by unfold Pad; omega)), hr, tkOK_0 (tok_ok h4.2.2.1), (hf.1 _ _ (by unfold Pad; omega)).trans h5, (hf.1 _ _ (by unfold Pad; omega)).trans h6⟩)
theorem x_readText {a0 a : ud_St} {f : Nat → Nat} {c t : Nat} {R : TK} {Q : Int32 → ud_St → Prop} (h : xat a0 a f c R) (ht : t < 22) (h1 : ∀ R', txt f c R t = .ok R' → R.2.2 ≤ R'.2.1 → ∀ a', fr Ptk a a' → xat a0 a' f c R' → Q 1 a') (h0 : ∀ e, txt f c R t = .error e → ∀ a', xbad a0 a' e → Q 0 a') : w_Reader_readText a t Q := by
  have ho := h.2.2.2.1
  unfold txt at h1 h0
  unfold w_Reader_readText
  refine x_isText h.2.1 h.2.2.1 ho.2.1 ho.2.2.1 ho.2.2.2.1 ht (fun w => t1 ?_) (fun w => t0 ?_)
  · rw [if_pos w] at h1
    exact x_adv h (fun a' hf hx => h1 _ rfl (tok_ok ho.2.2.1).1 a' (hf.mono (fun k j q => by unfold Pad at q; unfold Ptk; omega)) hx)
  · rw [if_neg (by rw [w]; decide)] at h0
    exact x_wrong (s := 1) h (fun a' hx => ⟨Or.inl rfl, h0 _ rfl a' hx⟩)
theorem x_readBetween {a0 a : ud_St} {f : Nat → Nat} {c lo hi : Nat} {R : TK} {Q : Int32 → ud_St → Prop} (h : xat a0 a f c R) (hl : lo < 1000) (hh : hi < 100000) (h1 : ∀ v R', num f c R lo hi = .ok (v, R') → R.2.2 ≤ R'.2.1 → lo ≤ v → v ≤ hi → ∀ a', fr Ptk a a' → a'.1 3 4 = a.1 3 4 → a'.1 3 5 = nI v → xat a0 a' f c R' → Q 1 a') (h0 : ∀ e, num f c R lo hi = .error e → ∀ a', xbad a0 a' e → Q 0 a') : w_Reader_readBetween a (nI lo) (nI hi) Q := by
  obtain ⟨g1, g2, g3, g4, g5, g6⟩ := id h
  obtain ⟨o1, o2, o3, o4, o5, o6, o7⟩ := id g4
  have hc := g2.1
  unfold num at h1 h0
  unfold w_Reader_readBetween
  rw [g3.1, g3.2.1, g3.2.2]
  refine ⟨fun z => ?_, fun z => ?_⟩
  · have e2 := (nI_eq (b := 2) (by omega) (by omega)).mp z
    rw [if_pos e2] at h1 h0
    have dig : ∀ j, R.2.1 ≤ j → j < R.2.2 → 48 ≤ f j ∧ f j ≤ 57 := fun j q1 q2 => kd_dig.mp ((o7 (Or.inr e2) j q1 q2).trans e2)
    refine LW2.up (R.2.2 - R.2.1) (fun i v x => v = nI (min 1000000 (nv f R.2.1 i)) ∧ x = nI (R.2.1 + i)) ⟨rfl, rfl⟩ ?_ ?_
    · rintro i v x hi ⟨rfl, rfl⟩ K hK
      have hd := dig (R.2.1 + i) (by omega) (by omega)
      refine ⟨fun z => absurd z (nI_ge (by omega) (by omega)), fun _ => x_byteAt g2.2.1 hc g2.2.2 (by omega) (fun hic => ?_) (fun w => by omega)⟩
      have hm : min 1000000 (nv f R.2.1 i) ≤ 1000000 := Nat.min_le_left _ _
      rw [show (10 : Int32) * nI (min 1000000 (nv f R.2.1 i)) = nI (10 * min 1000000 (nv f R.2.1 i)) from ui_mul 10 _, nI_add, show nI (10 * min 1000000 (nv f R.2.1 i) + f (R.2.1 + i)) - 48 = nI (10 * min 1000000 (nv f R.2.1 i) + f (R.2.1 + i) - 48) from ui_sub (b := 48) (by omega)]
      refine hK _ _ ⟨?_, nI_1 _⟩
      by_cases q : 10 * min 1000000 (nv f R.2.1 i) + f (R.2.1 + i) - 48 < 1000000
      · have hlt : nI (10 * min 1000000 (nv f R.2.1 i) + f (R.2.1 + i) - 48) < (1000000 : Int32) := nI_lt (b := 1000000) q (by omega)
        rw [if_pos hlt]
        congr 1
        rw [nv_s]
        by_cases q2 : nv f R.2.1 i ≤ 100000
        · rw [if_pos q2]; omega
        · rw [if_neg q2]; omega
      · have hlt : ¬ nI (10 * min 1000000 (nv f R.2.1 i) + f (R.2.1 + i) - 48) < (1000000 : Int32) := fun w => q ((nI_ltI (b := 1000000) (by omega) (by omega)).mp w)
        rw [if_neg hlt]
        show nI 1000000 = _
        congr 1
        rw [nv_s]
        by_cases q2 : nv f R.2.1 i ≤ 100000
        · rw [if_pos q2]; omega
        · rw [if_neg q2]; omega
    · rintro v x ⟨rfl, rfl⟩ K
      obtain ⟨u, hu⟩ : ∃ u, u = nv f R.2.1 (R.2.2 - R.2.1) := ⟨_, rfl⟩
      rw [← hu] at h1 h0 ⊢
      have hm : min 1000000 u ≤ 1000000 := Nat.min_le_left _ _
      refine ⟨fun _ => ⟨fun q => ?_, fun q => ⟨fun q2 => ?_, fun q2 => ?_⟩⟩, fun z => absurd (nI_le (by omega) (by omega)) z⟩
      · have q' := (nI_ltI (by omega) (by omega)).mp q
        rw [if_neg (by omega)] at h0
        exact x_wrong (s := 2) h (fun a' hx => ⟨Or.inl rfl, h0 _ rfl a' hx⟩)
      · have w1 : lo ≤ min 1000000 u := by
          rcases Nat.lt_or_ge (min 1000000 u) lo with w | w
          · exact absurd (nI_lt w (by omega)) q
          · exact w
        have w2 := (nI_leI (by omega) (by omega)).mp q2
        have eu : min 1000000 u = u := by omega
        rw [eu] at w1 w2 ⊢
        rw [if_pos ⟨w1, w2⟩] at h1
        have h' : xat a0 (ud_sv a 3 5 (nI u)) f c R := ⟨g1.sv (Or.inl rfl), xby_fr g2 (fun k j q => by rw [us_1, if_neg (by omega)]), ⟨by rw [us_1, if_neg (by omega)]; exact g3.1, by rw [us_1, if_neg (by omega)]; exact g3.2.1, by rw [us_1, if_neg (by omega)]; exact g3.2.2⟩, g4, by rw [us_1, if_neg (by omega)]; exact g5, by rw [us_1, if_neg (by omega)]; exact g6⟩
        refine x_adv h' (fun a' hf hx => h1 _ _ rfl (tok_ok o3).1 w1 w2 a' ((fr.rf.sv (by unfold Ptk; omega)).tr (hf.mono (fun k j q => by unfold Pad at q; unfold Ptk; omega))) ?_ ?_ hx)
        · rw [hf.1 3 4 (by unfold Pad; omega), us_1, if_neg (by omega)]
        · rw [hf.1 3 5 (by unfold Pad; omega), us_1, if_pos ⟨rfl, rfl⟩]
      · have w2 := (ui_ltn (by omega) (by omega)).mp (show ¬ nI (min 1000000 u) ≤ nI hi from q2)
        rw [if_neg (by omega)] at h0
        exact x_wrong (s := 2) h (fun a' hx => ⟨Or.inl rfl, h0 _ rfl a' hx⟩)
  · rw [if_neg (fun w => z (by rw [w]; rfl))] at h0
    exact x_wrong (s := 1) h (fun a' hx => ⟨Or.inl rfl, h0 _ rfl a' hx⟩)
theorem xat_sv {a0 a : ud_St} {f : Nat → Nat} {c k j : Nat} {v : Int32} {R : TK} (h : xat a0 a f c R) (q : (k = 3 ∧ 4 ≤ j ∧ j ≤ 5) ∨ (15 ≤ k ∧ k ≤ 25)) : xat a0 (ud_sv a k j v) f c R := by
  obtain ⟨g1, g2, g3, g4, g5, g6⟩ := h
  exact ⟨g1.sv (by unfold Pxr; omega), xby_fr g2 (fun k' j' q' => by rw [us_1, if_neg (by omega)]), ⟨by rw [us_1, if_neg (by omega)]; exact g3.1, by rw [us_1, if_neg (by omega)]; exact g3.2.1, by rw [us_1, if_neg (by omega)]; exact g3.2.2⟩, g4, by rw [us_1, if_neg (by omega)]; exact g5, by rw [us_1, if_neg (by omega)]; exact g6⟩
theorem x_readWord {a0 a : ud_St} {f : Nat → Nat} {c b : Nat} {R : TK} {Q : Int32 → ud_St → Prop} (h : xat a0 a f c R) (hb : a.1 15 0 = nI b) (hb1 : 1 ≤ b) (hb2 : b ≤ 16) (h1 : ∀ s v R', wrd f c R b = .ok (s, v, R') → R.2.2 ≤ R'.2.1 → wok b s v → ∀ a', fr Ptk a a' → a'.1 3 4 = nI s → a'.1 3 5 = nI v → xat a0 a' f c R' → Q 1 a') (h0 : ∀ e, wrd f c R b = .error e → ∀ a', xbad a0 a' e → Q 0 a') : w_Reader_readWord a Q := by
  have ho := h.2.2.2.1
  have hs15 := srtH_le f R
  unfold wrd at h1 h0
  unfold w_Reader_readWord
  refine x_sortHere h.2.1 h.2.2.1 ho.2.1 ho.2.2.1 ho.2.2.2.1 (fun w => ?_) (fun w => ?_)
  · rw [if_neg (by omega)] at h1 h0
    obtain ⟨s, hs⟩ : ∃ s, s = srtH f R := ⟨_, rfl⟩
    rw [← hs] at w h1 h0 ⊢
    refine ⟨fun z => absurd z (ui_ne1 (by omega)), fun _ => x_adv h (fun a1 hf1 hx1 => ?_)⟩
    have hx2 := xat_sv (k := 3) (j := 5) (v := 0) (xat_sv (k := 3) (j := 4) (v := nI s) hx1 (Or.inl (by omega))) (Or.inl (by omega))
    have hf2 : fr Ptk a (ud_sv (ud_sv a1 3 4 (nI s)) 3 5 0) := ((hf1.mono (fun k j q => by unfold Pad at q; unfold Ptk; omega)).sv (by unfold Ptk; omega)).sv (by unfold Ptk; omega)
    have e4 : (ud_sv (ud_sv a1 3 4 (nI s)) 3 5 0).1 3 4 = nI s := by rw [us_1, if_neg (by omega), us_1, if_pos ⟨rfl, rfl⟩]
    have e5 : (ud_sv (ud_sv a1 3 4 (nI s)) 3 5 0).1 3 5 = nI 0 := by rw [us_1, if_pos ⟨rfl, rfl⟩]; rfl
    refine ⟨fun z => ?_, fun z => ?_⟩
    · have z' := (nI_ltI (b := 12) (by omega) (by omega)).mp z
      rw [if_pos z'] at h1
      exact h1 _ _ _ rfl (tok_ok ho.2.2.1).1 ⟨by omega, fun _ => rfl, fun _ => by omega, fun q => by omega⟩ _ hf2 e4 e5 hx2
    · have z' : ¬ s < 12 := fun q => z (nI_lt (b := 12) q (by omega))
      rw [if_neg z'] at h1 h0
      have e15 : (ud_sv (ud_sv a1 3 4 (nI s)) 3 5 0).1 15 0 = nI b := (hf2.1 15 0 (by unfold Ptk; omega)).trans hb
      unfold w_Table_mostOf
      rw [e15]
      have hp := (tok_ok (f := f) (c := c) ho.2.2.1)
      have go : ∀ hi, hi = (if s = 14 then b - 1 else 99) → w_Reader_readBetween (ud_sv (ud_sv a1 3 4 (nI s)) 3 5 0) (nI 0) (nI hi) (fun r_7 a_8 => (r_7 = 0 → Q 0 a_8) ∧ (¬ r_7 = 0 → Q 1 a_8)) := fun hi ehi => by
        rw [← ehi] at h1 h0
        have hhi : hi ≤ 99 := by rw [ehi]; split <;> omega
        refine x_readBetween hx2 (by omega) (by omega) (fun v R' e hle v1 v2 a' hf' e4' e5' hx' => t1 ?_) (fun e he a' hx' => t0 ?_)
        · rw [e] at h1
          refine h1 _ _ _ rfl (by have := hp.1; have := hp.2.1; omega) ⟨by omega, fun q => absurd q z', fun q => by omega, fun q => by rw [if_pos q] at ehi; omega⟩ a' (hf2.tr hf') (e4'.trans e4) e5' hx'
        · rw [he] at h0
          exact h0 _ rfl a' hx'
      refine ⟨fun _ => ⟨fun q => ?_, fun q => ?_⟩, fun q => absurd (nI_le (a := 12) (by omega) (by omega)) q⟩
      · have q' := (nI_eq (b := 14) (by omega) (by omega)).mp q
        rw [ui_pred (by omega)]
        exact go (b - 1) (by rw [if_pos q'])
      · exact go 99 (by rw [if_neg (fun w => q (by rw [w]; rfl))])
  · rw [if_pos w] at h0
    exact ⟨fun _ => x_wrong (s := 1) h (fun a' hx => ⟨Or.inl rfl, h0 _ rfl a' hx⟩), fun z => absurd rfl z⟩
theorem x_wadd {a : ud_St} {k0 m s v : Nat} {Q : ud_St → Prop} (h2 : a.1 k0 2 = nI m) (hm : m < 12) (hQ : Q (ud_sv (ud_sv (ud_sv a (k0 + 1) m (nI s)) (k0 + 2) m (nI v)) k0 2 (nI (m + 1)))) : w_Words_add a k0 (nI s) (nI v) Q := by
  unfold w_Words_add w_Words_change
  rw [h2]
  refine ⟨fun z => absurd z (nI_ge (b := 12) hm (by omega)), fun _ => ub_putn hm (by omega) (ub_putn hm (by omega) ?_)⟩
  dsimp only
  rw [us_1, if_neg (by omega), us_1, if_neg (by omega), h2, nI_1]
  exact hQ
