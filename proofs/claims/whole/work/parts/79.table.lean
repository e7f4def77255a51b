/-! table -/
def pr (f : Nat → Nat) (c : Nat) (R R' : TK) : Prop := R.2.2 ≤ R'.2.1 ∧ tkOK f c 0 R'
theorem pr_tok {f : Nat → Nat} {c : Nat} {R : TK} (h : tkOK f c 0 R) : pr f c R (tokF f c R.2.2) := ⟨(tok_ok h.2.2.1).1, tkOK_0 (tok_ok h.2.2.1)⟩
theorem pr.tr {f : Nat → Nat} {c : Nat} {R R1 R2 : TK} (h : pr f c R R1) (h2 : pr f c R1 R2) : pr f c R R2 := ⟨by have := h.1; have := h.2.2.1; have := h2.1; omega, h2.2⟩
theorem txt_ok {f : Nat → Nat} {c t : Nat} {R R' : TK} (h : tkOK f c 0 R) (e : txt f c R t = .ok R') : pr f c R R' := by
  unfold txt at e
  split at e
  · injection e with e; rw [← e]; exact pr_tok h
  · cases e
theorem num_ok {f : Nat → Nat} {c lo hi v : Nat} {R R' : TK} (h : tkOK f c 0 R) (e : num f c R lo hi = .ok (v, R')) : pr f c R R' ∧ lo ≤ v ∧ v ≤ hi := by
  unfold num at e
  split at e
  · split at e
    · rename_i hh
      injection e with e
      injection e with e1 e2
      rw [← e1, ← e2]
      exact ⟨pr_tok h, hh⟩
    · cases e
  · cases e
theorem wrd_ok {f : Nat → Nat} {c b s v : Nat} {R R' : TK} (h : tkOK f c 0 R) (hb : 1 ≤ b) (e : wrd f c R b = .ok (s, v, R')) : pr f c R R' ∧ wok b s v := by
  have hs15 := srtH_le f R
  unfold wrd at e
  split at e
  · cases e
  · rename_i n15
    split at e
    · rename_i h12
      injection e with e
      injection e with e1 e2
      injection e2 with e2 e3
      rw [← e1, ← e2, ← e3]
      exact ⟨pr_tok h, by omega, fun _ => rfl, fun _ => by omega, fun q => by omega⟩
    · rename_i h12
      have p1 := pr_tok h
      cases hn : num f c (tokF f c R.2.2) 0 (if srtH f R = 14 then b - 1 else 99) with
      | error e' => rw [hn] at e; cases e
      | ok p =>
        obtain ⟨v', R2⟩ := p
        rw [hn] at e
        dsimp only at e
        injection e with e
        injection e with e1 e2
        injection e2 with e2 e3
        obtain ⟨q1, q2, q3⟩ := num_ok p1.2 hn
        rw [← e1, ← e2, ← e3]
        refine ⟨p1.tr q1, by omega, fun q => absurd q h12, fun q => ?_, fun q => ?_⟩
        · rw [if_neg (by omega)] at q3; exact q3
        · rw [if_pos q] at q3; omega
theorem doL_ok {f : Nat → Nat} {c : Nat} : ∀ n i (R : TK) (t : TD) (R' : TK) (t' : TD), doL f c n i R t = .ok (R', t') → tkOK f c 0 R → kOK t → t 0 3 = i → i + n = 13 → R.2.1 ≤ R'.2.1 ∧ tkOK f c 0 R' ∧ kOK t' ∧ t' 0 2 = t 0 2 := by
  intro n
  induction n with
  | zero =>
    intro i R t R' t' e ho hk h3 hi
    have := hk.2.2.2.2.2.1
    omega
  | succ n ih =>
    intro i R t R' t' e ho hk h3 hi
    unfold doL at e
    split at e
    · injection e with e
      injection e with e1 e2
      rw [← e1, ← e2]
      exact ⟨Nat.le_refl _, ho, hk, rfl⟩
    · split at e
      · cases e
      · rename_i n12
        cases hw : wrd f c R (t 0 0) with
        | error e' => rw [hw] at e; cases e
        | ok p =>
          obtain ⟨s, v, R1⟩ := p
          rw [hw] at e
          dsimp only at e
          obtain ⟨q1, q2⟩ := wrd_ok ho (by have := hk.1; omega) hw
          have h12 : t 0 3 < 12 := by
            have := hk.2.2.2.2.2.1
            rcases Nat.lt_or_ge (t 0 3) 12 with w | w
            · exact w
            · have e15 : srtH f R = 15 := Classical.byContradiction (fun q => n12 ⟨by omega, q⟩)
              rw [wrd_15 e15] at hw
              cases hw
          obtain ⟨z1, z2, z3, z4⟩ := ih (i + 1) R1 (tw t s v) R' t' e q1.2 (kOK_w hk h12 q2) (by show t 0 3 + 1 = i + 1; omega) (by omega)
          exact ⟨by have := q1.1; have := ho.2.1; omega, z2, z3, z4⟩
theorem lnA_ok {f : Nat → Nat} {c : Nat} {R R' : TK} {t t' : TD} (ho : tkOK f c 0 R) (hl : lOK t) (e : lnA f c R t = .ok (R', t')) : pr f c R R' ∧ kOK t' ∧ t' 0 2 = t 0 2 := by
  unfold lnA at e
  split at e
  · rename_i z0
    have e0 : t = t00 := hl.resolve_right (fun w => by omega)
    subst e0
    unfold lnB at e
    cases h1 : txt f c R 0 with
    | error e' => rw [h1] at e; cases e
    | ok R1 =>
    rw [h1] at e; dsimp only at e
    have p1 := txt_ok ho h1
    cases h2 : txt f c R1 1 with
    | error e' => rw [h2] at e; cases e
    | ok R2 =>
    rw [h2] at e; dsimp only at e
    have p2 := txt_ok p1.2 h2
    cases h3 : num f c R2 2 16 with
    | error e' => rw [h3] at e; cases e
    | ok p =>
    obtain ⟨b, R3⟩ := p
    rw [h3] at e; dsimp only at e
    obtain ⟨p3, b1, b2⟩ := num_ok p2.2 h3
    cases h4 : txt f c R3 2 with
    | error e' => rw [h4] at e; cases e
    | ok R4 =>
    rw [h4] at e; dsimp only at e
    have p4 := txt_ok p3.2 h4
    cases h5 : num f c R4 1 (bo b) with
    | error e' => rw [h5] at e; cases e
    | ok p =>
    obtain ⟨n, R5⟩ := p
    rw [h5] at e; dsimp only at e
    obtain ⟨p5, n1, n2⟩ := num_ok p4.2 h5
    injection e with e
    injection e with e1 e2
    rw [← e1, ← e2]
    have := (bo_sp b).1
    exact ⟨(((p1.tr p2).tr p3).tr p4).tr p5, kOK_b b1 b2 n1 (by omega) (bo_1 b1 n1 n2), rfl⟩
  · rename_i z0
    have hk : kOK t := by
      rcases hl with w | w
      · subst w; exact absurd rfl z0
      · exact w.1
    obtain ⟨k1, k2, k3, k4, k5, -⟩ := id hk
    have p0 := pr_tok ho
    split at e
    · unfold lnD at e
      split at e
      · rename_i e3
        obtain ⟨z1, z2, z3, z4⟩ := doL_ok 13 0 _ _ _ _ e p0.2 hk e3 rfl
        exact ⟨⟨by have := p0.1; omega, z2⟩, z3, z4⟩
      · cases e
    · split at e
      · unfold lnT at e
        split at e
        · rename_i h20
          cases hn : num f c (tokF f c R.2.2) 0 (sz t - 1) with
          | error e' => rw [hn] at e; cases e
          | ok p =>
            obtain ⟨v, R1⟩ := p
            rw [hn] at e; dsimp only at e
            injection e with e
            injection e with e1 e2
            obtain ⟨q1, q2, q3⟩ := num_ok p0.2 hn
            have esz : sz t = t 0 0 ^ t 0 1 := by unfold sz; rw [if_neg (by omega)]
            have hpos : 0 < t 0 0 ^ t 0 1 := Nat.pow_pos (by omega)
            rw [← e1, ← e2]
            exact ⟨p0.tr q1, kOK_t hk h20 (by omega), rfl⟩
        · cases e
      · split at e
        · unfold lnS at e
          split at e
          · rename_i h6
            cases h1 : wrd f c (tokF f c R.2.2) (t 0 0) with
            | error e' => rw [h1] at e; cases e
            | ok p =>
            obtain ⟨s, v, R1⟩ := p
            rw [h1] at e; dsimp only at e
            obtain ⟨q1, w1⟩ := wrd_ok p0.2 (by omega) h1
            cases h2 : txt f c R1 21 with
            | error e' => rw [h2] at e; cases e
            | ok R2 =>
            rw [h2] at e; dsimp only at e
            have q2 := txt_ok q1.2 h2
            cases h3 : wrd f c R2 (t 0 0) with
            | error e' => rw [h3] at e; cases e
            | ok p =>
            obtain ⟨s2, v2, R3⟩ := p
            rw [h3] at e; dsimp only at e
            obtain ⟨q3, w3⟩ := wrd_ok q2.2 (by omega) h3
            injection e with e
            injection e with e1 e2
            rw [← e1, ← e2]
            exact ⟨((p0.tr q1).tr q2).tr q3, kOK_s hk h6 w1 w3, rfl⟩
          · cases e
        · cases e
theorem lnB_3 {f : Nat → Nat} {c : Nat} {R R' : TK} {t' : TD} (e : lnB f c R t00 = .ok (R', t')) : t' 0 3 = 0 := by
  unfold lnB at e
  split at e
  · cases e
  · split at e
    · cases e
    · split at e
      · cases e
      · split at e
        · cases e
        · split at e
          · cases e
          · injection e with e
            injection e with e1 e2
            rw [← e2]; rfl
theorem mP_l {a : ud_St} {t : TD} (h : mP a t) : mP (ud_sv a 77 4 (nI (t 0 2 + 1))) (tln t) := by
  obtain ⟨h1, h2, h3, h4, h5, h6, h7, h8, h9, h10⟩ := h
  have o : ∀ k j, ¬ (k = 77 ∧ j = 4) → (ud_sv a 77 4 (nI (t 0 2 + 1))).1 k j = a.1 k j := fun k j q => by rw [us_1, if_neg q]
  refine ⟨by rw [us_1, if_pos ⟨rfl, rfl⟩]; rfl, (o _ _ (by omega)).trans h2, (o _ _ (by omega)).trans h3, (o _ _ (by omega)).trans h4, (o _ _ (by omega)).trans h5, (o _ _ (by omega)).trans h6, (o _ _ (by omega)).trans h7, fun i hi => ?_, fun i hi => ?_, fun i hi => (o _ _ (by omega)).trans (h10 i hi)⟩
  · exact ⟨(o _ _ (by omega)).trans (h8 i hi).1, (o _ _ (by omega)).trans (h8 i hi).2⟩
  · obtain ⟨q1, q2, q3, q4⟩ := h9 i hi
    exact ⟨(o _ _ (by omega)).trans q1, (o _ _ (by omega)).trans q2, (o _ _ (by omega)).trans q3, (o _ _ (by omega)).trans q4⟩
def Pmz (k j : Nat) : Prop := Pmr k j ∨ (k = 71 ∧ (j = 0 ∨ j = 6 ∨ j = 14 ∨ j = 15))
theorem tN4' : Int32.toNatClampNeg 4 = 4 := nI_clamp (n := 4) (by omega)
theorem m_table {a : ud_St} {f : Nat → Nat} {c : Nat} {Q : Int32 → ud_St → Prop} (hb : mby a f c) (h1 : ∀ t, rdF f c = .ok t → ∀ d, fm Pmz a d → mP d t → lOK t → t 0 2 ≤ 800 → d.1 71 6 = 0 → d.1 71 14 = 0 → d.1 71 15 = -1 → w_Model_copyTable d (nI 4) (nI 0) (fun a_13 => vp_in (0 : Int32) 5 ∧ (Q (a_13.1 77 0) a_13))) (h0 : ∀ e, rdF f c = .error e → ∀ d, fm Pmz a d → d.1 71 6 = 0 → d.1 71 14 = nI e.1 → d.1 71 15 = nI e.2 → Q (-4) d) : w_Model_table a Q := by
  have hc := hb.1
  have mz : ∀ k j, Pmr k j → Pmz k j := fun k j q => Or.inl q
  have h4 : vp_in (4 : Int32) 5 := vi_4 (by omega)
  obtain ⟨a0, ha0⟩ : ∃ a0, a0 = ud_sv a 71 0 (0 : Int32) := ⟨_, rfl⟩
  have hfa : fm Pmz a a0 := by rw [ha0]; exact fm.rf.sv (Or.inr ⟨rfl, Or.inl rfl⟩)
  have hb0 : mby a0 f c := ⟨hc, by rw [ha0, us_1, if_neg (by omega)]; exact hb.2.1, fun i hi => ⟨(hb.2.2 i hi).1, by rw [ha0, us_1, if_neg (by omega)]; exact (hb.2.2 i hi).2⟩⟩
  -- behind the last line
  have j71g : ∀ R t d, rdF f c = .ok t → mat a0 d f c R → mP d t → lOK t → t 0 2 ≤ 800 → w_Model_table_j71 a d Q := fun R t d e hx hp hl h8 => by
    obtain ⟨g1, g2, g3, g4, g5⟩ := hx
    unfold w_Model_table_j71 w_Model_isOver
    have e12 : (ud_sv (ud_sv d 71 6 (0 : Int32)) 71 14 ((ud_sv d 71 6 (0 : Int32)).1 71 12)).1 71 12 = 0 := by rw [us_1, if_neg (by omega), us_1, if_neg (by omega)]; exact g5
    have e12' : (ud_sv d 71 6 (0 : Int32)).1 71 12 = 0 := by rw [us_1, if_neg (by omega)]; exact g5
    rw [e12']
    rw [e12'] at e12
    rw [e12]
    refine ⟨fun _ => ?_, fun z => absurd rfl z⟩
    have e3 : (ud_sv (ud_sv (ud_sv d 71 6 (0 : Int32)) 71 14 (0 : Int32)) 71 15 (-1 : Int32)).1 71 12 = 0 := by rw [us_1, if_neg (by omega)]; exact e12
    dsimp only
    rw [e3]
    refine ⟨fun _ => ?_, fun z => absurd rfl z⟩
    simp only [tN_0]
    exact h1 t e _ (((hfa.tr (g1.mono mz)).sv (Or.inr (by omega))).sv (Or.inr (by omega)) |>.sv (Or.inr (by omega))) (mP_c hp (fun k j _ _ => by rw [us_1, if_neg (by omega), us_1, if_neg (by omega), us_1, if_neg (by omega)])) hl h8 (by rw [us_1, if_neg (by omega), us_1, if_neg (by omega), us_1, if_pos ⟨rfl, rfl⟩]) (by rw [us_1, if_neg (by omega), us_1, if_pos ⟨rfl, rfl⟩]) (by rw [us_1, if_pos ⟨rfl, rfl⟩])
  have j71b : ∀ e d, rdF f c = .error e → mbad a0 d e → w_Model_table_j71 a d Q := fun e d he hx => by
    have hn := mbad_n hx
    obtain ⟨g1, g2, g3, -⟩ := hx
    unfold w_Model_table_j71 w_Model_isOver
    have e12' : (ud_sv d 71 6 (0 : Int32)).1 71 12 = d.1 71 12 := by rw [us_1, if_neg (by omega)]
    rw [e12']
    have e12 : ∀ v, (ud_sv (ud_sv d 71 6 (0 : Int32)) 71 14 v).1 71 12 = d.1 71 12 := fun v => by rw [us_1, if_neg (by omega), us_1, if_neg (by omega)]
    have e13 : ∀ v, (ud_sv (ud_sv d 71 6 (0 : Int32)) 71 14 v).1 71 13 = d.1 71 13 := fun v => by rw [us_1, if_neg (by omega), us_1, if_neg (by omega)]
    rw [e12, e13]
    refine ⟨fun z => absurd z hn, fun _ => ?_⟩
    have e3 : ∀ v w, (ud_sv (ud_sv (ud_sv d 71 6 (0 : Int32)) 71 14 v) 71 15 w).1 71 12 = d.1 71 12 := fun v w => by rw [us_1, if_neg (by omega)]; exact e12 v
    dsimp only
    rw [e3]
    refine ⟨fun z => absurd z hn, fun _ => h0 e he _ (((hfa.tr (g1.mono mz)).sv (Or.inr (by omega))).sv (Or.inr (by omega)) |>.sv (Or.inr (by omega))) (by rw [us_1, if_neg (by omega), us_1, if_neg (by omega), us_1, if_pos ⟨rfl, rfl⟩]) (by rw [us_1, if_neg (by omega), us_1, if_pos ⟨rfl, rfl⟩]; exact g2) (by rw [us_1, if_pos ⟨rfl, rfl⟩]; exact g3)⟩
  unfold w_Model_table w_Model_clears
  rw [← ha0, tN4']
  refine ⟨h4, LW2.up 6 (fun i x b => x = nI i ∧ fm Pmr a0 b ∧ b.1 77 4 = 0 ∧ ∀ j, j < i → b.1 78 (24 + j) = 0) ⟨rfl, fm.rf.sv (by unfold Pmr; omega), by rw [us_1, if_pos ⟨rfl, rfl⟩], fun j hj => by omega⟩ ?_ ?_⟩
  · rintro i x b hi ⟨rfl, hf, h77, h78⟩ K hK
    rw [show (24 : Int32) + nI i = nI (24 + i) from nI_add 24 i, nI_clamp (by omega)]
    refine ⟨fun z => absurd ((nI_leI (a := 6) (by omega) (by omega)).mp z) (by omega), fun _ => ⟨vp_in_nI (by omega) (by omega), hK _ _ ⟨nI_1 i, hf.sv (by unfold Pmr; omega), by rw [us_1, if_neg (by omega)]; exact h77, fun j hj => ?_⟩⟩⟩
    rw [us_1]
    by_cases e : j = i
    · rw [if_pos ⟨rfl, by omega⟩]
    · rw [if_neg (by omega)]; exact h78 j (by omega)
  rintro x b ⟨rfl, hf, h77, h78⟩ K
  refine ⟨fun _ => ?_, fun z => absurd (nI_le (a := 6) (Nat.le_refl 6) (by omega)) z⟩
  unfold w_Model_begins
  obtain ⟨b1, hb1⟩ : ∃ b1, b1 = ud_sv (ud_sv (ud_sv (ud_sv b 71 21 (0 : Int32)) 71 12 (0 : Int32)) 71 13 (-1 : Int32)) 71 7 (0 : Int32) := ⟨_, rfl⟩
  rw [← hb1]
  have hf1 : fm Pmr a0 b1 := by rw [hb1]; exact (((hf.sv (by unfold Pmr; omega)).sv (by unfold Pmr; omega)).sv (by unfold Pmr; omega)).sv (by unfold Pmr; omega)
  have o1 : ∀ k j, k ≠ 71 → b1.1 k j = b.1 k j := fun k j q => by rw [hb1, us_1, if_neg (by omega), us_1, if_neg (by omega), us_1, if_neg (by omega), us_1, if_neg (by omega)]
  have hmb1 : mby b1 f c := mby_fm hb0 hf1 (by unfold Pmr; omega) (fun j => by unfold Pmr; omega)
  refine m_next hmb1 (p := 0) (by rw [hb1, us_1, if_pos ⟨rfl, rfl⟩]; rfl) (Nat.zero_le _) (fun b2 hf2 hr2 => ?_)
  have hx2 : mat a0 b2 f c (tokF f c 0) := ⟨hf1.tr (hf2.mono (fun k j q => by unfold Pnx at q; unfold Pmr; omega)), mby_fm hmb1 hf2 (by unfold Pnx; omega) (fun j => by unfold Pnx; omega), hr2, tok_ok (Nat.zero_le _), by rw [hf2.1 71 12 (by unfold Pnx; omega), hb1, us_1, if_neg (by omega), us_1, if_neg (by omega), us_1, if_pos ⟨rfl, rfl⟩]⟩
  have z78 : ∀ j, j < 6 → b2.1 78 (24 + j) = nI 0 := fun j hj => by rw [hf2.1 78 _ (by unfold Pnx; omega), o1 78 _ (by omega)]; exact h78 j hj
  have hp2 : mP b2 t00 := ⟨by rw [hf2.1 77 4 (by unfold Pnx; omega), o1 77 4 (by omega)]; exact h77, z78 0 (by omega), z78 1 (by omega), z78 2 (by omega), z78 3 (by omega), z78 4 (by omega), z78 5 (by omega), fun i hi => absurd hi (Nat.not_lt_zero i), fun i hi => absurd hi (Nat.not_lt_zero i), fun i hi => absurd hi (Nat.not_lt_zero i)⟩
  have h21 : m21 b2 t00 := Or.inl ⟨by rw [hf2.1 71 21 (by unfold Pnx; omega), hb1, us_1, if_neg (by omega), us_1, if_neg (by omega), us_1, if_neg (by omega), us_1, if_pos ⟨rfl, rfl⟩], rfl⟩
  refine LW1.up 802 (fun k d => (∃ R t, rdF f c = lnZ f c (801 - k) R t ∧ t 0 2 = k ∧ k ≤ R.2.1 ∧ mat a0 d f c R ∧ mP d t ∧ lOK t ∧ m21 d t) ∨ ∃ e, rdF f c = .error e ∧ mbad a0 d e) (Or.inl ⟨tokF f c 0, t00, rfl, rfl, Nat.zero_le _, hx2, hp2, Or.inl rfl, h21⟩) ?_ ?_
  · rintro k d hk hI K hK
    rcases hI with ⟨R, t, hz, htk, hkR, hx, hp, hl, h21⟩ | ⟨e, he, hbad⟩
    · have ho := hx.2.2.2.1
      obtain ⟨o1, o2, o3, o4, o5, o6, o7⟩ := id ho
      rw [show 801 - k = (800 - k) + 1 by omega] at hz
      have hz' : rdF f c = if R.1 = 0 then .ok t else
        match lnA f c R t with
        | .error e => .error e
        | .ok (R', t') => if R'.1 = 3 then lnZ f c (800 - k) (tokF f c R'.2.2) (tln t') else .error (1, R'.2.1) := hz
      refine m_isGood (fun _ => t1 ?_) (fun z => absurd hx.2.2.2.2 z)
      rw [hx.2.2.1.1]
      refine ⟨fun z => ?_, fun z => ⟨h4, ?_⟩⟩
      · have e := (nI_eq (b := 0) (by omega) (by omega)).mp z
        rw [if_pos e] at hz'
        exact j71g R t d hz' hx hp hl (by omega)
      · have e : ¬ R.1 = 0 := fun e => z (by rw [e]; rfl)
        rw [if_neg e] at hz'
        have o6' := o6 e
        -- behind a line
        have bad : ∀ d' e, rdF f c = .error e → mbad a0 d' e → w_Model_table_j47 a d' K Q := fun d' e he hbd => by
          unfold w_Model_table_j47
          refine m_isGood (fun z => absurd z (mbad_n hbd)) (fun _ => t0 ⟨h4, h4, ?_⟩)
          simp only [tN4']
          exact hK _ (Or.inr ⟨e, he, mbad_sv hbd (by unfold Pmr; omega) (by omega)⟩)
        have odd : ∀ d' (R' : TK), rdF f c = .error (1, R'.2.1) → R'.1 ≠ 3 → mat a0 d' f c R' → w_Model_table_j47 a d' K Q := fun d' R' he h3 hxd => by
          unfold w_Model_table_j47
          refine m_isGood (fun _ => t1 (m_ends hxd (fun w => absurd w h3) (fun _ d2 hbd => ⟨h4, h4, ?_⟩))) (fun z => absurd hxd.2.2.2.2 z)
          simp only [tN4']
          exact hK _ (Or.inr ⟨_, he, mbad_sv hbd (by unfold Pmr; omega) (by omega)⟩)
        have good : ∀ d' R' t', lnA f c R t = .ok (R', t') → m21 d' t' → mat a0 d' f c R' → mP d' t' → w_Model_table_j47 a d' K Q := fun d' R' t' el hm hxd hpd => by
          obtain ⟨l1, l2, l3⟩ := lnA_ok ho hl el
          rw [el] at hz'
          dsimp only at hz'
          by_cases h3 : R'.1 = 3
          · rw [if_pos h3] at hz'
            unfold w_Model_table_j47
            refine m_isGood (fun _ => t1 (m_ends hxd (fun _ d2 hf2 hx2 => ⟨h4, h4, ?_⟩) (fun w => absurd h3 w))) (fun z => absurd hxd.2.2.2.2 z)
            simp only [tN4']
            have hp2 : mP d2 t' := mP_c hpd (fun k j _ _ => hf2.1 k j (by unfold Pnx; omega))
            rw [hp2.1, nI_1 (t' 0 2)]
            have w1 := (tok_ok (f := f) l1.2.2.2.1).1
            have w2 := l1.2.2.2.2.2.2.1 (by omega)
            have w3 := l1.1
            refine hK _ (Or.inl ⟨tokF f c R'.2.2, tln t', by rw [hz', show 801 - (k + 1) = 800 - k by omega], by show t' 0 2 + 1 = k + 1; omega, by omega, mat_sv hx2 (by unfold Pmr; omega) (by omega), mP_l hp2, Or.inr ⟨l2, by show 1 ≤ t' 0 2 + 1; omega⟩, ?_⟩)
            have e21 : (ud_sv d2 77 4 (nI (t' 0 2 + 1))).1 71 21 = d'.1 71 21 := by rw [us_1, if_neg (by omega), hf2.1 71 21 (by unfold Pnx; omega)]
            unfold m21
            rw [e21]
            exact hm
          · rw [if_neg h3] at hz'
            exact odd d' R' hz' h3 hxd
        have e77 : d.1 77 4 = nI (t 0 2) := hp.1
        try rw [tN4']
        rw [e77]
        refine ⟨fun z0 => ?_, fun z0 => ?_⟩
        · have e0 := (nI_eq (b := 0) (by omega) (by omega)).mp z0
          have et : t = t00 := hl.resolve_right (fun w => by omega)
          subst et
          have eA : lnA f c R t00 = lnB f c R t00 := by unfold lnA; rw [if_pos e0]
          refine m_first hx hp (fun R' t' el d' _ e21 hln => good d' R' t' (eA.trans el) (Or.inl ⟨?_, lnB_3 el⟩) hln.1 hln.2) (fun e he d' hbd => bad d' e (by rw [hz', eA, he]) hbd)
          rcases h21 with w | w
          · rw [e21]; exact w.1
          · exact absurd w.2 (Nat.lt_irrefl 0)
        · have e0 : t 0 2 ≠ 0 := fun e => z0 (by rw [e]; rfl)
          have hkk : kOK t := by
            rcases hl with w | w
            · subst w; exact absurd rfl e0
            · exact w.1
          exact m_line hx hp hkk h21 e0 (fun R' t' el d' hm hxd hpd => good d' R' t' el hm hxd hpd) (fun e he d' hbd => bad d' e (by rw [hz', he]) hbd) (fun R' el h3 d' hxd => odd d' R' (by rw [hz', el]) h3 hxd)
    · exact m_isGood (fun z => absurd z (mbad_n hbad)) (fun _ => t0 (j71b e d he hbad))
  · rintro d hI K
    rcases hI with ⟨R, t, hz, htk, hkR, hx, hp, hl, h21⟩ | ⟨e, he, hbad⟩
    · have ho := hx.2.2.2.1
      have := ho.2.1
      have := ho.2.2.1
      omega
    · exact m_isGood (fun z => absurd z (mbad_n hbad)) (fun _ => t0 (j71b e d he hbad))
