/-! table: the model's reader -/
def Pmr (k j : Nat) : Prop := (k = 71 ∧ ((7 ≤ j ∧ j ≤ 13) ∨ j = 21)) ∨ (k = 77 ∧ j = 4) ∨ (k = 78 ∧ 24 ≤ j ∧ j ≤ 29) ∨ (k = 79 ∧ 96 ≤ j ∧ j < 120) ∨ (k = 80 ∧ 96 ≤ j ∧ j < 120) ∨ (k = 81 ∧ 80 ≤ j ∧ j < 100)
def mP (a : ud_St) (t : TD) : Prop :=
  a.1 77 4 = nI (t 0 2) ∧ a.1 78 24 = nI (t 0 0) ∧ a.1 78 25 = nI (t 0 1) ∧ a.1 78 26 = nI (sz t) ∧ a.1 78 27 = nI (t 0 3) ∧ a.1 78 28 = nI (t 0 4) ∧ a.1 78 29 = nI (t 0 5) ∧
  (∀ i, i < t 0 3 → a.1 79 (96 + 2 * i) = nI (t 1 i) ∧ a.1 79 (96 + 2 * i + 1) = enc (t 1 i) (t 2 i)) ∧
  (∀ i, i < t 0 4 → a.1 80 (96 + 4 * i) = nI (t 3 i) ∧ a.1 80 (96 + 4 * i + 1) = enc (t 3 i) (t 4 i) ∧ a.1 80 (96 + 4 * i + 2) = nI (t 5 i) ∧ a.1 80 (96 + 4 * i + 3) = enc (t 5 i) (t 6 i)) ∧
  ∀ i, i < t 0 5 → a.1 81 (80 + i) = nI (t 7 i)
theorem mP_c {a a' : ud_St} {t : TD} (h : mP a t) (e : ∀ k j, 77 ≤ k → k ≤ 81 → a'.1 k j = a.1 k j) : mP a' t := by
  obtain ⟨h1, h2, h3, h4, h5, h6, h7, h8, h9, h10⟩ := h
  refine ⟨(e _ _ (by omega) (by omega)).trans h1, (e _ _ (by omega) (by omega)).trans h2, (e _ _ (by omega) (by omega)).trans h3, (e _ _ (by omega) (by omega)).trans h4, (e _ _ (by omega) (by omega)).trans h5, (e _ _ (by omega) (by omega)).trans h6, (e _ _ (by omega) (by omega)).trans h7, fun i hi => ?_, fun i hi => ?_, fun i hi => (e _ _ (by omega) (by omega)).trans (h10 i hi)⟩
  · exact ⟨(e _ _ (by omega) (by omega)).trans (h8 i hi).1, (e _ _ (by omega) (by omega)).trans (h8 i hi).2⟩
  · obtain ⟨q1, q2, q3, q4⟩ := h9 i hi
    exact ⟨(e _ _ (by omega) (by omega)).trans q1, (e _ _ (by omega) (by omega)).trans q2, (e _ _ (by omega) (by omega)).trans q3, (e _ _ (by omega) (by omega)).trans q4⟩
def mat (a0 a : ud_St) (f : Nat → Nat) (c : Nat) (R : TK) : Prop := fm Pmr a0 a ∧ mby a f c ∧ mr a f R ∧ tkOK f c 0 R ∧ a.1 71 12 = 0
def mbad (a0 a : ud_St) (e : Nat × Nat) : Prop := fm Pmr a0 a ∧ a.1 71 12 = nI e.1 ∧ a.1 71 13 = nI e.2 ∧ 1 ≤ e.1 ∧ e.1 ≤ 3
theorem mbad_n {a0 a : ud_St} {e : Nat × Nat} (h : mbad a0 a e) : ¬ a.1 71 12 = 0 := fun z => by
  obtain ⟨-, h2, -, h4, h5⟩ := h
  rw [h2] at z
  have := (nI_eq (b := 0) (by omega) (by omega)).mp z
  omega
theorem mbad_sv {a0 a : ud_St} {e : Nat × Nat} {k j : Nat} {v : Int32} (h : mbad a0 a e) (q : Pmr k j) (q2 : ¬ (k = 71 ∧ (j = 12 ∨ j = 13))) : mbad a0 (ud_sv a k j v) e := by
  obtain ⟨h1, h2, h3, h4⟩ := h
  exact ⟨h1.sv q, by rw [us_1, if_neg (by omega)]; exact h2, by rw [us_1, if_neg (by omega)]; exact h3, h4⟩
theorem mat_sv {a0 a : ud_St} {f : Nat → Nat} {c k j : Nat} {v : Int32} {R : TK} (h : mat a0 a f c R) (q : Pmr k j) (q2 : ¬ (k = 71 ∧ j ≠ 21)) : mat a0 (ud_sv a k j v) f c R := by
  obtain ⟨g1, g2, g3, g4, g5⟩ := h
  refine ⟨g1.sv q, ⟨g2.1, by rw [us_1, if_neg (by omega)]; exact g2.2.1, fun i hi => ⟨(g2.2.2 i hi).1, by rw [us_1, if_neg (by unfold Pmr at q; omega)]; exact (g2.2.2 i hi).2⟩⟩, ⟨?_, ?_, ?_, fun w => ?_, fun w => g3.2.2.2.2 w⟩, g4, by rw [us_1, if_neg (by omega)]; exact g5⟩
  · rw [us_1, if_neg (by omega)]; exact g3.1
  · rw [us_1, if_neg (by omega)]; exact g3.2.1
  · rw [us_1, if_neg (by omega)]; exact g3.2.2.1
  · rw [us_1, if_neg (by omega)]; exact g3.2.2.2.1 w
theorem m_isGood {a : ud_St} {Q : Int32 → Prop} (h1 : a.1 71 12 = 0 → Q 1) (h0 : ¬ a.1 71 12 = 0 → Q 0) : w_Model_isGood a Q := ⟨h1, h0⟩
theorem m_fails {a0 a : ud_St} {f : Nat → Nat} {c s : Nat} {R : TK} {Q : ud_St → Prop} (h : mat a0 a f c R) (hs : 1 ≤ s) (hs2 : s ≤ 3) (hQ : ∀ a', mbad a0 a' (s, R.2.1) → Q a') : w_Model_fails a (nI s) Q := by
  obtain ⟨g1, g2, g3, g4, g5⟩ := h
  refine ⟨fun _ => hQ _ ⟨(g1.sv (by unfold Pmr; omega)).sv (by unfold Pmr; omega), by rw [us_1, if_neg (by omega), us_1, if_pos ⟨rfl, rfl⟩], by rw [us_1, if_pos ⟨rfl, rfl⟩, us_1, if_neg (by omega)]; exact g3.2.1, hs, hs2⟩, fun z => absurd g5 z⟩
theorem m_failsB {a0 a : ud_St} {e : Nat × Nat} {v : Int32} {Q : ud_St → Prop} (h : mbad a0 a e) (hQ : Q a) : w_Model_fails a v Q := ⟨fun z => absurd z (mbad_n h), fun _ => hQ⟩
theorem m_nx {a0 a : ud_St} {f : Nat → Nat} {c : Nat} {R : TK} {Q : ud_St → Prop} (h : mat a0 a f c R) (hQ : ∀ a', fm Pnx a a' → mat a0 a' f c (tokF f c R.2.2) → Q a') : w_Model_next a Q := by
  obtain ⟨g1, g2, g3, g4, g5⟩ := h
  refine m_next g2 g3.2.2.1 g4.2.2.1 (fun a' hf hr => hQ a' hf ⟨g1.tr (hf.mono (fun k j q => by unfold Pnx at q; unfold Pmr; omega)), mby_fm g2 hf (by unfold Pnx; omega) (fun j => by unfold Pnx; omega), hr, tkOK_0 (tok_ok g4.2.2.1), (hf.1 _ _ (by unfold Pnx; omega)).trans g5⟩)
/-- hash of a text -/
def hsh (t : Nat) : Nat := Wd (fun i => (tx t).getD i 0 - 96) (tx t).length
theorem m_is {a0 a : ud_St} {f : Nat → Nat} {c t : Nat} {hs : Int64} {R : TK} {Q : Int32 → Prop} (h : mat a0 a f c R) (ht : t < 22) (hh : hs.toInt = (hsh t : Int)) (h1 : isW f R (tx t) = true → Q 1) (h0 : isW f R (tx t) = false → Q 0) : w_Model_is a hs Q := by
  obtain ⟨g1, g2, g3, g4, g5⟩ := h
  obtain ⟨o1, o2, o3, o4, o5, o6, o7⟩ := id g4
  obtain ⟨hl, hl6⟩ := tx_len ⟨t, ht⟩
  have hl6' : (tx t).length ≤ 6 := hl6
  have hat := fun i (hi : i < (tx t).length) => (tx_at ⟨t, ht⟩ ⟨i, by omega⟩ hi).2
  simp only at hat
  unfold w_Model_is
  rw [g3.1]
  refine ⟨fun _ => ⟨fun z => ?_, fun z => h0 (isW_f (fun w => z (by rw [w.1]; rfl)))⟩, fun z => absurd g5 z⟩
  have e1 := (nI_eq (b := 1) (by omega) (by omega)).mp z
  have hw := g3.2.2.2.2 e1
  have lets : ∀ i, i < R.2.2 - R.2.1 → 97 ≤ f (R.2.1 + i) ∧ f (R.2.1 + i) ≤ 122 := fun i hi => kd_let.mp ((o7 (Or.inl e1) _ (by omega) (by omega)).trans e1)
  have key : lg_cmp (a.2.1 71 11) hs = 0 ↔ isW f R (tx t) = true := by
    rw [lg_cmp_eq, ← Int64.toInt_inj, hw, hh, isW_t]
    unfold wz hsh
    constructor
    · intro e
      by_cases q : R.2.2 - R.2.1 ≤ 12
      · rw [if_pos q] at e
        have e' := Int.ofNat.inj e
        obtain ⟨w1, w2⟩ := Wd_inj (fun i hi => by have := lets i hi; omega) (fun i hi => by have := hat i hi; omega) e'
        refine ⟨e1, w1, fun i hi => ?_⟩
        have := w2 i (by omega)
        have := lets i (by omega)
        have := hat i hi
        dsimp only at *
        omega
      · rw [if_neg q] at e
        omega
    · rintro ⟨-, w1, w2⟩
      rw [if_pos (by omega), w1]
      rw [Wd_cong (fun i hi => by rw [w2 i hi])]
  refine ⟨fun z2 => h1 (key.mp z2), fun z2 => h0 ?_⟩
  cases q : isW f R (tx t)
  · rfl
  · exact absurd (key.mpr q) z2
theorem m_isB {a0 a : ud_St} {e : Nat × Nat} {hs : Int64} {Q : Int32 → Prop} (h : mbad a0 a e) (hQ : Q 0) : w_Model_is a hs Q := ⟨fun z => absurd z (mbad_n h), fun _ => hQ⟩
theorem m_asks {a0 a : ud_St} {f : Nat → Nat} {c t : Nat} {hs : Int64} {R : TK} {Q : ud_St → Prop} (h : mat a0 a f c R) (ht : t < 22) (hh : hs.toInt = (hsh t : Int)) (h1 : ∀ R', txt f c R t = .ok R' → ∀ a', fm Pnx a a' → mat a0 a' f c R' → Q a') (h0 : ∀ e, txt f c R t = .error e → ∀ a', mbad a0 a' e → Q a') : w_Model_asks a hs Q := by
  unfold txt at h1 h0
  unfold w_Model_asks w_Model_takes
  refine m_is h ht hh (fun w => t1 ?_) (fun w => t0 (t0 ?_))
  · rw [if_pos w] at h1
    exact m_nx h (fun a' hf hx => t1 (h1 _ rfl a' hf hx))
  · rw [if_neg (by rw [w]; decide)] at h0
    exact m_fails (s := 1) h (by omega) (by omega) (fun a' hx => h0 _ rfl a' hx)
theorem m_asksB {a0 a : ud_St} {e : Nat × Nat} {hs : Int64} {Q : ud_St → Prop} (h : mbad a0 a e) (hQ : Q a) : w_Model_asks a hs Q := by
  unfold w_Model_asks w_Model_takes
  exact m_isB h (t0 (t0 (m_failsB h hQ)))
theorem m_number {a0 a : ud_St} {f : Nat → Nat} {c lo hi : Nat} {R : TK} {Q : Int32 → ud_St → Prop} (h : mat a0 a f c R) (hl : lo < 1000) (hh : hi < 100000) (h1 : ∀ v R', num f c R lo hi = .ok (v, R') → lo ≤ v → v ≤ hi → ∀ a', fm Pnx a a' → mat a0 a' f c R' → Q (nI v) a') (h0 : ∀ e, num f c R lo hi = .error e → ∀ a', mbad a0 a' e → Q (nI lo) a') : w_Model_number a (nI lo) (nI hi) Q := by
  obtain ⟨g1, g2, g3, g4, g5⟩ := id h
  obtain ⟨o1, o2, o3, o4, o5, o6, o7⟩ := id g4
  have hc := g2.1
  unfold num at h1 h0
  unfold w_Model_number
  rw [g3.1]
  refine ⟨fun _ => ⟨fun z => ?_, fun z => ?_⟩, fun z => absurd g5 z⟩
  · have e2 := (nI_eq (b := 2) (by omega) (by omega)).mp z
    rw [if_pos e2] at h1 h0
    rw [g3.2.2.2.1 e2]
    obtain ⟨u, hu⟩ : ∃ u, u = nv f R.2.1 (R.2.2 - R.2.1) := ⟨_, rfl⟩
    rw [← hu] at h1 h0 ⊢
    have hu2 : u ≤ 1000009 := by
      have dig : ∀ j, R.2.1 ≤ j → j < R.2.2 → 48 ≤ f j ∧ f j ≤ 57 := fun j q1 q2 => kd_dig.mp ((o7 (Or.inr e2) j q1 q2).trans e2)
      have key : ∀ k, k ≤ R.2.2 - R.2.1 → nv f R.2.1 k ≤ 1000009 := by
        intro k
        induction k with
        | zero => intro _; unfold nv; omega
        | succ k ih =>
          intro hk
          have := ih (by omega)
          have := dig (R.2.1 + k) (by omega) (by omega)
          rw [nv_s]
          split <;> omega
      rw [hu]; exact key _ (Nat.le_refl _)
    refine m_in (fun q1 q2 => t1 ?_) (fun q => t0 ?_)
    · rw [lI_toInt, lI_toInt, nI_toInt (by omega), nI_toInt (by omega)] at q1 q2
      have w1 : lo ≤ u := by omega
      have w2 : u ≤ hi := by omega
      rw [if_pos ⟨w1, w2⟩] at h1
      exact m_nx h (fun a' hf hx => h1 _ _ rfl w1 w2 a' hf hx)
    · rw [lI_toInt, lI_toInt, lI_toInt, nI_toInt (by omega), nI_toInt (by omega), nI_toInt (by omega)] at q
      rw [if_neg (by omega)] at h0
      exact m_fails (s := 2) h (by omega) (by omega) (fun a' hx => h0 _ rfl a' hx)
  · rw [if_neg (fun w => z (by rw [w]; rfl))] at h0
    exact m_fails (s := 1) h (by omega) (by omega) (fun a' hx => h0 _ rfl a' hx)
theorem m_numberB {a0 a : ud_St} {e : Nat × Nat} {lo hi : Int32} {Q : Int32 → ud_St → Prop} (h : mbad a0 a e) (hQ : Q lo a) : w_Model_number a lo hi Q := ⟨fun z => absurd z (mbad_n h), fun _ => hQ⟩
theorem m_many {a : ud_St} {j : Nat} {Q : Int32 → Prop} (hj : j < 6) (hQ : Q (a.1 78 (24 + j))) : w_Model_many a (nI j) Q := by
  unfold w_Model_many
  rw [show (24 : Int32) + nI j = nI (24 + j) from nI_add 24 j, nI_clamp (by omega)]
  exact ⟨vp_in_nI (by omega) (by omega), hQ⟩
theorem m_sortHere {a0 a : ud_St} {f : Nat → Nat} {c : Nat} {R : TK} {Q : Int32 → Prop} (h : mat a0 a f c R) (h1 : srtH f R < 15 → Q (nI (srtH f R))) (h0 : srtH f R = 15 → Q (-1)) : w_Model_sortHere a Q := by
  have fx : ∀ s, (∀ j, j < s → isW f R (tx (4 + j)) = false) → isW f R (tx (4 + s)) = false → ∀ j, j < s + 1 → isW f R (tx (4 + j)) = false := fun s hs h2 j hj => by
    by_cases e : j = s
    · rw [e]; exact h2
    · exact hs j (by omega)
  have at_ : ∀ s, s < 15 → (∀ j, j < s → isW f R (tx (4 + j)) = false) → isW f R (tx (4 + s)) = true → Q (nI s) := fun s hs h2 h3 => by
    have e := srtH_at hs h2 h3
    rw [e] at h1
    exact h1 hs
  unfold w_Model_sortHere
  have F0 : ∀ j, j < 0 → isW f R (tx (4 + j)) = false := fun j hj => by omega
  refine m_is (t := 4) h (by omega) (by decide) (fun w => t1 (at_ 0 (by omega) F0 w)) (fun w => t0 ?_)
  have F1 := fx 0 F0 w
  refine m_is (t := 5) h (by omega) (by decide) (fun w => t1 (at_ 1 (by omega) F1 w)) (fun w => t0 ?_)
  have F2 := fx 1 F1 w
  refine m_is (t := 6) h (by omega) (by decide) (fun w => t1 (at_ 2 (by omega) F2 w)) (fun w => t0 ?_)
  have F3 := fx 2 F2 w
  refine m_is (t := 7) h (by omega) (by decide) (fun w => t1 (at_ 3 (by omega) F3 w)) (fun w => t0 ?_)
  have F4 := fx 3 F3 w
  refine m_is (t := 8) h (by omega) (by decide) (fun w => t1 (at_ 4 (by omega) F4 w)) (fun w => t0 ?_)
  have F5 := fx 4 F4 w
  refine m_is (t := 9) h (by omega) (by decide) (fun w => t1 (at_ 5 (by omega) F5 w)) (fun w => t0 ?_)
  have F6 := fx 5 F5 w
  refine m_is (t := 10) h (by omega) (by decide) (fun w => t1 (at_ 6 (by omega) F6 w)) (fun w => t0 ?_)
  have F7 := fx 6 F6 w
  refine m_is (t := 11) h (by omega) (by decide) (fun w => t1 (at_ 7 (by omega) F7 w)) (fun w => t0 ?_)
  have F8 := fx 7 F7 w
  refine m_is (t := 12) h (by omega) (by decide) (fun w => t1 (at_ 8 (by omega) F8 w)) (fun w => t0 ?_)
  have F9 := fx 8 F8 w
  refine m_is (t := 13) h (by omega) (by decide) (fun w => t1 (at_ 9 (by omega) F9 w)) (fun w => t0 ?_)
  have F10 := fx 9 F9 w
  refine m_is (t := 14) h (by omega) (by decide) (fun w => t1 (at_ 10 (by omega) F10 w)) (fun w => t0 ?_)
  have F11 := fx 10 F10 w
  refine m_is (t := 15) h (by omega) (by decide) (fun w => t1 (at_ 11 (by omega) F11 w)) (fun w => t0 ?_)
  have F12 := fx 11 F11 w
  refine m_is (t := 16) h (by omega) (by decide) (fun w => t1 (at_ 12 (by omega) F12 w)) (fun w => t0 ?_)
  have F13 := fx 12 F12 w
  refine m_is (t := 17) h (by omega) (by decide) (fun w => t1 (at_ 13 (by omega) F13 w)) (fun w => t0 ?_)
  have F14 := fx 13 F13 w
  refine m_is (t := 18) h (by omega) (by decide) (fun w => t1 (at_ 14 (by omega) F14 w)) (fun w => t0 ?_)
  exact h0 (srtH_no (fx 14 F14 w))
/-- a word's two cells -/
def Pwd (k1 i k j : Nat) : Prop := Pnx k j ∨ (k = k1 ∧ (j = i ∨ j = i + 1))
theorem m_wordTo {a0 a : ud_St} {f : Nat → Nat} {c b k1 i : Nat} {R : TK} {Q : ud_St → Prop} (h : mat a0 a f c R) (hk : k1 = 79 ∨ k1 = 80) (hi : 96 ≤ i) (hi2 : i + 1 < 120) (hb : a.1 78 24 = nI b) (hb1 : 1 ≤ b) (hb2 : b ≤ 16) (h1 : ∀ s v R', wrd f c R b = .ok (s, v, R') → wok b s v → ∀ a', fm (Pwd k1 i) a a' → a'.1 k1 i = nI s → a'.1 k1 (i + 1) = enc s v → mat a0 a' f c R' → Q a') (h0 : ∀ e, wrd f c R b = .error e → ∀ a', mbad a0 a' e → Q a') : w_Model_wordTo a k1 120 (nI i) Q := by
  have hs15 := srtH_le f R
  have pw0 : Pmr k1 i := by unfold Pmr; omega
  have pw1 : Pmr k1 (i + 1) := by unfold Pmr; omega
  unfold wrd at h1 h0
  unfold w_Model_wordTo
  refine m_sortHere h (fun w => ?_) (fun w => ?_)
  · rw [if_neg (by omega)] at h1 h0
    obtain ⟨s, hs⟩ : ∃ s, s = srtH f R := ⟨_, rfl⟩
    rw [← hs] at w h1 h0 ⊢
    refine ⟨fun z => absurd z (ui_ne1 (by omega)), fun _ => ?_⟩
    unfold w_Model_wordTo_j15
    refine ⟨fun _ => m_nx h (fun a1 hf1 hx1 => ⟨vp_in_nI (by omega) (by omega), ?_⟩), fun z => absurd h.2.2.2.2 z⟩
    rw [nI_1, nI_clamp (by omega), nI_clamp (by omega)]
    have hx2 := mat_sv (v := nI s) hx1 pw0 (by omega)
    have hf2 : fm (Pwd k1 i) a (ud_sv a1 k1 i (nI s)) := (hf1.mono (fun k j q => Or.inl q)).sv (Or.inr ⟨rfl, Or.inl rfl⟩)
    have e2 : (ud_sv a1 k1 i (nI s)).1 k1 i = nI s := by rw [us_1, if_pos ⟨rfl, rfl⟩]
    have eb : (ud_sv a1 k1 i (nI s)).1 78 24 = nI b := by rw [us_1, if_neg (by omega), hf1.1 78 24 (by unfold Pnx; omega)]; exact hb
    have hv1 : vp_in (nI (i + 1)) 120 := vp_in_nI (by omega) (by omega)
    have go : ∀ hi', ¬ s < 12 → hi' = (if s = 14 then b - 1 else 99) → w_Model_number (ud_sv a1 k1 i (nI s)) (nI 0) (nI hi') (fun r_7 a_8 => vp_in (nI (i + 1)) 120 ∧ Q (ud_sv a_8 k1 (i + 1) r_7)) := fun hi' h12 ehi => by
      rw [if_neg h12, ← ehi] at h1 h0
      have hhi : hi' ≤ 99 := by rw [ehi]; split <;> omega
      refine m_number hx2 (by omega) (by omega) (fun v R' e v1 v2 a3 hf3 hx3 => ⟨hv1, ?_⟩) (fun e he a3 hx3 => ⟨hv1, ?_⟩)
      · rw [e] at h1
        refine h1 _ _ _ rfl ⟨by omega, fun q => absurd q h12, fun q => by omega, fun q => by rw [if_pos q] at ehi; omega⟩ _ ((hf2.tr (hf3.mono (fun k j q => Or.inl q))).sv (Or.inr ⟨rfl, Or.inr rfl⟩)) ?_ ?_ (mat_sv hx3 pw1 (by omega))
        · rw [us_1, if_neg (by omega), hf3.1 k1 i (by unfold Pnx; omega)]; exact e2
        · rw [us_1, if_pos ⟨rfl, rfl⟩]
          unfold enc
          rw [if_neg h12]
      · rw [he] at h0
        exact h0 _ rfl _ (mbad_sv hx3 pw1 (by omega))
    refine ⟨fun z => ?_, fun z => ⟨fun z2 => ?_, fun z2 => ?_⟩⟩
    · have e14 := (nI_eq (b := 14) (by omega) (by omega)).mp z
      refine m_many (j := 0) (by omega) ?_
      rw [show 24 + 0 = 24 from rfl, eb, ui_pred (by omega)]
      exact go (b - 1) (by omega) (by rw [if_pos e14])
    · have h12 := (nI_ltI (b := 12) (by omega) (by omega)).mp z2
      rw [if_pos h12] at h1
      refine ⟨hv1, h1 _ _ _ rfl ⟨by omega, fun _ => rfl, fun _ => by omega, fun q => by omega⟩ _ (hf2.sv (Or.inr ⟨rfl, Or.inr rfl⟩)) ?_ ?_ (mat_sv hx2 pw1 (by omega))⟩
      · rw [us_1, if_neg (by omega)]; exact e2
      · rw [us_1, if_pos ⟨rfl, rfl⟩]
        unfold enc
        rw [if_pos h12]
    · have h12 : ¬ s < 12 := fun q => z2 (nI_lt (b := 12) q (by omega))
      exact go 99 h12 (by rw [if_neg (fun q => z (by rw [q]; rfl))])
  · rw [if_pos w] at h0
    refine ⟨fun _ => m_fails (s := 1) h (by omega) (by omega) (fun a' hx => ?_), fun z => absurd rfl z⟩
    unfold w_Model_wordTo_j15
    exact ⟨fun z => absurd z (mbad_n hx), fun _ => h0 _ rfl a' hx⟩
theorem m_power {a : ud_St} {b n : Nat} {Q : Int32 → Prop} (hb : 2 ≤ b) (hb2 : b ≤ 16) (hn : n ≤ 8) (hQ : ∀ w, w ≤ 160000 → (b ^ n ≤ 10000 → w = b ^ n) → (10000 < b ^ n → 10000 < w) → Q (nI w)) : w_Model_power a (nI b) (nI n) Q := by
  unfold w_Model_power
  refine LW2.up n (fun i v x => v = nI (b ^ i) ∧ x = nI i ∧ b ^ i ≤ 160000) ⟨rfl, rfl, by rw [Nat.pow_zero]; omega⟩ ?_ ?_
  · rintro i v x hi ⟨rfl, rfl, hle⟩ K hK
    refine ⟨fun z => absurd z (nI_ge hi (by omega)), fun _ => ⟨fun z => ?_, fun z => ?_⟩⟩
    · have h1 := (nI_ltI (a := 10000) (by omega) (by omega)).mp z
      have h2 : b ^ i ≤ b ^ n := Nat.pow_le_pow_right (by omega) (by omega)
      exact hQ _ hle (fun w => by omega) (fun _ => h1)
    · have h1 : b ^ i ≤ 10000 := by
        rcases Nat.lt_or_ge 10000 (b ^ i) with w | w
        · exact absurd (nI_lt (a := 10000) w (by omega)) z
        · exact w
      rw [ui_mul]
      refine hK _ _ ⟨by rw [Nat.pow_succ], nI_1 i, ?_⟩
      rw [Nat.pow_succ]
      calc b ^ i * b ≤ 10000 * 16 := Nat.mul_le_mul h1 hb2
        _ = 160000 := rfl
  · rintro v x ⟨rfl, rfl, hle⟩ K
    exact ⟨fun _ => hQ _ hle (fun _ => rfl) id, fun z => absurd (nI_le (Nat.le_refl _) (by omega)) z⟩
