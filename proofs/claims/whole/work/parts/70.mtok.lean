/-! table: the model's tokens -/
theorem sb_lo {v : Nat} (h : v < 128) : (nI v).toInt8.toInt32 = nI v := fb_byte (by rw [nI_toInt (by omega)]; omega) (by rw [nI_toInt (by omega)]; omega)
theorem sb_hi {v : Nat} (h : 128 ≤ v) (h2 : v < 256) : (nI v).toInt8.toInt32.toInt = (v : Int) - 256 := by
  rw [Int8.toInt_toInt32, Int32.toInt_toInt8, nI_toInt (by omega)]
  rw [Int.bmod_def]
  omega
theorem sb_neg {v : Nat} (h : 128 ≤ v) (h2 : v < 256) (k : Nat) (hk : k < 2 ^ 31) : (nI v).toInt8.toInt32 < nI k := by
  rw [Int32.lt_iff_toInt_lt, sb_hi h h2, nI_toInt hk]; omega
def mby (a : ud_St) (f : Nat → Nat) (c : Nat) : Prop := c ≤ 800 ∧ a.1 71 6 = nI c ∧ ∀ i, i < c → f i < 256 ∧ a.1 76 i = (nI (f i)).toInt8.toInt32
theorem m_isByte {a : ud_St} {f : Nat → Nat} {c i lo hi : Nat} {Q : Int32 → Prop} (hb : mby a f c) (hi2 : i < 2 ^ 31) (hl : hi < 128) (hll : lo < 2 ^ 31) (h1 : i < c → lo ≤ f i → f i ≤ hi → Q 1) (h0 : ¬ (i < c ∧ lo ≤ f i ∧ f i ≤ hi) → Q 0) : w_Model_isByte a (nI i) (nI lo) (nI hi) Q := by
  obtain ⟨hc, h6, hby⟩ := hb
  unfold w_Model_isByte
  rw [h6, nI_clamp hi2]
  refine ⟨fun z => h0 (fun w => by have := (nI_leI (by omega) (by omega)).mp z; omega), fun z => ?_⟩
  have hic := (ui_ltn hi2 (by omega)).mp z
  obtain ⟨hf, e⟩ := hby i hic
  have hv : vp_in (nI i) 800 := vp_in_nI (by omega) (by omega)
  rw [e]
  rcases Nat.lt_or_ge (f i) 128 with w | w
  · rw [sb_lo w]
    refine ⟨hv, fun q => h0 (fun u => by have := (nI_ltI (by omega) (by omega)).mp q; omega), fun q => ⟨hv, fun q2 => h0 (fun u => by have := (nI_ltI (by omega) (by omega)).mp q2; omega), fun q2 => h1 hic ?_ ?_⟩⟩
    · rcases Nat.lt_or_ge (f i) lo with u | u
      · exact absurd (nI_lt u (by omega)) q
      · exact u
    · rcases Nat.lt_or_ge hi (f i) with u | u
      · exact absurd (nI_lt u (by omega)) q2
      · exact u
  · exact ⟨hv, fun _ => h0 (fun u => by omega), fun q => absurd (sb_neg w hf lo hll) q⟩
/-- a value, and a word, from k bytes -/
def nv (f : Nat → Nat) (p : Nat) : Nat → Nat
  | 0 => 0
  | k + 1 => if nv f p k ≤ 100000 then 10 * nv f p k + f (p + k) - 48 else 1000000
theorem nv_s (f : Nat → Nat) (p k : Nat) : nv f p (k + 1) = if nv f p k ≤ 100000 then 10 * nv f p k + f (p + k) - 48 else 1000000 := rfl
def Wd (d : Nat → Nat) : Nat → Nat
  | 0 => 0
  | k + 1 => 27 * Wd d k + d k
theorem Wd_inj {d e : Nat → Nat} : ∀ {n m : Nat}, (∀ i, i < n → 1 ≤ d i ∧ d i ≤ 26) → (∀ i, i < m → 1 ≤ e i ∧ e i ≤ 26) → Wd d n = Wd e m → n = m ∧ ∀ i, i < n → d i = e i := by
  intro n
  induction n with
  | zero =>
    intro m h1 h2 h
    cases m with
    | zero => exact ⟨rfl, fun i hi => by omega⟩
    | succ m =>
      have := h2 m (by omega)
      unfold Wd at h
      omega
  | succ n ih =>
    intro m h1 h2 h
    cases m with
    | zero =>
      have := h1 n (by omega)
      unfold Wd at h
      omega
    | succ m =>
      have a1 := h1 n (by omega)
      have a2 := h2 m (by omega)
      have h' : 27 * Wd d n + d n = 27 * Wd e m + e m := h
      have ed : d n = e m := by omega
      obtain ⟨q1, q2⟩ := ih (m := m) (fun i hi => h1 i (by omega)) (fun i hi => h2 i (by omega)) (by omega)
      refine ⟨by omega, fun i hi => ?_⟩
      by_cases ei : i = n
      · rw [ei, ed, q1]
      · exact q2 i (by omega)
theorem Wd_lt {d : Nat → Nat} : ∀ {n : Nat}, (∀ i, i < n → d i ≤ 26) → Wd d n < 27 ^ n := by
  intro n
  induction n with
  | zero => intro _; exact Nat.one_pos
  | succ n ih =>
    intro h
    have a1 := ih (fun i hi => h i (by omega))
    have a2 := h n (by omega)
    unfold Wd
    rw [Nat.pow_succ]
    omega
theorem Wd_cong {d e : Nat → Nat} : ∀ {n : Nat}, (∀ i, i < n → d i = e i) → Wd d n = Wd e n := by
  intro n
  induction n with
  | zero => intro _; rfl
  | succ n ih => intro h; unfold Wd; rw [ih (fun i hi => h i (by omega)), h n (by omega)]
def wz (f : Nat → Nat) (R : TK) : Int := if R.2.2 - R.2.1 ≤ 12 then ((Wd (fun i => f (R.2.1 + i) - 96) (R.2.2 - R.2.1) : Nat) : Int) else -1
/-- the model's reader is at R -/
def mr (a : ud_St) (f : Nat → Nat) (R : TK) : Prop := a.1 71 8 = nI R.1 ∧ a.1 71 9 = nI R.2.1 ∧ a.1 71 7 = nI R.2.2 ∧ (R.1 = 2 → a.1 71 10 = nI (nv f R.2.1 (R.2.2 - R.2.1))) ∧ (R.1 = 1 → (a.2.1 71 11).toInt = wz f R)
def fm (P : Nat → Nat → Prop) (a a' : ud_St) : Prop := (∀ k j, ¬ P k j → a'.1 k j = a.1 k j) ∧ (∀ k j, ¬ (k = 71 ∧ j = 11) → a'.2.1 k j = a.2.1 k j) ∧ a'.2.2 = a.2.2
theorem fm.rf {P : Nat → Nat → Prop} {a : ud_St} : fm P a a := ⟨fun _ _ _ => rfl, fun _ _ _ => rfl, rfl⟩
theorem fm.tr {P : Nat → Nat → Prop} {a b c : ud_St} (h : fm P a b) (h2 : fm P b c) : fm P a c := ⟨fun k j q => (h2.1 k j q).trans (h.1 k j q), fun k j q => (h2.2.1 k j q).trans (h.2.1 k j q), h2.2.2.trans h.2.2⟩
theorem fm.mono {P R : Nat → Nat → Prop} {a b : ud_St} (h : fm P a b) (e : ∀ k j, P k j → R k j) : fm R a b := ⟨fun k j q => h.1 k j (fun z => q (e k j z)), h.2.1, h.2.2⟩
theorem fm.sv {P : Nat → Nat → Prop} {a b : ud_St} {k j : Nat} {v : Int32} (h : fm P a b) (q : P k j) : fm P a (ud_sv b k j v) := ⟨fun k' j' q' => by rw [us_1, if_neg (fun z => q' (by rw [z.1, z.2]; exact q))]; exact h.1 k' j' q', h.2.1, h.2.2⟩
theorem fm.sl {P : Nat → Nat → Prop} {a b : ud_St} {v : Int64} (h : fm P a b) : fm P a (ud_sl b 71 11 v) := ⟨h.1, fun k' j' q' => by rw [us_l2, if_neg q']; exact h.2.1 k' j' q', h.2.2⟩
def Pnx (k j : Nat) : Prop := k = 71 ∧ 7 ≤ j ∧ j ≤ 10
theorem mby_fm {P : Nat → Nat → Prop} {a a' : ud_St} {f : Nat → Nat} {c : Nat} (h : mby a f c) (hf : fm P a a') (hP : ¬ P 71 6) (hP2 : ∀ j, ¬ P 76 j) : mby a' f c := ⟨h.1, (hf.1 _ _ hP).trans h.2.1, fun i hi => ⟨(h.2.2 i hi).1, (hf.1 _ _ (hP2 i)).trans (h.2.2 i hi).2⟩⟩
theorem kd_let {v : Nat} : kd v = 1 ↔ 97 ≤ v ∧ v ≤ 122 := by
  unfold kd
  by_cases h : 97 ≤ v ∧ v ≤ 122
  · rw [if_pos h]; exact ⟨fun _ => h, fun _ => rfl⟩
  · rw [if_neg h]
    refine ⟨fun q => ?_, fun q => absurd q h⟩
    split at q <;> (try split at q) <;> omega
theorem kd_dig {v : Nat} : kd v = 2 ↔ 48 ≤ v ∧ v ≤ 57 := by
  unfold kd
  by_cases h : 97 ≤ v ∧ v ≤ 122
  · rw [if_pos h]; omega
  · rw [if_neg h]
    by_cases h2 : 48 ≤ v ∧ v ≤ 57
    · rw [if_pos h2]; exact ⟨fun _ => h2, fun _ => rfl⟩
    · rw [if_neg h2]
      refine ⟨fun q => ?_, fun q => absurd q h2⟩
      split at q <;> omega
theorem nv_le (f : Nat → Nat) (p : Nat) (hf : ∀ k, f (p + k) ≤ 57) : ∀ k, nv f p k ≤ 1000009 := by
  intro k
  induction k with
  | zero => unfold nv; omega
  | succ k ih =>
    have := hf k
    unfold nv
    split <;> omega
theorem m_next {a : ud_St} {f : Nat → Nat} {c p : Nat} {Q : ud_St → Prop} (hb : mby a f c) (h7 : a.1 71 7 = nI p) (hp : p ≤ c) (hQ : ∀ a', fm Pnx a a' → mr a' f (tokF f c p) → Q a') : w_Model_next a Q := by
  obtain ⟨q1, q2, q3, q4⟩ := run_sp (fun j => blk (f j)) (c - p) p
  have hc := hb.1
  obtain ⟨s, hs⟩ : ∃ s, s = run (fun j => blk (f j)) (c - p) p := ⟨_, rfl⟩
  unfold tokF at hQ
  simp only [← hs] at hQ
  rw [← hs] at q1 q2 q3 q4
  have mb : ∀ {b}, fm Pnx a b → mby b f c := fun h => mby_fm hb h (by unfold Pnx; omega) (fun j => by unfold Pnx; omega)
  -- behind the blanks
  unfold w_Model_next
  refine LW1.up (s - p) (fun i b => fm Pnx a b ∧ b.1 71 7 = nI (p + i)) ⟨fm.rf, h7⟩ ?_ ?_
  · rintro i b hi ⟨hf, h7⟩ K hK
    have hbl := q3 (p + i) (by omega) (by omega)
    have go : K (ud_sv b 71 7 (nI (p + i) + 1)) := hK _ ⟨hf.sv (by unfold Pnx; omega), by rw [us_1, if_pos ⟨rfl, rfl⟩]; exact nI_1 _⟩
    rw [h7]
    refine m_isByte (lo := 32) (hi := 32) (mb hf) (by omega) (by omega) (by omega) (fun _ _ _ => t1 go) (fun n1 => t0 (m_isByte (lo := 10) (hi := 10) (mb hf) (by omega) (by omega) (by omega) (fun _ _ _ => t1 go) (fun n2 => ?_)))
    unfold blk at hbl
    simp at hbl
    omega
  · rintro b ⟨hf, h7⟩ K
    rw [show p + (s - p) = s by omega] at h7
    obtain ⟨b1, hb1⟩ : ∃ b1, b1 = ud_sl (ud_sv (ud_sv b 71 9 (b.1 71 7)) 71 10 (0 : Int32)) 71 11 (0 : Int64) := ⟨_, rfl⟩
    rw [← hb1]
    have hf1 : fm Pnx a b1 := by rw [hb1]; exact ((hf.sv (by unfold Pnx; omega)).sv (by unfold Pnx; omega)).sl
    have g7 : b1.1 71 7 = nI s := by rw [hb1, us_l1, us_1, if_neg (by omega), us_1, if_neg (by omega)]; exact h7
    have g9 : b1.1 71 9 = nI s := by rw [hb1, us_l1, us_1, if_neg (by omega), us_1, if_pos ⟨rfl, rfl⟩]; exact h7
    have g10 : b1.1 71 10 = nI 0 := by rw [hb1, us_l1, us_1, if_pos ⟨rfl, rfl⟩]; rfl
    have g11 : b1.2.1 71 11 = 0 := by rw [hb1, us_l2, if_pos ⟨rfl, rfl⟩]
    have g6 : b1.1 71 6 = nI c := (mb hf1).2.1
    have hend : ¬ (s < c ∧ (f s = 32 ∨ f s = 10)) := fun ⟨w1, w2⟩ => by
      have := q4 (by omega)
      unfold blk at this
      rcases w2 with w | w <;> rw [w] at this <;> cases this
    rw [h7] at *
    refine m_isByte (lo := 32) (hi := 32) (mb hf) (by omega) (by omega) (by omega) (fun w1 w2 w3 => absurd ⟨w1, Or.inl (by omega)⟩ hend) (fun _ => t0 (m_isByte (lo := 10) (hi := 10) (mb hf) (by omega) (by omega) (by omega) (fun w1 w2 w3 => absurd ⟨w1, Or.inr (by omega)⟩ hend) (fun _ => t0 ?_)))
    rw [g7, g6]
    refine ⟨fun z => ?_, fun z => ?_⟩
    · have e := (nI_eq (by omega) (by omega)).mp z
      rw [if_neg (by omega)] at hQ
      refine hQ _ (hf1.sv (by unfold Pnx; omega)) ⟨?_, ?_, ?_, fun q => absurd q (by show ¬ (0 : Nat) = 2; omega), fun q => absurd q (by show ¬ (0 : Nat) = 1; omega)⟩
      · rw [us_1, if_pos ⟨rfl, rfl⟩]; rfl
      · rw [us_1, if_neg (by omega)]; exact g9
      · rw [us_1, if_neg (by omega)]; exact g7
    have hsc : s < c := by
      have : ¬ s = c := fun e => z (by rw [e])
      omega
    have hfs := ((mb hf1).2.2 s hsc).1
    rw [if_pos hsc] at hQ
    refine m_isByte (lo := 97) (hi := 122) (mb hf1) (by omega) (by omega) (by omega) (fun _ w2 w3 => t1 ?_) (fun n1 => t0 (m_isByte (lo := 48) (hi := 57) (mb hf1) (by omega) (by omega) (by omega) (fun _ w2 w3 => t1 ?_) (fun n2 => t0 ⟨vp_in_nI (by omega) (by omega), ?_⟩)))
    · -- letters
      have hk : kd (f s) = 1 := kd_let.mpr ⟨w2, w3⟩
      rw [hk, if_pos (by omega)] at hQ
      obtain ⟨v1, v2, v3, v4⟩ := run_sp (fun j => kd (f j) == 1) (c - (s + 1)) (s + 1)
      obtain ⟨e, he⟩ : ∃ e, e = run (fun j => kd (f j) == 1) (c - (s + 1)) (s + 1) := ⟨_, rfl⟩
      rw [← he] at v1 v2 v3 v4 hQ
      have lets : ∀ j, s ≤ j → j < e → 97 ≤ f j ∧ f j ≤ 122 := fun j h1 h2 => by
        by_cases ej : j = s
        · rw [ej]; exact ⟨w2, w3⟩
        · exact kd_let.mp (eq_of_beq (v3 j (by omega) h2))
      unfold w_Model_next_j102
      refine LW2.up (e - s) (fun i x d => x = nI i ∧ fm Pnx a d ∧ d.1 71 8 = nI 1 ∧ d.1 71 9 = nI s ∧ d.1 71 7 = nI (s + i) ∧ (d.2.1 71 11).toInt = wz f (1, s, s + i)) ⟨rfl, hf1.sv (by unfold Pnx; omega), by rw [us_1, if_pos ⟨rfl, rfl⟩]; rfl, by rw [us_1, if_neg (by omega)]; exact g9, by rw [us_1, if_neg (by omega)]; exact g7, ?_⟩ ?_ ?_
      · rw [us_2, g11]
        unfold wz
        simp
        rfl
      · rintro i x d hi ⟨rfl, hfd, d8, d9, d7, d11⟩ K2 hK2
        have hl := lets (s + i) (by omega) (by omega)
        have hic : s + i < c := by omega
        rw [d7]
        refine m_isByte (lo := 97) (hi := 122) (mb hfd) (by omega) (by omega) (by omega) (fun _ _ _ => t1 ?_) (fun n => absurd ⟨hic, hl⟩ n)
        rw [nI_clamp (by omega), ((mb hfd).2.2 _ hic).2, sb_lo (by omega)]
        refine ⟨fun z => ?_, fun z => ?_⟩
        · have hi11 := (nI_leI (b := 11) (by omega) (by omega)).mp z
          refine ⟨vp_in_nI (by omega) (by omega), ?_⟩
          unfold w_Model_next_j153
          refine ⟨fun _ => hK2 _ _ ⟨nI_1 i, hfd.sl.sv (by unfold Pnx; omega), ?_, ?_, ?_, ?_⟩, fun q => absurd z q⟩
          · rw [us_1, if_neg (by omega)]; exact d8
          · rw [us_1, if_neg (by omega)]; exact d9
          · rw [us_1, if_pos ⟨rfl, rfl⟩, us_l1, d7]; exact nI_1 _
          · rw [us_2, us_l2, if_pos ⟨rfl, rfl⟩]
            unfold wz at d11 ⊢
            dsimp only at d11 ⊢
            rw [show s + i - s = i by omega, if_pos (by omega)] at d11
            rw [show s + (i + 1) - s = i + 1 by omega, if_pos (by omega)]
            have hW := Wd_lt (d := fun i => f (s + i) - 96) (n := i) (fun j hj => by have := lets (s + j) (by omega) (by omega); omega)
            have hp : 27 ^ i ≤ 27 ^ 11 := Nat.pow_le_pow_right (by omega) hi11
            have hp2 : (27 : Nat) ^ 11 = 5559060566555523 := by decide
            have l1 : (27 : Int64).toInt = 27 := by decide
            have l2 : (96 : Int64).toInt = 96 := by decide
            have e1 : (27 * d.2.1 71 11).toInt = 27 * (Wd (fun i => f (s + i) - 96) i : Int) := by rw [fb_mulL (by rw [l1, d11]; omega) (by rw [l1, d11]; omega), l1, d11]
            have e2 : (27 * d.2.1 71 11 + (nI (f (s + i))).toInt64).toInt = 27 * (Wd (fun i => f (s + i) - 96) i : Int) + f (s + i) := by
              rw [fb_addL (by rw [e1, lI_toInt, nI_toInt (by omega)]; omega) (by rw [e1, lI_toInt, nI_toInt (by omega)]; omega), e1, lI_toInt, nI_toInt (by omega)]
            rw [fb_subL (by rw [e2, l2]; omega) (by rw [e2, l2]; omega), e2, l2]
            show _ = ((27 * Wd (fun i => f (s + i) - 96) i + (f (s + i) - 96) : Nat) : Int)
            omega
        · have hi11 := (ui_ltn (k := 11) (by omega) (by omega)).mp z
          unfold w_Model_next_j153
          refine ⟨fun q => absurd q z, fun _ => hK2 _ _ ⟨nI_1 i, hfd.sl.sl.sv (by unfold Pnx; omega), ?_, ?_, ?_, ?_⟩⟩
          · rw [us_1, if_neg (by omega)]; exact d8
          · rw [us_1, if_neg (by omega)]; exact d9
          · rw [us_1, if_pos ⟨rfl, rfl⟩, us_l1, us_l1, d7]; exact nI_1 _
          · rw [us_2, us_l2, if_pos ⟨rfl, rfl⟩]
            unfold wz
            dsimp only
            rw [if_neg (by omega)]
            decide
      · rintro x d ⟨rfl, hfd, d8, d9, d7, d11⟩ K2
        rw [show s + (e - s) = e by omega] at d7 d11
        rw [d7]
        have fin := hQ d hfd ⟨d8, d9, d7, fun q => absurd q (by show ¬ (1 : Nat) = 2; omega), fun _ => d11⟩
        refine m_isByte (lo := 97) (hi := 122) (mb hfd) (by omega) (by omega) (by omega) (fun w1 w2 w3 => ?_) (fun _ => t0 fin)
        have := v4 (by omega)
        rw [kd_let.mpr ⟨w2, w3⟩] at this
        cases this
    · -- digits
      have hk : kd (f s) = 2 := kd_dig.mpr ⟨w2, w3⟩
      rw [hk, if_pos (by omega)] at hQ
      obtain ⟨v1, v2, v3, v4⟩ := run_sp (fun j => kd (f j) == 2) (c - (s + 1)) (s + 1)
      obtain ⟨e, he⟩ : ∃ e, e = run (fun j => kd (f j) == 2) (c - (s + 1)) (s + 1) := ⟨_, rfl⟩
      rw [← he] at v1 v2 v3 v4 hQ
      have digs : ∀ j, s ≤ j → j < e → 48 ≤ f j ∧ f j ≤ 57 := fun j h1 h2 => by
        by_cases ej : j = s
        · rw [ej]; exact ⟨w2, w3⟩
        · exact kd_dig.mp (eq_of_beq (v3 j (by omega) h2))
      unfold w_Model_next_j208
      refine LW1.up (e - s) (fun i d => fm Pnx a d ∧ d.1 71 8 = nI 2 ∧ d.1 71 9 = nI s ∧ d.1 71 7 = nI (s + i) ∧ d.1 71 10 = nI (nv f s i) ∧ nv f s i ≤ 1000009) ⟨hf1.sv (by unfold Pnx; omega), by rw [us_1, if_pos ⟨rfl, rfl⟩]; rfl, by rw [us_1, if_neg (by omega)]; exact g9, by rw [us_1, if_neg (by omega)]; exact g7, by rw [us_1, if_neg (by omega)]; exact g10, by unfold nv; omega⟩ ?_ ?_
      · rintro i d hi ⟨hfd, d8, d9, d7, d10, dl⟩ K2 hK2
        have hl := digs (s + i) (by omega) (by omega)
        have hic : s + i < c := by omega
        rw [d7]
        refine m_isByte (lo := 48) (hi := 57) (mb hfd) (by omega) (by omega) (by omega) (fun _ _ _ => t1 ?_) (fun n => absurd ⟨hic, hl⟩ n)
        rw [nI_clamp (by omega), ((mb hfd).2.2 _ hic).2, sb_lo (by omega), d10]
        have step : ∀ v, v = nI (nv f s (i + 1)) → nv f s (i + 1) ≤ 1000009 → K2 (ud_sv (ud_sv d 71 10 v) 71 7 ((ud_sv d 71 10 v).1 71 7 + 1)) := fun v ev hle => hK2 _ ⟨(hfd.sv (by unfold Pnx; omega)).sv (by unfold Pnx; omega), by rw [us_1, if_neg (by omega), us_1, if_neg (by omega)]; exact d8, by rw [us_1, if_neg (by omega), us_1, if_neg (by omega)]; exact d9, by rw [us_1, if_pos ⟨rfl, rfl⟩, us_1, if_neg (by omega), d7]; exact nI_1 _, by rw [us_1, if_neg (by omega), us_1, if_pos ⟨rfl, rfl⟩]; exact ev, hle⟩
        refine ⟨fun z => ⟨vp_in_nI (by omega) (by omega), step _ ?_ ?_⟩, fun z => step _ ?_ ?_⟩
        · have hz := (nI_leI (b := 100000) (by omega) (by omega)).mp z
          rw [show (10 : Int32) * nI (nv f s i) = nI (10 * nv f s i) from ui_mul 10 _, nI_add, show nI (10 * nv f s i + f (s + i)) - 48 = nI (10 * nv f s i + f (s + i) - 48) from ui_sub (b := 48) (by omega)]
          rw [nv_s, if_pos hz]
        · have hz := (nI_leI (b := 100000) (by omega) (by omega)).mp z
          rw [nv_s, if_pos hz]; omega
        · have hz := (ui_ltn (k := 100000) (by omega) (by omega)).mp z
          rw [nv_s, if_neg (by omega)]; rfl
        · have hz := (ui_ltn (k := 100000) (by omega) (by omega)).mp z
          rw [nv_s, if_neg (by omega)]; omega
      · rintro d ⟨hfd, d8, d9, d7, d10, dl⟩ K2
        rw [show s + (e - s) = e by omega] at d7
        rw [d7]
        have fin := hQ d hfd ⟨d8, d9, d7, fun _ => d10, fun q => absurd q (by show ¬ (2 : Nat) = 1; omega)⟩
        refine m_isByte (lo := 48) (hi := 57) (mb hfd) (by omega) (by omega) (by omega) (fun w1 w2 w3 => ?_) (fun _ => t0 fin)
        have := v4 (by omega)
        rw [kd_dig.mpr ⟨w2, w3⟩] at this
        cases this
    · -- signs
      have k1 : ¬ kd (f s) = 1 := fun q => n1 ⟨hsc, kd_let.mp q⟩
      have k2 : ¬ kd (f s) = 2 := fun q => n2 ⟨hsc, kd_dig.mp q⟩
      have kr := kd_1 (f s)
      rw [if_neg (by omega)] at hQ
      rw [nI_clamp (by omega), ((mb hf1).2.2 s hsc).2]
      have e3 : (nI (f s)).toInt8.toInt32 = 59 ↔ f s = 59 := by
        rcases Nat.lt_or_ge (f s) 128 with w | w
        · rw [sb_lo w]; exact nI_eq (b := 59) (by omega) (by omega)
        · refine ⟨fun q => ?_, fun q => by omega⟩
          have := congrArg Int32.toInt q
          rw [sb_hi w hfs, show (59 : Int32).toInt = 59 by decide] at this
          omega
      have fin : ∀ v, v = nI (kd (f s)) → Q (ud_sv (ud_sv b1 71 8 v) 71 7 ((ud_sv b1 71 8 v).1 71 7 + 1)) := fun v ev => hQ _ ((hf1.sv (by unfold Pnx; omega)).sv (by unfold Pnx; omega)) ⟨by rw [us_1, if_neg (by omega), us_1, if_pos ⟨rfl, rfl⟩]; exact ev, by rw [us_1, if_neg (by omega), us_1, if_neg (by omega)]; exact g9, by rw [us_1, if_pos ⟨rfl, rfl⟩, us_1, if_neg (by omega), g7]; exact nI_1 _, fun q => absurd q k2, fun q => absurd q k1⟩
      have a1 : ¬ (97 ≤ f s ∧ f s ≤ 122) := fun q => k1 (kd_let.mpr q)
      have a2 : ¬ (48 ≤ f s ∧ f s ≤ 57) := fun q => k2 (kd_dig.mpr q)
      refine ⟨fun q => fin _ ?_, fun q => fin _ ?_⟩
      · unfold kd
        rw [if_neg a1, if_neg a2, if_pos (e3.mp q)]; rfl
      · unfold kd
        rw [if_neg a1, if_neg a2, if_neg (fun w => q (e3.mpr w))]; rfl
