/-! table: tokens -/
def kd (v : Nat) : Nat := if 97 ≤ v ∧ v ≤ 122 then 1 else if 48 ≤ v ∧ v ≤ 57 then 2 else if v = 59 then 3 else 4
def blk (v : Nat) : Bool := v == 32 || v == 10
def run (P : Nat → Bool) : Nat → Nat → Nat
  | 0, p => p
  | n + 1, p => if P p then run P n (p + 1) else p
theorem run_sp (P : Nat → Bool) : ∀ n p, p ≤ run P n p ∧ run P n p ≤ p + n ∧ (∀ j, p ≤ j → j < run P n p → P j = true) ∧ (run P n p < p + n → P (run P n p) = false) := by
  intro n
  induction n with
  | zero => intro p; exact ⟨Nat.le_refl _, Nat.le_refl _, fun j h1 h2 => by unfold run at h2; omega, fun h => by unfold run at h; omega⟩
  | succ n ih =>
    intro p
    unfold run
    by_cases h : P p = true
    · rw [if_pos h]
      obtain ⟨q1, q2, q3, q4⟩ := ih (p + 1)
      refine ⟨by omega, by omega, fun j h1 h2 => ?_, fun z => q4 (by omega)⟩
      by_cases e : j = p
      · rw [e]; exact h
      · exact q3 j (by omega) h2
    · rw [if_neg h]
      exact ⟨Nat.le_refl _, by omega, fun j h1 h2 => by omega, fun _ => by simpa using h⟩
/-- kind, from, behind -/
abbrev TK := Nat × Nat × Nat
def tokF (f : Nat → Nat) (c p : Nat) : TK :=
  let s := run (fun j => blk (f j)) (c - p) p
  if s < c then (kd (f s), s, if kd (f s) ≤ 2 then run (fun j => kd (f j) == kd (f s)) (c - (s + 1)) (s + 1) else s + 1) else (0, s, s)
theorem kd_1 (v : Nat) : 1 ≤ kd v ∧ kd v ≤ 4 := by unfold kd; split <;> (try split) <;> (try split) <;> omega
/-- what a token keeps to -/
def tkOK (f : Nat → Nat) (c p : Nat) (R : TK) : Prop := p ≤ R.2.1 ∧ R.2.1 ≤ R.2.2 ∧ R.2.2 ≤ c ∧ R.1 ≤ 4 ∧ (R.1 = 0 → R.2.1 = c ∧ R.2.2 = c) ∧ (R.1 ≠ 0 → R.2.1 < R.2.2) ∧ (R.1 = 1 ∨ R.1 = 2 → ∀ j, R.2.1 ≤ j → j < R.2.2 → kd (f j) = R.1)
theorem tok_ok {f : Nat → Nat} {c p : Nat} (hp : p ≤ c) : tkOK f c p (tokF f c p) := by
  obtain ⟨q1, q2, q3, q4⟩ := run_sp (fun j => blk (f j)) (c - p) p
  unfold tokF
  by_cases h : run (fun j => blk (f j)) (c - p) p < c
  · simp only [if_pos h]
    generalize run (fun j => blk (f j)) (c - p) p = s at *
    have hk := kd_1 (f s)
    by_cases h2 : kd (f s) ≤ 2
    · rw [if_pos h2]
      obtain ⟨w1, w2, w3, w4⟩ := run_sp (fun j => kd (f j) == kd (f s)) (c - (s + 1)) (s + 1)
      generalize run (fun j => kd (f j) == kd (f s)) (c - (s + 1)) (s + 1) = e at *
      refine ⟨q1, by show s ≤ e; omega, by show e ≤ c; omega, hk.2, fun z => ?_, fun _ => by show s < e; omega, fun _ j h1 h2 => ?_⟩
      · have z' : kd (f s) = 0 := z
        omega
      · show kd (f j) = kd (f s)
        have h1' : s ≤ j := h1
        by_cases ej : j = s
        · rw [ej]
        · exact eq_of_beq (w3 j (by omega) h2)
    · rw [if_neg h2]
      refine ⟨q1, by show s ≤ s + 1; omega, by show s + 1 ≤ c; omega, hk.2, fun z => ?_, fun _ => by show s < s + 1; omega, fun z => ?_⟩
      · have z' : kd (f s) = 0 := z
        omega
      · have z' : kd (f s) = 1 ∨ kd (f s) = 2 := z
        omega
  · simp only [if_neg h]
    generalize run (fun j => blk (f j)) (c - p) p = s at *
    refine ⟨q1, Nat.le_refl _, by show s ≤ c; omega, by show (0 : Nat) ≤ 4; omega, fun _ => ?_, fun z => absurd rfl z, fun z => ?_⟩
    · exact ⟨by show s = c; omega, by show s = c; omega⟩
    · have z' : (0 : Nat) = 1 ∨ (0 : Nat) = 2 := z
      omega
/-- the tape's bytes -/
def bys (a : ud_St) (f : Nat → Nat) (c : Nat) : Prop := c ≤ 800 ∧ a.1 1 1 = nI c ∧ a.1 71 6 = nI c ∧ ∀ i, i < c → f i < 256 ∧ a.1 2 i = nI (f i) ∧ a.1 76 i = (nI (f i)).toInt8.toInt32
theorem bys_of {a : ud_St} (h : JT a) : ∃ f c, bys a f c := by
  obtain ⟨c, h1, h2, h3, h4⟩ := h
  refine ⟨fun i => (a.1 2 i).toNatClampNeg, c, h1, h2, h3, fun i hi => ?_⟩
  obtain ⟨v, q1, q2, q3⟩ := h4 i hi
  dsimp only
  rw [q2, nI_clamp (by omega)]
  exact ⟨q1, rfl, q3⟩
theorem x_byteAt {a : ud_St} {f : Nat → Nat} {c i : Nat} {Q : Int32 → Prop} (h1 : a.1 1 1 = nI c) (hc : c ≤ 800) (h2 : ∀ i, i < c → f i < 256 ∧ a.1 2 i = nI (f i)) (hi : i < 2 ^ 31) (hy : i < c → Q (nI (f i))) (hn : c ≤ i → Q (-1)) : w_Tape_byteAt a (nI i) Q := by
  unfold w_Tape_byteAt
  rw [h1]
  refine ⟨fun z => absurd z (nI_pos hi), fun _ => ⟨fun z => hn ((nI_leI (by omega) hi).mp z), fun z => ?_⟩⟩
  have hic := (ui_ltn hi (by omega)).mp z
  refine ⟨fun z2 => absurd z2 (nI_ge (by omega) (by omega)), fun _ => ⟨vp_in_nI (by omega) (by omega), ?_⟩⟩
  rw [nI_clamp hi, (h2 i hic).2]
  exact hy hic
theorem x_isBlank {a : ud_St} {v : Nat} {Q : Int32 → Prop} (hv : v < 256) (h1 : blk v = true → Q 1) (h0 : blk v = false → Q 0) : w_Reader_isBlank a (nI v) Q := by
  unfold w_Reader_isBlank
  refine ⟨fun z => h1 ?_, fun z => ⟨fun z2 => h1 ?_, fun z2 => h0 ?_⟩⟩
  · rw [(nI_eq (b := 32) (by omega) (by omega)).mp z]; rfl
  · rw [(nI_eq (b := 10) (by omega) (by omega)).mp z2]; rfl
  · have n1 : ¬ v = 32 := fun e => z (by rw [e]; rfl)
    have n2 : ¬ v = 10 := fun e => z2 (by rw [e]; rfl)
    unfold blk
    simp [n1, n2]
theorem x_tokenOf {a : ud_St} {v : Nat} {Q : Int32 → Prop} (hv : v < 256) (h : Q (nI (kd v))) : w_Reader_tokenOf a (nI v) Q := by
  have j35 : ¬ (97 ≤ v ∧ v ≤ 122) → ¬ (48 ≤ v ∧ v ≤ 57) → w_Reader_tokenOf_j35 a (nI v) (nI v) Q := fun n1 n2 => by
    unfold w_Reader_tokenOf_j35
    unfold kd at h
    rw [if_neg n1, if_neg n2] at h
    refine ⟨fun z => ?_, fun z => ?_⟩
    · have := (nI_eq (b := 59) (by omega) (by omega)).mp z
      rw [if_pos this] at h
      exact h
    · rw [if_neg (fun e => z (by rw [e]; rfl))] at h
      exact h
  have j21 : ¬ (97 ≤ v ∧ v ≤ 122) → w_Reader_tokenOf_j21 a (nI v) (nI v) Q := fun n1 => by
    unfold w_Reader_tokenOf_j21
    refine ⟨fun z => j35 n1 (fun w => absurd w.1 (by have := (nI_ltI (b := 48) (by omega) (by omega)).mp z; omega)), fun z => ⟨fun z2 => j35 n1 (fun w => absurd w.2 (by have := (nI_ltI (a := 57) (by omega) (by omega)).mp z2; omega)), fun z2 => ?_⟩⟩
    have a1 : 48 ≤ v := by
      rcases Nat.lt_or_ge v 48 with w | w
      · exact absurd (nI_lt (b := 48) w (by omega)) z
      · exact w
    have a2 : v ≤ 57 := by
      rcases Nat.lt_or_ge 57 v with w | w
      · exact absurd (nI_lt (a := 57) w (by omega)) z2
      · exact w
    unfold kd at h
    rw [if_neg n1, if_pos ⟨a1, a2⟩] at h
    exact h
  unfold w_Reader_tokenOf
  refine ⟨fun z => absurd z (ui_ne1 (by omega)), fun _ => ⟨fun z => j21 (fun w => absurd w.1 (by have := (nI_ltI (b := 97) (by omega) (by omega)).mp z; omega)), fun z => ⟨fun z2 => j21 (fun w => absurd w.2 (by have := (nI_ltI (a := 122) (by omega) (by omega)).mp z2; omega)), fun z2 => ?_⟩⟩⟩
  have a1 : 97 ≤ v := by
    rcases Nat.lt_or_ge v 97 with w | w
    · exact absurd (nI_lt (b := 97) w (by omega)) z
    · exact w
  have a2 : v ≤ 122 := by
    rcases Nat.lt_or_ge 122 v with w | w
    · exact absurd (nI_lt (a := 122) w (by omega)) z2
    · exact w
  unfold kd at h
  rw [if_pos ⟨a1, a2⟩] at h
  exact h
/-- x's reader is at R -/
def xr (a : ud_St) (R : TK) : Prop := a.1 3 1 = nI R.1 ∧ a.1 3 2 = nI R.2.1 ∧ a.1 3 3 = nI R.2.2
def xby (a : ud_St) (f : Nat → Nat) (c : Nat) : Prop := c ≤ 800 ∧ a.1 1 1 = nI c ∧ ∀ i, i < c → f i < 256 ∧ a.1 2 i = nI (f i)
def Pad (k j : Nat) : Prop := k = 3 ∧ 1 ≤ j ∧ j ≤ 3
theorem xby_fr {a a' : ud_St} {f : Nat → Nat} {c : Nat} (h : xby a f c) (e : ∀ k j, k = 1 ∨ k = 2 → a'.1 k j = a.1 k j) : xby a' f c := ⟨h.1, (e _ _ (by omega)).trans h.2.1, fun i hi => ⟨(h.2.2 i hi).1, (e _ _ (by omega)).trans (h.2.2 i hi).2⟩⟩
theorem x_advance {a : ud_St} {f : Nat → Nat} {c p : Nat} {Q : ud_St → Prop} (hb : xby a f c) (h3 : a.1 3 3 = nI p) (hp : p ≤ c) (hQ : ∀ a', fr Pad a a' → xr a' (tokF f c p) → Q a') : w_Reader_advance a Q := by
  obtain ⟨q1, q2, q3, q4⟩ := run_sp (fun j => blk (f j)) (c - p) p
  have hc := hb.1
  unfold w_Reader_advance w_Reader_advance_j8
  rw [h3]
  obtain ⟨s, hs⟩ : ∃ s, s = run (fun j => blk (f j)) (c - p) p := ⟨_, rfl⟩
  unfold tokF at hQ
  simp only [← hs] at hQ
  rw [← hs] at q1 q2 q3 q4
  -- behind the blanks
  have last : ∀ b, fr Pad a b → b.1 3 2 = nI s → w_Reader_advance_j52 a b Q := by
    intro b hf h2
    have hbb := xby_fr hb (a' := b) (fun k j _ => hf.1 k j (by unfold Pad; omega))
    unfold w_Reader_advance_j52
    rw [h2]
    have e31 : ∀ v, (ud_sv b 3 1 v).1 3 1 = v := fun v => by rw [us_1, if_pos ⟨rfl, rfl⟩]
    have e32 : ∀ v, (ud_sv b 3 1 v).1 3 2 = nI s := fun v => by rw [us_1, if_neg (by omega)]; exact h2
    refine x_byteAt hbb.2.1 hc hbb.2.2 (by omega) (fun hsc => ?_) (fun hsc => ?_)
    · refine x_tokenOf (hbb.2.2 s hsc).1 ?_
      rw [if_pos hsc] at hQ
      have hk := kd_1 (f s)
      rw [e31, e32]
      refine ⟨fun z => absurd ((nI_eq (b := 0) (by omega) (by omega)).mp z) (by omega), fun _ => ?_⟩
      unfold w_Reader_advance_j87
      rw [nI_1]
      obtain ⟨b2, hb2⟩ : ∃ b2, b2 = ud_sv (ud_sv b 3 1 (nI (kd (f s)))) 3 3 (nI (s + 1)) := ⟨_, rfl⟩
      rw [← hb2]
      have g1 : b2.1 3 1 = nI (kd (f s)) := by rw [hb2, us_1, if_neg (by omega)]; exact e31 _
      have g2 : b2.1 3 2 = nI s := by rw [hb2, us_1, if_neg (by omega)]; exact e32 _
      have g3 : b2.1 3 3 = nI (s + 1) := by rw [hb2, us_1, if_pos ⟨rfl, rfl⟩]
      have hf2 : fr Pad a b2 := by rw [hb2]; exact (hf.sv (by unfold Pad; omega)).sv (by unfold Pad; omega)
      rw [g1]
      have wh : kd (f s) ≤ 2 → w_Reader_advance_j107 a b2 Q := fun hk2 => by
        rw [if_pos hk2] at hQ
        obtain ⟨w1, w2, w3, w4⟩ := run_sp (fun j => kd (f j) == kd (f s)) (c - (s + 1)) (s + 1)
        obtain ⟨e, he⟩ : ∃ e, e = run (fun j => kd (f j) == kd (f s)) (c - (s + 1)) (s + 1) := ⟨_, rfl⟩
        rw [← he] at w1 w2 w3 w4 hQ
        unfold w_Reader_advance_j107
        refine LW1.up (e - (s + 1)) (fun i d => fr Pad a d ∧ d.1 3 1 = nI (kd (f s)) ∧ d.1 3 2 = nI s ∧ d.1 3 3 = nI (s + 1 + i)) ⟨hf2, g1, g2, g3⟩ ?_ ?_
        · rintro i d hi ⟨hfd, d1, d2, d3⟩ K hK
          have hbd := xby_fr hb (a' := d) (fun k j _ => hfd.1 k j (by unfold Pad; omega))
          rw [d3, hbd.2.1, d1]
          refine ⟨fun z => absurd z (nI_ge (by omega) (by omega)), fun _ => x_byteAt hbd.2.1 hc hbd.2.2 (by omega) (fun hic => x_tokenOf (hbd.2.2 _ hic).1 ?_) (fun z => by omega)⟩
          have := eq_of_beq (w3 (s + 1 + i) (by omega) (by omega))
          rw [this]
          refine ⟨fun _ => hK _ ⟨hfd.sv (by unfold Pad; omega), ?_, ?_, ?_⟩, fun z => absurd rfl z⟩
          · rw [us_1, if_neg (by omega)]; exact d1
          · rw [us_1, if_neg (by omega)]; exact d2
          · rw [us_1, if_pos ⟨rfl, rfl⟩]; exact nI_1 _
        · rintro d ⟨hfd, d1, d2, d3⟩ K
          have hbd := xby_fr hb (a' := d) (fun k j _ => hfd.1 k j (by unfold Pad; omega))
          have es : s + 1 + (e - (s + 1)) = e := by omega
          rw [es] at d3
          have fin := hQ d hfd ⟨d1, d2, d3⟩
          rw [d3, hbd.2.1, d1]
          refine ⟨fun _ => fin, fun z => ?_⟩
          have hec := (ui_ltn (by omega) (by omega)).mp z
          refine x_byteAt hbd.2.1 hc hbd.2.2 (by omega) (fun hic => x_tokenOf (hbd.2.2 _ hic).1 ⟨fun z2 => ?_, fun _ => fin⟩) (fun z => by omega)
          have h5 := kd_1 (f e)
          have := (nI_eq (by omega) (by omega)).mp z2
          have h6 := w4 (by omega)
          rw [this] at h6
          simp at h6
      refine ⟨fun z => wh ?_, fun z => ⟨fun z2 => wh ?_, fun z2 => hQ b2 hf2 ⟨g1, g2, ?_⟩⟩⟩
      · have := (nI_eq (b := 1) (by omega) (by omega)).mp z; omega
      · have := (nI_eq (b := 2) (by omega) (by omega)).mp z2; omega
      · have n1 : ¬ kd (f s) = 1 := fun e => z (by rw [e]; rfl)
        have n2 : ¬ kd (f s) = 2 := fun e => z2 (by rw [e]; rfl)
        show b2.1 3 3 = nI (if kd (f s) ≤ 2 then _ else s + 1)
        rw [if_neg (by omega)]
        exact g3
    · rw [if_neg (by omega)] at hQ
      unfold w_Reader_tokenOf
      refine ⟨fun _ => ?_, fun z => absurd rfl z⟩
      dsimp only
      rw [e31, e32]
      refine ⟨fun _ => ?_, fun z => absurd rfl z⟩
      unfold w_Reader_advance_j87
      obtain ⟨b2, hb2⟩ : ∃ b2, b2 = ud_sv (ud_sv b 3 1 0) 3 3 (nI s + 0) := ⟨_, rfl⟩
      rw [← hb2]
      have g1 : b2.1 3 1 = 0 := by rw [hb2, us_1, if_neg (by omega)]; exact e31 _
      rw [g1]
      refine ⟨fun z => absurd z (by decide), fun _ => ⟨fun z => absurd z (by decide), fun _ => hQ b2 ?_ ⟨g1, ?_, ?_⟩⟩⟩
      · rw [hb2]; exact (hf.sv (by unfold Pad; omega)).sv (by unfold Pad; omega)
      · rw [hb2, us_1, if_neg (by omega)]; exact e32 _
      · rw [hb2, us_1, if_pos ⟨rfl, rfl⟩]; exact nI_add s 0
  refine LW1.up (s - p) (fun i b => fr Pad a b ∧ b.1 3 2 = nI (p + i)) ⟨fr.rf.sv (by unfold Pad; omega), by rw [us_1, if_pos ⟨rfl, rfl⟩]; rfl⟩ ?_ ?_
  · rintro i b hi ⟨hf, h2⟩ K hK
    have hbb := xby_fr hb (a' := b) (fun k j _ => hf.1 k j (by unfold Pad; omega))
    rw [h2, hbb.2.1]
    refine ⟨fun z => absurd z (nI_ge (by omega) (by omega)), fun _ => x_byteAt hbb.2.1 hc hbb.2.2 (by omega) (fun hic => x_isBlank (hbb.2.2 _ hic).1 (fun _ => t1 (hK _ ⟨hf.sv (by unfold Pad; omega), ?_⟩)) (fun z => ?_)) (fun z => by omega)⟩
    · rw [us_1, if_pos ⟨rfl, rfl⟩]; exact nI_1 _
    · have := q3 (p + i) (by omega) (by omega)
      rw [this] at z; cases z
  · rintro b ⟨hf, h2⟩ K
    have hbb := xby_fr hb (a' := b) (fun k j _ => hf.1 k j (by unfold Pad; omega))
    rw [show p + (s - p) = s by omega] at h2
    rw [h2, hbb.2.1]
    refine ⟨fun _ => last b hf h2, fun z => ?_⟩
    have hsc := (ui_ltn (by omega) (by omega)).mp z
    refine x_byteAt hbb.2.1 hc hbb.2.2 (by omega) (fun hic => x_isBlank (hbb.2.2 _ hic).1 (fun z2 => ?_) (fun _ => t0 (last b hf h2))) (fun z => by omega)
    have := q4 (by omega)
    rw [this] at z2; cases z2
