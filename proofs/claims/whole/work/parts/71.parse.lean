/-! table: what is read -/
def tx (t : Nat) : List Nat := (ud_byt.getD t []).map Int32.toNatClampNeg
theorem tx_len : ∀ t : Fin 22, (tx t.1).length = ud_len.getD t.1 0 ∧ (tx t.1).length ≤ 6 := by decide
theorem tx_at : ∀ t : Fin 22, ∀ i : Fin 6, i.1 < (tx t.1).length → ((ud_byt.getD t.1 []).getD i.1 0 &&& 255) = nI ((tx t.1).getD i.1 0) ∧ 97 ≤ (tx t.1).getD i.1 0 ∧ (tx t.1).getD i.1 0 ≤ 122 := by decide
def isW (f : Nat → Nat) (R : TK) (l : List Nat) : Bool := (R.1 == 1) && (R.2.2 - R.2.1 == l.length) && (List.range l.length).all (fun i => f (R.2.1 + i) == l.getD i 0)
theorem isW_t {f : Nat → Nat} {R : TK} {l : List Nat} : isW f R l = true ↔ R.1 = 1 ∧ R.2.2 - R.2.1 = l.length ∧ ∀ i, i < l.length → f (R.2.1 + i) = l.getD i 0 := by
  unfold isW
  rw [Bool.and_eq_true, Bool.and_eq_true, List.all_eq_true]
  simp only [beq_iff_eq, List.mem_range, and_assoc]
theorem isW_f {f : Nat → Nat} {R : TK} {l : List Nat} (h : ¬ (R.1 = 1 ∧ R.2.2 - R.2.1 = l.length ∧ ∀ i, i < l.length → f (R.2.1 + i) = l.getD i 0)) : isW f R l = false := by
  cases e : isW f R l
  · rfl
  · exact absurd (isW_t.mp e) h
theorem isW_one {f : Nat → Nat} {R : TK} {l r : List Nat} (h : isW f R l = true) (h2 : l.length ≠ r.length) : isW f R r = false := isW_f (fun w => h2 ((isW_t.mp h).2.1.symm.trans w.2.1))
theorem x_isText {a : ud_St} {f : Nat → Nat} {c t : Nat} {R : TK} {Q : Int32 → Prop} (hb : xby a f c) (hr : xr a R) (ho : R.2.1 ≤ R.2.2) (ho2 : R.2.2 ≤ c) (ho4 : R.1 ≤ 4) (ht : t < 22) (h1 : isW f R (tx t) = true → Q 1) (h0 : isW f R (tx t) = false → Q 0) : w_Reader_isText a t Q := by
  have hc := hb.1
  obtain ⟨hl, hl6⟩ := tx_len ⟨t, ht⟩
  have hl' : (tx t).length = ud_len.getD t 0 := hl
  have hl6' : (tx t).length ≤ 6 := hl6
  have hat := fun i (hi : i < (tx t).length) => tx_at ⟨t, ht⟩ ⟨i, by omega⟩ hi
  simp only at hat
  unfold w_Reader_isText w_String_length w_String_charAt
  rw [hr.1, hr.2.1, hr.2.2, ui_sub ho, ← hl']
  refine ⟨fun z => ⟨ht, fun z2 => ?_, fun z2 => h0 (isW_f (fun w => z2 (by rw [w.2.1])))⟩, fun z => h0 (isW_f (fun w => z (by rw [w.1]; rfl)))⟩
  have e1 := (nI_eq (b := 1) (by omega) (by omega)).mp z
  have e2 := (nI_eq (by omega) (by omega)).mp z2
  refine LW1.up (tx t).length (fun i x => x = nI i ∧ ∀ j, j < i → f (R.2.1 + j) = (tx t).getD j 0) ⟨rfl, fun j hj => by omega⟩ ?_ ?_
  · rintro i x hi ⟨rfl, hall⟩ K hK
    obtain ⟨q1, q2, q3⟩ := hat i hi
    refine ⟨ht, fun z => absurd z (nI_ge hi (by omega)), fun _ => ?_⟩
    rw [nI_add]
    refine x_byteAt hb.2.1 hc hb.2.2 (by omega) (fun hic => ⟨ht, vp_in_nI hi (by omega), ?_⟩) (fun w => by omega)
    rw [nI_clamp (by omega), q1]
    have hf := (hb.2.2 _ hic).1
    refine ⟨fun z => hK _ ⟨nI_1 i, fun j hj => ?_⟩, fun z => h0 (isW_f (fun w => z (by rw [w.2.2 i hi])))⟩
    by_cases ej : j = i
    · rw [ej]; exact (nI_eq (by omega) (by omega)).mp z
    · exact hall j (by omega)
  · rintro x ⟨rfl, hall⟩ K
    exact ⟨ht, fun _ => h1 (isW_t.mpr ⟨e1, e2, hall⟩), fun z => absurd (nI_le (Nat.le_refl _) (by omega)) z⟩
def srtH (f : Nat → Nat) (R : TK) : Nat := run (fun s => !isW f R (tx (4 + s))) 15 0
theorem srtH_le (f : Nat → Nat) (R : TK) : srtH f R ≤ 15 := by
  have := (run_sp (fun s => !isW f R (tx (4 + s))) 15 0).2.1
  exact this
theorem srtH_at {f : Nat → Nat} {R : TK} {s : Nat} (hs : s < 15) (h : ∀ j, j < s → isW f R (tx (4 + j)) = false) (h2 : isW f R (tx (4 + s)) = true) : srtH f R = s := by
  obtain ⟨q1, q2, q3, q4⟩ := run_sp (fun s => !isW f R (tx (4 + s))) 15 0
  have e : srtH f R = run (fun s => !isW f R (tx (4 + s))) 15 0 := rfl
  rw [← e] at q1 q2 q3 q4
  rcases Nat.lt_trichotomy (srtH f R) s with w | w | w
  · have := q4 (by omega)
    rw [h _ w] at this
    cases this
  · exact w
  · have := q3 s (by omega) w
    rw [h2] at this
    cases this
theorem srtH_no {f : Nat → Nat} {R : TK} (h : ∀ j, j < 15 → isW f R (tx (4 + j)) = false) : srtH f R = 15 := by
  obtain ⟨q1, q2, q3, q4⟩ := run_sp (fun s => !isW f R (tx (4 + s))) 15 0
  have e : srtH f R = run (fun s => !isW f R (tx (4 + s))) 15 0 := rfl
  rw [← e] at q1 q2 q3 q4
  rcases Nat.lt_or_ge (srtH f R) 15 with w | w
  · have := q4 (by omega)
    rw [h _ w] at this
    cases this
  · omega
theorem x_nameOf {a : ud_St} {s : Nat} {Q : Nat → Prop} (hs : s < 15) (h : Q (4 + s)) : w_Reader_nameOf a (nI s) Q := by
  unfold w_Reader_nameOf
  have e : ∀ k : Nat, k < 16 → (nI s = nI k ↔ s = k) := fun k hk => nI_eq (by omega) (by omega)
  refine ⟨fun z => ?_, fun z0 => ⟨fun z => ?_, fun z1 => ⟨fun z => ?_, fun z2 => ⟨fun z => ?_, fun z3 => ⟨fun z => ?_, fun z4 => ⟨fun z => ?_, fun z5 => ⟨fun z => ?_, fun z6 => ⟨fun z => ?_, fun z7 => ⟨fun z => ?_, fun z8 => ⟨fun z => ?_, fun z9 => ⟨fun z => ?_, fun z10 => ⟨fun z => ?_, fun z11 => ⟨fun z => ?_, fun z12 => ⟨fun z => ?_, fun z13 => ?_⟩⟩⟩⟩⟩⟩⟩⟩⟩⟩⟩⟩⟩⟩
  · rw [(e 0 (by omega)).mp z] at h; exact h
  · rw [(e 1 (by omega)).mp z] at h; exact h
  · rw [(e 2 (by omega)).mp z] at h; exact h
  · rw [(e 3 (by omega)).mp z] at h; exact h
  · rw [(e 4 (by omega)).mp z] at h; exact h
  · rw [(e 5 (by omega)).mp z] at h; exact h
  · rw [(e 6 (by omega)).mp z] at h; exact h
  · rw [(e 7 (by omega)).mp z] at h; exact h
  · rw [(e 8 (by omega)).mp z] at h; exact h
  · rw [(e 9 (by omega)).mp z] at h; exact h
  · rw [(e 10 (by omega)).mp z] at h; exact h
  · rw [(e 11 (by omega)).mp z] at h; exact h
  · rw [(e 12 (by omega)).mp z] at h; exact h
  · rw [(e 13 (by omega)).mp z] at h; exact h
  · have n0 : ¬ s = 0 := fun w => z0 ((e 0 (by omega)).mpr w)
    have n1 : ¬ s = 1 := fun w => z1 ((e 1 (by omega)).mpr w)
    have n2 : ¬ s = 2 := fun w => z2 ((e 2 (by omega)).mpr w)
    have n3 : ¬ s = 3 := fun w => z3 ((e 3 (by omega)).mpr w)
    have n4 : ¬ s = 4 := fun w => z4 ((e 4 (by omega)).mpr w)
    have n5 : ¬ s = 5 := fun w => z5 ((e 5 (by omega)).mpr w)
    have n6 : ¬ s = 6 := fun w => z6 ((e 6 (by omega)).mpr w)
    have n7 : ¬ s = 7 := fun w => z7 ((e 7 (by omega)).mpr w)
    have n8 : ¬ s = 8 := fun w => z8 ((e 8 (by omega)).mpr w)
    have n9 : ¬ s = 9 := fun w => z9 ((e 9 (by omega)).mpr w)
    have n10 : ¬ s = 10 := fun w => z10 ((e 10 (by omega)).mpr w)
    have n11 : ¬ s = 11 := fun w => z11 ((e 11 (by omega)).mpr w)
    have n12 : ¬ s = 12 := fun w => z12 ((e 12 (by omega)).mpr w)
    have n13 : ¬ s = 13 := fun w => z13 ((e 13 (by omega)).mpr w)
    rw [show s = 14 by omega] at h; exact h
theorem x_sortHere {a : ud_St} {f : Nat → Nat} {c : Nat} {R : TK} {Q : Int32 → Prop} (hb : xby a f c) (hr : xr a R) (ho : R.2.1 ≤ R.2.2) (ho2 : R.2.2 ≤ c) (ho4 : R.1 ≤ 4) (h1 : srtH f R < 15 → Q (nI (srtH f R))) (h0 : srtH f R = 15 → Q (-1)) : w_Reader_sortHere a Q := by
  unfold w_Reader_sortHere
  refine LW1.up 15 (fun s x => x = nI s ∧ ∀ j, j < s → isW f R (tx (4 + j)) = false) ⟨rfl, fun j hj => by omega⟩ ?_ ?_
  · rintro s x hs ⟨rfl, hall⟩ K hK
    refine ⟨fun z => absurd ((nI_ltI (a := 14) (by omega) (by omega)).mp z) (by omega), fun _ => x_nameOf hs (x_isText hb hr ho ho2 ho4 (by omega) (fun w => t1 ?_) (fun w => t0 (hK _ ⟨nI_1 s, fun j hj => ?_⟩)))⟩
    · have e := srtH_at hs hall w
      rw [e] at h1
      exact h1 hs
    · by_cases ej : j = s
      · rw [ej]; exact w
      · exact hall j (by omega)
  · rintro x ⟨rfl, hall⟩ K
    exact ⟨fun _ => h0 (srtH_no hall), fun z => absurd (nI_lt (a := 14) (b := 15) (by omega) (by omega)) z⟩
/-- what is read of a value, a text, a word -/
def num (f : Nat → Nat) (c : Nat) (R : TK) (lo hi : Nat) : Except (Nat × Nat) (Nat × TK) :=
  if R.1 = 2 then (if lo ≤ nv f R.2.1 (R.2.2 - R.2.1) ∧ nv f R.2.1 (R.2.2 - R.2.1) ≤ hi then .ok (nv f R.2.1 (R.2.2 - R.2.1), tokF f c R.2.2) else .error (2, R.2.1)) else .error (1, R.2.1)
def txt (f : Nat → Nat) (c : Nat) (R : TK) (t : Nat) : Except (Nat × Nat) TK := if isW f R (tx t) = true then .ok (tokF f c R.2.2) else .error (1, R.2.1)
def wrd (f : Nat → Nat) (c : Nat) (R : TK) (b : Nat) : Except (Nat × Nat) (Nat × Nat × TK) :=
  if srtH f R = 15 then .error (1, R.2.1) else if srtH f R < 12 then .ok (srtH f R, 0, tokF f c R.2.2) else
  match num f c (tokF f c R.2.2) 0 (if srtH f R = 14 then b - 1 else 99) with
  | .error e => .error e
  | .ok (v, R') => .ok (srtH f R, v, R')
def bo (b : Nat) : Nat := run (fun L => decide (b ^ (L + 1) ≤ 10000)) 8 0
/-! tables, as they grow -/
def tb (t : TD) (b n : Nat) : TD := fun i j => if i = 0 ∧ j = 0 then b else if i = 0 ∧ j = 1 then n else t i j
def tw (t : TD) (s v : Nat) : TD := fun i j => if i = 0 ∧ j = 3 then t 0 3 + 1 else if i = 1 ∧ j = t 0 3 then s else if i = 2 ∧ j = t 0 3 then v else t i j
def tsl (t : TD) (s v s2 v2 : Nat) : TD := fun i j => if i = 0 ∧ j = 4 then t 0 4 + 1 else if i = 3 ∧ j = t 0 4 then s else if i = 4 ∧ j = t 0 4 then v else if i = 5 ∧ j = t 0 4 then s2 else if i = 6 ∧ j = t 0 4 then v2 else t i j
def tto (t : TD) (v : Nat) : TD := fun i j => if i = 0 ∧ j = 5 then t 0 5 + 1 else if i = 7 ∧ j = t 0 5 then v else t i j
def tln (t : TD) : TD := fun i j => if i = 0 ∧ j = 2 then t 0 2 + 1 else t i j
def sz (t : TD) : Nat := if t 0 1 = 0 then 0 else t 0 0 ^ t 0 1
def doL (f : Nat → Nat) (c : Nat) : Nat → Nat → TK → TD → Except (Nat × Nat) (TK × TD)
  | 0, _, R, t => .ok (R, t)
  | n + 1, i, R, t => if 0 < i ∧ R.1 = 3 then .ok (R, t) else if i = 12 ∧ srtH f R ≠ 15 then .error (3, R.2.1) else
    match wrd f c R (t 0 0) with
    | .error e => .error e
    | .ok (s, v, R') => doL f c n (i + 1) R' (tw t s v)
def lnB (f : Nat → Nat) (c : Nat) (R : TK) (t : TD) : Except (Nat × Nat) (TK × TD) :=
  match txt f c R 0 with
  | .error e => .error e
  | .ok R1 => match txt f c R1 1 with
    | .error e => .error e
    | .ok R2 => match num f c R2 2 16 with
      | .error e => .error e
      | .ok (b, R3) => match txt f c R3 2 with
        | .error e => .error e
        | .ok R4 => match num f c R4 1 (bo b) with
          | .error e => .error e
          | .ok (n, R5) => .ok (R5, tb t b n)
def lnT (f : Nat → Nat) (c : Nat) (R : TK) (t : TD) : Except (Nat × Nat) (TK × TD) :=
  if t 0 5 < 20 then
    match num f c (tokF f c R.2.2) 0 (sz t - 1) with
    | .error e => .error e
    | .ok (v, R') => .ok (R', tto t v)
  else .error (3, R.2.1)
def lnS (f : Nat → Nat) (c : Nat) (R : TK) (t : TD) : Except (Nat × Nat) (TK × TD) :=
  if t 0 4 < 6 then
    match wrd f c (tokF f c R.2.2) (t 0 0) with
    | .error e => .error e
    | .ok (s, v, R1) => match txt f c R1 21 with
      | .error e => .error e
      | .ok R2 => match wrd f c R2 (t 0 0) with
        | .error e => .error e
        | .ok (s2, v2, R3) => .ok (R3, tsl t s v s2 v2)
  else .error (3, R.2.1)
def lnD (f : Nat → Nat) (c : Nat) (R : TK) (t : TD) : Except (Nat × Nat) (TK × TD) :=
  if t 0 3 = 0 then doL f c 13 0 (tokF f c R.2.2) t else .error (2, R.2.1)
def lnA (f : Nat → Nat) (c : Nat) (R : TK) (t : TD) : Except (Nat × Nat) (TK × TD) :=
  if t 0 2 = 0 then lnB f c R t else if isW f R (tx 3) = true then lnD f c R t else if isW f R (tx 19) = true then lnT f c R t else if isW f R (tx 20) = true then lnS f c R t else .error (1, R.2.1)
def lnZ (f : Nat → Nat) (c : Nat) : Nat → TK → TD → Except (Nat × Nat) TD
  | 0, _, t => .ok t
  | n + 1, R, t => if R.1 = 0 then .ok t else
    match lnA f c R t with
    | .error e => .error e
    | .ok (R', t') => if R'.1 = 3 then lnZ f c n (tokF f c R'.2.2) (tln t') else .error (1, R'.2.1)
