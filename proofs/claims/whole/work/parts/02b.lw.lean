/-! loops as weakest conditions; small definitions that the pure side needs -/
def ud_len : List Nat := [5, 4, 4, 5, 4, 2, 4, 4, 4, 4, 3, 6, 4, 3, 4, 5, 5, 4, 3, 6, 4, 3]
def ud_byt : List (List Int32) := [[116, 97, 98, 108, 101], [98, 97, 115, 101], [108, 111, 110, 103], [100, 111, 105, 110, 103], [100, 111, 119, 110], [117, 112], [116, 117, 114, 110], [107, 101, 101, 112], [98, 97, 99, 107], [108, 101, 115, 115], [97, 100, 100], [115, 113, 117, 97, 114, 101], [99, 117, 98, 101], [115, 117, 109], [104, 97, 108, 102], [102, 105, 114, 115, 116], [116, 105, 109, 101, 115], [112, 108, 117, 115], [111, 117, 116], [110, 117, 109, 98, 101, 114], [115, 108, 105, 112], [102, 111, 114]]
def LW1 {A0 : Type} (F : A0 → (A0 → Prop) → Prop) (x0 : A0) : Prop := ∃ (I : A0 → Prop) (μ : A0 → Nat), I x0 ∧ ∀ y0, I y0 → F y0 (fun y0' => I y0' ∧ μ y0' < μ y0)
theorem LW1.elim {A0 : Type} {F : A0 → (A0 → Prop) → Prop} {P : A0 → Prop} {x0 : A0} (h : LW1 F x0) (st : ∀ y0 (K : A0 → Prop), F y0 K → (∀ y0', K y0' → P y0') → P y0) : P x0 := by
  obtain ⟨I, μ, h0, hI⟩ := h
  have key : ∀ (n : Nat) y0, μ y0 < n → I y0 → P y0 := by
    intro n
    induction n with
    | zero => intro y0 q _; exact absurd q (Nat.not_lt_zero _)
    | succ n ih => intro y0 q hi; exact st y0 _ (hI y0 hi) (fun y0' w => ih y0' (by have := w.2; omega) w.1)
  exact key _ x0 (Nat.lt_succ_self _) h0
def LW2 {A0 A1 : Type} (F : A0 → A1 → (A0 → A1 → Prop) → Prop) (x0 : A0) (x1 : A1) : Prop := ∃ (I : A0 → A1 → Prop) (μ : A0 → A1 → Nat), I x0 x1 ∧ ∀ y0 y1, I y0 y1 → F y0 y1 (fun y0' y1' => I y0' y1' ∧ μ y0' y1' < μ y0 y1)
theorem LW2.elim {A0 A1 : Type} {F : A0 → A1 → (A0 → A1 → Prop) → Prop} {P : A0 → A1 → Prop} {x0 : A0} {x1 : A1} (h : LW2 F x0 x1) (st : ∀ y0 y1 (K : A0 → A1 → Prop), F y0 y1 K → (∀ y0' y1', K y0' y1' → P y0' y1') → P y0 y1) : P x0 x1 := by
  obtain ⟨I, μ, h0, hI⟩ := h
  have key : ∀ (n : Nat) y0 y1, μ y0 y1 < n → I y0 y1 → P y0 y1 := by
    intro n
    induction n with
    | zero => intro y0 y1 q _; exact absurd q (Nat.not_lt_zero _)
    | succ n ih => intro y0 y1 q hi; exact st y0 y1 _ (hI y0 y1 hi) (fun y0' y1' w => ih y0' y1' (by have := w.2; omega) w.1)
  exact key _ x0 x1 (Nat.lt_succ_self _) h0
def LW3 {A0 A1 A2 : Type} (F : A0 → A1 → A2 → (A0 → A1 → A2 → Prop) → Prop) (x0 : A0) (x1 : A1) (x2 : A2) : Prop := ∃ (I : A0 → A1 → A2 → Prop) (μ : A0 → A1 → A2 → Nat), I x0 x1 x2 ∧ ∀ y0 y1 y2, I y0 y1 y2 → F y0 y1 y2 (fun y0' y1' y2' => I y0' y1' y2' ∧ μ y0' y1' y2' < μ y0 y1 y2)
theorem LW3.elim {A0 A1 A2 : Type} {F : A0 → A1 → A2 → (A0 → A1 → A2 → Prop) → Prop} {P : A0 → A1 → A2 → Prop} {x0 : A0} {x1 : A1} {x2 : A2} (h : LW3 F x0 x1 x2) (st : ∀ y0 y1 y2 (K : A0 → A1 → A2 → Prop), F y0 y1 y2 K → (∀ y0' y1' y2', K y0' y1' y2' → P y0' y1' y2') → P y0 y1 y2) : P x0 x1 x2 := by
  obtain ⟨I, μ, h0, hI⟩ := h
  have key : ∀ (n : Nat) y0 y1 y2, μ y0 y1 y2 < n → I y0 y1 y2 → P y0 y1 y2 := by
    intro n
    induction n with
    | zero => intro y0 y1 y2 q _; exact absurd q (Nat.not_lt_zero _)
    | succ n ih => intro y0 y1 y2 q hi; exact st y0 y1 y2 _ (hI y0 y1 y2 hi) (fun y0' y1' y2' w => ih y0' y1' y2' (by have := w.2; omega) w.1)
  exact key _ x0 x1 x2 (Nat.lt_succ_self _) h0
def LW4 {A0 A1 A2 A3 : Type} (F : A0 → A1 → A2 → A3 → (A0 → A1 → A2 → A3 → Prop) → Prop) (x0 : A0) (x1 : A1) (x2 : A2) (x3 : A3) : Prop := ∃ (I : A0 → A1 → A2 → A3 → Prop) (μ : A0 → A1 → A2 → A3 → Nat), I x0 x1 x2 x3 ∧ ∀ y0 y1 y2 y3, I y0 y1 y2 y3 → F y0 y1 y2 y3 (fun y0' y1' y2' y3' => I y0' y1' y2' y3' ∧ μ y0' y1' y2' y3' < μ y0 y1 y2 y3)
theorem LW4.elim {A0 A1 A2 A3 : Type} {F : A0 → A1 → A2 → A3 → (A0 → A1 → A2 → A3 → Prop) → Prop} {P : A0 → A1 → A2 → A3 → Prop} {x0 : A0} {x1 : A1} {x2 : A2} {x3 : A3} (h : LW4 F x0 x1 x2 x3) (st : ∀ y0 y1 y2 y3 (K : A0 → A1 → A2 → A3 → Prop), F y0 y1 y2 y3 K → (∀ y0' y1' y2' y3', K y0' y1' y2' y3' → P y0' y1' y2' y3') → P y0 y1 y2 y3) : P x0 x1 x2 x3 := by
  obtain ⟨I, μ, h0, hI⟩ := h
  have key : ∀ (n : Nat) y0 y1 y2 y3, μ y0 y1 y2 y3 < n → I y0 y1 y2 y3 → P y0 y1 y2 y3 := by
    intro n
    induction n with
    | zero => intro y0 y1 y2 y3 q _; exact absurd q (Nat.not_lt_zero _)
    | succ n ih => intro y0 y1 y2 y3 q hi; exact st y0 y1 y2 y3 _ (hI y0 y1 y2 y3 hi) (fun y0' y1' y2' y3' w => ih y0' y1' y2' y3' (by have := w.2; omega) w.1)
  exact key _ x0 x1 x2 x3 (Nat.lt_succ_self _) h0
def LW5 {A0 A1 A2 A3 A4 : Type} (F : A0 → A1 → A2 → A3 → A4 → (A0 → A1 → A2 → A3 → A4 → Prop) → Prop) (x0 : A0) (x1 : A1) (x2 : A2) (x3 : A3) (x4 : A4) : Prop := ∃ (I : A0 → A1 → A2 → A3 → A4 → Prop) (μ : A0 → A1 → A2 → A3 → A4 → Nat), I x0 x1 x2 x3 x4 ∧ ∀ y0 y1 y2 y3 y4, I y0 y1 y2 y3 y4 → F y0 y1 y2 y3 y4 (fun y0' y1' y2' y3' y4' => I y0' y1' y2' y3' y4' ∧ μ y0' y1' y2' y3' y4' < μ y0 y1 y2 y3 y4)
theorem LW5.elim {A0 A1 A2 A3 A4 : Type} {F : A0 → A1 → A2 → A3 → A4 → (A0 → A1 → A2 → A3 → A4 → Prop) → Prop} {P : A0 → A1 → A2 → A3 → A4 → Prop} {x0 : A0} {x1 : A1} {x2 : A2} {x3 : A3} {x4 : A4} (h : LW5 F x0 x1 x2 x3 x4) (st : ∀ y0 y1 y2 y3 y4 (K : A0 → A1 → A2 → A3 → A4 → Prop), F y0 y1 y2 y3 y4 K → (∀ y0' y1' y2' y3' y4', K y0' y1' y2' y3' y4' → P y0' y1' y2' y3' y4') → P y0 y1 y2 y3 y4) : P x0 x1 x2 x3 x4 := by
  obtain ⟨I, μ, h0, hI⟩ := h
  have key : ∀ (n : Nat) y0 y1 y2 y3 y4, μ y0 y1 y2 y3 y4 < n → I y0 y1 y2 y3 y4 → P y0 y1 y2 y3 y4 := by
    intro n
    induction n with
    | zero => intro y0 y1 y2 y3 y4 q _; exact absurd q (Nat.not_lt_zero _)
    | succ n ih => intro y0 y1 y2 y3 y4 q hi; exact st y0 y1 y2 y3 y4 _ (hI y0 y1 y2 y3 y4 hi) (fun y0' y1' y2' y3' y4' w => ih y0' y1' y2' y3' y4' (by have := w.2; omega) w.1)
  exact key _ x0 x1 x2 x3 x4 (Nat.lt_succ_self _) h0
def LW6 {A0 A1 A2 A3 A4 A5 : Type} (F : A0 → A1 → A2 → A3 → A4 → A5 → (A0 → A1 → A2 → A3 → A4 → A5 → Prop) → Prop) (x0 : A0) (x1 : A1) (x2 : A2) (x3 : A3) (x4 : A4) (x5 : A5) : Prop := ∃ (I : A0 → A1 → A2 → A3 → A4 → A5 → Prop) (μ : A0 → A1 → A2 → A3 → A4 → A5 → Nat), I x0 x1 x2 x3 x4 x5 ∧ ∀ y0 y1 y2 y3 y4 y5, I y0 y1 y2 y3 y4 y5 → F y0 y1 y2 y3 y4 y5 (fun y0' y1' y2' y3' y4' y5' => I y0' y1' y2' y3' y4' y5' ∧ μ y0' y1' y2' y3' y4' y5' < μ y0 y1 y2 y3 y4 y5)
theorem LW6.elim {A0 A1 A2 A3 A4 A5 : Type} {F : A0 → A1 → A2 → A3 → A4 → A5 → (A0 → A1 → A2 → A3 → A4 → A5 → Prop) → Prop} {P : A0 → A1 → A2 → A3 → A4 → A5 → Prop} {x0 : A0} {x1 : A1} {x2 : A2} {x3 : A3} {x4 : A4} {x5 : A5} (h : LW6 F x0 x1 x2 x3 x4 x5) (st : ∀ y0 y1 y2 y3 y4 y5 (K : A0 → A1 → A2 → A3 → A4 → A5 → Prop), F y0 y1 y2 y3 y4 y5 K → (∀ y0' y1' y2' y3' y4' y5', K y0' y1' y2' y3' y4' y5' → P y0' y1' y2' y3' y4' y5') → P y0 y1 y2 y3 y4 y5) : P x0 x1 x2 x3 x4 x5 := by
  obtain ⟨I, μ, h0, hI⟩ := h
  have key : ∀ (n : Nat) y0 y1 y2 y3 y4 y5, μ y0 y1 y2 y3 y4 y5 < n → I y0 y1 y2 y3 y4 y5 → P y0 y1 y2 y3 y4 y5 := by
    intro n
    induction n with
    | zero => intro y0 y1 y2 y3 y4 y5 q _; exact absurd q (Nat.not_lt_zero _)
    | succ n ih => intro y0 y1 y2 y3 y4 y5 q hi; exact st y0 y1 y2 y3 y4 y5 _ (hI y0 y1 y2 y3 y4 y5 hi) (fun y0' y1' y2' y3' y4' y5' w => ih y0' y1' y2' y3' y4' y5' (by have := w.2; omega) w.1)
  exact key _ x0 x1 x2 x3 x4 x5 (Nat.lt_succ_self _) h0
def LW7 {A0 A1 A2 A3 A4 A5 A6 : Type} (F : A0 → A1 → A2 → A3 → A4 → A5 → A6 → (A0 → A1 → A2 → A3 → A4 → A5 → A6 → Prop) → Prop) (x0 : A0) (x1 : A1) (x2 : A2) (x3 : A3) (x4 : A4) (x5 : A5) (x6 : A6) : Prop := ∃ (I : A0 → A1 → A2 → A3 → A4 → A5 → A6 → Prop) (μ : A0 → A1 → A2 → A3 → A4 → A5 → A6 → Nat), I x0 x1 x2 x3 x4 x5 x6 ∧ ∀ y0 y1 y2 y3 y4 y5 y6, I y0 y1 y2 y3 y4 y5 y6 → F y0 y1 y2 y3 y4 y5 y6 (fun y0' y1' y2' y3' y4' y5' y6' => I y0' y1' y2' y3' y4' y5' y6' ∧ μ y0' y1' y2' y3' y4' y5' y6' < μ y0 y1 y2 y3 y4 y5 y6)
theorem LW7.elim {A0 A1 A2 A3 A4 A5 A6 : Type} {F : A0 → A1 → A2 → A3 → A4 → A5 → A6 → (A0 → A1 → A2 → A3 → A4 → A5 → A6 → Prop) → Prop} {P : A0 → A1 → A2 → A3 → A4 → A5 → A6 → Prop} {x0 : A0} {x1 : A1} {x2 : A2} {x3 : A3} {x4 : A4} {x5 : A5} {x6 : A6} (h : LW7 F x0 x1 x2 x3 x4 x5 x6) (st : ∀ y0 y1 y2 y3 y4 y5 y6 (K : A0 → A1 → A2 → A3 → A4 → A5 → A6 → Prop), F y0 y1 y2 y3 y4 y5 y6 K → (∀ y0' y1' y2' y3' y4' y5' y6', K y0' y1' y2' y3' y4' y5' y6' → P y0' y1' y2' y3' y4' y5' y6') → P y0 y1 y2 y3 y4 y5 y6) : P x0 x1 x2 x3 x4 x5 x6 := by
  obtain ⟨I, μ, h0, hI⟩ := h
  have key : ∀ (n : Nat) y0 y1 y2 y3 y4 y5 y6, μ y0 y1 y2 y3 y4 y5 y6 < n → I y0 y1 y2 y3 y4 y5 y6 → P y0 y1 y2 y3 y4 y5 y6 := by
    intro n
    induction n with
    | zero => intro y0 y1 y2 y3 y4 y5 y6 q _; exact absurd q (Nat.not_lt_zero _)
    | succ n ih => intro y0 y1 y2 y3 y4 y5 y6 q hi; exact st y0 y1 y2 y3 y4 y5 y6 _ (hI y0 y1 y2 y3 y4 y5 y6 hi) (fun y0' y1' y2' y3' y4' y5' y6' w => ih y0' y1' y2' y3' y4' y5' y6' (by have := w.2; omega) w.1)
  exact key _ x0 x1 x2 x3 x4 x5 x6 (Nat.lt_succ_self _) h0
def LW8 {A0 A1 A2 A3 A4 A5 A6 A7 : Type} (F : A0 → A1 → A2 → A3 → A4 → A5 → A6 → A7 → (A0 → A1 → A2 → A3 → A4 → A5 → A6 → A7 → Prop) → Prop) (x0 : A0) (x1 : A1) (x2 : A2) (x3 : A3) (x4 : A4) (x5 : A5) (x6 : A6) (x7 : A7) : Prop := ∃ (I : A0 → A1 → A2 → A3 → A4 → A5 → A6 → A7 → Prop) (μ : A0 → A1 → A2 → A3 → A4 → A5 → A6 → A7 → Nat), I x0 x1 x2 x3 x4 x5 x6 x7 ∧ ∀ y0 y1 y2 y3 y4 y5 y6 y7, I y0 y1 y2 y3 y4 y5 y6 y7 → F y0 y1 y2 y3 y4 y5 y6 y7 (fun y0' y1' y2' y3' y4' y5' y6' y7' => I y0' y1' y2' y3' y4' y5' y6' y7' ∧ μ y0' y1' y2' y3' y4' y5' y6' y7' < μ y0 y1 y2 y3 y4 y5 y6 y7)
theorem LW8.elim {A0 A1 A2 A3 A4 A5 A6 A7 : Type} {F : A0 → A1 → A2 → A3 → A4 → A5 → A6 → A7 → (A0 → A1 → A2 → A3 → A4 → A5 → A6 → A7 → Prop) → Prop} {P : A0 → A1 → A2 → A3 → A4 → A5 → A6 → A7 → Prop} {x0 : A0} {x1 : A1} {x2 : A2} {x3 : A3} {x4 : A4} {x5 : A5} {x6 : A6} {x7 : A7} (h : LW8 F x0 x1 x2 x3 x4 x5 x6 x7) (st : ∀ y0 y1 y2 y3 y4 y5 y6 y7 (K : A0 → A1 → A2 → A3 → A4 → A5 → A6 → A7 → Prop), F y0 y1 y2 y3 y4 y5 y6 y7 K → (∀ y0' y1' y2' y3' y4' y5' y6' y7', K y0' y1' y2' y3' y4' y5' y6' y7' → P y0' y1' y2' y3' y4' y5' y6' y7') → P y0 y1 y2 y3 y4 y5 y6 y7) : P x0 x1 x2 x3 x4 x5 x6 x7 := by
  obtain ⟨I, μ, h0, hI⟩ := h
  have key : ∀ (n : Nat) y0 y1 y2 y3 y4 y5 y6 y7, μ y0 y1 y2 y3 y4 y5 y6 y7 < n → I y0 y1 y2 y3 y4 y5 y6 y7 → P y0 y1 y2 y3 y4 y5 y6 y7 := by
    intro n
    induction n with
    | zero => intro y0 y1 y2 y3 y4 y5 y6 y7 q _; exact absurd q (Nat.not_lt_zero _)
    | succ n ih => intro y0 y1 y2 y3 y4 y5 y6 y7 q hi; exact st y0 y1 y2 y3 y4 y5 y6 y7 _ (hI y0 y1 y2 y3 y4 y5 y6 y7 hi) (fun y0' y1' y2' y3' y4' y5' y6' y7' w => ih y0' y1' y2' y3' y4' y5' y6' y7' (by have := w.2; omega) w.1)
  exact key _ x0 x1 x2 x3 x4 x5 x6 x7 (Nat.lt_succ_self _) h0
def ud_cp (a : ud_St) (k1 k2 sp dp n : Nat) : ud_St := (a.1, fun k' j' => if k' = k2 + 1 then va_cpy (a.2.1 (k1 + 1)) (a.2.1 (k2 + 1)) sp dp n j' else a.2.1 k' j', a.2.2)
def w_String_length (t : Nat) (Qf : Int32 → Prop) : Prop := t < 22 ∧ Qf (nI (ud_len.getD t 0))
def w_String_charAt (t : Nat) (i : Int32) (Qf : Int32 → Prop) : Prop := t < 22 ∧ vp_in i (ud_len.getD t 0) ∧ Qf (((ud_byt.getD t []).getD i.toNatClampNeg 0) &&& 255)
def ud_fr (a : ud_St) (N i : Nat) : ud_St := (fun k j => if N ≤ k then 0 else a.1 k j, a.2.1, fun k j => if k = 70 ∧ j = i then some N else a.2.2 k j)
