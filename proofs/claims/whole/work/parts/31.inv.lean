/-! what a table is, on both sides -/
/-- row 0: base, long, lines, words, slips, told; 1, 2: sorts and numbers of the words; 3, 4: what a slip does; 5, 6: in place of what; 7: told -/
abbrev TD : Type := Nat → Nat → Nat
def tS (t : TD) : Nat := if t 0 2 = 0 then 0 else t 0 0 ^ t 0 1
def tOK (t : TD) : Prop := (t 0 2 = 0 ∧ t 0 0 = 0 ∧ t 0 1 = 0 ∧ t 0 3 = 0 ∧ t 0 4 = 0 ∧ t 0 5 = 0) ∨
  (1 ≤ t 0 2 ∧ t 0 2 ≤ 1000 ∧ 2 ≤ t 0 0 ∧ t 0 0 ≤ 16 ∧ 1 ≤ t 0 1 ∧ t 0 1 ≤ 8 ∧ t 0 0 ^ t 0 1 ≤ 10000 ∧ t 0 3 ≤ 12 ∧ t 0 4 ≤ 6 ∧ t 0 5 ≤ 20 ∧
   (∀ i, i < t 0 3 → wok (t 0 0) (t 1 i) (t 2 i)) ∧ (∀ i, i < t 0 4 → wok (t 0 0) (t 3 i) (t 4 i) ∧ wok (t 0 0) (t 5 i) (t 6 i)) ∧ ∀ i, i < t 0 5 → t 7 i < t 0 0 ^ t 0 1)
/-- x's Table at cell k -/
def xT (a : ud_St) (k : Nat) (t : TD) : Prop :=
  a.1 k 0 = nI (t 0 0) ∧ a.1 k 1 = nI (t 0 1) ∧ a.1 k 2 = nI (tS t) ∧ a.1 k 3 = nI (t 0 2) ∧ a.1 k 8 = nI (t 0 5) ∧ a.1 (k + 1) 2 = nI (t 0 3) ∧ a.1 (k + 4) 2 = nI (t 0 4) ∧ a.1 (k + 7) 2 = nI (t 0 4) ∧
  (∀ i, i < t 0 3 → a.1 (k + 2) i = nI (t 1 i) ∧ a.1 (k + 3) i = nI (t 2 i)) ∧
  (∀ i, i < t 0 4 → a.1 (k + 5) i = nI (t 3 i) ∧ a.1 (k + 6) i = nI (t 4 i) ∧ a.1 (k + 8) i = nI (t 5 i) ∧ a.1 (k + 9) i = nI (t 6 i)) ∧
  ∀ i, i < t 0 5 → a.1 (k + 10) i = nI (t 7 i)
/-- the model's table m -/
def mT (a : ud_St) (m : Nat) (t : TD) : Prop :=
  a.1 77 m = nI (t 0 2) ∧ a.1 78 (6 * m) = nI (t 0 0) ∧ a.1 78 (6 * m + 1) = nI (t 0 1) ∧ a.1 78 (6 * m + 2) = nI (tS t) ∧ a.1 78 (6 * m + 3) = nI (t 0 3) ∧ a.1 78 (6 * m + 4) = nI (t 0 4) ∧ a.1 78 (6 * m + 5) = nI (t 0 5) ∧
  (∀ i, i < t 0 3 → a.1 79 (24 * m + 2 * i) = nI (t 1 i) ∧ a.1 79 (24 * m + 2 * i + 1) = enc (t 1 i) (t 2 i)) ∧
  (∀ i, i < t 0 4 → a.1 80 (24 * m + 4 * i) = nI (t 3 i) ∧ a.1 80 (24 * m + 4 * i + 1) = enc (t 3 i) (t 4 i) ∧ a.1 80 (24 * m + 4 * i + 2) = nI (t 5 i) ∧ a.1 80 (24 * m + 4 * i + 3) = enc (t 5 i) (t 6 i)) ∧
  ∀ i, i < t 0 5 → a.1 81 (20 * m + i) = nI (t 7 i)
/-- the tape -/
def JT (a : ud_St) : Prop := ∃ c, c ≤ 800 ∧ a.1 1 1 = nI c ∧ a.1 71 6 = nI c ∧ ∀ i, i < c → ∃ v, v < 256 ∧ a.1 2 i = nI v ∧ a.1 76 i = (nI v).toInt8.toInt32
/-- the fault of the latest table() -/
def JF (a : ud_St) : Prop := a.1 3 6 = a.1 71 14 ∧ a.1 3 7 = a.1 71 15
/-- the slots -/
def JS (a : ud_St) : Prop := ∀ i, i < 4 → (a.1 (62 + 2 * i) 1 = 0 ∧ a.1 72 i = -1) ∨
  (a.1 (62 + 2 * i) 1 = 1 ∧ ∃ w c, w < 4 ∧ c ≤ 60 ∧ a.1 (62 + 2 * i) 2 = nI w ∧ a.1 72 i = nI w ∧ a.1 (62 + 2 * i) 3 = nI c ∧ a.1 73 i = nI c ∧ ∀ j, j < c → a.2.1 (62 + 2 * i + 1) j = a.2.1 74 (60 * i + j))
/-- the images -/
def JI (N : Nat) (a : ud_St) : Prop := 92 ≤ N ∧ (N - 92) % 11 = 0 ∧
  (∀ k, k < 3 → (a.2.2 70 k = none ∧ a.1 82 k = 0) ∨ (a.1 82 k = 1 ∧ ∃ q t, a.2.2 70 k = some q ∧ 92 ≤ q ∧ (q - 92) % 11 = 0 ∧ q + 11 ≤ N ∧ xT a q t ∧ mT a (k + 1) t ∧ tOK t)) ∧
  ∀ k k' q, k < 3 → k' < 3 → a.2.2 70 k = some q → a.2.2 70 k' = some q → k = k'
