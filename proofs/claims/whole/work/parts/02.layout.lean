/-! THE LAYER: one heap of cells from z on, read as a function; W over it. -/
abbrev ud_St : Type := (Nat → Nat → Int32) × (Nat → Nat → Int64) × (Nat → Nat → Option Nat)
def ud_sv (a : ud_St) (k j : Nat) (v : Int32) : ud_St := (fun k' j' => if k' = k ∧ j' = j then v else a.1 k' j', a.2)
def ud_sl (a : ud_St) (k j : Nat) (v : Int64) : ud_St := (a.1, fun k' j' => if k' = k ∧ j' = j then v else a.2.1 k' j', a.2.2)
def ud_sr (a : ud_St) (k j : Nat) (v : Option Nat) : ud_St := (a.1, a.2.1, fun k' j' => if k' = k ∧ j' = j then v else a.2.2 k' j')
def ud_L (G : Nat → Nat) (z : Nat) (f : Nat → Int32) (g : Nat → Int64) (r : Nat → Option Nat) : List va_E := [
  .inr (10, [.ref (z + 1), .ref (z + 3), .ref (z + 4), .ref (z + 15), .ref (z + 26), .ref (z + 36), .ref (z + 45), .ref (z + 48), .ref (z + 56), .ref (z + 59), .ref (z + 61), .ref (z + 70)]),
  .inr (8, [.ref (z + 2), .int (f 1)]),
  .inl (G 0, 800, .inl f),
  .inr (5, [.ref (z + 1), .int (f 1), .int (f 2), .int (f 3), .int (f 4), .int (f 5), .int (f 6), .int (f 7)]),
  .inr (7, [.int (f 0), .int (f 1), .int (f 2), .int (f 3), .ref (z + 5), .ref (z + 8), .ref (z + 11), .ref (z + 14), .int (f 8)]),
  .inr (9, [.ref (z + 6), .ref (z + 7), .int (f 2)]),
  .inl (G 0, 12, .inl f),
  .inl (G 0, 12, .inl f),
  .inr (9, [.ref (z + 9), .ref (z + 10), .int (f 2)]),
  .inl (G 0, 12, .inl f),
  .inl (G 0, 12, .inl f),
  .inr (9, [.ref (z + 12), .ref (z + 13), .int (f 2)]),
  .inl (G 0, 12, .inl f),
  .inl (G 0, 12, .inl f),
  .inl (G 0, 20, .inl f),
  .inr (7, [.int (f 0), .int (f 1), .int (f 2), .int (f 3), .ref (z + 16), .ref (z + 19), .ref (z + 22), .ref (z + 25), .int (f 8)]),
  .inr (9, [.ref (z + 17), .ref (z + 18), .int (f 2)]),
  .inl (G 0, 12, .inl f),
  .inl (G 0, 12, .inl f),
  .inr (9, [.ref (z + 20), .ref (z + 21), .int (f 2)]),
  .inl (G 0, 12, .inl f),
  .inl (G 0, 12, .inl f),
  .inr (9, [.ref (z + 23), .ref (z + 24), .int (f 2)]),
  .inl (G 0, 12, .inl f),
  .inl (G 0, 12, .inl f),
  .inl (G 0, 20, .inl f),
  .inr (3, [.int (f 0), .int (f 1), .int (f 2), .ref (z + 27), .ref (z + 28), .ref (z + 29), .ref (z + 30), .ref (z + 31), .ref (z + 32), .ref (z + 33), .ref (z + 34), .ref (z + 35)]),
  .inl (G 0, 9, .inl f),
  .inl (G 0, 8, .inl f),
  .inl (G 0, 10000, .inl f),
  .inl (G 0, 10000, .inl f),
  .inl (G 0, 10000, .inl f),
  .inl (G 0, 10000, .inl f),
  .inl (G 0, 10000, .inl f),
  .inl (G 0, 10000, .inl f),
  .inl (G 0, 10000, .inl f),
  .inr (4, [.int (f 0), .ref (z + 37), .ref (z + 38), .ref (z + 39), .ref (z + 40), .ref (z + 41), .ref (z + 42), .ref (z + 43), .ref (z + 44), .int (f 9), .int (f 10), .int (f 11), .int (f 12), .int (f 13), .int (f 14)]),
  .inl (G 0, 10000, .inl f),
  .inl (G 0, 10000, .inl f),
  .inl (G 0, 10000, .inl f),
  .inl (G 0, 10000, .inl f),
  .inl (G 0, 10000, .inl f),
  .inl (G 0, 10000, .inl f),
  .inl (G 0, 10001, .inl f),
  .inl (G 0, 10000, .inl f),
  .inr (1, [.ref (z + 46), .ref (z + 47), .int (f 2), .int (f 3), .int (f 4), .int (f 5), .int (f 6)]),
  .inl (G 0, 10000, .inl f),
  .inl (G 0, 10000, .inl f),
  .inr (0, [.ref (z + 49), .ref (z + 50), .ref (z + 51), .ref (z + 54), .ref (z + 55)]),
  .inl (G 0, 6, .inl f),
  .inl (G 0, 3, .inl f),
  .inr (9, [.ref (z + 52), .ref (z + 53), .int (f 2)]),
  .inl (G 0, 12, .inl f),
  .inl (G 0, 12, .inl f),
  .inl (G 0, 2, .inl f),
  .inl (G 0, 2, .inl f),
  .inr (9, [.ref (z + 57), .ref (z + 58), .int (f 2)]),
  .inl (G 0, 12, .inl f),
  .inl (G 0, 12, .inl f),
  .inr (2, [.ref (z + 60), .int (f 1)]),
  .inl (G 0, 100, .inl f),
  .inl (G 5, 4, .inr (.inr (.inr (.inr (fun i => some (z + (62 + 2 * i))))))),
  .inr (6, [.ref (z + 63), .int (f 1), .int (f 2), .int (f 3)]),
  .inl (G 1, 60, .inr (.inl g)),
  .inr (6, [.ref (z + 65), .int (f 1), .int (f 2), .int (f 3)]),
  .inl (G 1, 60, .inr (.inl g)),
  .inr (6, [.ref (z + 67), .int (f 1), .int (f 2), .int (f 3)]),
  .inl (G 1, 60, .inr (.inl g)),
  .inr (6, [.ref (z + 69), .int (f 1), .int (f 2), .int (f 3)]),
  .inl (G 1, 60, .inr (.inl g)),
  .inl (G 4, 3, .inr (.inr (.inr (.inr (fun i => (r i).map (fun q => z + q)))))),
  .inr (11, [.int (f 0), .ref (z + 72), .ref (z + 73), .ref (z + 74), .ref (z + 75), .ref (z + 76), .int (f 6), .int (f 7), .int (f 8), .int (f 9), .int (f 10), .long (g 11), .int (f 12), .int (f 13), .int (f 14), .int (f 15), .ref (z + 77), .ref (z + 78), .ref (z + 79), .ref (z + 80), .ref (z + 81), .int (f 21), .ref (z + 82), .ref (z + 83), .ref (z + 84), .int (f 25), .ref (z + 85), .ref (z + 86), .ref (z + 87), .ref (z + 88), .ref (z + 89), .ref (z + 90), .ref (z + 91), .int (f 33), .int (f 34)]),
  .inl (G 0, 4, .inl f),
  .inl (G 0, 4, .inl f),
  .inl (G 1, 240, .inr (.inl g)),
  .inl (G 1, 60, .inr (.inl g)),
  .inl (G 2, 800, .inl f),
  .inl (G 0, 5, .inl f),
  .inl (G 0, 30, .inl f),
  .inl (G 0, 120, .inl f),
  .inl (G 0, 120, .inl f),
  .inl (G 0, 100, .inl f),
  .inl (G 3, 3, .inl f),
  .inl (G 0, 8, .inl f),
  .inl (G 0, 8, .inl f),
  .inl (G 0, 10000, .inl f),
  .inl (G 0, 10000, .inl f),
  .inl (G 0, 10000, .inl f),
  .inl (G 0, 10000, .inl f),
  .inl (G 0, 10000, .inl f),
  .inl (G 3, 10000, .inl f),
  .inl (G 3, 10000, .inl f)]
def ud_J (G : Nat → Nat) (z k : Nat) (f : Nat → Int32) : List va_E := [
  .inr (7, [.int (f 0), .int (f 1), .int (f 2), .int (f 3), .ref (z + (k+1)), .ref (z + (k+4)), .ref (z + (k+7)), .ref (z + (k+10)), .int (f 8)]),
  .inr (9, [.ref (z + (k+1)), .ref (z + (k+2)), .int (f 2)]),
  .inl (G 0, 12, .inl f),
  .inl (G 0, 12, .inl f),
  .inr (9, [.ref (z + (k+1)), .ref (z + (k+2)), .int (f 2)]),
  .inl (G 0, 12, .inl f),
  .inl (G 0, 12, .inl f),
  .inr (9, [.ref (z + (k+1)), .ref (z + (k+2)), .int (f 2)]),
  .inl (G 0, 12, .inl f),
  .inl (G 0, 12, .inl f),
  .inl (G 0, 20, .inl f)]
def ud_E (G : Nat → Nat) (z : Nat) (f : Nat → Int32) (g : Nat → Int64) (r : Nat → Option Nat) (k : Nat) : va_E :=
  if k < 92 then (ud_L G z f g r).getD k (.inr (0, [])) else (ud_J G z k f).getD ((k - 92) % 11) (.inr (0, []))
abbrev ud_e (G : Nat → Nat) (z : Nat) (a : ud_St) (k : Nat) : va_E := ud_E G z (a.1 k) (a.2.1 k) (a.2.2 k) k
def ud_W (G : Nat → Nat) (z N : Nat) (a : ud_St) : va_W := (List.range N).map fun k => (z + k, ud_e G z a k)
theorem ud_W_at {G : Nat → Nat} {z N : Nat} {a : ud_St} {k : Nat} (h : k < N) : (ud_W G z N a)[k]? = some (z + k, ud_e G z a k) := by simp [ud_W, h]
theorem ud_W_lt {G : Nat → Nat} {z N : Nat} {a : ud_St} {k : Nat} {q : Nat × va_E} (h : (ud_W G z N a)[k]? = some q) : k < N ∧ q = (z + k, ud_e G z a k) := by
  have hk : k < N := by
    have := (List.getElem?_eq_some_iff.mp h).1
    simpa [ud_W] using this
  rw [ud_W_at hk] at h
  exact ⟨hk, (Option.some.inj h).symm⟩
theorem ud_W_D {G : Nat → Nat} {z N : Nat} {a : ud_St} : va_D (fun q : Nat => z ≤ q) (ud_W G z N a) := by
  refine ⟨fun i j p q hi hj hpq => ?_, fun k q hk => ?_⟩
  · obtain ⟨-, rfl⟩ := ud_W_lt hi
    obtain ⟨-, rfl⟩ := ud_W_lt hj
    dsimp only at hpq
    omega
  · obtain ⟨-, rfl⟩ := ud_W_lt hk
    exact Nat.le_add_right _ _
theorem ud_W_set {G : Nat → Nat} {z N : Nat} {a a' : ud_St} {k : Nat} {e : va_E} (he : ud_e G z a' k = e) (ho : ∀ q, q ≠ k → a'.1 q = a.1 q ∧ a'.2.1 q = a.2.1 q ∧ a'.2.2 q = a.2.2 q) : (ud_W G z N a).set k (z + k, e) = ud_W G z N a' := by
  apply List.ext_getElem?
  intro i
  by_cases hi : i < N
  · by_cases hk : i = k
    · subst hk
      rw [List.getElem?_set_self (by simpa [ud_W] using hi), ud_W_at hi, he]
    · rw [List.getElem?_set_ne (Ne.symm hk), ud_W_at hi, ud_W_at hi]
      obtain ⟨h1, h2, h3⟩ := ho i hk
      simp only [ud_e, h1, h2, h3]
  · rw [List.getElem?_eq_none (by simp [ud_W]; omega), List.getElem?_eq_none (by simp [ud_W]; omega)]
theorem ud_sv_o {a : ud_St} {k j : Nat} {v : Int32} : ∀ q, q ≠ k → (ud_sv a k j v).1 q = a.1 q ∧ (ud_sv a k j v).2.1 q = a.2.1 q ∧ (ud_sv a k j v).2.2 q = a.2.2 q := by
  intro q hq
  refine ⟨?_, rfl, rfl⟩
  funext i
  simp [ud_sv, hq]
theorem ud_sl_o {a : ud_St} {k j : Nat} {v : Int64} : ∀ q, q ≠ k → (ud_sl a k j v).1 q = a.1 q ∧ (ud_sl a k j v).2.1 q = a.2.1 q ∧ (ud_sl a k j v).2.2 q = a.2.2 q := by
  intro q hq
  refine ⟨rfl, ?_, rfl⟩
  funext i
  simp [ud_sl, hq]
theorem ud_sv_row (a : ud_St) (k j : Nat) (v : Int32) : (ud_sv a k j v).1 k = upd (a.1 k) j v := by
  funext i
  simp [ud_sv, upd]
theorem ud_sl_row (a : ud_St) (k j : Nat) (v : Int64) : (ud_sl a k j v).2.1 k = vp_updL (a.2.1 k) j v := by
  funext i
  simp [ud_sl, vp_updL]
/-- a cell that is an int array, .. -/
def ud_isI (N k n : Nat) : Prop := k < N ∧ ∀ G z a, ud_e G z a k = .inl (G 0, n, .inl (a.1 k))
def ud_isJ (N k n : Nat) : Prop := k < N ∧ ∀ G z a, ud_e G z a k = .inl (G 1, n, .inr (.inl (a.2.1 k)))
def ud_isB (N k n : Nat) : Prop := k < N ∧ ∀ G z a, ud_e G z a k = .inl (G 2, n, .inl (a.1 k))
def ud_isZ (N k n : Nat) : Prop := k < N ∧ ∀ G z a, ud_e G z a k = .inl (G 3, n, .inl (a.1 k))
def ud_isO (N k ci : Nat) (fs : Nat → ud_St → List Value) : Prop := k < N ∧ ∀ G z a, ud_e G z a k = .inr (ci, fs z a)

abbrev ud_fContest (k z : Nat) (a : ud_St) : List Value := [.ref (z + 49), .ref (z + 50), .ref (z + 51), .ref (z + 54), .ref (z + 55)]
abbrev ud_fCrowd (k z : Nat) (a : ud_St) : List Value := [.ref (z + 46), .ref (z + 47), .int (a.1 k 2), .int (a.1 k 3), .int (a.1 k 4), .int (a.1 k 5), .int (a.1 k 6)]
abbrev ud_fEvening (k z : Nat) (a : ud_St) : List Value := [.ref (z + 60), .int (a.1 k 1)]
abbrev ud_fFigures (k z : Nat) (a : ud_St) : List Value := [.int (a.1 k 0), .int (a.1 k 1), .int (a.1 k 2), .ref (z + 27), .ref (z + 28), .ref (z + 29), .ref (z + 30), .ref (z + 31), .ref (z + 32), .ref (z + 33), .ref (z + 34), .ref (z + 35)]
abbrev ud_fPaths (k z : Nat) (a : ud_St) : List Value := [.int (a.1 k 0), .ref (z + 37), .ref (z + 38), .ref (z + 39), .ref (z + 40), .ref (z + 41), .ref (z + 42), .ref (z + 43), .ref (z + 44), .int (a.1 k 9), .int (a.1 k 10), .int (a.1 k 11), .int (a.1 k 12), .int (a.1 k 13), .int (a.1 k 14)]
abbrev ud_fReader (k z : Nat) (a : ud_St) : List Value := [.ref (z + 1), .int (a.1 k 1), .int (a.1 k 2), .int (a.1 k 3), .int (a.1 k 4), .int (a.1 k 5), .int (a.1 k 6), .int (a.1 k 7)]
abbrev ud_fSlot (k z : Nat) (a : ud_St) : List Value := [.ref (z + (k+1)), .int (a.1 k 1), .int (a.1 k 2), .int (a.1 k 3)]
abbrev ud_fTable (k z : Nat) (a : ud_St) : List Value := [.int (a.1 k 0), .int (a.1 k 1), .int (a.1 k 2), .int (a.1 k 3), .ref (z + (k+1)), .ref (z + (k+4)), .ref (z + (k+7)), .ref (z + (k+10)), .int (a.1 k 8)]
abbrev ud_fTape (k z : Nat) (a : ud_St) : List Value := [.ref (z + 2), .int (a.1 k 1)]
abbrev ud_fWords (k z : Nat) (a : ud_St) : List Value := [.ref (z + (k+1)), .ref (z + (k+2)), .int (a.1 k 2)]
abbrev ud_fUpAndDown (k z : Nat) (a : ud_St) : List Value := [.ref (z + 1), .ref (z + 3), .ref (z + 4), .ref (z + 15), .ref (z + 26), .ref (z + 36), .ref (z + 45), .ref (z + 48), .ref (z + 56), .ref (z + 59), .ref (z + 61), .ref (z + 70)]
abbrev ud_fModel (k z : Nat) (a : ud_St) : List Value := [.int (a.1 k 0), .ref (z + 72), .ref (z + 73), .ref (z + 74), .ref (z + 75), .ref (z + 76), .int (a.1 k 6), .int (a.1 k 7), .int (a.1 k 8), .int (a.1 k 9), .int (a.1 k 10), .long (a.2.1 k 11), .int (a.1 k 12), .int (a.1 k 13), .int (a.1 k 14), .int (a.1 k 15), .ref (z + 77), .ref (z + 78), .ref (z + 79), .ref (z + 80), .ref (z + 81), .int (a.1 k 21), .ref (z + 82), .ref (z + 83), .ref (z + 84), .int (a.1 k 25), .ref (z + 85), .ref (z + 86), .ref (z + 87), .ref (z + 88), .ref (z + 89), .ref (z + 90), .ref (z + 91), .int (a.1 k 33), .int (a.1 k 34)]
def ud_isW (N k : Nat) : Prop := ud_isO N k 9 (ud_fWords k) ∧ ud_isI N (k + 1) 12 ∧ ud_isI N (k + 2) 12
def ud_isT (N k : Nat) : Prop := ud_isO N k 7 (ud_fTable k) ∧ ud_isW N (k + 1) ∧ ud_isW N (k + 4) ∧ ud_isW N (k + 7) ∧ ud_isI N (k + 10) 20
def ud_isS (N k : Nat) : Prop := ud_isO N k 6 (ud_fSlot k) ∧ ud_isJ N (k + 1) 60

theorem uc_0 {N : Nat} (h : 92 ≤ N) : ud_isO N 0 10 (ud_fUpAndDown 0) := ⟨by omega, fun _ _ _ => rfl⟩
theorem uc_1 {N : Nat} (h : 92 ≤ N) : ud_isO N 1 8 (ud_fTape 1) := ⟨by omega, fun _ _ _ => rfl⟩
theorem uc_2 {N : Nat} (h : 92 ≤ N) : ud_isI N 2 800 := ⟨by omega, fun _ _ _ => rfl⟩
theorem uc_3 {N : Nat} (h : 92 ≤ N) : ud_isO N 3 5 (ud_fReader 3) := ⟨by omega, fun _ _ _ => rfl⟩
theorem uc_6 {N : Nat} (h : 92 ≤ N) : ud_isI N 6 12 := ⟨by omega, fun _ _ _ => rfl⟩
theorem uc_7 {N : Nat} (h : 92 ≤ N) : ud_isI N 7 12 := ⟨by omega, fun _ _ _ => rfl⟩
theorem uc_9 {N : Nat} (h : 92 ≤ N) : ud_isI N 9 12 := ⟨by omega, fun _ _ _ => rfl⟩
theorem uc_10 {N : Nat} (h : 92 ≤ N) : ud_isI N 10 12 := ⟨by omega, fun _ _ _ => rfl⟩
theorem uc_12 {N : Nat} (h : 92 ≤ N) : ud_isI N 12 12 := ⟨by omega, fun _ _ _ => rfl⟩
theorem uc_13 {N : Nat} (h : 92 ≤ N) : ud_isI N 13 12 := ⟨by omega, fun _ _ _ => rfl⟩
theorem uc_14 {N : Nat} (h : 92 ≤ N) : ud_isI N 14 20 := ⟨by omega, fun _ _ _ => rfl⟩
theorem uc_17 {N : Nat} (h : 92 ≤ N) : ud_isI N 17 12 := ⟨by omega, fun _ _ _ => rfl⟩
theorem uc_18 {N : Nat} (h : 92 ≤ N) : ud_isI N 18 12 := ⟨by omega, fun _ _ _ => rfl⟩
theorem uc_20 {N : Nat} (h : 92 ≤ N) : ud_isI N 20 12 := ⟨by omega, fun _ _ _ => rfl⟩
theorem uc_21 {N : Nat} (h : 92 ≤ N) : ud_isI N 21 12 := ⟨by omega, fun _ _ _ => rfl⟩
theorem uc_23 {N : Nat} (h : 92 ≤ N) : ud_isI N 23 12 := ⟨by omega, fun _ _ _ => rfl⟩
theorem uc_24 {N : Nat} (h : 92 ≤ N) : ud_isI N 24 12 := ⟨by omega, fun _ _ _ => rfl⟩
theorem uc_25 {N : Nat} (h : 92 ≤ N) : ud_isI N 25 20 := ⟨by omega, fun _ _ _ => rfl⟩
theorem uc_26 {N : Nat} (h : 92 ≤ N) : ud_isO N 26 3 (ud_fFigures 26) := ⟨by omega, fun _ _ _ => rfl⟩
theorem uc_27 {N : Nat} (h : 92 ≤ N) : ud_isI N 27 9 := ⟨by omega, fun _ _ _ => rfl⟩
theorem uc_28 {N : Nat} (h : 92 ≤ N) : ud_isI N 28 8 := ⟨by omega, fun _ _ _ => rfl⟩
theorem uc_29 {N : Nat} (h : 92 ≤ N) : ud_isI N 29 10000 := ⟨by omega, fun _ _ _ => rfl⟩
theorem uc_30 {N : Nat} (h : 92 ≤ N) : ud_isI N 30 10000 := ⟨by omega, fun _ _ _ => rfl⟩
theorem uc_31 {N : Nat} (h : 92 ≤ N) : ud_isI N 31 10000 := ⟨by omega, fun _ _ _ => rfl⟩
theorem uc_32 {N : Nat} (h : 92 ≤ N) : ud_isI N 32 10000 := ⟨by omega, fun _ _ _ => rfl⟩
theorem uc_33 {N : Nat} (h : 92 ≤ N) : ud_isI N 33 10000 := ⟨by omega, fun _ _ _ => rfl⟩
theorem uc_34 {N : Nat} (h : 92 ≤ N) : ud_isI N 34 10000 := ⟨by omega, fun _ _ _ => rfl⟩
theorem uc_35 {N : Nat} (h : 92 ≤ N) : ud_isI N 35 10000 := ⟨by omega, fun _ _ _ => rfl⟩
theorem uc_36 {N : Nat} (h : 92 ≤ N) : ud_isO N 36 4 (ud_fPaths 36) := ⟨by omega, fun _ _ _ => rfl⟩
theorem uc_37 {N : Nat} (h : 92 ≤ N) : ud_isI N 37 10000 := ⟨by omega, fun _ _ _ => rfl⟩
theorem uc_38 {N : Nat} (h : 92 ≤ N) : ud_isI N 38 10000 := ⟨by omega, fun _ _ _ => rfl⟩
theorem uc_39 {N : Nat} (h : 92 ≤ N) : ud_isI N 39 10000 := ⟨by omega, fun _ _ _ => rfl⟩
theorem uc_40 {N : Nat} (h : 92 ≤ N) : ud_isI N 40 10000 := ⟨by omega, fun _ _ _ => rfl⟩
theorem uc_41 {N : Nat} (h : 92 ≤ N) : ud_isI N 41 10000 := ⟨by omega, fun _ _ _ => rfl⟩
theorem uc_42 {N : Nat} (h : 92 ≤ N) : ud_isI N 42 10000 := ⟨by omega, fun _ _ _ => rfl⟩
theorem uc_43 {N : Nat} (h : 92 ≤ N) : ud_isI N 43 10001 := ⟨by omega, fun _ _ _ => rfl⟩
theorem uc_44 {N : Nat} (h : 92 ≤ N) : ud_isI N 44 10000 := ⟨by omega, fun _ _ _ => rfl⟩
theorem uc_45 {N : Nat} (h : 92 ≤ N) : ud_isO N 45 1 (ud_fCrowd 45) := ⟨by omega, fun _ _ _ => rfl⟩
theorem uc_46 {N : Nat} (h : 92 ≤ N) : ud_isI N 46 10000 := ⟨by omega, fun _ _ _ => rfl⟩
theorem uc_47 {N : Nat} (h : 92 ≤ N) : ud_isI N 47 10000 := ⟨by omega, fun _ _ _ => rfl⟩
theorem uc_48 {N : Nat} (h : 92 ≤ N) : ud_isO N 48 0 (ud_fContest 48) := ⟨by omega, fun _ _ _ => rfl⟩
theorem uc_49 {N : Nat} (h : 92 ≤ N) : ud_isI N 49 6 := ⟨by omega, fun _ _ _ => rfl⟩
theorem uc_50 {N : Nat} (h : 92 ≤ N) : ud_isI N 50 3 := ⟨by omega, fun _ _ _ => rfl⟩
theorem uc_52 {N : Nat} (h : 92 ≤ N) : ud_isI N 52 12 := ⟨by omega, fun _ _ _ => rfl⟩
theorem uc_53 {N : Nat} (h : 92 ≤ N) : ud_isI N 53 12 := ⟨by omega, fun _ _ _ => rfl⟩
theorem uc_54 {N : Nat} (h : 92 ≤ N) : ud_isI N 54 2 := ⟨by omega, fun _ _ _ => rfl⟩
theorem uc_55 {N : Nat} (h : 92 ≤ N) : ud_isI N 55 2 := ⟨by omega, fun _ _ _ => rfl⟩
theorem uc_57 {N : Nat} (h : 92 ≤ N) : ud_isI N 57 12 := ⟨by omega, fun _ _ _ => rfl⟩
theorem uc_58 {N : Nat} (h : 92 ≤ N) : ud_isI N 58 12 := ⟨by omega, fun _ _ _ => rfl⟩
theorem uc_59 {N : Nat} (h : 92 ≤ N) : ud_isO N 59 2 (ud_fEvening 59) := ⟨by omega, fun _ _ _ => rfl⟩
theorem uc_60 {N : Nat} (h : 92 ≤ N) : ud_isI N 60 100 := ⟨by omega, fun _ _ _ => rfl⟩
theorem uc_63 {N : Nat} (h : 92 ≤ N) : ud_isJ N 63 60 := ⟨by omega, fun _ _ _ => rfl⟩
theorem uc_65 {N : Nat} (h : 92 ≤ N) : ud_isJ N 65 60 := ⟨by omega, fun _ _ _ => rfl⟩
theorem uc_67 {N : Nat} (h : 92 ≤ N) : ud_isJ N 67 60 := ⟨by omega, fun _ _ _ => rfl⟩
theorem uc_69 {N : Nat} (h : 92 ≤ N) : ud_isJ N 69 60 := ⟨by omega, fun _ _ _ => rfl⟩
theorem uc_71 {N : Nat} (h : 92 ≤ N) : ud_isO N 71 11 (ud_fModel 71) := ⟨by omega, fun _ _ _ => rfl⟩
theorem uc_72 {N : Nat} (h : 92 ≤ N) : ud_isI N 72 4 := ⟨by omega, fun _ _ _ => rfl⟩
theorem uc_73 {N : Nat} (h : 92 ≤ N) : ud_isI N 73 4 := ⟨by omega, fun _ _ _ => rfl⟩
theorem uc_74 {N : Nat} (h : 92 ≤ N) : ud_isJ N 74 240 := ⟨by omega, fun _ _ _ => rfl⟩
theorem uc_75 {N : Nat} (h : 92 ≤ N) : ud_isJ N 75 60 := ⟨by omega, fun _ _ _ => rfl⟩
theorem uc_76 {N : Nat} (h : 92 ≤ N) : ud_isB N 76 800 := ⟨by omega, fun _ _ _ => rfl⟩
theorem uc_77 {N : Nat} (h : 92 ≤ N) : ud_isI N 77 5 := ⟨by omega, fun _ _ _ => rfl⟩
theorem uc_78 {N : Nat} (h : 92 ≤ N) : ud_isI N 78 30 := ⟨by omega, fun _ _ _ => rfl⟩
theorem uc_79 {N : Nat} (h : 92 ≤ N) : ud_isI N 79 120 := ⟨by omega, fun _ _ _ => rfl⟩
theorem uc_80 {N : Nat} (h : 92 ≤ N) : ud_isI N 80 120 := ⟨by omega, fun _ _ _ => rfl⟩
theorem uc_81 {N : Nat} (h : 92 ≤ N) : ud_isI N 81 100 := ⟨by omega, fun _ _ _ => rfl⟩
theorem uc_82 {N : Nat} (h : 92 ≤ N) : ud_isZ N 82 3 := ⟨by omega, fun _ _ _ => rfl⟩
theorem uc_83 {N : Nat} (h : 92 ≤ N) : ud_isI N 83 8 := ⟨by omega, fun _ _ _ => rfl⟩
theorem uc_84 {N : Nat} (h : 92 ≤ N) : ud_isI N 84 8 := ⟨by omega, fun _ _ _ => rfl⟩
theorem uc_85 {N : Nat} (h : 92 ≤ N) : ud_isI N 85 10000 := ⟨by omega, fun _ _ _ => rfl⟩
theorem uc_86 {N : Nat} (h : 92 ≤ N) : ud_isI N 86 10000 := ⟨by omega, fun _ _ _ => rfl⟩
theorem uc_87 {N : Nat} (h : 92 ≤ N) : ud_isI N 87 10000 := ⟨by omega, fun _ _ _ => rfl⟩
theorem uc_88 {N : Nat} (h : 92 ≤ N) : ud_isI N 88 10000 := ⟨by omega, fun _ _ _ => rfl⟩
theorem uc_89 {N : Nat} (h : 92 ≤ N) : ud_isI N 89 10000 := ⟨by omega, fun _ _ _ => rfl⟩
theorem uc_90 {N : Nat} (h : 92 ≤ N) : ud_isZ N 90 10000 := ⟨by omega, fun _ _ _ => rfl⟩
theorem uc_91 {N : Nat} (h : 92 ≤ N) : ud_isZ N 91 10000 := ⟨by omega, fun _ _ _ => rfl⟩
theorem uc_5 {N : Nat} (h : 92 ≤ N) : ud_isW N 5 := ⟨⟨by omega, fun _ _ _ => rfl⟩, uc_6 h, uc_7 h⟩
theorem uc_8 {N : Nat} (h : 92 ≤ N) : ud_isW N 8 := ⟨⟨by omega, fun _ _ _ => rfl⟩, uc_9 h, uc_10 h⟩
theorem uc_11 {N : Nat} (h : 92 ≤ N) : ud_isW N 11 := ⟨⟨by omega, fun _ _ _ => rfl⟩, uc_12 h, uc_13 h⟩
theorem uc_16 {N : Nat} (h : 92 ≤ N) : ud_isW N 16 := ⟨⟨by omega, fun _ _ _ => rfl⟩, uc_17 h, uc_18 h⟩
theorem uc_19 {N : Nat} (h : 92 ≤ N) : ud_isW N 19 := ⟨⟨by omega, fun _ _ _ => rfl⟩, uc_20 h, uc_21 h⟩
theorem uc_22 {N : Nat} (h : 92 ≤ N) : ud_isW N 22 := ⟨⟨by omega, fun _ _ _ => rfl⟩, uc_23 h, uc_24 h⟩
theorem uc_51 {N : Nat} (h : 92 ≤ N) : ud_isW N 51 := ⟨⟨by omega, fun _ _ _ => rfl⟩, uc_52 h, uc_53 h⟩
theorem uc_56 {N : Nat} (h : 92 ≤ N) : ud_isW N 56 := ⟨⟨by omega, fun _ _ _ => rfl⟩, uc_57 h, uc_58 h⟩
theorem uc_4 {N : Nat} (h : 92 ≤ N) : ud_isT N 4 := ⟨⟨by omega, fun _ _ _ => rfl⟩, uc_5 h, uc_8 h, uc_11 h, uc_14 h⟩
theorem uc_15 {N : Nat} (h : 92 ≤ N) : ud_isT N 15 := ⟨⟨by omega, fun _ _ _ => rfl⟩, uc_16 h, uc_19 h, uc_22 h, uc_25 h⟩
theorem uc_62 {N : Nat} (h : 92 ≤ N) : ud_isS N 62 := ⟨⟨by omega, fun _ _ _ => rfl⟩, uc_63 h⟩
theorem uc_64 {N : Nat} (h : 92 ≤ N) : ud_isS N 64 := ⟨⟨by omega, fun _ _ _ => rfl⟩, uc_65 h⟩
theorem uc_66 {N : Nat} (h : 92 ≤ N) : ud_isS N 66 := ⟨⟨by omega, fun _ _ _ => rfl⟩, uc_67 h⟩
theorem uc_68 {N : Nat} (h : 92 ≤ N) : ud_isS N 68 := ⟨⟨by omega, fun _ _ _ => rfl⟩, uc_69 h⟩
