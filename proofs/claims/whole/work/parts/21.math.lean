/-! numbers of told length: figures, and what words make of them -/
/-- figure i (0 the first) of x, in base b, of n figures -/
def dg (b n x i : Nat) : Nat := x / b ^ (n - 1 - i) % b
def tn (b : Nat) (l : List Nat) : Nat := l.foldl (fun v d => v * b + d) 0
def dl (b n x : Nat) : List Nat := (List.range n).map (dg b n x)
/-- insertion sort, upwards -/
def ins (d : Nat) : List Nat → List Nat
  | [] => [d]
  | e :: t => if d ≤ e then d :: e :: t else e :: ins d t
def isr : List Nat → List Nat
  | [] => []
  | d :: t => ins d (isr t)
def fUp (b n x : Nat) : Nat := tn b (isr (dl b n x))
def fDown (b n x : Nat) : Nat := tn b (isr (dl b n x)).reverse
def fTurn (b n x : Nat) : Nat := tn b (dl b n x).reverse
def fPow (p b n x : Nat) : Nat := ((dl b n x).map (fun d => d ^ p)).sum
def fFirst (b n x : Nat) : Nat := (x % b ^ (n - 1)) * b + x / b ^ (n - 1)
def fOut (b n x c : Nat) : Nat := tn b ((dl b n x).filter (fun d => d != c))
/-- what a number is behind one word -/
def wdo (b n s k now kept : Nat) : Nat := match s with
  | 0 => fDown b n now
  | 1 => fUp b n now
  | 2 => fTurn b n now
  | 3 => now
  | 4 => kept
  | 5 => (now - kept) + (kept - now)
  | 6 => (now + kept) % b ^ n
  | 7 => fPow 2 b n now % b ^ n
  | 8 => fPow 3 b n now % b ^ n
  | 9 => fPow 1 b n now % b ^ n
  | 10 => if now % 2 = 0 then now / 2 else now
  | 11 => fFirst b n now
  | 12 => (now * k) % b ^ n
  | 13 => (now + k) % b ^ n
  | _ => fOut b n now k
/-- now and what is kept, behind the first i words -/
def gw (b n : Nat) (ws wn : Nat → Nat) (x : Nat) : Nat → Nat × Nat
  | 0 => (x, x)
  | i + 1 => (wdo b n (ws i) (wn i) (gw b n ws wn x i).1 (gw b n ws wn x i).2, if ws i = 3 then wdo b n (ws i) (wn i) (gw b n ws wn x i).1 (gw b n ws wn x i).2 else (gw b n ws wn x i).2)
theorem tn_snoc (b : Nat) (l : List Nat) (d : Nat) : tn b (l ++ [d]) = tn b l * b + d := by simp [tn, List.foldl_append]
theorem tn_foldl (b : Nat) : ∀ (l : List Nat) (v : Nat), l.foldl (fun v d => v * b + d) v = v * b ^ l.length + tn b l
  | [], v => by simp [tn]
  | d :: t, v => by
    have e : tn b (d :: t) = d * b ^ t.length + tn b t := by
      show t.foldl (fun v d => v * b + d) (0 * b + d) = _
      rw [tn_foldl b t, Nat.zero_mul, Nat.zero_add]
    rw [e]
    show t.foldl (fun v d => v * b + d) (v * b + d) = _
    rw [tn_foldl b t, List.length_cons, Nat.pow_succ, Nat.add_mul, Nat.mul_comm (b ^ t.length) b, ← Nat.mul_assoc, Nat.add_assoc]
theorem tn_cons (b d : Nat) (t : List Nat) : tn b (d :: t) = d * b ^ t.length + tn b t := by
  show t.foldl (fun v d => v * b + d) (0 * b + d) = _
  rw [tn_foldl b t, Nat.zero_mul, Nat.zero_add]
theorem tn_app (b : Nat) (l r : List Nat) : tn b (l ++ r) = tn b l * b ^ r.length + tn b r := by
  show (l ++ r).foldl (fun v d => v * b + d) 0 = _
  rw [List.foldl_append, tn_foldl b r]
  rfl
theorem tn_lt {b : Nat} (hb : 0 < b) : ∀ (l : List Nat), (∀ d ∈ l, d < b) → tn b l < b ^ l.length
  | [], _ => by simp [tn]
  | d :: t, h => by
    have h1 := tn_lt hb t (fun e he => h e (List.mem_cons_of_mem _ he))
    have h2 := h d List.mem_cons_self
    rw [tn_cons, List.length_cons, Nat.pow_succ]
    calc d * b ^ t.length + tn b t < d * b ^ t.length + b ^ t.length := by omega
      _ = (d + 1) * b ^ t.length := by rw [Nat.add_mul, Nat.one_mul]
      _ ≤ b * b ^ t.length := Nat.mul_le_mul_right _ h2
      _ = b ^ t.length * b := Nat.mul_comm _ _
theorem dg_lt {b n x i : Nat} (hb : 0 < b) : dg b n x i < b := Nat.mod_lt _ hb
theorem dl_len (b n x : Nat) : (dl b n x).length = n := by simp [dl]
theorem dl_lt {b n x : Nat} (hb : 0 < b) : ∀ d ∈ dl b n x, d < b := by
  intro d hd
  obtain ⟨i, -, rfl⟩ := List.mem_map.mp hd
  exact dg_lt hb
/-- the first i figures, read as a number -/
theorem tn_pre {b n x : Nat} (hb : 0 < b) (hx : x < b ^ n) : ∀ i, i ≤ n → tn b ((List.range i).map (dg b n x)) = x / b ^ (n - i)
  | 0, _ => by
    simp only [List.range_zero, List.map_nil, Nat.sub_zero]
    rw [Nat.div_eq_of_lt hx]
    rfl
  | i + 1, h => by
    rw [List.range_succ, List.map_append, List.map_singleton, tn_snoc, tn_pre hb hx i (by omega)]
    unfold dg
    have e1 : n - i = (n - (i + 1)) + 1 := by omega
    have e2 : n - 1 - i = n - (i + 1) := by omega
    rw [e1, e2, Nat.pow_succ, ← Nat.div_div_eq_div_mul, Nat.mul_comm, Nat.div_add_mod]
theorem tn_dl {b n x : Nat} (hb : 0 < b) (hx : x < b ^ n) : tn b (dl b n x) = x := by
  have h := tn_pre hb hx n (Nat.le_refl n)
  rw [Nat.sub_self, Nat.pow_zero, Nat.div_one] at h
  exact h
theorem ins_len (d : Nat) : ∀ l, (ins d l).length = l.length + 1
  | [] => rfl
  | e :: t => by
    unfold ins
    split
    · rfl
    · simp [ins_len d t]
theorem isr_len : ∀ l, (isr l).length = l.length
  | [] => rfl
  | d :: t => by rw [isr, ins_len, isr_len t]; rfl
theorem ins_mem {d e : Nat} : ∀ {l : List Nat}, e ∈ ins d l ↔ e = d ∨ e ∈ l
  | [] => by simp [ins]
  | f :: t => by
    unfold ins
    split
    · simp
    · simp only [List.mem_cons, ins_mem (l := t)]
      constructor
      · rintro (h | h | h) <;> simp [h]
      · rintro (h | h | h) <;> simp [h]
theorem isr_mem {e : Nat} : ∀ {l : List Nat}, e ∈ isr l ↔ e ∈ l
  | [] => Iff.rfl
  | d :: t => by rw [isr, ins_mem, isr_mem (l := t), List.mem_cons]
theorem ins_count (c d : Nat) : ∀ l : List Nat, (ins d l).count c = (d :: l).count c
  | [] => rfl
  | e :: t => by
    unfold ins
    split
    · rfl
    · rw [List.count_cons, ins_count c d t, List.count_cons, List.count_cons, List.count_cons]
      omega
theorem isr_count (c : Nat) : ∀ l : List Nat, (isr l).count c = l.count c
  | [] => rfl
  | d :: t => by rw [isr, ins_count, List.count_cons, isr_count c t, List.count_cons]
def srt : List Nat → Prop
  | [] => True
  | [_] => True
  | a :: b :: t => a ≤ b ∧ srt (b :: t)
theorem srt_tail {a : Nat} : ∀ {l : List Nat}, srt (a :: l) → srt l
  | [], _ => trivial
  | _ :: _, h => h.2
theorem srt_le {a : Nat} : ∀ {l : List Nat}, srt (a :: l) → ∀ e ∈ l, a ≤ e
  | [], _, _, h => by cases h
  | b :: t, h, e, he => by
    rcases List.mem_cons.mp he with rfl | he
    · exact h.1
    · exact Nat.le_trans h.1 (srt_le h.2 e he)
theorem srt_cons {a : Nat} : ∀ {l : List Nat}, srt l → (∀ e ∈ l, a ≤ e) → srt (a :: l)
  | [], _, _ => trivial
  | _ :: _, h, hl => ⟨hl _ (List.mem_cons_self), h⟩
theorem ins_srt (d : Nat) : ∀ {l : List Nat}, srt l → srt (ins d l)
  | [], _ => trivial
  | e :: t, h => by
    unfold ins
    split
    · rename_i h1
      exact ⟨h1, h⟩
    · rename_i h1
      refine srt_cons (ins_srt d (srt_tail h)) (fun f hf => ?_)
      rcases ins_mem.mp hf with rfl | hf
      · omega
      · exact srt_le h f hf
theorem isr_srt : ∀ l : List Nat, srt (isr l)
  | [] => trivial
  | d :: t => ins_srt d (isr_srt t)
/-- sorted lists with the same counts are the same -/
theorem srt_eq : ∀ {l r : List Nat}, srt l → srt r → (∀ c, l.count c = r.count c) → l = r
  | [], [], _, _, _ => rfl
  | [], b :: r, _, _, h => by have := h b; simp at this
  | a :: l, [], _, _, h => by have := h a; simp at this
  | a :: l, b :: r, hl, hr, h => by
    have hab : a = b := by
      have h1 : b ∈ a :: l := List.count_pos_iff.mp (by rw [h b]; simp)
      have h2 : a ∈ b :: r := List.count_pos_iff.mp (by rw [← h a]; simp)
      rcases List.mem_cons.mp h1 with e1 | e1
      · exact e1.symm
      · rcases List.mem_cons.mp h2 with e2 | e2
        · exact e2
        · exact Nat.le_antisymm (srt_le hl b e1) (srt_le hr a e2)
    subst hab
    rw [srt_eq (srt_tail hl) (srt_tail hr) (fun c => by have := h c; simp only [List.count_cons] at this; omega)]
