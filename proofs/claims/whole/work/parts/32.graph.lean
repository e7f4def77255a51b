/-! going again and again: rounds, goes till a round, homes -/
theorem mn_ex {p : Nat → Prop} (h : ∃ n, p n) : ∃ n, p n ∧ ∀ m, m < n → ¬ p m := by
  obtain ⟨n, hn⟩ := h
  have key : ∀ k n, n < k → p n → ∃ n, p n ∧ ∀ m, m < n → ¬ p m := by
    intro k
    induction k with
    | zero => intro n h _; omega
    | succ k ih =>
      intro n hk hp
      by_cases q : ∃ m, m < n ∧ p m
      · obtain ⟨m, h1, h2⟩ := q
        exact ih m (by omega) h2
      · exact ⟨n, hp, fun m hm hpm => q ⟨m, hm, hpm⟩⟩
  exact key (n + 1) n (Nat.lt_succ_self n) hn
/-- the least n with p -/
noncomputable def mn (p : Nat → Prop) : Nat := @dite Nat (∃ n, p n) (Classical.propDecidable _) (fun h => Classical.choose (mn_ex h)) (fun _ => 0)
theorem mn_sp {p : Nat → Prop} (h : ∃ n, p n) : p (mn p) ∧ ∀ m, m < mn p → ¬ p m := by
  unfold mn
  rw [dif_pos h]
  exact Classical.choose_spec (mn_ex h)
theorem mn_le {p : Nat → Prop} {n : Nat} (h : p n) : mn p ≤ n := by
  rcases Nat.lt_or_ge n (mn p) with q | q
  · exact absurd h ((mn_sp ⟨n, h⟩).2 n q)
  · exact q
theorem mn_eq {p : Nat → Prop} {n : Nat} (h : p n) (h2 : ∀ m, m < n → ¬ p m) : mn p = n := by
  have h1 := mn_le h
  rcases Nat.lt_or_ge (mn p) n with q | q
  · exact absurd (mn_sp ⟨n, h⟩).1 (h2 _ q)
  · omega
theorem mn_congr {p q : Nat → Prop} (h : ∀ n, p n ↔ q n) : mn p = mn q := by
  have : p = q := funext fun n => propext (h n)
  rw [this]
def itr (g : Nat → Nat) : Nat → Nat → Nat
  | 0, x => x
  | k + 1, x => itr g k (g x)
section graph
variable {g : Nat → Nat} {S : Nat}
theorem itr_s (k x : Nat) : itr g (k + 1) x = g (itr g k x) := by
  induction k generalizing x with
  | zero => rfl
  | succ k ih =>
    show itr g (k + 1) (g x) = g (itr g k (g x))
    exact ih (g x)
theorem itr_add (j k x : Nat) : itr g (j + k) x = itr g j (itr g k x) := by
  induction k generalizing x with
  | zero => rfl
  | succ k ih =>
    show itr g (j + k) (g x) = itr g j (itr g k (g x))
    exact ih (g x)
theorem itr_lt (hg : ∀ x, x < S → g x < S) {x : Nat} (hx : x < S) : ∀ k, itr g k x < S
  | 0 => hx
  | k + 1 => by rw [itr_s]; exact hg _ (itr_lt hg hx k)
/-- on a round -/
def per (g : Nat → Nat) (x : Nat) : Prop := ∃ k, 0 < k ∧ itr g k x = x
theorem per_itr {x : Nat} (h : per g x) (n : Nat) : per g (itr g n x) := by
  obtain ⟨k, hk, e⟩ := h
  exact ⟨k, hk, by rw [← itr_add, Nat.add_comm, itr_add, e]⟩
theorem itr_mul {x k : Nat} (e : itr g k x = x) : ∀ m, itr g (m * k) x = x
  | 0 => by rw [Nat.zero_mul]; rfl
  | m + 1 => by rw [Nat.add_mul, Nat.one_mul, itr_add, e, itr_mul e m]
theorem per_back {x : Nat} (h : per g x) (n : Nat) : ∃ m, itr g m (itr g n x) = x := by
  obtain ⟨k, hk, e⟩ := h
  refine ⟨n * k - n, ?_⟩
  rw [← itr_add, Nat.sub_add_cancel (Nat.le_mul_of_pos_right n hk)]
  exact itr_mul e n
theorem per_ex (hg : ∀ x, x < S → g x < S) {x : Nat} (hx : x < S) : ∃ n, n < S ∧ per g (itr g n x) := by
  obtain ⟨i, j, hij, hj, e⟩ := fb_twice (m := S) (n := S + 1) (f := fun k => itr g k x) (fun k _ => itr_lt hg hx k) (Nat.lt_succ_self S)
  refine ⟨i, by omega, j - i, by omega, ?_⟩
  rw [← itr_add, Nat.sub_add_cancel (by omega)]
  exact e.symm
noncomputable def tl (g : Nat → Nat) (x : Nat) : Nat := mn (fun n => per g (itr g n x))
noncomputable def ln (g : Nat → Nat) (x : Nat) : Nat := mn (fun k => 0 < k ∧ itr g k x = x)
noncomputable def hm (g : Nat → Nat) (x : Nat) : Nat := mn (fun y => per g y ∧ ∃ k, itr g k x = y)
theorem tl_sp (hg : ∀ x, x < S → g x < S) {x : Nat} (hx : x < S) : per g (itr g (tl g x) x) ∧ (∀ m, m < tl g x → ¬ per g (itr g m x)) ∧ tl g x < S := by
  obtain ⟨n, hn, hp⟩ := per_ex hg hx
  have h := mn_sp (p := fun n => per g (itr g n x)) ⟨n, hp⟩
  exact ⟨h.1, h.2, Nat.lt_of_le_of_lt (mn_le (p := fun n => per g (itr g n x)) hp) hn⟩
theorem tl_ge (hg : ∀ x, x < S → g x < S) {x n : Nat} (hx : x < S) : tl g x ≤ n ↔ per g (itr g n x) := by
  have h := tl_sp hg hx
  constructor
  · intro q
    have e : n = (n - tl g x) + tl g x := by omega
    rw [e, itr_add]
    exact per_itr h.1 _
  · intro q
    exact mn_le (p := fun n => per g (itr g n x)) q
theorem tl_0 (hg : ∀ x, x < S → g x < S) {x : Nat} (hx : x < S) : tl g x = 0 ↔ per g x := by
  have h := tl_ge hg hx (n := 0)
  rw [Nat.le_zero] at h
  exact h
theorem tl_g (hg : ∀ x, x < S → g x < S) {x : Nat} (hx : x < S) : tl g (g x) = tl g x - 1 := by
  have h1 := fun n => tl_ge hg (hg x hx) (n := n)
  have h2 := fun n => tl_ge hg hx (n := n + 1)
  have h3 : ∀ n, tl g (g x) ≤ n ↔ tl g x ≤ n + 1 := fun n => (h1 n).trans (h2 n).symm
  have a1 := (h3 (tl g (g x))).mp (Nat.le_refl _)
  have a2 := (h3 (tl g x - 1)).mpr (by omega)
  omega
theorem tl_itr (hg : ∀ x, x < S → g x < S) {x : Nat} (hx : x < S) (n : Nat) : tl g (itr g n x) = tl g x - n := by
  induction n with
  | zero => rfl
  | succ n ih => rw [itr_s, tl_g hg (itr_lt hg hx n), ih]; omega
theorem ln_sp {x : Nat} (h : per g x) : 0 < ln g x ∧ itr g (ln g x) x = x ∧ ∀ m, 0 < m → m < ln g x → itr g m x ≠ x := by
  have q := mn_sp (p := fun k => 0 < k ∧ itr g k x = x) h
  exact ⟨q.1.1, q.1.2, fun m h1 h2 e => q.2 m h2 ⟨h1, e⟩⟩
theorem itr_ln {x : Nat} (h : per g x) (n : Nat) : itr g n x = itr g (n % ln g x) x := by
  have q := ln_sp h
  have e : n = n % ln g x + (n / ln g x) * ln g x := by
    have := Nat.mod_add_div n (ln g x)
    rw [Nat.mul_comm] at this
    omega
  conv => lhs; rw [e, itr_add, itr_mul q.2.1]
theorem itr_inj {x i j : Nat} (h : per g x) (hij : i < j) (hj : j < ln g x) : itr g i x ≠ itr g j x := by
  intro e
  have q := ln_sp h
  have e2 : itr g (ln g x - j) (itr g i x) = x := by
    rw [e, ← itr_add, Nat.sub_add_cancel (by omega)]
    exact q.2.1
  rw [← itr_add] at e2
  exact q.2.2 _ (by omega) (by omega) e2
theorem ln_itr {x : Nat} (h : per g x) (n : Nat) : ln g (itr g n x) = ln g x := by
  have key : ∀ x, per g x → ∀ n, ln g (itr g n x) ≤ ln g x := by
    intro x h n
    refine mn_le (p := fun k => 0 < k ∧ itr g k (itr g n x) = itr g n x) ⟨(ln_sp h).1, ?_⟩
    rw [← itr_add, Nat.add_comm, itr_add, (ln_sp h).2.1]
  have h1 := key x h n
  obtain ⟨m, hm⟩ := per_back h n
  have h2 := key _ (per_itr h n) m
  rw [hm] at h2
  omega
theorem tl_ln (hg : ∀ x, x < S → g x < S) {x : Nat} (hx : x < S) : tl g x + ln g (itr g (tl g x) x) ≤ S := by
  have ht := tl_sp hg hx
  have hl := ln_sp ht.1
  refine fb_holes S _ (fun k => itr g k x) (fun k _ => itr_lt hg hx k) (fun i j hij hj e => ?_)
  have hi : tl g x ≤ i := (tl_ge hg hx).mpr ⟨j - i, by omega, by rw [← itr_add, Nat.sub_add_cancel (by omega)]; exact e.symm⟩
  have e1 : ∀ k, tl g x ≤ k → itr g k x = itr g (k - tl g x) (itr g (tl g x) x) := fun k hk => by rw [← itr_add, Nat.sub_add_cancel hk]
  have e2 : itr g i x = itr g j x := e
  rw [e1 i hi, e1 j (by omega)] at e2
  exact itr_inj ht.1 (i := i - tl g x) (j := j - tl g x) (by omega) (by omega) e2
theorem ln_le (hg : ∀ x, x < S → g x < S) {x : Nat} (hx : x < S) (h : per g x) : ln g x ≤ S := by
  have q := tl_ln hg hx
  rw [(tl_0 hg hx).mpr h] at q
  have e : itr g 0 x = x := rfl
  rw [e] at q
  omega
theorem per_gi {x y : Nat} (hx : per g x) (hy : per g y) (e : g x = g y) : x = y := by
  have h1 := ln_sp hx
  have h2 := ln_sp hy
  have a1 : itr g (ln g y * ln g x) x = x := itr_mul h1.2.1 _
  have a2 : itr g (ln g x * ln g y) y = y := itr_mul h2.2.1 _
  rw [Nat.mul_comm] at a2
  obtain ⟨m, hm⟩ : ∃ m, ln g y * ln g x = m + 1 := ⟨ln g y * ln g x - 1, by have := Nat.mul_pos h2.1 h1.1; omega⟩
  rw [hm] at a1 a2
  have b1 : itr g m (g x) = x := a1
  have b2 : itr g m (g y) = y := a2
  rw [← b1, e, b2]
theorem itr_inj2 {x y : Nat} (hx : per g x) (hy : per g y) : ∀ n, itr g n x = itr g n y → x = y
  | 0, e => e
  | n + 1, e => by
    rw [itr_s, itr_s] at e
    exact itr_inj2 hx hy n (per_gi (per_itr hx n) (per_itr hy n) e)
theorem hm_sp (hg : ∀ x, x < S → g x < S) {x : Nat} (hx : x < S) : per g (hm g x) ∧ (∃ k, itr g k x = hm g x) ∧ hm g x < S := by
  have h := tl_sp hg hx
  have q := mn_sp (p := fun y => per g y ∧ ∃ k, itr g k x = y) ⟨_, h.1, _, rfl⟩
  refine ⟨q.1.1, q.1.2, ?_⟩
  obtain ⟨k, hk⟩ := q.1.2
  have e : hm g x = itr g k x := hk.symm
  rw [e]
  exact itr_lt hg hx k
theorem hm_le {x y : Nat} (hp : per g y) (h : ∃ k, itr g k x = y) : hm g x ≤ y := mn_le (p := fun y => per g y ∧ ∃ k, itr g k x = y) ⟨hp, h⟩
theorem hm_g (hg : ∀ x, x < S → g x < S) {x : Nat} (hx : x < S) : hm g (g x) = hm g x := by
  unfold hm
  refine mn_congr (fun y => and_congr_right fun hp => ⟨fun ⟨k, hk⟩ => ⟨k + 1, hk⟩, fun ⟨k, hk⟩ => ?_⟩)
  cases k with
  | succ k => exact ⟨k, hk⟩
  | zero =>
    have e : x = y := hk
    subst e
    obtain ⟨k, hk0, he⟩ := hp
    cases k with
    | zero => omega
    | succ k => exact ⟨k, he⟩
theorem hm_itr (hg : ∀ x, x < S → g x < S) {x : Nat} (hx : x < S) (n : Nat) : hm g (itr g n x) = hm g x := by
  induction n with
  | zero => rfl
  | succ n ih => rw [itr_s, hm_g hg (itr_lt hg hx n), ih]
theorem hm_hm (hg : ∀ x, x < S → g x < S) {x : Nat} (hx : x < S) : hm g (hm g x) = hm g x := by
  obtain ⟨k, hk⟩ := (hm_sp hg hx).2.1
  conv => lhs; rw [← hk]
  exact hm_itr hg hx k
/-- two on one round come to each other -/
theorem hm_reach (hg : ∀ x, x < S → g x < S) {x y : Nat} (hx : x < S) (hy : y < S) (hp : per g y) (e : hm g x = hm g y) : ∃ k, itr g k x = y := by
  obtain ⟨k, hk⟩ := (hm_sp hg hx).2.1
  obtain ⟨j, hj⟩ := (hm_sp hg hy).2.1
  obtain ⟨m, hm'⟩ := per_back hp j
  exact ⟨m + k, by rw [itr_add, hk, e, ← hj, hm']⟩
theorem ln_hm (hg : ∀ x, x < S → g x < S) {x : Nat} (hx : x < S) : ln g (itr g (tl g x) x) = ln g (hm g x) := by
  have ht := tl_sp hg hx
  have e := hm_itr hg hx (tl g x)
  obtain ⟨k, hk⟩ := (hm_sp hg (itr_lt hg hx (tl g x))).2.1
  rw [← e, ← hk, ln_itr ht.1]
theorem ln_per (hg : ∀ x, x < S → g x < S) {x : Nat} (hx : x < S) (h : per g x) : ln g (hm g x) = ln g x := by
  obtain ⟨k, hk⟩ := (hm_sp hg hx).2.1
  rw [← hk, ln_itr h]
/-- the least of a round -/
noncomputable def hb (g : Nat → Nat) (z : Nat) : Bool := @decide (hm g z = z) (Nat.decEq _ _)
theorem hb_t {z : Nat} : hb g z = true ↔ hm g z = z := by unfold hb; exact decide_eq_true_iff
theorem hb_per (hg : ∀ x, x < S → g x < S) {z : Nat} (hz : z < S) (h : hb g z = true) : per g z := by
  have := (hm_sp hg hz).1
  rwa [hb_t.mp h] at this
/-- how many rounds have a less least number -/
noncomputable def rk (g : Nat → Nat) (h : Nat) : Nat := fb_ct (hb g) h
theorem rk_lt {h : Nat} (hh : h < S) (q : hb g h = true) : rk g h < fb_ct (hb g) S := by
  have h1 := fb_ct_mono (hb g) (m := h + 1) (n := S) hh
  rw [fb_ct_succ, q] at h1
  simp only [if_true] at h1
  unfold rk
  omega
theorem rk_inj {h k : Nat} (q1 : hb g h = true) (q2 : hb g k = true) (e : rk g h = rk g k) : h = k := fb_ct_kth_one q1 q2 e
end graph
