/-! the invariant between calls -/
/-- the NEXT by a table -/
def tg (t : TD) : Nat → Nat := gx (t 0 0) (t 0 1) (t 0 3) (t 1) (t 2)
/-- sorted figures -/
def sg (b n x i : Nat) : Nat := (isr (dl b n x)).getD i 0
/-- x is of crowd c -/
def cin (t : TD) (c x : Nat) : Prop := c = 0 ∨ (c = 1 ∧ sg (t 0 0) (t 0 1) x 0 ≠ sg (t 0 0) (t 0 1) x (t 0 1 - 1)) ∨ (c = 2 ∧ ∀ k, 1 ≤ k → k < t 0 1 → sg (t 0 0) (t 0 1) x k ≠ sg (t 0 0) (t 0 1) x (k - 1)) ∨ (c = 3 ∧ ∃ i, i < t 0 5 ∧ t 7 i = x)
/-- y is of crowd c behind n goes -/
def cb (t : TD) (c n y : Nat) : Prop := ∃ x, x < tS t ∧ cin t c x ∧ itr (tg t) n x = y
/-- x's crowd -/
def crH (a : ud_St) (t : TD) (mk c gs : Nat) (L : List Nat) : Prop := a.1 45 3 = nI c ∧ c ≤ 3 ∧ a.1 45 4 = nI gs ∧ gs ≤ 200 ∧ L.Nodup ∧ (∀ y, y ∈ L ↔ cb t c gs y) ∧ a.1 45 5 = nI L.length ∧ (∀ k, k < L.length → a.1 46 k = nI (L.getD k 0)) ∧ (∀ x, x < tS t → (a.1 47 x = nI mk ↔ x ∈ L)) ∧ (a.1 45 6 = 0 ∨ ∀ m, gs ≤ m → ∀ y, cb t c m y ↔ cb t c gs y)
def crM (i : Nat) (a : ud_St) (mk : Nat) : Prop := a.1 45 2 = nI mk ∧ mk ≤ 1000 * i ∧ ∀ x, x < 10000 → ∃ v, v ≤ mk ∧ a.1 47 x = nI v
def crOK (i : Nat) (a : ud_St) (t : TD) : Prop := ∃ mk, crM i a mk ∧ (a.1 45 3 = -1 ∨ ∃ c gs L, crH a t mk c gs L)
/-- word i of row r of m plain words -/
def rw12 (m r i : Nat) : Nat := r / 12 ^ (m - 1 - i) % 12
/-- the NEXT by row r of m plain words -/
def rg (b n m r : Nat) : Nat → Nat := gx b n m (rw12 m r) (fun _ => 0)
/-- what a doing has: longest round, rounds, most goes -/
def bV (g : Nat → Nat) (S w v : Nat) : Prop := (w = 0 → (∃ z, z < S ∧ hb g z = true ∧ ln g z = v) ∧ ∀ z, z < S → hb g z = true → ln g z ≤ v) ∧ (w = 1 → v = rk g S) ∧ (w = 2 → (∃ z, z < S ∧ tl g z = v) ∧ ∀ z, z < S → tl g z ≤ v)
def bB (b n m w r : Nat) : Prop := ∃ V : Nat → Nat, (∀ q, q < 12 ^ m → bV (rg b n m q) (b ^ n) w (V q)) ∧ r < 12 ^ m ∧ (∀ q, q < 12 ^ m → V q ≤ V r) ∧ ∀ q, q < r → V q < V r
def bT (m r : Nat) : Nat := if m = 1 then r else 100 * (r / 12) + r % 12
def coOK (a : ud_St) : Prop := ∀ h, h < 2 → a.1 54 h = 0 ∨ ∃ b n, 2 ≤ b ∧ b ≤ 16 ∧ n ≤ 8 ∧ a.1 54 h = nI b ∧ a.1 55 h = nI n ∧ ∀ w, w < 3 → ∃ r, bB b n (h + 1) w r ∧ a.1 49 (3 * h + w) = nI (bT (h + 1) r)
def JX (i : Nat) (a : ud_St) (t : TD) : Prop := figOK a (t 0 0) (t 0 1) ∧ (a.1 36 9 = 0 ∨ (xR a (tg t) (tS t) ∧ xI a (tg t) (tS t))) ∧ crOK i a t ∧ coOK a
def JC (N : Nat) (a : ud_St) (t : TD) : Prop := tOK t ∧ xT a 4 t ∧ mT a 0 t ∧ JT a ∧ JF a ∧ JS a ∧ JI N a
def J (i N : Nat) (a : ud_St) : Prop := ∃ t, JC N a t ∧ JX i a t
/-! what it hangs on -/
theorem xT_c {a a' : ud_St} {k : Nat} {t : TD} (h : xT a k t) (e : ∀ k' j, k ≤ k' → k' ≤ k + 10 → a'.1 k' j = a.1 k' j) : xT a' k t := by
  obtain ⟨h1, h2, h3, h4, h5, h6, h7, h8, h9, h10, h11⟩ := h
  refine ⟨(e _ _ (by omega) (by omega)).trans h1, (e _ _ (by omega) (by omega)).trans h2, (e _ _ (by omega) (by omega)).trans h3, (e _ _ (by omega) (by omega)).trans h4, (e _ _ (by omega) (by omega)).trans h5, (e _ _ (by omega) (by omega)).trans h6, (e _ _ (by omega) (by omega)).trans h7, (e _ _ (by omega) (by omega)).trans h8, fun i hi => ?_, fun i hi => ?_, fun i hi => (e _ _ (by omega) (by omega)).trans (h11 i hi)⟩
  · exact ⟨(e _ _ (by omega) (by omega)).trans (h9 i hi).1, (e _ _ (by omega) (by omega)).trans (h9 i hi).2⟩
  · obtain ⟨q1, q2, q3, q4⟩ := h10 i hi
    exact ⟨(e _ _ (by omega) (by omega)).trans q1, (e _ _ (by omega) (by omega)).trans q2, (e _ _ (by omega) (by omega)).trans q3, (e _ _ (by omega) (by omega)).trans q4⟩
theorem mT_c {a a' : ud_St} {m : Nat} {t : TD} (h : mT a m t) (e : ∀ k j, 77 ≤ k → k ≤ 81 → a'.1 k j = a.1 k j) : mT a' m t := by
  obtain ⟨h1, h2, h3, h4, h5, h6, h7, h9, h10, h11⟩ := h
  refine ⟨(e _ _ (by omega) (by omega)).trans h1, (e _ _ (by omega) (by omega)).trans h2, (e _ _ (by omega) (by omega)).trans h3, (e _ _ (by omega) (by omega)).trans h4, (e _ _ (by omega) (by omega)).trans h5, (e _ _ (by omega) (by omega)).trans h6, (e _ _ (by omega) (by omega)).trans h7, fun i hi => ?_, fun i hi => ?_, fun i hi => (e _ _ (by omega) (by omega)).trans (h11 i hi)⟩
  · exact ⟨(e _ _ (by omega) (by omega)).trans (h9 i hi).1, (e _ _ (by omega) (by omega)).trans (h9 i hi).2⟩
  · obtain ⟨q1, q2, q3, q4⟩ := h10 i hi
    exact ⟨(e _ _ (by omega) (by omega)).trans q1, (e _ _ (by omega) (by omega)).trans q2, (e _ _ (by omega) (by omega)).trans q3, (e _ _ (by omega) (by omega)).trans q4⟩
theorem JT_c {a a' : ud_St} (h : JT a) (e1 : a'.1 1 1 = a.1 1 1) (e2 : ∀ j, a'.1 2 j = a.1 2 j) (e3 : a'.1 71 6 = a.1 71 6) (e4 : ∀ j, a'.1 76 j = a.1 76 j) : JT a' := by
  obtain ⟨c, h1, h2, h3, h4⟩ := h
  refine ⟨c, h1, e1.trans h2, e3.trans h3, fun i hi => ?_⟩
  obtain ⟨v, q1, q2, q3⟩ := h4 i hi
  exact ⟨v, q1, (e2 i).trans q2, (e4 i).trans q3⟩
theorem JS_c {a a' : ud_St} (h : JS a) (e1 : ∀ k j, 62 ≤ k → k ≤ 69 → a'.1 k j = a.1 k j) (e2 : ∀ k j, 72 ≤ k → k ≤ 73 → a'.1 k j = a.1 k j) (e3 : a'.2.1 = a.2.1) : JS a' := by
  intro i hi
  rcases h i hi with ⟨q1, q2⟩ | ⟨q1, w, c, hw, hc, q2, q3, q4, q5, q6⟩
  · exact Or.inl ⟨(e1 _ _ (by omega) (by omega)).trans q1, (e2 _ _ (by omega) (by omega)).trans q2⟩
  · refine Or.inr ⟨(e1 _ _ (by omega) (by omega)).trans q1, w, c, hw, hc, (e1 _ _ (by omega) (by omega)).trans q2, (e2 _ _ (by omega) (by omega)).trans q3, (e1 _ _ (by omega) (by omega)).trans q4, (e2 _ _ (by omega) (by omega)).trans q5, ?_⟩
    rw [e3]
    exact q6
theorem JI_c {N : Nat} {a a' : ud_St} (h : JI N a) (e1 : a'.2.2 = a.2.2) (e2 : ∀ k j, 77 ≤ k → k ≤ 82 → a'.1 k j = a.1 k j) (e3 : ∀ k j, 92 ≤ k → a'.1 k j = a.1 k j) : JI N a' := by
  obtain ⟨h1, h2, h3, h4⟩ := h
  refine ⟨h1, h2, fun k hk => ?_, by rw [e1]; exact h4⟩
  rw [e1, e2 82 k (by omega) (by omega)]
  rcases h3 k hk with q | ⟨q1, q, t, q2, q3, q4, q5, q6, q7, q8⟩
  · exact Or.inl q
  · exact Or.inr ⟨q1, q, t, q2, q3, q4, q5, xT_c q6 (fun k' j z _ => e3 k' j (by omega)), mT_c q7 (fun k' j z1 z2 => e2 k' j z1 (by omega)), q8⟩
/-- the cells that tables, tape, fault, slots and images are in -/
def core (k j : Nat) : Prop := k = 1 ∨ k = 2 ∨ (k = 3 ∧ (j = 6 ∨ j = 7)) ∨ (4 ≤ k ∧ k ≤ 14) ∨ (62 ≤ k ∧ k ≤ 70) ∨ (k = 71 ∧ (j = 6 ∨ j = 14 ∨ j = 15)) ∨ k = 72 ∨ k = 73 ∨ (76 ≤ k ∧ k ≤ 82) ∨ 92 ≤ k
theorem JC_c {N : Nat} {a a' : ud_St} {t : TD} (h : JC N a t) (e : ∀ k j, core k j → a'.1 k j = a.1 k j) (e2 : a'.2 = a.2) : JC N a' t := by
  obtain ⟨h1, h2, h3, h4, h5, h6, h7⟩ := h
  refine ⟨h1, xT_c h2 (fun k j _ _ => e k j (by unfold core; omega)), mT_c h3 (fun k j _ _ => e k j (by unfold core; omega)), JT_c h4 (e _ _ (by unfold core; omega)) (fun j => e _ _ (by unfold core; omega)) (e _ _ (by unfold core; omega)) (fun j => e _ _ (by unfold core; omega)), ⟨?_, ?_⟩, JS_c h6 (fun k j _ _ => e k j (by unfold core; omega)) (fun k j _ _ => e k j (by unfold core; omega)) (by rw [e2]), JI_c h7 (by rw [e2]) (fun k j _ _ => e k j (by unfold core; omega)) (fun k j _ => e k j (by unfold core; omega))⟩
  · rw [e 3 6 (by unfold core; omega), e 71 14 (by unfold core; omega)]; exact h5.1
  · rw [e 3 7 (by unfold core; omega), e 71 15 (by unfold core; omega)]; exact h5.2
theorem figOK_c {a a' : ud_St} {b n : Nat} (h : figOK a b n) (e : ∀ k j, 26 ≤ k → k ≤ 35 → a'.1 k j = a.1 k j) : figOK a' b n := by
  rcases h with ⟨q1, q2, q3, q4, q5⟩ | ⟨⟨q1, q2, q3, q4⟩, q5, q6⟩
  · exact Or.inl ⟨q1, q2, (e _ _ (by omega) (by omega)).trans q3, (e _ _ (by omega) (by omega)).trans q4, (e _ _ (by omega) (by omega)).trans q5⟩
  · refine Or.inr ⟨⟨(e _ _ (by omega) (by omega)).trans q1, (e _ _ (by omega) (by omega)).trans q2, (e _ _ (by omega) (by omega)).trans q3, q4⟩, fun i hi => (e _ _ (by omega) (by omega)).trans (q5 i hi), fun x hx => ?_⟩
    obtain ⟨g1, g2, g3, g4, g5, g6, g7⟩ := q6 x hx
    exact ⟨(e _ _ (by omega) (by omega)).trans g1, (e _ _ (by omega) (by omega)).trans g2, (e _ _ (by omega) (by omega)).trans g3, (e _ _ (by omega) (by omega)).trans g4, (e _ _ (by omega) (by omega)).trans g5, (e _ _ (by omega) (by omega)).trans g6, (e _ _ (by omega) (by omega)).trans g7⟩
theorem xN_c {a a' : ud_St} {g : Nat → Nat} {S : Nat} (h : xN a g S) (e : ∀ k j, 36 ≤ k → k ≤ 37 → a'.1 k j = a.1 k j) : xN a' g S := ⟨(e _ _ (by omega) (by omega)).trans h.1, h.2.1, h.2.2.1, fun x hx => (e _ _ (by omega) (by omega)).trans (h.2.2.2 x hx)⟩
theorem xR_c {a a' : ud_St} {g : Nat → Nat} {S : Nat} (h : xR a g S) (e : ∀ k j, 36 ≤ k → k ≤ 40 → a'.1 k j = a.1 k j) : xR a' g S := by
  obtain ⟨h1, h2, h3, h4, h5, h6, m, h7, h8⟩ := h
  refine ⟨xN_c h1 (fun k j q1 q2 => e k j q1 (by omega)), fun x hx => ⟨(e _ _ (by omega) (by omega)).trans (h2 x hx).1, (e _ _ (by omega) (by omega)).trans (h2 x hx).2⟩, fun x hx hb => (e _ _ (by omega) (by omega)).trans (h3 x hx hb), (e _ _ (by omega) (by omega)).trans h4, (e _ _ (by omega) (by omega)).trans h5, ?_, m, (e _ _ (by omega) (by omega)).trans h7, h8⟩
  rw [e 36 12 (by omega) (by omega), e 36 13 (by omega) (by omega)]
  exact h6
theorem xI_c {a a' : ud_St} {g : Nat → Nat} {S : Nat} (h : xI a g S) (e : ∀ k j, 43 ≤ k → k ≤ 44 → a'.1 k j = a.1 k j) : xI a' g S := ⟨fun y hy => (e _ _ (by omega) (by omega)).trans (h.1 y hy), fun z hz => (e _ _ (by omega) (by omega)).trans (h.2 z hz)⟩
theorem crM_c {i i' : Nat} {a a' : ud_St} {mk : Nat} (h : crM i a mk) (hi : i ≤ i') (e : ∀ k j, 45 ≤ k → k ≤ 47 → a'.1 k j = a.1 k j) : crM i' a' mk := by
  obtain ⟨h1, h2, h3⟩ := h
  refine ⟨(e _ _ (by omega) (by omega)).trans h1, by omega, fun x hx => ?_⟩
  obtain ⟨v, q1, q2⟩ := h3 x hx
  exact ⟨v, q1, (e _ _ (by omega) (by omega)).trans q2⟩
theorem crOK_c {i i' : Nat} {a a' : ud_St} {t : TD} (h : crOK i a t) (hi : i ≤ i') (e : ∀ k j, 45 ≤ k → k ≤ 47 → a'.1 k j = a.1 k j) : crOK i' a' t := by
  obtain ⟨mk, h1, h2⟩ := h
  refine ⟨mk, crM_c h1 hi e, ?_⟩
  rw [e 45 3 (by omega) (by omega)]
  rcases h2 with q | ⟨c, gs, L, q1, q2, q3, q4, q5, q6, q7, q8, q9, q10⟩
  · exact Or.inl q
  · refine Or.inr ⟨c, gs, L, (e _ _ (by omega) (by omega)).trans q1, q2, (e _ _ (by omega) (by omega)).trans q3, q4, q5, q6, (e _ _ (by omega) (by omega)).trans q7, fun k hk => (e _ _ (by omega) (by omega)).trans (q8 k hk), fun x hx => ?_, ?_⟩
    · rw [e 47 x (by omega) (by omega)]; exact q9 x hx
    · rw [e 45 6 (by omega) (by omega)]; exact q10
theorem coOK_c {a a' : ud_St} (h : coOK a) (e : ∀ k j, k = 49 ∨ k = 54 ∨ k = 55 → a'.1 k j = a.1 k j) : coOK a' := by
  intro x hx
  rw [e 54 x (by omega), e 55 x (by omega)]
  rcases h x hx with q | ⟨b, n, q1, q2, q3, q4, q5, q6⟩
  · exact Or.inl q
  · refine Or.inr ⟨b, n, q1, q2, q3, q4, q5, fun w hw => ?_⟩
    obtain ⟨r, z1, z2⟩ := q6 w hw
    exact ⟨r, z1, (e _ _ (by omega)).trans z2⟩
theorem JX_c {i i' : Nat} {a a' : ud_St} {t : TD} (h : JX i a t) (hi : i ≤ i') (e : ∀ k j, (26 ≤ k ∧ k ≤ 40) ∨ (43 ≤ k ∧ k ≤ 47) ∨ k = 49 ∨ k = 54 ∨ k = 55 → a'.1 k j = a.1 k j) : JX i' a' t := by
  obtain ⟨h1, h2, h3, h4⟩ := h
  refine ⟨figOK_c h1 (fun k j _ _ => e k j (by omega)), ?_, crOK_c h3 hi (fun k j _ _ => e k j (by omega)), coOK_c h4 (fun k j _ => e k j (by omega))⟩
  rw [e 36 9 (by omega)]
  exact h2.imp_right (fun q => ⟨xR_c q.1 (fun k j _ _ => e k j (by omega)), xI_c q.2 (fun k j _ _ => e k j (by omega))⟩)
/-- the cells that calls scratch on -/
def Psc (k j : Nat) : Prop := (k = 3 ∧ j ≠ 6 ∧ j ≠ 7) ∨ (15 ≤ k ∧ k ≤ 25) ∨ k = 41 ∨ k = 42 ∨ (50 ≤ k ∧ k ≤ 53) ∨ (56 ≤ k ∧ k ≤ 60) ∨ (k = 71 ∧ j ≠ 6 ∧ j ≠ 14 ∧ j ≠ 15) ∨ (83 ≤ k ∧ k ≤ 91)
theorem JC_sc {N : Nat} {a a' : ud_St} {t : TD} (h : JC N a t) (hf : fr Psc a a') : JC N a' t := JC_c h (fun k j q => hf.1 k j (by unfold core at q; unfold Psc; omega)) hf.2
theorem JX_sc {i i' : Nat} {a a' : ud_St} {t : TD} (h : JX i a t) (hi : i ≤ i') (hf : fr Psc a a') : JX i' a' t := JX_c h hi (fun k j q => hf.1 k j (by unfold Psc; omega))
theorem J_sc {i N : Nat} {a a' : ud_St} (h : J i N a) (hf : fr Psc a a') : J (i + 1) N a' := by
  obtain ⟨t, h1, h2⟩ := h
  exact ⟨t, JC_sc h1 hf, JX_sc h2 (Nat.le_succ i) hf⟩
theorem f0_sc {a : ud_St} : fr Psc a (ud_sv a 71 0 0) := fr.rf.sv (by unfold Psc; omega)
theorem pl_sc : ∀ k j, Pl k j → Psc k j := fun k j h => by unfold Pl Pg at h; unfold Psc; omega
theorem pg_sc : ∀ k j, Pg k j → Psc k j := fun k j h => by unfold Pg at h; unfold Psc; omega
theorem pr_sc : ∀ k j, Pr k j → Psc k j := fun k j h => by unfold Pr at h; unfold Psc; omega
theorem J_0 : J 0 92 ud_0 := by
  refine ⟨fun _ _ => 0, ⟨Or.inl ⟨rfl, rfl, rfl, rfl, rfl, rfl⟩, ?_, ?_, ⟨0, by omega, rfl, rfl, fun i hi => by omega⟩, ⟨rfl, rfl⟩, ?_, ?_⟩, ?_, Or.inl rfl, ⟨0, ⟨rfl, by omega, fun x _ => ⟨0, by omega, rfl⟩⟩, Or.inl rfl⟩, fun h _ => Or.inl (by rfl)⟩
  · refine ⟨rfl, rfl, rfl, rfl, rfl, rfl, rfl, rfl, fun i hi => by simp at hi, fun i hi => by simp at hi, fun i hi => by simp at hi⟩
  · refine ⟨rfl, rfl, rfl, rfl, rfl, rfl, rfl, fun i hi => by simp at hi, fun i hi => by simp at hi, fun i hi => by simp at hi⟩
  · intro i hi
    refine Or.inl ?_
    rcases (show i = 0 ∨ i = 1 ∨ i = 2 ∨ i = 3 by omega) with rfl | rfl | rfl | rfl <;> exact ⟨rfl, rfl⟩
  · refine ⟨Nat.le_refl _, rfl, fun k hk => Or.inl ⟨rfl, ?_⟩, fun k k' q _ _ h => by cases h⟩
    rcases (show k = 0 ∨ k = 1 ∨ k = 2 by omega) with rfl | rfl | rfl <;> rfl
  · exact Or.inl ⟨rfl, rfl, rfl, rfl, rfl⟩
