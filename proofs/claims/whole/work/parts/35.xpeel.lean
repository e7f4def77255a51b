/-! x's rounds: what is on none goes ahead -/
def xN (a : ud_St) (g : Nat → Nat) (S : Nat) : Prop := a.1 36 0 = nI S ∧ S ≤ 10000 ∧ (∀ x, x < S → g x < S) ∧ ∀ x, x < S → a.1 37 x = nI (g x)
def Pq (k _j : Nat) : Prop := k = 41 ∨ k = 42
theorem xN_fr {a a' : ud_St} {g : Nat → Nat} {S : Nat} {P : Nat → Nat → Prop} (h : xN a g S) (hf : fr P a a') (h1 : ∀ x, ¬ P 37 x) (h2 : ¬ P 36 0) : xN a' g S := ⟨(hf.1 36 0 h2).trans h.1, h.2.1, h.2.2.1, fun x hx => (hf.1 37 x (h1 x)).trans (h.2.2.2 x hx)⟩
theorem xN.pq {a a' : ud_St} {g : Nat → Nat} {S : Nat} (h : xN a g S) (hf : fr Pq a a') : xN a' g S := xN_fr h hf (fun x => by unfold Pq; omega) (by unfold Pq; omega)
theorem x_nextOf {a : ud_St} {g : Nat → Nat} {S x : Nat} {Q : Int32 → Prop} (h : xN a g S) (hx : x < S) (hQ : Q (nI (g x))) : w_Paths_nextOf a (nI x) Q := by
  unfold w_Paths_nextOf
  have := h.2.1
  exact ub_atn (by omega) (by omega) (by rw [h.2.2.2 x hx]; exact hQ)
theorem x_waitMore {a : ud_St} {x : Nat} {v : Int32} {Q : ud_St → Prop} (hx : x < 10000) (hQ : Q (ud_sv a 41 x (a.1 41 x + v))) : w_Paths_waitMore a (nI x) v Q := by
  unfold w_Paths_waitMore
  exact ub_atn (by omega) (by omega) (ub_putn (by omega) (by omega) hQ)
/-- how many of the first n go to y -/
def pc (g : Nat → Nat) (y n : Nat) : Nat := fb_ct (fun z => decide (g z = y)) n
theorem pc_s (g : Nat → Nat) (y n : Nat) : pc g y (n + 1) = pc g y n + (if g n = y then 1 else 0) := by
  unfold pc
  rw [fb_ct_succ]
  by_cases h : g n = y <;> simp [h]
theorem pc_le (g : Nat → Nat) (y n : Nat) : pc g y n ≤ n := fb_ct_le _ n
/-- how many go to y, but for those queued ahead of i -/
noncomputable def wq (g : Nat → Nat) (S : Nat) (f : Nat → Nat) (i y : Nat) : Nat := fb_ct (fun z => @decide (g z = y ∧ ¬ ∃ l, l < i ∧ f l = z) (Classical.propDecidable _)) S
theorem wq_0 (g : Nat → Nat) (S : Nat) (f : Nat → Nat) (y : Nat) : wq g S f 0 y = pc g y S := by
  unfold wq pc
  refine fb_ct_cong (fun k _ => ?_)
  have e : (g k = y ∧ ¬ ∃ l, l < 0 ∧ f l = k) ↔ g k = y := ⟨fun h => h.1, fun h => ⟨h, fun ⟨l, hl, _⟩ => by omega⟩⟩
  by_cases h : g k = y
  · rw [decide_eq_true h]
    exact @decide_eq_true _ (Classical.propDecidable _) (e.mpr h)
  · rw [decide_eq_false h]
    exact @decide_eq_false _ (Classical.propDecidable _) (fun q => h q.1)
theorem wq_le (g : Nat → Nat) (S : Nat) (f : Nat → Nat) (i y : Nat) : wq g S f i y ≤ S := fb_ct_le _ S
theorem wq_pos {g : Nat → Nat} {S : Nat} {f : Nat → Nat} {i y : Nat} : 0 < wq g S f i y ↔ ∃ z, z < S ∧ g z = y ∧ ¬ ∃ l, l < i ∧ f l = z := by
  unfold wq
  rw [fb_ct_pos]
  refine exists_congr (fun z => and_congr_right (fun _ => ?_))
  exact @decide_eq_true_iff _ (Classical.propDecidable _)
theorem wq_congr {g : Nat → Nat} {S : Nat} {f f' : Nat → Nat} {i y : Nat} (h : ∀ l, l < i → f l = f' l) : wq g S f i y = wq g S f' i y := by
  unfold wq
  refine fb_ct_cong (fun z _ => ?_)
  have e : (g z = y ∧ ¬ ∃ l, l < i ∧ f l = z) ↔ (g z = y ∧ ¬ ∃ l, l < i ∧ f' l = z) := and_congr_right fun _ => not_congr (exists_congr fun l => and_congr_right fun hl => by rw [h l hl])
  by_cases q : (g z = y ∧ ¬ ∃ l, l < i ∧ f l = z)
  · rw [@decide_eq_true _ (Classical.propDecidable _) q, @decide_eq_true _ (Classical.propDecidable _) (e.mp q)]
  · rw [@decide_eq_false _ (Classical.propDecidable _) q, @decide_eq_false _ (Classical.propDecidable _) (fun z => q (e.mpr z))]
/-- one more processed -/
theorem wq_s {g : Nat → Nat} {S : Nat} {f : Nat → Nat} {i y : Nat} (hi : f i < S) (hn : ∀ l, l < i → f l ≠ f i) : wq g S f i y = wq g S f (i + 1) y + (if g (f i) = y then 1 else 0) := by
  by_cases h : g (f i) = y
  · rw [if_pos h]
    have e := fb_ct_upd (fun z => @decide (g z = y ∧ ¬ ∃ l, l < i ∧ f l = z) (Classical.propDecidable _)) false hi
    have e1 : (@decide (g (f i) = y ∧ ¬ ∃ l, l < i ∧ f l = f i) (Classical.propDecidable _)) = true := @decide_eq_true _ (Classical.propDecidable _) ⟨h, fun ⟨l, hl, e⟩ => hn l hl e⟩
    rw [if_pos e1, if_neg (by decide)] at e
    unfold wq
    refine Eq.trans e.symm ?_
    congr 1
    refine fb_ct_cong (fun z _ => ?_)
    by_cases hz : z = f i
    · rw [if_pos hz]
      exact (@decide_eq_false _ (Classical.propDecidable _) (fun q => q.2 ⟨i, Nat.lt_succ_self i, hz.symm⟩)).symm
    · rw [if_neg hz]
      have e2 : (g z = y ∧ ¬ ∃ l, l < i ∧ f l = z) ↔ (g z = y ∧ ¬ ∃ l, l < i + 1 ∧ f l = z) := and_congr_right fun _ => not_congr ⟨fun ⟨l, hl, q⟩ => ⟨l, by omega, q⟩, fun ⟨l, hl, q⟩ => ⟨l, by
        rcases Nat.lt_or_ge l i with w | w
        · exact w
        · exact absurd (by rw [← q, show l = i by omega]) hz, q⟩⟩
      by_cases q : (g z = y ∧ ¬ ∃ l, l < i ∧ f l = z)
      · rw [@decide_eq_true _ (Classical.propDecidable _) q, @decide_eq_true _ (Classical.propDecidable _) (e2.mp q)]
      · rw [@decide_eq_false _ (Classical.propDecidable _) q, @decide_eq_false _ (Classical.propDecidable _) (fun z => q (e2.mpr z))]
  · rw [if_neg h, Nat.add_zero]
    unfold wq
    refine fb_ct_cong (fun z _ => ?_)
    have e2 : (g z = y ∧ ¬ ∃ l, l < i ∧ f l = z) ↔ (g z = y ∧ ¬ ∃ l, l < i + 1 ∧ f l = z) := and_congr_right fun hz => not_congr ⟨fun ⟨l, hl, q⟩ => ⟨l, by omega, q⟩, fun ⟨l, hl, q⟩ => ⟨l, by
      rcases Nat.lt_or_ge l i with w | w
      · exact w
      · exact absurd (by rw [show i = l by omega, q, hz]) h, q⟩⟩
    by_cases q : (g z = y ∧ ¬ ∃ l, l < i ∧ f l = z)
    · rw [@decide_eq_true _ (Classical.propDecidable _) q, @decide_eq_true _ (Classical.propDecidable _) (e2.mp q)]
    · rw [@decide_eq_false _ (Classical.propDecidable _) q, @decide_eq_false _ (Classical.propDecidable _) (fun z => q (e2.mpr z))]
/-- the queue: q of them, i processed -/
def qOK (a : ud_St) (g : Nat → Nat) (S q i : Nat) (f : Nat → Nat) : Prop := (∀ k, k < q → f k < S ∧ a.1 42 k = nI (f k)) ∧ (∀ k l, k < l → l < q → f k ≠ f l) ∧ (∀ y, y < S → a.1 41 y = nI (wq g S f i y)) ∧ (∀ y, y < S → ((∃ k, k < q ∧ f k = y) ↔ wq g S f i y = 0)) ∧ ∀ k, k < q → ∀ z, z < S → g z = f k → ∃ l, l < k ∧ f l = z
theorem qOK.le {a : ud_St} {g : Nat → Nat} {S q i : Nat} {f : Nat → Nat} (h : qOK a g S q i f) : q ≤ S := fb_holes S q f (fun k hk => (h.1 k hk).1) h.2.1
/-- the queue when all are processed -/
def qEnd (a : ud_St) (g : Nat → Nat) (S q : Nat) (f : Nat → Nat) : Prop := q ≤ S ∧ (∀ k, k < q → f k < S ∧ a.1 42 k = nI (f k)) ∧ (∀ k l, k < l → l < q → f k ≠ f l) ∧ (∀ y, y < S → ((∃ k, k < q ∧ f k = y) ↔ ¬ per g y)) ∧ ∀ k, k < q → ∀ z, z < S → g z = f k → ∃ l, l < k ∧ f l = z
theorem chain_itr {g c : Nat → Nat} (h : ∀ n, g (c (n + 1)) = c n) (n : Nat) : ∀ m, itr g m (c (n + m)) = c n
  | 0 => rfl
  | m + 1 => by
    show itr g m (g (c (n + m + 1))) = c n
    rw [h]
    exact chain_itr h n m
theorem qOK.fin {a : ud_St} {g : Nat → Nat} {S q : Nat} {f : Nat → Nat} (hg : ∀ x, x < S → g x < S) (h : qOK a g S q q f) : qEnd a g S q f ∧ ∀ y, y < S → (per g y → 0 < wq g S f q y) ∧ (¬ per g y → wq g S f q y = 0) := by
  obtain ⟨h1, h2, h3, h4, h5⟩ := id h
  have hin : ∀ k, k < q → ¬ per g (f k) := by
    intro k
    induction k using Nat.strongRecOn with
    | ind k ih =>
      intro hk hp
      have hl := ln_sp hp
      obtain ⟨m, hm⟩ : ∃ m, ln g (f k) = m + 1 := ⟨ln g (f k) - 1, by omega⟩
      have e : g (itr g m (f k)) = f k := by
        rw [← itr_s (g := g), ← hm]
        exact hl.2.1
      obtain ⟨l, hl1, hl2⟩ := h5 k hk _ (itr_lt hg (h1 k hk).1 m) e
      exact ih l hl1 (by omega) (by rw [hl2]; exact per_itr hp m)
  have hout : ∀ y, y < S → ¬ (∃ k, k < q ∧ f k = y) → per g y := by
    intro y hy hn
    have hpre : ∀ z, ∃ u, (z < S ∧ ¬ (∃ k, k < q ∧ f k = z)) → (u < S ∧ g u = z ∧ ¬ ∃ k, k < q ∧ f k = u) := by
      intro z
      by_cases hz : z < S ∧ ¬ (∃ k, k < q ∧ f k = z)
      · have : 0 < wq g S f q z := Nat.pos_of_ne_zero (fun e => hz.2 ((h4 z hz.1).mpr e))
        obtain ⟨u, hu⟩ := wq_pos.mp this
        exact ⟨u, fun _ => hu⟩
      · exact ⟨0, fun h => absurd h hz⟩
    obtain ⟨pre, hpre⟩ := Classical.axiomOfChoice hpre
    let c : Nat → Nat := fun n => Nat.rec y (fun _ v => pre v) n
    have hc : ∀ n, c n < S ∧ ¬ ∃ k, k < q ∧ f k = c n := by
      intro n
      induction n with
      | zero => exact ⟨hy, hn⟩
      | succ n ih => have := hpre _ ih; exact ⟨this.1, this.2.2⟩
    have hs : ∀ n, g (c (n + 1)) = c n := fun n => (hpre _ (hc n)).2.1
    obtain ⟨i, j, hij, hj, e⟩ := fb_twice (m := S) (n := S + 1) (f := c) (fun k _ => (hc k).1) (Nat.lt_succ_self S)
    have e1 : itr g (j - i) (c j) = c j := by
      have := chain_itr hs i (j - i)
      rw [show i + (j - i) = j by omega] at this
      rw [this]; exact e
    have hp : per g (c j) := ⟨j - i, by omega, e1⟩
    have e2 : itr g j (c j) = y := by
      have := chain_itr hs 0 j
      rw [Nat.zero_add] at this
      exact this
    rw [← e2]
    exact per_itr hp j
  have hiff : ∀ y, y < S → ((∃ k, k < q ∧ f k = y) ↔ ¬ per g y) := fun y hy => ⟨fun ⟨k, hk, e⟩ => by rw [← e]; exact hin k hk, fun hp => Classical.byContradiction fun z => hp (hout y hy z)⟩
  exact ⟨⟨h.le, h1, h2, hiff, h5⟩, fun y hy => ⟨fun hp => Nat.pos_of_ne_zero (fun e => (hiff y hy).mp ((h4 y hy).mpr e) hp), fun hp => (h4 y hy).mp ((hiff y hy).mpr hp)⟩⟩
theorem x_peel94 {a0 a : ud_St} {g : Nat → Nat} {S q0 : Nat} {f0 : Nat → Nat} {Q : Int32 → ud_St → Prop} (hN : xN a g S) (h0 : qOK a g S q0 0 f0) (hQ : ∀ a' q f, fr Pq a a' → qEnd a' g S q f → (∀ y, y < S → ∃ v, v ≤ S ∧ a'.1 41 y = nI v ∧ (0 < v ↔ per g y)) → Q (nI q) a') : w_Paths_peel_j94 a0 a (nI q0) 0 Q := by
  obtain ⟨hz, hS, hg, h37⟩ := id hN
  unfold w_Paths_peel_j94
  have hend : ∀ a' q f, fr Pq a a' → qOK a' g S q q f → Q (nI q) a' := fun a' q f hf h => by
    obtain ⟨h1, h2⟩ := h.fin hg
    refine hQ a' q f hf h1 (fun y hy => ⟨wq g S f q y, wq_le _ _ _ _ _, h.2.2.1 y hy, fun hp => Classical.byContradiction fun z => by have := (h2 y hy).2 z; omega, (h2 y hy).1⟩)
  refine LW3.up S (fun i n j b => j = nI i ∧ fr Pq a b ∧ ∃ q f, n = nI q ∧ i ≤ q ∧ qOK b g S q i f) ⟨rfl, fr.rf, q0, f0, rfl, Nat.zero_le _, h0⟩ ?_ ?_
  · rintro i n j b hi ⟨rfl, hf, q, f, rfl, hiq, hq⟩ K hK
    have hqS := hq.le
    obtain ⟨b0, -, -, b37⟩ := hN.pq hf
    refine ⟨fun z => ?_, fun z => ?_⟩
    · have z' := (nI_leI (by omega) (by omega)).mp z
      have e : i = q := by omega
      subst e
      exact hend b i f hf hq
    · have hiq2 : i < q := (ui_ltn (by omega) (by omega)).mp z
      rw [b0]
      refine ⟨fun z => absurd z (nI_ge hi (by omega)), fun _ => ?_⟩
      obtain ⟨h1, h2, h3, h4, h5⟩ := id hq
      refine ub_atn (by omega) (by omega) ?_
      rw [(h1 i hiq2).2]
      have hx := (h1 i hiq2).1
      have hy := hg _ hx
      refine x_nextOf (hN.pq hf) hx (x_waitMore (by omega) ?_)
      have hws : ∀ y, wq g S f i y = wq g S f (i + 1) y + (if g (f i) = y then 1 else 0) := fun y => wq_s hx (fun l hl => h2 l i hl hiq2)
      have e41 : b.1 41 (g (f i)) + -1 = nI (wq g S f (i + 1) (g (f i))) := by
        rw [h3 _ hy, hws, if_pos rfl]
        exact pk_m1 _
      rw [e41]
      have hf2 : fr Pq a (ud_sv b 41 (g (f i)) (nI (wq g S f (i + 1) (g (f i))))) := hf.sv (Or.inl rfl)
      have g41 : ∀ y, y < S → (ud_sv b 41 (g (f i)) (nI (wq g S f (i + 1) (g (f i))))).1 41 y = nI (wq g S f (i + 1) y) := fun y hy2 => by
        rw [us_1]
        by_cases e : y = g (f i)
        · rw [if_pos ⟨rfl, e⟩, e]
        · rw [if_neg (fun z => e z.2), h3 y hy2, hws y, if_neg (fun z => e z.symm)]
          rfl
      have g42 : ∀ k, (ud_sv b 41 (g (f i)) (nI (wq g S f (i + 1) (g (f i))))).1 42 k = b.1 42 k := fun k => by rw [us_1, if_neg (by omega)]
      refine ub_atn (by omega) (by omega) ?_
      rw [g41 _ hy]
      have hwl := wq_le g S f (i + 1) (g (f i))
      refine ⟨fun e => ?_, fun e => ?_⟩
      · have e0 : wq g S f (i + 1) (g (f i)) = 0 := (nI_eq (b := 0) (by omega) (by omega)).mp e
        have hnew : ¬ ∃ k, k < q ∧ f k = g (f i) := fun w => by
          have := (h4 _ hy).mp w
          rw [hws, if_pos rfl] at this
          omega
        obtain ⟨F, hFq, hFl⟩ : ∃ F : Nat → Nat, F q = g (f i) ∧ ∀ l, l ≠ q → F l = f l := ⟨fun l => if l = q then g (f i) else f l, if_pos rfl, fun l h => if_neg h⟩
        have hfl : ∀ l, l < q → F l = f l := fun l hl => hFl l (by omega)
        have hw2 : ∀ y, wq g S F (i + 1) y = wq g S f (i + 1) y := fun y => wq_congr (fun l hl => hfl l (by omega))
        have hF1 : ∀ k, k < q + 1 → F k < S := fun k hk => by
          by_cases e : k = q
          · rw [e, hFq]; exact hy
          · rw [hFl k e]; exact (h1 k (by omega)).1
        have hF2 : ∀ k l, k < l → l < q + 1 → F k ≠ F l := fun k l hkl hl => by
          by_cases e : l = q
          · rw [e, hFq, hfl k (by omega)]
            exact fun z => hnew ⟨k, by omega, z⟩
          · rw [hFl l e, hfl k (by omega)]
            exact h2 k l hkl (by omega)
        have hq1 : q + 1 ≤ S := fb_holes S (q + 1) F hF1 hF2
        refine ub_putn (by omega) (by omega) (hK _ _ _ ⟨nI_1 i, hf2.sv (Or.inr rfl), q + 1, F, nI_1 q, by omega, fun k hk => ⟨hF1 k hk, ?_⟩, hF2, fun y hy2 => ?_, fun y hy2 => ?_, fun k hk z hz2 he => ?_⟩)
        · by_cases e : k = q
          · rw [e, hFq, us_1, if_pos ⟨rfl, rfl⟩]
          · rw [hFl k e, us_1, if_neg (fun w => e w.2), g42]; exact (h1 k (by omega)).2
        · rw [us_1, if_neg (by omega), g41 y hy2, hw2]
        · rw [hw2]
          constructor
          · rintro ⟨k, hk, e2⟩
            by_cases e3 : k = q
            · rw [e3, hFq] at e2; rw [← e2]; exact e0
            · rw [hFl k e3] at e2
              have := (h4 y hy2).mp ⟨k, by omega, e2⟩
              rw [hws] at this
              omega
          · intro e2
            by_cases e3 : g (f i) = y
            · exact ⟨q, by omega, by rw [hFq]; exact e3⟩
            · obtain ⟨k, hk, e4⟩ := (h4 y hy2).mpr (by rw [hws, if_neg e3, e2])
              exact ⟨k, by omega, by rw [hfl k hk]; exact e4⟩
        · by_cases e3 : k = q
          · rw [e3, hFq] at he
            have : ∃ l, l < i + 1 ∧ f l = z := Classical.byContradiction fun w => by
              have := wq_pos.mpr ⟨z, hz2, he, w⟩
              omega
            obtain ⟨l, hl, e4⟩ := this
            exact ⟨l, by omega, by rw [hfl l (by omega)]; exact e4⟩
          · rw [hFl k e3] at he
            obtain ⟨l, hl, e4⟩ := h5 k (by omega) z hz2 he
            exact ⟨l, hl, by rw [hfl l (by omega)]; exact e4⟩
      · have hpos : 0 < wq g S f (i + 1) (g (f i)) := Nat.pos_of_ne_zero (fun w => e (by rw [w]; rfl))
        refine hK _ _ _ ⟨nI_1 i, hf2, q, f, rfl, hiq2, fun k hk => by rw [g42]; exact h1 k hk, h2, g41, fun y hy2 => ?_, h5⟩
        rw [h4 y hy2, hws y]
        by_cases e3 : g (f i) = y
        · rw [if_pos e3, ← e3]; omega
        · rw [if_neg e3]; omega
  · rintro n j b ⟨rfl, hf, q, f, rfl, hiq, hq⟩ K
    have hqS := hq.le
    have e : q = S := by omega
    subst e
    exact ⟨fun _ => hend b q f hf hq, fun z => absurd (nI_le (Nat.le_refl q) (by omega)) z⟩
theorem x_peel {a : ud_St} {g : Nat → Nat} {S : Nat} {Q : Int32 → ud_St → Prop} (hN : xN a g S) (hQ : ∀ a' q f, fr Pq a a' → qEnd a' g S q f → (∀ y, y < S → ∃ v, v ≤ S ∧ a'.1 41 y = nI v ∧ (0 < v ↔ per g y)) → Q (nI q) a') : w_Paths_peel a Q := by
  obtain ⟨hz, hS, hg, h37⟩ := id hN
  unfold w_Paths_peel w_Paths_peel_j2
  refine LW2.up S (fun t x b => x = nI t ∧ fr Pq a b ∧ ∀ y, y < t → b.1 41 y = 0) ⟨rfl, fr.rf, fun y hy => by omega⟩ ?_ ?_
  · rintro t x b ht ⟨rfl, hf, hd⟩ K hK
    rw [(hN.pq hf).1]
    refine ⟨fun w => absurd w (nI_ge ht (by omega)), fun _ => ub_putn (by omega) (by omega) (hK _ _ ⟨nI_1 t, hf.sv (Or.inl rfl), fun y hy => ?_⟩)⟩
    rw [us_1]
    by_cases e : y = t
    · rw [if_pos ⟨rfl, e⟩]
    · rw [if_neg (fun w => e w.2)]; exact hd y (by omega)
  rintro x b ⟨rfl, hf, hd⟩ K
  rw [(hN.pq hf).1]
  refine ⟨fun _ => ?_, fun w => absurd (nI_le (Nat.le_refl S) (by omega)) w⟩
  unfold w_Paths_peel_j27
  refine LW2.up S (fun t x b => x = nI t ∧ fr Pq a b ∧ ∀ y, y < S → b.1 41 y = nI (pc g y t)) ⟨rfl, hf, fun y hy => by rw [hd y hy]; rfl⟩ ?_ ?_
  · rintro t x b ht ⟨rfl, hf, hd⟩ K hK
    rw [(hN.pq hf).1]
    have hgt := hg t ht
    refine ⟨fun w => absurd w (nI_ge ht (by omega)), fun _ => x_nextOf (hN.pq hf) ht (x_waitMore (by omega) (hK _ _ ⟨nI_1 t, hf.sv (Or.inl rfl), fun y hy => ?_⟩))⟩
    rw [us_1, pc_s]
    by_cases e : y = g t
    · rw [if_pos ⟨rfl, e⟩, if_pos e.symm, hd _ hgt, ← e]; exact nI_1 _
    · rw [if_neg (fun w => e w.2), if_neg (fun w => e w.symm)]; exact hd y hy
  rintro x b ⟨rfl, hf, hd⟩ K
  rw [(hN.pq hf).1]
  refine ⟨fun _ => ?_, fun w => absurd (nI_le (Nat.le_refl S) (by omega)) w⟩
  unfold w_Paths_peel_j55
  refine LW3.up S (fun t n x b => x = nI t ∧ fr Pq a b ∧ (∀ y, y < S → b.1 41 y = nI (pc g y S)) ∧ ∃ q f, n = nI q ∧ q ≤ t ∧ (∀ k, k < q → f k < t ∧ b.1 42 k = nI (f k)) ∧ (∀ k l, k < l → l < q → f k < f l) ∧ ∀ y, y < t → ((∃ k, k < q ∧ f k = y) ↔ pc g y S = 0)) ⟨rfl, hf, hd, 0, fun _ => 0, rfl, Nat.le_refl _, fun k hk => by omega, fun k l _ hl => by omega, fun y hy => by omega⟩ ?_ ?_
  · rintro t n x b ht ⟨rfl, hf, hd, q, f, rfl, hq, h1, h2, h3⟩ K hK
    rw [(hN.pq hf).1]
    refine ⟨fun w => absurd w (nI_ge ht (by omega)), fun _ => ub_atn (by omega) (by omega) ?_⟩
    rw [hd t ht]
    have hpl := pc_le g t S
    refine ⟨fun e => ?_, fun e => ?_⟩
    · have e0 : pc g t S = 0 := (nI_eq (b := 0) (by omega) (by omega)).mp e
      obtain ⟨F, hFq, hFl⟩ : ∃ F : Nat → Nat, F q = t ∧ ∀ l, l ≠ q → F l = f l := ⟨fun l => if l = q then t else f l, if_pos rfl, fun l h => if_neg h⟩
      refine ub_putn (by omega) (by omega) (hK _ _ _ ⟨nI_1 t, hf.sv (Or.inr rfl), fun y hy => by rw [us_1, if_neg (by omega)]; exact hd y hy, q + 1, F, nI_1 q, by omega, fun k hk => ?_, fun k l hkl hl => ?_, fun y hy => ?_⟩)
      · by_cases e : k = q
        · rw [e, hFq, us_1, if_pos ⟨rfl, rfl⟩]; exact ⟨by omega, rfl⟩
        · rw [hFl k e, us_1, if_neg (fun w => e w.2)]
          have := h1 k (by omega)
          exact ⟨by omega, this.2⟩
      · by_cases e : l = q
        · rw [e, hFq, hFl k (by omega)]
          exact (h1 k (by omega)).1
        · rw [hFl l e, hFl k (by omega)]
          exact h2 k l hkl (by omega)
      · by_cases ey : y = t
        · rw [ey]
          exact ⟨fun _ => e0, fun _ => ⟨q, by omega, hFq⟩⟩
        · rw [← h3 y (by omega)]
          constructor
          · rintro ⟨k, hk, e2⟩
            by_cases e3 : k = q
            · rw [e3, hFq] at e2; exact absurd e2.symm ey
            · rw [hFl k e3] at e2; exact ⟨k, by omega, e2⟩
          · rintro ⟨k, hk, e2⟩
            exact ⟨k, by omega, by rw [hFl k (by omega)]; exact e2⟩
    · have e0 : pc g t S ≠ 0 := fun w => e (by rw [w]; rfl)
      refine hK _ _ _ ⟨nI_1 t, hf, hd, q, f, rfl, by omega, fun k hk => ⟨by have := (h1 k hk).1; omega, (h1 k hk).2⟩, h2, fun y hy => ?_⟩
      by_cases ey : y = t
      · rw [ey]
        exact ⟨fun ⟨k, hk, e2⟩ => by have := (h1 k hk).1; omega, fun w => absurd w e0⟩
      · exact h3 y (by omega)
  rintro n x b ⟨rfl, hf, hd, q, f, rfl, hq, h1, h2, h3⟩ K
  rw [(hN.pq hf).1]
  refine ⟨fun _ => ?_, fun w => absurd (nI_le (Nat.le_refl S) (by omega)) w⟩
  refine x_peel94 (f0 := f) (hN.pq hf) ⟨h1, fun k l hkl hl => by have := h2 k l hkl hl; omega, fun y hy => by rw [wq_0]; exact hd y hy, fun y hy => by rw [wq_0]; exact h3 y hy, fun k hk z hz2 he => ?_⟩ (fun b2 q2 f2 hb2 => hQ b2 q2 f2 (hf.tr hb2))
  have h4 := (h3 (f k) (h1 k hk).1).mp ⟨k, hk, rfl⟩
  exfalso
  unfold pc at h4
  have := fb_ct_zero.mp h4 z hz2
  rw [decide_eq_true he] at this
  exact absurd this (by decide)
