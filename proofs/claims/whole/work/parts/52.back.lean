/-! back -/
/-- u comes to x in just k goes, and not in fewer -/
def hit (g : Nat → Nat) (x k u : Nat) : Prop := itr g k u = x ∧ ∀ j, j < k → itr g j u ≠ x
theorem hit_one {g : Nat → Nat} {x j k u : Nat} (h1 : hit g x j u) (h2 : hit g x k u) : j = k := by
  rcases Nat.lt_trichotomy j k with w | w | w
  · exact absurd h1.1 (h2.2 j w)
  · exact w
  · exact absurd h2.1 (h1.2 k w)
theorem hit_s {g : Nat → Nat} {x k u : Nat} : hit g x (k + 1) u ↔ u ≠ x ∧ hit g x k (g u) := by
  constructor
  · rintro ⟨h1, h2⟩
    exact ⟨h2 0 (by omega), h1, fun j hj => h2 (j + 1) (by omega)⟩
  · rintro ⟨h1, h2, h3⟩
    refine ⟨h2, fun j hj => ?_⟩
    cases j with
    | zero => exact h1
    | succ j => exact h3 j (by omega)
noncomputable def hct (g : Nat → Nat) (x n m : Nat) : Nat := fb_ct (fun u => @decide (hit g x n u) (Classical.propDecidable _)) m
theorem hct_s (g : Nat → Nat) (x n m : Nat) : hct g x n (m + 1) = hct g x n m + (@ite Nat (hit g x n m) (Classical.propDecidable _) 1 0) := by
  unfold hct
  rw [fb_ct_succ]
  by_cases h : hit g x n m
  · rw [@decide_eq_true _ (Classical.propDecidable _) h, @if_pos _ (Classical.propDecidable _) h]; rfl
  · rw [@decide_eq_false _ (Classical.propDecidable _) h, @if_neg _ (Classical.propDecidable _) h]; rfl
/-- as many as stand in a row without a double -/
theorem ct_row {p : Nat → Bool} {S m : Nat} {f : Nat → Nat} (h1 : ∀ l, l < m → f l < S ∧ p (f l) = true) (h2 : ∀ k l, k < l → l < m → f k ≠ f l) (h3 : ∀ u, u < S → p u = true → ∃ l, l < m ∧ f l = u) : m = fb_ct p S := by
  have a1 : m ≤ fb_ct p S := fb_holes (fb_ct p S) m (fun l => fb_ct p (f l)) (fun l hl => by
    have := fb_ct_mono p (show f l + 1 ≤ S from (h1 l hl).1)
    rw [fb_ct_succ, (h1 l hl).2] at this
    simp only [if_true] at this
    omega) (fun k l hkl hl e => h2 k l hkl hl (fb_ct_kth_one (h1 k (by omega)).2 (h1 l hl).2 e))
  have hex : ∀ j, ∃ l, j < fb_ct p S → l < m ∧ fb_ct p (f l) = j := fun j => by
    by_cases hj : j < fb_ct p S
    · obtain ⟨u, hu1, hu2, hu3⟩ := fb_ct_kth hj
      obtain ⟨l, hl, hl2⟩ := h3 u hu1 hu2
      exact ⟨l, fun _ => ⟨hl, by rw [hl2]; exact hu3⟩⟩
    · exact ⟨0, fun h => absurd h hj⟩
  obtain ⟨e, he⟩ := Classical.axiomOfChoice hex
  have a2 : fb_ct p S ≤ m := fb_holes m (fb_ct p S) e (fun j hj => (he j hj).1) (fun j k hjk hk q => by
    have z1 := (he j (by omega)).2
    have z2 := (he k hk).2
    rw [q] at z1
    omega)
  omega
def P42 (k _j : Nat) : Prop := k = 42
theorem xN_42 {a a' : ud_St} {g : Nat → Nat} {S : Nat} (h : xN a g S) (hf : fr P42 a a') : xN a' g S := xN_fr h hf (fun x => by unfold P42; omega) (by unfold P42; omega)
theorem xI_42 {a a' : ud_St} {g : Nat → Nat} {S : Nat} (h : xI a g S) (hf : fr P42 a a') : xI a' g S := xI_c h (fun k j _ _ => hf.1 k j (by unfold P42; omega))
/-- a queue of q unlike numbers -/
def qu (a : ud_St) (S q : Nat) (f : Nat → Nat) : Prop := (∀ l, l < q → f l < S ∧ a.1 42 l = nI (f l)) ∧ ∀ k l, k < l → l < q → f k ≠ f l
theorem qu.le {a : ud_St} {S q : Nat} {f : Nat → Nat} (h : qu a S q f) : q ≤ S := fb_holes S q f (fun l hl => (h.1 l hl).1) h.2
theorem qu_push {a : ud_St} {S q v : Nat} {f : Nat → Nat} (h : qu a S q f) (hv : v < S) (hn : ¬ ∃ l, l < q ∧ f l = v) : ∃ F : Nat → Nat, F q = v ∧ (∀ l, l < q → F l = f l) ∧ qu (ud_sv a 42 q (nI v)) S (q + 1) F := by
  refine ⟨fun l => if l = q then v else f l, if_pos rfl, fun l hl => if_neg (by omega), ?_⟩
  obtain ⟨F, hF⟩ : ∃ F : Nat → Nat, (fun l => if l = q then v else f l) = F := ⟨_, rfl⟩
  rw [hF]
  have hFq : F q = v := by rw [← hF]; exact if_pos rfl
  have hFl : ∀ l, l ≠ q → F l = f l := fun l hl => by rw [← hF]; exact if_neg hl
  refine ⟨fun l hl => ?_, fun k l hkl hl => ?_⟩
  · by_cases e : l = q
    · rw [e, hFq, us_1, if_pos ⟨rfl, rfl⟩]; exact ⟨hv, rfl⟩
    · rw [hFl l e, us_1, if_neg (fun w => e w.2)]; exact h.1 l (by omega)
  · by_cases e : l = q
    · rw [e, hFq, hFl k (by omega)]; exact fun w => hn ⟨k, by omega, w⟩
    · rw [hFl l e, hFl k (by omega)]; exact h.2 k l hkl (by omega)
theorem x_queueInto {a : ud_St} {g : Nat → Nat} {S y x q : Nat} {f : Nat → Nat} {Q : Int32 → ud_St → Prop} (hN : xN a g S) (hI : xI a g S) (hy : y < S) (hx : x < S) (hq : qu a S q f) (hnew : ∀ u, u < S → g u = y → u ≠ x → ¬ ∃ l, l < q ∧ f l = u) (hQ : ∀ a' q' f', fr P42 a a' → q ≤ q' → (∀ l, l < q → f' l = f l) → qu a' S q' f' → (∀ u, (∃ l, q ≤ l ∧ l < q' ∧ f' l = u) ↔ (u < S ∧ g u = y ∧ u ≠ x)) → Q (nI q') a') : w_Paths_queueInto a (nI y) (nI x) (nI q) Q := by
  have hS := hN.2.1
  have hg := hN.2.2.1
  have hpl := pc_le g y S
  unfold w_Paths_queueInto
  refine LW3.up (pc g y S) (fun i e j b => j = nI i ∧ fr P42 a b ∧ ∃ q' F, e = nI q' ∧ q ≤ q' ∧ (∀ l, l < q → F l = f l) ∧ qu b S q' F ∧ ∀ u, (∃ l, q ≤ l ∧ l < q' ∧ F l = u) ↔ (u < S ∧ g u = y ∧ u ≠ x ∧ pc g y u < i)) ⟨rfl, fr.rf, q, f, rfl, Nat.le_refl _, fun _ _ => rfl, hq, fun u => ⟨fun ⟨l, h1, h2, _⟩ => by omega, fun h => by omega⟩⟩ ?_ ?_
  · rintro i e j b hi ⟨rfl, hf, q', F, rfl, hqq, hF, hqu, hset⟩ K hK
    have hNb := xN_42 hN hf
    have hIb := xI_42 hI hf
    obtain ⟨z, hz, hz2, hz3⟩ := fb_ct_kth (p := fun z => decide (g z = y)) hi
    have hz2' : g z = y := of_decide_eq_true hz2
    have hz3' : pc g y z = i := hz3
    have hql := hqu.le
    refine x_countInto hNb hIb hy ⟨fun w => absurd w (nI_ge hi (by omega)), fun _ => ?_⟩
    have hone : ∀ u, u < S → g u = y → pc g y u = i → u = z := fun u hu hu2 hu3 => fb_ct_kth_one (p := fun z => decide (g z = y)) (decide_eq_true hu2) hz2 (show pc g y u = pc g y z by omega)
    rw [← hz3']
    refine x_into hNb hIb hy hz hz2' ⟨fun w => ?_, fun w => ?_⟩
    · have w' := (nI_eq (by omega) (by omega)).mp w
      rw [hz3']
      refine hK _ _ _ ⟨nI_1 i, hf, q', F, rfl, hqq, hF, hqu, fun u => (hset u).trans ⟨fun ⟨h1, h2, h3, h4⟩ => ⟨h1, h2, h3, by omega⟩, fun ⟨h1, h2, h3, h4⟩ => ⟨h1, h2, h3, ?_⟩⟩⟩
      rcases Nat.lt_or_ge (pc g y u) i with v | v
      · exact v
      · exact absurd ((hone u h1 h2 (by omega)).trans w') h3
    · have w' : z ≠ x := fun v => w (by rw [v])
      have hzn : ¬ ∃ l, l < q' ∧ F l = z := by
        rintro ⟨l, hl, hl2⟩
        by_cases hlq : l < q
        · exact hnew z hz hz2' w' ⟨l, hlq, by rw [← hF l hlq]; exact hl2⟩
        · have := ((hset z).mp ⟨l, by omega, hl, hl2⟩).2.2.2
          omega
      obtain ⟨F2, hF2q, hF2l, hqu2⟩ := qu_push hqu hz hzn
      have hql2 := hqu2.le
      refine x_into hNb hIb hy hz hz2' (ub_putn (by omega) (by omega) ?_)
      rw [hz3']
      refine hK _ _ _ ⟨nI_1 i, hf.sv rfl, q' + 1, F2, nI_1 q', by omega, fun l hl => (hF2l l (by omega)).trans (hF l hl), hqu2, fun u => ⟨?_, ?_⟩⟩
      · rintro ⟨l, h1, h2, h3⟩
        by_cases e : l = q'
        · rw [e, hF2q] at h3
          rw [← h3]
          exact ⟨hz, hz2', w', by omega⟩
        · rw [hF2l l (by omega)] at h3
          obtain ⟨g1, g2, g3, g4⟩ := (hset u).mp ⟨l, h1, by omega, h3⟩
          exact ⟨g1, g2, g3, by omega⟩
      · rintro ⟨h1, h2, h3, h4⟩
        by_cases e : pc g y u = i
        · exact ⟨q', hqq, by omega, by rw [hF2q, hone u h1 h2 e]⟩
        · obtain ⟨l, l1, l2, l3⟩ := (hset u).mpr ⟨h1, h2, h3, by omega⟩
          exact ⟨l, l1, by omega, by rw [hF2l l l2]; exact l3⟩
  · rintro e j b ⟨rfl, hf, q', F, rfl, hqq, hF, hqu, hset⟩ K
    refine x_countInto (xN_42 hN hf) (xI_42 hI hf) hy ⟨fun _ => hQ b q' F hf hqq hF hqu (fun u => (hset u).trans ⟨fun ⟨h1, h2, h3, _⟩ => ⟨h1, h2, h3⟩, fun ⟨h1, h2, h3⟩ => ⟨h1, h2, h3, ?_⟩⟩), fun w => absurd (nI_le (Nat.le_refl _) (by omega)) w⟩
    have := pc_lt (g := g) h1
    rw [h2] at this
    exact this
/-- level k stands from A on -/
def lvl (a : ud_St) (g : Nat → Nat) (S x k A q : Nat) (f : Nat → Nat) : Prop := qu a S q f ∧ A ≤ q ∧ (∀ u, (∃ l, A ≤ l ∧ l < q ∧ f l = u) ↔ (u < S ∧ hit g x k u)) ∧ ∀ l, l < A → ∃ j, j < k ∧ hit g x j (f l)
theorem x_countBack {a : ud_St} {g : Nat → Nat} {S x n : Nat} {Q : Int32 → ud_St → Prop} (hN : xN a g S) (hI : xI a g S) (hx : x < S) (hn : n < 2 ^ 31) (hQ : ∀ a', fr P42 a a' → Q (nI (hct g x n S)) a') : w_Paths_countBack a (nI x) (nI n) Q := by
  have hS := hN.2.1
  have hg := hN.2.2.1
  unfold w_Paths_countBack
  refine ub_putn (j := 0) (by omega) (by omega) ?_
  unfold w_Paths_countBack_j17
  have hfin : ∀ b A q f k, fr P42 a b → lvl b g S x k A q f → (k = n ∨ (k ≤ n ∧ q ≤ A)) → Q (nI q - nI A) b := by
    intro b A q f k hf ⟨h1, h2, h3, h4⟩ hk
    rw [ui_sub h2]
    have hc : q - A = hct g x n S := by
      have hp : ∀ u, (@decide (hit g x n u) (Classical.propDecidable _)) = true ↔ hit g x n u := fun u => @decide_eq_true_iff _ (Classical.propDecidable _)
      have hlev : ∀ u, (∃ l, A ≤ l ∧ l < q ∧ f l = u) ↔ (u < S ∧ hit g x n u) := by
        rcases hk with rfl | ⟨hk, hqA⟩
        · exact h3
        · intro u
          refine ⟨fun ⟨l, l1, l2, _⟩ => by omega, fun ⟨hu, hh⟩ => ?_⟩
          have : hit g x k (itr g (n - k) u) := by
            refine ⟨?_, fun j hj e => ?_⟩
            · rw [← itr_add, show k + (n - k) = n by omega]; exact hh.1
            · rw [← itr_add] at e
              exact hh.2 _ (by omega) e
          obtain ⟨l, l1, l2, _⟩ := (h3 _).mpr ⟨itr_lt hg hu _, this⟩
          omega
      refine ct_row (f := fun l => f (A + l)) (fun l hl => ?_) (fun k l hkl hl => h1.2 _ _ (by omega) (by omega)) (fun u hu hu2 => ?_)
      · have := (hlev (f (A + l))).mp ⟨A + l, by omega, by omega, rfl⟩
        exact ⟨this.1, (hp _).mpr this.2⟩
      · obtain ⟨l, l1, l2, l3⟩ := (hlev u).mpr ⟨hu, (hp u).mp hu2⟩
        exact ⟨l - A, by omega, by rw [show A + (l - A) = l by omega]; exact l3⟩
    rw [hc]
    exact hQ b hf
  refine LW4.up n (fun k A q j b => j = nI k ∧ fr P42 a b ∧ ∃ A' q' f, A = nI A' ∧ q = nI q' ∧ lvl b g S x k A' q' f) ⟨rfl, fr.rf.sv rfl, 0, 1, fun _ => x, rfl, rfl, ⟨fun l hl => ⟨hx, by rw [us_1, if_pos ⟨rfl, by omega⟩]⟩, fun k l hkl hl => by omega⟩, by omega, fun u => ⟨fun ⟨l, _, _, h⟩ => by rw [← h]; exact ⟨hx, rfl, fun j hj => by omega⟩, fun ⟨_, h, _⟩ => ⟨0, by omega, by omega, h.symm⟩⟩, fun l hl => by omega⟩ ?_ ?_
  · rintro k A q j b hk ⟨rfl, hf, A, q, f, rfl, rfl, hl⟩ K hK
    obtain ⟨h1, h2, h3, h4⟩ := id hl
    have hqS := h1.le
    refine ⟨fun w => absurd w (nI_ge hk hn), fun _ => ⟨fun w => hfin b A q f k hf hl (Or.inr ⟨by omega, (nI_leI (by omega) (by omega)).mp w⟩), fun _ => ?_⟩⟩
    unfold w_Paths_countBack_j33
    refine LW3.up (q - A) (fun p c e d => c = nI (A + p) ∧ fr P42 a d ∧ ∃ q' F, e = nI q' ∧ q ≤ q' ∧ (∀ l, l < q → F l = f l) ∧ qu d S q' F ∧ ∀ u, (∃ l, q ≤ l ∧ l < q' ∧ F l = u) ↔ (u < S ∧ u ≠ x ∧ ∃ l, A ≤ l ∧ l < A + p ∧ g u = f l)) ⟨rfl, hf, q, f, rfl, Nat.le_refl _, fun _ _ => rfl, h1, fun u => ⟨fun ⟨l, l1, l2, _⟩ => by omega, fun ⟨_, _, l, l1, l2, _⟩ => by omega⟩⟩ ?_ ?_
    · rintro p c e d hp ⟨rfl, hfd, q', F, rfl, hqq, hF, hqu, hset⟩ K2 hK2
      have hqS' := hqu.le
      have hy := (hqu.1 (A + p) (by omega)).1
      have hlv : hit g x k (f (A + p)) := ((h3 _).mp ⟨A + p, by omega, by omega, rfl⟩).2
      refine ⟨fun w => absurd w (nI_ge (by omega) (by omega)), fun _ => ub_atn (by omega) (by omega) ?_⟩
      rw [(hqu.1 (A + p) (by omega)).2]
      refine x_queueInto (xN_42 hN hfd) (xI_42 hI hfd) hy hx hqu (fun u hu hu2 hu3 => ?_) (fun d2 q2 F2 hf2 hq2 hF2 hqu2 hset2 => ?_)
      · rw [hF _ (by omega)] at hu2
        rintro ⟨l, hl1, hl2⟩
        by_cases hlq : l < q
        · rw [hF l hlq] at hl2
          have hu4 : hit g x (k + 1) u := hit_s.mpr ⟨hu3, by rw [hu2]; exact hlv⟩
          by_cases hlA : l < A
          · obtain ⟨j, hj, hj2⟩ := h4 l hlA
            rw [hl2] at hj2
            have := hit_one hu4 hj2
            omega
          · have := ((h3 u).mp ⟨l, by omega, hlq, hl2⟩).2
            have := hit_one hu4 this
            omega
        · obtain ⟨-, -, l', g1, g2, g3⟩ := (hset u).mp ⟨l, by omega, hl1, hl2⟩
          rw [hu2] at g3
          exact h1.2 l' (A + p) (by omega) (by omega) g3.symm
      · refine hK2 _ _ _ ⟨nI_1 _, hfd.tr hf2, q2, F2, rfl, by omega, fun l hl => (hF2 l (by omega)).trans (hF l hl), hqu2, fun u => ⟨?_, ?_⟩⟩
        · rintro ⟨l, l1, l2, l3⟩
          by_cases e : l < q'
          · rw [hF2 l e] at l3
            obtain ⟨g1, g2, l', g3, g4, g5⟩ := (hset u).mp ⟨l, l1, e, l3⟩
            exact ⟨g1, g2, l', g3, by omega, g5⟩
          · obtain ⟨g1, g2, g3⟩ := (hset2 u).mp ⟨l, by omega, l2, l3⟩
            exact ⟨g1, g3, A + p, by omega, by omega, by rw [g2, hF _ (by omega)]⟩
        · rintro ⟨g1, g2, l', g3, g4, g5⟩
          by_cases e : l' = A + p
          · obtain ⟨l, l1, l2, l3⟩ := (hset2 u).mpr ⟨g1, by rw [g5, hF _ (by omega), e], g2⟩
            exact ⟨l, by omega, l2, l3⟩
          · obtain ⟨l, l1, l2, l3⟩ := (hset u).mpr ⟨g1, g2, l', g3, by omega, g5⟩
            exact ⟨l, l1, by omega, by rw [hF2 l l2]; exact l3⟩
    · rintro c e d ⟨rfl, hfd, q', F, rfl, hqq, hF, hqu, hset⟩ K2
      have hqS' := hqu.le
      rw [show A + (q - A) = q by omega] at hset ⊢
      refine ⟨fun _ => hK _ _ _ _ ⟨nI_1 k, hfd, q, q', F, rfl, rfl, hqu, hqq, fun u => ?_, fun l hl => ?_⟩, fun w => absurd (nI_le (Nat.le_refl q) (by omega)) w⟩
      · rw [hset u]
        constructor
        · rintro ⟨g1, g2, l, g3, g4, g5⟩
          exact ⟨g1, hit_s.mpr ⟨g2, by rw [g5]; exact ((h3 _).mp ⟨l, g3, g4, rfl⟩).2⟩⟩
        · rintro ⟨g1, g2⟩
          obtain ⟨g3, g4⟩ := hit_s.mp g2
          obtain ⟨l, l1, l2, l3⟩ := (h3 _).mpr ⟨hg u g1, g4⟩
          exact ⟨g1, g3, l, l1, l2, l3.symm⟩
      · rw [hF l hl]
        by_cases e : l < A
        · obtain ⟨j, hj, hj2⟩ := h4 l e
          exact ⟨j, by omega, hj2⟩
        · exact ⟨k, by omega, ((h3 _).mp ⟨l, by omega, hl, rfl⟩).2⟩
  · rintro A q j b ⟨rfl, hf, A, q, f, rfl, rfl, hl⟩ K
    exact ⟨fun _ => hfin b A q f n hf hl (Or.inl rfl), fun w => absurd (nI_le (Nat.le_refl n) hn) w⟩
theorem mm_back {N : Nat} {a : ud_St} {x y : Int32} {t : TD} {Q : Int32 → ud_St → Prop} (hC : JC N a t) (h1 : ∀ k n, k < tS t → n < 201 → x = nI k → y = nI n → ∀ a', fr Psc a a' → Q (nI (hct (tg t) k n (tS t))) a') (h0 : (¬ ∃ k n, k < tS t ∧ n < 201 ∧ x = nI k ∧ y = nI n) → Q (-2) (a71 a)) : w_Model_back a x y Q := by
  obtain ⟨c1, c2, c3, -⟩ := JC_sc hC f0_sc
  have hS := tS_le c1
  unfold w_Model_back
  refine m_isNumber c3.2.2.2.1 (by omega) (fun k hk e => t1 (m_in0 201 (by omega) (by decide) (fun n hn e2 => t1 ?_) (fun h => t0 (h0 (fun ⟨_, n, _, q1, _, q2⟩ => h n q1 q2))))) (fun h => t0 (h0 (fun ⟨k, _, q1, _, q2, _⟩ => h k q1 q2)))
  have hp : 0 < tS t := by omega
  have hg := tg_lt hC.1 hp
  refine mm_lays hC hp (fun a2 hf hN hF => ?_)
  have hq := h1 k n hk hn e e2 a2 hf
  rw [e, e2]
  unfold w_Model_back_j38
  simp only [tN_2, hN.1]
  refine LW2.up (tS t) (fun m c u => c = nI (hct (tg t) k n m) ∧ u = nI m) ⟨rfl, rfl⟩ ?_ ?_
  · rintro m c u hm ⟨rfl, rfl⟩ K hK
    refine ⟨vi_2 (by omega), fun w => absurd w (nI_ge hm (by omega)), fun _ => ?_⟩
    have hy : hit (tg t) k n m → K (nI (hct (tg t) k n m) + 1) (nI m + 1) := fun h => hK _ _ ⟨by rw [hct_s, @if_pos _ (Classical.propDecidable _) h]; exact nI_1 _, nI_1 m⟩
    have hno : ¬ hit (tg t) k n m → K (nI (hct (tg t) k n m) + 0) (nI m + 1) := fun h => hK _ _ ⟨by rw [hct_s, @if_neg _ (Classical.propDecidable _) h]; exact nI_add _ 0, nI_1 m⟩
    unfold w_Model_back_j56
    refine LW2.up n (fun j z p => z = nI (itr (tg t) j m) ∧ p = nI j ∧ ∀ v, v < j → itr (tg t) v m ≠ k) ⟨rfl, rfl, fun v hv => by omega⟩ ?_ ?_
    · rintro j z p hj ⟨rfl, rfl, hv⟩ K2 hK2
      have hi := itr_lt hg hm j
      unfold w_Model_back_j83
      rw [nI_clamp (by omega), hN.2.2.2 _ hi, ← itr_s (g := tg t)]
      refine ⟨fun w => ⟨fun _ => ⟨fun w2 => ?_, fun w2 => hno (fun hh => ?_)⟩, fun w2 => absurd w w2⟩, fun w => ⟨fun w2 => absurd w2 (nI_ge hj (by omega)), fun _ => ⟨vp_in_nI (by omega) (by omega), hK2 _ _ ⟨rfl, nI_1 j, fun v hv2 => ?_⟩⟩⟩⟩
      · have := (nI_eq (by omega) (by omega)).mp w2; omega
      · exact hh.2 j hj ((nI_eq (by omega) (by omega)).mp w)
      · by_cases e : v = j
        · rw [e]; exact fun q => w (by rw [q])
        · exact hv v (by omega)
    · rintro z p ⟨rfl, rfl, hv⟩ K2
      have hi := itr_lt hg hm n
      have fin : w_Model_back_j83 a (nI k) (nI n) a2 (nI k) (nI n) (nI (hct (tg t) k n m)) (nI m) (nI (itr (tg t) n m)) (nI n) K Q := by
        unfold w_Model_back_j83
        exact ⟨fun w => ⟨fun _ => hy ⟨(nI_eq (by omega) (by omega)).mp w, hv⟩, fun w2 => absurd rfl w2⟩, fun w => hno (fun hh => w (by rw [hh.1]))⟩
      exact ⟨fun _ => fin, fun _ => ⟨fun _ => fin, fun w => absurd (nI_le (Nat.le_refl n) (by omega)) w⟩⟩
  · rintro c u ⟨rfl, rfl⟩ K
    exact ⟨vi_2 (by omega), fun _ => hq, fun w => absurd (nI_le (Nat.le_refl _) (by omega)) w⟩
theorem p42_sc : ∀ k j, P42 k j → Psc k j := fun k j h => by unfold P42 at h; unfold Psc; omega
theorem x_isBehind {a : ud_St} {x : Int32} {Q : Int32 → Prop} (h1 : ∀ k, k < 201 → x = nI k → Q 1) (h0 : (∀ k, k < 201 → x ≠ nI k) → Q 0) : w_UpAndDown_isBehind a x Q := by
  unfold w_UpAndDown_isBehind
  exact ar_gt 200 (by omega) h0 h0 h1
theorem s_back (i : Nat) : us_back (J i) (J (i + 1)) := by
  intro N a x y hJ
  obtain ⟨t, hC, hX⟩ := id hJ
  have hS := tS_le hC.1
  unfold w_UpAndDown_back
  have no : (¬ ∃ k n, k < tS t ∧ n < 201 ∧ x = nI k ∧ y = nI n) → w_Model_back a x y (fun r' a2 => (-2 : Int32) = r' ∧ J (i + 1) N a2) := fun h => mm_back hC (fun k n q1 q2 q3 q4 => absurd ⟨k, n, q1, q2, q3, q4⟩ h) (fun _ => ⟨rfl, J_sc hJ f0_sc⟩)
  refine x_isNumber hC.2.1.2.2.1 (by omega) (fun k hk e => t1 (x_isBehind (fun n hn e2 => t1 ?_) (fun h => t0 (no (fun ⟨_, n, _, q1, _, q2⟩ => h n q1 q2))))) (fun h => t0 (no (fun ⟨k, _, q1, _, q2, _⟩ => h k q1 q2)))
  subst e e2
  have hp : 0 < tS t := by omega
  refine x_known hC hX hp (fun a1 hf hR hI hC1 hX1 => x_countBack hR.1 hI hk (by omega) (fun a2 hf2 => ?_))
  have hC2 := JC_sc hC1 (hf2.mono p42_sc)
  have hX2 := JX_sc hX1 (Nat.le_refl i) (hf2.mono p42_sc)
  refine mm_back hC2 (fun k' n' q1 q2 q3 q4 a3 hf3 => ⟨?_, J_mk hC2 hX2 hf3⟩) (fun h => absurd ⟨k, n, hk, hn, rfl, rfl⟩ h)
  rw [(nI_eq (by omega) (by omega)).mp q3, (nI_eq (by omega) (by omega)).mp q4]
