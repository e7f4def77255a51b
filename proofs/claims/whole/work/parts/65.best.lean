/-! best -/
theorem ar_1 {x : Int32} {A B C : Prop} (m : Nat) (hn : m < 2 ^ 31) (hA : (∀ k, 1 ≤ k → k ≤ m → x ≠ nI k) → A) (hB : (∀ k, 1 ≤ k → k ≤ m → x ≠ nI k) → B) (hC : ∀ k, 1 ≤ k → k ≤ m → x = nI k → C) : (x < 1 → A) ∧ (¬ x < 1 → ((nI m < x → B) ∧ (¬ nI m < x → C))) := by
  have l1 : (1 : Int32).toInt = 1 := by decide
  refine ⟨fun q => hA (fun k h1 hk e => ?_), fun q => ?_⟩
  · have := Int32.lt_iff_toInt_lt.mp q
    rw [e, nI_toInt (by omega), l1] at this
    omega
  · have q1 : 1 ≤ x.toInt := by
      rcases Int.lt_or_le x.toInt 1 with w | w
      · exact absurd (Int32.lt_iff_toInt_lt.mpr (by rw [l1]; exact w)) q
      · exact w
    obtain ⟨k, hk, rfl⟩ := iz_toInt (x := x) (by omega)
    rw [nI_toInt hk] at q1
    refine ⟨fun z => hB (fun j _ hj e => ?_), fun z => hC k (by omega) ?_ rfl⟩
    · have := (nI_eq hk (by omega)).mp e
      have := (nI_ltI hn hk).mp z
      omega
    · rcases Nat.lt_or_ge m k with w | w
      · exact absurd (nI_lt w hk) z
      · exact w
theorem mx_at {f : Nat → Nat} : ∀ {n : Nat}, 0 < n → ∃ u, u < n ∧ f u = mx (fun _ => true) f n := by
  intro n
  induction n with
  | zero => intro h; omega
  | succ n ih =>
    intro _
    rw [mx_y (p := fun _ => true) rfl]
    rcases Nat.eq_zero_or_pos n with w | w
    · subst w
      exact ⟨0, by omega, by show f 0 = max 0 (f 0); omega⟩
    · obtain ⟨u, hu, e⟩ := ih w
      rcases Nat.le_total (mx (fun _ => true) f n) (f n) with q | q
      · exact ⟨n, by omega, by rw [Nat.max_eq_right q]⟩
      · exact ⟨u, by omega, by rw [Nat.max_eq_left q, e]⟩
theorem bV_0 {g : Nat → Nat} {S z : Nat} (h : bH g S z) : bV g S 0 (ln g z) := ⟨fun _ => ⟨⟨z, h.1, h.2.1, rfl⟩, h.2.2.1⟩, fun e => absurd e (by decide), fun e => absurd e (by decide)⟩
theorem bV_1 {g : Nat → Nat} {S : Nat} : bV g S 1 (rk g S) := ⟨fun e => absurd e (by decide), fun _ => rfl, fun e => absurd e (by decide)⟩
theorem bV_2 {g : Nat → Nat} {S m : Nat} (h1 : ∀ z, z < S → tl g z ≤ m) (h2 : ∃ z, z < S ∧ tl g z = m) : bV g S 2 m := ⟨fun e => absurd e (by decide), fun e => absurd e (by decide), fun _ => ⟨h2, h1⟩⟩
theorem bV_one {g : Nat → Nat} {S w v v2 : Nat} (hw : w < 3) (h : bV g S w v) (h2 : bV g S w v2) : v = v2 := by
  rcases (show w = 0 ∨ w = 1 ∨ w = 2 by omega) with rfl | rfl | rfl
  · obtain ⟨⟨z, q1, q2, q3⟩, q4⟩ := h.1 rfl
    obtain ⟨⟨z2, w1, w2, w3⟩, w4⟩ := h2.1 rfl
    have := q4 z2 w1 w2
    have := w4 z q1 q2
    omega
  · rw [h.2.1 rfl, h2.2.1 rfl]
  · obtain ⟨⟨z, q1, q3⟩, q4⟩ := h.2.2 rfl
    obtain ⟨⟨z2, w1, w3⟩, w4⟩ := h2.2.2 rfl
    have := q4 z2 w1
    have := w4 z q1
    omega
theorem bB_one {b n m w r r2 : Nat} (hw : w < 3) (h : bB b n m w r) (h2 : bB b n m w r2) : r = r2 := by
  obtain ⟨V, q1, q2, q3, q4⟩ := h
  obtain ⟨V2, w1, w2, w3, w4⟩ := h2
  have e : ∀ q, q < 12 ^ m → V q = V2 q := fun q hq => bV_one hw (q1 q hq) (w1 q hq)
  have a1 := e r q2
  have a2 := e r2 w2
  rcases Nat.lt_trichotomy r r2 with z | z | z
  · have := w4 r z
    have := q3 r2 w2
    omega
  · exact z
  · have := q4 r2 z
    have := w3 r q2
    omega
noncomputable def bW (b n m w q : Nat) : Nat := @Classical.epsilon Nat ⟨0⟩ (fun v => bV (rg b n m q) (b ^ n) w v)
theorem bW_sp {b n m w q v : Nat} (h : bV (rg b n m q) (b ^ n) w v) : bV (rg b n m q) (b ^ n) w (bW b n m w q) := @Classical.epsilon_spec_aux Nat ⟨0⟩ _ ⟨v, h⟩
theorem bW_eq {b n m w q v : Nat} (hw : w < 3) (h : bV (rg b n m q) (b ^ n) w v) : bW b n m w q = v := bV_one hw (bW_sp h) h
/-- the first best of the first k -/
def stp (b n m w k : Nat) (T : Nat → Int32) (rec win : Int32) : Prop := (∀ q, q < k → bV (rg b n m q) (b ^ n) w (bW b n m w q) ∧ bW b n m w q ≤ 10000) ∧ ((k = 0 ∧ rec = -1) ∨ ∃ r, r < k ∧ (∀ q, q < k → bW b n m w q ≤ bW b n m w r) ∧ (∀ q, q < r → bW b n m w q < bW b n m w r) ∧ rec = nI (bW b n m w r) ∧ win = T r)
theorem stp_s {b n m w k v : Nat} {T : Nat → Int32} {rec win : Int32} (hw : w < 3) (h : stp b n m w k T rec win) (hv : bV (rg b n m k) (b ^ n) w v) (hv2 : v ≤ 10000) {A B : Prop} (hA : stp b n m w (k + 1) T rec win → A) (hB : stp b n m w (k + 1) T (nI v) (T k) → B) : (nI v ≤ rec → A) ∧ (¬ nI v ≤ rec → B) := by
  have e := bW_eq hw hv
  obtain ⟨h1, h2⟩ := h
  have h1' : ∀ q, q < k + 1 → bV (rg b n m q) (b ^ n) w (bW b n m w q) ∧ bW b n m w q ≤ 10000 := fun q hq => by
    by_cases eq : q = k
    · rw [eq, e]; exact ⟨hv, hv2⟩
    · exact h1 q (by omega)
  rcases h2 with ⟨k0, hr⟩ | ⟨r, r1, r2, r3, r4, r5⟩
  · subst k0
    refine ⟨fun z => ?_, fun _ => hB ⟨h1', Or.inr ⟨0, by omega, fun q hq => by rw [show q = 0 by omega]; exact Nat.le_refl _, fun q hq => by omega, by rw [e], rfl⟩⟩⟩
    rw [hr] at z
    have z' := Int32.le_iff_toInt_le.mp z
    rw [nI_toInt (by omega)] at z'
    have : (-1 : Int32).toInt = -1 := by decide
    omega
  · have hb := (h1 r r1).2
    rw [r4]
    refine ⟨fun z => hA ⟨h1', Or.inr ⟨r, by omega, fun q hq => ?_, r3, r4, r5⟩⟩, fun z => hB ⟨h1', Or.inr ⟨k, by omega, fun q hq => ?_, fun q hq => ?_, by rw [e], rfl⟩⟩⟩
    · have := (nI_leI (by omega) (by omega)).mp z
      by_cases eq : q = k
      · rw [eq, e]; exact this
      · exact r2 q (by omega)
    · have := (ui_ltn (by omega) (by omega)).mp z
      by_cases eq : q = k
      · rw [eq]; exact Nat.le_refl _
      · have := r2 q (by omega)
        rw [e]; omega
    · have := (ui_ltn (by omega) (by omega)).mp z
      have := r2 q hq
      rw [e]; omega
theorem stp_end {b n m w : Nat} {T : Nat → Int32} {rec win : Int32} (h : stp b n m w (12 ^ m) T rec win) : ∃ r, bB b n m w r ∧ win = T r := by
  obtain ⟨h1, h2⟩ := h
  rcases h2 with ⟨k0, hr⟩ | ⟨r, r1, r2, r3, r4, r5⟩
  · have : 0 < 12 ^ m := Nat.pow_pos (by omega)
    omega
  · exact ⟨r, ⟨bW b n m w, fun q hq => (h1 q hq).1, r1, r2, r3⟩, r5⟩
theorem stp_0 {b n m w : Nat} {T : Nat → Int32} {win : Int32} : stp b n m w 0 T (-1) win := ⟨fun q hq => by omega, Or.inl ⟨rfl, rfl⟩⟩
/-! the model -/
theorem m_mostTail {a : ud_St} {g : Nat → Nat} {S : Nat} {Q : Int32 → Prop} (hN : mN a g S) (hR : mR a g S) (hQ : Q (nI (mx (fun _ => true) (tl g) S))) : w_Model_mostTail a Q := by
  obtain ⟨h78, hS, hg, -⟩ := id hN
  unfold w_Model_mostTail
  simp only [tN_2, h78]
  refine LW2.up S (fun n c x => c = nI (mx (fun _ => true) (tl g) n) ∧ x = nI n) ⟨rfl, rfl⟩ ?_ ?_
  · rintro n c x hn ⟨rfl, rfl⟩ K hK
    have htn := (tl_sp hg hn).2.2
    have hmx : mx (fun _ => true) (tl g) n ≤ S := mx_le (fun u hu _ => Nat.le_of_lt (tl_sp hg (by omega)).2.2)
    rw [nI_clamp (by omega), (hR n hn).1]
    have hv : vp_in (nI n) 10000 := vp_in_nI (by omega) (by omega)
    refine ⟨vi_2 (by omega), fun z => absurd z (nI_ge hn (by omega)), fun _ => ⟨hv, fun z => hK _ _ ⟨?_, nI_1 n⟩, fun z => ⟨hv, hK _ _ ⟨?_, nI_1 n⟩⟩⟩⟩
    · have z' := (nI_leI (by omega) (by omega)).mp z
      rw [mx_y (p := fun _ => true) rfl, Nat.max_eq_left z']
    · have z' := (ui_ltn (by omega) (by omega)).mp z
      rw [mx_y (p := fun _ => true) rfl, Nat.max_eq_right (by omega)]
  · rintro c x ⟨rfl, rfl⟩ K
    exact ⟨vi_2 (by omega), fun _ => hQ, fun z => absurd (nI_le (Nat.le_refl _) (by omega)) z⟩
theorem mm_best {N : Nat} {a : ud_St} {x y : Int32} {t : TD} {Q : Int32 → ud_St → Prop} (hC : JC N a t) (h1 : ∀ m w r, 1 ≤ m → m ≤ 2 → w < 3 → 0 < tS t → x = nI m → y = nI w → bB (t 0 0) (t 0 1) m w r → ∀ a', fr Psc a a' → Q (nI (bT m r)) a') (h0 : (¬ ∃ m w, 1 ≤ m ∧ m ≤ 2 ∧ w < 3 ∧ 0 < tS t ∧ x = nI m ∧ y = nI w) → Q (-2) (a71 a)) : w_Model_best a x y Q := by
  obtain ⟨c1, c2, c3, -⟩ := JC_sc hC f0_sc
  have hS := tS_le c1
  unfold w_Model_best
  refine m_isTable c1 c3 (fun hp => t1 (m_in1 2 (by omega) (by decide) (fun m hm1 hm2 e => t1 (m_in0 3 (by omega) (by decide) (fun w hw e2 => t1 ?_) (fun h => t0 (h0 (fun ⟨_, w, _, _, q1, _, _, q2⟩ => h w q1 q2))))) (fun h => t0 (h0 (fun ⟨m, _, q1, q2, _, _, q3, _⟩ => h m q1 q2 q3))))) (fun hp => t0 (h0 (fun ⟨_, _, _, _, _, q, _⟩ => by omega)))
  have hq := fun r => h1 m w r hm1 hm2 hw hp e e2
  have eS := tS_eq hp
  have hF0 := mF_of c1 c3 hp
  obtain ⟨_, _, _, b1, b2, hn1, hn2, hS2⟩ := id hF0
  have h12 : 12 ^ m ≤ 1728 := p12 (by omega)
  have hp12 : 0 < 12 ^ m := Nat.pow_pos (by omega)
  have main : w_Model_best_j62 a x y (a71 a) (nI m) (nI w) (-1) (-1) (nI (12 ^ m)) 0 Q := by
    unfold w_Model_best_j62
    refine LW4.up (12 ^ m) (fun k win rec x b => x = nI k ∧ fr Psc a b ∧ stp (t 0 0) (t 0 1) m w k nI rec win) ⟨rfl, f0_sc, stp_0⟩ ?_ ?_
    · rintro k win rec x' b hk ⟨rfl, hf, hst⟩ K hK
      refine ⟨fun z => absurd z (nI_ge hk (by omega)), fun _ => ?_⟩
      have hg : ∀ x, x < t 0 0 ^ t 0 1 → rg (t 0 0) (t 0 1) m k x < t 0 0 ^ t 0 1 := fun x hx => gx_lt b1 hn1 hx
      unfold w_Model_best_j72
      refine LW2.up (t 0 0 ^ t 0 1) (fun u x c => x = nI u ∧ fr Psc a c ∧ ∀ z, z < u → c.1 85 z = nI (rg (t 0 0) (t 0 1) m k z)) ⟨rfl, hf, fun z hz => by omega⟩ ?_ ?_
      · rintro u x c hu ⟨rfl, hfc, h85⟩ K2 hK2
        have hFc := mF_of (JC_sc hC hfc).1 (JC_sc hC hfc).2.2.1 hp
        simp only [tN_2, hFc.2.2.1]
        refine ⟨vi_2 (by omega), fun z => absurd z (nI_ge hu (by omega)), fun _ => m_rowed hFc hu (by omega) hk (fun d hfd => ⟨vp_in_nI (by omega) (by omega), hK2 _ _ ⟨nI_1 u, (hfc.tr (hfd.mono pg_sc)).sv (by unfold Psc; omega), fun z hz => ?_⟩⟩)⟩
        rw [nI_clamp (by omega), us_1]
        by_cases ez : z = u
        · rw [if_pos ⟨rfl, ez⟩, ez]
        · rw [if_neg (fun w => ez w.2), hfd.1 85 z (by unfold Pg; omega)]
          exact h85 z (by omega)
      · rintro x c ⟨rfl, hfc, h85⟩ K2
        have hFc := mF_of (JC_sc hC hfc).1 (JC_sc hC hfc).2.2.1 hp
        simp only [tN_2, hFc.2.2.1]
        refine ⟨vi_2 (by omega), fun _ => ?_, fun z => absurd (nI_le (Nat.le_refl _) (by omega)) z⟩
        refine m_goesAll (g := rg (t 0 0) (t 0 1) m k) (S := t 0 0 ^ t 0 1) ⟨hFc.2.2.1, hS2, hg, h85⟩ (fun d hfd hNd hRd => ?_)
        have hfa : fr Psc a d := hfc.tr (hfd.mono pr_sc)
        have fin : ∀ v, bV (rg (t 0 0) (t 0 1) m k) (t 0 0 ^ t 0 1) w v → v ≤ 10000 → w_Model_best_j141 a x y d (nI m) (nI w) win rec (nI (12 ^ m)) (nI k) (nI v) K Q := fun v hv hv2 => by
          have := stp_s hw hst hv hv2 (A := K win rec (nI k + 1) d) (B := K (nI k) (nI v) (nI k + 1) d) (fun h => hK _ _ _ _ ⟨nI_1 k, hfa, h⟩) (fun h => hK _ _ _ _ ⟨nI_1 k, hfa, h⟩)
          unfold w_Model_best_j141
          exact ⟨fun z => this.2 (Int32.not_le.mpr z), fun z => this.1 (Int32.not_lt.mp z)⟩
        rcases (show w = 0 ∨ w = 1 ∨ w = 2 by omega) with e0 | e0 | e0
        · subst e0
          refine ⟨fun _ => m_longest hNd hRd (by omega) (fun z hz => ⟨vp_in_nI (by have := hz.1; omega) (by omega), ?_⟩), fun q => absurd rfl q⟩
          have hz1 := hz.1
          have hper := hb_per hg hz1 hz.2.1
          rw [nI_clamp (by omega), (hRd z hz1).2.2.1 hper]
          exact fin _ (bV_0 hz) (by have := ln_le hg hz1 hper; omega)
        · subst e0
          exact ⟨fun q => absurd q (by decide), fun _ => ⟨fun _ => m_manyRounds hNd hRd (fin _ bV_1 (by have := fb_ct_le (hb (rg (t 0 0) (t 0 1) m k)) (t 0 0 ^ t 0 1); unfold rk; omega)), fun q => absurd rfl q⟩⟩
        · subst e0
          refine ⟨fun q => absurd q (by decide), fun _ => ⟨fun q => absurd q (by decide), fun _ => m_mostTail hNd hRd (fin _ (bV_2 (fun z hz => mx_ge hz rfl) (mx_at (by omega))) ?_)⟩⟩
          have := mx_le (p := fun _ => true) (f := tl (rg (t 0 0) (t 0 1) m k)) (m := t 0 0 ^ t 0 1) (n := t 0 0 ^ t 0 1) (fun u hu _ => Nat.le_of_lt (tl_sp hg hu).2.2)
          omega
    · rintro win rec x' b ⟨rfl, hf, hst⟩ K
      obtain ⟨r, hr, rfl⟩ := stp_end hst
      have hr12 : r < 12 ^ m := by obtain ⟨V, -, q, -⟩ := hr; exact q
      have fin := hq r hr b hf
      refine ⟨fun _ => ⟨fun z => ?_, fun z => ?_⟩, fun z => absurd (nI_le (Nat.le_refl _) (by omega)) z⟩
      · have em := (nI_eq (b := 1) (by omega) (by omega)).mp z
        unfold bT at fin
        rw [if_pos em] at fin
        exact fin
      · unfold bT at fin
        rw [if_neg (fun em => z (by rw [em]; rfl))] at fin
        rw [show nI r / 12 = nI (r / 12) from ui_div (b := 12) (by omega) (by omega), show nI r % 12 = nI (r % 12) from ui_mod (b := 12) (by omega) (by omega), show (100 : Int32) * nI (r / 12) = nI (100 * (r / 12)) from ui_mul 100 _, nI_add]
        exact fin
  have pre : ∀ y', w_Model_best_j62 a x y' (a71 a) x y' (-1) (-1) (nI (12 ^ m)) 0 Q = w_Model_best_j62 a x y' (a71 a) (nI m) y' (-1) (-1) (nI (12 ^ m)) 0 Q := fun y' => by rw [← e]
  refine ⟨fun z => ?_, fun z => ?_⟩
  · have em : m = 1 := by rw [e] at z; exact (nI_eq (b := 1) (by omega) (by omega)).mp z
    subst em
    rw [← e2] at main
    exact (pre y).mpr main
  · have em : m = 2 := by
      have : ¬ m = 1 := fun q => z (by rw [e, q]; rfl)
      omega
    subst em
    rw [← e2] at main
    exact (pre y).mpr main
