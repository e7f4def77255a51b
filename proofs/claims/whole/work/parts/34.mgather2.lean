/-! the model's rounds of all numbers -/
/-- what is come to from the first t numbers -/
def Mr (g : Nat → Nat) (t z : Nat) : Prop := ∃ x, x < t ∧ ∃ k, itr g k x = z
theorem Mr_itr {g : Nat → Nat} {t z : Nat} (h : Mr g t z) (n : Nat) : Mr g t (itr g n z) := by
  obtain ⟨x, hx, k, hk⟩ := h
  exact ⟨x, hx, n + k, by rw [itr_add, hk]⟩
theorem Mr_back {g : Nat → Nat} {t z n : Nat} (hp : per g z) (h : Mr g t (itr g n z)) : Mr g t z := by
  obtain ⟨m, hm⟩ := per_back hp n
  have := Mr_itr h m
  rwa [hm] at this
theorem Mr_s {g : Nat → Nat} {t z : Nat} : Mr g (t + 1) z ↔ Mr g t z ∨ ∃ k, itr g k t = z := by
  constructor
  · rintro ⟨x, hx, k, hk⟩
    by_cases e : x = t
    · subst e; exact Or.inr ⟨k, hk⟩
    · exact Or.inl ⟨x, by omega, k, hk⟩
  · rintro (⟨x, hx, k, hk⟩ | ⟨k, hk⟩)
    · exact ⟨x, by omega, k, hk⟩
    · exact ⟨t, Nat.lt_succ_self t, k, hk⟩
/-- marks behind the first t numbers; homes and lengths of their rounds -/
def mK (a : ud_St) (g : Nat → Nat) (S t : Nat) : Prop := ∀ z, z < S → (Mr g t z → ∃ m, m < t ∧ a.1 89 z = nI m) ∧ (¬ Mr g t z → a.1 89 z = -1)
def mH (a : ud_St) (g : Nat → Nat) (S t : Nat) : Prop := ∀ z, z < S → (Mr g t z ∧ per g z → a.1 87 z = nI (hm g z) ∧ a.1 88 z = nI (ln g z)) ∧ (¬ (Mr g t z ∧ per g z) → a.1 87 z = -1 ∧ a.1 88 z = 0)
/-- the model's rounds -/
def mR (a : ud_St) (g : Nat → Nat) (S : Nat) : Prop := ∀ x, x < S → a.1 86 x = nI (tl g x) ∧ a.1 87 x = nI (hm g x) ∧ (per g x → a.1 88 x = nI (ln g x)) ∧ (¬ per g x → a.1 88 x = 0)
theorem m_gath119 {a0 a : ud_St} {g : Nat → Nat} {S : Nat} {Q : ud_St → Prop} (hN : mN a g S) (hH : mH a g S S) (hQ : ∀ a', fr Pr a a' → mR a' g S → Q a') : w_Model_gathers_j119 a0 a 0 Q := by
  obtain ⟨h2, hS, hg, h85⟩ := id hN
  have hM : ∀ z, z < S → Mr g S z := fun z hz => ⟨z, hz, 0, rfl⟩
  have e87 : ∀ z, z < S → per g z → a.1 87 z = nI (hm g z) ∧ a.1 88 z = nI (ln g z) := fun z hz hp => (hH z hz).1 ⟨hM z hz, hp⟩
  have e88 : ∀ z, z < S → ¬ per g z → a.1 88 z = 0 := fun z hz hp => ((hH z hz).2 (fun q => hp q.2)).2
  unfold w_Model_gathers_j119
  refine LW2.up S (fun t x a' => x = nI t ∧ fr Pr a a' ∧ (∀ z, z < t → a'.1 86 z = nI (tl g z) ∧ a'.1 87 z = nI (hm g z)) ∧ (∀ z, z < S → per g z → a'.1 87 z = nI (hm g z)) ∧ ∀ z, a'.1 88 z = a.1 88 z) ⟨rfl, fr.rf, fun z hz => by omega, fun z hz hp => (e87 z hz hp).1, fun z => rfl⟩ ?_ ?_
  · rintro t x a' ht ⟨rfl, hf, hd, h87, h88⟩ K hK
    obtain ⟨n2, -, -, n85⟩ := hN.fr hf
    simp only [tN_2, n2]
    refine ⟨vi_2 (by omega), fun q => absurd q (nI_ge ht (by omega)), fun _ => ?_⟩
    have hts := tl_sp hg ht
    unfold w_Model_gathers_j133
    refine LW2.up (tl g t) (fun k y n => y = nI (itr g k t) ∧ n = nI k) ⟨rfl, rfl⟩ ?_ ?_
    · rintro k y n hk ⟨rfl, rfl⟩ K2 hK2
      have hik := itr_lt hg ht k
      have hv : vp_in (nI (itr g k t)) 10000 := vp_in_nI (by omega) (by omega)
      rw [nI_clamp (by omega), h88, e88 _ hik (hts.2.1 k hk), n85 _ hik, ← itr_s (g := g), nI_1]
      exact ⟨hv, fun _ => ⟨hv, hK2 _ _ ⟨rfl, rfl⟩⟩, fun q => absurd rfl q⟩
    · rintro y n ⟨rfl, rfl⟩ K2
      have hik := itr_lt hg ht (tl g t)
      have hv : vp_in (nI (itr g (tl g t) t)) 10000 := vp_in_nI (by omega) (by omega)
      have hvt : vp_in (nI t) 10000 := vp_in_nI (by omega) (by omega)
      have hl := ln_sp hts.1
      have hll := ln_le hg hik hts.1
      rw [nI_clamp (by omega), nI_clamp (by omega), h88, (e87 _ hik hts.1).2]
      refine ⟨hv, fun q => absurd q (nI_ne0 hl.1 (by omega)), fun _ => ⟨hvt, hv, hvt, ?_⟩⟩
      rw [us_1, if_neg (by omega), h87 _ hik hts.1, hm_itr hg ht]
      refine hK _ _ ⟨nI_1 t, (hf.sv (by unfold Pr; omega)).sv (by unfold Pr; omega), fun z hz => ?_, fun z hz hp => ?_, fun z => ?_⟩
      · by_cases e : z = t
        · subst e; simp [us_1]
        · have := hd z (by omega)
          simpa [us_1, e] using this
      · by_cases e : z = t
        · subst e; simp [us_1]
        · have := h87 z hz hp
          simpa [us_1, e] using this
      · rw [us_1, if_neg (by omega), us_1, if_neg (by omega)]
        exact h88 z
  · rintro x a' ⟨rfl, hf, hd, h87, h88⟩ K
    obtain ⟨n2, -, -, n85⟩ := hN.fr hf
    simp only [tN_2, n2]
    refine ⟨vi_2 (by omega), fun _ => hQ a' hf (fun z hz => ⟨(hd z hz).1, (hd z hz).2, fun hp => (h88 z).trans (e87 z hz hp).2, fun hp => (h88 z).trans (e88 z hz hp)⟩), fun q => absurd (nI_le (Nat.le_refl S) (by omega)) q⟩
theorem m_gath34 {a0 a : ud_St} {g : Nat → Nat} {S : Nat} {Q : ud_St → Prop} (hN : mN a g S) (hK0 : mK a g S 0) (hH0 : mH a g S 0) (hQ : ∀ a', fr Pr a a' → mR a' g S → Q a') : w_Model_gathers_j34 a0 a 0 Q := by
  obtain ⟨h2, hS, hg, h85⟩ := id hN
  unfold w_Model_gathers_j34
  refine LW2.up S (fun t x a' => x = nI t ∧ fr Pr a a' ∧ mK a' g S t ∧ mH a' g S t) ⟨rfl, fr.rf, hK0, hH0⟩ ?_ ?_
  · rintro t x a' ht ⟨rfl, hf, hk, hh⟩ K hK
    obtain ⟨n2, -, -, n85⟩ := hN.fr hf
    simp only [tN_2, n2]
    have hvt : vp_in (nI t) 10000 := vp_in_nI (by omega) (by omega)
    rw [nI_clamp (by omega)]
    refine ⟨vi_2 (by omega), fun q => absurd q (nI_ge ht (by omega)), fun _ => ⟨hvt, fun q => ?_, fun q => ?_⟩⟩
    · have hnt : ¬ Mr g t t := fun z => by
        obtain ⟨m, hm1, hm2⟩ := (hk t ht).1 z
        rw [hm2] at q
        exact ui_ne1 (by omega) q
      unfold w_Model_gathers_j59
      refine LW2.up (S + 1) (fun k y b => y = nI (itr g k t) ∧ fr Pr a b ∧ (∀ j, j < k → ¬ Mr g t (itr g j t)) ∧ (∀ i j, i < j → j < k → itr g i t ≠ itr g j t) ∧ (∀ z, z < S → (Mr g t z → ∃ m, m < t ∧ b.1 89 z = nI m) ∧ (¬ Mr g t z → (∃ j, j < k ∧ itr g j t = z) → b.1 89 z = nI t) ∧ (¬ Mr g t z → ¬ (∃ j, j < k ∧ itr g j t = z) → b.1 89 z = -1)) ∧ mH b g S t) ⟨rfl, hf, fun j hj => by omega, fun i j _ hj => by omega, fun z hz => ⟨(hk z hz).1, fun _ ⟨j, hj, _⟩ => by omega, fun h _ => (hk z hz).2 h⟩, hh⟩ ?_ ?_
      · rintro k y b hkS ⟨rfl, hfb, i1, i2, i3, i4⟩ K2 hK2
        have hik := itr_lt hg ht k
        have hv : vp_in (nI (itr g k t)) 10000 := vp_in_nI (by omega) (by omega)
        obtain ⟨b2, -, -, b85⟩ := hN.fr hfb
        rw [nI_clamp (by omega)]
        refine ⟨hv, fun q2 => ⟨hv, hv, ?_⟩, fun q2 => ⟨hv, fun q3 => ⟨hv, fun q4 => ?_, fun q4 => ?_⟩, fun q3 => ?_⟩⟩
        · -- goes on
          rw [us_1, if_neg (by omega), b85 _ hik, ← itr_s (g := g)]
          have hnew : ¬ Mr g t (itr g k t) := fun z => by
            obtain ⟨m, hm1, hm2⟩ := (i3 _ hik).1 z
            rw [hm2] at q2
            exact ui_ne1 (by omega) q2
          have hdis : ∀ i, i < k → itr g i t ≠ itr g k t := fun i hi e => by
            have := (i3 _ hik).2.1 hnew ⟨i, hi, e⟩
            rw [this] at q2
            exact ui_ne1 (by omega) q2
          refine hK2 _ _ ⟨rfl, hfb.sv (by unfold Pr; omega), fun j hj => ?_, fun i j hij hj => ?_, fun z hz => ⟨fun h => ?_, fun h h2 => ?_, fun h h2 => ?_⟩, fun z hz => ?_⟩
          · by_cases e : j = k
            · rw [e]; exact hnew
            · exact i1 j (by omega)
          · by_cases e : j = k
            · subst e; exact hdis i hij
            · exact i2 i j hij (by omega)
          · have e : z ≠ itr g k t := fun e => hnew (by rw [← e]; exact h)
            rw [us_1, if_neg (fun q => e q.2)]
            exact (i3 z hz).1 h
          · rw [us_1]
            by_cases e : z = itr g k t
            · rw [if_pos ⟨rfl, e⟩]
            · rw [if_neg (fun q => e q.2)]
              obtain ⟨j, hj, hj2⟩ := h2
              have : j ≠ k := fun e2 => e (by rw [← hj2, e2])
              exact (i3 z hz).2.1 h ⟨j, by omega, hj2⟩
          · have e : z ≠ itr g k t := fun e => h2 ⟨k, Nat.lt_succ_self k, e.symm⟩
            rw [us_1, if_neg (fun q => e q.2)]
            exact (i3 z hz).2.2 h (fun ⟨j, hj, hj2⟩ => h2 ⟨j, by omega, hj2⟩)
          · rw [us_1, if_neg (by omega), us_1, if_neg (by omega)]
            exact i4 z hz
        · -- a new round
          have hnew : ¬ Mr g t (itr g k t) := fun z => by
            obtain ⟨m, hm1, hm2⟩ := (i3 _ hik).1 z
            rw [hm2] at q3
            have := (nI_eq (by omega) (by omega)).mp q3
            omega
          have hin : ∃ j, j < k ∧ itr g j t = itr g k t := Classical.byContradiction fun h => q2 ((i3 _ hik).2.2 hnew h)
          obtain ⟨j, hj, hj2⟩ := hin
          have hper : per g (itr g k t) := ⟨k - j, by omega, by
            conv => lhs; rw [← hj2]
            rw [← itr_add, Nat.sub_add_cancel (by omega)]⟩
          have hall : ∀ n, k ≤ n → ∃ i, j ≤ i ∧ i < k ∧ itr g i t = itr g n t := by
            intro n
            induction n using Nat.strongRecOn with
            | ind n ih =>
              intro hn
              by_cases e : n = k
              · exact ⟨j, Nat.le_refl _, hj, by rw [e]; exact hj2⟩
              · have e2 : itr g (n - (k - j)) t = itr g n t := by
                  have e3 : n = (n - k) + k := by omega
                  have e4 : n - (k - j) = (n - k) + j := by omega
                  rw [e4, itr_add, hj2, ← itr_add, ← e3]
                by_cases e5 : n - (k - j) < k
                · exact ⟨n - (k - j), by omega, e5, e2⟩
                · obtain ⟨i, z1, z2, z3⟩ := ih (n - (k - j)) (by omega) (by omega)
                  exact ⟨i, z1, z2, z3.trans e2⟩
          have hM2 : ∀ z, Mr g (t + 1) z ↔ Mr g t z ∨ ∃ i, i < k ∧ itr g i t = z := fun z => by
            rw [Mr_s]
            refine or_congr Iff.rfl ⟨fun ⟨n, hn⟩ => ?_, fun ⟨i, _, hi⟩ => ⟨i, hi⟩⟩
            by_cases e : n < k
            · exact ⟨n, e, hn⟩
            · obtain ⟨i, _, z2, z3⟩ := hall n (by omega)
              exact ⟨i, z2, z3.trans hn⟩
          refine m_laysRound (hN.fr hfb) hik hper (fun b' hfr hset => ?_)
          refine hK _ _ ⟨nI_1 t, hfb.tr (hfr.mono po_r'), fun z hz => ?_, fun z hz => ?_⟩
          · have e : b'.1 89 z = b.1 89 z := hfr.1 89 z (by unfold Po; omega)
            rw [e]
            refine ⟨fun h => ?_, fun h => (i3 z hz).2.2 (fun q => h ((hM2 z).mpr (Or.inl q))) (fun q => h ((hM2 z).mpr (Or.inr q)))⟩
            by_cases hz1 : Mr g t z
            · obtain ⟨m, g1, g2⟩ := (i3 z hz).1 hz1
              exact ⟨m, by omega, g2⟩
            · rcases (hM2 z).mp h with q | q
              · exact absurd q hz1
              · exact ⟨t, Nat.lt_succ_self t, (i3 z hz).2.1 hz1 q⟩
          · by_cases hr : ∃ i, itr g i (itr g k t) = z
            · obtain ⟨i, hi⟩ := hr
              have hpz : per g z := by rw [← hi]; exact per_itr hper i
              have hMz : Mr g (t + 1) z := Mr_s.mpr (Or.inr ⟨i + k, by rw [itr_add, hi]⟩)
              refine ⟨fun _ => ?_, fun h => absurd ⟨hMz, hpz⟩ h⟩
              have := hset i
              rw [hi] at this
              rw [this.1, this.2, ← hi, hm_itr hg hik, ln_itr hper]
              exact ⟨rfl, rfl⟩
            · have e7 : b'.1 87 z = b.1 87 z := hfr.1 87 z (fun q => hr q.2)
              have e8 : b'.1 88 z = b.1 88 z := hfr.1 88 z (fun q => hr q.2)
              rw [e7, e8]
              have hiff : Mr g (t + 1) z ∧ per g z ↔ Mr g t z ∧ per g z := by
                refine ⟨fun ⟨z1, z2⟩ => ⟨?_, z2⟩, fun ⟨z1, z2⟩ => ⟨Mr_s.mpr (Or.inl z1), z2⟩⟩
                rcases (hM2 z).mp z1 with q | ⟨i, hi, hi2⟩
                · exact q
                · exfalso
                  obtain ⟨m, hm'⟩ := per_back z2 (k - i)
                  refine hr ⟨m, ?_⟩
                  have e9 : itr g (k - i) z = itr g k t := by rw [← hi2, ← itr_add, Nat.sub_add_cancel (by omega)]
                  rw [← e9]
                  exact hm'
              rw [hiff]
              exact i4 z hz
        · exfalso
          have hnew : ¬ Mr g t (itr g k t) := fun z => by
            obtain ⟨m, hm1, hm2⟩ := (i3 _ hik).1 z
            rw [hm2] at q3
            have := (nI_eq (by omega) (by omega)).mp q3
            omega
          exact q4 ((i4 _ hik).2 (fun z => hnew z.1)).1
        · -- comes to an old way
          have hold : Mr g t (itr g k t) := Classical.byContradiction fun h => by
            by_cases hin : ∃ j, j < k ∧ itr g j t = itr g k t
            · exact q3 ((i3 _ hik).2.1 h hin)
            · exact q2 ((i3 _ hik).2.2 h hin)
          have hM2 : ∀ z, Mr g (t + 1) z ↔ Mr g t z ∨ ∃ i, i < k ∧ itr g i t = z := fun z => by
            rw [Mr_s]
            refine ⟨fun h => ?_, fun h => h.imp_right (fun ⟨i, _, hi⟩ => ⟨i, hi⟩)⟩
            rcases h with h | ⟨n, hn⟩
            · exact Or.inl h
            · by_cases e : n < k
              · exact Or.inr ⟨n, e, hn⟩
              · refine Or.inl ?_
                have := Mr_itr hold (n - k)
                rwa [← itr_add, Nat.sub_add_cancel (by omega), hn] at this
          refine hK _ _ ⟨nI_1 t, hfb, fun z hz => ⟨fun h => ?_, fun h => (i3 z hz).2.2 (fun q => h ((hM2 z).mpr (Or.inl q))) (fun q => h ((hM2 z).mpr (Or.inr q)))⟩, fun z hz => ?_⟩
          · by_cases hz1 : Mr g t z
            · obtain ⟨m, g1, g2⟩ := (i3 z hz).1 hz1
              exact ⟨m, by omega, g2⟩
            · rcases (hM2 z).mp h with q | q
              · exact absurd q hz1
              · exact ⟨t, Nat.lt_succ_self t, (i3 z hz).2.1 hz1 q⟩
          · have hiff : Mr g (t + 1) z ∧ per g z ↔ Mr g t z ∧ per g z := by
              refine ⟨fun ⟨z1, z2⟩ => ⟨?_, z2⟩, fun ⟨z1, z2⟩ => ⟨Mr_s.mpr (Or.inl z1), z2⟩⟩
              rcases (hM2 z).mp z1 with q | ⟨i, hi, hi2⟩
              · exact q
              · refine Mr_back (n := k - i) z2 ?_
                rw [← hi2, ← itr_add, Nat.sub_add_cancel (by omega)]
                exact hold
            rw [hiff]
            exact i4 z hz
      · rintro y b ⟨-, -, -, i2, -⟩
        have := fb_holes S (S + 1) (fun k => itr g k t) (fun k _ => itr_lt hg ht k) i2
        omega
    · have hold : Mr g t t := Classical.byContradiction fun h => q ((hk t ht).2 h)
      have hM2 : ∀ z, Mr g (t + 1) z ↔ Mr g t z := fun z => by
        rw [Mr_s]
        refine ⟨fun h => ?_, Or.inl⟩
        rcases h with h | ⟨n, hn⟩
        · exact h
        · rw [← hn]; exact Mr_itr hold n
      refine hK _ _ ⟨nI_1 t, hf, fun z hz => ?_, fun z hz => ?_⟩
      · rw [hM2]
        refine ⟨fun h => ?_, (hk z hz).2⟩
        obtain ⟨m, g1, g2⟩ := (hk z hz).1 h
        exact ⟨m, by omega, g2⟩
      · rw [hM2]; exact hh z hz
  · rintro x a' ⟨rfl, hf, hk, hh⟩ K
    obtain ⟨n2, -, -, n85⟩ := hN.fr hf
    simp only [tN_2, n2]
    exact ⟨vi_2 (by omega), fun _ => m_gath119 (hN.fr hf) hh (fun b hb hr => hQ b (hf.tr hb) hr), fun q => absurd (nI_le (Nat.le_refl S) (by omega)) q⟩
theorem m_goesAll {a : ud_St} {g : Nat → Nat} {S : Nat} {Q : ud_St → Prop} (hN : mN a g S) (hQ : ∀ a', fr Pr a a' → mN a' g S → mR a' g S → Q a') : w_Model_goesAll a Q := by
  obtain ⟨h2, hS, hg, h85⟩ := id hN
  unfold w_Model_goesAll
  refine LW2.up S (fun t x a' => x = nI t ∧ fr Pr a a' ∧ ∀ z, z < t → a'.1 88 z = 0) ⟨rfl, fr.rf, fun z hz => by omega⟩ ?_ ?_
  · rintro t x a' ht ⟨rfl, hf, hd⟩ K hK
    obtain ⟨n2, -, -, n85⟩ := hN.fr hf
    simp only [tN_2, n2]
    rw [nI_clamp (by omega)]
    refine ⟨vi_2 (by omega), fun q => absurd q (nI_ge ht (by omega)), fun _ => ⟨vp_in_nI (by omega) (by omega), hK _ _ ⟨nI_1 t, hf.sv (by unfold Pr; omega), fun z hz => ?_⟩⟩⟩
    rw [us_1]
    by_cases e : z = t
    · rw [if_pos ⟨rfl, e⟩]
    · rw [if_neg (fun q => e q.2)]; exact hd z (by omega)
  · rintro x a' ⟨rfl, hf, hd⟩ K
    obtain ⟨n2, -, -, n85⟩ := hN.fr hf
    simp only [tN_2, n2]
    refine ⟨vi_2 (by omega), fun _ => ?_, fun q => absurd (nI_le (Nat.le_refl S) (by omega)) q⟩
    unfold w_Model_gathers w_Model_gathers_j2
    refine LW2.up S (fun t x a2 => x = nI t ∧ fr Pr a a2 ∧ (∀ z, z < S → a2.1 88 z = 0) ∧ ∀ z, z < t → a2.1 89 z = -1 ∧ a2.1 87 z = -1) ⟨rfl, hf, hd, fun z hz => by omega⟩ ?_ ?_
    · rintro t x a2 ht ⟨rfl, hf2, hd2, hd3⟩ K2 hK2
      obtain ⟨n2, -, -, n85⟩ := hN.fr hf2
      simp only [tN_2, n2]
      rw [nI_clamp (by omega)]
      refine ⟨vi_2 (by omega), fun q => absurd q (nI_ge ht (by omega)), fun _ => ⟨vp_in_nI (by omega) (by omega), vp_in_nI (by omega) (by omega), hK2 _ _ ⟨nI_1 t, (hf2.sv (by unfold Pr; omega)).sv (by unfold Pr; omega), fun z hz => ?_, fun z hz => ?_⟩⟩⟩
      · rw [us_1, if_neg (by omega), us_1, if_neg (by omega)]; exact hd2 z hz
      · by_cases e : z = t
        · subst e; simp [us_1]
        · have := hd3 z (by omega)
          simpa [us_1, e] using this
    · rintro x a2 ⟨rfl, hf2, hd2, hd3⟩ K2
      obtain ⟨n2, -, -, n85⟩ := hN.fr hf2
      simp only [tN_2, n2]
      have hM0 : ∀ z, ¬ Mr g 0 z := fun z ⟨x, hx, _⟩ => by omega
      exact ⟨vi_2 (by omega), fun _ => m_gath34 (hN.fr hf2) (fun z hz => ⟨fun q => absurd q (hM0 z), fun _ => (hd3 z hz).1⟩) (fun z hz => ⟨fun q => absurd q.1 (hM0 z), fun _ => ⟨(hd3 z hz).2, hd2 z hz⟩⟩) (fun b hb hr => hQ b (hf2.tr hb) (hN.fr (hf2.tr hb)) hr), fun q => absurd (nI_le (Nat.le_refl S) (by omega)) q⟩
