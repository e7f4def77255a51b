/-! meet, join -/
theorem meet_first {g : Nat → Nat} {S x y n : Nat} (hg : ∀ x, x < S → g x < S) (hx : x < S) (hy : y < S) (h : itr g n x = itr g n y) : itr g (max (tl g x) (tl g y)) x = itr g (max (tl g x) (tl g y)) y := by
  obtain ⟨M, hM⟩ : ∃ M, M = max (tl g x) (tl g y) := ⟨_, rfl⟩
  rw [← hM]
  rcases Nat.lt_or_ge n M with w | w
  · have e : M = (M - n) + n := by omega
    rw [e, itr_add, itr_add, h]
  · have p1 : per g (itr g M x) := (tl_ge hg hx).mp (by omega)
    have p2 : per g (itr g M y) := (tl_ge hg hy).mp (by omega)
    refine itr_inj2 p1 p2 (n - M) ?_
    rw [← itr_add, ← itr_add, Nat.sub_add_cancel w]
    exact h
theorem mm_meet {N : Nat} {a : ud_St} {x y : Int32} {t : TD} {Q : Int32 → ud_St → Prop} (hC : JC N a t) (h1 : ∀ k l, k < tS t → l < tS t → x = nI k → y = nI l → ∀ a', fr Psc a a' → (∀ n, n ≤ tS t → itr (tg t) n k = itr (tg t) n l → (∀ m, m < n → itr (tg t) m k ≠ itr (tg t) m l) → Q (nI n) a') ∧ ((∀ n, n ≤ tS t → itr (tg t) n k ≠ itr (tg t) n l) → Q (-1) a')) (h0 : (¬ ∃ k l, k < tS t ∧ l < tS t ∧ x = nI k ∧ y = nI l) → Q (-2) (a71 a)) : w_Model_meet a x y Q := by
  obtain ⟨c1, c2, c3, -⟩ := JC_sc hC f0_sc
  have hS := tS_le c1
  unfold w_Model_meet
  refine m_isNumber c3.2.2.2.1 (by omega) (fun k hk e => t1 (m_isNumber c3.2.2.2.1 (by omega) (fun l hl e2 => t1 ?_) (fun h => t0 (h0 (fun ⟨_, l, _, q1, _, q2⟩ => h l q1 q2))))) (fun h => t0 (h0 (fun ⟨k, _, q1, _, q2, _⟩ => h k q1 q2)))
  have hp : 0 < tS t := by omega
  have hg := tg_lt hC.1 hp
  refine mm_lays hC hp (fun a2 hf hN hF => ?_)
  obtain ⟨q1, q2⟩ := h1 k l hk hl e e2 a2 hf
  rw [e, e2]
  simp only [tN_2, hN.1]
  refine LW3.up (tS t + 1) (fun n u v c => u = nI (itr (tg t) n k) ∧ v = nI (itr (tg t) n l) ∧ c = nI n ∧ ∀ m, m < n → itr (tg t) m k ≠ itr (tg t) m l) ⟨rfl, rfl, rfl, fun m hm => by omega⟩ ?_ ?_
  · rintro n u v c hn ⟨rfl, rfl, rfl, hm⟩ K hK
    have i1 := itr_lt hg hk n
    have i2 := itr_lt hg hl n
    rw [nI_clamp (by omega), nI_clamp (by omega), hN.2.2.2 _ i1, hN.2.2.2 _ i2, ← itr_s (g := tg t), ← itr_s (g := tg t)]
    refine ⟨vi_2 (by omega), fun w => absurd ((nI_ltI (by omega) (by omega)).mp w) (by omega), fun _ => ⟨fun w => q1 n (by omega) ((nI_eq (by omega) (by omega)).mp w) hm, fun w => ⟨vp_in_nI (by omega) (by omega), vp_in_nI (by omega) (by omega), hK _ _ _ ⟨rfl, rfl, nI_1 n, fun m hm2 => ?_⟩⟩⟩⟩
    by_cases e : m = n
    · rw [e]; exact fun q => w (by rw [q])
    · exact hm m (by omega)
  · rintro u v c ⟨rfl, rfl, rfl, hm⟩ K
    exact ⟨vi_2 (by omega), fun _ => q2 (fun n hn => hm n (by omega)), fun w => absurd (nI_lt (Nat.lt_succ_self _) (by omega)) w⟩
theorem s_meet (i : Nat) : us_meet (J i) (J (i + 1)) := by
  intro N a x y hJ
  obtain ⟨t, hC, hX⟩ := id hJ
  have hS := tS_le hC.1
  unfold w_UpAndDown_meet
  have no : (¬ ∃ k l, k < tS t ∧ l < tS t ∧ x = nI k ∧ y = nI l) → w_Model_meet a x y (fun r' a2 => (-2 : Int32) = r' ∧ J (i + 1) N a2) := fun h => mm_meet hC (fun k n q1 q2 q3 q4 => absurd ⟨k, n, q1, q2, q3, q4⟩ h) (fun _ => ⟨rfl, J_sc hJ f0_sc⟩)
  refine x_isNumber hC.2.1.2.2.1 (by omega) (fun k hk e => t1 (x_isNumber hC.2.1.2.2.1 (by omega) (fun l hl e2 => t1 ?_) (fun h => t0 (no (fun ⟨_, l, _, q1, _, q2⟩ => h l q1 q2))))) (fun h => t0 (no (fun ⟨k, _, q1, _, q2, _⟩ => h k q1 q2)))
  subst e e2
  have hp : 0 < tS t := by omega
  have hg := tg_lt hC.1 hp
  refine x_known hC hX hp (fun a1 hf hR hI hC1 hX1 => ?_)
  have tk := (tl_sp hg hk).2.2
  have tl' := (tl_sp hg hl).2.2
  unfold w_Paths_goesTillSame
  refine x_tailOf hR hk (x_tailOf hR hl ?_)
  rw [nI_max (by omega) (by omega)]
  obtain ⟨M, hM⟩ : ∃ M, M = max (tl (tg t) k) (tl (tg t) l) := ⟨_, rfl⟩
  rw [← hM]
  have mm : ∀ v, (∀ n, n ≤ tS t → itr (tg t) n k = itr (tg t) n l → (∀ m, m < n → itr (tg t) m k ≠ itr (tg t) m l) → v = nI n) → ((∀ n, n ≤ tS t → itr (tg t) n k ≠ itr (tg t) n l) → v = -1) → w_Model_meet a1 (nI k) (nI l) (fun r' a2 => v = r' ∧ J (i + 1) N a2) := fun v v1 v2 => by
    refine mm_meet hC1 (fun k' l' q1 q2 q3 q4 a2 hf2 => ?_) (fun h => absurd ⟨k, l, hk, hl, rfl, rfl⟩ h)
    rw [← (nI_eq (by omega) (by omega)).mp q3, ← (nI_eq (by omega) (by omega)).mp q4]
    exact ⟨fun n w1 w2 w3 => ⟨v1 n w1 w2 w3, J_mk hC1 hX1 hf2⟩, fun w => ⟨v2 w, J_mk hC1 hX1 hf2⟩⟩
  refine LW3.up (M + 1) (fun n u v c => u = nI (itr (tg t) n k) ∧ v = nI (itr (tg t) n l) ∧ c = nI n ∧ ∀ m, m < n → itr (tg t) m k ≠ itr (tg t) m l) ⟨rfl, rfl, rfl, fun m hm => by omega⟩ ?_ ?_
  · rintro n u v c hn ⟨rfl, rfl, rfl, hm⟩ K hK
    have i1 := itr_lt hg hk n
    have i2 := itr_lt hg hl n
    refine ⟨fun w => absurd ((nI_ltI (by omega) (by omega)).mp w) (by omega), fun _ => ⟨fun w => ?_, fun w => x_nextOf hR.1 i1 (x_nextOf hR.1 i2 (hK _ _ _ ⟨by rw [← itr_s (g := tg t)], by rw [← itr_s (g := tg t)], nI_1 n, fun m hm2 => ?_⟩))⟩⟩
    · have w' := (nI_eq (by omega) (by omega)).mp w
      refine mm _ (fun n' _ w2 w3 => ?_) (fun w2 => absurd w' (w2 n (by omega)))
      rcases Nat.lt_trichotomy n n' with v | v | v
      · exact absurd w' (w3 n v)
      · rw [v]
      · exact absurd w2 (hm n' v)
    · by_cases e : m = n
      · rw [e]; exact fun q => w (by rw [q])
      · exact hm m (by omega)
  · rintro u v c ⟨rfl, rfl, rfl, hm⟩ K
    refine ⟨fun _ => mm _ (fun n _ w _ => ?_) (fun _ => rfl), fun w => absurd (nI_lt (Nat.lt_succ_self M) (by omega)) w⟩
    have := meet_first hg hk hl w
    rw [← hM] at this
    exact absurd this (hm M (by omega))
/-- x comes first to what y comes to behind n goes, y behind m -/
def jn (g : Nat → Nat) (x y n m : Nat) : Prop := itr g n x = itr g m y ∧ (∀ n' m', n' < n → itr g n' x ≠ itr g m' y) ∧ ∀ m', m' < m → itr g m' y ≠ itr g n x
theorem jn_one {g : Nat → Nat} {x y n m n2 m2 : Nat} (h1 : jn g x y n m) (h2 : jn g x y n2 m2) : n = n2 ∧ m = m2 := by
  have e : n = n2 := by
    rcases Nat.lt_trichotomy n n2 with w | w | w
    · exact absurd h1.1 (h2.2.1 n m w)
    · exact w
    · exact absurd h2.1 (h1.2.1 n2 m2 w)
  subst e
  refine ⟨rfl, ?_⟩
  rcases Nat.lt_trichotomy m m2 with w | w | w
  · exact absurd h1.1.symm (h2.2.2 m w)
  · exact w
  · exact absurd h2.1.symm (h1.2.2 m2 w)
def jnv (g : Nat → Nat) (x n m w : Nat) : Nat := if w = 0 then itr g n x else if w = 1 then n else m
theorem mm_join {N : Nat} {a : ud_St} {x y z : Int32} {t : TD} {Q : Int32 → ud_St → Prop} (hC : JC N a t) (h1 : ∀ k l w, k < tS t → l < tS t → w < 3 → x = nI k → y = nI l → z = nI w → ∀ a', fr Psc a a' → (∀ n m, jn (tg t) k l n m → Q (nI (jnv (tg t) k n m w)) a') ∧ ((∀ n m, itr (tg t) n k ≠ itr (tg t) m l) → Q (-1) a')) (h0 : (¬ ∃ k l w, k < tS t ∧ l < tS t ∧ w < 3 ∧ x = nI k ∧ y = nI l ∧ z = nI w) → Q (-2) (a71 a)) : w_Model_join a x y z Q := by
  obtain ⟨c1, c2, c3, -⟩ := JC_sc hC f0_sc
  have hS := tS_le c1
  unfold w_Model_join
  refine m_isNumber c3.2.2.2.1 (by omega) (fun k hk e => t1 (m_isNumber c3.2.2.2.1 (by omega) (fun l hl e2 => t1 (m_in0 3 (by omega) (by decide) (fun w hw e3 => t1 ?_) (fun h => t0 (h0 (fun ⟨_, _, w, _, _, q1, _, _, q2⟩ => h w q1 q2))))) (fun h => t0 (h0 (fun ⟨_, l, _, _, q1, _, _, q2, _⟩ => h l q1 q2))))) (fun h => t0 (h0 (fun ⟨k, _, _, q1, _, _, q2, _⟩ => h k q1 q2)))
  have hp : 0 < tS t := by omega
  have hg := tg_lt hC.1 hp
  refine mm_lays hC hp (fun a2 hf hN hF => ?_)
  have hN' : ∀ {c}, fr (fun k _ => k = 89) a2 c → mN c (tg t) (tS t) := fun h => hN.fr (h.mono (fun k j q => by unfold Pr; omega))
  have hsc : ∀ {c}, fr (fun k _ => k = 89) a2 c → fr Psc a c := fun h => hf.tr (h.mono (fun k j q => by unfold Psc; omega))
  have hq := fun {c} (h : fr (fun k _ => k = 89) a2 c) => h1 k l w hk hl hw e e2 e3 c (hsc h)
  rw [e, e2, e3]
  unfold w_Model_join_j45
  refine LW2.up (tS t) (fun n u b => u = nI n ∧ fr (fun k _ => k = 89) a2 b ∧ ∀ z, z < n → b.1 89 z = -1) ⟨rfl, fr.rf, fun z hz => by omega⟩ ?_ ?_
  · rintro n u b hn ⟨rfl, hfb, hd⟩ K hK
    simp only [tN_2, (hN' hfb).1]
    rw [nI_clamp (by omega)]
    refine ⟨vi_2 (by omega), fun z => absurd z (nI_ge hn (by omega)), fun _ => ⟨vp_in_nI (by omega) (by omega), hK _ _ ⟨nI_1 n, hfb.sv rfl, fun z hz => ?_⟩⟩⟩
    rw [us_1]
    by_cases e : z = n
    · rw [if_pos ⟨rfl, e⟩]
    · rw [if_neg (fun w => e w.2)]; exact hd z (by omega)
  rintro u b ⟨rfl, hfb, hd⟩ K
  simp only [tN_2, (hN' hfb).1]
  refine ⟨vi_2 (by omega), fun _ => ?_, fun z => absurd (nI_le (Nat.le_refl _) (by omega)) z⟩
  unfold w_Model_join_j76
  refine LW3.up (tS t + 1) (fun n u c b => u = nI (itr (tg t) n l) ∧ c = nI n ∧ fr (fun k _ => k = 89) a2 b ∧ (∀ i j, i < j → j < n → itr (tg t) i l ≠ itr (tg t) j l) ∧ (∀ j, j < n → b.1 89 (itr (tg t) j l) = nI j) ∧ ∀ z, z < tS t → (¬ ∃ j, j < n ∧ itr (tg t) j l = z) → b.1 89 z = -1) ⟨rfl, rfl, hfb, fun i j _ hj => by omega, fun j hj => by omega, fun z hz _ => hd z hz⟩ ?_ ?_
  · rintro n u c b hn ⟨rfl, rfl, hfb, g1, g2, g3⟩ K2 hK2
    have hi := itr_lt hg hl n
    rw [nI_clamp (by omega)]
    refine ⟨vp_in_nI (by omega) (by omega), fun w2 => ⟨vp_in_nI (by omega) (by omega), vp_in_nI (by omega) (by omega), ?_⟩, fun w2 => ?_⟩
    · rw [us_1, if_neg (by omega), (hN' hfb).2.2.2 _ hi, ← itr_s (g := tg t)]
      have hdis : ∀ i, i < n → itr (tg t) i l ≠ itr (tg t) n l := fun i hi2 e4 => by
        have := g2 i hi2
        rw [e4, w2] at this
        exact ui_ne1 (by omega) this.symm
      refine hK2 _ _ _ ⟨rfl, nI_1 n, hfb.sv rfl, fun i j hij hj => ?_, fun j hj => ?_, fun z hz hno => ?_⟩
      · by_cases e4 : j = n
        · rw [e4]; exact hdis i (by omega)
        · exact g1 i j hij (by omega)
      · rw [us_1]
        by_cases e4 : j = n
        · rw [if_pos ⟨rfl, by rw [e4]⟩, e4]
        · rw [if_neg (fun q => hdis j (by omega) q.2)]; exact g2 j (by omega)
      · rw [us_1, if_neg (fun q => hno ⟨n, by omega, q.2.symm⟩)]
        exact g3 z hz (fun ⟨j, hj, hj2⟩ => hno ⟨j, by omega, hj2⟩)
    · have hin : ∃ j, j < n ∧ itr (tg t) j l = itr (tg t) n l := Classical.byContradiction fun h => w2 (g3 _ hi h)
      obtain ⟨j0, hj0, hj1⟩ := hin
      have hall : ∀ m, ∃ j, j < n ∧ itr (tg t) j l = itr (tg t) m l := by
        intro m
        induction m using Nat.strongRecOn with
        | ind m ih =>
          by_cases e4 : m < n
          · exact ⟨m, e4, rfl⟩
          · have e5 : itr (tg t) (m - (n - j0)) l = itr (tg t) m l := by
              have e6 : m - (n - j0) = (m - n) + j0 := by omega
              have e7 : m = (m - n) + n := by omega
              rw [e6, itr_add, hj1, ← itr_add, ← e7]
            obtain ⟨j, hj, hj2⟩ := ih (m - (n - j0)) (by omega)
            exact ⟨j, hj, hj2.trans e5⟩
      obtain ⟨q1, q2⟩ := hq hfb
      unfold w_Model_join_j117
      simp only [tN_2, (hN' hfb).1]
      refine LW2.up (tS t + 1) (fun p u c => u = nI (itr (tg t) p k) ∧ c = nI p ∧ ∀ n' m', n' < p → itr (tg t) n' k ≠ itr (tg t) m' l) ⟨rfl, rfl, fun n' m' h => by omega⟩ ?_ ?_
      · rintro p u c hp2 ⟨rfl, rfl, hno⟩ K3 hK3
        have hi2 := itr_lt hg hk p
        have hv : vp_in (nI (itr (tg t) p k)) 10000 := vp_in_nI (by omega) (by omega)
        rw [nI_clamp (by omega), (hN' hfb).2.2.2 _ hi2, ← itr_s (g := tg t)]
        refine ⟨vi_2 (by omega), fun w3 => absurd ((nI_ltI (by omega) (by omega)).mp w3) (by omega), fun _ => ⟨hv, fun w3 => ⟨hv, hK3 _ _ ⟨rfl, nI_1 p, fun n' m' hn' e4 => ?_⟩⟩, fun w3 => ?_⟩⟩
        · by_cases e5 : n' = p
          · rw [e5] at e4
            obtain ⟨j, hj, hj2⟩ := hall m'
            have := g2 j hj
            rw [hj2, ← e4, w3] at this
            exact ui_ne1 (by omega) this.symm
          · exact hno n' m' (by omega) e4
        · have hin2 : ∃ j, j < n ∧ itr (tg t) j l = itr (tg t) p k := Classical.byContradiction fun h => w3 (g3 _ hi2 h)
          obtain ⟨j, hj, hj2⟩ := hin2
          have hjn : jn (tg t) k l p j := ⟨hj2.symm, hno, fun m' hm' e4 => g1 m' j hm' hj (by rw [hj2]; exact e4)⟩
          have hq1 := q1 p j hjn
          have hmark : b.1 89 (itr (tg t) p k) = nI j := by rw [← hj2]; exact g2 j hj
          rw [hmark]
          rcases (show w = 0 ∨ w = 1 ∨ w = 2 by omega) with rfl | rfl | rfl
          · exact ⟨fun _ => hq1, fun q => absurd rfl q⟩
          · exact ⟨fun q => absurd q (by decide), fun _ => ⟨fun _ => hq1, fun q => absurd rfl q⟩⟩
          · exact ⟨fun q => absurd q (by decide), fun _ => ⟨fun q => absurd q (by decide), fun _ => ⟨hv, hq1⟩⟩⟩
      · rintro u c ⟨rfl, rfl, hno⟩ K3
        refine ⟨vi_2 (by omega), fun _ => q2 (fun n' m' e4 => ?_), fun w3 => absurd (nI_lt (Nat.lt_succ_self _) (by omega)) w3⟩
        -- then it would be come to ahead of a round
        have hmk : hm (tg t) k = hm (tg t) l := by
          rw [← hm_itr hg hk n', e4, hm_itr hg hl m']
        have htk := tl_sp hg hk
        have hk2 := itr_lt hg hk (tl (tg t) k)
        obtain ⟨m2, hm2⟩ := hm_reach hg hl hk2 htk.1 (by rw [hm_itr hg hk]; exact hmk.symm)
        exact hno (tl (tg t) k) m2 (by omega) hm2.symm
  · rintro u c b ⟨-, -, -, g1, -⟩
    have := fb_holes (tS t) (tS t + 1) (fun j => itr (tg t) j l) (fun j _ => itr_lt hg hl j) g1
    omega
/-- what is left till the two are the same -/
noncomputable def jd (g : Nat → Nat) (S a b : Nat) : Nat := if tl g a = 0 ∧ tl g b = 0 then mn (fun m => itr g m b = a) else S
theorem x_joined {a0 : ud_St} {g : Nat → Nat} {S x y w : Nat} {Q : Int32 → Prop} (hR : xR a0 g S) (hx : x < S) (hy : y < S) (hw : w < 3) (h1 : ∀ n m, jn g x y n m → Q (nI (jnv g x n m w))) (h0 : (∀ n m, itr g n x ≠ itr g m y) → Q (-1)) : w_Paths_joined a0 (nI x) (nI y) (nI w) Q := by
  obtain ⟨n0, hS, hg, h37⟩ := id hR.1
  have hbx := hb_hm hg hx
  have hby := hb_hm hg hy
  have rx := rk_S (hm_sp hg hx).2.2 hbx
  have ry := rk_S (hm_sp hg hy).2.2 hby
  have tx := (tl_sp hg hx).2.2
  have ty := (tl_sp hg hy).2.2
  unfold w_Paths_joined
  refine x_homeOf hR hx (x_homeOf hR hy ⟨fun ww => ?_, fun ww => h0 (fun n m e => ww ?_)⟩)
  · have hmm : hm g x = hm g y := rk_inj hbx hby ((nI_eq (by omega) (by omega)).mp ww)
    rw [n0, show (3 : Int32) * nI S = nI (3 * S) from ui_mul 3 S]
    refine LW5.up (3 * S) (fun k u v c d e => e = nI k ∧ ∃ p q, u = nI (itr g p x) ∧ v = nI (itr g q y) ∧ c = nI p ∧ d = nI q ∧ (∀ n' m', n' < p → itr g n' x ≠ itr g m' y) ∧ (∀ m', m' < q → itr g m' y ≠ itr g p x) ∧ ((0 < tl g (itr g p x) ∨ 0 < tl g (itr g q y)) → ∀ m' n', m' < q → itr g m' y ≠ itr g n' (itr g p x)) ∧ k + tl g (itr g p x) + tl g (itr g q y) + jd g S (itr g p x) (itr g q y) + 2 ≤ 3 * S) ⟨rfl, 0, 0, rfl, rfl, rfl, rfl, fun n' m' h => by omega, fun m' h => by omega, fun _ m' n' h => by omega, ?_⟩ ?_ ?_
    · have hj : jd g S x y ≤ S := by
        unfold jd
        split
        · rename_i h
          have px : per g x := (tl_0 hg hx).mp h.1
          have py : per g y := (tl_0 hg hy).mp h.2
          obtain ⟨m, hm'⟩ := hm_reach hg hy hx px hmm.symm
          have hl := ln_sp py
          have hll := ln_le hg hy py
          refine Nat.le_trans (mn_le (p := fun m => itr g m y = x) (n := m % ln g y) ?_) (Nat.le_of_lt (Nat.lt_of_lt_of_le (Nat.mod_lt _ hl.1) hll))
          show itr g (m % ln g y) y = x
          rw [← itr_ln py]
          exact hm'
        · exact Nat.le_refl _
      show 0 + tl g x + tl g y + jd g S x y + 2 ≤ 3 * S
      omega
    · rintro k u v c d e hk ⟨rfl, p, q, rfl, rfl, rfl, rfl, i1, i2, i3, i4⟩ K hK
      obtain ⟨A, hA⟩ : ∃ A, itr g p x = A := ⟨_, rfl⟩
      obtain ⟨B, hB⟩ : ∃ B, itr g q y = B := ⟨_, rfl⟩
      have hAl : A < S := by rw [← hA]; exact itr_lt hg hx p
      have hBl : B < S := by rw [← hB]; exact itr_lt hg hy q
      have hAB : hm g A = hm g B := by rw [← hA, ← hB, hm_itr hg hx, hm_itr hg hy]; exact hmm
      have hgA := hg A hAl
      have hgB := hg B hBl
      have tA := (tl_sp hg hAl).2.2
      have tB := (tl_sp hg hBl).2.2
      have tgA := tl_g hg hAl
      have tgB := tl_g hg hBl
      have hA1 : itr g (p + 1) x = g A := by rw [itr_s, hA]
      have hB1 : itr g (q + 1) y = g B := by rw [itr_s, hB]
      rw [hA] at i2 i3 i4
      rw [hB] at i3 i4
      rw [hA, hB]
      have hjdS : ∀ A B, A < S → B < S → hm g A = hm g B → jd g S A B ≤ S := by
        intro A B hA hB hAB
        unfold jd
        split
        · rename_i h
          have px : per g A := (tl_0 hg hA).mp h.1
          have py : per g B := (tl_0 hg hB).mp h.2
          obtain ⟨m, hm'⟩ := hm_reach hg hB hA px hAB.symm
          have hl := ln_sp py
          have hll := ln_le hg hB py
          refine Nat.le_trans (mn_le (p := fun m => itr g m B = A) (n := m % ln g B) ?_) (Nat.le_of_lt (Nat.lt_of_lt_of_le (Nat.mod_lt _ hl.1) hll))
          show itr g (m % ln g B) B = A
          rw [← itr_ln py]
          exact hm'
        · exact Nat.le_refl _
      -- what the ways of one from tails on can come to
      have notin : ∀ A B, A < S → B < S → A ≠ B → tl g B ≤ tl g A → 0 < tl g A → ∀ m, itr g m B ≠ A := by
        intro A B hA hB hne hle hpos m e
        have := tl_itr hg hB m
        rw [e] at this
        cases m with
        | zero => exact hne e.symm
        | succ m => omega
      have jS : ∀ A B, 0 < tl g A ∨ 0 < tl g B → jd g S A B = S := fun A B h => by
        unfold jd
        rw [if_neg (by omega)]
      have moveB : tl g A < tl g B → K (nI A) (nI (g B)) (nI p) (nI q + 1) (nI k + 1) := fun hlt => by
        refine hK _ _ _ _ _ ⟨nI_1 k, p, q + 1, by rw [hA], by rw [hB1], rfl, nI_1 q, i1, ?_, ?_, ?_⟩
        · intro m' hm'
          rw [hA]
          by_cases e : m' = q
          · rw [e, hB]; exact fun e2 => by rw [e2] at hlt; omega
          · exact i2 m' (by omega)
        · rw [hA]
          intro _ m' n' hm'
          by_cases e : m' = q
          · rw [e, hB]
            exact fun e2 => notin B A hBl hAl (fun e3 => by rw [e3] at hlt; omega) (by omega) (by omega) n' e2.symm
          · exact i3 (Or.inr (by omega)) m' n' (by omega)
        · rw [hA, hB1]
          have hj1 := jS A B (Or.inr (by omega))
          have hj2 := hjdS A (g B) hAl hgB (by rw [hm_g hg hBl]; exact hAB)
          omega
      have moveA : tl g B < tl g A → K (nI (g A)) (nI B) (nI p + 1) (nI q) (nI k + 1) := fun hlt => by
        have hnot : ∀ m', itr g m' y ≠ A := fun m' e => by
          rcases Nat.lt_or_ge m' q with h | h
          · exact i2 m' h e
          · refine notin A B hAl hBl (fun e3 => by rw [e3] at hlt; omega) (by omega) (by omega) (m' - q) ?_
            rw [← hB, ← itr_add, Nat.sub_add_cancel h]
            exact e
        have hi3 := i3 (Or.inl (by omega))
        refine hK _ _ _ _ _ ⟨nI_1 k, p + 1, q, by rw [hA1], by rw [hB], nI_1 p, rfl, ?_, ?_, ?_, ?_⟩
        · intro n' m' hn'
          by_cases e : n' = p
          · rw [e, hA]; exact fun e2 => hnot m' e2.symm
          · exact i1 n' m' (by omega)
        · rw [hA1]
          intro m' hm' e
          exact hi3 m' 1 hm' e
        · rw [hA1]
          intro _ m' n' hm' e
          exact hi3 m' (n' + 1) hm' e
        · rw [hA1, hB]
          have hj1 := jS A B (Or.inl (by omega))
          have hj2 := hjdS (g A) B hgA hBl (by rw [hm_g hg hAl]; exact hAB)
          omega
      have moveAB : tl g A = tl g B → 0 < tl g A → A ≠ B → K (nI (g A)) (nI (g B)) (nI p + 1) (nI q + 1) (nI k + 1) := fun he hpos hne => by
        have hnot : ∀ m', itr g m' y ≠ A := fun m' e => by
          rcases Nat.lt_or_ge m' q with h | h
          · exact i2 m' h e
          · refine notin A B hAl hBl hne (by omega) hpos (m' - q) ?_
            rw [← hB, ← itr_add, Nat.sub_add_cancel h]
            exact e
        have hi3 := i3 (Or.inl (by omega))
        have hnB : ∀ n', itr g n' A ≠ B := notin B A hBl hAl (fun e => hne e.symm) (by omega) (by omega)
        refine hK _ _ _ _ _ ⟨nI_1 k, p + 1, q + 1, by rw [hA1], by rw [hB1], nI_1 p, nI_1 q, ?_, ?_, ?_, ?_⟩
        · intro n' m' hn'
          by_cases e : n' = p
          · rw [e, hA]; exact fun e2 => hnot m' e2.symm
          · exact i1 n' m' (by omega)
        · rw [hA1]
          intro m' hm' e
          by_cases e2 : m' = q
          · rw [e2, hB] at e; exact hnB 1 e.symm
          · exact hi3 m' 1 (by omega) e
        · rw [hA1]
          intro _ m' n' hm' e
          by_cases e2 : m' = q
          · rw [e2, hB] at e; exact hnB (n' + 1) e.symm
          · exact hi3 m' (n' + 1) (by omega) e
        · rw [hA1, hB1]
          have hj1 := jS A B (Or.inl hpos)
          have hj2 := hjdS (g A) (g B) hgA hgB (by rw [hm_g hg hAl, hm_g hg hBl]; exact hAB)
          omega
      have onR : tl g A = 0 → tl g B = 0 → A ≠ B → K (nI A) (nI (g B)) (nI p) (nI q + 1) (nI k + 1) := fun hA0 hB0 hne => by
        have pA : per g A := (tl_0 hg hAl).mp hA0
        obtain ⟨m0, hm0⟩ := hm_reach hg hBl hAl pA hAB.symm
        have hsp := mn_sp (p := fun m => itr g m B = A) ⟨m0, hm0⟩
        have hpos : 0 < mn (fun m => itr g m B = A) := by
          rcases Nat.eq_zero_or_pos (mn (fun m => itr g m B = A)) with h | h
          · rw [h] at hsp; exact absurd hsp.1.symm hne
          · exact h
        refine hK _ _ _ _ _ ⟨nI_1 k, p, q + 1, by rw [hA], by rw [hB1], rfl, nI_1 q, i1, ?_, ?_, ?_⟩
        · intro m' hm'
          rw [hA]
          by_cases e : m' = q
          · rw [e, hB]; exact fun e2 => hne e2.symm
          · exact i2 m' (by omega)
        · rw [hA, hB1]
          intro h
          have : tl g (g B) = 0 := by omega
          omega
        · rw [hA, hB1]
          have hj1 : jd g S A B = mn (fun m => itr g m B = A) := by unfold jd; rw [if_pos ⟨hA0, hB0⟩]
          have hj2 : jd g S A (g B) ≤ mn (fun m => itr g m B = A) - 1 := by
            unfold jd
            rw [if_pos ⟨hA0, by omega⟩]
            refine mn_le (p := fun m => itr g m (g B) = A) ?_
            show itr g (mn (fun m => itr g m B = A) - 1 + 1) B = A
            rw [Nat.sub_add_cancel hpos]
            exact hsp.1
          omega
      have fin : A = B → w_Paths_joined_j149 a0 (nI x) (nI y) (nI w) (nI w) (nI A) (nI p) (nI q) Q := fun e => by
        have hj : jn g x y p q := ⟨by rw [hA, hB]; exact e, i1, by rw [hA]; exact i2⟩
        have hq := h1 p q hj
        unfold w_Paths_joined_j149
        rcases (show w = 0 ∨ w = 1 ∨ w = 2 by omega) with rfl | rfl | rfl
        · refine ⟨fun _ => ?_, fun q => absurd rfl q⟩
          have e2 : jnv g x p q 0 = A := by unfold jnv; rw [if_pos rfl]; exact hA
          rw [e2] at hq
          exact hq
        · exact ⟨fun q => absurd q (by decide), fun _ => ⟨fun _ => hq, fun q => absurd rfl q⟩⟩
        · exact ⟨fun q => absurd q (by decide), fun _ => ⟨fun q => absurd q (by decide), fun _ => hq⟩⟩
      refine ⟨fun z => absurd z (nI_ge hk (by omega)), fun _ => ⟨fun z => fin ((nI_eq (by omega) (by omega)).mp z), fun z => ?_⟩⟩
      have hne : A ≠ B := fun e => z (by rw [e])
      refine x_tailOf hR hAl (x_tailOf hR hBl ?_)
      have j76 : ¬ (tl g A = tl g B ∧ 0 < tl g A) → w_Paths_joined_j76 a0 (nI x) (nI y) (nI w) (nI w) (nI A) (nI B) (nI p) (nI q) (nI k) K Q := fun hc => by
        unfold w_Paths_joined_j76 w_Paths_joined_j77
        refine ⟨fun _ => x_tailOf hR hAl (x_tailOf hR hBl ⟨fun z2 => ?_, fun z2 => ?_⟩), fun z2 => absurd rfl z2⟩
        · have z2' := (nI_leI (by omega) (by omega)).mp z2
          unfold w_Paths_joined_j104 w_Paths_joined_j116 w_Paths_joined_j127
          refine ⟨fun _ => ⟨fun _ => x_nextOf hR.1 hBl ⟨fun _ => ?_, fun z3 => absurd rfl z3⟩, fun z3 => absurd rfl z3⟩, fun z3 => absurd rfl z3⟩
          rcases Nat.lt_or_ge (tl g A) (tl g B) with h | h
          · exact moveB h
          · have h2 : tl g A = tl g B := by omega
            have h3 : tl g A = 0 := by
              rcases Nat.eq_zero_or_pos (tl g A) with v | v
              · exact v
              · exact absurd ⟨h2, v⟩ hc
            exact onR h3 (by omega) hne
        · have z2' := (ui_ltn (by omega) (by omega)).mp z2
          unfold w_Paths_joined_j99 w_Paths_joined_j104 w_Paths_joined_j127
          exact ⟨fun _ => ⟨fun z3 => absurd z3 (by decide), fun _ => ⟨fun z3 => absurd z3 (by decide), fun _ => x_nextOf hR.1 hAl (moveA z2')⟩⟩, fun z3 => absurd rfl z3⟩
      refine ⟨fun z2 => x_tailOf hR hAl ⟨fun z3 => j76 (fun q => ?_), fun z3 => ?_⟩, fun z2 => j76 (fun q => z2 (by rw [q.1]))⟩
      · have := (nI_leI (b := 0) (by omega) (by omega)).mp z3
        omega
      · have z2' := (nI_eq (by omega) (by omega)).mp z2
        have hpos : 0 < tl g A := Nat.pos_of_ne_zero (fun q => z3 (by rw [q]; decide))
        unfold w_Paths_joined_j77 w_Paths_joined_j99 w_Paths_joined_j104 w_Paths_joined_j116 w_Paths_joined_j127
        exact ⟨fun z4 => absurd z4 (by decide), fun _ => ⟨fun z4 => absurd z4 (by decide), fun _ => x_nextOf hR.1 hBl ⟨fun z4 => absurd z4 (by decide), fun _ => x_nextOf hR.1 hAl (moveAB z2' hpos hne)⟩⟩⟩
    · rintro u v c d e ⟨-, p, q, -, -, -, -, -, -, -, i4⟩
      omega
  · have : hm g x = hm g y := by rw [← hm_itr hg hx n, e, hm_itr hg hy m]
    rw [this]
theorem s_join (i : Nat) : us_join (J i) (J (i + 1)) := by
  intro N a x y z hJ
  obtain ⟨t, hC, hX⟩ := id hJ
  have hS := tS_le hC.1
  unfold w_UpAndDown_join
  have no : (¬ ∃ k l w, k < tS t ∧ l < tS t ∧ w < 3 ∧ x = nI k ∧ y = nI l ∧ z = nI w) → w_Model_join a x y z (fun r' a2 => (-2 : Int32) = r' ∧ J (i + 1) N a2) := fun h => mm_join hC (fun k n w q1 q2 q3 q4 q5 q6 => absurd ⟨k, n, w, q1, q2, q3, q4, q5, q6⟩ h) (fun _ => ⟨rfl, J_sc hJ f0_sc⟩)
  refine x_isNumber hC.2.1.2.2.1 (by omega) (fun k hk e => t1 (x_isNumber hC.2.1.2.2.1 (by omega) (fun l hl e2 => t1 ?_) (fun h => t0 (no (fun ⟨_, l, _, _, q1, _, _, q2, _⟩ => h l q1 q2))))) (fun h => t0 (no (fun ⟨k, _, _, q1, _, _, q2, _⟩ => h k q1 q2)))
  have no2 : (∀ n, n < 2 + 1 → z ≠ nI n) → w_Model_join a x y z (fun r' a2 => (-2 : Int32) = r' ∧ J (i + 1) N a2) := fun h => no (fun ⟨_, _, w, _, _, q1, _, _, q2⟩ => h w q1 q2)
  refine ar_le 2 (by omega) no2 no2 (fun w hw e3 => ?_)
  subst e e2 e3
  have hp : 0 < tS t := by omega
  refine x_known hC hX hp (fun a1 hf hR hI hC1 hX1 => ?_)
  refine x_joined hR hk hl hw (fun n m hj => mm_join hC1 (fun k' l' w' q1 q2 q3 q4 q5 q6 a2 hf2 => ?_) (fun h => absurd ⟨k, l, w, hk, hl, hw, rfl, rfl, rfl⟩ h)) (fun hno => mm_join hC1 (fun k' l' w' q1 q2 q3 q4 q5 q6 a2 hf2 => ?_) (fun h => absurd ⟨k, l, w, hk, hl, hw, rfl, rfl, rfl⟩ h))
  · rw [← (nI_eq (by omega) (by omega)).mp q4, ← (nI_eq (by omega) (by omega)).mp q5, ← (nI_eq (by omega) (by omega)).mp q6]
    refine ⟨fun n' m' hj' => ⟨?_, J_mk hC1 hX1 hf2⟩, fun hno => absurd hj.1 (hno n m)⟩
    obtain ⟨e1, e2⟩ := jn_one hj hj'
    rw [e1, e2]
  · rw [← (nI_eq (by omega) (by omega)).mp q4, ← (nI_eq (by omega) (by omega)).mp q5, ← (nI_eq (by omega) (by omega)).mp q6]
    exact ⟨fun n' m' hj' => absurd hj'.1 (hno n' m'), fun _ => ⟨rfl, J_mk hC1 hX1 hf2⟩⟩
