/-! out -/
theorem nI_or (a b : Nat) : nI a ||| nI b = nI (a ||| b) := by
  apply Int32.toBitVec_inj.mp
  show BitVec.ofNat 32 a ||| BitVec.ofNat 32 b = BitVec.ofNat 32 (a ||| b)
  apply BitVec.eq_of_toNat_eq
  simp only [BitVec.toNat_or, BitVec.toNat_ofNat]
  exact (Nat.or_mod_two_pow (a := a) (b := b) (n := 32)).symm
theorem nI_bit : ∀ d : Fin 16, (1 : Int32) <<< (nI d.1 &&& 31) = nI (2 ^ d.1) := by decide
theorem nI_bit' {d : Nat} (h : d < 16) : (1 : Int32) <<< (nI d &&& 31) = nI (2 ^ d) := nI_bit ⟨d, h⟩
/-- x without place p -/
def wo (b n x p : Nat) : Nat := x / b ^ (n - p) * b ^ (n - 1 - p) + x % b ^ (n - 1 - p)
/-- the same, from the first j figures -/
def wj (b n x p j : Nat) : Nat := if j ≤ p then x / b ^ (n - j) else x / b ^ (n - p) * b ^ (j - 1 - p) + x % b ^ (n - 1 - p) / b ^ (n - j)
theorem wj_0 {b n x p : Nat} (hx : x < b ^ n) : wj b n x p 0 = 0 := by
  unfold wj
  rw [if_pos (Nat.zero_le _)]
  exact Nat.div_eq_of_lt hx
theorem wj_n {b n x p : Nat} (hp : p < n) : wj b n x p n = wo b n x p := by
  unfold wj wo
  rw [if_neg (by omega), Nat.sub_self, Nat.pow_zero, Nat.div_one]
theorem wj_p {b n x p : Nat} (hb : 0 < b) : wj b n x p (p + 1) = wj b n x p p := by
  unfold wj
  rw [if_neg (by omega), if_pos (Nat.le_refl _), show p + 1 - 1 - p = 0 by omega, Nat.pow_zero, Nat.mul_one, show n - (p + 1) = n - 1 - p by omega, Nat.div_eq_of_lt (Nat.mod_lt _ (Nat.pow_pos hb))]
  rfl
theorem dv_s {b m y : Nat} : y / b ^ (m + 1) * b + y / b ^ m % b = y / b ^ m := by
  rw [Nat.pow_succ, ← Nat.div_div_eq_div_mul, Nat.mul_comm, Nat.div_add_mod]
theorem dv_m {b m k x : Nat} (h : k < m) : x % b ^ m / b ^ k % b = x / b ^ k % b := by
  rw [show b ^ m = b ^ k * b ^ (m - k) by rw [← Nat.pow_add]; congr 1; omega, Nat.mod_mul_right_div_self]
  exact Nat.mod_mod_of_dvd _ (by rw [show m - k = (m - k - 1) + 1 by omega, Nat.pow_succ]; exact Nat.dvd_mul_left _ _)
theorem wj_s {b n x p j : Nat} (hj : j < n) (h : j ≠ p) : wj b n x p j * b + dg b n x j = wj b n x p (j + 1) := by
  unfold wj dg
  by_cases q : j < p
  · rw [if_pos (by omega), if_pos (by omega), show n - j = n - 1 - j + 1 by omega, show n - (j + 1) = n - 1 - j by omega]
    exact dv_s
  · rw [if_neg (by omega), if_neg (by omega), ← dv_m (m := n - 1 - p) (by omega), show n - j = n - 1 - j + 1 by omega, show n - (j + 1) = n - 1 - j by omega, show j + 1 - 1 - p = (j - 1 - p) + 1 by omega, Nat.add_mul, Nat.add_assoc, dv_s, Nat.pow_succ, Nat.mul_assoc]
/-- the bits: d is set if some y of P has figure d at a place without which it is told -/
def obt (b n : Nat) (P : Nat → Prop) (w v : Nat) : Prop := v < 2 ^ 16 ∧ ∀ d, v.testBit d = true ↔ ∃ y p, y < b ^ n ∧ P y ∧ p < n ∧ wo b n y p = w ∧ dg b n y p = d
theorem obt_one {b n w v v2 : Nat} {P : Nat → Prop} (h : obt b n P w v) (h2 : obt b n P w v2) : v = v2 := Nat.eq_of_testBit_eq (fun d => by
  have := (h.2 d).trans (h2.2 d).symm
  cases q : v.testBit d <;> cases q2 : v2.testBit d <;> simp_all)
/-- behind the first k of f, and p places of number k -/
def obk (b n : Nat) (M : Nat → Nat → Prop) (w k p v : Nat) : Prop := v < 2 ^ 16 ∧ ∀ d, v.testBit d = true ↔ ∃ j y q, M j y ∧ (j < k ∨ (j = k ∧ q < p)) ∧ q < n ∧ wo b n y q = w ∧ dg b n y q = d
theorem obk_0 {b n w : Nat} {M : Nat → Nat → Prop} : obk b n M w 0 0 0 := ⟨by decide, fun d => ⟨fun h => by simp at h, fun ⟨j, y, q, _, h, _⟩ => by omega⟩⟩
theorem obk_n {b n w k v : Nat} {M : Nat → Nat → Prop} (h : obk b n M w k n v) : obk b n M w (k + 1) 0 v := ⟨h.1, fun d => (h.2 d).trans ⟨fun ⟨j, y, q, q1, q2, q3, q4⟩ => ⟨j, y, q, q1, by omega, q3, q4⟩, fun ⟨j, y, q, q1, q2, q3, q4⟩ => ⟨j, y, q, q1, by omega, q3, q4⟩⟩⟩
theorem obk_skip {b n w k v : Nat} {M : Nat → Nat → Prop} (h : obk b n M w k 0 v) (hM : ∀ y, ¬ M k y) : obk b n M w (k + 1) 0 v := ⟨h.1, fun d => (h.2 d).trans ⟨fun ⟨j, y, q, q1, q2, q3, q4⟩ => ⟨j, y, q, q1, by omega, q3, q4⟩, fun ⟨j, y, q, q1, q2, q3, q4⟩ => ⟨j, y, q, q1, by
  by_cases e : j = k
  · rw [e] at q1; exact absurd q1 (hM y)
  · omega, q3, q4⟩⟩⟩
theorem obk_y {b n w k p v x : Nat} {M : Nat → Nat → Prop} (hb : 0 < b) (hb2 : b ≤ 16) (h : obk b n M w k p v) (hM : M k x) (h1 : ∀ y, M k y → y = x) (hp : p < n) (e : wo b n x p = w) : obk b n M w k (p + 1) (v ||| 2 ^ dg b n x p) := by
  have hd : dg b n x p < b := dg_lt hb
  refine ⟨Nat.or_lt_two_pow h.1 (Nat.pow_lt_pow_right (by omega) (by omega)), fun d => ?_⟩
  rw [fb_bit_set, Bool.or_eq_true, decide_eq_true_iff, h.2 d]
  constructor
  · rintro (⟨j, y, q, q1, q2, q3, q4⟩ | ed)
    · exact ⟨j, y, q, q1, by omega, q3, q4⟩
    · exact ⟨k, x, p, hM, by omega, hp, e, ed.symm⟩
  · rintro ⟨j, y, q, q1, q2, q3, q4, q5⟩
    by_cases ee : j = k ∧ q = p
    · obtain ⟨rfl, rfl⟩ := ee
      have := h1 y q1
      subst this
      exact Or.inr q5.symm
    · exact Or.inl ⟨j, y, q, q1, by omega, q3, q4, q5⟩
theorem obk_f {b n w k p v x : Nat} {M : Nat → Nat → Prop} (h : obk b n M w k p v) (h1 : ∀ y, M k y → y = x) (e : ¬ wo b n x p = w) : obk b n M w k (p + 1) v := by
  refine ⟨h.1, fun d => (h.2 d).trans ⟨fun ⟨j, y, q, q1, q2, q3, q4⟩ => ⟨j, y, q, q1, by omega, q3, q4⟩, fun ⟨j, y, q, q1, q2, q3, q4, q5⟩ => ?_⟩⟩
  by_cases ee : j = k ∧ q = p
  · obtain ⟨rfl, rfl⟩ := ee
    have := h1 y q1
    subst this
    exact absurd q4 e
  · exact ⟨j, y, q, q1, by omega, q3, q4, q5⟩
theorem wo_lt {b n x p : Nat} (hb : 0 < b) (hp : p < n) (hx : x < b ^ n) : wo b n x p < b ^ n := by
  have h1 : x % b ^ (n - 1 - p) ≤ x := Nat.mod_le _ _
  have h2 : x / b ^ (n - p) * b ^ (n - 1 - p) ≤ x / b ^ (n - p) * b ^ (n - p) := Nat.mul_le_mul_left _ (Nat.pow_le_pow_right hb (by omega))
  have h3 : x / b ^ (n - p) * b ^ (n - p) + x % b ^ (n - p) = x := by rw [Nat.mul_comm, Nat.div_add_mod]
  have h4 : x % b ^ (n - 1 - p) ≤ x % b ^ (n - p) := by
    rw [show n - p = n - 1 - p + 1 by omega, Nat.pow_succ, Nat.mod_mul]
    omega
  unfold wo
  omega
theorem x_without {a : ud_St} {b n x p : Nat} {Q : Int32 → Prop} (hF : xF a b n) (hP : xP a b n) (hx : x < b ^ n) (hp : p < n) (hQ : Q (nI (wo b n x p))) : w_Figures_without a (nI x) (nI p) Q := by
  obtain ⟨f1, f2, f3, hb, hb2, hn, hn2, hS⟩ := id hF
  unfold w_Figures_without
  have e1 : nI n - 1 - nI p = nI (n - 1 - p) := by rw [ui_pred (by omega), ui_sub (by omega)]
  rw [f2, e1, ui_sub (by omega)]
  have l1 : b ^ (n - 1 - p) ≤ b ^ n := Nat.pow_le_pow_right (by omega) (by omega)
  have l2 : b ^ (n - p) ≤ b ^ n := Nat.pow_le_pow_right (by omega) (by omega)
  have p1 : 0 < b ^ (n - 1 - p) := Nat.pow_pos (by omega)
  have p2 : 0 < b ^ (n - p) := Nat.pow_pos (by omega)
  refine x_power hF hP (by omega) (x_power hF hP (by omega) (ub_part (by omega) p2 (by omega) (ub_over (by omega) p1 (by omega) ?_)))
  rw [ui_mul, nI_add]
  exact hQ
theorem x_leftOut2 {a : ud_St} {b n mk w : Nat} {L : List Nat} {P : Nat → Prop} {Q : Int32 → Prop} (hF : xF a b n) (hP : xP a b n) (hc : crS a (b ^ n) mk L) (hL : ∀ y, y ∈ L ↔ P y) (hw : w < 2 ^ 31) (hQ : ∀ v, obt b n P w v → Q (nI v)) : w_Crowd_leftOut a (nI w) Q := by
  obtain ⟨c1, c2, c3, c4, c5, c6⟩ := hc
  have hle := set_le c3 c4
  obtain ⟨f1, f2, f3, hb, hb2, hn, hn2, hS⟩ := id hF
  have hM1 : ∀ k (hk : k < L.length), ∀ y, (∃ h : k < L.length, L[k] = y) → y = L[k] := fun k hk y ⟨_, e⟩ => e.symm
  unfold w_Crowd_leftOut w_Crowd_leftOut_j5
  refine LW2.up L.length (fun k v x => x = nI k ∧ ∃ u, v = nI u ∧ obk b n (fun k y => ∃ h : k < L.length, L[k] = y) w k 0 u) ⟨rfl, 0, rfl, obk_0⟩ ?_ ?_
  · rintro k v x hk ⟨rfl, u, rfl, hu⟩ K hK
    have lk := c4 _ (List.getElem_mem hk)
    rw [c2]
    refine ⟨fun z => absurd z (nI_ge hk (by omega)), fun _ => ub_atn (by omega) (by omega) ?_⟩
    rw [c5 k hk, gd_at hk]
    unfold w_Crowd_leftOut_j28
    refine LW2.up n (fun p v x => x = nI p ∧ ∃ u, v = nI u ∧ obk b n (fun k y => ∃ h : k < L.length, L[k] = y) w k p u) ⟨rfl, u, rfl, hu⟩ ?_ ?_
    · rintro p v x hp ⟨rfl, u, rfl, hu⟩ K2 hK2
      have hwl := wo_lt (p := p) (show 0 < b by omega) hp lk
      have hd : dg b n L[k] p < b := dg_lt (by omega)
      rw [f2]
      refine ⟨fun z => absurd z (nI_ge hp (by omega)), fun _ => x_without hF hP lk hp ⟨fun z => ?_, fun z => hK2 _ _ ⟨nI_1 p, u, rfl, obk_f hu (hM1 k hk) (fun e => z (by rw [e]))⟩⟩⟩
      refine x_figureOf hF hP (by omega) hp ?_
      rw [nI_bit' (by omega), nI_or]
      exact hK2 _ _ ⟨nI_1 p, _, rfl, obk_y (by omega) hb2 hu ⟨hk, rfl⟩ (hM1 k hk) hp ((nI_eq (by omega) hw).mp z)⟩
    · rintro v x ⟨rfl, u, rfl, hu⟩ K2
      rw [f2]
      exact ⟨fun _ => hK _ _ ⟨nI_1 k, u, rfl, obk_n hu⟩, fun z => absurd (nI_le (Nat.le_refl _) (by omega)) z⟩
  · rintro v x ⟨rfl, u, rfl, hu⟩ K
    rw [c2]
    refine ⟨fun _ => hQ u ⟨hu.1, fun d => (hu.2 d).trans ⟨fun ⟨j, y, q, ⟨hj, e⟩, _, q3, q4, q5⟩ => ⟨y, q, ?_, ?_, q3, q4, q5⟩, fun ⟨y, q, q1, q2, q3, q4, q5⟩ => ?_⟩⟩, fun z => absurd (nI_le (Nat.le_refl _) (by omega)) z⟩
    · rw [← e]; exact c4 _ (List.getElem_mem hj)
    · rw [← e]; exact (hL _).mp (List.getElem_mem hj)
    · obtain ⟨j, hj, e⟩ := List.getElem_of_mem ((hL y).mpr q2)
      exact ⟨j, y, q, ⟨hj, e⟩, Or.inl hj, q3, q4, q5⟩
theorem mm_out {N : Nat} {a : ud_St} {x y z : Int32} {t : TD} {Q : Int32 → ud_St → Prop} (hC : JC N a t) (h1 : ∀ c n w, c < 4 → n < 201 → w < t 0 0 ^ (t 0 1 - 1) → 0 < tS t → x = nI c → y = nI n → z = nI w → ∀ a' v, fr Psc a a' → obt (t 0 0) (t 0 1) (cb t c n) w v → Q (nI v) a') (h0 : (¬ ∃ c n w, c < 4 ∧ n < 201 ∧ w < t 0 0 ^ (t 0 1 - 1) ∧ 0 < tS t ∧ x = nI c ∧ y = nI n ∧ z = nI w) → Q (-2) (a71 a)) : w_Model_out a x y z Q := by
  obtain ⟨c1, c2, c3, -⟩ := JC_sc hC f0_sc
  have hb := t3_le c1
  have hS := tS_le c1
  unfold w_Model_out
  refine m_isCrowd c1 c3 (fun c n hc hn hp e e2 => t1 ⟨vi_2 (by omega), vi_0 (by omega), ?_⟩) (fun h => t0 (h0 (fun ⟨c, n, p, q1, q2, q3, q4, q5, q6, q7⟩ => h ⟨c, n, q1, q2, q4, q5, q6⟩)))
  have eS := tS_eq hp
  have hF := mF_of c1 c3 hp
  obtain ⟨f1, f2, f3, b1, b2, hn1, hn2, hS2⟩ := id hF
  have ed : t 0 0 ^ t 0 1 / t 0 0 = t 0 0 ^ (t 0 1 - 1) := by rw [pow_split hn1, Nat.mul_div_cancel _ (by omega)]
  have hle : t 0 0 ^ (t 0 1 - 1) ≤ t 0 0 ^ t 0 1 := Nat.pow_le_pow_right (by omega) (by omega)
  simp only [tN_0, tN_2]
  rw [f1, f3, ui_div (by omega) (by omega), ed]
  refine ⟨fun q => ?_, m_in0 (t 0 0 ^ (t 0 1 - 1)) (by omega) (hi_B (by omega)) (fun w hw e3 => t1 ?_) (fun h => t0 (h0 (fun ⟨_, _, p, _, _, q1, _, _, _, q2⟩ => h p q1 q2)))⟩
  · have := (nI_eq (b := 0) (by omega) (by omega)).mp q
    omega
  have hq := h1 c n w hc hn hw hp e e2 e3
  rw [e, e2, e3]
  refine m_behindN hC hp (by omega) (by omega) (fun a1 hf1 _ hB => ?_)
  have hF1 := mF_of (JC_sc hC hf1).1 (JC_sc hC hf1).2.2.1 hp
  rw [eS] at hB
  have hM1 : ∀ k y, (y = k ∧ cb t c n k) → y = k := fun k y h => h.1
  unfold w_Model_out_j54
  refine LW3.up (t 0 0 ^ t 0 1) (fun k v x b => x = nI k ∧ fr Ps a1 b ∧ ∃ u, v = nI u ∧ obk (t 0 0) (t 0 1) (fun k y => y = k ∧ cb t c n k) w k 0 u) ⟨rfl, fr.rf, 0, rfl, obk_0⟩ ?_ ?_
  · rintro k v x b hk ⟨rfl, hf, u, rfl, hu⟩ K hK
    have hFb := m_cells hF1 hf
    have hBb : mB b (cb t c n) (t 0 0 ^ t 0 1) := fun x hx => by rw [hf.1 90 x (by unfold Ps; omega)]; exact hB x hx
    simp only [tN_2, hFb.2.2.1]
    rw [nI_clamp (by omega)]
    refine ⟨vi_2 (by omega), fun z => absurd z (nI_ge hk (by omega)), fun _ => ⟨vp_in_nI (by omega) (by omega), mB_1 hBb hk (fun hPk => m_figures hFb (by omega) (fun e hf2 h83 => ?_)) (fun hPk => hK _ _ _ ⟨nI_1 k, hf, u, rfl, obk_skip hu (fun y h => hPk h.2)⟩)⟩⟩
    have hfe : fr Ps a1 e := hf.tr (hf2.mono (fun k j q => Or.inl q))
    have hFe := m_cells hF1 hfe
    unfold w_Model_out_j87
    refine LW2.up (t 0 1) (fun p v x => x = nI p ∧ ∃ u, v = nI u ∧ obk (t 0 0) (t 0 1) (fun k y => y = k ∧ cb t c n k) w k p u) ⟨rfl, u, rfl, hu⟩ ?_ ?_
    · rintro p v x hp ⟨rfl, u, rfl, hu⟩ K2 hK2
      have hwl := wo_lt (p := p) (show 0 < t 0 0 by omega) hp hk
      have hd : dg (t 0 0) (t 0 1) k p < t 0 0 := dg_lt (by omega)
      simp only [tN_1, hFe.2.1]
      refine ⟨vi_1 (by omega), fun z => absurd z (nI_ge hp (by omega)), fun _ => ?_⟩
      unfold w_Model_out_j104
      refine LW2.up (t 0 1) (fun j v x => x = nI j ∧ v = nI (wj (t 0 0) (t 0 1) k p j)) ⟨rfl, by rw [wj_0 hk]; rfl⟩ ?_ ?_
      · rintro j v x hj ⟨rfl, rfl⟩ K3 hK3
        simp only [tN_1, tN_0, hFe.2.1, hFe.1]
        rw [nI_clamp (show p < 2 ^ 31 by omega), nI_clamp (show j < 2 ^ 31 by omega), h83 j hj]
        refine ⟨vi_1 (by omega), fun z => absurd z (nI_ge hj (by omega)), fun _ => ⟨fun z => hK3 _ _ ⟨nI_1 j, ?_⟩, fun z => ⟨vi_0 (by omega), vp_in_nI (by omega) (by omega), hK3 _ _ ⟨nI_1 j, ?_⟩⟩⟩⟩
        · have := (nI_eq (by omega) (by omega)).mp z
          rw [this, wj_p (by omega)]
        · rw [ui_mul, nI_add, wj_s hj (fun e => z (by rw [e]))]
      · rintro v x ⟨rfl, rfl⟩ K3
        simp only [tN_1, hFe.2.1]
        rw [wj_n hp, nI_clamp (by omega), h83 p hp, nI_bit' (by omega), nI_or]
        refine ⟨vi_1 (by omega), fun _ => ⟨fun z => ⟨vp_in_nI (by omega) (by omega), hK2 _ _ ⟨nI_1 p, _, rfl, obk_y (by omega) (by omega) hu ⟨rfl, hPk⟩ (hM1 k) hp ((nI_eq (by omega) (by omega)).mp z)⟩⟩, fun z => hK2 _ _ ⟨nI_1 p, u, rfl, obk_f hu (hM1 k) (fun e => z (by rw [e]))⟩⟩, fun z => absurd (nI_le (Nat.le_refl _) (by omega)) z⟩
    · rintro v x ⟨rfl, u, rfl, hu⟩ K2
      simp only [tN_1, hFe.2.1]
      exact ⟨vi_1 (by omega), fun _ => hK _ _ _ ⟨nI_1 k, hfe, u, rfl, obk_n hu⟩, fun z => absurd (nI_le (Nat.le_refl _) (by omega)) z⟩
  · rintro v x b ⟨rfl, hf, u, rfl, hu⟩ K
    simp only [tN_2, (m_cells hF1 hf).2.2.1]
    refine ⟨vi_2 (by omega), fun _ => hq b u (hf1.tr (hf.mono (fun k j q => pg_sc k j (ps_g k j q)))) ⟨hu.1, fun d => (hu.2 d).trans ⟨fun ⟨j, y, q, ⟨e, q1⟩, q2, q3, q4, q5⟩ => ⟨y, q, by omega, by rw [e]; exact q1, q3, q4, q5⟩, fun ⟨y, q, q1, q2, q3, q4, q5⟩ => ⟨y, y, q, ⟨rfl, q2⟩, Or.inl q1, q3, q4, q5⟩⟩⟩, fun z => absurd (nI_le (Nat.le_refl _) (by omega)) z⟩
theorem s_out (i : Nat) (hi : i < 512) : us_out (J i) (J (i + 1)) := by
  intro N a x y z hJ
  obtain ⟨t, hC, hX⟩ := id hJ
  have hS := tS_le hC.1
  have hb := t3_le hC.1
  unfold w_UpAndDown_out
  have no : (¬ ∃ c n w, c < 4 ∧ n < 201 ∧ w < t 0 0 ^ (t 0 1 - 1) ∧ 0 < tS t ∧ x = nI c ∧ y = nI n ∧ z = nI w) → w_Model_out a x y z (fun r' a2 => (-2 : Int32) = r' ∧ J (i + 1) N a2) := fun h => mm_out hC (fun c n p q1 q2 q3 q4 q5 q6 q7 => absurd ⟨c, n, p, q1, q2, q3, q4, q5, q6, q7⟩ h) (fun _ => ⟨rfl, J_sc hJ f0_sc⟩)
  refine x_isCrowd hC.1 hC.2.1 (fun c hc hp e => t1 (x_isBehind (fun n hn e2 => t1 ?_) (fun h => t0 (no (fun ⟨_, n, _, _, q1, _, _, _, q2, _⟩ => h n q1 q2))))) (fun h => t0 (no (fun ⟨c, _, _, q1, _, _, q2, q3, _⟩ => h ⟨c, q1, q2, q3⟩)))
  have eS := tS_eq hp
  obtain ⟨f1, f2, f3⟩ := xF_of hC.1 hX.1 hp
  have b1 := f1.2.2.2.1
  have hn1 := f1.2.2.2.2.2.1
  have hle : t 0 0 ^ (t 0 1 - 1) ≤ t 0 0 ^ t 0 1 := Nat.pow_le_pow_right (by omega) (by omega)
  have no2 : (∀ w, w < t 0 0 ^ (t 0 1 - 1) → z ≠ nI w) → w_Model_out a x y z (fun r' a2 => (-2 : Int32) = r' ∧ J (i + 1) N a2) := fun h => no (fun ⟨_, _, w, _, _, q1, _, _, _, q2⟩ => h w q1 q2)
  rw [hC.2.1.2.1, ui_pred (by omega)]
  have go : ∀ w, w < t 0 0 ^ (t 0 1 - 1) → z = nI w → w_UpAndDown_known a (fun a_8 => w_UpAndDown_behind a_8 x y (fun a_10 => w_Crowd_leftOut a_10 z (fun r_11 => w_Model_out a_10 x y z (fun r' a2 => r_11 = r' ∧ J (i + 1) N a2)))) := fun w hw e3 => by
    subst e e2 e3
    refine x_know hC hX hp (fun a1 mk hmk hK => x_crowd hK hp hc hn (by omega) (fun a2 mk' L hK' m1 _ hcH h3 h4 => ?_))
    obtain ⟨f1, f2, f3⟩ := xF_of hK'.1.1 hK'.2.1 hp
    refine x_leftOut2 f1 f2 (by rw [← eS]; exact hcH.1) hcH.2.1 (by omega) (fun v hv => ?_)
    refine mm_out hK'.1 (fun c' n' p' q1 q2 q3 q4 q5 q6 q7 a3 r' hf hr' => ⟨?_, t, JC_sc hK'.1 hf, JX_sc (xK_J (i := i + 1) hK' (by omega) (by omega)) (Nat.le_refl _) hf⟩) (fun h => absurd ⟨c, n, w, hc, hn, hw, hp, rfl, rfl, rfl⟩ h)
    rw [← (nI_eq (by omega) (by omega)).mp q5, ← (nI_eq (by omega) (by omega)).mp q6, ← (nI_eq (by omega) (by omega)).mp q7] at hr'
    rw [obt_one hv hr']
  refine ⟨fun q => no2 (fun w hw e3 => ?_), fun q => x_power f1 f2 (by omega) ?_⟩
  · rw [e3] at q; exact nI_pos (by omega) q
  · obtain ⟨w, hw, e3⟩ := nI_of q
    refine ⟨fun z2 => ?_, fun z2 => no2 (fun w' hw' e' => z2 ?_)⟩
    · rw [e3] at z2
      exact go w ((nI_ltI hw (by omega)).mp z2) e3
    · rw [e']; exact nI_lt hw' (by omega)
