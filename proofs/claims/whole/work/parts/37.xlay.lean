/-! x's rounds of all numbers, and what comes to each -/
def Pgb (k j : Nat) : Prop := k = 38 ∨ k = 39 ∨ (k = 36 ∧ j = 14)
/-- what x knows of all numbers -/
def xR (a : ud_St) (g : Nat → Nat) (S : Nat) : Prop := xN a g S ∧ (∀ x, x < S → a.1 38 x = nI (tl g x) ∧ a.1 39 x = nI (rk g (hm g x))) ∧ (∀ h, h < S → hb g h = true → a.1 40 (rk g h) = nI h) ∧ a.1 36 10 = nI (rk g S) ∧ a.1 36 11 = nI (rs g S) ∧ bR g S (a.1 36 12) (a.1 36 13) ∧ ∃ m, a.1 36 14 = nI m ∧ (∀ z, z < S → tl g z ≤ m) ∧ ∃ z, z < S ∧ tl g z = m
theorem x_goBack {a : ud_St} {g : Nat → Nat} {S q : Nat} {f : Nat → Nat} {Q : ud_St → Prop} (hN : xN a g S) (hS0 : 0 < S) (hq : qEnd a g S q f) (hn : nR a g S S) (hQ : ∀ a', fr Pgb a a' → xR a' g S → Q a') : w_Paths_goBack a (nI q) Q := by
  obtain ⟨h0, hS, hg, h37⟩ := id hN
  obtain ⟨q0, q1, q2, q3, q4⟩ := hq
  obtain ⟨n1, n2, n3, n4, n5, n6, n7⟩ := hn
  have hhm := fun z (hz : z < S) => (hm_sp hg hz).2.2
  have hrkS : rk g S ≤ S := fb_ct_le _ S
  unfold w_Paths_goBack
  refine LW2.up q (fun s i b => i = nI (q - s) - 1 ∧ fr Pgb a b ∧ (∀ z, z < S → (per g z ∨ ∃ k, q - s ≤ k ∧ k < q ∧ f k = z) → b.1 38 z = nI (tl g z) ∧ b.1 39 z = nI (rk g (hm g z))) ∧ ∃ m, b.1 36 14 = nI m ∧ m < S ∧ (∀ k, q - s ≤ k → k < q → tl g (f k) ≤ m) ∧ ∃ z, z < S ∧ tl g z = m) ⟨rfl, fr.rf.sv (by unfold Pgb; omega), fun z hz h => ?_, 0, ?_, hS0, fun k _ _ => by omega, hm g 0, hhm 0 hS0, (tl_0 hg (hhm 0 hS0)).mpr (hm_sp hg hS0).1⟩ ?_ ?_
  · rcases h with hp | ⟨k, hk1, hk2, hk3⟩
    · have := n1 z hz hp (hhm z hz)
      rw [us_1, if_neg (by omega), us_1, if_neg (by omega), this.2.1, (tl_0 hg hz).mpr hp]
      exact ⟨rfl, this.2.2⟩
    · omega
  · rw [us_1, if_pos ⟨rfl, rfl⟩]; rfl
  · rintro s i b hs ⟨rfl, hf, hd, m, m1, m2, m3, m4⟩ K hK
    rw [ui_pred (by omega : 0 < q - s)]
    have hk : q - s - 1 < q := by omega
    obtain ⟨x, hx⟩ : ∃ x, f (q - s - 1) = x := ⟨_, rfl⟩
    have hq1 := q1 _ hk
    rw [hx] at hq1
    have hgx := hg x hq1.1
    have hN' : ∀ c, fr Pgb a c → xN c g S := fun c hc => xN_fr hN hc (fun x => by unfold Pgb; omega) (by unfold Pgb; omega)
    have hnp : ¬ per g x := (q3 x hq1.1).mp ⟨_, hk, hx⟩
    have htx : 0 < tl g x := Nat.pos_of_ne_zero (fun e => hnp ((tl_0 hg hq1.1).mp e))
    have htg := tl_g hg hq1.1
    have htl := (tl_sp hg hq1.1).2.2
    have hd2 := hd (g x) hgx (by
      by_cases hp : per g (g x)
      · exact Or.inl hp
      · obtain ⟨k, hk1, hk2⟩ := (q3 _ hgx).mpr hp
        obtain ⟨l, hl1, hl2⟩ := q4 k hk1 x hq1.1 hk2.symm
        have hlk : l = q - s - 1 := by
          rcases Nat.lt_trichotomy l (q - s - 1) with w | w | w
          · exact absurd (hl2.trans hx.symm) (q2 _ _ w hk)
          · exact w
          · exact absurd (hx.trans hl2.symm) (q2 _ _ w (by omega))
        exact Or.inr ⟨k, by omega, hk1, hk2⟩)
    have htg1 : tl g (g x) + 1 = tl g x := by omega
    refine ⟨fun w => absurd w (nI_pos (by omega)), fun _ => ub_atn (by omega) (by omega) ?_⟩
    rw [hf.1 42 _ (by unfold Pgb; omega), hq1.2]
    refine x_nextOf (hN' b hf) hq1.1 ?_
    unfold w_Paths_tailOf w_Paths_homeOf
    refine ub_atn (by omega) (by omega) ?_
    rw [hd2.1]
    dsimp only
    rw [nI_1, htg1]
    refine ub_putn (by omega) (by omega) ?_
    have hf2 : fr Pgb a (ud_sv b 38 x (nI (tl g x))) := hf.sv (by unfold Pgb; omega)
    refine x_nextOf (hN' _ hf2) hq1.1 (ub_atn (by omega) (by omega) ?_)
    rw [us_1, if_neg (by omega), hd2.2, hm_g hg hq1.1]
    refine ub_putn (by omega) (by omega) ?_
    have e14 : (ud_sv (ud_sv b 38 x (nI (tl g x))) 39 x (nI (rk g (hm g x)))).1 36 14 = nI m := by
      rw [us_1, if_neg (by omega), us_1, if_neg (by omega)]; exact m1
    rw [e14, ui_m1]
    have e15 : (if nI m < nI (tl g x) then nI (tl g x) else nI m) = nI (max m (tl g x)) := by
      by_cases w : m < tl g x
      · rw [if_pos (nI_lt w (by omega)), Nat.max_eq_right (by omega)]
      · rw [if_neg (nI_nlt (by omega) (by omega)), Nat.max_eq_left (by omega)]
    rw [e15]
    refine hK _ _ ⟨by rw [Nat.sub_sub], ((hf2.sv (by unfold Pgb; omega)).sv (by unfold Pgb; omega)), fun z hz h => ?_, max m (tl g x), by rw [us_1, if_pos ⟨rfl, rfl⟩], by omega, fun k hk1 hk2 => ?_, ?_⟩
    · by_cases e : z = x
      · rw [e]; simp [us_1]
      · have := hd z hz (h.imp_right (fun ⟨k, z1, z2, z3⟩ => ⟨k, by
          rcases Nat.lt_or_ge k (q - s) with w | w
          · exact absurd (by rw [← z3, show k = q - s - 1 by omega]; exact hx) e
          · exact w, z2, z3⟩))
        simpa [us_1, e] using this
    · by_cases e : k = q - s - 1
      · rw [e, hx]; omega
      · have := m3 k (by omega) hk2
        omega
    · by_cases w : m < tl g x
      · exact ⟨x, hq1.1, by omega⟩
      · obtain ⟨z, z1, z2⟩ := m4
        exact ⟨z, z1, by omega⟩
  · rintro i b ⟨rfl, hf, hd, m, m1, m2, m3, m4⟩ K
    rw [Nat.sub_self] at *
    refine ⟨fun _ => hQ b hf ⟨xN_fr hN hf (fun x => by unfold Pgb; omega) (by unfold Pgb; omega), fun z hz => hd z hz ?_, fun h hh hbh => (hf.1 40 _ (by unfold Pgb; omega)).trans (n4 h hh hbh), (hf.1 36 10 (by unfold Pgb; omega)).trans n5, (hf.1 36 11 (by unfold Pgb; omega)).trans n6, ?_, m, m1, fun z hz => ?_, m4⟩, fun w => absurd ui_end w⟩
    · by_cases hp : per g z
      · exact Or.inl hp
      · obtain ⟨k, hk1, hk2⟩ := (q3 z hz).mpr hp
        exact Or.inr ⟨k, Nat.zero_le _, hk1, hk2⟩
    · rw [hf.1 36 12 (by unfold Pgb; omega), hf.1 36 13 (by unfold Pgb; omega)]; exact n7
    · by_cases hp : per g z
      · rw [(tl_0 hg hz).mpr hp]; omega
      · obtain ⟨k, hk1, hk2⟩ := (q3 z hz).mpr hp
        rw [← hk2]
        exact m3 k (Nat.zero_le _) hk1
/-- x's ways -/
def Pp (k _j : Nat) : Prop := 36 ≤ k ∧ k ≤ 44
theorem xF_pp {a a' : ud_St} {b n : Nat} (h : xF a b n) (hf : fr Pp a a') : xF a' b n := by
  obtain ⟨h1, h2, h3, h4⟩ := h
  exact ⟨(hf.1 26 0 (by unfold Pp; omega)).trans h1, (hf.1 26 1 (by unfold Pp; omega)).trans h2, (hf.1 26 2 (by unfold Pp; omega)).trans h3, h4⟩
theorem xG_pp {a a' : ud_St} {b n : Nat} (h : xG a b n) (hf : fr Pp a a') : xG a' b n := fun x hx => by
  have e : ∀ k, k ≤ 35 → a'.1 k x = a.1 k x := fun k _ => hf.1 k x (by unfold Pp; omega)
  obtain ⟨g1, g2, g3, g4, g5, g6, g7⟩ := h x hx
  exact ⟨(e 29 (by omega)).trans g1, (e 30 (by omega)).trans g2, (e 31 (by omega)).trans g3, (e 32 (by omega)).trans g4, (e 33 (by omega)).trans g5, (e 34 (by omega)).trans g6, (e 35 (by omega)).trans g7⟩
theorem xW_fr {a a' : ud_St} {k cnt : Nat} {ws wn : Nat → Nat} (h : xW a k cnt ws wn) (h0 : a'.1 k 2 = a.1 k 2) (h1 : ∀ j, a'.1 (k + 1) j = a.1 (k + 1) j) (h2 : ∀ j, a'.1 (k + 2) j = a.1 (k + 2) j) : xW a' k cnt ws wn := ⟨h.1, h0.trans h.2.1, fun i hi => ⟨(h1 i).trans (h.2.2 i hi).1, (h2 i).trans (h.2.2 i hi).2.1, (h.2.2 i hi).2.2⟩⟩
theorem x_lay {a : ud_St} {k2 b n cnt : Nat} {ws wn : Nat → Nat} {Q : ud_St → Prop} (hF : xF a b n) (hG : xG a b n) (hW : xW a k2 cnt ws wn) (hk : k2 ≤ 33 ∨ 45 ≤ k2) (hQ : ∀ a', fr Pp a a' → xR a' (gx b n cnt ws wn) (b ^ n) → a'.1 36 9 = 0 → Q a') : w_Paths_lay a k2 Q := by
  obtain ⟨h1, h2, h3, hb, hb2, hn, hn2, hS⟩ := id hF
  have hp : 0 < b ^ n := Nat.pow_pos (by omega)
  have hg : ∀ x, x < b ^ n → gx b n cnt ws wn x < b ^ n := fun x hx => gx_lt hb hn hx
  unfold w_Paths_lay
  have hf0 : fr Pp a (ud_sv (ud_sv a 36 9 0) 36 0 ((ud_sv a 36 9 0).1 26 2)) := (fr.rf.sv (by unfold Pp; omega)).sv (by unfold Pp; omega)
  refine LW2.up (b ^ n) (fun t x c => x = nI t ∧ fr Pp a c ∧ c.1 36 9 = 0 ∧ c.1 36 0 = nI (b ^ n) ∧ ∀ z, z < t → c.1 37 z = nI (gx b n cnt ws wn z)) ⟨rfl, hf0, by simp [us_1], by simp [us_1, h3], fun z hz => by omega⟩ ?_ ?_
  · rintro t x c ht ⟨rfl, hf, c9, c0, hd⟩ K hK
    have hWc : xW c k2 cnt ws wn := xW_fr hW (hf.1 k2 2 (by unfold Pp; omega)) (fun j => hf.1 (k2 + 1) j (by unfold Pp; omega)) (fun j => hf.1 (k2 + 2) j (by unfold Pp; omega))
    rw [c0, hWc.2.1]
    refine ⟨fun w => absurd w (nI_ge ht (by omega)), fun _ => x_go (xF_pp hF hf) (xG_pp hG hf) hWc ht (Nat.le_refl _) (ub_putn (by omega) (by omega) (hK _ _ ⟨nI_1 t, hf.sv (by unfold Pp; omega), ?_, ?_, fun z hz => ?_⟩))⟩
    · rw [us_1, if_neg (by omega)]; exact c9
    · rw [us_1, if_neg (by omega)]; exact c0
    · rw [us_1]
      by_cases e : z = t
      · rw [if_pos ⟨rfl, e⟩, e]; rfl
      · rw [if_neg (fun w => e w.2)]; exact hd z (by omega)
  · rintro x c ⟨rfl, hf, c9, c0, hd⟩ K
    rw [c0]
    refine ⟨fun _ => ?_, fun w => absurd (nI_le (Nat.le_refl _) (by omega)) w⟩
    have hN : xN c (gx b n cnt ws wn) (b ^ n) := ⟨c0, hS, hg, hd⟩
    refine x_peel hN (fun c1 q f hf1 hq hw => ?_)
    have hN1 := hN.pq hf1
    refine x_nameRounds hN1 hw (fun c2 hf2 hn2 => ?_)
    have hN2 := xN_nm hN1 hf2
    have hq2 : qEnd c2 (gx b n cnt ws wn) (b ^ n) q f := ⟨hq.1, fun k hk => ⟨(hq.2.1 k hk).1, (hf2.1 42 k (by unfold Pnm Pw; omega)).trans (hq.2.1 k hk).2⟩, hq.2.2⟩
    refine x_goBack hN2 hp hq2 hn2 (fun c3 hf3 hR => hQ c3 ?_ hR ?_)
    · refine ((hf.tr (hf1.mono (fun k j w => ?_))).tr (hf2.mono (fun k j w => ?_))).tr (hf3.mono (fun k j w => ?_))
      · unfold Pq at w; unfold Pp; omega
      · unfold Pnm Pw at w; unfold Pp; omega
      · unfold Pgb at w; unfold Pp; omega
    · rw [hf3.1 36 9 (by unfold Pgb; omega), hf2.1 36 9 (by unfold Pnm Pw; omega), hf1.1 36 9 (by unfold Pq; omega)]
      exact c9
/-! what comes to each in one go -/
def sp (g : Nat → Nat) (S y : Nat) : Nat := fb_sm (fun y => pc g y S) y
theorem sp_s (g : Nat → Nat) (S y : Nat) : sp g S (y + 1) = sp g S y + pc g y S := rfl
theorem fb_sm_one (c : Nat) : ∀ S, fb_sm (fun y => if c = y then 1 else 0) S = if c < S then 1 else 0
  | 0 => by simp [fb_sm]
  | S + 1 => by
    rw [fb_sm_succ, fb_sm_one c S]
    by_cases h : c < S
    · rw [if_pos h, if_neg (by omega), if_pos (by omega)]
    · by_cases h2 : c = S
      · rw [if_neg h, if_pos h2, if_pos (by omega)]
      · rw [if_neg h, if_neg h2, if_neg (by omega)]
theorem sp_tot {g : Nat → Nat} {S : Nat} : ∀ n, (∀ z, z < n → g z < S) → fb_sm (fun y => pc g y n) S = n
  | 0, _ => by
    have := fb_sm_const 0 S
    rw [Nat.mul_zero] at this
    exact this
  | n + 1, h => by
    have e : fb_sm (fun y => pc g y (n + 1)) S = fb_sm (fun y => pc g y n + (if g n = y then 1 else 0)) S := fb_sm_cong (fun k _ => pc_s g k n)
    rw [e, fb_sm_add, sp_tot n (fun z hz => h z (by omega)), fb_sm_one, if_pos (h n (by omega))]
theorem sp_le {g : Nat → Nat} {S y : Nat} (hg : ∀ z, z < S → g z < S) (hy : y ≤ S) : sp g S y ≤ S := by
  have h1 := fb_sm_mono (fun y => pc g y S) y (S - y)
  rw [Nat.add_sub_cancel' hy, sp_tot S hg] at h1
  exact h1
theorem pc_mono (g : Nat → Nat) (y : Nat) {m n : Nat} (h : m ≤ n) : pc g y m ≤ pc g y n := fb_ct_mono _ h
theorem pc_lt {g : Nat → Nat} {S z : Nat} (hz : z < S) : pc g (g z) z < pc g (g z) S := by
  have h1 := pc_s g (g z) z
  rw [if_pos rfl] at h1
  have h2 := pc_mono g (g z) (show z + 1 ≤ S from hz)
  omega
/-- where z stands -/
def ps (g : Nat → Nat) (S z : Nat) : Nat := sp g S (g z) + pc g (g z) z
theorem ps_lt {g : Nat → Nat} {S z : Nat} (hg : ∀ z, z < S → g z < S) (hz : z < S) : ps g S z < S := by
  have h1 := sp_le (g := g) hg (show g z + 1 ≤ S from hg z hz)
  rw [sp_s] at h1
  have h2 := pc_lt (g := g) hz
  unfold ps
  omega
theorem sp_mono (g : Nat → Nat) (S : Nat) {y z : Nat} (h : y ≤ z) : sp g S y ≤ sp g S z := by
  have h1 := fb_sm_mono (fun y => pc g y S) y (z - y)
  rw [Nat.add_sub_cancel' h] at h1
  exact h1
theorem ps_inj {g : Nat → Nat} {S y z : Nat} (hy : y < S) (hz : z < S) (e : ps g S y = ps g S z) : y = z := by
  have a1 := pc_lt (g := g) hy
  have a2 := pc_lt (g := g) hz
  unfold ps at e
  rcases Nat.lt_trichotomy (g y) (g z) with w | w | w
  · have := sp_mono g S (show g y + 1 ≤ g z from w)
    rw [sp_s] at this
    omega
  · rw [w] at e a1
    have e2 : pc g (g z) y = pc g (g z) z := by omega
    exact fb_ct_kth_one (p := fun k => decide (g k = g z)) (decide_eq_true w) (decide_eq_true rfl) e2
  · have := sp_mono g S (show g z + 1 ≤ g y from w)
    rw [sp_s] at this
    omega
def Pli (k _j : Nat) : Prop := k = 43 ∨ k = 44
/-- what comes to each, as x has it -/
def xI (a : ud_St) (g : Nat → Nat) (S : Nat) : Prop := (∀ y, y ≤ S → a.1 43 y = nI (sp g S y)) ∧ ∀ z, z < S → a.1 44 (ps g S z) = nI z
theorem x_startMore {a : ud_St} {x : Nat} {v : Int32} {Q : ud_St → Prop} (hx : x < 10001) (hQ : Q (ud_sv a 43 x (a.1 43 x + v))) : w_Paths_startMore a (nI x) v Q := by
  unfold w_Paths_startMore
  exact ub_atn (by omega) (by omega) (ub_putn (by omega) (by omega) hQ)
theorem x_listInto {a : ud_St} {g : Nat → Nat} {S : Nat} {Q : ud_St → Prop} (hN : xN a g S) (hS0 : 0 < S) (hQ : ∀ a', fr Pli a a' → xI a' g S → Q a') : w_Paths_listInto a Q := by
  obtain ⟨h0, hS, hg, h37⟩ := id hN
  have hN' : ∀ c, fr Pli a c → xN c g S := fun c hc => xN_fr hN hc (fun x => by unfold Pli; omega) (by unfold Pli; omega)
  unfold w_Paths_listInto w_Paths_listInto_j2
  refine LW2.up (S + 1) (fun t x b => x = nI t ∧ fr Pli a b ∧ ∀ y, y < t → b.1 43 y = 0) ⟨rfl, fr.rf, fun y hy => by omega⟩ ?_ ?_
  · rintro t x b ht ⟨rfl, hf, hd⟩ K hK
    rw [(hN' b hf).1]
    refine ⟨fun w => absurd w (nI_nlt (by omega) (by omega)), fun _ => ub_putn (by omega) (by omega) (hK _ _ ⟨nI_1 t, hf.sv (by unfold Pli; omega), fun y hy => ?_⟩)⟩
    rw [us_1]
    by_cases e : y = t
    · rw [if_pos ⟨rfl, e⟩]
    · rw [if_neg (fun w => e w.2)]; exact hd y (by omega)
  rintro x b ⟨rfl, hf, hd⟩ K
  rw [(hN' b hf).1]
  refine ⟨fun _ => ?_, fun w => absurd (nI_lt (Nat.lt_succ_self S) (by omega)) w⟩
  unfold w_Paths_listInto_j27
  refine LW2.up S (fun t x b => x = nI t ∧ fr Pli a b ∧ ∀ y, y ≤ S → b.1 43 y = nI (pc g y t)) ⟨rfl, hf, fun y hy => by rw [hd y (by omega)]; rfl⟩ ?_ ?_
  · rintro t x b ht ⟨rfl, hf, hd⟩ K hK
    rw [(hN' b hf).1]
    have hgt := hg t ht
    refine ⟨fun w => absurd w (nI_ge ht (by omega)), fun _ => x_nextOf (hN' b hf) ht (x_startMore (by omega) (hK _ _ ⟨nI_1 t, hf.sv (Or.inl rfl), fun y hy => ?_⟩))⟩
    rw [us_1, pc_s]
    by_cases e : y = g t
    · rw [if_pos ⟨rfl, e⟩, if_pos e.symm, hd _ (by omega), ← e]; exact nI_1 _
    · rw [if_neg (fun w => e w.2), if_neg (fun w => e w.symm)]; exact hd y hy
  rintro x b ⟨rfl, hf, hd⟩ K
  rw [(hN' b hf).1]
  refine ⟨fun _ => ?_, fun w => absurd (nI_le (Nat.le_refl S) (by omega)) w⟩
  unfold w_Paths_listInto_j53
  refine LW2.up S (fun t x b => x = nI (t + 1) ∧ fr Pli a b ∧ ∀ y, y ≤ S → b.1 43 y = nI (if y ≤ t then sp g S (y + 1) else pc g y S)) ⟨rfl, hf, fun y hy => ?_⟩ ?_ ?_
  · by_cases e : y ≤ 0
    · have e0 : y = 0 := by omega
      rw [if_pos e, hd y hy, e0, sp_s]
      have : sp g S 0 = 0 := rfl
      rw [this, Nat.zero_add]
    · rw [if_neg e]; exact hd y hy
  · rintro t x b ht ⟨rfl, hf, hd⟩ K hK
    rw [(hN' b hf).1, ui_pred (by omega : 0 < t + 1), Nat.add_sub_cancel]
    refine ⟨fun w => absurd ((nI_ltI (by omega) (by omega)).mp w) (by omega), fun _ => ub_atn (by omega) (by omega) ?_⟩
    refine x_startMore (by omega) (hK _ _ ⟨nI_1 _, hf.sv (Or.inl rfl), fun y hy => ?_⟩)
    rw [us_1]
    by_cases e : y = t + 1
    · rw [if_pos ⟨rfl, e⟩, hd t (by omega), hd (t + 1) (by omega), if_pos (Nat.le_refl t), if_neg (by omega), if_pos (by omega), e, nI_add]
      congr 1
      rw [sp_s g S (t + 1), Nat.add_comm]
    · rw [if_neg (fun w => e w.2), hd y hy]
      by_cases e2 : y ≤ t
      · rw [if_pos e2, if_pos (by omega)]
      · rw [if_neg e2, if_neg (by omega)]
  rintro x b ⟨rfl, hf, hd⟩ K
  rw [(hN' b hf).1]
  refine ⟨fun _ => ?_, fun w => absurd (nI_lt (Nat.lt_succ_self S) (by omega)) w⟩
  unfold w_Paths_listInto_j89
  refine LW2.up S (fun s x b => x = nI (S - s) - 1 ∧ fr Pli a b ∧ (∀ y, y ≤ S → b.1 43 y = nI (sp g S y + pc g y (S - s))) ∧ ∀ z, S - s ≤ z → z < S → b.1 44 (ps g S z) = nI z) ⟨rfl, hf, fun y hy => ?_, fun z _ _ => by omega⟩ ?_ ?_
  · rw [hd y hy, if_pos hy, sp_s, Nat.sub_zero]
  · rintro s x b hs ⟨rfl, hf, hd, he⟩ K hK
    have hN1 := hN' b hf
    rw [ui_pred (by omega : 0 < S - s)]
    obtain ⟨z, hz⟩ : ∃ z, S - s - 1 = z := ⟨_, rfl⟩
    rw [hz]
    have hgz := hg z (by omega)
    have hps := ps_lt (g := g) hg (show z < S by omega)
    refine ⟨fun w => absurd w (nI_pos (by omega)), fun _ => x_nextOf hN1 (by omega) (x_startMore (by omega) ?_)⟩
    have e43 : b.1 43 (g z) + -1 = nI (ps g S z) := by
      rw [hd _ (by omega), show S - s = z + 1 by omega, pc_s, if_pos rfl, ← Nat.add_assoc]
      exact pk_m1 _
    rw [e43]
    have hf2 : fr Pli a (ud_sv b 43 (g z) (nI (ps g S z))) := hf.sv (Or.inl rfl)
    refine x_nextOf (hN' _ hf2) (by omega) (ub_atn (by omega) (by omega) ?_)
    rw [us_1, if_pos ⟨rfl, rfl⟩]
    refine ub_putn (by omega) (by omega) ?_
    rw [ui_m1]
    refine hK _ _ ⟨by rw [show S - (s + 1) = z by omega], hf2.sv (Or.inr rfl), fun y hy => ?_, fun u hu1 hu2 => ?_⟩
    · rw [us_1, if_neg (by omega), us_1, show S - (s + 1) = z by omega]
      by_cases e : y = g z
      · rw [if_pos ⟨rfl, e⟩, e]; rfl
      · rw [if_neg (fun w => e w.2), hd y hy, show S - s = z + 1 by omega, pc_s, if_neg (fun w => e w.symm)]
        rfl
    · rw [us_1]
      by_cases e : u = z
      · rw [if_pos ⟨rfl, by rw [e]⟩, e]
      · rw [if_neg (fun w => e (ps_inj (by omega) (by omega) w.2)), us_1, if_neg (by omega)]
        exact he u (by omega) hu2
  · rintro x b ⟨rfl, hf, hd, he⟩ K
    rw [Nat.sub_self] at *
    refine ⟨fun _ => hQ b hf ⟨fun y hy => ?_, fun z hz => he z (Nat.zero_le _) hz⟩, fun w => absurd ui_end w⟩
    rw [hd y hy]
    rfl
