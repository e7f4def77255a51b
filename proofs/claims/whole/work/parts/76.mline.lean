/-! table: the model's lines -/
def mln (a0 a : ud_St) (f : Nat → Nat) (c : Nat) (R' : TK) (t' : TD) : Prop := mat a0 a f c R' ∧ mP a t'
theorem bo_no {b v : Nat} (hb : 2 ≤ b) (h : ¬ v ≤ bo b) (h8 : v ≤ 8) : 10000 < b ^ v := by
  have h1 := (bo_sp b).2.2 (by omega)
  exact Nat.lt_of_lt_of_le h1 (Nat.pow_le_pow_right (by omega) (by omega))
theorem num_hi {f : Nat → Nat} {c lo hi hi2 : Nat} {R : TK} (h : R.1 = 2 → (lo ≤ nv f R.2.1 (R.2.2 - R.2.1) → (nv f R.2.1 (R.2.2 - R.2.1) ≤ hi ↔ nv f R.2.1 (R.2.2 - R.2.1) ≤ hi2))) : num f c R lo hi = num f c R lo hi2 := by
  unfold num
  by_cases e : R.1 = 2
  · rw [if_pos e, if_pos e]
    have := h e
    by_cases q : lo ≤ nv f R.2.1 (R.2.2 - R.2.1)
    · have h2 := this q
      by_cases q2 : nv f R.2.1 (R.2.2 - R.2.1) ≤ hi
      · rw [if_pos ⟨q, q2⟩, if_pos ⟨q, h2.mp q2⟩]
      · rw [if_neg (fun w => q2 w.2), if_neg (fun w => q2 (h2.mpr w.2))]
    · rw [if_neg (fun w => q w.1), if_neg (fun w => q w.1)]
  · rw [if_neg e, if_neg e]
theorem tN24 : Int32.toNatClampNeg 24 = 24 := nI_clamp (n := 24) (by omega)
theorem tN25 : Int32.toNatClampNeg 25 = 25 := nI_clamp (n := 25) (by omega)
theorem tN26 : Int32.toNatClampNeg 26 = 26 := nI_clamp (n := 26) (by omega)
theorem tN27 : Int32.toNatClampNeg 27 = 27 := nI_clamp (n := 27) (by omega)
theorem tN28 : Int32.toNatClampNeg 28 = 28 := nI_clamp (n := 28) (by omega)
theorem tN29 : Int32.toNatClampNeg 29 = 29 := nI_clamp (n := 29) (by omega)
theorem m_j84t {a0 a : ud_St} {e : Nat × Nat} {Q : ud_St → Prop} (h : mbad a0 a e) (hQ : ∀ a', mbad a0 a' e → Q a') : vp_in (25 : Int32) 30 ∧ (w_Model_many (ud_sv a 78 25 (1 : Int32)) (0 : Int32) (fun r_11 => w_Model_many (ud_sv a 78 25 (1 : Int32)) (1 : Int32) (fun r_13 => w_Model_power (ud_sv a 78 25 (1 : Int32)) r_11 r_13 (fun r_15 => vp_in (26 : Int32) 30 ∧ (Q (ud_sv (ud_sv a 78 25 (1 : Int32)) 78 26 r_15)))))) := by
  refine ⟨vp_in_nI (n := 25) (by omega) (by omega), m_many (j := 0) (by omega) (m_many (j := 1) (by omega) ?_)⟩
  rw [show (ud_sv a 78 25 (1 : Int32)).1 78 (24 + 1) = nI 1 from rfl]
  unfold w_Model_power
  refine LW2.up 1 (fun i v x => x = nI i ∧ (i = 0 → v = 1)) ⟨rfl, fun _ => rfl⟩ ?_ ?_
  · rintro i v x hi ⟨rfl, hv⟩ K hK
    rw [hv (by omega)]
    exact ⟨fun z => absurd z (nI_ge hi (by omega)), fun _ => ⟨fun z => absurd z (by decide), fun _ => hK _ _ ⟨nI_1 i, fun q => by omega⟩⟩⟩
  · rintro v x ⟨rfl, hv⟩ K
    exact ⟨fun _ => ⟨vp_in_nI (n := 26) (by omega) (by omega), hQ _ (mbad_sv (mbad_sv h (by unfold Pmr; omega) (by omega)) (show Pmr 78 26 by unfold Pmr; omega) (by omega))⟩, fun z => absurd (nI_le (Nat.le_refl _) (by omega)) z⟩
theorem m_j84B {a0 a x : ud_St} {e : Nat × Nat} {Q : ud_St → Prop} (h : mbad a0 a e) (hQ : ∀ a', mbad a0 a' e → Q a') : w_Model_first_j84 x a Q := by
  unfold w_Model_first_j84
  simp only [tN25, tN26]
  exact m_numberB h (m_j84t h hQ)
theorem m_first {a0 a : ud_St} {f : Nat → Nat} {c : Nat} {R : TK} {Q : ud_St → Prop} (h : mat a0 a f c R) (hp : mP a t00) (h1 : ∀ R' t', lnB f c R t00 = .ok (R', t') → ∀ a', fm Pmr a a' → a'.1 71 21 = a.1 71 21 → mln a0 a' f c R' t' → Q a') (h0 : ∀ e, lnB f c R t00 = .error e → ∀ a', mbad a0 a' e → Q a') : w_Model_first a Q := by
  have pm : ∀ k j, Pnx k j → Pmr k j := fun k j q => by unfold Pnx at q; unfold Pmr; omega
  have v24 : vp_in (24 : Int32) 30 := vp_in_nI (n := 24) (by omega) (by omega)
  unfold lnB at h1 h0
  unfold w_Model_first w_Model_number_
  -- behind a fault
  have B2 : ∀ b e r, mbad a0 b e → 2 ≤ r → r ≤ 16 → (∀ a', mbad a0 a' e → Q a') → vp_in (24 : Int32) 30 ∧ w_Model_asks (ud_sv b 78 (Int32.toNatClampNeg 24) (nI r)) 247516 (fun a_7 => (a_7.1 71 12 = 0 → ((a_7.1 71 8 = 2 → w_Model_in a_7 (Int32.toInt64 (a_7.1 71 10)) 1 8 (fun r_18 => (r_18 = 0 → w_Model_first_j84 a a_7 Q) ∧ (¬ r_18 = 0 → w_Model_many a_7 0 (fun r_20 => w_Model_power a_7 r_20 (a_7.1 71 10) (fun r_22 => (r_22 ≤ 10000 → w_Model_first_j84 a a_7 Q) ∧ (¬ r_22 ≤ 10000 → w_Model_fails a_7 2 (fun a_25 => w_Model_first_j84 a a_25 Q))))))) ∧ (¬ a_7.1 71 8 = 2 → w_Model_first_j84 a a_7 Q))) ∧ (¬ a_7.1 71 12 = 0 → w_Model_first_j84 a a_7 Q)) := fun b e r hb r1 r2 hq => by
    have hb2 := mbad_sv (k := 78) (j := 24) (v := nI r) hb (by unfold Pmr; omega) (by omega)
    rw [tN24]
    exact ⟨v24, m_asksB hb2 ⟨fun z => absurd z (mbad_n hb2), fun _ => m_j84B hb2 hq⟩⟩
  refine m_asks (t := 0) h (by omega) (by decide) (fun R1 e1 a1 hf1 hx1 => ?_) (fun e he a1 hx1 => ?_)
  · rw [e1] at h1 h0
    dsimp only at h1 h0
    refine m_asks (t := 1) hx1 (by omega) (by decide) (fun R2 e2 a2 hf2 hx2 => ?_) (fun e he a2 hx2 => ?_)
    · rw [e2] at h1 h0
      dsimp only at h1 h0
      refine m_number (lo := 2) (hi := 16) hx2 (by omega) (by omega) (fun b R3 e3 b1 b2 a3 hf3 hx3 => ?_) (fun e he a3 hx3 => ?_)
      · rw [e3] at h1 h0
        dsimp only at h1 h0
        refine ⟨v24, ?_⟩
        rw [tN24]
        have hx3' := mat_sv (k := 78) (j := 24) (v := nI b) hx3 (by unfold Pmr; omega) (by omega)
        have e324 : (ud_sv a3 78 24 (nI b)).1 78 24 = nI b := by rw [us_1, if_pos ⟨rfl, rfl⟩]
        refine m_asks (t := 2) hx3' (by omega) (by decide) (fun R4 e4 a4 hf4 hx4 => ?_) (fun e he a4 hx4 => ?_)
        · rw [e4] at h1 h0
          dsimp only at h1 h0
          have e424 : a4.1 78 24 = nI b := (hf4.1 78 24 (by unfold Pnx; omega)).trans e324
          obtain ⟨g1, g2, g3, g4, g5⟩ := id hx4
          -- no fault ahead of the long
          have j84 : num f c R4 1 (bo b) = num f c R4 1 8 → w_Model_first_j84 a a4 Q := fun en => by
            rw [en] at h1 h0
            unfold w_Model_first_j84
            simp only [tN25, tN26]
            refine m_number (lo := 1) (hi := 8) hx4 (by omega) (by omega) (fun n R5 e5 n1 n2 a5 hf5 hx5 => ?_) (fun e he a5 hx5 => ?_)
            · rw [e5] at h1
              dsimp only at h1
              have e525 : (ud_sv a5 78 25 (nI n)).1 78 25 = nI n := by rw [us_1, if_pos ⟨rfl, rfl⟩]
              have e524 : (ud_sv a5 78 25 (nI n)).1 78 24 = nI b := by rw [us_1, if_neg (by omega), hf5.1 78 24 (by unfold Pnx; omega)]; exact e424
              refine ⟨vp_in_nI (n := 25) (by omega) (by omega), m_many (j := 0) (by omega) (m_many (j := 1) (by omega) ?_)⟩
              show w_Model_power _ ((ud_sv a5 78 25 (nI n)).1 78 24) ((ud_sv a5 78 25 (nI n)).1 78 25) _
              rw [e524, e525]
              have hS : b ^ n ≤ 10000 := by
                have : n ≤ bo b := by
                  rw [e5] at en
                  unfold num at en
                  split at en
                  · split at en
                    · rename_i hh
                      injection en with en
                      injection en with en1 en2
                      omega
                    · cases en
                  · cases en
                exact bo_1 b1 n1 this
              refine m_power b1 b2 n2 (fun w _ hw _ => ⟨vp_in_nI (n := 26) (by omega) (by omega), ?_⟩)
              rw [hw hS]
              have hx6 := mat_sv (k := 78) (j := 26) (v := nI (b ^ n)) (mat_sv (k := 78) (j := 25) (v := nI n) hx5 (by unfold Pmr; omega) (by omega)) (by unfold Pmr; omega) (by omega)
              have hff : fm Pmr a (ud_sv (ud_sv a5 78 25 (nI n)) 78 26 (nI (b ^ n))) := ((((((hf1.mono pm).tr (hf2.mono pm)).tr (hf3.mono pm)).sv (show Pmr 78 24 by unfold Pmr; omega)).tr (hf4.mono pm)).tr (hf5.mono pm) |>.sv (show Pmr 78 25 by unfold Pmr; omega)).sv (show Pmr 78 26 by unfold Pmr; omega)
              have eo : ∀ k j, 77 ≤ k ∨ (k = 71 ∧ j = 21) → ¬ (k = 78 ∧ 24 ≤ j ∧ j ≤ 26) → (ud_sv (ud_sv a5 78 25 (nI n)) 78 26 (nI (b ^ n))).1 k j = a.1 k j := fun k j q1 q2 => by
                rw [us_1, if_neg (by omega), us_1, if_neg (by omega), hf5.1 k j (by unfold Pnx; omega), hf4.1 k j (by unfold Pnx; omega), us_1, if_neg (by omega), hf3.1 k j (by unfold Pnx; omega), hf2.1 k j (by unfold Pnx; omega), hf1.1 k j (by unfold Pnx; omega)]
              refine h1 _ _ rfl _ hff (eo _ _ (by omega) (by omega)) ⟨hx6, ?_⟩
              obtain ⟨p1, p2, p3, p4, p5, p6, p7, -⟩ := hp
              refine ⟨(eo _ _ (by omega) (by omega)).trans p1, by rw [us_1, if_neg (by omega)]; exact e524, by rw [us_1, if_neg (by omega)]; exact e525, ?_, (eo _ _ (by omega) (by omega)).trans p5, (eo _ _ (by omega) (by omega)).trans p6, (eo _ _ (by omega) (by omega)).trans p7, fun i hi => absurd hi (Nat.not_lt_zero i), fun i hi => absurd hi (Nat.not_lt_zero i), fun i hi => absurd hi (Nat.not_lt_zero i)⟩
              rw [us_1, if_pos ⟨rfl, rfl⟩]
              have : sz (tb t00 b n) = b ^ n := by
                show (if n = 0 then 0 else b ^ n) = b ^ n
                rw [if_neg (by omega)]
              rw [this]
            · rw [he] at h0
              exact m_j84t hx5 (h0 _ rfl)
          refine ⟨fun _ => ⟨fun z => ?_, fun z => j84 (num_hi (fun e2 => absurd (by rw [g3.1, e2]; rfl) z))⟩, fun z => absurd g5 z⟩
          have e2' : R4.1 = 2 := by
            rw [g3.1] at z
            have := g4.2.2.2.1
            exact (nI_eq (b := 2) (by omega) (by omega)).mp z
          rw [g3.2.2.2.1 e2']
          obtain ⟨u, hu⟩ : ∃ u, u = nv f R4.2.1 (R4.2.2 - R4.2.1) := ⟨_, rfl⟩
          rw [← hu]
          have hu2 : u ≤ 1000009 := by
            have dig : ∀ j, R4.2.1 ≤ j → j < R4.2.2 → 48 ≤ f j ∧ f j ≤ 57 := fun j q1 q2 => kd_dig.mp ((g4.2.2.2.2.2.2 (Or.inr e2') j q1 q2).trans e2')
            have key : ∀ k, k ≤ R4.2.2 - R4.2.1 → nv f R4.2.1 k ≤ 1000009 := by
              intro k
              induction k with
              | zero => intro _; unfold nv; omega
              | succ k ih =>
                intro hk
                have := ih (by omega)
                have := dig (R4.2.1 + k) (by omega) (by omega)
                rw [nv_s]
                split <;> omega
            rw [hu]; exact key _ (Nat.le_refl _)
          have l1 : (1 : Int64).toInt = 1 := by decide
          have l8 : (8 : Int64).toInt = 8 := by decide
          have bo8 := (bo_sp b).1
          refine m_in (fun q1 q2 => t1 ?_) (fun q => t0 (j84 (num_hi (fun _ w => ?_))))
          · rw [l1, lI_toInt, nI_toInt (by omega)] at q1
            rw [l8, lI_toInt, nI_toInt (by omega)] at q2
            have u1 : 1 ≤ u := by omega
            have u8 : u ≤ 8 := by omega
            refine m_many (j := 0) (by omega) ?_
            show w_Model_power _ (a4.1 78 24) _ _
            rw [e424]
            refine m_power b1 b2 u8 (fun w w0 w1 w2 => ⟨fun z3 => ?_, fun z3 => ?_⟩)
            · have hw := (nI_leI (b := 10000) (by omega) (by omega)).mp z3
              have hbu : b ^ u ≤ 10000 := by
                rcases Nat.lt_or_ge 10000 (b ^ u) with w3 | w3
                · have := w2 w3; omega
                · exact w3
              refine j84 (num_hi (fun _ _ => ?_))
              rw [← hu]
              refine ⟨fun _ => u8, fun _ => ?_⟩
              rcases Nat.lt_or_ge (bo b) u with w3 | w3
              · have := bo_no b1 (v := u) (by omega) u8
                omega
              · exact w3
            · have hbu : 10000 < b ^ u := by
                rcases Nat.lt_or_ge 10000 (b ^ u) with w3 | w3
                · exact w3
                · exact absurd (nI_le (b := 10000) (by rw [w1 w3]; exact w3) (by omega)) z3
              have nbo : ¬ u ≤ bo b := fun w3 => by
                have := bo_1 b1 u1 w3; omega
              have eerr : num f c R4 1 (bo b) = .error (2, R4.2.1) := by
                unfold num
                rw [if_pos e2', ← hu, if_neg (by omega)]
              rw [eerr] at h0
              refine m_fails (s := 2) hx4 (by omega) (by omega) (fun a6 hx6 => ?_)
              exact m_j84B hx6 (h0 _ rfl)
          · rw [l1, l8, lI_toInt, nI_toInt (by omega)] at q
            rw [← hu] at w ⊢
            omega
        · rw [he] at h0
          exact ⟨fun z => absurd z (mbad_n hx4), fun _ => m_j84B hx4 (h0 _ rfl)⟩
      · rw [he] at h0
        exact B2 a3 e 2 hx3 (by omega) (by omega) (h0 _ rfl)
    · rw [he] at h0
      exact m_numberB hx2 (B2 a2 e 2 hx2 (by omega) (by omega) (h0 _ rfl))
  · rw [he] at h0
    exact m_asksB hx1 (m_numberB hx1 (B2 a1 e 2 hx1 (by omega) (by omega) (h0 _ rfl)))
