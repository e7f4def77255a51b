/-! evening -/
def lc (s : Nat) : Nat → Nat
  | 0 => s
  | k + 1 => (1103515245 * lc s k + 12345) % 2147483648
def dr (S s k : Nat) : Nat := lc s (k + 1) / 65536 % S
theorem lc_lt {s : Nat} (hs : s < 2147483648) : ∀ k, lc s k < 2147483648 := fun k => by
  cases k with
  | zero => exact hs
  | succ k => exact Nat.mod_lt _ (by omega)
theorem lcg {v : Int64} {k : Nat} (h : v.toInt = (k : Int)) (hk : k < 2147483648) : (((1103515245 : Int64) * v + 12345) % 2147483648).toInt = (((1103515245 * k + 12345) % 2147483648 : Nat) : Int) := by
  have l1 : (1103515245 : Int64).toInt = 1103515245 := by decide
  have l2 : (12345 : Int64).toInt = 12345 := by decide
  have l3 : (2147483648 : Int64).toInt = 2147483648 := by decide
  have e1 : ((1103515245 : Int64) * v).toInt = 1103515245 * (k : Int) := by rw [fb_mulL (by rw [l1, h]; omega) (by rw [l1, h]; omega), l1, h]
  have e2 : ((1103515245 : Int64) * v + 12345).toInt = 1103515245 * (k : Int) + 12345 := by rw [fb_addL (by rw [e1, l2]; omega) (by rw [e1, l2]; omega), e1, l2]
  rw [Int64.toInt_mod, e2, l3, Int.tmod_eq_emod_of_nonneg (by omega)]
  omega
theorem lcd {v : Int64} {k : Nat} (h : v.toInt = (k : Int)) : (v / 65536).toInt = ((k / 65536 : Nat) : Int) := by
  have l1 : (65536 : Int64).toInt = 65536 := by decide
  rw [Int64.toInt_div_of_ne_right _ _ (by decide), h, l1, Int.tdiv_eq_ediv_of_nonneg (by omega)]
  omega
theorem lcm {v : Int64} {k S : Nat} (h : v.toInt = (k : Int)) (hS : S < 2 ^ 31) : (v % (nI S).toInt64).toInt = ((k % S : Nat) : Int) := by
  rw [Int64.toInt_mod, h, lI_toInt, nI_toInt hS, Int.tmod_eq_emod_of_nonneg (by omega)]
  exact (Int.natCast_emod k S).symm
def ev1 (g d : Nat → Nat) (k : Nat) : Prop := ∀ j, j < k → hm g (d j) ≠ hm g (d k)
def ev3 (g d : Nat → Nat) (k : Nat) : Prop := hm g (d k) = hm g (d 0)
noncomputable def evA (g d : Nat → Nat) (n w : Nat) : Nat := if w = 0 then fb_ct (pd (ev1 g d)) n else if w = 1 then mx (fun _ => true) (fun k => tl g (d k)) n else fb_ct (pd (ev3 g d)) n
theorem mm_evening {N : Nat} {a : ud_St} {x y z : Int32} {t : TD} {Q : Int32 → ud_St → Prop} (hC : JC N a t) (h1 : ∀ s n w, s < 2000000001 → 1 ≤ n → n ≤ 100 → w < 3 → 0 < tS t → x = nI s → y = nI n → z = nI w → ∀ a', fr Psc a a' → Q (nI (evA (tg t) (dr (tS t) s) n w)) a') (h0 : (¬ ∃ s n w, s < 2000000001 ∧ 1 ≤ n ∧ n ≤ 100 ∧ w < 3 ∧ 0 < tS t ∧ x = nI s ∧ y = nI n ∧ z = nI w) → Q (-2) (a71 a)) : w_Model_evening a x y z Q := by
  obtain ⟨c1, c2, c3, -⟩ := JC_sc hC f0_sc
  have hS := tS_le c1
  unfold w_Model_evening
  refine m_isTable c1 c3 (fun hp => t1 (m_in0 2000000001 (by omega) (by decide) (fun s hs e => t1 (m_in1 100 (by omega) (by decide) (fun n hn1 hn2 e2 => t1 (m_in0 3 (by omega) (by decide) (fun w hw e3 => t1 ?_) (fun h => t0 (h0 (fun ⟨_, _, w, _, _, _, q1, _, _, _, q2⟩ => h w q1 q2))))) (fun h => t0 (h0 (fun ⟨_, n, _, _, q1, q2, _, _, _, q3, _⟩ => h n q1 q2 q3))))) (fun h => t0 (h0 (fun ⟨s, _, _, q1, _, _, _, _, q2, _⟩ => h s q1 q2))))) (fun hp => t0 (h0 (fun ⟨_, _, _, _, _, _, _, q, _⟩ => by omega)))
  have hq := h1 s n w hs hn1 hn2 hw hp e e2 e3
  refine mm_all hC hp (fun a1 hf1 hN1 hR1 _ => ?_)
  obtain ⟨h78, hS2, hg, -⟩ := id hN1
  rw [e, e2, e3]
  have hlc := lc_lt (s := s) (by omega)
  have hdr : ∀ k, dr (tS t) s k < tS t := fun k => Nat.mod_lt _ hp
  have htl : ∀ k, tl (tg t) (dr (tS t) s k) < tS t := fun k => (tl_sp hg (hdr k)).2.2
  have hhm : ∀ k, hm (tg t) (dr (tS t) s k) < tS t := fun k => (hm_sp hg (hdr k)).2.2
  have P9 : ∀ {b}, fr (fun k _ => k = 89) a1 b → fr Psc a b := fun h => hf1.tr (h.mono (fun k j q => by unfold Psc; omega))
  have c78 : ∀ {b}, fr (fun k _ => k = 89) a1 b → b.1 78 2 = nI (tS t) := fun h => (h.1 78 2 (by omega)).trans h78
  have c87 : ∀ {b} k, fr (fun k _ => k = 89) a1 b → b.1 87 (dr (tS t) s k) = nI (hm (tg t) (dr (tS t) s k)) := fun k h => (h.1 87 _ (by omega)).trans (hR1 _ (hdr k)).2.1
  have c86 : ∀ {b} k, fr (fun k _ => k = 89) a1 b → b.1 86 (dr (tS t) s k) = nI (tl (tg t) (dr (tS t) s k)) := fun k h => (h.1 86 _ (by omega)).trans (hR1 _ (hdr k)).1
  unfold w_Model_evening_j58
  refine LW2.up (tS t) (fun k x b => x = nI k ∧ fr (fun k _ => k = 89) a1 b ∧ ∀ h, h < k → b.1 89 h = 0) ⟨rfl, fr.rf, fun h hh => by omega⟩ ?_ ?_
  · rintro k x b hk ⟨rfl, hf, h89⟩ K hK
    simp only [tN_2, c78 hf]
    refine ⟨vi_2 (by omega), fun z => absurd z (nI_ge hk (by omega)), fun _ => ⟨vp_in_nI (by omega) (by omega), hK _ _ ⟨nI_1 k, hf.sv rfl, fun h hh => ?_⟩⟩⟩
    rw [nI_clamp (by omega), us_1]
    by_cases eh : h = k
    · rw [if_pos ⟨rfl, eh⟩]
    · rw [if_neg (fun q => eh q.2)]; exact h89 h (by omega)
  · rintro x b ⟨rfl, hfb, h89⟩ K
    simp only [tN_2, c78 hfb]
    refine ⟨vi_2 (by omega), fun _ => ?_, fun z => absurd (nI_le (Nat.le_refl _) (by omega)) z⟩
    unfold w_Model_evening_j102
    refine LW7.up n (fun k x4 x6 x7 x8 x9 x10 c => x4.toInt = (lc s k : Int) ∧ x6 = nI (fb_ct (pd (ev1 (tg t) (dr (tS t) s))) k) ∧ x7 = nI (mx (fun _ => true) (fun k => tl (tg t) (dr (tS t) s k)) k) ∧ ((k = 0 ∧ x8 = -1) ∨ (0 < k ∧ x8 = nI (hm (tg t) (dr (tS t) s 0)))) ∧ x9 = nI (fb_ct (pd (ev3 (tg t) (dr (tS t) s))) k) ∧ x10 = nI k ∧ fr (fun k _ => k = 89) a1 c ∧ ∀ h, h < tS t → ((∃ j, j < k ∧ hm (tg t) (dr (tS t) s j) = h) → c.1 89 h = 1) ∧ ((¬ ∃ j, j < k ∧ hm (tg t) (dr (tS t) s j) = h) → c.1 89 h = 0)) ⟨by rw [lI_toInt, nI_toInt (by omega)]; rfl, rfl, rfl, Or.inl ⟨rfl, rfl⟩, rfl, rfl, hfb, fun h hh => ⟨fun ⟨j, q, _⟩ => by omega, fun _ => h89 h hh⟩⟩ ?_ ?_
    · rintro k x4 x6 x7 x8 x9 x10 c hk ⟨h4, rfl, rfl, h8, rfl, rfl, hf, hm89⟩ K hK
      have e4 := lcg h4 (hlc k)
      have e5 := lcm (S := tS t) (lcd e4) (by omega)
      have ed : Int64.toInt32 ((((1103515245 : Int64) * x4 + 12345) % 2147483648 / 65536) % (nI (tS t)).toInt64) = nI (dr (tS t) s k) := l_cut e5 (by have := hdr k; unfold dr at this; show lc s (k + 1) / 65536 % tS t < _; omega)
      have hd := hdr k
      have hh := hhm k
      have ht := htl k
      simp only [tN_2, c78 hf]
      rw [ed]
      refine ⟨fun z => absurd z (nI_ge hk (by omega)), fun _ => ⟨vi_2 (by omega), fun z => ?_, ?_⟩⟩
      · have := congrArg Int64.toInt z
        rw [lI_toInt, nI_toInt (by omega), l0_toInt] at this
        omega
      have main : ∀ u, u = nI (hm (tg t) (dr (tS t) s 0)) → w_Model_evening_j159 a (nI s) (nI n) (nI w) c (nI n) (nI w) (((1103515245 : Int64) * x4 + 12345) % 2147483648) (nI (fb_ct (pd (ev1 (tg t) (dr (tS t) s))) k)) (nI (mx (fun _ => true) (fun k => tl (tg t) (dr (tS t) s k)) k)) (nI (fb_ct (pd (ev3 (tg t) (dr (tS t) s))) k)) (nI k) (nI (dr (tS t) s k)) u K Q := by
        rintro u rfl
        unfold w_Model_evening_j159
        rw [nI_clamp (by omega), c87 k hf, nI_clamp (by omega)]
        have hmx : mx (fun _ => true) (fun k => tl (tg t) (dr (tS t) s k)) k ≤ tS t := mx_le (fun u _ _ => Nat.le_of_lt (htl u))
        have go : ∀ v, (ev1 (tg t) (dr (tS t) s) k → v = 1) → (¬ ev1 (tg t) (dr (tS t) s) k → v = 0) → w_Model_evening_j183 a (nI s) (nI n) (nI w) c (nI n) (nI w) (((1103515245 : Int64) * x4 + 12345) % 2147483648) (nI (mx (fun _ => true) (fun k => tl (tg t) (dr (tS t) s k)) k)) (nI (hm (tg t) (dr (tS t) s 0))) (nI (fb_ct (pd (ev3 (tg t) (dr (tS t) s))) k)) (nI k) (nI (dr (tS t) s k)) v (nI (fb_ct (pd (ev1 (tg t) (dr (tS t) s))) k)) K Q := by
          intro v v1 v0
          have ev : nI (fb_ct (pd (ev1 (tg t) (dr (tS t) s))) k) + v = nI (fb_ct (pd (ev1 (tg t) (dr (tS t) s))) (k + 1)) := by
            by_cases q : ev1 (tg t) (dr (tS t) s) k
            · rw [v1 q]; exact ct_y (pd_t.mpr q)
            · rw [v0 q]; exact ct_n (pd_f q)
          unfold w_Model_evening_j183
          rw [nI_clamp (by omega), c87 k hf, nI_clamp (by omega)]
          have hf' : fr (fun k _ => k = 89) a1 (ud_sv c 89 (hm (tg t) (dr (tS t) s k)) 1) := hf.sv rfl
          rw [ev, c86 k hf']
          have hm' : ∀ h, h < tS t → ((∃ j, j < k + 1 ∧ hm (tg t) (dr (tS t) s j) = h) → (ud_sv c 89 (hm (tg t) (dr (tS t) s k)) 1).1 89 h = 1) ∧ ((¬ ∃ j, j < k + 1 ∧ hm (tg t) (dr (tS t) s j) = h) → (ud_sv c 89 (hm (tg t) (dr (tS t) s k)) 1).1 89 h = 0) := fun h hhS => by
            rw [us_1]
            by_cases q : h = hm (tg t) (dr (tS t) s k)
            · rw [if_pos ⟨rfl, q⟩]
              exact ⟨fun _ => rfl, fun w => absurd ⟨k, by omega, q.symm⟩ w⟩
            · rw [if_neg (fun w => q w.2)]
              refine ⟨fun ⟨j, q1, q2⟩ => (hm89 h hhS).1 ⟨j, ?_, q2⟩, fun w => (hm89 h hhS).2 (fun ⟨j, q1, q2⟩ => w ⟨j, by omega, q2⟩)⟩
              by_cases ej : j = k
              · rw [ej] at q2; exact absurd q2.symm q
              · omega
          have last : ∀ u, u = nI (mx (fun _ => true) (fun k => tl (tg t) (dr (tS t) s k)) (k + 1)) → w_Model_evening_j223 a (nI s) (nI n) (nI w) (ud_sv c 89 (hm (tg t) (dr (tS t) s k)) 1) (nI n) (nI w) (((1103515245 : Int64) * x4 + 12345) % 2147483648) (nI (fb_ct (pd (ev1 (tg t) (dr (tS t) s))) (k + 1))) (nI (hm (tg t) (dr (tS t) s 0))) (nI (fb_ct (pd (ev3 (tg t) (dr (tS t) s))) k)) (nI k) (nI (dr (tS t) s k)) u K Q := by
            rintro u rfl
            have h00 := hhm 0
            unfold w_Model_evening_j223
            rw [nI_clamp (by omega), c87 k hf']
            refine ⟨vp_in_nI (by omega) (by omega), fun z => hK _ _ _ _ _ _ _ ⟨e4, rfl, rfl, Or.inr ⟨by omega, rfl⟩, ct_y (pd_t.mpr ?_), nI_1 k, hf', hm'⟩, fun z => hK _ _ _ _ _ _ _ ⟨e4, rfl, rfl, Or.inr ⟨by omega, rfl⟩, ct_n (pd_f ?_), nI_1 k, hf', hm'⟩⟩
            · exact (nI_eq (by omega) (by omega)).mp z
            · exact fun q => z (by unfold ev3 at q; rw [q])
          refine ⟨vp_in_nI (by omega) (by omega), vp_in_nI (by omega) (by omega), vp_in_nI (by omega) (by omega), fun z => last _ ?_, fun z => ⟨vp_in_nI (by omega) (by omega), last _ ?_⟩⟩
          · have z' := (nI_leI (by omega) (by omega)).mp z
            rw [mx_y (p := fun _ => true) rfl, Nat.max_eq_left z']
          · have z' := (ui_ltn (by omega) (by omega)).mp z
            rw [mx_y (p := fun _ => true) rfl, Nat.max_eq_right (by omega)]
        refine ⟨vp_in_nI (by omega) (by omega), vp_in_nI (by omega) (by omega), fun z => go 1 (fun _ => rfl) (fun q => absurd (fun j hj q2 => ?_) q), fun z => go 0 (fun q => absurd ((hm89 _ hh).2 (fun ⟨j, q1, q2⟩ => q j q1 q2)) z) (fun _ => rfl)⟩
        rw [(hm89 _ hh).1 ⟨j, hj, q2⟩] at z
        exact absurd z (by decide)
      have e80 : nI (dr (tS t) s k) = nI (dr (tS t) s k) := rfl
      refine ⟨fun z => ⟨vp_in_nI (by omega) (by omega), ?_⟩, fun z => main _ ?_⟩
      · rcases h8 with ⟨q, _⟩ | ⟨_, q⟩
        · subst q
          rw [nI_clamp (by omega), c87 0 hf]
          exact main _ rfl
        · rw [q] at z
          have := hhm 0
          exact absurd z (ui_ne1 (by omega))
      · rcases h8 with ⟨_, q⟩ | ⟨_, q⟩
        · exact absurd q z
        · exact q
    · rintro x4 x6 x7 x8 x9 x10 c ⟨h4, rfl, rfl, h8, rfl, rfl, hf, hm89⟩ K
      have fin := hq c (P9 hf)
      refine ⟨fun _ => ?_, fun z => absurd (nI_le (Nat.le_refl _) (by omega)) z⟩
      unfold evA at fin
      rcases (show w = 0 ∨ w = 1 ∨ w = 2 by omega) with rfl | rfl | rfl
      · exact ⟨fun _ => fin, fun q => absurd rfl q⟩
      · exact ⟨fun q => absurd q (by decide), fun _ => ⟨fun _ => fin, fun q => absurd rfl q⟩⟩
      · exact ⟨fun q => absurd q (by decide), fun _ => ⟨fun q => absurd q (by decide), fun _ => fin⟩⟩
