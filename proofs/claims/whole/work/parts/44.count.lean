/-! count, turn -/
/-- how many of the first n slots have a row -/
def slc (a : ud_St) (n : Nat) : Nat := fb_ct (fun s => decide (a.1 72 s ≠ -1)) n
theorem slc_s (a : ud_St) (n : Nat) : slc a (n + 1) = slc a n + (if a.1 72 n = -1 then 0 else 1) := by
  unfold slc
  rw [fb_ct_succ]
  by_cases h : a.1 72 n = -1 <;> simp [h]
theorem x_countSlots {a : ud_St} {Q : Int32 → Prop} (hS : JS a) (hQ : Q (nI (slc a 4))) : w_UpAndDown_countSlots a Q := by
  unfold w_UpAndDown_countSlots
  refine LW2.up 4 (fun n c x => c = nI (slc a n) ∧ x = nI n) ⟨rfl, rfl⟩ ?_ ?_
  · rintro n c x hn ⟨rfl, rfl⟩ K hK
    rw [nI_clamp (by omega)]
    refine ⟨fun z => absurd z (nI_ge (b := 4) hn (by omega)), fun _ => ⟨vp_in_nI hn (by omega), fun z => hK _ _ ⟨?_, nI_1 n⟩, fun z => hK _ _ ⟨?_, nI_1 n⟩⟩⟩
    · rcases JS_at hS hn with ⟨-, g⟩ | ⟨g, -⟩
      · rw [slc_s, if_pos g]; exact nI_add _ 0
      · rw [g] at z; exact absurd z (by decide)
    · rcases JS_at hS hn with ⟨g, -⟩ | ⟨-, w, m, hw, hm, -, g, -⟩
      · exact absurd g z
      · rw [slc_s, if_neg (by rw [g]; exact ui_ne1 (by omega))]; exact nI_add _ 1
  · rintro c x ⟨rfl, rfl⟩ K
    exact ⟨fun _ => hQ, fun z => absurd (nI_le (a := 4) (b := 4) (by omega) (by omega)) z⟩
theorem s_count (i : Nat) : us_count (J i) (J (i + 1)) := by
  intro N a x hJ
  obtain ⟨t, hC, hX⟩ := id hJ
  have h2 := J_sc hJ f0_sc
  obtain ⟨c1, c2, c3, c4, c5, c6, -⟩ := JC_sc hC f0_sc
  obtain ⟨x1, x2, x3, x4, x5, x6, x7, x8, -⟩ := hC.2.1
  obtain ⟨m1, m2, m3, m4, m5, m6, m7, -⟩ := c3
  obtain ⟨c, -, t2, t3, -⟩ := hC.2.2.2.1
  have e6 : (ud_sv a 71 0 0).1 71 6 = a.1 71 6 := by rw [us_1, if_neg (by omega)]
  have e72 : ∀ s, (ud_sv a 71 0 0).1 72 s = a.1 72 s := fun s => by rw [us_1, if_neg (by omega)]
  unfold w_UpAndDown_count w_Model_count
  simp only [tN_0, tN_1, tN_3, tN_4, tN_5, e6, e72, show (ud_sv a 71 0 0).1 78 0 = nI (t 0 0) from m2, show (ud_sv a 71 0 0).1 78 1 = nI (t 0 1) from m3, show (ud_sv a 71 0 0).1 78 3 = nI (t 0 3) from m5, show (ud_sv a 71 0 0).1 78 4 = nI (t 0 4) from m6, show (ud_sv a 71 0 0).1 78 5 = nI (t 0 5) from m7, show (ud_sv a 71 0 0).1 77 0 = nI (t 0 2) from m1, x1, x2, x4, x5, x6, x7, t2, t3]
  refine ⟨fun q => ?_, fun q => ⟨fun q1 => ?_, fun q1 => ⟨fun q2 => ?_, fun q2 => ⟨fun q3 => ?_, fun q3 => ⟨fun q4 => ?_, fun q4 => ⟨fun q5 => ?_, fun q5 => ⟨fun q6 => ?_, fun q6 => ⟨fun q7 => x_countSlots hC.2.2.2.2.2.1 ?_, fun q7 => ?_⟩⟩⟩⟩⟩⟩⟩⟩
  · exact ⟨fun _ => ⟨vi_0 (by omega), trivial, h2⟩, fun z => absurd q z⟩
  · exact ⟨fun z => absurd z q, fun _ => ⟨fun _ => ⟨vi_1 (by omega), trivial, h2⟩, fun z => absurd q1 z⟩⟩
  · exact ⟨fun z => absurd z q, fun _ => ⟨fun z => absurd z q1, fun _ => ⟨fun _ => ⟨vi_3 (by omega), trivial, h2⟩, fun z => absurd q2 z⟩⟩⟩
  · exact ⟨fun z => absurd z q, fun _ => ⟨fun z => absurd z q1, fun _ => ⟨fun z => absurd z q2, fun _ => ⟨fun _ => ⟨vi_4 (by omega), trivial, h2⟩, fun z => absurd q3 z⟩⟩⟩⟩
  · exact ⟨fun z => absurd z q, fun _ => ⟨fun z => absurd z q1, fun _ => ⟨fun z => absurd z q2, fun _ => ⟨fun z => absurd z q3, fun _ => ⟨fun _ => ⟨vi_5 (by omega), trivial, h2⟩, fun z => absurd q4 z⟩⟩⟩⟩⟩
  · exact ⟨fun z => absurd z q, fun _ => ⟨fun z => absurd z q1, fun _ => ⟨fun z => absurd z q2, fun _ => ⟨fun z => absurd z q3, fun _ => ⟨fun z => absurd z q4, fun _ => ⟨fun _ => ⟨vi_0 (by omega), trivial, h2⟩, fun z => absurd q5 z⟩⟩⟩⟩⟩⟩
  · exact ⟨fun z => absurd z q, fun _ => ⟨fun z => absurd z q1, fun _ => ⟨fun z => absurd z q2, fun _ => ⟨fun z => absurd z q3, fun _ => ⟨fun z => absurd z q4, fun _ => ⟨fun z => absurd z q5, fun _ => ⟨fun _ => ⟨trivial, h2⟩, fun z => absurd q6 z⟩⟩⟩⟩⟩⟩⟩
  · refine ⟨fun z => absurd z q, fun _ => ⟨fun z => absurd z q1, fun _ => ⟨fun z => absurd z q2, fun _ => ⟨fun z => absurd z q3, fun _ => ⟨fun z => absurd z q4, fun _ => ⟨fun z => absurd z q5, fun _ => ⟨fun z => absurd z q6, fun _ => ⟨fun _ => ?_, fun z => absurd q7 z⟩⟩⟩⟩⟩⟩⟩⟩
    refine LW2.up 4 (fun n c x => c = nI (slc a n) ∧ x = nI n) ⟨rfl, rfl⟩ ?_ ?_
    · rintro n c x hn ⟨rfl, rfl⟩ K hK
      rw [nI_clamp (by omega)]
      refine ⟨fun z => absurd z (nI_ge (b := 4) hn (by omega)), fun _ => ⟨vp_in_nI hn (by omega), fun z => hK _ _ ⟨?_, nI_1 n⟩, fun z => hK _ _ ⟨?_, nI_1 n⟩⟩⟩
      · rw [slc_s, if_pos z]; exact nI_add _ 0
      · rw [slc_s, if_neg z]; exact nI_add _ 1
    · rintro c x ⟨rfl, rfl⟩ K
      exact ⟨fun _ => ⟨rfl, h2⟩, fun z => absurd (nI_le (a := 4) (b := 4) (by omega) (by omega)) z⟩
  · exact ⟨fun z => absurd z q, fun _ => ⟨fun z => absurd z q1, fun _ => ⟨fun z => absurd z q2, fun _ => ⟨fun z => absurd z q3, fun _ => ⟨fun z => absurd z q4, fun _ => ⟨fun z => absurd z q5, fun _ => ⟨fun z => absurd z q6, fun _ => ⟨fun z => absurd z q7, fun _ => ⟨trivial, h2⟩⟩⟩⟩⟩⟩⟩⟩⟩
/-- a table with word k told anew -/
def tW (t : TD) (k s n : Nat) : TD := fun r c => if r = 1 ∧ c = k then s else if r = 2 ∧ c = k then n else t r c
theorem tW_o {t : TD} {k s n r c : Nat} (h : r ≠ 1) (h2 : r ≠ 2) : tW t k s n r c = t r c := by
  unfold tW
  rw [if_neg (fun q => h q.1), if_neg (fun q => h2 q.1)]
theorem tW_1 {t : TD} {k s n c : Nat} : tW t k s n 1 c = if c = k then s else t 1 c := by
  unfold tW
  by_cases h : c = k
  · rw [if_pos ⟨rfl, h⟩, if_pos h]
  · rw [if_neg (fun q => h q.2), if_neg (by omega), if_neg h]
theorem tW_2 {t : TD} {k s n c : Nat} : tW t k s n 2 c = if c = k then n else t 2 c := by
  unfold tW
  by_cases h : c = k
  · rw [if_neg (by omega), if_pos ⟨rfl, h⟩, if_pos h]
  · rw [if_neg (by omega), if_neg (fun q => h q.2), if_neg h]
theorem tW_S {t : TD} {k s n : Nat} : tS (tW t k s n) = tS t := by
  unfold tS
  rw [tW_o (by omega) (by omega), tW_o (by omega) (by omega), tW_o (by omega) (by omega)]
theorem tW_ok {t : TD} {k s n : Nat} (h : tOK t) (hk : k < t 0 3) (hw : wok (t 0 0) s n) : tOK (tW t k s n) := by
  have o : ∀ {r c : Nat}, r ≠ 1 → r ≠ 2 → tW t k s n r c = t r c := fun h1 h2 => tW_o h1 h2
  rcases h with ⟨-, -, -, q, -⟩ | ⟨q1, q2, q3, q4, q5, q6, q7, q8, q9, q10, q11, q12, q13⟩
  · omega
  · refine Or.inr ?_
    rw [o (by omega) (by omega), o (by omega) (by omega), o (by omega) (by omega), o (by omega) (by omega), o (by omega) (by omega), o (by omega) (by omega)]
    refine ⟨q1, q2, q3, q4, q5, q6, q7, q8, q9, q10, fun i hi => ?_, fun i hi => ?_, fun i hi => ?_⟩
    · rw [tW_1, tW_2]
      by_cases e : i = k
      · rw [if_pos e, if_pos e]; exact hw
      · rw [if_neg e, if_neg e]; exact q11 i hi
    · rw [o (by omega) (by omega), o (by omega) (by omega), o (by omega) (by omega), o (by omega) (by omega)]; exact q12 i hi
    · rw [o (by omega) (by omega)]; exact q13 i hi
/-- the greatest number of a word -/
def mostn (b s : Nat) : Nat := if s < 12 then 0 else if s = 14 then b - 1 else 99
theorem wok_most {b s n : Nat} (hb : 2 ≤ b) (hb2 : b ≤ 16) (hs : s ≤ 14) : wok b s n ↔ n ≤ mostn b s := by
  unfold wok mostn
  by_cases h1 : s < 12
  · rw [if_pos h1]; omega
  · rw [if_neg h1]
    by_cases h2 : s = 14
    · rw [if_pos h2]; omega
    · rw [if_neg h2]; omega
theorem mostn_le {b s : Nat} (hb : b ≤ 16) : mostn b s ≤ 99 := by
  unfold mostn
  split
  · omega
  · split <;> omega
theorem x_mostOf {a : ud_St} {k b s : Nat} {Q : Int32 → Prop} (h0 : a.1 k 0 = nI b) (hb : 2 ≤ b) (hs : s ≤ 14) (hQ : Q (nI (mostn b s))) : w_Table_mostOf a k (nI s) Q := by
  unfold w_Table_mostOf
  unfold mostn at hQ
  refine ⟨fun q => ?_, fun q => ?_⟩
  · have q' : 12 ≤ s := (nI_leI (a := 12) (by omega) (by omega)).mp q
    rw [if_neg (by omega)] at hQ
    refine ⟨fun z => ?_, fun z => ?_⟩
    · have z' : s = 14 := (nI_eq (b := 14) (by omega) (by omega)).mp z
      rw [if_pos z'] at hQ
      rw [h0, ui_pred (by omega)]
      exact hQ
    · rw [if_neg (fun w => z (by rw [w]; rfl))] at hQ
      exact hQ
  · have q' : s < 12 := by
      rcases Nat.lt_or_ge s 12 with w | w
      · exact w
      · exact absurd (nI_le (a := 12) w (by omega)) q
    rw [if_pos q'] at hQ
    exact hQ
theorem mm_turn {a : ud_St} {x y z : Int32} {t : TD} {Q : Int32 → ud_St → Prop} (c1 : tOK t) (c3 : mT (a71 a) 0 t) (h1 : ∀ k s n, k < t 0 3 → s ≤ 14 → n ≤ mostn (t 0 0) s → x = nI k → y = nI s → z = nI n → Q (if t 1 k = s ∧ t 2 k = n then 0 else 1) (ud_sv (ud_sv (a71 a) 79 (2 * k) (nI s)) 79 (2 * k + 1) (enc s n))) (h0 : (¬ ∃ k s n, k < t 0 3 ∧ s ≤ 14 ∧ n ≤ mostn (t 0 0) s ∧ x = nI k ∧ y = nI s ∧ z = nI n) → Q (-2) (a71 a)) : w_Model_turn a x y z Q := by
  have hb := t3_le c1
  unfold w_Model_turn
  refine m_isWord c3.2.2.2.2.1 (by omega) (fun k hk e => t1 (m_in0 15 (by omega) (by decide) (fun s hs e2 => t1 ?_) (fun h => t0 (h0 (fun ⟨_, s, _, _, q1, _, _, q2, _⟩ => h s (by omega) q2))))) (fun h => t0 (h0 (fun ⟨k, _, _, q1, _, _, q2, _, _⟩ => h k q1 q2)))
  have hb2 : 2 ≤ t 0 0 := by
    rcases c1 with ⟨-, -, -, q, -⟩ | ⟨-, -, q, -⟩
    · omega
    · exact q
  obtain ⟨m1, m2, m3, m4, m5, m6, m7, m8, -⟩ := id c3
  have hm8 := m8 k hk
  rw [show 24 * 0 + 2 * k = 2 * k by omega] at hm8
  have hwk := twok c1 hk
  have e79 : ∀ (u : ud_St) (p q : Nat) (v w : Int32), (ud_sv (ud_sv u 79 p v) 79 q w).1 79 = (ud_sv (ud_sv u 79 p v) 79 q w).1 79 := fun _ _ _ _ _ => rfl
  have key : ∀ hi : Int64, hi.toInt = ((mostn (t 0 0) s + 1 : Nat) : Int) - 1 → w_Model_turn_j59 a x y z (ud_sv a 71 0 0) x y z hi 0 z.toInt64 Q := by
    intro hi hh
    unfold w_Model_turn_j59
    have hmn : mostn (t 0 0) s ≤ 99 := mostn_le (by omega)
    refine m_in0 (mostn (t 0 0) s + 1) (by omega) hh (fun n hn e3 => t1 ?_) (fun h => t0 (h0 (fun ⟨k', s', n, _, _, q1, _, q2, q3⟩ => h n (by
      have : s' = s := (nI_eq (by omega) (by omega)).mp (q2.symm.trans e2)
      rw [← this]; omega) q3)))
    have hq := h1 k s n hk (by omega) (by omega) e e2 e3
    have hwn : wok (t 0 0) s n := (wok_most hb2 (by omega) (by omega)).mpr (by omega)
    have e4 : (2 : Int32) * x = nI (2 * k) := by rw [e]; exact ui_mul 2 k
    have e5 : (2 : Int32) * x + 1 = nI (2 * k + 1) := by rw [e4]; exact nI_1 _
    have v1 : vp_in ((2 : Int32) * x) 120 := by rw [e4]; exact vp_in_nI (by omega) (by omega)
    have v2 : vp_in ((2 : Int32) * x + 1) 120 := by rw [e5]; exact vp_in_nI (by omega) (by omega)
    have c4 : ((2 : Int32) * x).toNatClampNeg = 2 * k := by rw [e4, nI_clamp (by omega)]
    have c5 : ((2 : Int32) * x + 1).toNatClampNeg = 2 * k + 1 := by rw [e5, nI_clamp (by omega)]
    have j79 : ∀ u : Int32, u = enc s n → w_Model_turn_j79 a x y z (ud_sv a 71 0 0) x y u Q := by
      intro u hu
      subst hu
      have fin : ∀ r : Nat, r < 2 → (r = 0 ↔ t 1 k = s ∧ t 2 k = n) → w_Model_turn_j113 a x y z (ud_sv a 71 0 0) x y (enc s n) (nI r) Q := by
        intro r hr hr2
        unfold w_Model_turn_j113
        rw [c4, c5, e2]
        refine ⟨v1, v2, fun w => ?_, fun w => ?_⟩
        · have : r = 0 := (nI_eq (b := 0) (by omega) (by omega)).mp w
          rw [if_pos (hr2.mp this)] at hq
          exact hq
        · have : ¬ r = 0 := fun q => w (by rw [q]; rfl)
          rw [if_neg (fun q => this (hr2.mpr q))] at hq
          exact hq
      unfold w_Model_turn_j79
      rw [c4, c5, show (ud_sv a 71 0 0).1 79 (2 * k) = nI (t 1 k) from hm8.1, show (ud_sv a 71 0 0).1 79 (2 * k + 1) = enc (t 1 k) (t 2 k) from hm8.2]
      refine ⟨v1, fun w => ⟨v2, fun w2 => ?_, fun w2 => ?_⟩, fun w => ?_⟩
      · have w' : t 1 k = s := (nI_eq (by have := hwk.1; omega) (by omega)).mp (w.trans e2)
        rw [w'] at w2 hwk
        refine fin 0 (by omega) ⟨fun _ => ⟨w', ?_⟩, fun _ => rfl⟩
        unfold enc at w2
        by_cases h12 : s < 12
        · rw [hwk.2.1 h12, hwn.2.1 h12]
        · rw [if_neg h12, if_neg h12] at w2
          exact (nI_eq (by have := wok_99 (by omega : t 0 0 ≤ 16) hwk; omega) (by omega)).mp w2
      · unfold w_Model_turn_j108
        exact fin 1 (by omega) ⟨fun q => by omega, fun q => absurd (by rw [q.1, q.2]) w2⟩
      · unfold w_Model_turn_j108
        exact fin 1 (by omega) ⟨fun q => by omega, fun q => absurd (by rw [q.1, e2]) w⟩
    refine ⟨fun w => j79 _ ?_, fun w => j79 _ ?_⟩
    · rw [e2] at w
      have : s < 12 := (nI_ltI (b := 12) (by omega) (by omega)).mp w
      unfold enc
      rw [if_pos this]
    · have : ¬ s < 12 := fun q => w (by rw [e2]; exact nI_lt (b := 12) q (by omega))
      unfold enc
      rw [if_neg this]
      exact e3
  refine ⟨fun w => ⟨vi_0 (by omega), key _ ?_⟩, fun w => ⟨fun w2 => key _ ?_, fun w2 => key _ ?_⟩⟩
  · have w' : s = 14 := (nI_eq (b := 14) (by omega) (by omega)).mp (e2.symm.trans w)
    simp only [tN_0, show (ud_sv a 71 0 0).1 78 0 = nI (t 0 0) from m2]
    rw [hi_B (by omega)]
    unfold mostn
    rw [if_neg (by omega), if_pos w']
    omega
  · rw [e2] at w2
    have : s < 12 := (nI_ltI (b := 12) (by omega) (by omega)).mp w2
    unfold mostn
    rw [if_pos this, l0_toInt]
    rfl
  · have h12 : ¬ s < 12 := fun q => w2 (by rw [e2]; exact nI_lt (b := 12) q (by omega))
    have h14 : ¬ s = 14 := fun q => w (by rw [e2, q]; rfl)
    unfold mostn
    rw [if_neg h12, if_neg h14]
    decide
theorem s_turn (i : Nat) : us_turn (J i) (J (i + 1)) := by
  intro N a x y z hJ
  obtain ⟨t, hC, hX⟩ := id hJ
  have h2 := J_sc hJ f0_sc
  obtain ⟨c1, c2, c3, -⟩ := JC_sc hC f0_sc
  have hb := t3_le c1
  obtain ⟨x1, x2, x3, x4, x5, x6, x7, x8, x9, x10, x11⟩ := hC.2.1
  unfold w_UpAndDown_turn
  have no : (¬ ∃ k s n, k < t 0 3 ∧ s ≤ 14 ∧ n ≤ mostn (t 0 0) s ∧ x = nI k ∧ y = nI s ∧ z = nI n) → w_Model_turn a x y z (fun r' a2 => (-2 : Int32) = r' ∧ J (i + 1) N a2) := fun h => mm_turn c1 c3 (fun k s n q1 q2 q3 q4 q5 q6 => absurd ⟨k, s, n, q1, q2, q3, q4, q5, q6⟩ h) (fun _ => ⟨rfl, h2⟩)
  refine x_isWord x6 (by omega) (fun k hk e => t1 ?_) (fun h => t0 (no (fun ⟨k, _, _, q1, _, _, q2, _⟩ => h k q1 q2)))
  have hb2 : 2 ≤ t 0 0 := by
    rcases c1 with ⟨-, -, -, q, -⟩ | ⟨-, -, q, -⟩
    · omega
    · exact q
  have no2 : (∀ s, s < 14 + 1 → y ≠ nI s) → w_Model_turn a x y z (fun r' a2 => (-2 : Int32) = r' ∧ J (i + 1) N a2) := fun h => no (fun ⟨_, s, _, _, q1, _, _, q2, _⟩ => h s (by omega) q2)
  refine ar_gt 14 (by omega) no2 no2 (fun s hs e2 => ?_)
  subst e e2
  have hmn : mostn (t 0 0) s ≤ 99 := mostn_le (by omega)
  have no3 : (∀ n, n ≤ mostn (t 0 0) s → z ≠ nI n) → w_Model_turn a (nI k) (nI s) z (fun r' a2 => (-2 : Int32) = r' ∧ J (i + 1) N a2) := fun h => no (fun ⟨_, s', n, _, _, q1, _, q2, q3⟩ => h n (by
    have : s' = s := (nI_eq (by omega) (by omega)).mp q2.symm
    rw [← this]; exact q1) q3)
  refine ⟨fun w => no3 (fun n hn e3 => by rw [e3] at w; exact nI_pos (by omega) w), fun w => ?_⟩
  obtain ⟨n, hn, rfl⟩ := nI_of w
  refine x_mostOf x1 hb2 (by omega) ⟨fun w2 => ?_, fun w2 => no3 (fun n' hn' e3 => w2 (by rw [e3]; exact nI_le hn' (by omega)))⟩
  have hnm : n ≤ mostn (t 0 0) s := (nI_leI hn (by omega)).mp w2
  have hwn : wok (t 0 0) s n := (wok_most hb2 (by omega) (by omega)).mpr hnm
  have hwk := twok c1 hk
  have hw99 := wok_99 (by omega : t 0 0 ≤ 16) hwk
  -- the model over a state that differs in x's doing alone
  have mm : ∀ (b : ud_St) (r : Int32), mT (a71 b) 0 t → (r = if t 1 k = s ∧ t 2 k = n then 0 else 1) → (∀ c : ud_St, c = ud_sv (ud_sv (a71 b) 79 (2 * k) (nI s)) 79 (2 * k + 1) (enc s n) → J (i + 1) N c) → w_Model_turn b (nI k) (nI s) (nI n) (fun r' a2 => r = r' ∧ J (i + 1) N a2) := by
    intro b r hb3 hr hj
    refine mm_turn c1 hb3 (fun k' s' n' q1 q2 q3 q4 q5 q6 => ?_) (fun h => absurd ⟨k, s, n, hk, by omega, hnm, rfl, rfl, rfl⟩ h)
    have z1 : k' = k := (nI_eq (by omega) (by omega)).mp q4.symm
    have z2 : s' = s := (nI_eq (by omega) (by omega)).mp q5.symm
    subst z1 z2
    have z3 : n' = n := (nI_eq (by omega) (by omega)).mp q6.symm
    subst z3
    exact ⟨hr, hj _ rfl⟩
  unfold w_Words_is w_Words_sort w_Words_number
  refine ub_atn (by omega) (by omega) ?_
  rw [(x9 k hk).1]
  have same : t 1 k = s → t 2 k = n → w_Model_turn a (nI k) (nI s) (nI n) (fun r' a2 => (0 : Int32) = r' ∧ J (i + 1) N a2) := fun w1 w2 => mm a 0 c3 (by rw [if_pos ⟨w1, w2⟩]) (fun c hc => by
    have ec : ∀ k' j, ¬ (k' = 71 ∧ j = 0) → c.1 k' j = a.1 k' j := fun k' j q => by
      have m8 := c3.2.2.2.2.2.2.2.1 k hk
      rw [show 24 * 0 + 2 * k = 2 * k by omega, us_1, if_neg (by omega), us_1, if_neg (by omega)] at m8
      rw [hc, us_1, us_1, us_1]
      by_cases g1 : k' = 79 ∧ j = 2 * k + 1
      · rw [if_pos g1, g1.1, g1.2, m8.2, w1, w2]
      · rw [if_neg g1]
        by_cases g2 : k' = 79 ∧ j = 2 * k
        · rw [if_pos g2, g2.1, g2.2, m8.1, w1]
        · rw [if_neg g2, if_neg q]
    exact ⟨t, JC_c hC (fun k' j q => ec k' j (by unfold core at q; omega)) (by rw [hc]; rfl), JX_c hX (Nat.le_succ i) (fun k' j q => ec k' j (by omega))⟩)
  have other : (t 1 k ≠ s ∨ t 2 k ≠ n) → w_Words_change a 5 (nI k) (nI s) (nI n) (fun a_8 => w_UpAndDown_forget a_8 (fun a_10 => w_Model_turn a_10 (nI k) (nI s) (nI n) (fun r' a2 => (1 : Int32) = r' ∧ J (i + 1) N a2))) := fun w1 => by
    unfold w_Words_change w_UpAndDown_forget
    refine ub_putn (by omega) (by omega) (ub_putn (by omega) (by omega) ?_)
    have eb : ∀ k' j, ¬ (k' = 45 ∧ j = 3) → ¬ (k' = 36 ∧ j = 9) → ¬ (k' = 7 ∧ j = k) → ¬ (k' = 6 ∧ j = k) → (ud_sv (ud_sv (ud_sv (ud_sv a 6 k (nI s)) 7 k (nI n)) 36 9 0) 45 3 (-1)).1 k' j = a.1 k' j := fun k' j q1 q2 q3 q4 => by
      rw [us_1, if_neg q1, us_1, if_neg q2, us_1, if_neg q3, us_1, if_neg q4]
    refine mm _ 1 (mT_c c3 (fun k' j q1 q2 => by rw [us_1, if_neg (by omega), us_1, if_neg (by omega), us_1, if_neg (by omega), us_1, if_neg (by omega), us_1, if_neg (by omega), us_1, if_neg (by omega)])) (by rw [if_neg (fun q => w1.elim (fun z => z q.1) (fun z => z q.2))]) (fun c hc => ?_)
    have ec : ∀ k' j, ¬ (k' = 45 ∧ j = 3) → ¬ (k' = 36 ∧ j = 9) → ¬ (k' = 7 ∧ j = k) → ¬ (k' = 6 ∧ j = k) → ¬ (k' = 71 ∧ j = 0) → ¬ (k' = 79 ∧ (j = 2 * k ∨ j = 2 * k + 1)) → c.1 k' j = a.1 k' j := fun k' j q1 q2 q3 q4 q5 q6 => by
      rw [hc, us_1, if_neg (by omega), us_1, if_neg (by omega), us_1, if_neg (by omega), eb k' j q1 q2 q3 q4]
    have o : ∀ {r c : Nat}, r ≠ 1 → r ≠ 2 → tW t k s n r c = t r c := fun h1 h2 => tW_o h1 h2
    have e36 : c.1 36 9 = 0 := by rw [hc]; simp [us_1]
    have e45 : c.1 45 3 = -1 := by rw [hc]; simp [us_1]
    obtain ⟨f1, f2, ⟨mk, f3, -⟩, f4⟩ := hX
    obtain ⟨d1, d2, d3, d4, d5, d6, d7⟩ := hC
    refine ⟨tW t k s n, ⟨tW_ok c1 hk hwn, ?_, ?_, JT_c d4 (ec _ _ (by omega) (by omega) (by omega) (by omega) (by omega) (by omega)) (fun j => ec _ _ (by omega) (by omega) (by omega) (by omega) (by omega) (by omega)) (ec _ _ (by omega) (by omega) (by omega) (by omega) (by omega) (by omega)) (fun j => ec _ _ (by omega) (by omega) (by omega) (by omega) (by omega) (by omega)), ?_, JS_c d6 (fun k' j _ _ => ec _ _ (by omega) (by omega) (by omega) (by omega) (by omega) (by omega)) (fun k' j _ _ => ec _ _ (by omega) (by omega) (by omega) (by omega) (by omega) (by omega)) (by rw [hc]; rfl), ?_⟩, figOK_c ?_ (fun k' j _ _ => ec _ _ (by omega) (by omega) (by omega) (by omega) (by omega) (by omega)), Or.inl e36, ⟨mk, ⟨(ec _ _ (by omega) (by omega) (by omega) (by omega) (by omega) (by omega)).trans f3.1, by have := f3.2.1; omega, fun u hu => ?_⟩, Or.inl e45⟩, coOK_c f4 (fun k' j _ => ec _ _ (by omega) (by omega) (by omega) (by omega) (by omega) (by omega))⟩
    · refine ⟨?_, ?_, ?_, ?_, ?_, ?_, ?_, ?_, fun u hu => ?_, fun u hu => ?_, fun u hu => ?_⟩
      · rw [ec _ _ (by omega) (by omega) (by omega) (by omega) (by omega) (by omega), o (by omega) (by omega)]; exact x1
      · rw [ec _ _ (by omega) (by omega) (by omega) (by omega) (by omega) (by omega), o (by omega) (by omega)]; exact x2
      · rw [ec _ _ (by omega) (by omega) (by omega) (by omega) (by omega) (by omega), tW_S]; exact x3
      · rw [ec _ _ (by omega) (by omega) (by omega) (by omega) (by omega) (by omega), o (by omega) (by omega)]; exact x4
      · rw [ec _ _ (by omega) (by omega) (by omega) (by omega) (by omega) (by omega), o (by omega) (by omega)]; exact x5
      · rw [ec _ _ (by omega) (by omega) (by omega) (by omega) (by omega) (by omega), o (by omega) (by omega)]; exact x6
      · rw [ec _ _ (by omega) (by omega) (by omega) (by omega) (by omega) (by omega), o (by omega) (by omega)]; exact x7
      · rw [ec _ _ (by omega) (by omega) (by omega) (by omega) (by omega) (by omega), o (by omega) (by omega)]; exact x8
      · rw [o (by omega) (by omega)] at hu
        rw [tW_1, tW_2]
        by_cases e : u = k
        · rw [if_pos e, if_pos e, hc, e]; simp [us_1]
        · rw [if_neg e, if_neg e, ec _ _ (by omega) (by omega) (by omega) (by omega) (by omega) (by omega), ec _ _ (by omega) (by omega) (by omega) (by omega) (by omega) (by omega)]
          exact x9 u hu
      · rw [o (by omega) (by omega)] at hu
        rw [o (by omega) (by omega), o (by omega) (by omega), o (by omega) (by omega), o (by omega) (by omega), ec _ _ (by omega) (by omega) (by omega) (by omega) (by omega) (by omega), ec _ _ (by omega) (by omega) (by omega) (by omega) (by omega) (by omega), ec _ _ (by omega) (by omega) (by omega) (by omega) (by omega) (by omega), ec _ _ (by omega) (by omega) (by omega) (by omega) (by omega) (by omega)]
        exact x10 u hu
      · rw [o (by omega) (by omega)] at hu
        rw [o (by omega) (by omega), ec _ _ (by omega) (by omega) (by omega) (by omega) (by omega) (by omega)]
        exact x11 u hu
    · obtain ⟨m1, m2, m3, m4, m5, m6, m7, m8, m9, m10⟩ := d3
      refine ⟨?_, ?_, ?_, ?_, ?_, ?_, ?_, fun u hu => ?_, fun u hu => ?_, fun u hu => ?_⟩
      · rw [ec _ _ (by omega) (by omega) (by omega) (by omega) (by omega) (by omega), o (by omega) (by omega)]; exact m1
      · rw [ec _ _ (by omega) (by omega) (by omega) (by omega) (by omega) (by omega), o (by omega) (by omega)]; exact m2
      · rw [ec _ _ (by omega) (by omega) (by omega) (by omega) (by omega) (by omega), o (by omega) (by omega)]; exact m3
      · rw [ec _ _ (by omega) (by omega) (by omega) (by omega) (by omega) (by omega), tW_S]; exact m4
      · rw [ec _ _ (by omega) (by omega) (by omega) (by omega) (by omega) (by omega), o (by omega) (by omega)]; exact m5
      · rw [ec _ _ (by omega) (by omega) (by omega) (by omega) (by omega) (by omega), o (by omega) (by omega)]; exact m6
      · rw [ec _ _ (by omega) (by omega) (by omega) (by omega) (by omega) (by omega), o (by omega) (by omega)]; exact m7
      · rw [o (by omega) (by omega)] at hu
        rw [tW_1, tW_2]
        by_cases e : u = k
        · rw [if_pos e, if_pos e, hc, e, show 24 * 0 + 2 * k = 2 * k by omega]
          refine ⟨?_, ?_⟩
          · rw [us_1, if_neg (by omega), us_1, if_pos ⟨rfl, rfl⟩]
          · rw [us_1, if_pos ⟨rfl, rfl⟩]
        · rw [if_neg e, if_neg e, ec _ _ (by omega) (by omega) (by omega) (by omega) (by omega) (by omega), ec _ _ (by omega) (by omega) (by omega) (by omega) (by omega) (by omega)]
          exact m8 u hu
      · rw [o (by omega) (by omega)] at hu
        rw [o (by omega) (by omega), o (by omega) (by omega), o (by omega) (by omega), o (by omega) (by omega), ec _ _ (by omega) (by omega) (by omega) (by omega) (by omega) (by omega), ec _ _ (by omega) (by omega) (by omega) (by omega) (by omega) (by omega), ec _ _ (by omega) (by omega) (by omega) (by omega) (by omega) (by omega), ec _ _ (by omega) (by omega) (by omega) (by omega) (by omega) (by omega)]
        exact m9 u hu
      · rw [o (by omega) (by omega)] at hu
        rw [o (by omega) (by omega), ec _ _ (by omega) (by omega) (by omega) (by omega) (by omega) (by omega)]
        exact m10 u hu
    · refine ⟨?_, ?_⟩
      · rw [ec 3 6 (by omega) (by omega) (by omega) (by omega) (by omega) (by omega), ec 71 14 (by omega) (by omega) (by omega) (by omega) (by omega) (by omega)]; exact d5.1
      · rw [ec 3 7 (by omega) (by omega) (by omega) (by omega) (by omega) (by omega), ec 71 15 (by omega) (by omega) (by omega) (by omega) (by omega) (by omega)]; exact d5.2
    · obtain ⟨g1, g2, g3, g4⟩ := d7
      have e22 : c.2.2 = a.2.2 := by rw [hc]; rfl
      refine ⟨g1, g2, fun u hu => ?_, by rw [e22]; exact g4⟩
      rw [e22, ec 82 u (by omega) (by omega) (by omega) (by omega) (by omega) (by omega)]
      rcases g3 u hu with q | ⟨q1, q, t', q2, q3, q4, q5, q6, q7, q8⟩
      · exact Or.inl q
      · refine Or.inr ⟨q1, q, t', q2, q3, q4, q5, xT_c q6 (fun k' j _ _ => ec _ _ (by omega) (by omega) (by omega) (by omega) (by omega) (by omega)), ?_, q8⟩
        obtain ⟨m1, m2, m3, m4, m5, m6, m7, m8, m9, m10⟩ := q7
        exact ⟨(ec _ _ (by omega) (by omega) (by omega) (by omega) (by omega) (by omega)).trans m1, (ec _ _ (by omega) (by omega) (by omega) (by omega) (by omega) (by omega)).trans m2, (ec _ _ (by omega) (by omega) (by omega) (by omega) (by omega) (by omega)).trans m3, (ec _ _ (by omega) (by omega) (by omega) (by omega) (by omega) (by omega)).trans m4, (ec _ _ (by omega) (by omega) (by omega) (by omega) (by omega) (by omega)).trans m5, (ec _ _ (by omega) (by omega) (by omega) (by omega) (by omega) (by omega)).trans m6, (ec _ _ (by omega) (by omega) (by omega) (by omega) (by omega) (by omega)).trans m7, fun v hv => ⟨(ec _ _ (by omega) (by omega) (by omega) (by omega) (by omega) (by omega)).trans (m8 v hv).1, (ec _ _ (by omega) (by omega) (by omega) (by omega) (by omega) (by omega)).trans (m8 v hv).2⟩, fun v hv => ⟨(ec _ _ (by omega) (by omega) (by omega) (by omega) (by omega) (by omega)).trans (m9 v hv).1, (ec _ _ (by omega) (by omega) (by omega) (by omega) (by omega) (by omega)).trans (m9 v hv).2.1, (ec _ _ (by omega) (by omega) (by omega) (by omega) (by omega) (by omega)).trans (m9 v hv).2.2.1, (ec _ _ (by omega) (by omega) (by omega) (by omega) (by omega) (by omega)).trans (m9 v hv).2.2.2⟩, fun v hv => (ec _ _ (by omega) (by omega) (by omega) (by omega) (by omega) (by omega)).trans (m10 v hv)⟩
    · rw [o (by omega) (by omega), o (by omega) (by omega)]; exact f1
    · obtain ⟨v, v1, v2⟩ := f3.2.2 u hu
      exact ⟨v, v1, (ec _ _ (by omega) (by omega) (by omega) (by omega) (by omega) (by omega)).trans v2⟩
  refine ⟨fun w1 => ub_atn (by omega) (by omega) ?_, fun w1 => t0 (other (Or.inl (fun q => w1 (by rw [q]))))⟩
  have w1' : t 1 k = s := (nI_eq (by have := hwk.1; omega) (by omega)).mp w1
  rw [(x9 k hk).2]
  exact ⟨fun w3 => t1 (same w1' ((nI_eq (by omega) (by omega)).mp w3)), fun w3 => t0 (other (Or.inr (fun q => w3 (by rw [q]))))⟩
