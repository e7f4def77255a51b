/-! the tape: feed, end -/
theorem nI_all (x : Int32) : x = nI x.toBitVec.toNat := by
  apply Int32.toBitVec_inj.mp
  show x.toBitVec = BitVec.ofNat 32 _
  rw [BitVec.ofNat_toNat, BitVec.setWidth_eq]
/-- byte t of an int, the highest first -/
def by4 (x : Int32) (t : Nat) : Nat := x.toBitVec.toNat / 2 ^ (24 - 8 * t) % 256
theorem by4_lt (x : Int32) (t : Nat) : by4 x t < 256 := Nat.mod_lt _ (by omega)
/-- the shift behind t bytes -/
def sh4 (t : Nat) : Int32 := match t with
  | 0 => 24
  | 1 => 16
  | 2 => 8
  | 3 => 0
  | _ => -8
theorem sh4_s {t : Nat} (h : t < 4) : sh4 t + (-8) = sh4 (t + 1) := by
  rcases (show t = 0 ∨ t = 1 ∨ t = 2 ∨ t = 3 by omega) with rfl | rfl | rfl | rfl <;> decide
theorem sh4_nn {t : Nat} (h : t < 4) : ¬ sh4 t < 0 := by
  rcases (show t = 0 ∨ t = 1 ∨ t = 2 ∨ t = 3 by omega) with rfl | rfl | rfl | rfl <;> decide
theorem by4_x (x : Int32) {t : Nat} (h : t < 4) : ((x.toUInt32 >>> ((sh4 t).toUInt32 &&& Int32.toUInt32 31)).toInt32 &&& 255) = nI (by4 x t) := by
  have hn : x.toBitVec.toNat < 2 ^ 32 := x.toBitVec.isLt
  have e : (x.toUInt32 >>> ((sh4 t).toUInt32 &&& Int32.toUInt32 31)).toInt32 = nI (x.toBitVec.toNat / 2 ^ (24 - 8 * t)) := by
    conv => lhs; rw [nI_all x]
    refine pk_ushrN hn _ _ ?_
    rcases (show t = 0 ∨ t = 1 ∨ t = 2 ∨ t = 3 by omega) with rfl | rfl | rfl | rfl <;> decide
  rw [e, pk_andN (Nat.lt_of_le_of_lt (Nat.div_le_self _ _) hn) 8 (by decide)]
  rfl
theorem by4_m (x : Int32) {t : Nat} (h : t < 4) : (x >>> (sh4 t &&& 31)).toInt8 = (nI (by4 x t)).toInt8 := by
  apply Int8.toBitVec_inj.mp
  have e1 : ∀ y : Int32, y.toInt8.toBitVec = y.toBitVec.setWidth 8 := fun y => BitVec.signExtend_eq_setWidth_of_le y.toBitVec (by omega)
  rw [e1, e1]
  have e2 : (x >>> (sh4 t &&& 31)).toBitVec = x.toBitVec.sshiftRight (24 - 8 * t) := by
    rw [Int32.toBitVec_shiftRight, BitVec.sshiftRight_eq']
    congr 1
    rcases (show t = 0 ∨ t = 1 ∨ t = 2 ∨ t = 3 by omega) with rfl | rfl | rfl | rfl <;> decide
  rw [e2]
  apply BitVec.eq_of_getLsbD_eq
  intro j hj
  rw [BitVec.getLsbD_setWidth, BitVec.getLsbD_setWidth, BitVec.getLsbD_sshiftRight]
  have e3 : (nI (by4 x t)).toBitVec.getLsbD j = x.toBitVec.getLsbD (24 - 8 * t + j) := by
    show (BitVec.ofNat 32 (by4 x t)).getLsbD j = _
    rw [BitVec.getLsbD_ofNat]
    unfold by4
    have e4 : (x.toBitVec.toNat / 2 ^ (24 - 8 * t) % 256).testBit j = x.toBitVec.toNat.testBit (24 - 8 * t + j) := by
      rw [show (256 : Nat) = 2 ^ 8 from rfl, Nat.testBit_mod_two_pow, Nat.testBit_div_two_pow]
      simp [hj, Nat.add_comm]
    rw [e4]
    simp [show j < 32 by omega, BitVec.getLsbD]
  rw [e3]
  have : 24 - 8 * t + j < 32 := by omega
  simp [this, show ¬ 32 ≤ j by omega]
def Pt (k j : Nat) : Prop := (k = 1 ∧ j = 1) ∨ k = 2
def Pm6 (k j : Nat) : Prop := (k = 71 ∧ j = 6) ∨ k = 76
theorem x_push {a : ud_St} {x : Int32} {c : Nat} {Q : ud_St → Prop} (hc : a.1 1 1 = nI c) (hc2 : c + 4 ≤ 800) (hQ : ∀ a', fr Pt a a' → a'.1 1 1 = nI (c + 4) → (∀ t, t < 4 → a'.1 2 (c + t) = nI (by4 x t)) → (∀ j, j < c → a'.1 2 j = a.1 2 j) → Q a') : w_Tape_push a x Q := by
  unfold w_Tape_push
  refine LW2.up 4 (fun t s b => s = sh4 t ∧ fr Pt a b ∧ b.1 1 1 = nI (c + t) ∧ (∀ u, u < t → b.1 2 (c + u) = nI (by4 x u)) ∧ ∀ j, j < c → b.1 2 j = a.1 2 j) ⟨rfl, fr.rf, hc, fun u hu => by omega, fun j _ => rfl⟩ ?_ ?_
  · rintro t s b ht ⟨rfl, hf, h1, h2, h3⟩ K hK
    rw [h1, by4_x x ht, sh4_s ht]
    refine ⟨fun q => absurd q (sh4_nn ht), fun _ => ub_putn (by omega) (by omega) ?_⟩
    rw [us_1, if_neg (by omega), h1, nI_1]
    refine hK _ _ ⟨rfl, (hf.sv (Or.inr rfl)).sv (Or.inl ⟨rfl, rfl⟩), by rw [us_1, if_pos ⟨rfl, rfl⟩]; rfl, fun u hu => ?_, fun j hj => ?_⟩
    · rw [us_1, if_neg (by omega), us_1]
      by_cases e : u = t
      · rw [if_pos ⟨rfl, by omega⟩, e]
      · rw [if_neg (by omega)]; exact h2 u (by omega)
    · rw [us_1, if_neg (by omega), us_1, if_neg (by omega)]; exact h3 j hj
  · rintro s b ⟨rfl, hf, h1, h2, h3⟩ K
    exact ⟨fun _ => hQ b hf h1 h2 h3, fun q => absurd (by decide) q⟩
theorem m_four {a : ud_St} {x : Int32} {c : Nat} {Q : ud_St → Prop} (hc : a.1 71 6 = nI c) (hc2 : c + 4 ≤ 800) (hQ : ∀ a', fr Pm6 a a' → a'.1 71 6 = nI (c + 4) → (∀ t, t < 4 → a'.1 76 (c + t) = (nI (by4 x t)).toInt8.toInt32) → (∀ j, j < c → a'.1 76 j = a.1 76 j) → Q a') : w_Model_four a x Q := by
  unfold w_Model_four
  refine LW2.up 4 (fun t s b => s = sh4 t ∧ fr Pm6 a b ∧ b.1 71 6 = nI (c + t) ∧ (∀ u, u < t → b.1 76 (c + u) = (nI (by4 x u)).toInt8.toInt32) ∧ ∀ j, j < c → b.1 76 j = a.1 76 j) ⟨rfl, fr.rf, hc, fun u hu => by omega, fun j _ => rfl⟩ ?_ ?_
  · rintro t s b ht ⟨rfl, hf, h1, h2, h3⟩ K hK
    rw [h1, by4_m x ht, sh4_s ht, nI_clamp (by omega)]
    have e : vp_nar .byte (nI (by4 x t)).toInt8.toInt32 = (nI (by4 x t)).toInt8.toInt32 := fb_byte_twice _
    rw [e]
    refine ⟨fun q => absurd q (sh4_nn ht), fun _ => ⟨vp_in_nI (by omega) (by omega), ?_⟩⟩
    rw [us_1, if_neg (by omega), h1, nI_1]
    refine hK _ _ ⟨rfl, (hf.sv (Or.inr rfl)).sv (Or.inl ⟨rfl, rfl⟩), by rw [us_1, if_pos ⟨rfl, rfl⟩]; rfl, fun u hu => ?_, fun j hj => ?_⟩
    · rw [us_1, if_neg (by omega), us_1]
      by_cases e : u = t
      · rw [if_pos ⟨rfl, by omega⟩, e]
      · rw [if_neg (by omega)]; exact h2 u (by omega)
    · rw [us_1, if_neg (by omega), us_1, if_neg (by omega)]; exact h3 j hj
  · rintro s b ⟨rfl, hf, h1, h2, h3⟩ K
    exact ⟨fun _ => hQ b hf h1 h2 h3, fun q => absurd (by decide) q⟩
/-- behind m words of the five -/
def fedX (a a' : ud_St) (c m : Nat) (w : Nat → Int32) : Prop := fr Pt a a' ∧ a'.1 1 1 = nI (c + 4 * m) ∧ (∀ u, u < 4 * m → a'.1 2 (c + u) = nI (by4 (w (u / 4)) (u % 4))) ∧ ∀ j, j < c → a'.1 2 j = a.1 2 j
def fedM (a a' : ud_St) (c m : Nat) (w : Nat → Int32) : Prop := fr Pm6 a a' ∧ a'.1 71 6 = nI (c + 4 * m) ∧ (∀ u, u < 4 * m → a'.1 76 (c + u) = (nI (by4 (w (u / 4)) (u % 4))).toInt8.toInt32) ∧ ∀ j, j < c → a'.1 76 j = a.1 76 j
theorem x_pushm {a a' : ud_St} {c m : Nat} {w : Nat → Int32} {Q : ud_St → Prop} (h : fedX a a' c m w) (hc : c + 4 * m + 4 ≤ 800) (hQ : ∀ b, fedX a b c (m + 1) w → Q b) : w_Tape_push a' (w m) Q := by
  obtain ⟨h1, h2, h3, h4⟩ := h
  refine x_push h2 hc (fun b hf q1 q2 q3 => hQ b ⟨h1.tr hf, by rw [q1]; rfl, fun u hu => ?_, fun j hj => (q3 j (by omega)).trans (h4 j hj)⟩)
  by_cases e : u < 4 * m
  · rw [q3 _ (by omega)]; exact h3 u e
  · have := q2 (u - 4 * m) (by omega)
    rw [show c + 4 * m + (u - 4 * m) = c + u by omega] at this
    rw [this, show u / 4 = m by omega, show u % 4 = u - 4 * m by omega]
theorem m_fourm {a a' : ud_St} {c m : Nat} {w : Nat → Int32} {Q : ud_St → Prop} (h : fedM a a' c m w) (hc : c + 4 * m + 4 ≤ 800) (hQ : ∀ b, fedM a b c (m + 1) w → Q b) : w_Model_four a' (w m) Q := by
  obtain ⟨h1, h2, h3, h4⟩ := h
  refine m_four h2 hc (fun b hf q1 q2 q3 => hQ b ⟨h1.tr hf, by rw [q1]; rfl, fun u hu => ?_, fun j hj => (q3 j (by omega)).trans (h4 j hj)⟩)
  by_cases e : u < 4 * m
  · rw [q3 _ (by omega)]; exact h3 u e
  · have := q2 (u - 4 * m) (by omega)
    rw [show c + 4 * m + (u - 4 * m) = c + u by omega] at this
    rw [this, show u / 4 = m by omega, show u % 4 = u - 4 * m by omega]
theorem JX_e {i : Nat} {a a' : ud_St} {t : TD} (h : JX i a t) (e : ∀ k j, 26 ≤ k → k ≤ 55 → a'.1 k j = a.1 k j) : JX (i + 1) a' t := JX_c h (Nat.le_succ i) (fun k j q => e k j (by omega) (by omega))
theorem s_feed (i : Nat) : us_feed (J i) (J (i + 1)) := by
  intro N a x0 x1 x2 x3 x4 hJ
  obtain ⟨t, hC, hX⟩ := id hJ
  have hj2 := J_sc hJ f0_sc
  obtain ⟨c, h1, h2, h3, h4⟩ := hC.2.2.2.1
  unfold w_UpAndDown_feed w_Tape_hasRoomFor
  have e1 : a.1 1 1 + 20 = nI (c + 20) := by rw [h2]; exact nI_add c 20
  rw [e1]
  refine ⟨fun q => t0 ?_, fun q => t1 ?_⟩
  · have q' : 800 < c + 20 := (nI_ltI (a := 800) (by omega) (by omega)).mp q
    unfold w_Model_feed
    have e2 : (ud_sv a 71 0 0).1 71 6 + 20 = nI (c + 20) := by rw [us_1, if_neg (by omega), h3]; exact nI_add c 20
    dsimp only
    rw [e2]
    exact ⟨fun z => absurd z (nI_ge (b := c + 20) (a := 800) q' (by omega)), fun _ => ⟨rfl, hj2⟩⟩
  · have q' : c + 20 ≤ 800 := by
      rcases Nat.lt_or_ge 800 (c + 20) with w | w
      · exact absurd (nI_lt (a := 800) w (by omega)) q
      · exact w
    obtain ⟨w, w0, w1, w2, w3, w4⟩ : ∃ w : Nat → Int32, w 0 = x0 ∧ w 1 = x1 ∧ w 2 = x2 ∧ w 3 = x3 ∧ w 4 = x4 := ⟨fun m => match m with | 0 => x0 | 1 => x1 | 2 => x2 | 3 => x3 | _ => x4, rfl, rfl, rfl, rfl, rfl⟩
    rw [← w0, ← w1, ← w2, ← w3, ← w4]
    refine x_pushm (a := a) (c := c) (m := 0) ⟨fr.rf, h2, fun u hu => by omega, fun j _ => rfl⟩ (by omega) (fun b1 g1 => x_pushm g1 (by omega) (fun b2 g2 => x_pushm g2 (by omega) (fun b3 g3 => x_pushm g3 (by omega) (fun b4 g4 => x_pushm g4 (by omega) (fun b g => ?_)))))
    obtain ⟨f1, f2, f3, f4⟩ := g
    unfold w_Model_feed
    have e6 : (ud_sv b 71 0 0).1 71 6 = nI c := by rw [us_1, if_neg (by omega), f1.1 71 6 (by unfold Pt; omega)]; exact h3
    have e2 : (ud_sv b 71 0 0).1 71 6 + 20 = nI (c + 20) := by rw [e6]; exact nI_add c 20
    dsimp only
    rw [e2]
    refine ⟨fun _ => ?_, fun z => absurd (nI_le (a := c + 20) (b := 800) q' (by omega)) z⟩
    refine m_fourm (a := ud_sv b 71 0 0) (c := c) (m := 0) ⟨fr.rf, e6, fun u hu => by omega, fun j _ => rfl⟩ (by omega) (fun d1 k1 => m_fourm k1 (by omega) (fun d2 k2 => m_fourm k2 (by omega) (fun d3 k3 => m_fourm k3 (by omega) (fun d4 k4 => m_fourm k4 (by omega) (fun d k => ?_)))))
    obtain ⟨l1, l2, l3, l4⟩ := k
    have eb : ∀ k j, ¬ Pm6 k j → ¬ (k = 71 ∧ j = 0) → d.1 k j = b.1 k j := fun k j q1 q2 => by rw [l1.1 k j q1, us_1, if_neg q2]
    have ea : ∀ k j, ¬ Pm6 k j → ¬ (k = 71 ∧ j = 0) → ¬ Pt k j → d.1 k j = a.1 k j := fun k j q1 q2 q3 => (eb k j q1 q2).trans (f1.1 k j q3)
    have e22 : d.2 = a.2 := by rw [l1.2]; show b.2 = a.2; exact f1.2
    have el : d.1 2 = b.1 2 := funext fun j => eb 2 j (by unfold Pm6; omega) (by omega)
    refine ⟨by rw [f2, l2], t, JC_g hC (fun k j q => ea k j (by unfold coreT at q; unfold Pm6; omega) (by unfold coreT at q; omega) (by unfold coreT at q; unfold Pt; omega)) (by rw [e22]) ⟨c + 20, q', (eb 1 1 (by unfold Pm6; omega) (by omega)).trans f2, l2, fun u hu => ?_⟩ ?_ (JS_c hC.2.2.2.2.2.1 (fun k j _ _ => ea k j (by unfold Pm6; omega) (by omega) (by unfold Pt; omega)) (fun k j _ _ => ea k j (by unfold Pm6; omega) (by omega) (by unfold Pt; omega)) (by rw [e22])), JX_e hX (fun k j _ _ => ea k j (by unfold Pm6; omega) (by omega) (by unfold Pt; omega))⟩
    · by_cases e : u < c
      · obtain ⟨v, q1, q2, q3⟩ := h4 u e
        refine ⟨v, q1, by rw [el, f4 u e]; exact q2, ?_⟩
        rw [l4 u e, us_1, if_neg (by omega), f1.1 76 u (by unfold Pt; omega)]
        exact q3
      · have z1 := f3 (u - c) (by omega)
        have z2 := l3 (u - c) (by omega)
        rw [show c + (u - c) = u by omega] at z1 z2
        exact ⟨_, by4_lt _ _, by rw [el]; exact z1, z2⟩
    · refine ⟨?_, ?_⟩
      · rw [ea 3 6 (by unfold Pm6; omega) (by omega) (by unfold Pt; omega), ea 71 14 (by unfold Pm6; omega) (by omega) (by unfold Pt; omega)]; exact hC.2.2.2.2.1.1
      · rw [ea 3 7 (by unfold Pm6; omega) (by omega) (by unfold Pt; omega), ea 71 15 (by unfold Pm6; omega) (by omega) (by unfold Pt; omega)]; exact hC.2.2.2.2.1.2
theorem s_end (i : Nat) : us_end (J i) (J (i + 1)) := by
  intro N a x hJ
  obtain ⟨t, hC, hX⟩ := id hJ
  have hj2 := J_sc hJ f0_sc
  obtain ⟨c, h1, h2, h3, h4⟩ := hC.2.2.2.1
  unfold w_UpAndDown_end
  rw [h2]
  have no : (∀ k, k < c + 1 → x ≠ nI k) → w_Model_end a x (fun r' a2 => (-1 : Int32) = r' ∧ J (i + 1) N a2) := fun h => by
    unfold w_Model_end
    rw [show (ud_sv a 71 0 0).1 71 6 = nI c by rw [us_1, if_neg (by omega), h3]]
    exact m_in0 (c + 1) (by omega) (hi_C (by omega)) (fun k hk e => absurd e (h k hk)) (fun _ => t0 ⟨rfl, hj2⟩)
  refine ar_le c (by omega) no no (fun k hk e => ?_)
  subst e
  unfold w_Model_end
  rw [show (ud_sv (ud_sv a 1 1 (nI k)) 71 0 0).1 71 6 = nI c by rw [us_1, if_neg (by omega), us_1, if_neg (by omega), h3]]
  refine m_in0 (c + 1) (by omega) (hi_C (by omega)) (fun _ _ _ => t1 ⟨rfl, t, ?_⟩) (fun z => absurd rfl (z k hk))
  have ea : ∀ k' j, ¬ (k' = 1 ∧ j = 1) → ¬ (k' = 71 ∧ (j = 0 ∨ j = 6)) → (ud_sv (ud_sv (ud_sv a 1 1 (nI k)) 71 0 0) 71 6 (nI k)).1 k' j = a.1 k' j := fun k' j q1 q2 => by
    rw [us_1, if_neg (by omega), us_1, if_neg (by omega), us_1, if_neg (by omega)]
  refine ⟨JC_g hC (fun k j q => ea k j (by unfold coreT at q; omega) (by unfold coreT at q; omega)) rfl ⟨k, by omega, by simp [us_1], by simp [us_1], fun u hu => ?_⟩ ?_ (JS_c hC.2.2.2.2.2.1 (fun k j _ _ => ea k j (by omega) (by omega)) (fun k j _ _ => ea k j (by omega) (by omega)) rfl), JX_e hX (fun k j _ _ => ea k j (by omega) (by omega))⟩
  · obtain ⟨v, q1, q2, q3⟩ := h4 u (by omega)
    exact ⟨v, q1, (ea 2 u (by omega) (by omega)).trans q2, (ea 76 u (by omega) (by omega)).trans q3⟩
  · refine ⟨?_, ?_⟩
    · rw [ea 3 6 (by omega) (by omega), ea 71 14 (by omega) (by omega)]; exact hC.2.2.2.2.1.1
    · rw [ea 3 7 (by omega) (by omega), ea 71 15 (by omega) (by omega)]; exact hC.2.2.2.2.1.2
