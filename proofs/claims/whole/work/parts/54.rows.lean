/-! rows of plain words: find, found -/
theorem rw_lt (m r i : Nat) : rw12 m r i < 12 := Nat.mod_lt _ (by omega)
def Pe (k _j : Nat) : Prop := 56 ≤ k ∧ k ≤ 58
theorem p12 {m : Nat} (hm : m ≤ 3) : 12 ^ m ≤ 1728 := Nat.le_trans (Nat.pow_le_pow_right (by omega) hm) (by decide)
theorem x_spell {a : ud_St} {k m r : Nat} {Q : ud_St → Prop} (hm : m ≤ 3) (hr : r < 12 ^ m) (hQ : ∀ a', fr (Pwc k) a a' → xW a' k m (rw12 m r) (fun _ => 0) → Q a') : w_Words_spell a k (nI r) (nI m) Q := by
  have h12 := p12 hm
  unfold w_Words_spell w_Words_change
  refine LW3.up m (fun t c i b => c = nI (r / 12 ^ t) ∧ i = nI (m - t) - 1 ∧ fr (Pwc k) a b ∧ b.1 k 2 = nI m ∧ ∀ j, m - t ≤ j → j < m → b.1 (k + 1) j = nI (rw12 m r j) ∧ b.1 (k + 2) j = nI 0) ⟨by simp, rfl, fr.rf.sv (by unfold Pwc; omega), by rw [us_1, if_pos ⟨rfl, rfl⟩], fun j h1 h2 => by omega⟩ ?_ ?_
  · rintro t c i b ht ⟨rfl, rfl, hf, g1, g2⟩ K hK
    have hrt : r / 12 ^ t < 2 ^ 31 := Nat.lt_of_le_of_lt (Nat.div_le_self _ _) (by omega)
    rw [ui_pred (by omega : 0 < m - t), show nI (r / 12 ^ t) % 12 = nI (r / 12 ^ t % 12) from ui_mod (b := 12) hrt (by omega), show nI (r / 12 ^ t) / 12 = nI (r / 12 ^ t / 12) from ui_div (b := 12) hrt (by omega), ui_m1]
    refine ⟨fun w => absurd w (nI_pos (by omega)), fun _ => ub_putn (by omega) (by omega) (ub_putn (by omega) (by omega) (hK _ _ _ ⟨by rw [Nat.div_div_eq_div_mul, Nat.pow_succ], by rw [Nat.sub_sub], (hf.sv (by unfold Pwc; omega)).sv (by unfold Pwc; omega), ?_, fun j h1 h2 => ?_⟩))⟩
    · rw [us_1, if_neg (by omega), us_1, if_neg (by omega)]; exact g1
    · rw [us_1, if_neg (by omega), us_1, us_1]
      by_cases e : j = m - t - 1
      · rw [if_pos ⟨rfl, e⟩, if_pos ⟨rfl, e⟩]
        unfold rw12
        rw [e, show m - 1 - (m - t - 1) = t by omega]
        exact ⟨rfl, rfl⟩
      · rw [if_neg (fun q => e q.2), if_neg (fun q => e q.2), us_1, if_neg (by omega)]
        exact g2 j (by omega) h2
  · rintro c i b ⟨rfl, rfl, hf, g1, g2⟩ K
    rw [Nat.sub_self] at *
    refine ⟨fun _ => hQ b hf ⟨by omega, g1, fun j hj => ?_⟩, fun w => absurd ui_end w⟩
    have := g2 j (by omega) hj
    exact ⟨this.1, this.2, by have := rw_lt m r j; omega, Nat.zero_le _⟩
theorem m_rowed {a : ud_St} {b n x m r : Nat} {Q : Int32 → ud_St → Prop} (hF : mF a b n) (hx : x < b ^ n) (hm : m ≤ 3) (hr : r < 12 ^ m) (hQ : ∀ a', fr Pg a a' → Q (nI (rg b n m r x)) a') : w_Model_rowed a (nI x) (nI m) (nI r) Q := by
  have h12 := p12 hm
  obtain ⟨f1, f2, f3, hb, hb2, hn, hn2, hS⟩ := id hF
  unfold w_Model_rowed w_Model_rowed_j14
  have j39 : ∀ by0, by0 = 12 ^ (m - 1) → w_Model_rowed_j39 a (nI x) (nI m) (nI r) (ud_sv a 71 25 (nI x)) (nI m) (nI x) (nI by0) (nI r) 0 Q := by
    rintro _ rfl
    unfold w_Model_rowed_j39
    refine LW5.up m (fun t v b' l k c => v = nI (gw b n (rw12 m r) (fun _ => 0) x t).1 ∧ b' = nI (if t < m ∨ m = 0 then 12 ^ (m - 1 - t) else 0) ∧ l = nI (r % 12 ^ (m - t)) ∧ k = nI t ∧ c.1 71 25 = nI (gw b n (rw12 m r) (fun _ => 0) x t).2 ∧ fr Pg a c) ⟨rfl, by rw [if_pos (by omega)]; rfl, by rw [Nat.sub_zero, Nat.mod_eq_of_lt hr], rfl, by rw [us_1, if_pos ⟨rfl, rfl⟩]; rfl, fr.rf.sv (Or.inr (Or.inr ⟨rfl, rfl⟩))⟩ ?_ ?_
    · rintro t v b' l k c ht ⟨rfl, rfl, rfl, rfl, hk, hf⟩ K hK
      rw [if_pos (Or.inl ht)]
      have hp1 : 0 < 12 ^ (m - 1 - t) := Nat.pow_pos (by omega)
      have hp2 : 12 ^ (m - 1 - t) ≤ 1728 := p12 (by omega)
      have hrl : r % 12 ^ (m - t) < 2 ^ 31 := Nat.lt_of_le_of_lt (Nat.mod_le _ _) (by omega)
      have e1 : 12 ^ (m - t) = 12 ^ (m - 1 - t) * 12 := by rw [show m - t = m - 1 - t + 1 by omega, Nat.pow_succ]
      have hw : r % 12 ^ (m - t) / 12 ^ (m - 1 - t) = rw12 m r t := by
        unfold rw12
        rw [e1, Nat.mod_mul_right_div_self]
      have hl := gw_lt (ws := rw12 m r) (wn := fun _ => 0) hb hn hx t
      have hwl := rw_lt m r t
      have hne : ¬ nI (12 ^ (m - 1 - t)) = 0 := nI_ne0 hp1 (by omega)
      rw [ui_div hrl (by omega), ui_mod hrl (by omega), hw, show nI (12 ^ (m - 1 - t)) / 12 = nI (12 ^ (m - 1 - t) / 12) from ui_div (b := 12) (by omega) (by omega)]
      refine ⟨fun w => absurd w (nI_ge ht (by omega)), fun _ => ⟨hne, m_does (k := 0) (hF.fr hf) hl.1 hl.2 hk (by omega) (fun q => by omega) (by omega) (fun c2 hf2 hk2 => ⟨hne, hK _ _ _ _ _ ⟨rfl, ?_, ?_, nI_1 t, hk2, hf.tr hf2⟩⟩)⟩⟩
      · by_cases e : t + 1 < m
        · rw [if_pos (Or.inl e), show m - 1 - t = m - 1 - (t + 1) + 1 by omega, Nat.pow_succ, Nat.mul_div_cancel _ (by omega)]
        · rw [if_neg (by omega), show m - 1 - t = 0 by omega]
      · rw [show m - (t + 1) = m - 1 - t by omega, e1, Nat.mod_mul_right_mod]
    · rintro v b' l k c ⟨rfl, rfl, rfl, rfl, hk, hf⟩ K
      exact ⟨fun _ => hQ c hf, fun w => absurd (nI_le (Nat.le_refl m) (by omega)) w⟩
  refine LW2.up (m - 1) (fun t b' k => b' = nI (12 ^ t) ∧ k = nI (t + 1)) ⟨rfl, rfl⟩ ?_ ?_
  · rintro t b' k ht ⟨rfl, rfl⟩ K hK
    refine ⟨fun w => absurd w (nI_ge (by omega) (by omega)), fun _ => hK _ _ ⟨?_, nI_1 _⟩⟩
    rw [show nI (12 ^ t) * 12 = nI (12 ^ t * 12) from ui_mul _ 12, Nat.pow_succ]
  · rintro b' k ⟨rfl, rfl⟩ K
    exact ⟨fun _ => j39 _ rfl, fun w => absurd (nI_le (by omega) (by omega)) w⟩
/-- the first row that makes y of x: m words, row r -/
def fnd (b n x y m r : Nat) : Prop := r < 12 ^ m ∧ rg b n m r x = y ∧ (∀ q, q < r → rg b n m q x ≠ y) ∧ ∀ m' q, m' < m → q < 12 ^ m' → rg b n m' q x ≠ y
theorem fnd_one {b n x y m r m2 r2 : Nat} (h1 : fnd b n x y m r) (h2 : fnd b n x y m2 r2) : m = m2 ∧ r = r2 := by
  have e : m = m2 := by
    rcases Nat.lt_trichotomy m m2 with w | w | w
    · exact absurd h1.2.1 (h2.2.2.2 m r w h1.1)
    · exact w
    · exact absurd h2.2.1 (h1.2.2.2 m2 r2 w h2.1)
  subst e
  refine ⟨rfl, ?_⟩
  rcases Nat.lt_trichotomy r r2 with w | w | w
  · exact absurd h1.2.1 (h2.2.2.1 r w)
  · exact w
  · exact absurd h2.2.1 (h1.2.2.1 r2 w)
theorem rg_lt {b n m r x : Nat} (hb : 2 ≤ b) (hn : 1 ≤ n) (hx : x < b ^ n) : rg b n m r x < b ^ n := gx_lt hb hn hx
theorem x_tryRows {a : ud_St} {b n x y : Nat} {Q : Int32 → ud_St → Prop} (hF : xF a b n) (hG : xG a b n) (hx : x < b ^ n) (hy : y < b ^ n) (h1 : ∀ m r, m ≤ 3 → fnd b n x y m r → ∀ a', fr Pe a a' → xW a' 56 m (rw12 m r) (fun _ => 0) → Q (nI m) a') (h0 : (∀ m r, m ≤ 3 → r < 12 ^ m → rg b n m r x ≠ y) → ∀ a', fr Pe a a' → Q (-1) a') : w_UpAndDown_tryRows a (nI x) (nI y) Q := by
  obtain ⟨f1, f2, f3, hb, hb2, hn, hn2, hS⟩ := id hF
  have xFe : ∀ {c}, fr Pe a c → xF c b n := fun h => ⟨(h.1 26 0 (by unfold Pe; omega)).trans f1, (h.1 26 1 (by unfold Pe; omega)).trans f2, (h.1 26 2 (by unfold Pe; omega)).trans f3, hb, hb2, hn, hn2, hS⟩
  have xGe : ∀ {c}, fr Pe a c → xG c b n := fun h z hz => by
    obtain ⟨g1, g2, g3, g4, g5, g6, g7⟩ := hG z hz
    have e : ∀ k, k ≤ 35 → _ := fun k (_ : k ≤ 35) => h.1 k z (by unfold Pe; omega)
    exact ⟨(e 29 (by omega)).trans g1, (e 30 (by omega)).trans g2, (e 31 (by omega)).trans g3, (e 32 (by omega)).trans g4, (e 33 (by omega)).trans g5, (e 34 (by omega)).trans g6, (e 35 (by omega)).trans g7⟩
  unfold w_UpAndDown_tryRows w_UpAndDown_tryRows_j5
  refine LW3.up 4 (fun m rows w c => rows = nI (12 ^ m) ∧ w = nI m ∧ fr Pe a c ∧ ∀ m' q, m' < m → q < 12 ^ m' → rg b n m' q x ≠ y) ⟨rfl, rfl, fr.rf, fun m' q h => by omega⟩ ?_ ?_
  · rintro m rows w c hm ⟨rfl, rfl, hf, hno⟩ K hK
    have h12 := p12 (m := m) (by omega)
    refine ⟨fun z => absurd ((nI_ltI (a := 3) (by omega) (by omega)).mp z) (by omega), fun _ => ?_⟩
    unfold w_UpAndDown_tryRows_j14
    refine LW2.up (12 ^ m) (fun r u d => u = nI r ∧ fr Pe a d ∧ ∀ q, q < r → rg b n m q x ≠ y) ⟨rfl, hf, fun q h => by omega⟩ ?_ ?_
    · rintro r u d hr ⟨rfl, hfd, hq⟩ K2 hK2
      have hrl := rg_lt (m := m) (r := r) hb hn hx
      refine ⟨fun z => absurd z (nI_ge hr (by omega)), fun _ => x_spell (by omega) hr (fun d2 hfd2 hW => ?_)⟩
      have hf2 : fr Pe a d2 := hfd.tr (hfd2.mono (fun k j q => by unfold Pwc at q; unfold Pe; omega))
      refine x_go (xFe hf2) (xGe hf2) hW hx (Nat.le_refl _) ⟨fun z => ?_, fun z => hK2 _ _ ⟨nI_1 r, hf2, fun q hq2 => ?_⟩⟩
      · exact h1 m r (by omega) ⟨hr, (nI_eq (a := rg b n m r x) (by omega) (by omega)).mp z, hq, hno⟩ d2 hf2 hW
      · by_cases e : q = r
        · rw [e]; exact fun w => z (by show nI (rg b n m r x) = nI y; rw [w])
        · exact hq q (by omega)
    · rintro u d ⟨rfl, hfd, hq⟩ K2
      refine ⟨fun _ => ?_, fun z => absurd (nI_le (Nat.le_refl _) (by omega)) z⟩
      rw [show nI (12 ^ m) * 12 = nI (12 ^ m * 12) from ui_mul _ 12, ← Nat.pow_succ]
      refine hK _ _ _ ⟨rfl, nI_1 m, hfd, fun m' q hm' hq2 => ?_⟩
      by_cases e : m' = m
      · subst e; exact hq q hq2
      · exact hno m' q (by omega) hq2
  · rintro rows w c ⟨rfl, rfl, hf, hno⟩ K
    exact ⟨fun _ => h0 (fun m r hm hr => hno m r (by omega) hr) c hf, fun z => absurd (nI_lt (a := 3) (b := 4) (by omega) (by omega)) z⟩
theorem m_finds {a : ud_St} {b n x y : Nat} {Q : ud_St → Prop} (hF : mF a b n) (hx : x < b ^ n) (hy : y < b ^ n) (h1 : ∀ m r, m ≤ 3 → fnd b n x y m r → ∀ a', fr Psc a a' → a'.1 71 33 = nI m → a'.1 71 34 = nI r → Q a') (h0 : (∀ m r, m ≤ 3 → r < 12 ^ m → rg b n m r x ≠ y) → ∀ a', fr Psc a a' → a'.1 71 33 = -1 → Q a') : w_Model_finds a (nI x) (nI y) Q := by
  obtain ⟨f1, f2, f3, hb, hb2, hn, hn2, hS⟩ := id hF
  have mFe : ∀ {c}, fr Psc a c → mF c b n := fun h => ⟨(h.1 78 0 (by unfold Psc; omega)).trans f1, (h.1 78 1 (by unfold Psc; omega)).trans f2, (h.1 78 2 (by unfold Psc; omega)).trans f3, hb, hb2, hn, hn2, hS⟩
  have sc : ∀ {c : ud_St} (j : Nat) (v : Int32), fr Psc a c → (j = 33 ∨ j = 34) → fr Psc a (ud_sv c 71 j v) := fun j v h hj => h.sv (by unfold Psc; omega)
  unfold w_Model_finds w_Model_finds_j7
  refine LW2.up 4 (fun m rows c => rows = nI (12 ^ m) ∧ c.1 71 33 = nI m ∧ fr Psc a c ∧ ∀ m' q, m' < m → q < 12 ^ m' → rg b n m' q x ≠ y) ⟨rfl, by rw [us_1, if_pos ⟨rfl, rfl⟩]; rfl, sc 33 _ fr.rf (Or.inl rfl), fun m' q h => by omega⟩ ?_ ?_
  · rintro m rows c hm ⟨rfl, hc, hf, hno⟩ K hK
    have h12 := p12 (m := m) (by omega)
    rw [hc]
    refine ⟨fun z => absurd ((nI_ltI (a := 3) (by omega) (by omega)).mp z) (by omega), fun _ => ?_⟩
    unfold w_Model_finds_j20
    refine LW1.up (12 ^ m) (fun r d => d.1 71 33 = nI m ∧ d.1 71 34 = nI r ∧ fr Psc a d ∧ ∀ q, q < r → rg b n m q x ≠ y) ⟨by rw [us_1, if_neg (by omega)]; exact hc, by rw [us_1, if_pos ⟨rfl, rfl⟩]; rfl, sc 34 _ hf (Or.inr rfl), fun q h => by omega⟩ ?_ ?_
    · rintro r d hr ⟨d1, d2, hfd, hq⟩ K2 hK2
      have hrl := rg_lt (m := m) (r := r) hb hn hx
      rw [d1, d2]
      refine ⟨fun z => absurd z (nI_ge hr (by omega)), fun _ => m_rowed (mFe hfd) hx (by omega) hr (fun d3 hf3 => ?_)⟩
      have e33 : d3.1 71 33 = nI m := (hf3.1 71 33 (by unfold Pg; omega)).trans d1
      have e34 : d3.1 71 34 = nI r := (hf3.1 71 34 (by unfold Pg; omega)).trans d2
      have hf4 := hfd.tr (hf3.mono pg_sc)
      refine ⟨fun z => h1 m r (by omega) ⟨hr, (nI_eq (by omega) (by omega)).mp z, hq, hno⟩ d3 hf4 e33 e34, fun z => hK2 _ ⟨by rw [us_1, if_neg (by omega)]; exact e33, by rw [us_1, if_pos ⟨rfl, rfl⟩, e34]; exact nI_1 r, sc 34 _ hf4 (Or.inr rfl), fun q hq2 => ?_⟩⟩
      by_cases e : q = r
      · rw [e]; exact fun w => z (by rw [w])
      · exact hq q (by omega)
    · rintro d ⟨d1, d2, hfd, hq⟩ K2
      rw [d2, d1]
      refine ⟨fun _ => ?_, fun z => absurd (nI_le (Nat.le_refl _) (by omega)) z⟩
      rw [show nI (12 ^ m) * 12 = nI (12 ^ m * 12) from ui_mul _ 12, ← Nat.pow_succ]
      refine hK _ _ ⟨rfl, by rw [us_1, if_pos ⟨rfl, rfl⟩]; exact nI_1 m, sc 33 _ hfd (Or.inl rfl), fun m' q hm' hq2 => ?_⟩
      by_cases e : m' = m
      · subst e; exact hq q hq2
      · exact hno m' q (by omega) hq2
  · rintro rows c ⟨rfl, hc, hf, hno⟩ K
    rw [hc]
    exact ⟨fun _ => h0 (fun m r hm hr => hno m r (by omega) hr) _ (sc 33 _ hf (Or.inl rfl)) (by rw [us_1, if_pos ⟨rfl, rfl⟩]), fun z => absurd (nI_lt (a := 3) (b := 4) (by omega) (by omega)) z⟩
theorem pe_sc : ∀ k j, Pe k j → Psc k j := fun k j h => by unfold Pe at h; unfold Psc; omega
theorem mm_find {N : Nat} {a : ud_St} {x y : Int32} {t : TD} {Q : Int32 → ud_St → Prop} (hC : JC N a t) (h1 : ∀ k l, k < tS t → l < tS t → x = nI k → y = nI l → (∀ m r, m ≤ 3 → fnd (t 0 0) (t 0 1) k l m r → ∀ a', fr Psc a a' → Q (nI m) a') ∧ ((∀ m r, m ≤ 3 → r < 12 ^ m → rg (t 0 0) (t 0 1) m r k ≠ l) → ∀ a', fr Psc a a' → Q (-1) a')) (h0 : (¬ ∃ k l, k < tS t ∧ l < tS t ∧ x = nI k ∧ y = nI l) → Q (-2) (a71 a)) : w_Model_find a x y Q := by
  obtain ⟨c1, c2, c3, -⟩ := JC_sc hC f0_sc
  have hS := tS_le c1
  unfold w_Model_find
  refine m_isNumber c3.2.2.2.1 (by omega) (fun k hk e => t1 (m_isNumber c3.2.2.2.1 (by omega) (fun l hl e2 => t1 ?_) (fun h => t0 (h0 (fun ⟨_, l, _, q1, _, q2⟩ => h l q1 q2))))) (fun h => t0 (h0 (fun ⟨k, _, q1, _, q2, _⟩ => h k q1 q2)))
  have hp : 0 < tS t := by omega
  have eS := tS_eq hp
  obtain ⟨q1, q2⟩ := h1 k l hk hl e e2
  rw [e, e2]
  refine m_finds (mF_of c1 c3 hp) (by omega) (by omega) (fun m r hm hf a' hfa e33 _ => ?_) (fun hno a' hfa e33 => ?_)
  · rw [e33]; exact q1 m r hm hf a' (f0_sc.tr hfa)
  · rw [e33]; exact q2 hno a' (f0_sc.tr hfa)
theorem s_find (i : Nat) : us_find (J i) (J (i + 1)) := by
  intro N a x y hJ
  obtain ⟨t, hC, hX⟩ := id hJ
  have hS := tS_le hC.1
  unfold w_UpAndDown_find
  have no : (¬ ∃ k l, k < tS t ∧ l < tS t ∧ x = nI k ∧ y = nI l) → w_Model_find a x y (fun r' a2 => (-2 : Int32) = r' ∧ J (i + 1) N a2) := fun h => mm_find hC (fun k n q1 q2 q3 q4 => absurd ⟨k, n, q1, q2, q3, q4⟩ h) (fun _ => ⟨rfl, J_sc hJ f0_sc⟩)
  refine x_isNumber hC.2.1.2.2.1 (by omega) (fun k hk e => t1 (x_isNumber hC.2.1.2.2.1 (by omega) (fun l hl e2 => t1 ?_) (fun h => t0 (no (fun ⟨_, l, _, q1, _, q2⟩ => h l q1 q2))))) (fun h => t0 (no (fun ⟨k, _, q1, _, q2, _⟩ => h k q1 q2)))
  subst e e2
  have hp : 0 < tS t := by omega
  have eS := tS_eq hp
  obtain ⟨f1, f2, f3⟩ := xF_of hC.1 hX.1 hp
  refine x_tryRows f1 f3 (by omega) (by omega) (fun m r hm hfn a1 hf _ => ?_) (fun hno a1 hf => ?_)
  · have hC1 := JC_sc hC (hf.mono pe_sc)
    have hX1 := JX_sc hX (Nat.le_refl i) (hf.mono pe_sc)
    refine mm_find hC1 (fun k' l' q1 q2 q3 q4 => ?_) (fun h => absurd ⟨k, l, hk, hl, rfl, rfl⟩ h)
    rw [← (nI_eq (by omega) (by omega)).mp q3, ← (nI_eq (by omega) (by omega)).mp q4]
    exact ⟨fun m' r' _ hfn' a2 hf2 => ⟨by rw [(fnd_one hfn hfn').1], J_mk hC1 hX1 hf2⟩, fun hno => absurd hfn.2.1 (hno m r hm hfn.1)⟩
  · have hC1 := JC_sc hC (hf.mono pe_sc)
    have hX1 := JX_sc hX (Nat.le_refl i) (hf.mono pe_sc)
    refine mm_find hC1 (fun k' l' q1 q2 q3 q4 => ?_) (fun h => absurd ⟨k, l, hk, hl, rfl, rfl⟩ h)
    rw [← (nI_eq (by omega) (by omega)).mp q3, ← (nI_eq (by omega) (by omega)).mp q4]
    exact ⟨fun m' r' hm' hfn' => absurd hfn'.2.1 (hno m' r' hm' hfn'.1), fun _ a2 hf2 => ⟨rfl, J_mk hC1 hX1 hf2⟩⟩
theorem mm_found {N : Nat} {a : ud_St} {x y z : Int32} {t : TD} {Q : Int32 → ud_St → Prop} (hC : JC N a t) (h1 : ∀ k l, k < tS t → l < tS t → x = nI k → y = nI l → (∀ m r, m ≤ 3 → fnd (t 0 0) (t 0 1) k l m r → ∀ a', fr Psc a a' → (∀ w, w < m → z = nI w → Q (nI (rw12 m r w)) a') ∧ ((∀ w, w < m → z ≠ nI w) → Q (-1) a')) ∧ ((∀ m r, m ≤ 3 → r < 12 ^ m → rg (t 0 0) (t 0 1) m r k ≠ l) → ∀ a', fr Psc a a' → Q (-1) a')) (h0 : (¬ ∃ k l, k < tS t ∧ l < tS t ∧ x = nI k ∧ y = nI l) → Q (-2) (a71 a)) : w_Model_found a x y z Q := by
  obtain ⟨c1, c2, c3, -⟩ := JC_sc hC f0_sc
  have hS := tS_le c1
  unfold w_Model_found
  refine m_isNumber c3.2.2.2.1 (by omega) (fun k hk e => t1 (m_isNumber c3.2.2.2.1 (by omega) (fun l hl e2 => t1 ?_) (fun h => t0 (h0 (fun ⟨_, l, _, q1, _, q2⟩ => h l q1 q2))))) (fun h => t0 (h0 (fun ⟨k, _, q1, _, q2, _⟩ => h k q1 q2)))
  have hp : 0 < tS t := by omega
  have eS := tS_eq hp
  obtain ⟨q1, q2⟩ := h1 k l hk hl e e2
  rw [e, e2]
  refine m_finds (mF_of c1 c3 hp) (by omega) (by omega) (fun m r hm hf a' hfa e33 e34 => ?_) (fun hno a' hfa e33 => ?_)
  · rw [e33, e34]
    obtain ⟨q3, q4⟩ := q1 m r hm hf a' (f0_sc.tr hfa)
    refine m_in0 m (by omega) (hi_B (by omega)) (fun w hw e3 => t1 ?_) (fun h => t0 (q4 h))
    have h12 := p12 hm
    have hr := hf.1
    rw [e3]
    refine LW2.up (m - 1 - w) (fun s v c => v = nI (r / 12 ^ s) ∧ c = nI (m - s) - 1) ⟨by simp, rfl⟩ ?_ ?_
    · rintro s v c hs ⟨rfl, rfl⟩ K hK
      have hrs : r / 12 ^ s < 2 ^ 31 := Nat.lt_of_le_of_lt (Nat.div_le_self _ _) (by omega)
      rw [ui_pred (by omega : 0 < m - s), show nI (r / 12 ^ s) / 12 = nI (r / 12 ^ s / 12) from ui_div (b := 12) hrs (by omega), ui_m1]
      exact ⟨fun q => absurd q (nI_ge (by omega) (by omega)), fun _ => hK _ _ ⟨by rw [Nat.div_div_eq_div_mul, Nat.pow_succ], by rw [Nat.sub_sub]⟩⟩
    · rintro v c ⟨rfl, rfl⟩ K
      have hrs : r / 12 ^ (m - 1 - w) < 2 ^ 31 := Nat.lt_of_le_of_lt (Nat.div_le_self _ _) (by omega)
      rw [ui_pred (by omega : 0 < m - (m - 1 - w)), show m - (m - 1 - w) - 1 = w by omega, show nI (r / 12 ^ (m - 1 - w)) % 12 = nI (r / 12 ^ (m - 1 - w) % 12) from ui_mod (b := 12) hrs (by omega)]
      exact ⟨fun _ => q3 w hw e3, fun q => absurd (nI_le (Nat.le_refl w) (by omega)) q⟩
  · rw [e33]
    have h2 : ((-1 : Int32) - 1).toInt64.toInt = -2 := by decide
    exact m_in (fun w1 w2 => by rw [l0_toInt] at w1; omega) (fun _ => t0 (q2 hno a' (f0_sc.tr hfa)))
theorem s_found (i : Nat) : us_found (J i) (J (i + 1)) := by
  intro N a x y z hJ
  obtain ⟨t, hC, hX⟩ := id hJ
  have hS := tS_le hC.1
  unfold w_UpAndDown_found
  have no : (¬ ∃ k l, k < tS t ∧ l < tS t ∧ x = nI k ∧ y = nI l) → w_Model_found a x y z (fun r' a2 => (-2 : Int32) = r' ∧ J (i + 1) N a2) := fun h => mm_found hC (fun k n q1 q2 q3 q4 => absurd ⟨k, n, q1, q2, q3, q4⟩ h) (fun _ => ⟨rfl, J_sc hJ f0_sc⟩)
  refine x_isNumber hC.2.1.2.2.1 (by omega) (fun k hk e => t1 (x_isNumber hC.2.1.2.2.1 (by omega) (fun l hl e2 => t1 ?_) (fun h => t0 (no (fun ⟨_, l, _, q1, _, q2⟩ => h l q1 q2))))) (fun h => t0 (no (fun ⟨k, _, q1, _, q2, _⟩ => h k q1 q2)))
  subst e e2
  have hp : 0 < tS t := by omega
  have eS := tS_eq hp
  obtain ⟨f1, f2, f3⟩ := xF_of hC.1 hX.1 hp
  refine x_tryRows f1 f3 (by omega) (by omega) (fun m r hm hfn a1 hf hW => ?_) (fun hno a1 hf => ?_)
  · have hC1 := JC_sc hC (hf.mono pe_sc)
    have hX1 := JX_sc hX (Nat.le_refl i) (hf.mono pe_sc)
    have mm : ∀ v, (∀ w, w < m → z = nI w → v = nI (rw12 m r w)) → ((∀ w, w < m → z ≠ nI w) → v = -1) → w_Model_found a1 (nI k) (nI l) z (fun r' a2 => v = r' ∧ J (i + 1) N a2) := fun v v1 v2 => by
      refine mm_found hC1 (fun k' l' q1 q2 q3 q4 => ?_) (fun h => absurd ⟨k, l, hk, hl, rfl, rfl⟩ h)
      rw [← (nI_eq (by omega) (by omega)).mp q3, ← (nI_eq (by omega) (by omega)).mp q4]
      refine ⟨fun m' r' _ hfn' a2 hf2 => ?_, fun hno => absurd hfn.2.1 (hno m r hm hfn.1)⟩
      obtain ⟨e1, e2⟩ := fnd_one hfn hfn'
      subst e1 e2
      exact ⟨fun w hw e => ⟨v1 w hw e, J_mk hC1 hX1 hf2⟩, fun h => ⟨v2 h, J_mk hC1 hX1 hf2⟩⟩
    have no3 : (∀ w, w < m → z ≠ nI w) → w_Model_found a1 (nI k) (nI l) z (fun r' a2 => (-1 : Int32) = r' ∧ J (i + 1) N a2) := fun h => mm _ (fun w hw e => absurd e (h w hw)) (fun _ => rfl)
    refine ar_ge (by omega) no3 no3 (fun w hw e => ?_)
    subst e
    unfold w_Words_sort
    refine ub_atn (by omega) (by omega) ?_
    rw [(hW.2.2 w hw).1]
    exact mm _ (fun w' hw' e => by rw [(nI_eq (by omega) (by omega)).mp e]) (fun h => absurd rfl (h w hw))
  · have hC1 := JC_sc hC (hf.mono pe_sc)
    have hX1 := JX_sc hX (Nat.le_refl i) (hf.mono pe_sc)
    have mm : w_Model_found a1 (nI k) (nI l) z (fun r' a2 => (-1 : Int32) = r' ∧ J (i + 1) N a2) := by
      refine mm_found hC1 (fun k' l' q1 q2 q3 q4 => ?_) (fun h => absurd ⟨k, l, hk, hl, rfl, rfl⟩ h)
      rw [← (nI_eq (by omega) (by omega)).mp q3, ← (nI_eq (by omega) (by omega)).mp q4]
      exact ⟨fun m' r' hm' hfn' => absurd hfn'.2.1 (hno m' r' hm' hfn'.1), fun _ a2 hf2 => ⟨rfl, J_mk hC1 hX1 hf2⟩⟩
    refine ⟨fun _ => mm, fun w => ⟨fun _ => mm, fun w2 => ?_⟩⟩
    exfalso
    apply w2
    obtain ⟨j, hj, rfl⟩ := nI_of w
    rw [Int32.le_iff_toInt_le, nI_toInt hj]
    have : (-1 : Int32).toInt = -1 := by decide
    omega
