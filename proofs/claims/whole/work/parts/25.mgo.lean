/-! the model's go, and the NEXT of all numbers -/
def enc (s k : Nat) : Int32 := if s < 12 then -1 else nI k
def wok (b s k : Nat) : Prop := s ≤ 14 ∧ (s < 12 → k = 0) ∧ (s < 14 → k ≤ 99) ∧ (s = 14 → k < b)
theorem gw_lt {b n x : Nat} {ws wn : Nat → Nat} (hb : 2 ≤ b) (hn : 1 ≤ n) (hx : x < b ^ n) : ∀ i, (gw b n ws wn x i).1 < b ^ n ∧ (gw b n ws wn x i).2 < b ^ n
  | 0 => ⟨hx, hx⟩
  | i + 1 => by
    have h := gw_lt (ws := ws) (wn := wn) hb hn hx i
    have h2 := wdo_lt (k := wn i) hb hn h.1 h.2 (ws i)
    refine ⟨h2, ?_⟩
    show (if ws i = 3 then _ else _) < _
    split
    · exact h2
    · exact h.2
/-- the words of the table in use, as the model has them -/
def mW (a : ud_St) (b nw : Nat) (ws wn : Nat → Nat) : Prop := nw ≤ 12 ∧ ∀ i, i < nw → a.1 79 (2 * i) = nI (ws i) ∧ a.1 79 (2 * i + 1) = enc (ws i) (wn i) ∧ wok b (ws i) (wn i)
theorem mW.fr {a a' : ud_St} {b nw : Nat} {ws wn : Nat → Nat} (h : mW a b nw ws wn) (hf : ∀ j, a'.1 79 j = a.1 79 j) : mW a' b nw ws wn := ⟨h.1, fun i hi => ⟨(hf _).trans (h.2 i hi).1, (hf _).trans (h.2 i hi).2.1, (h.2 i hi).2.2⟩⟩
theorem wok_99 {b s k : Nat} (hb : b ≤ 16) (h : wok b s k) : k ≤ 99 := by
  by_cases h1 : s < 14
  · exact h.2.2.1 h1
  · have := h.2.2.2 (by have := h.1; omega); omega
theorem m_through0 {a : ud_St} {b n nw i x : Nat} {ws wn : Nat → Nat} {Q : Int32 → ud_St → Prop} (h : mF a b n) (hw : mW a b nw ws wn) (hx : x < b ^ n) (hi : i ≤ nw) (hQ : ∀ a', fr Pg a a' → Q (nI (gw b n ws wn x i).1) a') : w_Model_through0 a (nI x) (nI i) Q := by
  unfold w_Model_through0
  obtain ⟨h1, h2, hS3, hb, hb2, hn, hn2, hS⟩ := id h
  have hnw := hw.1
  refine LW3.up i (fun t v k a' => v = nI (gw b n ws wn x t).1 ∧ k = nI t ∧ a'.1 71 25 = nI (gw b n ws wn x t).2 ∧ fr Pg a a') ⟨rfl, rfl, by rw [us_1, if_pos ⟨rfl, rfl⟩]; rfl, fr.rf.sv (Or.inr (Or.inr ⟨rfl, rfl⟩))⟩ ?_ ?_
  · rintro t v k a' ht ⟨rfl, rfl, hk, hf⟩ K hK
    have e2 : (2 : Int32) * nI t = nI (2 * t) := ui_mul 2 t
    have e3 : (2 : Int32) * nI t + 1 = nI (2 * t + 1) := by rw [e2]; exact nI_1 _
    have hwt := (hw.fr (a' := a') (fun j => hf.1 79 j (by unfold Pg; omega))).2 t (by omega)
    have hl := gw_lt (ws := ws) (wn := wn) hb hn hx t
    refine ⟨fun q => absurd q (nI_ge ht (by omega)), fun _ => ?_⟩
    rw [e3, e2, nI_clamp (by omega), nI_clamp (by omega), hwt.1, hwt.2.1]
    refine ⟨vp_in_nI (by omega) (by omega), vp_in_nI (by omega) (by omega), ?_⟩
    refine m_does (k := wn t) (h.fr hf) hl.1 hl.2 hk hwt.2.2.1 (fun q => by unfold enc; rw [if_neg (by omega)]) (wok_99 hb2 hwt.2.2) (fun a2 hf2 hk2 => ?_)
    exact hK _ _ _ ⟨rfl, nI_1 t, hk2, hf.tr hf2⟩
  · rintro v k a' ⟨rfl, rfl, hk, hf⟩ K
    exact ⟨fun _ => hQ a' hf, fun q => absurd (nI_le (Nat.le_refl i) (by omega)) q⟩
/-- the NEXT -/
def gx (b n nw : Nat) (ws wn : Nat → Nat) (x : Nat) : Nat := (gw b n ws wn x nw).1
theorem gx_lt {b n nw x : Nat} {ws wn : Nat → Nat} (hb : 2 ≤ b) (hn : 1 ≤ n) (hx : x < b ^ n) : gx b n nw ws wn x < b ^ n := (gw_lt hb hn hx nw).1
def Pl (k j : Nat) : Prop := Pg k j ∨ k = 85
theorem m_lays {a : ud_St} {b n nw : Nat} {ws wn : Nat → Nat} {Q : ud_St → Prop} (h : mF a b n) (hw : mW a b nw ws wn) (h3 : a.1 78 3 = nI nw) (hQ : ∀ a', fr Pl a a' → (∀ x, x < b ^ n → a'.1 85 x = nI (gx b n nw ws wn x)) → Q a') : w_Model_lays a Q := by
  unfold w_Model_lays
  obtain ⟨h1, h2, hS3, hb, hb2, hn, hn2, hS⟩ := id h
  refine LW2.up (b ^ n) (fun t k a' => k = nI t ∧ fr Pl a a' ∧ ∀ x, x < t → a'.1 85 x = nI (gx b n nw ws wn x)) ⟨rfl, fr.rf, fun x q => by omega⟩ ?_ ?_
  · rintro t k a' ht ⟨rfl, hf, hd⟩ K hK
    have q79 : ∀ j, a'.1 79 j = a.1 79 j := fun j => hf.1 79 j (by unfold Pl Pg; omega)
    have q78 : ∀ j, a'.1 78 j = a.1 78 j := fun j => hf.1 78 j (by unfold Pl Pg; omega)
    have hF : mF a' b n := ⟨(q78 0).trans h1, (q78 1).trans h2, (q78 2).trans hS3, hb, hb2, hn, hn2, hS⟩
    simp only [tN_2, tN_3, q78, hS3, h3]
    refine ⟨vi_2 (by omega), fun q => absurd q (nI_ge ht (by omega)), fun _ => ⟨vi_3 (by omega), ?_⟩⟩
    refine m_through0 hF (hw.fr q79) ht (Nat.le_refl nw) (fun a2 hf2 => ⟨vp_in_nI (by omega) (by omega), ?_⟩)
    rw [nI_clamp (by omega)]
    refine hK _ _ ⟨nI_1 t, (hf.tr (hf2.mono (fun k j q => Or.inl q))).sv (Or.inr rfl), fun x hx => ?_⟩
    rw [us_1]
    by_cases hxt : x = t
    · rw [if_pos ⟨rfl, hxt⟩, hxt]; rfl
    · rw [if_neg (fun q => hxt q.2), hf2.1 85 x (by unfold Pg; omega)]
      exact hd x (by omega)
  · rintro k a' ⟨rfl, hf, hd⟩ K
    have q78 : ∀ j, a'.1 78 j = a.1 78 j := fun j => hf.1 78 j (by unfold Pl Pg; omega)
    simp only [tN_2, tN_3, q78, hS3, h3]
    exact ⟨vi_2 (by omega), fun _ => hQ a' hf hd, fun q => absurd (nI_le (Nat.le_refl _) (by omega)) q⟩
