/-! numbers made of figures: bounds, and the model's words -/
theorem pow_split {b n : Nat} (hn : 1 ≤ n) : b ^ n = b ^ (n - 1) * b := by
  obtain ⟨m, rfl⟩ : ∃ m, n = m + 1 := ⟨n - 1, by omega⟩
  rw [Nat.add_sub_cancel, Nat.pow_succ]
theorem fUp_lt {b n x : Nat} (hb : 0 < b) : fUp b n x < b ^ n := by
  have h := tn_lt hb (isr (dl b n x)) (fun d hd => dl_lt hb d (isr_mem.mp hd))
  rw [isr_len, dl_len] at h
  exact h
theorem fDown_lt {b n x : Nat} (hb : 0 < b) : fDown b n x < b ^ n := by
  have h := tn_lt hb (isr (dl b n x)).reverse (fun d hd => dl_lt hb d (isr_mem.mp (List.mem_reverse.mp hd)))
  rw [List.length_reverse, isr_len, dl_len] at h
  exact h
theorem fTurn_lt {b n x : Nat} (hb : 0 < b) : fTurn b n x < b ^ n := by
  have h := tn_lt hb (dl b n x).reverse (fun d hd => dl_lt hb d (List.mem_reverse.mp hd))
  rw [List.length_reverse, dl_len] at h
  exact h
theorem fOut_lt {b n x c : Nat} (hb : 0 < b) : fOut b n x c < b ^ n := by
  have h := tn_lt hb ((dl b n x).filter (fun d => d != c)) (fun d hd => dl_lt hb d (List.mem_filter.mp hd).1)
  refine Nat.lt_of_lt_of_le h (Nat.pow_le_pow_right hb ?_)
  have := List.length_filter_le (fun d => d != c) (dl b n x)
  rw [dl_len] at this
  exact this
theorem fFirst_lt {b n x : Nat} (hb : 0 < b) (hn : 1 ≤ n) (hx : x < b ^ n) : fFirst b n x < b ^ n := by
  unfold fFirst
  have h1 : x % b ^ (n - 1) < b ^ (n - 1) := Nat.mod_lt _ (Nat.pow_pos hb)
  have h2 : x / b ^ (n - 1) < b := by
    rw [Nat.div_lt_iff_lt_mul (Nat.pow_pos hb), Nat.mul_comm, ← pow_split hn]
    exact hx
  rw [pow_split hn]
  calc x % b ^ (n - 1) * b + x / b ^ (n - 1) < x % b ^ (n - 1) * b + b := by omega
    _ = (x % b ^ (n - 1) + 1) * b := by rw [Nat.add_mul, Nat.one_mul]
    _ ≤ b ^ (n - 1) * b := Nat.mul_le_mul_right b h1
theorem sum_le {l : List Nat} {m : Nat} (h : ∀ d ∈ l, d ≤ m) : l.sum ≤ l.length * m := by
  induction l with
  | nil => simp
  | cons a l ih =>
    rw [List.sum_cons, List.length_cons, Nat.add_mul, Nat.one_mul]
    have h1 := ih (fun d hd => h d (List.mem_cons_of_mem _ hd))
    have h2 := h a List.mem_cons_self
    omega
theorem fPow_lt {p b n x : Nat} (hb : 0 < b) (hb2 : b ≤ 16) (hn : n ≤ 8) (hp : p ≤ 3) : fPow p b n x < 2 ^ 31 := by
  unfold fPow
  have h := sum_le (l := (dl b n x).map (fun d => d ^ p)) (m := 4096) (fun e he => by
    obtain ⟨d, hd, rfl⟩ := List.mem_map.mp he
    have h1 := dl_lt hb d hd
    have h3 : d ^ p ≤ 16 ^ p := Nat.pow_le_pow_left (by omega) p
    have h4 : 16 ^ p ≤ 16 ^ 3 := Nat.pow_le_pow_right (by omega) hp
    omega)
  rw [List.length_map, dl_len] at h
  have : n * 4096 ≤ 8 * 4096 := Nat.mul_le_mul_right _ hn
  omega
theorem tn_rot {b n x : Nat} (hb : 0 < b) (hn : 1 ≤ n) (hx : x < b ^ n) : tn b ((dl b n x).drop 1 ++ [dg b n x 0]) = fFirst b n x := by
  obtain ⟨m, rfl⟩ : ∃ m, n = m + 1 := ⟨n - 1, by omega⟩
  have e : dl b (m + 1) x = dg b (m + 1) x 0 :: (dl b (m + 1) x).drop 1 := by
    unfold dl
    rw [List.range_succ_eq_map]
    rfl
  have h := tn_dl hb hx
  rw [e, tn_cons, List.length_drop, dl_len, Nat.add_sub_cancel] at h
  have h0 : dg b (m + 1) x 0 = x / b ^ m := by
    unfold dg
    rw [Nat.add_sub_cancel, Nat.sub_zero]
    exact Nat.mod_eq_of_lt (by rw [Nat.div_lt_iff_lt_mul (Nat.pow_pos hb), Nat.mul_comm, ← Nat.pow_succ]; exact hx)
  rw [tn_snoc, h0]
  rw [h0] at h
  unfold fFirst
  rw [Nat.add_sub_cancel]
  have h2 := Nat.div_add_mod x (b ^ m)
  rw [Nat.mul_comm] at h2
  congr 2
  omega
theorem rev_getD {l : List Nat} {n t : Nat} (hl : l.length = n) (ht : t < n) : l.reverse.getD t 0 = l.getD (n - t - 1) 0 := by
  rw [List.getD_eq_getElem?_getD, List.getD_eq_getElem?_getD, List.getElem?_reverse (by omega), hl]
  congr 2
  omega
theorem take_all {l : List Nat} {n : Nat} (hl : l.length = n) : l.take n = l := List.take_of_length_le (by omega)
theorem m_up {a : ud_St} {b n x : Nat} {Q : Int32 → ud_St → Prop} (h : mF a b n) (hx : x < 2 ^ 31) (hQ : ∀ a', fr Ps a a' → Q (nI (fUp b n x)) a') : w_Model_up a (nI x) Q := by
  unfold w_Model_up
  refine m_sorts h hx (fun a1 hf _ hs => ?_)
  obtain ⟨h1, h2, h3, hb, hb2, hn, hn2, hS⟩ := h.fr (hf.mono ps_g)
  simp only [tN_0, tN_1, h1, h2]
  have hl : (isr (dl b n x)).length = n := by rw [isr_len, dl_len]
  refine LW2.up n (fun t v k => v = nI (tn b ((isr (dl b n x)).take t)) ∧ k = nI t) ⟨rfl, rfl⟩ ?_ ?_
  · rintro t v k ht ⟨rfl, rfl⟩ K hK
    refine ⟨vi_1 (by omega), fun q => absurd q (nI_ge ht (by omega)), fun _ => ⟨vi_0 (by omega), vp_in_nI (by omega) (by omega), ?_⟩⟩
    rw [nI_clamp (by omega), hs t ht, ui_mul, nI_add]
    exact hK _ _ ⟨by rw [tn_take (by omega)], nI_1 t⟩
  · rintro v k ⟨rfl, rfl⟩ K
    rw [take_all hl]
    exact ⟨vi_1 (by omega), fun _ => hQ a1 hf, fun q => absurd (nI_le (Nat.le_refl n) (by omega)) q⟩
theorem m_down {a : ud_St} {b n x : Nat} {Q : Int32 → ud_St → Prop} (h : mF a b n) (hx : x < 2 ^ 31) (hQ : ∀ a', fr Ps a a' → Q (nI (fDown b n x)) a') : w_Model_down a (nI x) Q := by
  unfold w_Model_down
  refine m_sorts h hx (fun a1 hf _ hs => ?_)
  obtain ⟨h1, h2, h3, hb, hb2, hn, hn2, hS⟩ := h.fr (hf.mono ps_g)
  simp only [tN_0, tN_1, h1, h2]
  have hl : (isr (dl b n x)).length = n := by rw [isr_len, dl_len]
  refine ⟨vi_1 (by omega), ?_⟩
  refine LW2.up n (fun t v k => v = nI (tn b ((isr (dl b n x)).reverse.take t)) ∧ k = nI (n - t) - 1) ⟨rfl, rfl⟩ ?_ ?_
  · rintro t v k ht ⟨rfl, rfl⟩ K hK
    rw [ui_pred (by omega : 0 < n - t)]
    refine ⟨fun q => absurd q (nI_pos (by omega)), fun _ => ⟨vi_0 (by omega), vp_in_nI (by omega) (by omega), ?_⟩⟩
    rw [nI_clamp (by omega), hs _ (by omega), ui_mul, nI_add, ui_m1]
    exact hK _ _ ⟨by rw [tn_take (by rw [List.length_reverse]; omega), rev_getD hl ht], by rw [Nat.sub_sub]⟩
  · rintro v k ⟨rfl, rfl⟩ K
    rw [take_all (by rw [List.length_reverse, hl]), Nat.sub_self]
    exact ⟨fun _ => hQ a1 hf, fun q => absurd ui_end q⟩
theorem m_turned {a : ud_St} {b n x : Nat} {Q : Int32 → ud_St → Prop} (h : mF a b n) (hx : x < 2 ^ 31) (hQ : ∀ a', fr Ps a a' → Q (nI (fTurn b n x)) a') : w_Model_turned a (nI x) Q := by
  unfold w_Model_turned
  refine m_figures h hx (fun a1 hf0 hs => ?_)
  have hf := hf0.mono (R := Ps) (fun k j q => Or.inl q)
  obtain ⟨h1, h2, h3, hb, hb2, hn, hn2, hS⟩ := h.fr (hf.mono ps_g)
  simp only [tN_0, tN_1, h1, h2]
  have hl : (dl b n x).length = n := dl_len b n x
  refine ⟨vi_1 (by omega), ?_⟩
  refine LW2.up n (fun t v k => v = nI (tn b ((dl b n x).reverse.take t)) ∧ k = nI (n - t) - 1) ⟨rfl, rfl⟩ ?_ ?_
  · rintro t v k ht ⟨rfl, rfl⟩ K hK
    rw [ui_pred (by omega : 0 < n - t)]
    refine ⟨fun q => absurd q (nI_pos (by omega)), fun _ => ⟨vi_0 (by omega), vp_in_nI (by omega) (by omega), ?_⟩⟩
    rw [nI_clamp (by omega), hs _ (by omega), ui_mul, nI_add, ui_m1]
    exact hK _ _ ⟨by rw [tn_take (by rw [List.length_reverse]; omega), rev_getD hl ht, dl_getD (by omega)], by rw [Nat.sub_sub]⟩
  · rintro v k ⟨rfl, rfl⟩ K
    rw [take_all (by rw [List.length_reverse, hl]), Nat.sub_self]
    exact ⟨fun _ => hQ a1 hf, fun q => absurd ui_end q⟩
theorem m_moved {a : ud_St} {b n x : Nat} {Q : Int32 → ud_St → Prop} (h : mF a b n) (hx : x < b ^ n) (hQ : ∀ a', fr Ps a a' → Q (nI (fFirst b n x)) a') : w_Model_moved a (nI x) Q := by
  unfold w_Model_moved
  have hS0 := h.2.2.2.2.2.2.2
  refine m_figures h (by omega) (fun a1 hf0 hs => ?_)
  have hf := hf0.mono (R := Ps) (fun k j q => Or.inl q)
  obtain ⟨h1, h2, h3, hb, hb2, hn, hn2, hS⟩ := h.fr (hf.mono ps_g)
  simp only [tN_0, tN_1, h1, h2]
  have hl : ((dl b n x).drop 1 ++ [dg b n x 0]).length = n := by simp [dl_len]; omega
  refine LW2.up n (fun t v k => v = nI (tn b (((dl b n x).drop 1 ++ [dg b n x 0]).take t)) ∧ k = nI (t + 1)) ⟨rfl, rfl⟩ ?_ ?_
  · rintro t v k ht ⟨rfl, rfl⟩ K hK
    have hg : ((dl b n x).drop 1 ++ [dg b n x 0]).getD t 0 = dg b n x ((t + 1) % n) := by
      rw [List.getD_eq_getElem?_getD]
      by_cases h5 : t + 1 < n
      · rw [List.getElem?_append_left (by rw [List.length_drop, dl_len]; omega), List.getElem?_drop, ← List.getD_eq_getElem?_getD, Nat.add_comm 1 t, dl_getD h5, Nat.mod_eq_of_lt h5]
      · have e5 : t + 1 = n := by omega
        rw [List.getElem?_append_right (by rw [List.length_drop, dl_len]; omega), List.length_drop, dl_len, show t - (n - 1) = 0 by omega, e5, Nat.mod_self]
        rfl
    have hm : (t + 1) % n < n := Nat.mod_lt _ (by omega)
    rw [ui_mod (by omega) (by omega)]
    refine ⟨vi_1 (by omega), fun q => absurd ((nI_ltI (by omega) (by omega)).mp q) (by omega), fun _ => ⟨vi_0 (by omega), vi_1 (by omega), nI_ne0 (by omega) (by omega), vp_in_nI (by omega) (by omega), ?_⟩⟩
    rw [nI_clamp (by omega), hs _ hm, ui_mul, nI_add]
    exact hK _ _ ⟨by rw [tn_take (by omega), hg], nI_1 (t + 1)⟩
  · rintro v k ⟨rfl, rfl⟩ K
    rw [take_all hl, tn_rot (by omega) hn hx]
    exact ⟨vi_1 (by omega), fun _ => hQ a1 hf, fun q => absurd (nI_lt (Nat.lt_succ_self n) (by omega)) q⟩
theorem sum_snoc (l : List Nat) (d : Nat) : (l ++ [d]).sum = l.sum + d := by simp
theorem m_powers {a : ud_St} {p b n x : Nat} {Q : Int32 → ud_St → Prop} (h : mF a b n) (hx : x < 2 ^ 31) (hp : p = 1 ∨ p = 2 ∨ p = 3) (hQ : ∀ a', fr Ps a a' → Q (nI (fPow p b n x)) a') : w_Model_powers a (nI x) (nI p) Q := by
  unfold w_Model_powers
  refine m_figures h hx (fun a1 hf0 hs => ?_)
  have hf := hf0.mono (R := Ps) (fun k j q => Or.inl q)
  obtain ⟨h1, h2, h3, hb, hb2, hn, hn2, hS⟩ := h.fr (hf.mono ps_g)
  simp only [tN_0, tN_1, h1, h2]
  refine LW2.up n (fun t v k => v = nI (((dl b n x).take t).map (fun d => d ^ p)).sum ∧ k = nI t) ⟨rfl, rfl⟩ ?_ ?_
  · rintro t v k ht ⟨rfl, rfl⟩ K hK
    have hv := vp_in_nI (n := t) (N := 8) (by omega) (by omega)
    have e : nI (((dl b n x).take t).map (fun d => d ^ p)).sum + nI (dg b n x t ^ p) = nI (((dl b n x).take (t + 1)).map (fun d => d ^ p)).sum := by
      rw [dl_take b n x t ht, List.map_append, List.map_singleton, sum_snoc, nI_add]
    rw [nI_clamp (by omega), hs t ht]
    refine ⟨vi_1 (by omega), fun q => absurd q (nI_ge ht (by omega)), fun _ => ?_⟩
    rcases hp with rfl | rfl | rfl
    · rw [Nat.pow_one] at e
      exact ⟨fun _ => ⟨hv, hK _ _ ⟨e, nI_1 t⟩⟩, fun q => absurd rfl q⟩
    · rw [Nat.pow_two, ← ui_mul] at e
      exact ⟨fun q => absurd q (by decide), fun _ => ⟨fun _ => ⟨hv, hv, hK _ _ ⟨e, nI_1 t⟩⟩, fun q => absurd rfl q⟩⟩
    · rw [Nat.pow_succ, Nat.pow_two, ← ui_mul, ← ui_mul] at e
      exact ⟨fun q => absurd q (by decide), fun _ => ⟨fun q => absurd q (by decide), fun _ => ⟨hv, hv, hv, hK _ _ ⟨e, nI_1 t⟩⟩⟩⟩
  · rintro v k ⟨rfl, rfl⟩ K
    rw [take_all (dl_len b n x)]
    exact ⟨vi_1 (by omega), fun _ => hQ a1 hf, fun q => absurd (nI_le (Nat.le_refl n) (by omega)) q⟩
theorem m_leftOut {a : ud_St} {b n x c : Nat} {Q : Int32 → ud_St → Prop} (h : mF a b n) (hx : x < 2 ^ 31) (hc : c < 2 ^ 31) (hQ : ∀ a', fr Ps a a' → Q (nI (fOut b n x c)) a') : w_Model_leftOut a (nI x) (nI c) Q := by
  unfold w_Model_leftOut
  refine m_figures h hx (fun a1 hf0 hs => ?_)
  have hf := hf0.mono (R := Ps) (fun k j q => Or.inl q)
  obtain ⟨h1, h2, h3, hb, hb2, hn, hn2, hS⟩ := h.fr (hf.mono ps_g)
  simp only [tN_0, tN_1, h1, h2]
  refine LW2.up n (fun t v k => v = nI (tn b (((dl b n x).take t).filter (fun d => d != c))) ∧ k = nI t) ⟨rfl, rfl⟩ ?_ ?_
  · rintro t v k ht ⟨rfl, rfl⟩ K hK
    have hv := vp_in_nI (n := t) (N := 8) (by omega) (by omega)
    have hdl : dg b n x t < b := dg_lt (by omega)
    rw [dl_take b n x t ht, List.filter_append] at hK
    rw [nI_clamp (by omega), hs t ht]
    refine ⟨vi_1 (by omega), fun q => absurd q (nI_ge ht (by omega)), fun _ => ⟨hv, fun q => ?_, fun q => ⟨vi_0 (by omega), hv, ?_⟩⟩⟩
    · have q' := (nI_eq (by omega) hc).mp q
      rw [show List.filter (fun d => d != c) [dg b n x t] = [] by simp [q'], List.append_nil] at hK
      exact hK _ _ ⟨rfl, nI_1 t⟩
    · have q' : dg b n x t ≠ c := fun z => q (by rw [z])
      rw [show List.filter (fun d => d != c) [dg b n x t] = [dg b n x t] by simp [q']] at hK
      rw [ui_mul, nI_add]
      exact hK _ _ ⟨by rw [tn_snoc], nI_1 t⟩
  · rintro v k ⟨rfl, rfl⟩ K
    rw [take_all (dl_len b n x)]
    exact ⟨vi_1 (by omega), fun _ => hQ a1 hf, fun q => absurd (nI_le (Nat.le_refl n) (by omega)) q⟩
theorem wdo_lt {b n k now kept : Nat} (hb : 2 ≤ b) (hn : 1 ≤ n) (hx : now < b ^ n) (hk : kept < b ^ n) : ∀ s, wdo b n s k now kept < b ^ n := by
  have hp : 0 < b ^ n := Nat.pow_pos (by omega)
  intro s
  match s with
  | 0 => exact fDown_lt (by omega)
  | 1 => exact fUp_lt (by omega)
  | 2 => exact fTurn_lt (by omega)
  | 3 => exact hx
  | 4 => exact hk
  | 5 => show (now - kept) + (kept - now) < _; omega
  | 6 => exact Nat.mod_lt _ hp
  | 7 => exact Nat.mod_lt _ hp
  | 8 => exact Nat.mod_lt _ hp
  | 9 => exact Nat.mod_lt _ hp
  | 10 =>
    show (if now % 2 = 0 then now / 2 else now) < _
    split <;> omega
  | 11 => exact fFirst_lt (by omega) hn hx
  | 12 => exact Nat.mod_lt _ hp
  | 13 => exact Nat.mod_lt _ hp
  | q + 14 => exact fOut_lt (by omega)
def wkept (s w kept : Nat) : Nat := if s = 3 then w else kept
theorem m_does {a : ud_St} {b n s k now kept : Nat} {x3 : Int32} {Q : Int32 → ud_St → Prop} (h : mF a b n) (hx : now < b ^ n) (hk : kept < b ^ n) (hkept : a.1 71 25 = nI kept) (hs : s ≤ 14) (h3 : 12 ≤ s → x3 = nI k) (hk2 : k ≤ 99) (hQ : ∀ a', fr Pg a a' → a'.1 71 25 = nI (wkept s (wdo b n s k now kept) kept) → Q (nI (wdo b n s k now kept)) a') : w_Model_does a (nI now) (nI s) x3 Q := by
  obtain ⟨h1, h2, hS3, hb, hb2, hn, hn2, hS⟩ := id h
  have hp : 0 < b ^ n := Nat.pow_pos (by omega)
  have hmul : now * k < 2 ^ 31 := by
    have : now * k ≤ 10000 * 99 := Nat.mul_le_mul (by omega) hk2
    omega
  have lt : ∀ {r : Nat}, r < b ^ n → r < 2 ^ 31 := fun h => by omega
  have md0 : ∀ a' : ud_St, fr Pg a a' → ∀ r : Nat, r < 2 ^ 31 → r % b ^ n = wdo b n s k now kept → a'.1 71 25 = nI (wkept s (wdo b n s k now kept) kept) → vp_in 2 30 ∧ ¬ a'.1 78 (Int32.toNatClampNeg 2) = 0 ∧ Q (nI r % a'.1 78 (Int32.toNatClampNeg 2)) a' := by
    intro a' hf r hr he hq
    have e : a'.1 78 (Int32.toNatClampNeg 2) = nI (b ^ n) := by rw [tN_2]; exact (h.fr hf).2.2.1
    rw [e]
    refine ⟨vi_2 (by omega), nI_ne0 hp (by omega), ?_⟩
    rw [ui_mod hr (by omega), he]
    exact hQ a' hf hq
  have md : ∀ a' : ud_St, fr Ps a a' → ∀ r : Nat, r < 2 ^ 31 → r % b ^ n = wdo b n s k now kept → a'.1 71 25 = nI (wkept s (wdo b n s k now kept) kept) → vp_in 2 30 ∧ ¬ a'.1 78 (Int32.toNatClampNeg 2) = 0 ∧ Q (nI r % a'.1 78 (Int32.toNatClampNeg 2)) a' := fun a' hf => md0 a' (hf.mono ps_g)
  have nk0 : s ≠ 3 → ∀ a' : ud_St, fr Ps a a' → a'.1 71 25 = nI (wkept s (wdo b n s k now kept) kept) := by
    intro h3 a' hf
    unfold wkept
    rw [if_neg h3]
    exact (hf.1 71 25 (by unfold Ps; omega)).trans hkept
  unfold w_Model_does
  match s, hs with
  | 0, _ =>
    have nk := nk0 (by decide)
    exact ⟨fun _ => m_down h (lt hx) (fun a' hf => md a' hf _ (lt (fDown_lt (by omega))) (Nat.mod_eq_of_lt (fDown_lt (by omega))) (nk a' hf)), fun q => absurd rfl q⟩
  | 1, _ =>
    have nk := nk0 (by decide)
    exact ⟨fun q => absurd q (by decide), fun _ => ⟨fun _ => m_up h (lt hx) (fun a' hf => md a' hf _ (lt (fUp_lt (by omega))) (Nat.mod_eq_of_lt (fUp_lt (by omega))) (nk a' hf)), fun q => absurd rfl q⟩⟩
  | 2, _ =>
    have nk := nk0 (by decide)
    exact ⟨fun q => absurd q (by decide), fun _ => ⟨fun q => absurd q (by decide), fun _ => ⟨fun _ => m_turned h (lt hx) (fun a' hf => md a' hf _ (lt (fTurn_lt (by omega))) (Nat.mod_eq_of_lt (fTurn_lt (by omega))) (nk a' hf)), fun q => absurd rfl q⟩⟩⟩
  | 3, _ =>
    have e3 : (ud_sv a 71 25 (nI now)).1 71 25 = nI (wkept 3 (wdo b n 3 k now kept) kept) := by rw [us_1, if_pos ⟨rfl, rfl⟩]; rfl
    have m3 := md0 (ud_sv a 71 25 (nI now)) (fr.rf.sv (Or.inr (Or.inr ⟨rfl, rfl⟩))) _ (lt hx) (Nat.mod_eq_of_lt hx) e3
    exact ⟨fun q => absurd q (by decide), fun _ => ⟨fun q => absurd q (by decide), fun _ => ⟨fun q => absurd q (by decide), fun _ => ⟨fun _ => m3, fun q => absurd rfl q⟩⟩⟩⟩
  | 4, _ =>
    have nk := nk0 (by decide)
    exact ⟨fun q => absurd q (by decide), fun _ => ⟨fun q => absurd q (by decide), fun _ => ⟨fun q => absurd q (by decide), fun _ => ⟨fun q => absurd q (by decide), fun _ => ⟨fun _ => (by rw [hkept]; exact md a fr.rf _ (lt hk) (Nat.mod_eq_of_lt hk) (nk a fr.rf)), fun q => absurd rfl q⟩⟩⟩⟩⟩
  | 5, _ =>
    have nk := nk0 (by decide)
    have m5a := md a fr.rf (kept - now) (by omega)
    have m5b := md a fr.rf (now - kept) (by omega)
    refine ⟨fun q => absurd q (by decide), fun _ => ⟨fun q => absurd q (by decide), fun _ => ⟨fun q => absurd q (by decide), fun _ => ⟨fun q => absurd q (by decide), fun _ => ⟨fun q => absurd q (by decide), fun _ => ⟨fun _ => ⟨fun q => ?_, fun q => ?_⟩, fun q => absurd rfl q⟩⟩⟩⟩⟩⟩
    · rw [hkept] at q ⊢
      have q' := (nI_leI (by omega) (by omega)).mp q
      rw [ui_sub q']
      exact m5a (by show (kept - now) % b ^ n = (now - kept) + (kept - now); rw [Nat.mod_eq_of_lt (by omega)]; omega) (nk a fr.rf)
    · rw [hkept] at q ⊢
      have q' : kept < now := (ui_ltn (by omega) (by omega)).mp q
      rw [ui_sub (by omega)]
      exact m5b (by show (now - kept) % b ^ n = (now - kept) + (kept - now); rw [Nat.mod_eq_of_lt (by omega)]; omega) (nk a fr.rf)
  | 6, _ =>
    have nk := nk0 (by decide)
    exact ⟨fun q => absurd q (by decide), fun _ => ⟨fun q => absurd q (by decide), fun _ => ⟨fun q => absurd q (by decide), fun _ => ⟨fun q => absurd q (by decide), fun _ => ⟨fun q => absurd q (by decide), fun _ => ⟨fun q => absurd q (by decide), fun _ => ⟨fun _ => (by rw [hkept, nI_add]; exact md a fr.rf _ (by omega) rfl (nk a fr.rf)), fun q => absurd rfl q⟩⟩⟩⟩⟩⟩⟩
  | 7, _ =>
    have nk := nk0 (by decide)
    exact ⟨fun q => absurd q (by decide), fun _ => ⟨fun q => absurd q (by decide), fun _ => ⟨fun q => absurd q (by decide), fun _ => ⟨fun q => absurd q (by decide), fun _ => ⟨fun q => absurd q (by decide), fun _ => ⟨fun q => absurd q (by decide), fun _ => ⟨fun q => absurd q (by decide), fun _ => ⟨fun _ => m_powers (p := 2) h (lt hx) (Or.inr (Or.inl rfl)) (fun a' hf => md a' hf _ (fPow_lt (by omega) hb2 hn2 (by omega)) rfl (nk a' hf)), fun q => absurd rfl q⟩⟩⟩⟩⟩⟩⟩⟩
  | 8, _ =>
    have nk := nk0 (by decide)
    exact ⟨fun q => absurd q (by decide), fun _ => ⟨fun q => absurd q (by decide), fun _ => ⟨fun q => absurd q (by decide), fun _ => ⟨fun q => absurd q (by decide), fun _ => ⟨fun q => absurd q (by decide), fun _ => ⟨fun q => absurd q (by decide), fun _ => ⟨fun q => absurd q (by decide), fun _ => ⟨fun q => absurd q (by decide), fun _ => ⟨fun _ => m_powers (p := 3) h (lt hx) (Or.inr (Or.inr rfl)) (fun a' hf => md a' hf _ (fPow_lt (by omega) hb2 hn2 (by omega)) rfl (nk a' hf)), fun q => absurd rfl q⟩⟩⟩⟩⟩⟩⟩⟩⟩
  | 9, _ =>
    have nk := nk0 (by decide)
    exact ⟨fun q => absurd q (by decide), fun _ => ⟨fun q => absurd q (by decide), fun _ => ⟨fun q => absurd q (by decide), fun _ => ⟨fun q => absurd q (by decide), fun _ => ⟨fun q => absurd q (by decide), fun _ => ⟨fun q => absurd q (by decide), fun _ => ⟨fun q => absurd q (by decide), fun _ => ⟨fun q => absurd q (by decide), fun _ => ⟨fun q => absurd q (by decide), fun _ => ⟨fun _ => m_powers (p := 1) h (lt hx) (Or.inl rfl) (fun a' hf => md a' hf _ (fPow_lt (by omega) hb2 hn2 (by omega)) rfl (nk a' hf)), fun q => absurd rfl q⟩⟩⟩⟩⟩⟩⟩⟩⟩⟩
  | 10, _ =>
    have nk := nk0 (by decide)
    refine ⟨fun q => absurd q (by decide), fun _ => ⟨fun q => absurd q (by decide), fun _ => ⟨fun q => absurd q (by decide), fun _ => ⟨fun q => absurd q (by decide), fun _ => ⟨fun q => absurd q (by decide), fun _ => ⟨fun q => absurd q (by decide), fun _ => ⟨fun q => absurd q (by decide), fun _ => ⟨fun q => absurd q (by decide), fun _ => ⟨fun q => absurd q (by decide), fun _ => ⟨fun q => absurd q (by decide), fun _ => ⟨fun _ => ⟨fun q => ?_, fun q => ?_⟩, fun q => absurd rfl q⟩⟩⟩⟩⟩⟩⟩⟩⟩⟩⟩
    · have q' : nI (now % 2) = nI 0 := by rw [← ui_mod (by omega) (by omega)]; exact q
      have q2 := (nI_eq (by omega) (by omega)).mp q'
      have e2 : nI now / 2 = nI (now / 2) := ui_div (b := 2) (by omega) (by omega)
      rw [e2]
      exact md a fr.rf _ (by omega) (by show now / 2 % b ^ n = if now % 2 = 0 then now / 2 else now; rw [if_pos q2, Nat.mod_eq_of_lt (by omega)]) (nk a fr.rf)
    · have q2 : ¬ now % 2 = 0 := fun z => q (by rw [show (2 : Int32) = nI 2 from rfl, ui_mod (by omega) (by omega), z]; rfl)
      exact md a fr.rf _ (by omega) (by show now % b ^ n = if now % 2 = 0 then now / 2 else now; rw [if_neg q2, Nat.mod_eq_of_lt (by omega)]) (nk a fr.rf)
  | 11, _ =>
    have nk := nk0 (by decide)
    exact ⟨fun q => absurd q (by decide), fun _ => ⟨fun q => absurd q (by decide), fun _ => ⟨fun q => absurd q (by decide), fun _ => ⟨fun q => absurd q (by decide), fun _ => ⟨fun q => absurd q (by decide), fun _ => ⟨fun q => absurd q (by decide), fun _ => ⟨fun q => absurd q (by decide), fun _ => ⟨fun q => absurd q (by decide), fun _ => ⟨fun q => absurd q (by decide), fun _ => ⟨fun q => absurd q (by decide), fun _ => ⟨fun q => absurd q (by decide), fun _ => ⟨fun _ => m_moved h hx (fun a' hf => md a' hf _ (lt (fFirst_lt (by omega) hn hx)) (Nat.mod_eq_of_lt (fFirst_lt (by omega) hn hx)) (nk a' hf)), fun q => absurd rfl q⟩⟩⟩⟩⟩⟩⟩⟩⟩⟩⟩⟩
  | 12, _ =>
    have nk := nk0 (by decide)
    exact ⟨fun q => absurd q (by decide), fun _ => ⟨fun q => absurd q (by decide), fun _ => ⟨fun q => absurd q (by decide), fun _ => ⟨fun q => absurd q (by decide), fun _ => ⟨fun q => absurd q (by decide), fun _ => ⟨fun q => absurd q (by decide), fun _ => ⟨fun q => absurd q (by decide), fun _ => ⟨fun q => absurd q (by decide), fun _ => ⟨fun q => absurd q (by decide), fun _ => ⟨fun q => absurd q (by decide), fun _ => ⟨fun q => absurd q (by decide), fun _ => ⟨fun q => absurd q (by decide), fun _ => ⟨fun _ => (by rw [h3 (by omega), ui_mul]; exact md a fr.rf _ hmul rfl (nk a fr.rf)), fun q => absurd rfl q⟩⟩⟩⟩⟩⟩⟩⟩⟩⟩⟩⟩⟩
  | 13, _ =>
    have nk := nk0 (by decide)
    exact ⟨fun q => absurd q (by decide), fun _ => ⟨fun q => absurd q (by decide), fun _ => ⟨fun q => absurd q (by decide), fun _ => ⟨fun q => absurd q (by decide), fun _ => ⟨fun q => absurd q (by decide), fun _ => ⟨fun q => absurd q (by decide), fun _ => ⟨fun q => absurd q (by decide), fun _ => ⟨fun q => absurd q (by decide), fun _ => ⟨fun q => absurd q (by decide), fun _ => ⟨fun q => absurd q (by decide), fun _ => ⟨fun q => absurd q (by decide), fun _ => ⟨fun q => absurd q (by decide), fun _ => ⟨fun q => absurd q (by decide), fun _ => ⟨fun _ => (by rw [h3 (by omega), nI_add]; exact md a fr.rf _ (by omega) rfl (nk a fr.rf)), fun q => absurd rfl q⟩⟩⟩⟩⟩⟩⟩⟩⟩⟩⟩⟩⟩⟩
  | 14, _ =>
    have nk := nk0 (by decide)
    exact ⟨fun q => absurd q (by decide), fun _ => ⟨fun q => absurd q (by decide), fun _ => ⟨fun q => absurd q (by decide), fun _ => ⟨fun q => absurd q (by decide), fun _ => ⟨fun q => absurd q (by decide), fun _ => ⟨fun q => absurd q (by decide), fun _ => ⟨fun q => absurd q (by decide), fun _ => ⟨fun q => absurd q (by decide), fun _ => ⟨fun q => absurd q (by decide), fun _ => ⟨fun q => absurd q (by decide), fun _ => ⟨fun q => absurd q (by decide), fun _ => ⟨fun q => absurd q (by decide), fun _ => ⟨fun q => absurd q (by decide), fun _ => ⟨fun q => absurd q (by decide), fun _ => (by rw [h3 (by omega)]; exact m_leftOut h (lt hx) (by omega) (fun a' hf => md a' hf _ (lt (fOut_lt (by omega))) (Nat.mod_eq_of_lt (fOut_lt (by omega))) (nk a' hf)))⟩⟩⟩⟩⟩⟩⟩⟩⟩⟩⟩⟩⟩⟩
  | q + 15, hq => exact absurd hq (by omega)
