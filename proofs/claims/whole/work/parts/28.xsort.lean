/-! x's insertion sort -/
theorem srt_split (d : Nat) : ∀ {P : List Nat}, srt P → ∃ l r, P = l ++ r ∧ (∀ e ∈ l, e ≤ d) ∧ (∀ e ∈ r, d < e) ∧ srt (l ++ d :: r)
  | [], _ => ⟨[], [], rfl, fun _ h => by simp at h, fun _ h => by simp at h, trivial⟩
  | a :: t, h => by
    by_cases ha : a ≤ d
    · obtain ⟨l, r, e1, e2, e3, e4⟩ := srt_split d (srt_tail h)
      refine ⟨a :: l, r, by rw [e1]; rfl, fun e he => ?_, e3, srt_cons e4 (fun e he => ?_)⟩
      · rcases List.mem_cons.mp he with rfl | he
        · exact ha
        · exact e2 e he
      · rcases List.mem_append.mp he with q | q
        · exact srt_le h e (by rw [e1]; exact List.mem_append_left _ q)
        · rcases List.mem_cons.mp q with rfl | q
          · exact ha
          · exact srt_le h e (by rw [e1]; exact List.mem_append_right _ q)
    · refine ⟨[], a :: t, rfl, fun _ h => by simp at h, fun e he => ?_, ⟨by omega, h⟩⟩
      rcases List.mem_cons.mp he with rfl | he
      · omega
      · have := srt_le h e he; omega
theorem gd_l {l r : List Nat} {j : Nat} (h : j < l.length) : (l ++ r).getD j 0 = l.getD j 0 := by
  rw [List.getD_eq_getElem?_getD, List.getD_eq_getElem?_getD, List.getElem?_append_left h]
theorem gd_r {l r : List Nat} {j : Nat} (h : l.length ≤ j) : (l ++ r).getD j 0 = r.getD (j - l.length) 0 := by
  rw [List.getD_eq_getElem?_getD, List.getD_eq_getElem?_getD, List.getElem?_append_right h]
theorem gd_mem {l : List Nat} {j : Nat} (h : j < l.length) : l.getD j 0 ∈ l := by
  rw [List.getD_eq_getElem?_getD, List.getElem?_eq_getElem h]
  exact List.getElem_mem h
theorem isr_snoc {D : List Nat} {d : Nat} {l r : List Nat} (h : isr D = l ++ r) (hs : srt (l ++ d :: r)) : isr (D ++ [d]) = l ++ d :: r := by
  refine srt_eq (isr_srt _) hs (fun c => ?_)
  have h1 : (isr D).count c = (l ++ r).count c := by rw [h]
  rw [isr_count] at h1 ⊢
  rw [List.count_append] at h1 ⊢
  rw [List.count_append]
  simp only [List.count_cons, List.count_nil]
  omega
theorem take_snoc {D : List Nat} {i : Nat} (h : i < D.length) : D.take (i + 1) = D.take i ++ [D.getD i 0] := by
  rw [List.take_add_one, List.getElem?_eq_getElem h, List.getD_eq_getElem?_getD, List.getElem?_eq_getElem h]
  rfl
theorem x_sortSplit {a : ud_St} {n : Nat} {D : List Nat} {Q : ud_St → Prop} (hl : D.length = n) (hn : 1 ≤ n) (hn2 : n ≤ 8) (h1 : a.1 26 1 = nI n) (hD : ∀ j, j < n → a.1 28 j = nI (D.getD j 0)) (hd : ∀ d ∈ D, d < 2 ^ 31) (hQ : ∀ a', fr (fun k _ => k = 28) a a' → (∀ j, j < n → a'.1 28 j = nI ((isr D).getD j 0)) → Q a') : w_Figures_sortSplit a Q := by
  unfold w_Figures_sortSplit w_Figures_sortSplit_j2
  refine LW2.up (n - 1) (fun t i a' => i = nI (t + 1) ∧ fr (fun k _ => k = 28) a a' ∧ (∀ j, j < t + 1 → a'.1 28 j = nI ((isr (D.take (t + 1))).getD j 0)) ∧ ∀ j, t + 1 ≤ j → j < n → a'.1 28 j = nI (D.getD j 0)) ⟨rfl, fr.rf, fun j hj => ?_, fun j _ hj => hD j hj⟩ ?_ ?_
  · have e0 : j = 0 := by omega
    subst e0
    rw [take_snoc (by omega), List.take_zero, List.nil_append, hD 0 (by omega)]
    rfl
  · rintro t i a' ht ⟨rfl, hf, hp, hr⟩ K hK
    have e1 : a'.1 26 1 = nI n := (hf.1 26 1 (by omega)).trans h1
    rw [e1]
    refine ⟨fun q => absurd q (nI_ge (by omega) (by omega)), fun _ => ub_atn (by omega) (by omega) ?_⟩
    rw [hr (t + 1) (Nat.le_refl _) (by omega)]
    obtain ⟨l, r, q1, q2, q3, q4⟩ := srt_split (D.getD (t + 1) 0) (isr_srt (D.take (t + 1)))
    have hlen : l.length + r.length = t + 1 := by
      have := congrArg List.length q1
      rw [isr_len, List.length_take, List.length_append] at this
      omega
    have hdb : D.getD (t + 1) 0 < 2 ^ 31 := hd _ (gd_mem (by omega))
    have hPb : ∀ e ∈ l ++ r, e < 2 ^ 31 := fun e he => hd e (List.mem_of_mem_take (isr_mem.mp (by rw [q1]; exact he)))
    have hS := isr_snoc q1 q4
    rw [← take_snoc (by omega)] at hS
    unfold w_Figures_sortSplit_j21
    refine LW2.up r.length (fun u to a2 => to = nI (t + 1 - u) ∧ fr (fun k _ => k = 28) a a2 ∧ (∀ j, j < t + 1 - u → a2.1 28 j = nI ((l ++ r).getD j 0)) ∧ (∀ j, t + 1 - u < j → j ≤ t + 1 → a2.1 28 j = nI ((l ++ r).getD (j - 1) 0)) ∧ ∀ j, t + 1 < j → j < n → a2.1 28 j = nI (D.getD j 0)) ⟨rfl, hf, fun j hj => by rw [hp j hj, q1], fun j h2 h3 => by omega, fun j h2 h3 => hr j (by omega) h3⟩ ?_ ?_
    · rintro u to a2 hu ⟨rfl, hf2, g1, g2, g3⟩ K2 hK2
      refine ⟨fun q => absurd q (nI_nle (by omega) (by omega)), fun _ => ?_⟩
      rw [ui_pred (by omega)]
      refine ub_atn (by omega) (by omega) ?_
      rw [g1 _ (by omega)]
      have hgt : D.getD (t + 1) 0 < (l ++ r).getD (t + 1 - u - 1) 0 := by
        rw [gd_r (by omega)]
        exact q3 _ (gd_mem (by omega))
      have hb2 := hPb _ (gd_mem (l := l ++ r) (j := t + 1 - u - 1) (by rw [List.length_append]; omega))
      refine ⟨fun q => absurd q (nI_ge hgt hb2), fun _ => ub_atn (by omega) (by omega) (ub_putn (by omega) (by omega) ?_)⟩
      rw [g1 _ (by omega), ui_m1, ui_pred (by omega)]
      refine hK2 _ _ ⟨by rw [Nat.sub_sub], hf2.sv rfl, fun j hj => ?_, fun j h2 h3 => ?_, fun j h2 h3 => ?_⟩
      · rw [us_1, if_neg (by omega)]
        exact g1 j (by omega)
      · rw [us_1]
        by_cases hj : j = t + 1 - u
        · rw [if_pos ⟨rfl, hj⟩, hj]
        · rw [if_neg (fun q => hj q.2)]
          exact g2 j (by omega) h3
      · rw [us_1, if_neg (by omega)]
        exact g3 j h2 h3
    · rintro to a2 ⟨rfl, hf2, g1, g2, g3⟩ K2
      have hlr : t + 1 - r.length = l.length := by omega
      rw [hlr] at g1 g2 ⊢
      have fin : K (nI (t + 1) + 1) (ud_sv a2 28 l.length (nI (D.getD (t + 1) 0))) := by
        refine hK _ _ ⟨nI_1 _, hf2.sv rfl, fun j hj => ?_, fun j h2 h3 => ?_⟩
        · rw [us_1, hS]
          by_cases hj1 : j = l.length
          · rw [if_pos ⟨rfl, hj1⟩, gd_r (by omega), hj1, Nat.sub_self]
            rfl
          · rw [if_neg (fun q => hj1 q.2)]
            by_cases hj2 : j < l.length
            · rw [g1 j hj2, gd_l hj2, gd_l hj2]
            · rw [g2 j (by omega) (by omega), gd_r (by omega), gd_r (by omega), show j - l.length = (j - 1 - l.length) + 1 by omega]
              rfl
        · rw [us_1, if_neg (by omega)]
          exact g3 j (by omega) h3
      refine ⟨fun _ => ub_putn (by omega) (by omega) fin, fun q => ?_⟩
      have hl0 : 0 < l.length := by
        rcases Nat.eq_zero_or_pos l.length with z | z
        · exact absurd (by rw [z]; decide) q
        · exact z
      rw [ui_pred hl0]
      refine ub_atn (by omega) (by omega) ?_
      rw [g1 _ (by omega), gd_l (by omega)]
      have hle := q2 _ (gd_mem (l := l) (j := l.length - 1) (by omega))
      exact ⟨fun _ => ub_putn (by omega) (by omega) fin, fun q => absurd (nI_le hle hdb) q⟩
  · rintro i a' ⟨rfl, hf, hp, hr⟩ K
    have e1 : a'.1 26 1 = nI n := (hf.1 26 1 (by omega)).trans h1
    rw [e1, show n - 1 + 1 = n by omega] at *
    refine ⟨fun _ => hQ a' hf (fun j hj => ?_), fun q => absurd (nI_le (Nat.le_refl n) (by omega)) q⟩
    rw [hp j hj, take_all hl]
