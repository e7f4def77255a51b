/-! the model's sorted figures, and the numbers made of figures -/
def pv (a : ud_St) (k m : Nat) : List Int32 := (List.range m).map (a.1 k)
theorem pv_len (a : ud_St) (k m : Nat) : (pv a k m).length = m := by simp [pv]
theorem pv_sv (a : ud_St) (k m : Nat) (v : Int32) : pv (ud_sv a k m v) k (m + 1) = pv a k m ++ [v] := by
  unfold pv
  rw [List.range_succ, List.map_append, List.map_singleton, us_1, if_pos ⟨rfl, rfl⟩]
  congr 1
  refine List.map_congr_left (fun j hj => ?_)
  have := List.mem_range.mp hj
  rw [us_1, if_neg (by omega)]
theorem pv_at {a : ud_St} {k m : Nat} {l : List Nat} (h : pv a k m = l.map nI) : l.length = m ∧ ∀ j, j < m → a.1 k j = nI (l.getD j 0) := by
  have hl : l.length = m := by
    have := congrArg List.length h
    rw [pv_len, List.length_map] at this
    exact this.symm
  refine ⟨hl, fun j hj => ?_⟩
  have h1 : (pv a k m)[j]? = (l.map nI)[j]? := by rw [h]
  unfold pv at h1
  rw [List.getElem?_map, List.getElem?_range hj, List.getElem?_map, List.getElem?_eq_getElem (by omega)] at h1
  rw [List.getD_eq_getElem?_getD, List.getElem?_eq_getElem (by omega)]
  exact Option.some.inj h1
/-- all figures below f, in order -/
def lf (D : List Nat) : Nat → List Nat
  | 0 => []
  | f + 1 => lf D f ++ List.replicate (D.count f) f
theorem lf_mem {D : List Nat} {e : Nat} : ∀ {f : Nat}, e ∈ lf D f → e < f
  | 0, h => by simp [lf] at h
  | f + 1, h => by
    rcases List.mem_append.mp h with h | h
    · exact Nat.lt_succ_of_lt (lf_mem h)
    · rw [List.eq_of_mem_replicate h]; exact Nat.lt_succ_self f
theorem srt_app_rep {c f : Nat} : ∀ {l : List Nat}, srt l → (∀ e ∈ l, e ≤ f) → srt (l ++ List.replicate c f)
  | [], _, _ => by
    induction c with
    | zero => trivial
    | succ c ih =>
      refine srt_cons ih (fun e he => ?_)
      rw [List.eq_of_mem_replicate he]
      exact Nat.le_refl _
  | a :: l, h, hl => by
    refine srt_cons (srt_app_rep (srt_tail h) (fun e he => hl e (List.mem_cons_of_mem _ he))) (fun e he => ?_)
    rcases List.mem_append.mp he with he | he
    · exact srt_le h e he
    · rw [List.eq_of_mem_replicate he]; exact hl a List.mem_cons_self
theorem lf_srt (D : List Nat) : ∀ f, srt (lf D f)
  | 0 => trivial
  | f + 1 => srt_app_rep (lf_srt D f) (fun e he => Nat.le_of_lt (lf_mem he))
theorem lf_count (D : List Nat) (c : Nat) : ∀ f, (lf D f).count c = if c < f then D.count c else 0
  | 0 => by simp [lf]
  | f + 1 => by
    rw [lf, List.count_append, lf_count D c f, List.count_replicate]
    by_cases h : c < f
    · simp [h, Nat.lt_succ_of_lt h, show ¬ f = c by omega]
    · by_cases h2 : c = f
      · subst h2
        simp
      · simp [h, show ¬ c < f + 1 by omega, show ¬ f = c by omega]
theorem lf_all {D : List Nat} {b : Nat} (h : ∀ d ∈ D, d < b) : lf D b = isr D := by
  refine srt_eq (lf_srt D b) (isr_srt D) (fun c => ?_)
  rw [lf_count, isr_count]
  by_cases hc : c < b
  · rw [if_pos hc]
  · rw [if_neg hc]
    exact (List.count_eq_zero.mpr (fun q => hc (h c q))).symm
theorem dl_take (b n x t : Nat) (h : t < n) : (dl b n x).take (t + 1) = (dl b n x).take t ++ [dg b n x t] := by
  rw [List.take_add_one]
  congr 1
  unfold dl
  rw [List.getElem?_map, List.getElem?_range h]
  rfl
theorem dl_getD {b n x j : Nat} (h : j < n) : (dl b n x).getD j 0 = dg b n x j := by
  unfold dl
  rw [List.getD_eq_getElem?_getD, List.getElem?_map, List.getElem?_range h]
  rfl
theorem tn_take {b : Nat} {l : List Nat} {t : Nat} (h : t < l.length) : tn b (l.take (t + 1)) = tn b (l.take t) * b + l.getD t 0 := by
  rw [List.take_add_one, List.getElem?_eq_getElem h, List.getD_eq_getElem?_getD, List.getElem?_eq_getElem h]
  exact tn_snoc b _ _
theorem m_sorts {a : ud_St} {b n x : Nat} {Q : ud_St → Prop} (h : mF a b n) (hx : x < 2 ^ 31) (hQ : ∀ a', fr Ps a a' → (∀ j, j < n → a'.1 83 j = nI (dg b n x j)) → (∀ j, j < n → a'.1 84 j = nI ((isr (dl b n x)).getD j 0)) → Q a') : w_Model_sorts a (nI x) Q := by
  unfold w_Model_sorts
  refine m_figures h hx (fun a1 hf1 hd1 => ?_)
  have hF1 : mF a1 b n := h.fr (hf1.mono (fun k j q => Or.inl q))
  obtain ⟨h1, h2, h3, hb, hb2, hn, hn2, hS⟩ := hF1
  have hlt := dl_lt (b := b) (n := n) (x := x) (by omega)
  unfold w_Model_sorts_j9
  refine LW3.up b (fun f c k a' => c = nI (lf (dl b n x) f).length ∧ k = nI f ∧ fr (fun k _ => k = 84) a1 a' ∧ pv a' 84 (lf (dl b n x) f).length = (lf (dl b n x) f).map nI) ⟨rfl, rfl, fr.rf, rfl⟩ ?_ ?_
  · rintro f c k a' hfb ⟨rfl, rfl, hf, hp⟩ K hK
    have e0 : a'.1 78 0 = nI b := (hf.1 78 0 (by omega)).trans h1
    simp only [tN_0, e0]
    refine ⟨vi_0 (by omega), fun q => absurd q (nI_ge hfb (by omega)), fun _ => ?_⟩
    unfold w_Model_sorts_j22
    refine LW3.up n (fun t c k a2 => c = nI (lf (dl b n x) f ++ List.replicate (((dl b n x).take t).count f) f).length ∧ k = nI t ∧ fr (fun k _ => k = 84) a1 a2 ∧ pv a2 84 (lf (dl b n x) f ++ List.replicate (((dl b n x).take t).count f) f).length = (lf (dl b n x) f ++ List.replicate (((dl b n x).take t).count f) f).map nI) ⟨by simp, rfl, hf, by simpa using hp⟩ ?_ ?_
    · rintro t c k a2 ht ⟨rfl, rfl, hg, hp2⟩ K2 hK2
      have e1 : a2.1 78 1 = nI n := (hg.1 78 1 (by omega)).trans h2
      have e2 : a2.1 83 t = nI (dg b n x t) := (hg.1 83 t (by omega)).trans (hd1 t ht)
      have hdl : dg b n x t < b := dg_lt (by omega)
      simp only [tN_1, e1]
      refine ⟨vi_1 (by omega), fun q => absurd q (nI_ge ht (by omega)), fun _ => ⟨vp_in_nI (by omega) (by omega), ?_⟩⟩
      rw [nI_clamp (by omega), e2]
      have hlen : (lf (dl b n x) f ++ List.replicate (((dl b n x).take t).count f) f).length ≤ t + (lf (dl b n x) f).length := by
        rw [List.length_append, List.length_replicate]
        have := List.count_le_length (a := f) (l := (dl b n x).take t)
        rw [List.length_take] at this
        omega
      have htot : (lf (dl b n x) f ++ List.replicate ((dl b n x).count f) f).length ≤ n := by
        have q1 : ∀ g, g ≤ b → (lf (dl b n x) g).length ≤ n := by
          intro g hg
          have q2 : ∀ d g, (lf (dl b n x) g).length ≤ (lf (dl b n x) (g + d)).length := by
            intro d
            induction d with
            | zero => intro g; exact Nat.le_refl _
            | succ d ih =>
              intro g
              refine Nat.le_trans (ih g) ?_
              show _ ≤ (lf (dl b n x) (g + d) ++ _).length
              rw [List.length_append]
              omega
          have q3 := q2 (b - g) g
          rw [show g + (b - g) = b by omega, lf_all hlt, isr_len, dl_len] at q3
          exact q3
        exact q1 (f + 1) hfb
      rw [dl_take b n x t ht] at hK2
      refine ⟨fun q => ?_, fun q => ?_⟩
      · have q' := (nI_eq (by omega) (by omega)).mp q
        subst q'
        have hlt2 : (lf (dl b n x) (dg b n x t) ++ List.replicate (((dl b n x).take t).count (dg b n x t)) (dg b n x t)).length < n := by
          have hsub : ((dl b n x).take (t + 1)).count (dg b n x t) ≤ (dl b n x).count (dg b n x t) := (List.take_sublist _ _).count_le _
          rw [dl_take b n x t ht, List.count_append, List.count_singleton_self] at hsub
          rw [List.length_append, List.length_replicate] at htot ⊢
          omega
        refine ⟨vp_in_nI (by omega) (by omega), ?_⟩
        rw [nI_clamp (by omega)]
        refine hK2 _ _ _ ⟨?_, nI_1 t, hg.sv rfl, ?_⟩
        · rw [List.count_append, List.count_singleton_self, ← List.replicate_append_replicate, ← List.append_assoc, List.length_append (bs := List.replicate 1 _)]
          exact nI_1 _
        · rw [List.count_append, List.count_singleton_self, ← List.replicate_append_replicate, ← List.append_assoc, List.length_append (bs := List.replicate 1 _), List.map_append, ← hp2]
          exact pv_sv _ _ _ _
      · have q' : dg b n x t ≠ f := fun z => q (by rw [z])
        have e0 : List.count f [dg b n x t] = 0 := by simp [List.count_singleton, q']
        refine hK2 _ _ _ ⟨by rw [List.count_append, e0]; rfl, nI_1 t, hg, by rw [List.count_append, e0]; exact hp2⟩
    · rintro c k a2 ⟨rfl, rfl, hg, hp2⟩ K2
      have e1 : a2.1 78 1 = nI n := (hg.1 78 1 (by omega)).trans h2
      have ht : (dl b n x).take n = dl b n x := List.take_of_length_le (by rw [dl_len]; exact Nat.le_refl _)
      rw [ht] at hp2 ⊢
      simp only [tN_1, e1]
      exact ⟨vi_1 (by omega), fun _ => hK _ _ _ ⟨rfl, nI_1 f, hg, hp2⟩, fun q => absurd (nI_le (Nat.le_refl n) (by omega)) q⟩
  · rintro c k a' ⟨rfl, rfl, hf, hp⟩ K
    have e0 : a'.1 78 0 = nI b := (hf.1 78 0 (by omega)).trans h1
    simp only [tN_0, e0]
    refine ⟨vi_0 (by omega), fun _ => ?_, fun q => absurd (nI_le (Nat.le_refl b) (by omega)) q⟩
    rw [lf_all hlt, isr_len, dl_len] at hp
    refine hQ a' ((hf1.mono (fun k j q => Or.inl q)).tr (hf.mono (fun k j q => Or.inr q))) (fun j hj => (hf.1 83 j (by omega)).trans (hd1 j hj)) (fun j hj => (pv_at hp).2 j hj)
