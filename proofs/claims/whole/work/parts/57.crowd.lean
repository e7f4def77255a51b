/-! crowds: figures, sets, x's Crowd -/
theorem tn_inj {b : Nat} (hb : 0 < b) : ∀ {l r : List Nat}, l.length = r.length → (∀ d ∈ l, d < b) → (∀ d ∈ r, d < b) → tn b l = tn b r → l = r := by
  intro l
  induction l with
  | nil => intro r h _ _ _; cases r with
    | nil => rfl
    | cons d t => cases h
  | cons d t ih =>
    intro r h h1 h2 e
    cases r with
    | nil => cases h
    | cons d2 t2 =>
      have hl : t.length = t2.length := by simpa using h
      have a1 := tn_lt hb t (fun x hx => h1 x (List.mem_cons_of_mem _ hx))
      have a2 := tn_lt hb t2 (fun x hx => h2 x (List.mem_cons_of_mem _ hx))
      rw [tn_cons, tn_cons, ← hl] at e
      rw [← hl] at a2
      have hp : 0 < b ^ t.length := Nat.pow_pos hb
      have e1 : (d * b ^ t.length + tn b t) / b ^ t.length = d := by
        rw [Nat.mul_comm, Nat.mul_add_div hp, Nat.div_eq_of_lt a1]; omega
      have e2 : (d2 * b ^ t.length + tn b t2) / b ^ t.length = d2 := by
        rw [Nat.mul_comm, Nat.mul_add_div hp, Nat.div_eq_of_lt a2]; omega
      have ed : d = d2 := by rw [← e1, e, e2]
      subst ed
      rw [ih hl (fun x hx => h1 x (List.mem_cons_of_mem _ hx)) (fun x hx => h2 x (List.mem_cons_of_mem _ hx)) (by omega)]
theorem dl_tn {b n : Nat} (hb : 0 < b) {l : List Nat} (hl : l.length = n) (h : ∀ d ∈ l, d < b) : dl b n (tn b l) = l := by
  have hlt := tn_lt hb l h
  rw [hl] at hlt
  exact tn_inj hb (by rw [dl_len, hl]) (dl_lt hb) h (tn_dl hb hlt)
theorem dg_tn {b n i : Nat} (hb : 0 < b) {l : List Nat} (hl : l.length = n) (h : ∀ d ∈ l, d < b) (hi : i < n) : dg b n (tn b l) i = l.getD i 0 := by
  have e := dl_tn hb hl h
  have : (dl b n (tn b l)).getD i 0 = dg b n (tn b l) i := by
    unfold dl
    rw [List.getD_eq_getElem?_getD, List.getElem?_map, List.getElem?_range hi]; rfl
  rw [← this, e]
theorem gd_at {l : List Nat} {i : Nat} (h : i < l.length) : l.getD i 0 = l[i] := by simp [h]
theorem srt_get : ∀ {l : List Nat} {i j : Nat}, srt l → i ≤ j → j < l.length → l.getD i 0 ≤ l.getD j 0 := by
  intro l
  induction l with
  | nil => intro i j _ _ h; cases h
  | cons a t ih =>
    intro i j hs hij hj
    cases j with
    | zero => rw [show i = 0 by omega]; exact Nat.le_refl _
    | succ j =>
      have hj' : j < t.length := by simpa using hj
      cases i with
      | zero =>
        have := srt_le hs (t.getD j 0) (by rw [gd_at hj']; exact List.getElem_mem hj')
        simpa using this
      | succ i => simpa using ih (srt_tail hs) (by omega) hj'
theorem alike {b n x : Nat} (hb : 0 < b) (hn : 0 < n) : fUp b n x = fDown b n x ↔ sg b n x 0 = sg b n x (n - 1) := by
  have hl : (isr (dl b n x)).length = n := by rw [isr_len, dl_len]
  have hd : ∀ d ∈ isr (dl b n x), d < b := fun d h => dl_lt hb d (isr_mem.mp h)
  have hs := isr_srt (dl b n x)
  unfold fUp fDown sg
  generalize isr (dl b n x) = L at hl hd hs
  constructor
  · intro e
    have e2 : L = L.reverse := tn_inj hb (by rw [List.length_reverse]) hd (fun d h => hd d (List.mem_reverse.mp h)) e
    rw [gd_at (by omega), gd_at (by omega)]
    have : L.reverse[0]'(by rw [List.length_reverse]; omega) = L[L.length - 1 - 0]'(by omega) := List.getElem_reverse _
    calc L[0] = L.reverse[0]'(by rw [List.length_reverse]; omega) := by congr 1
      _ = L[L.length - 1 - 0]'(by omega) := this
      _ = L[n - 1] := by congr 1; omega
  · intro e
    congr 1
    refine List.ext_getElem (by rw [List.length_reverse]) (fun i h1 h2 => ?_)
    rw [List.getElem_reverse]
    have q : ∀ k (hk : k < L.length), L[k] = L.getD 0 0 := fun k hk => by
      have q1 := srt_get hs (Nat.zero_le k) hk
      have q2 := srt_get (i := k) (j := n - 1) hs (by omega) (by omega)
      rw [gd_at hk] at q1 q2
      omega
    rw [q, q]
/-! lists that are sets -/
theorem set_len {S : Nat} {L : List Nat} {p : Nat → Bool} (hn : L.Nodup) (hp : ∀ y, y < S → (p y = true ↔ y ∈ L)) (hL : ∀ y, y ∈ L → y < S) : L.length = fb_ct p S := by
  have e : ∀ n, ((List.range n).filter p).length = fb_ct p n := by
    intro n
    induction n with
    | zero => rfl
    | succ n ih =>
      rw [List.range_succ, List.filter_append, List.length_append, ih, fb_ct_succ]
      cases h : p n <;> simp [h]
  rw [← e S]
  refine List.Perm.length_eq ((List.perm_ext_iff_of_nodup hn (List.Nodup.sublist List.filter_sublist List.nodup_range)).mpr (fun y => ?_))
  rw [List.mem_filter, List.mem_range]
  exact ⟨fun h => ⟨hL y h, (hp y (hL y h)).mpr h⟩, fun h => (hp y h.1).mp h.2⟩
theorem set_le {S : Nat} {L : List Nat} (hn : L.Nodup) (hL : ∀ y, y ∈ L → y < S) : L.length ≤ S := by
  have := List.Nodup.length_le_of_subset hn (l₂ := List.range S) (fun y h => List.mem_range.mpr (hL y h))
  rwa [List.length_range] at this
def adm (L : List Nat) (y : Nat) : List Nat := if y ∈ L then L else L ++ [y]
theorem adm_mem {L : List Nat} {y z : Nat} : z ∈ adm L y ↔ z ∈ L ∨ z = y := by
  unfold adm
  by_cases h : y ∈ L
  · rw [if_pos h]
    exact ⟨Or.inl, fun q => q.elim id (fun e => by rw [e]; exact h)⟩
  · rw [if_neg h]; simp
theorem adm_nodup {L : List Nat} {y : Nat} (h : L.Nodup) : (adm L y).Nodup := by
  unfold adm
  by_cases hy : y ∈ L
  · rw [if_pos hy]; exact h
  · rw [if_neg hy, List.nodup_append]
    refine ⟨h, List.nodup_cons.mpr ⟨by simp, List.nodup_nil⟩, fun a ha b hb => ?_⟩
    rw [List.mem_singleton] at hb
    intro e
    rw [e, hb] at ha
    exact hy ha
theorem adm_le {L : List Nat} {y : Nat} : (adm L y).length ≤ L.length + 1 := by
  unfold adm
  by_cases hy : y ∈ L
  · rw [if_pos hy]; omega
  · rw [if_neg hy, List.length_append]; simp
/-- how many of L are in K -/
def stay (K L : List Nat) : Nat := (L.filter (fun y => decide (y ∈ K))).length
theorem stay_adm {K L : List Nat} {y : Nat} : stay K (adm L y) = stay K L + (if y ∈ K ∧ y ∉ L then 1 else 0) := by
  unfold stay adm
  by_cases hy : y ∈ L
  · rw [if_pos hy, if_neg (fun q => q.2 hy)]; rfl
  · rw [if_neg hy, List.filter_append, List.length_append]
    by_cases hk : y ∈ K
    · rw [if_pos ⟨hk, hy⟩]; simp [hk]
    · rw [if_neg (fun q => hk q.1)]; simp [hk]
theorem stay_all {K L : List Nat} (hK : K.Nodup) (hL : L.Nodup) (hle : L.length ≤ K.length) (e : stay K L = K.length) : ∀ y, y ∈ L ↔ y ∈ K := by
  unfold stay at e
  have hF : (L.filter (fun y => decide (y ∈ K))).Nodup := List.Nodup.sublist List.filter_sublist hL
  have h1 : ∀ y, y ∈ K → y ∈ L := by
    intro y hy
    by_cases h : y ∈ L
    · exact h
    · have hnd : (y :: L.filter (fun y => decide (y ∈ K))).Nodup := List.nodup_cons.mpr ⟨fun q => h (List.mem_filter.mp q).1, hF⟩
      have := List.Nodup.length_le_of_subset hnd (l₂ := K) (fun z hz => by
        rcases List.mem_cons.mp hz with q | q
        · rw [q]; exact hy
        · exact of_decide_eq_true (List.mem_filter.mp q).2)
      rw [List.length_cons, e] at this
      omega
  refine fun y => ⟨fun hy => ?_, h1 y⟩
  by_cases h : y ∈ K
  · exact h
  · have hnd : (y :: K).Nodup := List.nodup_cons.mpr ⟨h, hK⟩
    have := List.Nodup.length_le_of_subset hnd (l₂ := L) (fun z hz => by
      rcases List.mem_cons.mp hz with q | q
      · rw [q]; exact hy
      · exact h1 z q)
    rw [List.length_cons] at this
    omega
/-! x's Crowd -/
def Pcw (k j : Nat) : Prop := k = 46 ∨ k = 47 ∨ (k = 45 ∧ 2 ≤ j ∧ j ≤ 6)
/-- its members are L, its mark is mk -/
def crS (a : ud_St) (S mk : Nat) (L : List Nat) : Prop := a.1 45 2 = nI mk ∧ a.1 45 5 = nI L.length ∧ L.Nodup ∧ (∀ y, y ∈ L → y < S) ∧ (∀ k, k < L.length → a.1 46 k = nI (L.getD k 0)) ∧ ∀ x, x < 10000 → ∃ v, v ≤ mk ∧ a.1 47 x = nI v ∧ (x < S → (v = mk ↔ x ∈ L))
theorem x_admit {a : ud_St} {S mk y : Nat} {L : List Nat} {Q : ud_St → Prop} (hS : S ≤ 10000) (hm : mk < 2 ^ 31) (h : crS a S mk L) (hy : y < S) (hQ : ∀ a', fr (fun k j => k = 46 ∨ k = 47 ∨ (k = 45 ∧ j = 5)) a a' → crS a' S mk (adm L y) → (∀ z, z ≠ y → a'.1 47 z = a.1 47 z) → (∀ j, j ≠ L.length → a'.1 46 j = a.1 46 j) → Q a') : w_Crowd_admit a (nI y) Q := by
  obtain ⟨h1, h2, h3, h4, h5, h6⟩ := id h
  have hle := set_le h3 h4
  unfold w_Crowd_admit
  refine ub_atn (by omega) (by omega) ?_
  obtain ⟨v, q1, q2, q3⟩ := h6 y (by omega)
  rw [q2, h1]
  refine ⟨fun z => ?_, fun z => ?_⟩
  · have e := (nI_eq (by omega) (by omega)).mp z
    have hin := (q3 hy).mp e
    refine hQ a fr.rf ?_ (fun _ _ => rfl) (fun _ _ => rfl)
    unfold adm
    rw [if_pos hin]
    exact h
  · have e : ¬ v = mk := fun e => z (by rw [e])
    have hin : ¬ y ∈ L := fun w => e ((q3 hy).mpr w)
    refine ub_putn (by omega) (by omega) ?_
    have e5 : (ud_sv a 47 y (nI mk)).1 45 5 = nI L.length := by rw [us_1, if_neg (by omega)]; exact h2
    have hlt : L.length < S := by
      have := set_le (S := S) (adm_nodup (y := y) h3) (fun z hz => (adm_mem.mp hz).elim (h4 z) (fun q => by rw [q]; exact hy))
      unfold adm at this
      rw [if_neg hin, List.length_append, List.length_singleton] at this
      omega
    rw [e5, nI_1]
    refine ub_putn (by omega) (by omega) (hQ _ (((fr.rf.sv (by omega)).sv (by omega)).sv (by omega)) ⟨?_, ?_, adm_nodup h3, fun z hz => (adm_mem.mp hz).elim (h4 z) (fun q => by rw [q]; exact hy), ?_, fun x hx => ?_⟩ (fun z hz => ?_) (fun j hj => ?_))
    · rw [us_1, if_neg (by omega), us_1, if_neg (by omega), us_1, if_neg (by omega)]; exact h1
    · rw [us_1, if_neg (by omega), us_1, if_pos ⟨rfl, rfl⟩]
      unfold adm
      rw [if_neg hin, List.length_append, List.length_singleton]
    · intro k hk
      unfold adm at hk ⊢
      rw [if_neg hin] at hk ⊢
      rw [List.length_append, List.length_singleton] at hk
      rw [us_1]
      by_cases ek : k = L.length
      · rw [if_pos ⟨rfl, ek⟩, ek]
        simp
      · rw [if_neg (fun w => ek w.2), us_1, if_neg (by omega), us_1, if_neg (by omega), h5 k (by omega)]
        rw [gd_at (by omega), gd_at (by rw [List.length_append]; omega), List.getElem_append_left (by omega)]
    · rw [us_1, if_neg (by omega), us_1, if_neg (by omega), us_1]
      by_cases ex : x = y
      · rw [if_pos ⟨rfl, ex⟩]
        exact ⟨mk, Nat.le_refl _, rfl, fun _ => ⟨fun _ => adm_mem.mpr (Or.inr ex), fun _ => rfl⟩⟩
      · rw [if_neg (fun w => ex w.2)]
        obtain ⟨v, r1, r2, r3⟩ := h6 x hx
        exact ⟨v, r1, r2, fun hxS => (r3 hxS).trans ⟨fun w => adm_mem.mpr (Or.inl w), fun w => (adm_mem.mp w).elim id (fun w => absurd w ex)⟩⟩
    · rw [us_1, if_neg (by omega), us_1, if_neg (by omega), us_1, if_neg (fun w => hz w.2)]
    · rw [us_1, if_neg (fun w => hj w.2), us_1, if_neg (by omega), us_1, if_neg (by omega)]
