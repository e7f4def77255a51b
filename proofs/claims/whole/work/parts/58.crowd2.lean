/-! x's Crowd goes -/
def gl (g : Nat → Nat) (L : List Nat) : List Nat := L.foldl (fun r y => adm r (g y)) []
theorem gl_snoc (g : Nat → Nat) (L : List Nat) (y : Nat) : gl g (L ++ [y]) = adm (gl g L) (g y) := by unfold gl; rw [List.foldl_append]; rfl
theorem gl_mem0 {g : Nat → Nat} : ∀ {L r : List Nat} {z : Nat}, z ∈ L.foldl (fun r y => adm r (g y)) r ↔ z ∈ r ∨ ∃ y, y ∈ L ∧ g y = z := by
  intro L
  induction L with
  | nil => intro r z; simp
  | cons a t ih =>
    intro r z
    rw [List.foldl_cons, ih, adm_mem]
    constructor
    · rintro ((q | q) | ⟨y, q, e⟩)
      · exact Or.inl q
      · exact Or.inr ⟨a, List.mem_cons_self, q.symm⟩
      · exact Or.inr ⟨y, List.mem_cons_of_mem _ q, e⟩
    · rintro (q | ⟨y, q, e⟩)
      · exact Or.inl (Or.inl q)
      · rcases List.mem_cons.mp q with w | w
        · exact Or.inl (Or.inr (by rw [← e, w]))
        · exact Or.inr ⟨y, w, e⟩
theorem gl_mem {g : Nat → Nat} {L : List Nat} {z : Nat} : z ∈ gl g L ↔ ∃ y, y ∈ L ∧ g y = z := by
  unfold gl
  rw [gl_mem0]
  exact ⟨fun h => h.elim (fun q => by cases q) id, Or.inr⟩
def Pc0 (k j : Nat) : Prop := k = 46 ∨ k = 47 ∨ (k = 45 ∧ (j = 2 ∨ j = 5 ∨ j = 6))
theorem x_goOnce {a : ud_St} {g : Nat → Nat} {S mk : Nat} {L : List Nat} {Q : ud_St → Prop} (hN : xN a g S) (hm : mk + 1 < 2 ^ 31) (h : crS a S mk L) (hQ : ∀ a', fr Pc0 a a' → crS a' S (mk + 1) (gl g L) → (a'.1 45 6 = 0 ∨ (a'.1 45 6 = 1 ∧ ∀ y, y ∈ gl g L ↔ y ∈ L)) → Q a') : w_Crowd_goOnce a Q := by
  obtain ⟨h0, hS, hg, h37⟩ := id hN
  obtain ⟨h1, h2, h3, h4, h5, h6⟩ := id h
  have hle := set_le h3 h4
  have e2 : (ud_sv a 45 5 0).1 45 2 = nI mk := by rw [us_1, if_neg (by omega)]; exact h1
  unfold w_Crowd_goOnce
  rw [h2, e2, nI_1]
  refine LW3.up L.length (fun k s x b => s = nI (stay L (gl g (L.take k))) ∧ x = nI k ∧ fr Pc0 a b ∧ crS b S (mk + 1) (gl g (L.take k)) ∧ (gl g (L.take k)).length ≤ k ∧ (∀ z, z ∉ gl g (L.take k) → b.1 47 z = a.1 47 z) ∧ ∀ j, k ≤ j → b.1 46 j = a.1 46 j) ⟨rfl, rfl, (fr.rf.sv (by unfold Pc0; omega)).sv (by unfold Pc0; omega), ⟨?_, ?_, List.nodup_nil, fun y hy => (by cases hy), fun k hk => absurd hk (Nat.not_lt_zero k), fun x hx => ?_⟩, Nat.le_refl 0, fun z _ => ?_, fun j _ => ?_⟩ ?_ ?_
  · rw [us_1, if_pos ⟨rfl, rfl⟩]
  · rw [us_1, if_neg (by omega), us_1, if_pos ⟨rfl, rfl⟩]; rfl
  · obtain ⟨v, q1, q2, q3⟩ := h6 x hx
    refine ⟨v, by omega, ?_, fun _ => ⟨fun w => by omega, fun w => by cases w⟩⟩
    rw [us_1, if_neg (by omega), us_1, if_neg (by omega)]; exact q2
  · rw [us_1, if_neg (by omega), us_1, if_neg (by omega)]
  · rw [us_1, if_neg (by omega), us_1, if_neg (by omega)]
  · rintro k s x b hk ⟨rfl, rfl, hf, hc, hl, h47, h46⟩ K hK
    have hy := h4 L[k] (List.getElem_mem hk)
    have e46 : b.1 46 k = nI L[k] := by rw [h46 k (Nat.le_refl _), h5 k hk, gd_at hk]
    have hN' := xN_c hN (a' := b) (fun k j _ _ => hf.1 k j (by unfold Pc0; omega))
    have hgy := hg _ hy
    have et : gl g (L.take (k + 1)) = adm (gl g (L.take k)) (g L[k]) := by rw [List.take_succ_eq_append_getElem hk, gl_snoc]
    obtain ⟨c1, c2, c3, c4, c5, c6⟩ := id hc
    obtain ⟨v, q1, q2, q3⟩ := c6 (g L[k]) (by omega)
    refine ⟨fun z => absurd z (nI_ge hk (by omega)), fun _ => ub_atn (by omega) (by omega) ?_⟩
    rw [e46]
    refine x_nextOf hN' hy (ub_atn (by omega) (by omega) ?_)
    have em : nI (mk + 1) - 1 = nI mk := by rw [ui_pred (by omega)]; rfl
    rw [q2, c1, em]
    have next : ∀ s', s' = nI (stay L (gl g (L.take (k + 1)))) → ∀ b', fr (fun k j => k = 46 ∨ k = 47 ∨ (k = 45 ∧ j = 5)) b b' → crS b' S (mk + 1) (adm (gl g (L.take k)) (g L[k])) → (∀ z, z ≠ g L[k] → b'.1 47 z = b.1 47 z) → (∀ j, j ≠ (gl g (L.take k)).length → b'.1 46 j = b.1 46 j) → K s' (nI k + 1) b' := by
      intro s' es b' hf' hc' h47' h46'
      refine hK _ _ _ ⟨es, nI_1 k, hf.tr (hf'.mono (fun k j q => by unfold Pc0; omega)), by rw [et]; exact hc', ?_, fun z hz => ?_, fun j hj => ?_⟩
      · rw [et]
        have := adm_le (L := gl g (L.take k)) (y := g L[k])
        omega
      · rw [et] at hz
        have hz1 : z ∉ gl g (L.take k) := fun w => hz (adm_mem.mpr (Or.inl w))
        rw [h47' z (fun w => hz (adm_mem.mpr (Or.inr w))), h47 z hz1]
      · rw [h46' j (by omega), h46 j (by omega)]
    refine ⟨fun z => ?_, fun z => ?_⟩
    · have ev := (nI_eq (by omega) (by omega)).mp z
      have hnot : g L[k] ∉ gl g (L.take k) := fun w => by have := (q3 hgy).mpr w; omega
      have hin : g L[k] ∈ L := by
        obtain ⟨v', r1, r2, r3⟩ := h6 (g L[k]) (by omega)
        rw [h47 _ hnot, r2] at q2
        have := (nI_eq (by omega) (by omega)).mp q2
        exact (r3 hgy).mp (by omega)
      refine x_admit hS (by omega) hc hgy (next _ ?_)
      rw [et, stay_adm, if_pos ⟨hin, hnot⟩]
      exact nI_1 _
    · have hout : ¬ (g L[k] ∈ L ∧ g L[k] ∉ gl g (L.take k)) := fun ⟨w1, w2⟩ => by
        obtain ⟨v', r1, r2, r3⟩ := h6 (g L[k]) (by omega)
        rw [h47 _ w2, r2] at q2
        have e1 := (nI_eq (by omega) (by omega)).mp q2
        have e2 := (r3 hgy).mpr w1
        exact z (by rw [← e1, e2])
      refine x_admit hS (by omega) hc hgy (next _ ?_)
      rw [et, stay_adm, if_neg hout]
      exact nI_add _ 0
  · rintro s x b ⟨rfl, rfl, hf, hc, hl, -, -⟩ K
    rw [List.take_length] at hc hl ⊢
    have hst : stay L (gl g L) ≤ (gl g L).length := List.length_filter_le _ _
    refine ⟨fun _ => ⟨fun z => ?_, fun z => ?_⟩, fun z => absurd (nI_le (Nat.le_refl _) (by omega)) z⟩
    · have e := (nI_eq (by omega) (by omega)).mp z
      refine hQ _ (hf.sv (by unfold Pc0; omega)) ?_ (Or.inr ⟨by rw [us_1, if_pos ⟨rfl, rfl⟩], stay_all h3 hc.2.2.1 hl e⟩)
      obtain ⟨c1, c2, c3, c4, c5, c6⟩ := hc
      refine ⟨by rw [us_1, if_neg (by omega)]; exact c1, by rw [us_1, if_neg (by omega)]; exact c2, c3, c4, fun k hk => by rw [us_1, if_neg (by omega)]; exact c5 k hk, fun x hx => by rw [us_1, if_neg (by omega)]; exact c6 x hx⟩
    · refine hQ _ (hf.sv (by unfold Pc0; omega)) ?_ (Or.inl (by rw [us_1, if_pos ⟨rfl, rfl⟩]))
      obtain ⟨c1, c2, c3, c4, c5, c6⟩ := hc
      refine ⟨by rw [us_1, if_neg (by omega)]; exact c1, by rw [us_1, if_neg (by omega)]; exact c2, c3, c4, fun k hk => by rw [us_1, if_neg (by omega)]; exact c5 k hk, fun x hx => by rw [us_1, if_neg (by omega)]; exact c6 x hx⟩
/-- the crowd behind gs goes -/
def cH (a : ud_St) (t : TD) (c gs mk : Nat) (L : List Nat) : Prop := crS a (tS t) mk L ∧ (∀ y, y ∈ L ↔ cb t c gs y) ∧ (a.1 45 6 = 0 ∨ ∀ m, gs ≤ m → ∀ y, cb t c m y ↔ cb t c gs y)
theorem cb_s {t : TD} {c n y : Nat} : cb t c (n + 1) y ↔ ∃ z, cb t c n z ∧ tg t z = y := by
  unfold cb
  constructor
  · rintro ⟨x, q1, q2, e⟩
    exact ⟨itr (tg t) n x, ⟨x, q1, q2, rfl⟩, by rw [← e, itr_s]⟩
  · rintro ⟨z, ⟨x, q1, q2, e⟩, e2⟩
    exact ⟨x, q1, q2, by rw [itr_s, e, e2]⟩
theorem cb_lt {t : TD} {c n y : Nat} (hg : ∀ x, x < tS t → tg t x < tS t) (h : cb t c n y) : y < tS t := by
  obtain ⟨x, q1, -, e⟩ := h
  rw [← e]; exact itr_lt hg q1 n
theorem cb_still {t : TD} {c n : Nat} (h : ∀ y, cb t c (n + 1) y ↔ cb t c n y) : ∀ m, n ≤ m → ∀ y, cb t c m y ↔ cb t c n y := by
  intro m hm
  obtain ⟨d, rfl⟩ : ∃ d, m = n + d := ⟨m - n, by omega⟩
  clear hm
  induction d with
  | zero => intro y; exact Iff.rfl
  | succ d ih =>
    intro y
    rw [← Nat.add_assoc, cb_s, ← h y, cb_s]
    exact ⟨fun ⟨z, q, e⟩ => ⟨z, (ih z).mp q, e⟩, fun ⟨z, q, e⟩ => ⟨z, (ih z).mpr q, e⟩⟩
theorem crS_c {a a' : ud_St} {S mk : Nat} {L : List Nat} (h : crS a S mk L) (e : ∀ k j, k = 46 ∨ k = 47 ∨ (k = 45 ∧ (j = 2 ∨ j = 5)) → a'.1 k j = a.1 k j) : crS a' S mk L := by
  obtain ⟨h1, h2, h3, h4, h5, h6⟩ := h
  exact ⟨by rw [e _ _ (by omega)]; exact h1, by rw [e _ _ (by omega)]; exact h2, h3, h4, fun k hk => by rw [e _ _ (by omega)]; exact h5 k hk, fun x hx => by rw [e _ _ (by omega)]; exact h6 x hx⟩
def Pc1 (k j : Nat) : Prop := Pc0 k j ∨ (k = 45 ∧ j = 4)
theorem x_goOn {a : ud_St} {t : TD} {c gs n mk : Nat} {L : List Nat} {Q : ud_St → Prop} (hN : xN a (tg t) (tS t)) (hm : mk + 1000 < 2 ^ 31) (h : cH a t c gs mk L) (h4 : a.1 45 4 = nI gs) (hgs : gs ≤ n) (hn : n ≤ 200) (hQ : ∀ a' mk' L', fr Pc1 a a' → mk ≤ mk' → mk' ≤ mk + (n - gs) → cH a' t c n mk' L' → a'.1 45 4 = nI n → Q a') : w_Crowd_goOn a (nI n) Q := by
  unfold w_Crowd_goOn
  rw [h4]
  have fin : ∀ b mk' L', fr Pc1 a b → mk ≤ mk' → mk' ≤ mk + (n - gs) → cH b t c n mk' L' → Q (ud_sv b 45 4 (nI n)) := fun b mk' L' hf q1 q2 hc => hQ _ mk' L' (hf.sv (Or.inr ⟨rfl, rfl⟩)) q1 q2 ⟨crS_c hc.1 (fun k j q => by rw [us_1, if_neg (by omega)]), hc.2.1, by rw [us_1, if_neg (by omega)]; exact hc.2.2⟩ (by rw [us_1, if_pos ⟨rfl, rfl⟩])
  refine LW2.up (n - gs) (fun k x b => x = nI (gs + k) ∧ fr Pc1 a b ∧ ∃ mk' L', mk ≤ mk' ∧ mk' ≤ mk + k ∧ cH b t c (gs + k) mk' L') ⟨rfl, fr.rf, mk, L, Nat.le_refl _, Nat.le_refl _, h⟩ ?_ ?_
  · rintro k x b hk ⟨rfl, hf, mk', L', m1, m2, hc⟩ K hK
    have hN' := xN_c hN (a' := b) (fun k j _ _ => hf.1 k j (by unfold Pc1 Pc0; omega))
    refine ⟨fun z => absurd z (nI_ge (by omega) (by omega)), fun _ => ⟨fun z => ?_, fun z => ?_⟩⟩
    · refine x_goOnce hN' (by omega) hc.1 (fun b' hf' hc' hst => hK _ _ ⟨nI_1 _, hf.tr (hf'.mono (fun k j q => Or.inl q)), mk' + 1, gl (tg t) L', by omega, by omega, hc', ?_, ?_⟩)
      · intro y
        rw [gl_mem, ← Nat.add_assoc, cb_s]
        exact ⟨fun ⟨z, q, e⟩ => ⟨z, (hc.2.1 z).mp q, e⟩, fun ⟨z, q, e⟩ => ⟨z, (hc.2.1 z).mpr q, e⟩⟩
      · rcases hst with w | ⟨-, w⟩
        · exact Or.inl w
        · have st : ∀ y, cb t c (gs + k + 1) y ↔ cb t c (gs + k) y := fun y => by
            rw [← hc.2.1 y, ← w y, gl_mem, cb_s]
            exact ⟨fun ⟨z, q, e⟩ => ⟨z, (hc.2.1 z).mpr q, e⟩, fun ⟨z, q, e⟩ => ⟨z, (hc.2.1 z).mp q, e⟩⟩
          exact Or.inr (fun m hm' y => by rw [cb_still st m (by omega) y, ← Nat.add_assoc, st y])
    · rcases hc.2.2 with w | w
      · exact absurd w z
      · refine fin b mk' L' hf m1 (by omega) ⟨hc.1, fun y => (hc.2.1 y).trans (w n (by omega) y).symm, Or.inr (fun m hm' y => by rw [w m (by omega) y, w n (by omega) y])⟩
  · rintro x b ⟨rfl, hf, mk', L', m1, m2, hc⟩ K
    rw [show gs + (n - gs) = n by omega] at hc ⊢
    exact ⟨fun _ => fin b mk' L' hf m1 m2 hc, fun z => absurd (nI_le (Nat.le_refl _) (by omega)) z⟩
