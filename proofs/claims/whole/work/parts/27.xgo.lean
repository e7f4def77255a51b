/-! x's words -/
theorem x_done {a : ud_St} {b n s k now kept : Nat} {Q : Int32 → Prop} (h : xF a b n) (hg : xG a b n) (hx : now < b ^ n) (hk : kept < b ^ n) (hs : s ≤ 14) (hk2 : k ≤ 99) (hQ : Q (nI (wdo b n s k now kept))) : w_Figures_done a (nI s) (nI k) (nI now) (nI kept) Q := by
  obtain ⟨h1, h2, h3, hb, hb2, hn, hn2, hS⟩ := id h
  have hp : 0 < b ^ n := Nat.pow_pos (by omega)
  have hmul : now * k < 2 ^ 31 := by
    have : now * k ≤ 10000 * 99 := Nat.mul_le_mul (by omega) hk2
    omega
  obtain ⟨g1, g2, g3, g4, g5, g6, g7⟩ := hg now hx
  have at' : ∀ {c : Nat} {v : Int32}, a.1 c now = v → Q v → w_Cells_at a c 10000 (nI now) (fun r => Q r) := fun e q => ub_atn (by omega) (by omega) (by rw [e]; exact q)
  unfold w_Figures_done
  match s, hs, hQ with
  | 0, _, hQ =>
    exact ⟨fun _ => at' g1 hQ, fun q => absurd rfl q⟩
  | 1, _, hQ =>
    exact ⟨fun q => absurd q (by decide), fun _ => ⟨fun _ => at' g2 hQ, fun q => absurd rfl q⟩⟩
  | 2, _, hQ =>
    exact ⟨fun q => absurd q (by decide), fun _ => ⟨fun q => absurd q (by decide), fun _ => ⟨fun _ => at' g3 hQ, fun q => absurd rfl q⟩⟩⟩
  | 3, _, hQ =>
    exact ⟨fun q => absurd q (by decide), fun _ => ⟨fun q => absurd q (by decide), fun _ => ⟨fun q => absurd q (by decide), fun _ => ⟨fun _ => hQ, fun q => absurd rfl q⟩⟩⟩⟩
  | 4, _, hQ =>
    exact ⟨fun q => absurd q (by decide), fun _ => ⟨fun q => absurd q (by decide), fun _ => ⟨fun q => absurd q (by decide), fun _ => ⟨fun q => absurd q (by decide), fun _ => ⟨fun _ => hQ, fun q => absurd rfl q⟩⟩⟩⟩⟩
  | 5, _, hQ =>
    have m5 : Q (if 0 ≤ nI now - nI kept then nI now - nI kept else 0 - (nI now - nI kept)) := by
      have e : (if 0 ≤ nI now - nI kept then nI now - nI kept else 0 - (nI now - nI kept)) = nI ((now - kept) + (kept - now)) := by
        by_cases q : kept ≤ now
        · rw [ui_sub q, if_pos (nI_pos' (by omega)), show now - kept + (kept - now) = now - kept by omega]
        · have hneg : ¬ 0 ≤ nI now - nI kept := by
            intro z
            have z1 := Int32.le_iff_toInt_le.mp z
            rw [Int32.toInt_sub, nI_toInt (by omega), nI_toInt (by omega), Int.bmod_eq_of_le (by omega) (by omega)] at z1
            have : (0 : Int32).toInt = 0 := by decide
            omega
          rw [if_neg hneg, Int32.zero_sub, Int32.neg_sub, ui_sub (by omega), show now - kept + (kept - now) = kept - now by omega]
      rw [e]
      exact hQ
    exact ⟨fun q => absurd q (by decide), fun _ => ⟨fun q => absurd q (by decide), fun _ => ⟨fun q => absurd q (by decide), fun _ => ⟨fun q => absurd q (by decide), fun _ => ⟨fun q => absurd q (by decide), fun _ => ⟨fun _ => m5, fun q => absurd rfl q⟩⟩⟩⟩⟩⟩
  | 6, _, hQ =>
    exact ⟨fun q => absurd q (by decide), fun _ => ⟨fun q => absurd q (by decide), fun _ => ⟨fun q => absurd q (by decide), fun _ => ⟨fun q => absurd q (by decide), fun _ => ⟨fun q => absurd q (by decide), fun _ => ⟨fun q => absurd q (by decide), fun _ => ⟨fun _ => (by rw [nI_add, h3]; exact ub_over (by omega) hp (by omega) hQ), fun q => absurd rfl q⟩⟩⟩⟩⟩⟩⟩
  | 7, _, hQ =>
    exact ⟨fun q => absurd q (by decide), fun _ => ⟨fun q => absurd q (by decide), fun _ => ⟨fun q => absurd q (by decide), fun _ => ⟨fun q => absurd q (by decide), fun _ => ⟨fun q => absurd q (by decide), fun _ => ⟨fun q => absurd q (by decide), fun _ => ⟨fun q => absurd q (by decide), fun _ => ⟨fun _ => at' g4 hQ, fun q => absurd rfl q⟩⟩⟩⟩⟩⟩⟩⟩
  | 8, _, hQ =>
    exact ⟨fun q => absurd q (by decide), fun _ => ⟨fun q => absurd q (by decide), fun _ => ⟨fun q => absurd q (by decide), fun _ => ⟨fun q => absurd q (by decide), fun _ => ⟨fun q => absurd q (by decide), fun _ => ⟨fun q => absurd q (by decide), fun _ => ⟨fun q => absurd q (by decide), fun _ => ⟨fun q => absurd q (by decide), fun _ => ⟨fun _ => at' g5 hQ, fun q => absurd rfl q⟩⟩⟩⟩⟩⟩⟩⟩⟩
  | 9, _, hQ =>
    exact ⟨fun q => absurd q (by decide), fun _ => ⟨fun q => absurd q (by decide), fun _ => ⟨fun q => absurd q (by decide), fun _ => ⟨fun q => absurd q (by decide), fun _ => ⟨fun q => absurd q (by decide), fun _ => ⟨fun q => absurd q (by decide), fun _ => ⟨fun q => absurd q (by decide), fun _ => ⟨fun q => absurd q (by decide), fun _ => ⟨fun q => absurd q (by decide), fun _ => ⟨fun _ => at' g6 hQ, fun q => absurd rfl q⟩⟩⟩⟩⟩⟩⟩⟩⟩⟩
  | 10, _, hQ =>
    have m10 : ((nI now % 2 = 0 → Q (nI now / 2)) ∧ (¬ nI now % 2 = 0 → Q (nI now))) := by
      have e1 : nI now % 2 = nI (now % 2) := ui_mod (b := 2) (by omega) (by omega)
      have e2 : nI now / 2 = nI (now / 2) := ui_div (b := 2) (by omega) (by omega)
      rw [e1, e2]
      refine ⟨fun q => ?_, fun q => ?_⟩
      · have q' := (nI_eq (a := now % 2) (b := 0) (by omega) (by omega)).mp q
        have hQ2 : Q (nI (if now % 2 = 0 then now / 2 else now)) := hQ
        rw [if_pos q'] at hQ2
        exact hQ2
      · have q' : ¬ now % 2 = 0 := fun z => q (by rw [z]; rfl)
        have hQ2 : Q (nI (if now % 2 = 0 then now / 2 else now)) := hQ
        rw [if_neg q'] at hQ2
        exact hQ2
    exact ⟨fun q => absurd q (by decide), fun _ => ⟨fun q => absurd q (by decide), fun _ => ⟨fun q => absurd q (by decide), fun _ => ⟨fun q => absurd q (by decide), fun _ => ⟨fun q => absurd q (by decide), fun _ => ⟨fun q => absurd q (by decide), fun _ => ⟨fun q => absurd q (by decide), fun _ => ⟨fun q => absurd q (by decide), fun _ => ⟨fun q => absurd q (by decide), fun _ => ⟨fun q => absurd q (by decide), fun _ => ⟨fun _ => m10, fun q => absurd rfl q⟩⟩⟩⟩⟩⟩⟩⟩⟩⟩⟩
  | 11, _, hQ =>
    exact ⟨fun q => absurd q (by decide), fun _ => ⟨fun q => absurd q (by decide), fun _ => ⟨fun q => absurd q (by decide), fun _ => ⟨fun q => absurd q (by decide), fun _ => ⟨fun q => absurd q (by decide), fun _ => ⟨fun q => absurd q (by decide), fun _ => ⟨fun q => absurd q (by decide), fun _ => ⟨fun q => absurd q (by decide), fun _ => ⟨fun q => absurd q (by decide), fun _ => ⟨fun q => absurd q (by decide), fun _ => ⟨fun q => absurd q (by decide), fun _ => ⟨fun _ => at' g7 hQ, fun q => absurd rfl q⟩⟩⟩⟩⟩⟩⟩⟩⟩⟩⟩⟩
  | 12, _, hQ =>
    exact ⟨fun q => absurd q (by decide), fun _ => ⟨fun q => absurd q (by decide), fun _ => ⟨fun q => absurd q (by decide), fun _ => ⟨fun q => absurd q (by decide), fun _ => ⟨fun q => absurd q (by decide), fun _ => ⟨fun q => absurd q (by decide), fun _ => ⟨fun q => absurd q (by decide), fun _ => ⟨fun q => absurd q (by decide), fun _ => ⟨fun q => absurd q (by decide), fun _ => ⟨fun q => absurd q (by decide), fun _ => ⟨fun q => absurd q (by decide), fun _ => ⟨fun q => absurd q (by decide), fun _ => ⟨fun _ => (by rw [ui_mul, h3]; exact ub_over hmul hp (by omega) hQ), fun q => absurd rfl q⟩⟩⟩⟩⟩⟩⟩⟩⟩⟩⟩⟩⟩
  | 13, _, hQ =>
    exact ⟨fun q => absurd q (by decide), fun _ => ⟨fun q => absurd q (by decide), fun _ => ⟨fun q => absurd q (by decide), fun _ => ⟨fun q => absurd q (by decide), fun _ => ⟨fun q => absurd q (by decide), fun _ => ⟨fun q => absurd q (by decide), fun _ => ⟨fun q => absurd q (by decide), fun _ => ⟨fun q => absurd q (by decide), fun _ => ⟨fun q => absurd q (by decide), fun _ => ⟨fun q => absurd q (by decide), fun _ => ⟨fun q => absurd q (by decide), fun _ => ⟨fun q => absurd q (by decide), fun _ => ⟨fun q => absurd q (by decide), fun _ => ⟨fun _ => (by rw [nI_add, h3]; exact ub_over (by omega) hp (by omega) hQ), fun q => absurd rfl q⟩⟩⟩⟩⟩⟩⟩⟩⟩⟩⟩⟩⟩⟩
  | 14, _, hQ =>
    exact ⟨fun q => absurd q (by decide), fun _ => ⟨fun q => absurd q (by decide), fun _ => ⟨fun q => absurd q (by decide), fun _ => ⟨fun q => absurd q (by decide), fun _ => ⟨fun q => absurd q (by decide), fun _ => ⟨fun q => absurd q (by decide), fun _ => ⟨fun q => absurd q (by decide), fun _ => ⟨fun q => absurd q (by decide), fun _ => ⟨fun q => absurd q (by decide), fun _ => ⟨fun q => absurd q (by decide), fun _ => ⟨fun q => absurd q (by decide), fun _ => ⟨fun q => absurd q (by decide), fun _ => ⟨fun q => absurd q (by decide), fun _ => ⟨fun q => absurd q (by decide), fun _ => x_leaving h (by omega) (by omega) hQ⟩⟩⟩⟩⟩⟩⟩⟩⟩⟩⟩⟩⟩⟩
  | q + 15, hq, _ => exact absurd hq (by omega)
/-- a Words at cell k -/
def xW (a : ud_St) (k cnt : Nat) (ws wn : Nat → Nat) : Prop := cnt ≤ 12 ∧ a.1 k 2 = nI cnt ∧ ∀ i, i < cnt → a.1 (k + 1) i = nI (ws i) ∧ a.1 (k + 2) i = nI (wn i) ∧ ws i ≤ 14 ∧ wn i ≤ 99
theorem x_go {a : ud_St} {k b n cnt i x : Nat} {ws wn : Nat → Nat} {Q : Int32 → Prop} (h : xF a b n) (hg : xG a b n) (hw : xW a k cnt ws wn) (hx : x < b ^ n) (hi : i ≤ cnt) (hQ : Q (nI (gw b n ws wn x i).1)) : w_Words_go a k (nI x) (nI i) Q := by
  unfold w_Words_go
  obtain ⟨h1, h2, h3, hb, hb2, hn, hn2, hS⟩ := id h
  obtain ⟨hc, hcnt, hws⟩ := hw
  rw [hcnt]
  refine LW3.up i (fun t v kp j => v = nI (gw b n ws wn x t).1 ∧ kp = nI (gw b n ws wn x t).2 ∧ j = nI t) ⟨rfl, rfl, rfl⟩ ?_ ?_
  · rintro t v kp j ht ⟨rfl, rfl, rfl⟩ K hK
    obtain ⟨w1, w2, w3, w4⟩ := hws t (by omega)
    have hl := gw_lt (ws := ws) (wn := wn) hb hn hx t
    refine ⟨fun q => absurd q (nI_ge ht (by omega)), fun _ => ⟨fun q => absurd q (nI_ge (by omega) (by omega)), fun _ => ?_⟩⟩
    unfold w_Words_sort w_Words_number
    refine ub_atn (by omega) (by omega) (ub_atn (by omega) (by omega) ?_)
    rw [w1, w2]
    refine x_done h hg hl.1 hl.2 w3 w4 ⟨fun q => ?_, fun q => ?_⟩
    · have q' : ws t = 3 := (nI_eq (b := 3) (by omega) (by omega)).mp q
      exact hK _ _ _ ⟨rfl, by show _ = nI (if ws t = 3 then _ else _); rw [if_pos q'], nI_1 t⟩
    · have q' : ¬ ws t = 3 := fun z => q (by rw [z]; rfl)
      exact hK _ _ _ ⟨rfl, by show _ = nI (if ws t = 3 then _ else _); rw [if_neg q'], nI_1 t⟩
  · rintro v kp j ⟨rfl, rfl, rfl⟩ K
    exact ⟨fun _ => hQ, fun q => absurd (nI_le (Nat.le_refl i) (by omega)) q⟩
