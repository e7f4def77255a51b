set_option maxHeartbeats 8000000 in
set_option maxRecDepth 8000 in
theorem law_iter {J J' : Nat → ud_St → Prop} (hS : ud_Step J J') {D : va_G} {G : Nat → Nat} {z N b L k ss : Nat} {xs : Nat → Int32} {p : Program} {l : Launch} {e : Env} {s : State} {m : MethodId} {args : Array Value} {below : List Frame} {meth : Method} {c : Code} {Q : State → Prop} {a : ud_St} (C : ud_C D G z N p s m args meth c code 4 R_law ret) (hX : va_X b L xs s s.heap) (hbl : b < s.heap.size) (hbA : ¬ z ≤ b) (hz : s.heap.size = z) (hO1 : va_AO RX8 s) (hO2 : va_AO RX7 s) (hk : k + 6 ≤ L) (hL : L ≤ 3072) (hcs : N + 11 ≤ room_1.cells ∧ ss + 110 ≤ room_1.slots) (hJ : J N a) (kk : ∀ N' a' ss', J' N' a' → N ≤ N' → N' ≤ N + 11 → ss' ≤ ss + 110 → ud_X D G z N' p l e room_1 s m args below meth c 4 N' ss' Q a' 18 [(0, .ref b), (1, .ref (z + 0)), (2, .ref (z + 71)), (3, .int (nI (k + 6)))] []) : ud_X D G z N p l e room_1 s m args below meth c 4 N ss Q a 27 [(0, .ref b), (1, .ref (z + 0)), (2, .ref (z + 71)), (3, .int (nI k))] [] := by
  have hN : 92 ≤ N := (hS.1 N a hJ).1
  refine ux_aload_n C 0 rfl rfl dL_law_27 ?_
  refine ux_iload_n C 3 rfl rfl dL_law_28 ?_
  refine ux_sld C hX hbl hbA (vp_in_nI (by omega) (by omega)) dL_law_29 ?_
  refine ux_bipush C (v := 63) (by decide) dL_law_30 ?_
  refine ux_iand C dL_law_32 ?_
  have kk' : ∀ N' a' cs' ss', J' N' a' → cs' ≤ N + (N' - N) → N ≤ N' → ss' ≤ ss + 110 → N' ≤ N + 11 → ud_X D G z N' p l e room_1 s m args below meth c 4 cs' ss' Q a' 18 [(0, .ref b), (1, .ref (z + 0)), (2, .ref (z + 71)), (3, .int (nI (k + 6)))] [] := fun N' a' cs' ss' h1 h2 h3 h4 h5 H locs ls q1 q2 q3 => W.widen (by omega) (Nat.le_refl _) (kk N' a' ss' h1 h3 h5 h4 H locs ls q1 q2 q3)
  generalize hx : xs (nI k).toNatClampNeg &&& 63 = x
  by_cases hx0 : x = 0
  · refine ux_tableIn C (tgt := 232) (by rw [hx0]; decide) (by rw [hx0]; decide) (by rw [hx0]; rfl) (by decide) dL_law_33 ?_
    exact lc_feed (hS.2.1) C hX hbl hbA hN hk hL ⟨by omega, by omega⟩ hJ (fun N' a' cs' ss' h1 h2 h3 h4 => kk' N' a' cs' ss' h1 h2 h3.1 h4 h3.2)
  by_cases hx1 : x = 1
  · refine ux_tableIn C (tgt := 295) (by rw [hx1]; decide) (by rw [hx1]; decide) (by rw [hx1]; rfl) (by decide) dL_law_33 ?_
    exact lc_end (hS.2.2.1) C hX hbl hbA hN hk hL ⟨by omega, by omega⟩ hJ (fun N' a' cs' ss' h1 h2 h3 h4 => kk' N' a' cs' ss' h1 h2 h3.1 h4 h3.2)
  by_cases hx2 : x = 2
  · refine ux_tableIn C (tgt := 318) (by rw [hx2]; decide) (by rw [hx2]; decide) (by rw [hx2]; rfl) (by decide) dL_law_33 ?_
    exact lc_table (hS.2.2.2.1) C hX hbl hbA hN hk hL ⟨by omega, by omega⟩ hJ (fun N' a' cs' ss' h1 h2 h3 h4 => kk' N' a' cs' ss' h1 h2 h3.1 h4 h3.2)
  by_cases hx3 : x = 3
  · refine ux_tableIn C (tgt := 331) (by rw [hx3]; decide) (by rw [hx3]; decide) (by rw [hx3]; rfl) (by decide) dL_law_33 ?_
    exact lc_fault (hS.2.2.2.2.1) C hX hbl hbA hN hk hL ⟨by omega, by omega⟩ hJ (fun N' a' cs' ss' h1 h2 h3 h4 => kk' N' a' cs' ss' h1 h2 h3.1 h4 h3.2)
  by_cases hx4 : x = 4
  · refine ux_tableIn C (tgt := 354) (by rw [hx4]; decide) (by rw [hx4]; decide) (by rw [hx4]; rfl) (by decide) dL_law_33 ?_
    exact lc_word (hS.2.2.2.2.2.1) C hX hbl hbA hN hk hL ⟨by omega, by omega⟩ hJ (fun N' a' cs' ss' h1 h2 h3 h4 => kk' N' a' cs' ss' h1 h2 h3.1 h4 h3.2)
  by_cases hx5 : x = 5
  · refine ux_tableIn C (tgt := 387) (by rw [hx5]; decide) (by rw [hx5]; decide) (by rw [hx5]; rfl) (by decide) dL_law_33 ?_
    exact lc_turn (hS.2.2.2.2.2.2.1) C hX hbl hbA hN hk hL ⟨by omega, by omega⟩ hJ (fun N' a' cs' ss' h1 h2 h3 h4 => kk' N' a' cs' ss' h1 h2 h3.1 h4 h3.2)
  by_cases hx6 : x = 6
  · refine ux_tableIn C (tgt := 430) (by rw [hx6]; decide) (by rw [hx6]; decide) (by rw [hx6]; rfl) (by decide) dL_law_33 ?_
    exact lc_size (hS.2.2.2.2.2.2.2.1) C hX hbl hbA hN hk hL ⟨by omega, by omega⟩ hJ (fun N' a' cs' ss' h1 h2 h3 h4 => kk' N' a' cs' ss' h1 h2 h3.1 h4 h3.2)
  by_cases hx7 : x = 7
  · refine ux_tableIn C (tgt := 443) (by rw [hx7]; decide) (by rw [hx7]; decide) (by rw [hx7]; rfl) (by decide) dL_law_33 ?_
    exact lc_figure (hS.2.2.2.2.2.2.2.2.1) C hX hbl hbA hN hk hL ⟨by omega, by omega⟩ hJ (fun N' a' cs' ss' h1 h2 h3 h4 => kk' N' a' cs' ss' h1 h2 h3.1 h4 h3.2)
  by_cases hx8 : x = 8
  · refine ux_tableIn C (tgt := 476) (by rw [hx8]; decide) (by rw [hx8]; decide) (by rw [hx8]; rfl) (by decide) dL_law_33 ?_
    exact lc_next (hS.2.2.2.2.2.2.2.2.2.1) C hX hbl hbA hN hk hL ⟨by omega, by omega⟩ hJ (fun N' a' cs' ss' h1 h2 h3 h4 => kk' N' a' cs' ss' h1 h2 h3.1 h4 h3.2)
  by_cases hx9 : x = 9
  · refine ux_tableIn C (tgt := 499) (by rw [hx9]; decide) (by rw [hx9]; decide) (by rw [hx9]; rfl) (by decide) dL_law_33 ?_
    exact lc_through (hS.2.2.2.2.2.2.2.2.2.2.1) C hX hbl hbA hN hk hL ⟨by omega, by omega⟩ hJ (fun N' a' cs' ss' h1 h2 h3 h4 => kk' N' a' cs' ss' h1 h2 h3.1 h4 h3.2)
  by_cases hx10 : x = 10
  · refine ux_tableIn C (tgt := 532) (by rw [hx10]; decide) (by rw [hx10]; decide) (by rw [hx10]; rfl) (by decide) dL_law_33 ?_
    exact lc_after (hS.2.2.2.2.2.2.2.2.2.2.2.1) C hX hbl hbA hN hk hL ⟨by omega, by omega⟩ hJ (fun N' a' cs' ss' h1 h2 h3 h4 => kk' N' a' cs' ss' h1 h2 h3.1 h4 h3.2)
  by_cases hx11 : x = 11
  · refine ux_tableIn C (tgt := 565) (by rw [hx11]; decide) (by rw [hx11]; decide) (by rw [hx11]; rfl) (by decide) dL_law_33 ?_
    exact lc_ends (hS.2.2.2.2.2.2.2.2.2.2.2.2.1) C hX hbl hbA hN hk hL ⟨by omega, by omega⟩ hJ (fun N' a' cs' ss' h1 h2 h3 h4 => kk' N' a' cs' ss' h1 h2 h3.1 h4 h3.2)
  by_cases hx12 : x = 12
  · refine ux_tableIn C (tgt := 598) (by rw [hx12]; decide) (by rw [hx12]; decide) (by rw [hx12]; rfl) (by decide) dL_law_33 ?_
    exact lc_rounds (hS.2.2.2.2.2.2.2.2.2.2.2.2.2.1) C hX hbl hbA hN hk hL ⟨by omega, by omega⟩ hJ (fun N' a' cs' ss' h1 h2 h3 h4 => kk' N' a' cs' ss' h1 h2 h3.1 h4 h3.2)
  by_cases hx13 : x = 13
  · refine ux_tableIn C (tgt := 621) (by rw [hx13]; decide) (by rw [hx13]; decide) (by rw [hx13]; rfl) (by decide) dL_law_33 ?_
    exact lc_round (hS.2.2.2.2.2.2.2.2.2.2.2.2.2.2.1) C hX hbl hbA hN hk hL ⟨by omega, by omega⟩ hJ (fun N' a' cs' ss' h1 h2 h3 h4 => kk' N' a' cs' ss' h1 h2 h3.1 h4 h3.2)
  by_cases hx14 : x = 14
  · refine ux_tableIn C (tgt := 654) (by rw [hx14]; decide) (by rw [hx14]; decide) (by rw [hx14]; rfl) (by decide) dL_law_33 ?_
    exact lc_on (hS.2.2.2.2.2.2.2.2.2.2.2.2.2.2.2.1) C hX hbl hbA hN hk hL ⟨by omega, by omega⟩ hJ (fun N' a' cs' ss' h1 h2 h3 h4 => kk' N' a' cs' ss' h1 h2 h3.1 h4 h3.2)
  by_cases hx15 : x = 15
  · refine ux_tableIn C (tgt := 687) (by rw [hx15]; decide) (by rw [hx15]; decide) (by rw [hx15]; rfl) (by decide) dL_law_33 ?_
    exact lc_most (hS.2.2.2.2.2.2.2.2.2.2.2.2.2.2.2.2.1) C hX hbl hbA hN hk hL ⟨by omega, by omega⟩ hJ (fun N' a' cs' ss' h1 h2 h3 h4 => kk' N' a' cs' ss' h1 h2 h3.1 h4 h3.2)
  by_cases hx16 : x = 16
  · refine ux_tableIn C (tgt := 710) (by rw [hx16]; decide) (by rw [hx16]; decide) (by rw [hx16]; rfl) (by decide) dL_law_33 ?_
    exact lc_take (hS.2.2.2.2.2.2.2.2.2.2.2.2.2.2.2.2.2.1) C hX hbl hbA hN hk hL ⟨by omega, by omega⟩ hJ (fun N' a' cs' ss' h1 h2 h3 h4 => kk' N' a' cs' ss' h1 h2 h3.1 h4 h3.2)
  by_cases hx17 : x = 17
  · refine ux_tableIn C (tgt := 733) (by rw [hx17]; decide) (by rw [hx17]; decide) (by rw [hx17]; rfl) (by decide) dL_law_33 ?_
    exact lc_gardens (hS.2.2.2.2.2.2.2.2.2.2.2.2.2.2.2.2.2.2.1) C hX hbl hbA hN hk hL ⟨by omega, by omega⟩ hJ (fun N' a' cs' ss' h1 h2 h3 h4 => kk' N' a' cs' ss' h1 h2 h3.1 h4 h3.2)
  by_cases hx18 : x = 18
  · refine ux_tableIn C (tgt := 746) (by rw [hx18]; decide) (by rw [hx18]; decide) (by rw [hx18]; rfl) (by decide) dL_law_33 ?_
    exact lc_garden (hS.2.2.2.2.2.2.2.2.2.2.2.2.2.2.2.2.2.2.2.1) C hX hbl hbA hN hk hL ⟨by omega, by omega⟩ hJ (fun N' a' cs' ss' h1 h2 h3 h4 => kk' N' a' cs' ss' h1 h2 h3.1 h4 h3.2)
  by_cases hx19 : x = 19
  · refine ux_tableIn C (tgt := 769) (by rw [hx19]; decide) (by rw [hx19]; decide) (by rw [hx19]; rfl) (by decide) dL_law_33 ?_
    exact lc_from (hS.2.2.2.2.2.2.2.2.2.2.2.2.2.2.2.2.2.2.2.2.1) C hX hbl hbA hN hk hL ⟨by omega, by omega⟩ hJ (fun N' a' cs' ss' h1 h2 h3 h4 => kk' N' a' cs' ss' h1 h2 h3.1 h4 h3.2)
  by_cases hx20 : x = 20
  · refine ux_tableIn C (tgt := 802) (by rw [hx20]; decide) (by rw [hx20]; decide) (by rw [hx20]; rfl) (by decide) dL_law_33 ?_
    exact lc_back (hS.2.2.2.2.2.2.2.2.2.2.2.2.2.2.2.2.2.2.2.2.2.1) C hX hbl hbA hN hk hL ⟨by omega, by omega⟩ hJ (fun N' a' cs' ss' h1 h2 h3 h4 => kk' N' a' cs' ss' h1 h2 h3.1 h4 h3.2)
  by_cases hx21 : x = 21
  · refine ux_tableIn C (tgt := 835) (by rw [hx21]; decide) (by rw [hx21]; decide) (by rw [hx21]; rfl) (by decide) dL_law_33 ?_
    exact lc_meet (hS.2.2.2.2.2.2.2.2.2.2.2.2.2.2.2.2.2.2.2.2.2.2.1) C hX hbl hbA hN hk hL ⟨by omega, by omega⟩ hJ (fun N' a' cs' ss' h1 h2 h3 h4 => kk' N' a' cs' ss' h1 h2 h3.1 h4 h3.2)
  by_cases hx22 : x = 22
  · refine ux_tableIn C (tgt := 868) (by rw [hx22]; decide) (by rw [hx22]; decide) (by rw [hx22]; rfl) (by decide) dL_law_33 ?_
    exact lc_join (hS.2.2.2.2.2.2.2.2.2.2.2.2.2.2.2.2.2.2.2.2.2.2.2.1) C hX hbl hbA hN hk hL ⟨by omega, by omega⟩ hJ (fun N' a' cs' ss' h1 h2 h3 h4 => kk' N' a' cs' ss' h1 h2 h3.1 h4 h3.2)
  by_cases hx23 : x = 23
  · refine ux_tableIn C (tgt := 911) (by rw [hx23]; decide) (by rw [hx23]; decide) (by rw [hx23]; rfl) (by decide) dL_law_33 ?_
    exact lc_kinds (hS.2.2.2.2.2.2.2.2.2.2.2.2.2.2.2.2.2.2.2.2.2.2.2.2.1) C hX hbl hbA hN hk hL ⟨by omega, by omega⟩ hJ (fun N' a' cs' ss' h1 h2 h3 h4 => kk' N' a' cs' ss' h1 h2 h3.1 h4 h3.2)
  by_cases hx24 : x = 24
  · refine ux_tableIn C (tgt := 924) (by rw [hx24]; decide) (by rw [hx24]; decide) (by rw [hx24]; rfl) (by decide) dL_law_33 ?_
    exact lc_kind (hS.2.2.2.2.2.2.2.2.2.2.2.2.2.2.2.2.2.2.2.2.2.2.2.2.2.1) C hX hbl hbA hN hk hL ⟨by omega, by omega⟩ hJ (fun N' a' cs' ss' h1 h2 h3 h4 => kk' N' a' cs' ss' h1 h2 h3.1 h4 h3.2)
  by_cases hx25 : x = 25
  · refine ux_tableIn C (tgt := 957) (by rw [hx25]; decide) (by rw [hx25]; decide) (by rw [hx25]; rfl) (by decide) dL_law_33 ?_
    exact lc_odd (hS.2.2.2.2.2.2.2.2.2.2.2.2.2.2.2.2.2.2.2.2.2.2.2.2.2.2.1) C hX hbl hbA hN hk hL ⟨by omega, by omega⟩ hJ (fun N' a' cs' ss' h1 h2 h3 h4 => kk' N' a' cs' ss' h1 h2 h3.1 h4 h3.2)
  by_cases hx26 : x = 26
  · refine ux_tableIn C (tgt := 970) (by rw [hx26]; decide) (by rw [hx26]; decide) (by rw [hx26]; rfl) (by decide) dL_law_33 ?_
    exact lc_sure (hS.2.2.2.2.2.2.2.2.2.2.2.2.2.2.2.2.2.2.2.2.2.2.2.2.2.2.2.1) C hX hbl hbA hN hk hL ⟨by omega, by omega⟩ hJ (fun N' a' cs' ss' h1 h2 h3 h4 => kk' N' a' cs' ss' h1 h2 h3.1 h4 h3.2)
  by_cases hx27 : x = 27
  · refine ux_tableIn C (tgt := 1013) (by rw [hx27]; decide) (by rw [hx27]; decide) (by rw [hx27]; rfl) (by decide) dL_law_33 ?_
    exact lc_fewest (hS.2.2.2.2.2.2.2.2.2.2.2.2.2.2.2.2.2.2.2.2.2.2.2.2.2.2.2.2.1) C hX hbl hbA hN hk hL ⟨by omega, by omega⟩ hJ (fun N' a' cs' ss' h1 h2 h3 h4 => kk' N' a' cs' ss' h1 h2 h3.1 h4 h3.2)
  by_cases hx28 : x = 28
  · refine ux_tableIn C (tgt := 1046) (by rw [hx28]; decide) (by rw [hx28]; decide) (by rw [hx28]; rfl) (by decide) dL_law_33 ?_
    exact lc_left (hS.2.2.2.2.2.2.2.2.2.2.2.2.2.2.2.2.2.2.2.2.2.2.2.2.2.2.2.2.2.1) C hX hbl hbA hN hk hL ⟨by omega, by omega⟩ hJ (fun N' a' cs' ss' h1 h2 h3 h4 => kk' N' a' cs' ss' h1 h2 h3.1 h4 h3.2)
  by_cases hx29 : x = 29
  · refine ux_tableIn C (tgt := 1079) (by rw [hx29]; decide) (by rw [hx29]; decide) (by rw [hx29]; rfl) (by decide) dL_law_33 ?_
    exact lc_rest (hS.2.2.2.2.2.2.2.2.2.2.2.2.2.2.2.2.2.2.2.2.2.2.2.2.2.2.2.2.2.2.1) C hX hbl hbA hN hk hL ⟨by omega, by omega⟩ hJ (fun N' a' cs' ss' h1 h2 h3 h4 => kk' N' a' cs' ss' h1 h2 h3.1 h4 h3.2)
  by_cases hx30 : x = 30
  · refine ux_tableIn C (tgt := 1112) (by rw [hx30]; decide) (by rw [hx30]; decide) (by rw [hx30]; rfl) (by decide) dL_law_33 ?_
    exact lc_out (hS.2.2.2.2.2.2.2.2.2.2.2.2.2.2.2.2.2.2.2.2.2.2.2.2.2.2.2.2.2.2.2.1) C hX hbl hbA hN hk hL ⟨by omega, by omega⟩ hJ (fun N' a' cs' ss' h1 h2 h3 h4 => kk' N' a' cs' ss' h1 h2 h3.1 h4 h3.2)
  by_cases hx31 : x = 31
  · refine ux_tableIn C (tgt := 1155) (by rw [hx31]; decide) (by rw [hx31]; decide) (by rw [hx31]; rfl) (by decide) dL_law_33 ?_
    exact lc_slip (hS.2.2.2.2.2.2.2.2.2.2.2.2.2.2.2.2.2.2.2.2.2.2.2.2.2.2.2.2.2.2.2.2.1) C hX hbl hbA hN hk hL ⟨by omega, by omega⟩ hJ (fun N' a' cs' ss' h1 h2 h3 h4 => kk' N' a' cs' ss' h1 h2 h3.1 h4 h3.2)
  by_cases hx32 : x = 32
  · refine ux_tableIn C (tgt := 1198) (by rw [hx32]; decide) (by rw [hx32]; decide) (by rw [hx32]; rfl) (by decide) dL_law_33 ?_
    exact lc_fits (hS.2.2.2.2.2.2.2.2.2.2.2.2.2.2.2.2.2.2.2.2.2.2.2.2.2.2.2.2.2.2.2.2.2.1) C hX hbl hbA hN hk hL ⟨by omega, by omega⟩ hJ (fun N' a' cs' ss' h1 h2 h3 h4 => kk' N' a' cs' ss' h1 h2 h3.1 h4 h3.2)
  by_cases hx33 : x = 33
  · refine ux_tableIn C (tgt := 1231) (by rw [hx33]; decide) (by rw [hx33]; decide) (by rw [hx33]; rfl) (by decide) dL_law_33 ?_
    exact lc_which (hS.2.2.2.2.2.2.2.2.2.2.2.2.2.2.2.2.2.2.2.2.2.2.2.2.2.2.2.2.2.2.2.2.2.2.1) C hX hbl hbA hN hk hL ⟨by omega, by omega⟩ hJ (fun N' a' cs' ss' h1 h2 h3 h4 => kk' N' a' cs' ss' h1 h2 h3.1 h4 h3.2)
  by_cases hx34 : x = 34
  · refine ux_tableIn C (tgt := 1264) (by rw [hx34]; decide) (by rw [hx34]; decide) (by rw [hx34]; rfl) (by decide) dL_law_33 ?_
    exact lc_find (hS.2.2.2.2.2.2.2.2.2.2.2.2.2.2.2.2.2.2.2.2.2.2.2.2.2.2.2.2.2.2.2.2.2.2.2.1) C hX hbl hbA hN hk hL ⟨by omega, by omega⟩ hJ (fun N' a' cs' ss' h1 h2 h3 h4 => kk' N' a' cs' ss' h1 h2 h3.1 h4 h3.2)
  by_cases hx35 : x = 35
  · refine ux_tableIn C (tgt := 1297) (by rw [hx35]; decide) (by rw [hx35]; decide) (by rw [hx35]; rfl) (by decide) dL_law_33 ?_
    exact lc_found (hS.2.2.2.2.2.2.2.2.2.2.2.2.2.2.2.2.2.2.2.2.2.2.2.2.2.2.2.2.2.2.2.2.2.2.2.2.1) C hX hbl hbA hN hk hL ⟨by omega, by omega⟩ hJ (fun N' a' cs' ss' h1 h2 h3 h4 => kk' N' a' cs' ss' h1 h2 h3.1 h4 h3.2)
  by_cases hx36 : x = 36
  · refine ux_tableIn C (tgt := 1340) (by rw [hx36]; decide) (by rw [hx36]; decide) (by rw [hx36]; rfl) (by decide) dL_law_33 ?_
    exact lc_best (hS.2.2.2.2.2.2.2.2.2.2.2.2.2.2.2.2.2.2.2.2.2.2.2.2.2.2.2.2.2.2.2.2.2.2.2.2.2.1) C hX hbl hbA hN hk hL ⟨by omega, by omega⟩ hJ (fun N' a' cs' ss' h1 h2 h3 h4 => kk' N' a' cs' ss' h1 h2 h3.1 h4 h3.2)
  by_cases hx37 : x = 37
  · refine ux_tableIn C (tgt := 1373) (by rw [hx37]; decide) (by rw [hx37]; decide) (by rw [hx37]; rfl) (by decide) dL_law_33 ?_
    exact lc_evening (hS.2.2.2.2.2.2.2.2.2.2.2.2.2.2.2.2.2.2.2.2.2.2.2.2.2.2.2.2.2.2.2.2.2.2.2.2.2.2.1) C hX hbl hbA hN hk hL ⟨by omega, by omega⟩ hJ (fun N' a' cs' ss' h1 h2 h3 h4 => kk' N' a' cs' ss' h1 h2 h3.1 h4 h3.2)
  by_cases hx38 : x = 38
  · refine ux_tableIn C (tgt := 1416) (by rw [hx38]; decide) (by rw [hx38]; decide) (by rw [hx38]; rfl) (by decide) dL_law_33 ?_
    exact lc_judge (hS.2.2.2.2.2.2.2.2.2.2.2.2.2.2.2.2.2.2.2.2.2.2.2.2.2.2.2.2.2.2.2.2.2.2.2.2.2.2.2.1) C hX hbl hbA hN hk hL ⟨by omega, by omega⟩ hJ (fun N' a' cs' ss' h1 h2 h3 h4 => kk' N' a' cs' ss' h1 h2 h3.1 h4 h3.2)
  by_cases hx39 : x = 39
  · refine ux_tableIn C (tgt := 1439) (by rw [hx39]; decide) (by rw [hx39]; decide) (by rw [hx39]; rfl) (by decide) dL_law_33 ?_
    exact lc_count (hS.2.2.2.2.2.2.2.2.2.2.2.2.2.2.2.2.2.2.2.2.2.2.2.2.2.2.2.2.2.2.2.2.2.2.2.2.2.2.2.2.1) C hX hbl hbA hN hk hL ⟨by omega, by omega⟩ hJ (fun N' a' cs' ss' h1 h2 h3 h4 => kk' N' a' cs' ss' h1 h2 h3.1 h4 h3.2)
  by_cases hx40 : x = 40
  · refine ux_tableIn C (tgt := 1462) (by rw [hx40]; decide) (by rw [hx40]; decide) (by rw [hx40]; rfl) (by decide) dL_law_33 ?_
    exact lc_told (hS.2.2.2.2.2.2.2.2.2.2.2.2.2.2.2.2.2.2.2.2.2.2.2.2.2.2.2.2.2.2.2.2.2.2.2.2.2.2.2.2.2.1) C hX hbl hbA hN hk hL ⟨by omega, by omega⟩ hJ (fun N' a' cs' ss' h1 h2 h3 h4 => kk' N' a' cs' ss' h1 h2 h3.1 h4 h3.2)
  by_cases hx41 : x = 41
  · refine ux_tableIn C (tgt := 1485) (by rw [hx41]; decide) (by rw [hx41]; decide) (by rw [hx41]; rfl) (by decide) dL_law_33 ?_
    exact lc_keep (hS.2.2.2.2.2.2.2.2.2.2.2.2.2.2.2.2.2.2.2.2.2.2.2.2.2.2.2.2.2.2.2.2.2.2.2.2.2.2.2.2.2.2.2.1) (hS.2.2.2.2.2.2.2.2.2.2.2.2.2.2.2.2.2.2.2.2.2.2.2.2.2.2.2.2.2.2.2.2.2.2.2.2.2.2.2.2.2.2.1) C hX hbl hbA hN hk hL hcs hz hO1 hO2 hJ (fun N' a' cs' ss' h1 h2 h3 h4 => by rw [h2]; exact kk N' a' ss' h1 h3.1 h3.2 h4)
  by_cases hx42 : x = 42
  · refine ux_tableIn C (tgt := 1508) (by rw [hx42]; decide) (by rw [hx42]; decide) (by rw [hx42]; rfl) (by decide) dL_law_33 ?_
    exact lc_restore (hS.2.2.2.2.2.2.2.2.2.2.2.2.2.2.2.2.2.2.2.2.2.2.2.2.2.2.2.2.2.2.2.2.2.2.2.2.2.2.2.2.2.2.2.2.1) C hX hbl hbA hN hk hL ⟨by omega, by omega⟩ hJ (fun N' a' cs' ss' h1 h2 h3 h4 => kk' N' a' cs' ss' h1 h2 h3.1 h4 h3.2)
  by_cases hx43 : x = 43
  · refine ux_tableIn C (tgt := 1531) (by rw [hx43]; decide) (by rw [hx43]; decide) (by rw [hx43]; rfl) (by decide) dL_law_33 ?_
    exact lc_row (hS.2.2.2.2.2.2.2.2.2.2.2.2.2.2.2.2.2.2.2.2.2.2.2.2.2.2.2.2.2.2.2.2.2.2.2.2.2.2.2.2.2.2.2.2.2.1) C hX hbl hbA hN hk hL ⟨by omega, by omega⟩ hJ (fun N' a' cs' ss' h1 h2 h3 h4 => kk' N' a' cs' ss' h1 h2 h3.1 h4 h3.2)
  by_cases hx44 : x = 44
  · refine ux_tableIn C (tgt := 1574) (by rw [hx44]; decide) (by rw [hx44]; decide) (by rw [hx44]; rfl) (by decide) dL_law_33 ?_
    exact lc_write (hS.2.2.2.2.2.2.2.2.2.2.2.2.2.2.2.2.2.2.2.2.2.2.2.2.2.2.2.2.2.2.2.2.2.2.2.2.2.2.2.2.2.2.2.2.2.2.1) C hX hbl hbA hN hk hL ⟨by omega, by omega⟩ hJ (fun N' a' cs' ss' h1 h2 h3 h4 => kk' N' a' cs' ss' h1 h2 h3.1 h4 h3.2)
  by_cases hx45 : x = 45
  · refine ux_tableIn C (tgt := 1647) (by rw [hx45]; decide) (by rw [hx45]; decide) (by rw [hx45]; rfl) (by decide) dL_law_33 ?_
    exact lc_paste (hS.2.2.2.2.2.2.2.2.2.2.2.2.2.2.2.2.2.2.2.2.2.2.2.2.2.2.2.2.2.2.2.2.2.2.2.2.2.2.2.2.2.2.2.2.2.2.2) C hX hbl hbA hN hk hL ⟨by omega, by omega⟩ hJ (fun N' a' cs' ss' h1 h2 h3 h4 => kk' N' a' cs' ss' h1 h2 h3.1 h4 h3.2)
  have hi0 : Int32.toInt x ≠ 0 := fun q => hx0 (Int32.toInt_inj.mp (q.trans (by decide)))
  have hi1 : Int32.toInt x ≠ 1 := fun q => hx1 (Int32.toInt_inj.mp (q.trans (by decide)))
  have hi2 : Int32.toInt x ≠ 2 := fun q => hx2 (Int32.toInt_inj.mp (q.trans (by decide)))
  have hi3 : Int32.toInt x ≠ 3 := fun q => hx3 (Int32.toInt_inj.mp (q.trans (by decide)))
  have hi4 : Int32.toInt x ≠ 4 := fun q => hx4 (Int32.toInt_inj.mp (q.trans (by decide)))
  have hi5 : Int32.toInt x ≠ 5 := fun q => hx5 (Int32.toInt_inj.mp (q.trans (by decide)))
  have hi6 : Int32.toInt x ≠ 6 := fun q => hx6 (Int32.toInt_inj.mp (q.trans (by decide)))
  have hi7 : Int32.toInt x ≠ 7 := fun q => hx7 (Int32.toInt_inj.mp (q.trans (by decide)))
  have hi8 : Int32.toInt x ≠ 8 := fun q => hx8 (Int32.toInt_inj.mp (q.trans (by decide)))
  have hi9 : Int32.toInt x ≠ 9 := fun q => hx9 (Int32.toInt_inj.mp (q.trans (by decide)))
  have hi10 : Int32.toInt x ≠ 10 := fun q => hx10 (Int32.toInt_inj.mp (q.trans (by decide)))
  have hi11 : Int32.toInt x ≠ 11 := fun q => hx11 (Int32.toInt_inj.mp (q.trans (by decide)))
  have hi12 : Int32.toInt x ≠ 12 := fun q => hx12 (Int32.toInt_inj.mp (q.trans (by decide)))
  have hi13 : Int32.toInt x ≠ 13 := fun q => hx13 (Int32.toInt_inj.mp (q.trans (by decide)))
  have hi14 : Int32.toInt x ≠ 14 := fun q => hx14 (Int32.toInt_inj.mp (q.trans (by decide)))
  have hi15 : Int32.toInt x ≠ 15 := fun q => hx15 (Int32.toInt_inj.mp (q.trans (by decide)))
  have hi16 : Int32.toInt x ≠ 16 := fun q => hx16 (Int32.toInt_inj.mp (q.trans (by decide)))
  have hi17 : Int32.toInt x ≠ 17 := fun q => hx17 (Int32.toInt_inj.mp (q.trans (by decide)))
  have hi18 : Int32.toInt x ≠ 18 := fun q => hx18 (Int32.toInt_inj.mp (q.trans (by decide)))
  have hi19 : Int32.toInt x ≠ 19 := fun q => hx19 (Int32.toInt_inj.mp (q.trans (by decide)))
  have hi20 : Int32.toInt x ≠ 20 := fun q => hx20 (Int32.toInt_inj.mp (q.trans (by decide)))
  have hi21 : Int32.toInt x ≠ 21 := fun q => hx21 (Int32.toInt_inj.mp (q.trans (by decide)))
  have hi22 : Int32.toInt x ≠ 22 := fun q => hx22 (Int32.toInt_inj.mp (q.trans (by decide)))
  have hi23 : Int32.toInt x ≠ 23 := fun q => hx23 (Int32.toInt_inj.mp (q.trans (by decide)))
  have hi24 : Int32.toInt x ≠ 24 := fun q => hx24 (Int32.toInt_inj.mp (q.trans (by decide)))
  have hi25 : Int32.toInt x ≠ 25 := fun q => hx25 (Int32.toInt_inj.mp (q.trans (by decide)))
  have hi26 : Int32.toInt x ≠ 26 := fun q => hx26 (Int32.toInt_inj.mp (q.trans (by decide)))
  have hi27 : Int32.toInt x ≠ 27 := fun q => hx27 (Int32.toInt_inj.mp (q.trans (by decide)))
  have hi28 : Int32.toInt x ≠ 28 := fun q => hx28 (Int32.toInt_inj.mp (q.trans (by decide)))
  have hi29 : Int32.toInt x ≠ 29 := fun q => hx29 (Int32.toInt_inj.mp (q.trans (by decide)))
  have hi30 : Int32.toInt x ≠ 30 := fun q => hx30 (Int32.toInt_inj.mp (q.trans (by decide)))
  have hi31 : Int32.toInt x ≠ 31 := fun q => hx31 (Int32.toInt_inj.mp (q.trans (by decide)))
  have hi32 : Int32.toInt x ≠ 32 := fun q => hx32 (Int32.toInt_inj.mp (q.trans (by decide)))
  have hi33 : Int32.toInt x ≠ 33 := fun q => hx33 (Int32.toInt_inj.mp (q.trans (by decide)))
  have hi34 : Int32.toInt x ≠ 34 := fun q => hx34 (Int32.toInt_inj.mp (q.trans (by decide)))
  have hi35 : Int32.toInt x ≠ 35 := fun q => hx35 (Int32.toInt_inj.mp (q.trans (by decide)))
  have hi36 : Int32.toInt x ≠ 36 := fun q => hx36 (Int32.toInt_inj.mp (q.trans (by decide)))
  have hi37 : Int32.toInt x ≠ 37 := fun q => hx37 (Int32.toInt_inj.mp (q.trans (by decide)))
  have hi38 : Int32.toInt x ≠ 38 := fun q => hx38 (Int32.toInt_inj.mp (q.trans (by decide)))
  have hi39 : Int32.toInt x ≠ 39 := fun q => hx39 (Int32.toInt_inj.mp (q.trans (by decide)))
  have hi40 : Int32.toInt x ≠ 40 := fun q => hx40 (Int32.toInt_inj.mp (q.trans (by decide)))
  have hi41 : Int32.toInt x ≠ 41 := fun q => hx41 (Int32.toInt_inj.mp (q.trans (by decide)))
  have hi42 : Int32.toInt x ≠ 42 := fun q => hx42 (Int32.toInt_inj.mp (q.trans (by decide)))
  have hi43 : Int32.toInt x ≠ 43 := fun q => hx43 (Int32.toInt_inj.mp (q.trans (by decide)))
  have hi44 : Int32.toInt x ≠ 44 := fun q => hx44 (Int32.toInt_inj.mp (q.trans (by decide)))
  have hi45 : Int32.toInt x ≠ 45 := fun q => hx45 (Int32.toInt_inj.mp (q.trans (by decide)))
  refine ux_tableOut C (tgt := 1710) (by omega) (by decide) dL_law_33 ?_
  refine ux_iinc (v := nI (k + 6)) C 3 rfl (ud_i6 k) (by decide) rfl dL_law_1710 ?_
  refine ux_goto C (tgt := 18) (by decide) dL_law_1713 ?_
  refine ux_pick [1, 2, 3, 0] rfl ?_
  exact kk N a ss (hS.1 N a hJ).2 (by omega) (by omega) (by omega)
theorem ud_gt6 {L k : Nat} (hL : L ≤ 3072) (hk : k ≤ 4000) (h : ¬ nI L - 6 < nI k) : k + 6 ≤ L := by
  have h2 : (nI k).toInt ≤ (nI L - 6).toInt := by
    have := Int32.le_iff_toInt_le.mp (Int32.not_lt.mp h)
    exact this
  rw [nI_toInt (by omega), Int32.toInt_sub, nI_toInt (by omega)] at h2
  have h6 : (6 : Int32).toInt = 6 := by decide
  rw [h6, Int.bmod_eq_of_le (by omega) (by omega)] at h2
  omega
set_option maxHeartbeats 4000000 in
theorem law_loop {J : Nat → Nat → ud_St → Prop} (hS : ud_Steps J) {D : va_G} {G : Nat → Nat} {z b L : Nat} {xs : Nat → Int32} {p : Program} {l : Launch} {e : Env} {s : State} {m : MethodId} {below : List Frame} {meth : Method} {c : Code} (hX : va_X b L xs s s.heap) (hbl : b < s.heap.size) (hbA : ¬ z ≤ b) (hz : s.heap.size = z) (hO1 : va_AO RX8 s) (hO2 : va_AO RX7 s) (hL : L ≤ 3072) : ∀ (n k N ss : Nat) (a : ud_St), L + 7 < k + n → k ≤ L + 6 → N ≤ 92 + 11 * k → ss ≤ 250000 + 110 * k → ud_C D G z N p s m #[.ref b] meth c code 4 R_law ret → J (k / 6) N a → ud_X D G z N p l e room_1 s m #[.ref b] below meth c 4 N ss (lw_Z below #[.ref b] s) a 18 [(0, .ref b), (1, .ref (z + 0)), (2, .ref (z + 71)), (3, .int (nI k))] [] := by
  intro n
  induction n with
  | zero => intro k N ss a h1 h2; omega
  | succ n ih =>
    intro k N ss a h1 h2 h3 h4 C hJ
    refine ux_iload_n C 3 rfl rfl dL_law_18 ?_
    refine ux_aload_n C 0 rfl rfl dL_law_19 ?_
    refine ux_slen C hX hbl hbA dL_law_20 ?_
    refine ux_bipush C (v := 6) (by decide) dL_law_21 ?_
    refine ux_isub C dL_law_23 ?_
    refine ux_icmp_gt C (tgt := 1716) (by decide) dL_law_24 (fun _ => ?_) (fun h => ?_)
    · refine ux_iconst C (v := 1) (by decide) dL_law_1716 ?_
      intro H locs ls q1 q2 q3
      refine W.widen (k := 600000) (n := 7302250) (by omega) (by omega) (va_forget (fun q hq => by have := q2.2.2 q hq; omega) ?_)
      exact lw_ret C.1.1 C.1.2.1 C.2.2.2.1 C.2.2.2.2.1 dL_law_1717
    · have hk6 := ud_gt6 hL (by omega) h
      refine law_iter (hS (k / 6) (by omega)) C hX hbl hbA hz hO1 hO2 hk6 hL ⟨by show N + 11 ≤ 600000; omega, by show ss + 110 ≤ 7302250; omega⟩ hJ (fun N' a' ss' g1 g2 g3 g4 => ?_)
      exact ih (k + 6) N' ss' a' (by omega) (by omega) (by omega) (by omega) ⟨C.1, C.2.1, C.2.2.1, C.2.2.2.1, C.2.2.2.2.1, Nat.le_trans C.2.2.2.2.2 g2⟩ (by rw [show (k + 6) / 6 = k / 6 + 1 by omega]; exact g1)
