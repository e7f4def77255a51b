/-! from the entry to the loop -/
def ud_E1 (G : Nat → Nat) (z : Nat) : List va_E := [.inr (10, [.ref (z + 1), .ref (z + 3), .ref (z + 4), .ref (z + 15), .ref (z + 26), .ref (z + 36), .ref (z + 45), .ref (z + 48), .ref (z + 56), .ref (z + 59), .ref (z + 61), .ref (z + 70)]), .inr (8, [.ref (z + 2), .int 0]), .inl (G 0, 800, .inl (fun _ => 0)), .inr (5, [.ref (z + 1), .int 0, .int 0, .int 0, .int 0, .int 0, .int 0, .int (-1)]), .inr (7, [.int 0, .int 0, .int 0, .int 0, .ref (z + 5), .ref (z + 8), .ref (z + 11), .ref (z + 14), .int 0]), .inr (9, [.ref (z + 6), .ref (z + 7), .int 0]), .inl (G 0, 12, .inl (fun _ => 0)), .inl (G 0, 12, .inl (fun _ => 0)), .inr (9, [.ref (z + 9), .ref (z + 10), .int 0]), .inl (G 0, 12, .inl (fun _ => 0)), .inl (G 0, 12, .inl (fun _ => 0)), .inr (9, [.ref (z + 12), .ref (z + 13), .int 0]), .inl (G 0, 12, .inl (fun _ => 0)), .inl (G 0, 12, .inl (fun _ => 0)), .inl (G 0, 20, .inl (fun _ => 0)), .inr (7, [.int 0, .int 0, .int 0, .int 0, .ref (z + 16), .ref (z + 19), .ref (z + 22), .ref (z + 25), .int 0]), .inr (9, [.ref (z + 17), .ref (z + 18), .int 0]), .inl (G 0, 12, .inl (fun _ => 0)), .inl (G 0, 12, .inl (fun _ => 0)), .inr (9, [.ref (z + 20), .ref (z + 21), .int 0]), .inl (G 0, 12, .inl (fun _ => 0)), .inl (G 0, 12, .inl (fun _ => 0)), .inr (9, [.ref (z + 23), .ref (z + 24), .int 0]), .inl (G 0, 12, .inl (fun _ => 0)), .inl (G 0, 12, .inl (fun _ => 0)), .inl (G 0, 20, .inl (fun _ => 0)), .inr (3, [.int 0, .int 0, .int 0, .ref (z + 27), .ref (z + 28), .ref (z + 29), .ref (z + 30), .ref (z + 31), .ref (z + 32), .ref (z + 33), .ref (z + 34), .ref (z + 35)]), .inl (G 0, 9, .inl (fun _ => 0)), .inl (G 0, 8, .inl (fun _ => 0)), .inl (G 0, 10000, .inl (fun _ => 0)), .inl (G 0, 10000, .inl (fun _ => 0)), .inl (G 0, 10000, .inl (fun _ => 0)), .inl (G 0, 10000, .inl (fun _ => 0)), .inl (G 0, 10000, .inl (fun _ => 0)), .inl (G 0, 10000, .inl (fun _ => 0)), .inl (G 0, 10000, .inl (fun _ => 0)), .inr (4, [.int 0, .ref (z + 37), .ref (z + 38), .ref (z + 39), .ref (z + 40), .ref (z + 41), .ref (z + 42), .ref (z + 43), .ref (z + 44), .int 0, .int 0, .int 0, .int 0, .int 0, .int 0]), .inl (G 0, 10000, .inl (fun _ => 0)), .inl (G 0, 10000, .inl (fun _ => 0)), .inl (G 0, 10000, .inl (fun _ => 0)), .inl (G 0, 10000, .inl (fun _ => 0)), .inl (G 0, 10000, .inl (fun _ => 0)), .inl (G 0, 10000, .inl (fun _ => 0)), .inl (G 0, 10001, .inl (fun _ => 0)), .inl (G 0, 10000, .inl (fun _ => 0)), .inr (1, [.ref (z + 46), .ref (z + 47), .int 0, .int (-1), .int 0, .int 0, .int 0]), .inl (G 0, 10000, .inl (fun _ => 0)), .inl (G 0, 10000, .inl (fun _ => 0)), .inr (0, [.ref (z + 49), .ref (z + 50), .ref (z + 51), .ref (z + 54), .ref (z + 55)]), .inl (G 0, 6, .inl (fun _ => 0)), .inl (G 0, 3, .inl (fun _ => 0)), .inr (9, [.ref (z + 52), .ref (z + 53), .int 0]), .inl (G 0, 12, .inl (fun _ => 0)), .inl (G 0, 12, .inl (fun _ => 0)), .inl (G 0, 2, .inl (fun _ => 0)), .inl (G 0, 2, .inl (fun _ => 0)), .inr (9, [.ref (z + 57), .ref (z + 58), .int 0]), .inl (G 0, 12, .inl (fun _ => 0)), .inl (G 0, 12, .inl (fun _ => 0)), .inr (2, [.ref (z + 60), .int 0]), .inl (G 0, 100, .inl (fun _ => 0)), .inl (G 5, 4, .inr (.inr (.inr (.inr (va_up (va_up (va_up (va_up (fun _ => none) (Int32.toNatClampNeg (0 : Int32)) (some (z + 62))) (Int32.toNatClampNeg (1 : Int32)) (some (z + 64))) (Int32.toNatClampNeg (2 : Int32)) (some (z + 66))) (Int32.toNatClampNeg (3 : Int32)) (some (z + 68))))))), .inr (6, [.ref (z + 63), .int 0, .int 0, .int 0]), .inl (G 1, 60, .inr (.inl (fun _ => 0))), .inr (6, [.ref (z + 65), .int 0, .int 0, .int 0]), .inl (G 1, 60, .inr (.inl (fun _ => 0))), .inr (6, [.ref (z + 67), .int 0, .int 0, .int 0]), .inl (G 1, 60, .inr (.inl (fun _ => 0))), .inr (6, [.ref (z + 69), .int 0, .int 0, .int 0]), .inl (G 1, 60, .inr (.inl (fun _ => 0))), .inl (G 4, 3, .inr (.inr (.inr (.inr (fun _ => none)))))]
def ud_E2 (G : Nat → Nat) (z : Nat) : List va_E := ud_E1 G z ++ [.inr (11, [.int 0, .ref (z + 72), .ref (z + 73), .ref (z + 74), .ref (z + 75), .ref (z + 76), .int 0, .int 0, .int 0, .int 0, .int 0, .long 0, .int 0, .int 0, .int 0, .int (-1), .ref (z + 77), .ref (z + 78), .ref (z + 79), .ref (z + 80), .ref (z + 81), .int 0, .ref (z + 82), .ref (z + 83), .ref (z + 84), .int 0, .ref (z + 85), .ref (z + 86), .ref (z + 87), .ref (z + 88), .ref (z + 89), .ref (z + 90), .ref (z + 91), .int 0, .int 0]), .inl (G 0, 4, .inl (upd (upd (upd (upd (fun _ => 0) (Int32.toNatClampNeg (0 : Int32)) (-1)) (Int32.toNatClampNeg (1 : Int32)) (-1)) (Int32.toNatClampNeg (2 : Int32)) (-1)) (Int32.toNatClampNeg (3 : Int32)) (-1))), .inl (G 0, 4, .inl (fun _ => 0)), .inl (G 1, 240, .inr (.inl (fun _ => 0))), .inl (G 1, 60, .inr (.inl (fun _ => 0))), .inl (G 2, 800, .inl (fun _ => 0)), .inl (G 0, 5, .inl (fun _ => 0)), .inl (G 0, 30, .inl (fun _ => 0)), .inl (G 0, 120, .inl (fun _ => 0)), .inl (G 0, 120, .inl (fun _ => 0)), .inl (G 0, 100, .inl (fun _ => 0)), .inl (G 3, 3, .inl (fun _ => 0)), .inl (G 0, 8, .inl (fun _ => 0)), .inl (G 0, 8, .inl (fun _ => 0)), .inl (G 0, 10000, .inl (fun _ => 0)), .inl (G 0, 10000, .inl (fun _ => 0)), .inl (G 0, 10000, .inl (fun _ => 0)), .inl (G 0, 10000, .inl (fun _ => 0)), .inl (G 0, 10000, .inl (fun _ => 0)), .inl (G 3, 10000, .inl (fun _ => 0)), .inl (G 3, 10000, .inl (fun _ => 0))]
set_option maxRecDepth 20000 in
set_option maxHeartbeats 4000000 in
theorem ud_E2_0 (G : Nat → Nat) (z : Nat) : (ud_E2 G z).set 61 (.inl (G 5, 4, .inr (.inr (.inr (.inr (fun i => some (z + (62 + 2 * i)))))))) = (List.range 92).map (ud_e G z ud_0) := by
  rfl
set_option maxRecDepth 20000 in
set_option maxHeartbeats 4000000 in
theorem ud_P_start {D : va_G} {G : Nat → Nat} {z : Nat} {H : Heap} (h : va_P D vwCl (ud_Z z (ud_E2 G z)) H) : va_P D vwCl (ud_W G z 92 ud_0) H := by
  rw [← ud_ZW, ← ud_E2_0, ← ud_Z_set]
  obtain ⟨f, hf, hq⟩ : ∃ f : Nat → Option Nat, (ud_E2 G z)[61]? = some (.inl (G 5, 4, .inr (.inr (.inr (.inr f))))) ∧ ∀ i, i < 4 → f i = some (z + (62 + 2 * i)) := by
    refine ⟨_, rfl, fun i hi => ?_⟩
    rcases (show i = 0 ∨ i = 1 ∨ i = 2 ∨ i = 3 by omega) with rfl | rfl | rfl | rfl <;> rfl
  have h1 := h 61 _ (ud_Z_at _ _ _ _ hf)
  refine h.set ud_Z_D (ud_Z_at _ _ _ _ hf) ?_ (fun _ _ => rfl)
  have e : vp_cell (G 5) (4, .inr (.inr (.inr (.inr f)))) = vp_cell (G 5) (4, .inr (.inr (.inr (.inr (fun i => some (z + (62 + 2 * i))))))) := by
    rw [vp_cell_q, vp_cell_q]
    unfold arrV
    congr 1
    apply Array.ext
    · simp
    · intro i q1 q2
      simp only [Array.getElem_ofFn]
      have : i < 4 := by simpa using q1
      rw [hq i this]
  show H[z + 61]? = some (vp_cell _ _)
  rw [← e]
  exact h1
set_option maxHeartbeats 8000000 in
set_option maxRecDepth 20000 in
theorem whole_open {J : Nat → Nat → ud_St → Prop} (hS : ud_Steps J) (h0 : J 0 92 ud_0) {p : Program} {e : Env} {s : State} {m : MethodId} {below : List Frame} {meth : Method} {c : Code} (l : Launch) {b L : Nat} {xs : Nat → Int32} (hL : L ≤ 3072) (C0 : lw_At p s m meth c b L xs) : W p l e room_1 s m #[Value.ref b] below meth c s.heap [] 0 0 (lw_Z below #[Value.ref b] s) (entryFrame m ([Value.ref b] : List Value).toArray 4) := by
  obtain ⟨D, G, hK, hT, hO1, hO2⟩ := ud_ctx C0
  obtain ⟨hx, hb, hr, hml, hown, hts, hX, hbl, hlocks, hgv⟩ := C0
  have CF : CallFix p m c code 4 s #[Value.ref b] ud_gw R_law := ⟨hx, hb, hml, hown, fun w hw => hts w (List.mem_filter.mp hw).1⟩
  have CY : ud_CY D G s.heap.size p s m #[Value.ref b] meth c code 4 R_law := ⟨CF, hK, hlocks, Nat.le_refl _, hO1, hO2⟩
  have C : ud_C D G s.heap.size 92 p s m #[Value.ref b] meth c code 4 R_law ret := ⟨CF, hK, hT, hr, hlocks, Nat.le_refl _⟩
  have hl := lv_entry [Value.ref b] (n := 4) (Nat.le_of_ble_eq_true rfl)
  rw [lg_entry_eq]
  have key : ud_Y D s.heap.size p l e room_1 s m #[Value.ref b] below meth c 4 0 0 (lw_Z below #[Value.ref b] s) [] 0 [(0, .ref b)] [] := by
    refine uy_newL (L := 0) (E' := [.inr (10, df_UpAndDown)]) CY tyX11 tyX11_ok mu_11 mw_132 mw_133 mw_113 rfl dq_UpAndDown (Nat.le_of_ble_eq_true rfl) (Nat.le_of_ble_eq_true rfl) rfl rfl dL_law_0 ?_
    refine uy_dup CY rfl dL_law_3 ?_
    refine uy_call (n := 0) (As := []) (E' := ud_E1 G s.heap.size) CY (c_UpAndDown_init (l := l) (D := D) (G := G) (z := s.heap.size) (E0 := []) rfl) rfl mw_134 mw_135 mw_113 mw_136 ⟨by decide, by decide, by decide +kernel⟩ rfl ⟨Nat.le_of_ble_eq_true rfl, Nat.le_of_ble_eq_true rfl⟩ ⟨Nat.le_of_ble_eq_true rfl, Nat.le_of_ble_eq_true rfl⟩ rfl (Nat.le_of_ble_eq_true rfl) dL_law_4 ?_
    refine uy_astore_n CY rfl (by decide) rfl dL_law_7 ?_
    refine uy_newL (L := 71) (E' := ud_E1 G s.heap.size ++ [.inr (11, df_Model)]) CY tyX12 tyX12_ok mu_12 mw_1295 mw_1296 mw_124 rfl dq_Model (Nat.le_of_ble_eq_true rfl) (Nat.le_of_ble_eq_true rfl) rfl rfl dL_law_8 ?_
    refine uy_dup CY rfl dL_law_11 ?_
    refine uy_call (n := 0) (As := []) (E' := ud_E2 G s.heap.size) CY (c_Model_init (l := l) (D := D) (G := G) (z := s.heap.size) (E0 := ud_E1 G s.heap.size) rfl) rfl mw_1297 mw_1298 mw_124 mw_1299 ⟨by decide, by decide, by decide +kernel⟩ rfl ⟨Nat.le_of_ble_eq_true rfl, Nat.le_of_ble_eq_true rfl⟩ ⟨Nat.le_of_ble_eq_true rfl, Nat.le_of_ble_eq_true rfl⟩ rfl (Nat.le_of_ble_eq_true rfl) dL_law_12 ?_
    refine uy_astore_n CY rfl (by decide) rfl dL_law_15 ?_
    refine uy_iconst CY (v := 0) (by decide) dL_law_16 ?_
    refine uy_istore_n CY rfl (by decide) rfl dL_law_17 ?_
    refine uy_pick [3, 2, 1, 0] rfl ?_
    intro H locs ls q1 q0 q2 q3
    have hXX := law_loop hS (D := D) (G := G) (z := s.heap.size) (p := p) (l := l) (e := e) (m := m) (below := below) (meth := meth) (c := c) hX hbl (Nat.not_le.mpr hbl) rfl hO1 hO2 hL (L + 8) 0 92 250000 ud_0 (by omega) (by omega) (by omega) (by omega) C h0
    exact W.widen (Nat.le_of_ble_eq_true rfl) (Nat.le_of_ble_eq_true rfl) (hXX H locs ls (ud_P_start q1) q2 q3)
  exact key s.heap [] _ (fun k q h => by simp [ud_Z] at h) rfl va_S.rf hl
