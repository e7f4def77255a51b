/-! the law over its steps -/
theorem ud_ix {L k j : Nat} (hk : k + 6 ≤ L) (hL : L ≤ 3072) (hj : j < 6) : vp_in (nI k + nI j) L := by
  rw [nI_add]
  exact vp_in_nI (by omega) (by omega)
theorem ud_i6 (k : Nat) : nI k + Int32.ofInt 6 = nI (k + 6) := nI_add k 6
theorem ux_sld {D : va_G} {G : Nat → Nat} {z N : Nat} {p : Program} {l : Launch} {e : Env} {R : Room} {s : State} {m : MethodId} {args : Array Value} {below : List Frame} {meth : Method} {c : Code} {cc : ByteArray} {nL cs ss : Nat} {own : String} {ret : Option FieldType} {Q : State → Prop} {a : ud_St} {pc : Nat} {lv : List (Nat × Value)} {st : List Value} {b L : Nat} {xs : Nat → Int32} (C : ud_C D G z N p s m args meth c cc nL own ret) (hX : va_X b L xs s s.heap) (hbl : b < s.heap.size) (hbA : ¬ z ≤ b) {i : Int32} (hin : vp_in i L) (hd : decode cc pc = .ok (.iaload, 1)) (k : ud_X D G z N p l e R s m args below meth c nL cs ss Q a (pc + 1) lv (.int (xs i.toNatClampNeg) :: st)) : ud_X D G z N p l e R s m args below meth c nL cs ss Q a pc lv (.int i :: .ref b :: st) := fun H locs ls h1 h2 h3 => va_sld C.1.1 C.1.2.1 hX hbl hbA h2 hin hd (k H locs ls h1 h2 h3)
theorem ux_slen {D : va_G} {G : Nat → Nat} {z N : Nat} {p : Program} {l : Launch} {e : Env} {R : Room} {s : State} {m : MethodId} {args : Array Value} {below : List Frame} {meth : Method} {c : Code} {cc : ByteArray} {nL cs ss : Nat} {own : String} {ret : Option FieldType} {Q : State → Prop} {a : ud_St} {pc : Nat} {lv : List (Nat × Value)} {st : List Value} {b L : Nat} {xs : Nat → Int32} (C : ud_C D G z N p s m args meth c cc nL own ret) (hX : va_X b L xs s s.heap) (hbl : b < s.heap.size) (hbA : ¬ z ≤ b) (hd : decode cc pc = .ok (.arraylength, 1)) (k : ud_X D G z N p l e R s m args below meth c nL cs ss Q a (pc + 1) lv (.int (nI L) :: st)) : ud_X D G z N p l e R s m args below meth c nL cs ss Q a pc lv (.ref b :: st) := fun H locs ls h1 h2 h3 => va_slen C.1.1 C.1.2.1 hX hbl hbA h2 hd (k H locs ls h1 h2 h3)
theorem ux_callK {D : va_G} {G : Nat → Nat} {z N : Nat} {p : Program} {l : Launch} {e : Env} {s : State} {m : MethodId} {args : Array Value} {below : List Frame} {meth : Method} {c : Code} {Q : State → Prop} {a : ud_St} {lv : List (Nat × Value)} {ss idx pc : Nat} {x1 : Int32} {Qf : ud_St → Prop} (C : ud_C D G z N p s m args meth c code 4 R_law ret) (hz : s.heap.size = z) (hO1 : va_AO RX8 s) (hO2 : va_AO RX7 s) (hM : Met l yX11_keep (ud_ws yX11_keep cX11_keep 2 (some .int)) (ud_rm 4 11 110) (ud_PK D G z N [.ref (z + 0), .int x1] a) (ud_QK D G z N Qf) 11 110 (fun q : Nat => z ≤ q)) (hlink : Cond.methodLink R_law idx yX11_keep ∈ ud_gw) (hcs : N + 11 ≤ room_1.cells ∧ ss + 110 ≤ room_1.slots) (hd : decode code pc = .ok (.invokevirtual idx, 3))
    (kk : ∀ a', Qf a' → ud_X D G z (N + 11) p l e room_1 s m args below meth c 4 (N + 11) (ss + 110) Q a' (pc + 3) lv [.int 0]) : ud_X D G z N p l e room_1 s m args below meth c 4 N ss Q a pc lv [.int x1, .ref (z + 0)] := by
  intro H locs ls h1 h2 h3
  have ht := C.1.2.2.2.2
  have hN : 92 ≤ N := C.2.2.2.2.2
  intro T hT Y
  have hsz : H.size = z + N := by
    have h := Y.same.2.2.1
    have h' : T.heap.size ≤ s.heap.size + N := h
    rw [hT, hz] at h'
    exact Nat.le_antisymm h' (ud_lower (by omega) h1)
  have cb : CallB room_1 s args R_law idx yX11_keep cX11_keep 2 (some .int) (ud_ws yX11_keep cX11_keep 2 (some .int)) (ud_rm 4 11 110) 11 110 1 := callB_of 1 ht (ud_goodws mw_1255) rfl rfl rfl (ht _ mw_113) (ht _ hlink) ⟨by decide, by decide, by decide +kernel⟩ ⟨Nat.le_of_ble_eq_true rfl, Nat.le_of_ble_eq_true rfl⟩
  have hr := va_runV (e := e) (below := below) (meth := meth) (locs := locs) (C := RX11) C.1 hM ⟨cb, ht _ mw_1253, ht _ mw_1254⟩ ⟨ud_blindK, va_recv C.2.1 h1 (ci := 10) rfl (by rw [ud_W_at (by omega : 0 < N)]; rfl), fun U hU hW => ⟨rfl, (ux_pc (av := [.ref (z + 0), .int x1]) C h1 h2 U hU hW).2, by rw [hU]; exact hsz, va_AO.moved hW.alike hO1, va_AO.moved hW.alike hO2⟩⟩ (g := F0 m pc ls [.int x1, .ref (z + 0)]) (As := [.int x1]) (rest := []) rfl rfl h3.1 rfl (lv_room (Nat.le_of_ble_eq_true rfl)) hd hcs
  obtain ⟨v, st₀, t, T', L, g0, Y', hL, e1, e2, ⟨⟨a', hv, hq, hb⟩, hz1, hk⟩, go⟩ := hr T hT Y
  cases hv
  rw [g0] at hz1 hk
  obtain ⟨t2, a1, b1⟩ := kk a' hq T'.heap (locs ++ L) ls (by rw [e1]; exact hb)
    ⟨Nat.le_trans h2.1 (by rw [e1]; exact hz1), fun q q1 q2 => by rw [e1, hk q (Nat.lt_of_lt_of_le q1 h2.1) q2]; exact h2.2.1 q q1 q2, fun q hq => by
      rcases List.mem_append.mp hq with h | h
      · exact h2.2.2 q h
      · exact hL q h⟩ h3 T' rfl Y'
  exact ⟨t2, go t2 a1, b1⟩
