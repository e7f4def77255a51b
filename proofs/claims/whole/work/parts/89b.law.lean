set_option maxHeartbeats 4000000 in
theorem lc_feed {J J' : Nat → ud_St → Prop} (hst : us_feed J J') {D : va_G} {G : Nat → Nat} {z N b L k cs ss : Nat} {xs : Nat → Int32} {p : Program} {l : Launch} {e : Env} {s : State} {m : MethodId} {args : Array Value} {below : List Frame} {meth : Method} {c : Code} {Q : State → Prop} {a : ud_St} (C : ud_C D G z N p s m args meth c code 4 R_law ret) (hX : va_X b L xs s s.heap) (hbl : b < s.heap.size) (hbA : ¬ z ≤ b) (hN : 92 ≤ N) (hk : k + 6 ≤ L) (hL : L ≤ 3072) (hcs : cs ≤ room_1.cells ∧ ss ≤ room_1.slots) (hJ : J N a) (kk : ∀ N' a' cs' ss', J' N' a' → cs' ≤ cs + (N' - N) → (N ≤ N' ∧ N' ≤ N + 11) → ss' ≤ ss + 110 → ud_X D G z N' p l e room_1 s m args below meth c 4 cs' ss' Q a' 18 [(0, .ref b), (1, .ref (z + 0)), (2, .ref (z + 71)), (3, .int (nI (k + 6)))] []) : ud_X D G z N p l e room_1 s m args below meth c 4 cs ss Q a 232 [(0, .ref b), (1, .ref (z + 0)), (2, .ref (z + 71)), (3, .int (nI k))] [] := by
  have hw := hst N a (xs (Int32.toNatClampNeg ((nI k) + 1))) (xs (Int32.toNatClampNeg ((nI k) + 2))) (xs (Int32.toNatClampNeg ((nI k) + 3))) (xs (Int32.toNatClampNeg ((nI k) + 4))) (xs (Int32.toNatClampNeg ((nI k) + 5))) hJ
  refine ux_aload_n C 1 rfl rfl dL_law_232 ?_
  refine ux_aload_n C 0 rfl rfl dL_law_233 ?_
  refine ux_iload_n C 3 rfl rfl dL_law_234 ?_
  refine ux_iconst C (v := 1) (by decide) dL_law_235 ?_
  refine ux_iadd C dL_law_236 ?_
  refine ux_sld C hX hbl hbA (ud_ix (j := 1) hk hL (by decide)) dL_law_237 ?_
  refine ux_aload_n C 0 rfl rfl dL_law_238 ?_
  refine ux_iload_n C 3 rfl rfl dL_law_239 ?_
  refine ux_iconst C (v := 2) (by decide) dL_law_240 ?_
  refine ux_iadd C dL_law_241 ?_
  refine ux_sld C hX hbl hbA (ud_ix (j := 2) hk hL (by decide)) dL_law_242 ?_
  refine ux_aload_n C 0 rfl rfl dL_law_243 ?_
  refine ux_iload_n C 3 rfl rfl dL_law_244 ?_
  refine ux_iconst C (v := 3) (by decide) dL_law_245 ?_
  refine ux_iadd C dL_law_246 ?_
  refine ux_sld C hX hbl hbA (ud_ix (j := 3) hk hL (by decide)) dL_law_247 ?_
  refine ux_aload_n C 0 rfl rfl dL_law_248 ?_
  refine ux_iload_n C 3 rfl rfl dL_law_249 ?_
  refine ux_iconst C (v := 4) (by decide) dL_law_250 ?_
  refine ux_iadd C dL_law_251 ?_
  refine ux_sld C hX hbl hbA (ud_ix (j := 4) hk hL (by decide)) dL_law_252 ?_
  refine ux_aload_n C 0 rfl rfl dL_law_253 ?_
  refine ux_iload_n C 3 rfl rfl dL_law_254 ?_
  refine ux_iconst C (v := 5) (by decide) dL_law_255 ?_
  refine ux_iadd C dL_law_256 ?_
  refine ux_sld C hX hbl hbA (ud_ix (j := 5) hk hL (by decide)) dL_law_257 ?_
  refine ux_callV (n := 5) (As := [.int (xs (Int32.toNatClampNeg ((nI k) + 1))), .int (xs (Int32.toNatClampNeg ((nI k) + 2))), .int (xs (Int32.toNatClampNeg ((nI k) + 3))), .int (xs (Int32.toNatClampNeg ((nI k) + 4))), .int (xs (Int32.toNatClampNeg ((nI k) + 5)))]) C (c_UpAndDown_feed hN hw) (uc_0 hN).1 ((uc_0 hN).2 _ _ _) rfl mw_505 mw_506 mw_507 mw_113 mw_508 ⟨by decide, by decide, by decide +kernel⟩ rfl ⟨Nat.le_of_ble_eq_true rfl, Nat.le_of_ble_eq_true rfl⟩ ⟨hcs.1, hcs.2⟩ rfl (Nat.le_of_ble_eq_true rfl) dL_law_258 (po_i.k fun r a1 hw => ?_)
  refine ux_aload_n C 2 rfl rfl dL_law_261 ?_
  refine ux_aload_n C 0 rfl rfl dL_law_262 ?_
  refine ux_iload_n C 3 rfl rfl dL_law_263 ?_
  refine ux_iconst C (v := 1) (by decide) dL_law_264 ?_
  refine ux_iadd C dL_law_265 ?_
  refine ux_sld C hX hbl hbA (ud_ix (j := 1) hk hL (by decide)) dL_law_266 ?_
  refine ux_aload_n C 0 rfl rfl dL_law_267 ?_
  refine ux_iload_n C 3 rfl rfl dL_law_268 ?_
  refine ux_iconst C (v := 2) (by decide) dL_law_269 ?_
  refine ux_iadd C dL_law_270 ?_
  refine ux_sld C hX hbl hbA (ud_ix (j := 2) hk hL (by decide)) dL_law_271 ?_
  refine ux_aload_n C 0 rfl rfl dL_law_272 ?_
  refine ux_iload_n C 3 rfl rfl dL_law_273 ?_
  refine ux_iconst C (v := 3) (by decide) dL_law_274 ?_
  refine ux_iadd C dL_law_275 ?_
  refine ux_sld C hX hbl hbA (ud_ix (j := 3) hk hL (by decide)) dL_law_276 ?_
  refine ux_aload_n C 0 rfl rfl dL_law_277 ?_
  refine ux_iload_n C 3 rfl rfl dL_law_278 ?_
  refine ux_iconst C (v := 4) (by decide) dL_law_279 ?_
  refine ux_iadd C dL_law_280 ?_
  refine ux_sld C hX hbl hbA (ud_ix (j := 4) hk hL (by decide)) dL_law_281 ?_
  refine ux_aload_n C 0 rfl rfl dL_law_282 ?_
  refine ux_iload_n C 3 rfl rfl dL_law_283 ?_
  refine ux_iconst C (v := 5) (by decide) dL_law_284 ?_
  refine ux_iadd C dL_law_285 ?_
  refine ux_sld C hX hbl hbA (ud_ix (j := 5) hk hL (by decide)) dL_law_286 ?_
  refine ux_callV (n := 5) (As := [.int (xs (Int32.toNatClampNeg ((nI k) + 1))), .int (xs (Int32.toNatClampNeg ((nI k) + 2))), .int (xs (Int32.toNatClampNeg ((nI k) + 3))), .int (xs (Int32.toNatClampNeg ((nI k) + 4))), .int (xs (Int32.toNatClampNeg ((nI k) + 5)))]) C (c_Model_feed hN hw) (uc_71 hN).1 ((uc_71 hN).2 _ _ _) rfl mw_1430 mw_1431 mw_1432 mw_124 mw_1433 ⟨by decide, by decide, by decide +kernel⟩ rfl ⟨Nat.le_of_ble_eq_true rfl, Nat.le_of_ble_eq_true rfl⟩ ⟨hcs.1, hcs.2⟩ rfl (Nat.le_of_ble_eq_true rfl) dL_law_287 (po_i.k fun r' a2 hw => ?_)
  obtain ⟨rfl, hJ⟩ := hw
  refine ux_icmp_eq C (tgt := 1710) (by decide) dL_law_290 (fun _ => ?_) (fun h => absurd rfl h)
  refine ux_iinc (v := nI (k + 6)) C 3 rfl (ud_i6 k) (by decide) rfl dL_law_1710 ?_
  refine ux_goto C (tgt := 18) (by decide) dL_law_1713 ?_
  refine ux_pick [1, 2, 3, 0] rfl ?_
  exact kk N _ cs ss hJ (by omega) ⟨by omega, by omega⟩ (by omega)
set_option maxHeartbeats 4000000 in
theorem lc_end {J J' : Nat → ud_St → Prop} (hst : us_end J J') {D : va_G} {G : Nat → Nat} {z N b L k cs ss : Nat} {xs : Nat → Int32} {p : Program} {l : Launch} {e : Env} {s : State} {m : MethodId} {args : Array Value} {below : List Frame} {meth : Method} {c : Code} {Q : State → Prop} {a : ud_St} (C : ud_C D G z N p s m args meth c code 4 R_law ret) (hX : va_X b L xs s s.heap) (hbl : b < s.heap.size) (hbA : ¬ z ≤ b) (hN : 92 ≤ N) (hk : k + 6 ≤ L) (hL : L ≤ 3072) (hcs : cs ≤ room_1.cells ∧ ss ≤ room_1.slots) (hJ : J N a) (kk : ∀ N' a' cs' ss', J' N' a' → cs' ≤ cs + (N' - N) → (N ≤ N' ∧ N' ≤ N + 11) → ss' ≤ ss + 110 → ud_X D G z N' p l e room_1 s m args below meth c 4 cs' ss' Q a' 18 [(0, .ref b), (1, .ref (z + 0)), (2, .ref (z + 71)), (3, .int (nI (k + 6)))] []) : ud_X D G z N p l e room_1 s m args below meth c 4 cs ss Q a 295 [(0, .ref b), (1, .ref (z + 0)), (2, .ref (z + 71)), (3, .int (nI k))] [] := by
  have hw := hst N a (xs (Int32.toNatClampNeg ((nI k) + 1))) hJ
  refine ux_aload_n C 1 rfl rfl dL_law_295 ?_
  refine ux_aload_n C 0 rfl rfl dL_law_296 ?_
  refine ux_iload_n C 3 rfl rfl dL_law_297 ?_
  refine ux_iconst C (v := 1) (by decide) dL_law_298 ?_
  refine ux_iadd C dL_law_299 ?_
  refine ux_sld C hX hbl hbA (ud_ix (j := 1) hk hL (by decide)) dL_law_300 ?_
  refine ux_callV (n := 1) (As := [.int (xs (Int32.toNatClampNeg ((nI k) + 1)))]) C (c_UpAndDown_end hN hw) (uc_0 hN).1 ((uc_0 hN).2 _ _ _) rfl mw_520 mw_521 mw_522 mw_113 mw_523 ⟨by decide, by decide, by decide +kernel⟩ rfl ⟨Nat.le_of_ble_eq_true rfl, Nat.le_of_ble_eq_true rfl⟩ ⟨hcs.1, hcs.2⟩ rfl (Nat.le_of_ble_eq_true rfl) dL_law_301 (po_i.k fun r a1 hw => ?_)
  refine ux_aload_n C 2 rfl rfl dL_law_304 ?_
  refine ux_aload_n C 0 rfl rfl dL_law_305 ?_
  refine ux_iload_n C 3 rfl rfl dL_law_306 ?_
  refine ux_iconst C (v := 1) (by decide) dL_law_307 ?_
  refine ux_iadd C dL_law_308 ?_
  refine ux_sld C hX hbl hbA (ud_ix (j := 1) hk hL (by decide)) dL_law_309 ?_
  refine ux_callV (n := 1) (As := [.int (xs (Int32.toNatClampNeg ((nI k) + 1)))]) C (c_Model_end hN hw) (uc_71 hN).1 ((uc_71 hN).2 _ _ _) rfl mw_1438 mw_1439 mw_1440 mw_124 mw_1441 ⟨by decide, by decide, by decide +kernel⟩ rfl ⟨Nat.le_of_ble_eq_true rfl, Nat.le_of_ble_eq_true rfl⟩ ⟨hcs.1, hcs.2⟩ rfl (Nat.le_of_ble_eq_true rfl) dL_law_310 (po_i.k fun r' a2 hw => ?_)
  obtain ⟨rfl, hJ⟩ := hw
  refine ux_icmp_eq C (tgt := 1710) (by decide) dL_law_313 (fun _ => ?_) (fun h => absurd rfl h)
  refine ux_iinc (v := nI (k + 6)) C 3 rfl (ud_i6 k) (by decide) rfl dL_law_1710 ?_
  refine ux_goto C (tgt := 18) (by decide) dL_law_1713 ?_
  refine ux_pick [1, 2, 3, 0] rfl ?_
  exact kk N _ cs ss hJ (by omega) ⟨by omega, by omega⟩ (by omega)
set_option maxHeartbeats 4000000 in
theorem lc_table {J J' : Nat → ud_St → Prop} (hst : us_table J J') {D : va_G} {G : Nat → Nat} {z N b L k cs ss : Nat} {xs : Nat → Int32} {p : Program} {l : Launch} {e : Env} {s : State} {m : MethodId} {args : Array Value} {below : List Frame} {meth : Method} {c : Code} {Q : State → Prop} {a : ud_St} (C : ud_C D G z N p s m args meth c code 4 R_law ret) (hX : va_X b L xs s s.heap) (hbl : b < s.heap.size) (hbA : ¬ z ≤ b) (hN : 92 ≤ N) (hk : k + 6 ≤ L) (hL : L ≤ 3072) (hcs : cs ≤ room_1.cells ∧ ss ≤ room_1.slots) (hJ : J N a) (kk : ∀ N' a' cs' ss', J' N' a' → cs' ≤ cs + (N' - N) → (N ≤ N' ∧ N' ≤ N + 11) → ss' ≤ ss + 110 → ud_X D G z N' p l e room_1 s m args below meth c 4 cs' ss' Q a' 18 [(0, .ref b), (1, .ref (z + 0)), (2, .ref (z + 71)), (3, .int (nI (k + 6)))] []) : ud_X D G z N p l e room_1 s m args below meth c 4 cs ss Q a 318 [(0, .ref b), (1, .ref (z + 0)), (2, .ref (z + 71)), (3, .int (nI k))] [] := by
  have hw := hst N a  hJ
  refine ux_aload_n C 1 rfl rfl dL_law_318 ?_
  refine ux_callV (n := 0) (As := []) C (c_UpAndDown_table hN hw) (uc_0 hN).1 ((uc_0 hN).2 _ _ _) rfl mw_524 mw_525 mw_526 mw_113 mw_527 ⟨by decide, by decide, by decide +kernel⟩ rfl ⟨Nat.le_of_ble_eq_true rfl, Nat.le_of_ble_eq_true rfl⟩ ⟨hcs.1, hcs.2⟩ rfl (Nat.le_of_ble_eq_true rfl) dL_law_319 (po_i.k fun r a1 hw => ?_)
  refine ux_aload_n C 2 rfl rfl dL_law_322 ?_
  refine ux_callV (n := 0) (As := []) C (c_Model_table hN hw) (uc_71 hN).1 ((uc_71 hN).2 _ _ _) rfl mw_1446 mw_1447 mw_1448 mw_124 mw_1449 ⟨by decide, by decide, by decide +kernel⟩ rfl ⟨Nat.le_of_ble_eq_true rfl, Nat.le_of_ble_eq_true rfl⟩ ⟨hcs.1, hcs.2⟩ rfl (Nat.le_of_ble_eq_true rfl) dL_law_323 (po_i.k fun r' a2 hw => ?_)
  obtain ⟨rfl, hJ⟩ := hw
  refine ux_icmp_eq C (tgt := 1710) (by decide) dL_law_326 (fun _ => ?_) (fun h => absurd rfl h)
  refine ux_iinc (v := nI (k + 6)) C 3 rfl (ud_i6 k) (by decide) rfl dL_law_1710 ?_
  refine ux_goto C (tgt := 18) (by decide) dL_law_1713 ?_
  refine ux_pick [1, 2, 3, 0] rfl ?_
  exact kk N _ cs ss hJ (by omega) ⟨by omega, by omega⟩ (by omega)
set_option maxHeartbeats 4000000 in
theorem lc_fault {J J' : Nat → ud_St → Prop} (hst : us_fault J J') {D : va_G} {G : Nat → Nat} {z N b L k cs ss : Nat} {xs : Nat → Int32} {p : Program} {l : Launch} {e : Env} {s : State} {m : MethodId} {args : Array Value} {below : List Frame} {meth : Method} {c : Code} {Q : State → Prop} {a : ud_St} (C : ud_C D G z N p s m args meth c code 4 R_law ret) (hX : va_X b L xs s s.heap) (hbl : b < s.heap.size) (hbA : ¬ z ≤ b) (hN : 92 ≤ N) (hk : k + 6 ≤ L) (hL : L ≤ 3072) (hcs : cs ≤ room_1.cells ∧ ss ≤ room_1.slots) (hJ : J N a) (kk : ∀ N' a' cs' ss', J' N' a' → cs' ≤ cs + (N' - N) → (N ≤ N' ∧ N' ≤ N + 11) → ss' ≤ ss + 110 → ud_X D G z N' p l e room_1 s m args below meth c 4 cs' ss' Q a' 18 [(0, .ref b), (1, .ref (z + 0)), (2, .ref (z + 71)), (3, .int (nI (k + 6)))] []) : ud_X D G z N p l e room_1 s m args below meth c 4 cs ss Q a 331 [(0, .ref b), (1, .ref (z + 0)), (2, .ref (z + 71)), (3, .int (nI k))] [] := by
  have hw := hst N a (xs (Int32.toNatClampNeg ((nI k) + 1))) hJ
  refine ux_aload_n C 1 rfl rfl dL_law_331 ?_
  refine ux_aload_n C 0 rfl rfl dL_law_332 ?_
  refine ux_iload_n C 3 rfl rfl dL_law_333 ?_
  refine ux_iconst C (v := 1) (by decide) dL_law_334 ?_
  refine ux_iadd C dL_law_335 ?_
  refine ux_sld C hX hbl hbA (ud_ix (j := 1) hk hL (by decide)) dL_law_336 ?_
  refine ux_callV (n := 1) (As := [.int (xs (Int32.toNatClampNeg ((nI k) + 1)))]) C (c_UpAndDown_fault hN hw) (uc_0 hN).1 ((uc_0 hN).2 _ _ _) rfl mw_761 mw_762 mw_763 mw_113 mw_764 ⟨by decide, by decide, by decide +kernel⟩ rfl ⟨Nat.le_of_ble_eq_true rfl, Nat.le_of_ble_eq_true rfl⟩ ⟨hcs.1, hcs.2⟩ rfl (Nat.le_of_ble_eq_true rfl) dL_law_337 (po_ip.k fun r hw => ?_)
  refine ux_aload_n C 2 rfl rfl dL_law_340 ?_
  refine ux_aload_n C 0 rfl rfl dL_law_341 ?_
  refine ux_iload_n C 3 rfl rfl dL_law_342 ?_
  refine ux_iconst C (v := 1) (by decide) dL_law_343 ?_
  refine ux_iadd C dL_law_344 ?_
  refine ux_sld C hX hbl hbA (ud_ix (j := 1) hk hL (by decide)) dL_law_345 ?_
  refine ux_callV (n := 1) (As := [.int (xs (Int32.toNatClampNeg ((nI k) + 1)))]) C (c_Model_fault hN hw) (uc_71 hN).1 ((uc_71 hN).2 _ _ _) rfl mw_1442 mw_1443 mw_1444 mw_124 mw_1445 ⟨by decide, by decide, by decide +kernel⟩ rfl ⟨Nat.le_of_ble_eq_true rfl, Nat.le_of_ble_eq_true rfl⟩ ⟨hcs.1, hcs.2⟩ rfl (Nat.le_of_ble_eq_true rfl) dL_law_346 (po_i.k fun r' a2 hw => ?_)
  obtain ⟨rfl, hJ⟩ := hw
  refine ux_icmp_eq C (tgt := 1710) (by decide) dL_law_349 (fun _ => ?_) (fun h => absurd rfl h)
  refine ux_iinc (v := nI (k + 6)) C 3 rfl (ud_i6 k) (by decide) rfl dL_law_1710 ?_
  refine ux_goto C (tgt := 18) (by decide) dL_law_1713 ?_
  refine ux_pick [1, 2, 3, 0] rfl ?_
  exact kk N _ cs ss hJ (by omega) ⟨by omega, by omega⟩ (by omega)
set_option maxHeartbeats 4000000 in
theorem lc_word {J J' : Nat → ud_St → Prop} (hst : us_word J J') {D : va_G} {G : Nat → Nat} {z N b L k cs ss : Nat} {xs : Nat → Int32} {p : Program} {l : Launch} {e : Env} {s : State} {m : MethodId} {args : Array Value} {below : List Frame} {meth : Method} {c : Code} {Q : State → Prop} {a : ud_St} (C : ud_C D G z N p s m args meth c code 4 R_law ret) (hX : va_X b L xs s s.heap) (hbl : b < s.heap.size) (hbA : ¬ z ≤ b) (hN : 92 ≤ N) (hk : k + 6 ≤ L) (hL : L ≤ 3072) (hcs : cs ≤ room_1.cells ∧ ss ≤ room_1.slots) (hJ : J N a) (kk : ∀ N' a' cs' ss', J' N' a' → cs' ≤ cs + (N' - N) → (N ≤ N' ∧ N' ≤ N + 11) → ss' ≤ ss + 110 → ud_X D G z N' p l e room_1 s m args below meth c 4 cs' ss' Q a' 18 [(0, .ref b), (1, .ref (z + 0)), (2, .ref (z + 71)), (3, .int (nI (k + 6)))] []) : ud_X D G z N p l e room_1 s m args below meth c 4 cs ss Q a 354 [(0, .ref b), (1, .ref (z + 0)), (2, .ref (z + 71)), (3, .int (nI k))] [] := by
  have hw := hst N a (xs (Int32.toNatClampNeg ((nI k) + 1))) (xs (Int32.toNatClampNeg ((nI k) + 2))) hJ
  refine ux_aload_n C 1 rfl rfl dL_law_354 ?_
  refine ux_aload_n C 0 rfl rfl dL_law_355 ?_
  refine ux_iload_n C 3 rfl rfl dL_law_356 ?_
  refine ux_iconst C (v := 1) (by decide) dL_law_357 ?_
  refine ux_iadd C dL_law_358 ?_
  refine ux_sld C hX hbl hbA (ud_ix (j := 1) hk hL (by decide)) dL_law_359 ?_
  refine ux_aload_n C 0 rfl rfl dL_law_360 ?_
  refine ux_iload_n C 3 rfl rfl dL_law_361 ?_
  refine ux_iconst C (v := 2) (by decide) dL_law_362 ?_
  refine ux_iadd C dL_law_363 ?_
  refine ux_sld C hX hbl hbA (ud_ix (j := 2) hk hL (by decide)) dL_law_364 ?_
  refine ux_callV (n := 2) (As := [.int (xs (Int32.toNatClampNeg ((nI k) + 1))), .int (xs (Int32.toNatClampNeg ((nI k) + 2)))]) C (c_UpAndDown_word hN hw) (uc_0 hN).1 ((uc_0 hN).2 _ _ _) rfl mw_765 mw_766 mw_767 mw_113 mw_768 ⟨by decide, by decide, by decide +kernel⟩ rfl ⟨Nat.le_of_ble_eq_true rfl, Nat.le_of_ble_eq_true rfl⟩ ⟨hcs.1, hcs.2⟩ rfl (Nat.le_of_ble_eq_true rfl) dL_law_365 (po_ip.k fun r hw => ?_)
  refine ux_aload_n C 2 rfl rfl dL_law_368 ?_
  refine ux_aload_n C 0 rfl rfl dL_law_369 ?_
  refine ux_iload_n C 3 rfl rfl dL_law_370 ?_
  refine ux_iconst C (v := 1) (by decide) dL_law_371 ?_
  refine ux_iadd C dL_law_372 ?_
  refine ux_sld C hX hbl hbA (ud_ix (j := 1) hk hL (by decide)) dL_law_373 ?_
  refine ux_aload_n C 0 rfl rfl dL_law_374 ?_
  refine ux_iload_n C 3 rfl rfl dL_law_375 ?_
  refine ux_iconst C (v := 2) (by decide) dL_law_376 ?_
  refine ux_iadd C dL_law_377 ?_
  refine ux_sld C hX hbl hbA (ud_ix (j := 2) hk hL (by decide)) dL_law_378 ?_
  refine ux_callV (n := 2) (As := [.int (xs (Int32.toNatClampNeg ((nI k) + 1))), .int (xs (Int32.toNatClampNeg ((nI k) + 2)))]) C (c_Model_word hN hw) (uc_71 hN).1 ((uc_71 hN).2 _ _ _) rfl mw_1564 mw_1565 mw_1566 mw_124 mw_1567 ⟨by decide, by decide, by decide +kernel⟩ rfl ⟨Nat.le_of_ble_eq_true rfl, Nat.le_of_ble_eq_true rfl⟩ ⟨hcs.1, hcs.2⟩ rfl (Nat.le_of_ble_eq_true rfl) dL_law_379 (po_i.k fun r' a2 hw => ?_)
  obtain ⟨rfl, hJ⟩ := hw
  refine ux_icmp_eq C (tgt := 1710) (by decide) dL_law_382 (fun _ => ?_) (fun h => absurd rfl h)
  refine ux_iinc (v := nI (k + 6)) C 3 rfl (ud_i6 k) (by decide) rfl dL_law_1710 ?_
  refine ux_goto C (tgt := 18) (by decide) dL_law_1713 ?_
  refine ux_pick [1, 2, 3, 0] rfl ?_
  exact kk N _ cs ss hJ (by omega) ⟨by omega, by omega⟩ (by omega)
set_option maxHeartbeats 4000000 in
theorem lc_turn {J J' : Nat → ud_St → Prop} (hst : us_turn J J') {D : va_G} {G : Nat → Nat} {z N b L k cs ss : Nat} {xs : Nat → Int32} {p : Program} {l : Launch} {e : Env} {s : State} {m : MethodId} {args : Array Value} {below : List Frame} {meth : Method} {c : Code} {Q : State → Prop} {a : ud_St} (C : ud_C D G z N p s m args meth c code 4 R_law ret) (hX : va_X b L xs s s.heap) (hbl : b < s.heap.size) (hbA : ¬ z ≤ b) (hN : 92 ≤ N) (hk : k + 6 ≤ L) (hL : L ≤ 3072) (hcs : cs ≤ room_1.cells ∧ ss ≤ room_1.slots) (hJ : J N a) (kk : ∀ N' a' cs' ss', J' N' a' → cs' ≤ cs + (N' - N) → (N ≤ N' ∧ N' ≤ N + 11) → ss' ≤ ss + 110 → ud_X D G z N' p l e room_1 s m args below meth c 4 cs' ss' Q a' 18 [(0, .ref b), (1, .ref (z + 0)), (2, .ref (z + 71)), (3, .int (nI (k + 6)))] []) : ud_X D G z N p l e room_1 s m args below meth c 4 cs ss Q a 387 [(0, .ref b), (1, .ref (z + 0)), (2, .ref (z + 71)), (3, .int (nI k))] [] := by
  have hw := hst N a (xs (Int32.toNatClampNeg ((nI k) + 1))) (xs (Int32.toNatClampNeg ((nI k) + 2))) (xs (Int32.toNatClampNeg ((nI k) + 3))) hJ
  refine ux_aload_n C 1 rfl rfl dL_law_387 ?_
  refine ux_aload_n C 0 rfl rfl dL_law_388 ?_
  refine ux_iload_n C 3 rfl rfl dL_law_389 ?_
  refine ux_iconst C (v := 1) (by decide) dL_law_390 ?_
  refine ux_iadd C dL_law_391 ?_
  refine ux_sld C hX hbl hbA (ud_ix (j := 1) hk hL (by decide)) dL_law_392 ?_
  refine ux_aload_n C 0 rfl rfl dL_law_393 ?_
  refine ux_iload_n C 3 rfl rfl dL_law_394 ?_
  refine ux_iconst C (v := 2) (by decide) dL_law_395 ?_
  refine ux_iadd C dL_law_396 ?_
  refine ux_sld C hX hbl hbA (ud_ix (j := 2) hk hL (by decide)) dL_law_397 ?_
  refine ux_aload_n C 0 rfl rfl dL_law_398 ?_
  refine ux_iload_n C 3 rfl rfl dL_law_399 ?_
  refine ux_iconst C (v := 3) (by decide) dL_law_400 ?_
  refine ux_iadd C dL_law_401 ?_
  refine ux_sld C hX hbl hbA (ud_ix (j := 3) hk hL (by decide)) dL_law_402 ?_
  refine ux_callV (n := 3) (As := [.int (xs (Int32.toNatClampNeg ((nI k) + 1))), .int (xs (Int32.toNatClampNeg ((nI k) + 2))), .int (xs (Int32.toNatClampNeg ((nI k) + 3)))]) C (c_UpAndDown_turn hN hw) (uc_0 hN).1 ((uc_0 hN).2 _ _ _) rfl mw_775 mw_776 mw_777 mw_113 mw_778 ⟨by decide, by decide, by decide +kernel⟩ rfl ⟨Nat.le_of_ble_eq_true rfl, Nat.le_of_ble_eq_true rfl⟩ ⟨hcs.1, hcs.2⟩ rfl (Nat.le_of_ble_eq_true rfl) dL_law_403 (po_i.k fun r a1 hw => ?_)
  refine ux_aload_n C 2 rfl rfl dL_law_406 ?_
  refine ux_aload_n C 0 rfl rfl dL_law_407 ?_
  refine ux_iload_n C 3 rfl rfl dL_law_408 ?_
  refine ux_iconst C (v := 1) (by decide) dL_law_409 ?_
  refine ux_iadd C dL_law_410 ?_
  refine ux_sld C hX hbl hbA (ud_ix (j := 1) hk hL (by decide)) dL_law_411 ?_
  refine ux_aload_n C 0 rfl rfl dL_law_412 ?_
  refine ux_iload_n C 3 rfl rfl dL_law_413 ?_
  refine ux_iconst C (v := 2) (by decide) dL_law_414 ?_
  refine ux_iadd C dL_law_415 ?_
  refine ux_sld C hX hbl hbA (ud_ix (j := 2) hk hL (by decide)) dL_law_416 ?_
  refine ux_aload_n C 0 rfl rfl dL_law_417 ?_
  refine ux_iload_n C 3 rfl rfl dL_law_418 ?_
  refine ux_iconst C (v := 3) (by decide) dL_law_419 ?_
  refine ux_iadd C dL_law_420 ?_
  refine ux_sld C hX hbl hbA (ud_ix (j := 3) hk hL (by decide)) dL_law_421 ?_
  refine ux_callV (n := 3) (As := [.int (xs (Int32.toNatClampNeg ((nI k) + 1))), .int (xs (Int32.toNatClampNeg ((nI k) + 2))), .int (xs (Int32.toNatClampNeg ((nI k) + 3)))]) C (c_Model_turn hN hw) (uc_71 hN).1 ((uc_71 hN).2 _ _ _) rfl mw_1572 mw_1573 mw_1574 mw_124 mw_1575 ⟨by decide, by decide, by decide +kernel⟩ rfl ⟨Nat.le_of_ble_eq_true rfl, Nat.le_of_ble_eq_true rfl⟩ ⟨hcs.1, hcs.2⟩ rfl (Nat.le_of_ble_eq_true rfl) dL_law_422 (po_i.k fun r' a2 hw => ?_)
  obtain ⟨rfl, hJ⟩ := hw
  refine ux_icmp_eq C (tgt := 1710) (by decide) dL_law_425 (fun _ => ?_) (fun h => absurd rfl h)
  refine ux_iinc (v := nI (k + 6)) C 3 rfl (ud_i6 k) (by decide) rfl dL_law_1710 ?_
  refine ux_goto C (tgt := 18) (by decide) dL_law_1713 ?_
  refine ux_pick [1, 2, 3, 0] rfl ?_
  exact kk N _ cs ss hJ (by omega) ⟨by omega, by omega⟩ (by omega)
set_option maxHeartbeats 4000000 in
theorem lc_size {J J' : Nat → ud_St → Prop} (hst : us_size J J') {D : va_G} {G : Nat → Nat} {z N b L k cs ss : Nat} {xs : Nat → Int32} {p : Program} {l : Launch} {e : Env} {s : State} {m : MethodId} {args : Array Value} {below : List Frame} {meth : Method} {c : Code} {Q : State → Prop} {a : ud_St} (C : ud_C D G z N p s m args meth c code 4 R_law ret) (hX : va_X b L xs s s.heap) (hbl : b < s.heap.size) (hbA : ¬ z ≤ b) (hN : 92 ≤ N) (hk : k + 6 ≤ L) (hL : L ≤ 3072) (hcs : cs ≤ room_1.cells ∧ ss ≤ room_1.slots) (hJ : J N a) (kk : ∀ N' a' cs' ss', J' N' a' → cs' ≤ cs + (N' - N) → (N ≤ N' ∧ N' ≤ N + 11) → ss' ≤ ss + 110 → ud_X D G z N' p l e room_1 s m args below meth c 4 cs' ss' Q a' 18 [(0, .ref b), (1, .ref (z + 0)), (2, .ref (z + 71)), (3, .int (nI (k + 6)))] []) : ud_X D G z N p l e room_1 s m args below meth c 4 cs ss Q a 430 [(0, .ref b), (1, .ref (z + 0)), (2, .ref (z + 71)), (3, .int (nI k))] [] := by
  have hw := hst N a  hJ
  refine ux_aload_n C 1 rfl rfl dL_law_430 ?_
  refine ux_callV (n := 0) (As := []) C (c_UpAndDown_size hN hw) (uc_0 hN).1 ((uc_0 hN).2 _ _ _) rfl mw_785 mw_786 mw_787 mw_113 mw_788 ⟨by decide, by decide, by decide +kernel⟩ rfl ⟨Nat.le_of_ble_eq_true rfl, Nat.le_of_ble_eq_true rfl⟩ ⟨hcs.1, hcs.2⟩ rfl (Nat.le_of_ble_eq_true rfl) dL_law_431 (po_ip.k fun r hw => ?_)
  refine ux_aload_n C 2 rfl rfl dL_law_434 ?_
  refine ux_callV (n := 0) (As := []) C (c_Model_size hN hw) (uc_71 hN).1 ((uc_71 hN).2 _ _ _) rfl mw_1578 mw_1579 mw_1580 mw_124 mw_1581 ⟨by decide, by decide, by decide +kernel⟩ rfl ⟨Nat.le_of_ble_eq_true rfl, Nat.le_of_ble_eq_true rfl⟩ ⟨hcs.1, hcs.2⟩ rfl (Nat.le_of_ble_eq_true rfl) dL_law_435 (po_i.k fun r' a2 hw => ?_)
  obtain ⟨rfl, hJ⟩ := hw
  refine ux_icmp_eq C (tgt := 1710) (by decide) dL_law_438 (fun _ => ?_) (fun h => absurd rfl h)
  refine ux_iinc (v := nI (k + 6)) C 3 rfl (ud_i6 k) (by decide) rfl dL_law_1710 ?_
  refine ux_goto C (tgt := 18) (by decide) dL_law_1713 ?_
  refine ux_pick [1, 2, 3, 0] rfl ?_
  exact kk N _ cs ss hJ (by omega) ⟨by omega, by omega⟩ (by omega)
set_option maxHeartbeats 4000000 in
theorem lc_figure {J J' : Nat → ud_St → Prop} (hst : us_figure J J') {D : va_G} {G : Nat → Nat} {z N b L k cs ss : Nat} {xs : Nat → Int32} {p : Program} {l : Launch} {e : Env} {s : State} {m : MethodId} {args : Array Value} {below : List Frame} {meth : Method} {c : Code} {Q : State → Prop} {a : ud_St} (C : ud_C D G z N p s m args meth c code 4 R_law ret) (hX : va_X b L xs s s.heap) (hbl : b < s.heap.size) (hbA : ¬ z ≤ b) (hN : 92 ≤ N) (hk : k + 6 ≤ L) (hL : L ≤ 3072) (hcs : cs ≤ room_1.cells ∧ ss ≤ room_1.slots) (hJ : J N a) (kk : ∀ N' a' cs' ss', J' N' a' → cs' ≤ cs + (N' - N) → (N ≤ N' ∧ N' ≤ N + 11) → ss' ≤ ss + 110 → ud_X D G z N' p l e room_1 s m args below meth c 4 cs' ss' Q a' 18 [(0, .ref b), (1, .ref (z + 0)), (2, .ref (z + 71)), (3, .int (nI (k + 6)))] []) : ud_X D G z N p l e room_1 s m args below meth c 4 cs ss Q a 443 [(0, .ref b), (1, .ref (z + 0)), (2, .ref (z + 71)), (3, .int (nI k))] [] := by
  have hw := hst N a (xs (Int32.toNatClampNeg ((nI k) + 1))) (xs (Int32.toNatClampNeg ((nI k) + 2))) hJ
  refine ux_aload_n C 1 rfl rfl dL_law_443 ?_
  refine ux_aload_n C 0 rfl rfl dL_law_444 ?_
  refine ux_iload_n C 3 rfl rfl dL_law_445 ?_
  refine ux_iconst C (v := 1) (by decide) dL_law_446 ?_
  refine ux_iadd C dL_law_447 ?_
  refine ux_sld C hX hbl hbA (ud_ix (j := 1) hk hL (by decide)) dL_law_448 ?_
  refine ux_aload_n C 0 rfl rfl dL_law_449 ?_
  refine ux_iload_n C 3 rfl rfl dL_law_450 ?_
  refine ux_iconst C (v := 2) (by decide) dL_law_451 ?_
  refine ux_iadd C dL_law_452 ?_
  refine ux_sld C hX hbl hbA (ud_ix (j := 2) hk hL (by decide)) dL_law_453 ?_
  refine ux_callV (n := 2) (As := [.int (xs (Int32.toNatClampNeg ((nI k) + 1))), .int (xs (Int32.toNatClampNeg ((nI k) + 2)))]) C (c_UpAndDown_figure hN hw) (uc_0 hN).1 ((uc_0 hN).2 _ _ _) rfl mw_793 mw_794 mw_795 mw_113 mw_796 ⟨by decide, by decide, by decide +kernel⟩ rfl ⟨Nat.le_of_ble_eq_true rfl, Nat.le_of_ble_eq_true rfl⟩ ⟨hcs.1, hcs.2⟩ rfl (Nat.le_of_ble_eq_true rfl) dL_law_454 (po_ip.k fun r hw => ?_)
  refine ux_aload_n C 2 rfl rfl dL_law_457 ?_
  refine ux_aload_n C 0 rfl rfl dL_law_458 ?_
  refine ux_iload_n C 3 rfl rfl dL_law_459 ?_
  refine ux_iconst C (v := 1) (by decide) dL_law_460 ?_
  refine ux_iadd C dL_law_461 ?_
  refine ux_sld C hX hbl hbA (ud_ix (j := 1) hk hL (by decide)) dL_law_462 ?_
  refine ux_aload_n C 0 rfl rfl dL_law_463 ?_
  refine ux_iload_n C 3 rfl rfl dL_law_464 ?_
  refine ux_iconst C (v := 2) (by decide) dL_law_465 ?_
  refine ux_iadd C dL_law_466 ?_
  refine ux_sld C hX hbl hbA (ud_ix (j := 2) hk hL (by decide)) dL_law_467 ?_
  refine ux_callV (n := 2) (As := [.int (xs (Int32.toNatClampNeg ((nI k) + 1))), .int (xs (Int32.toNatClampNeg ((nI k) + 2)))]) C (c_Model_figure hN hw) (uc_71 hN).1 ((uc_71 hN).2 _ _ _) rfl mw_1586 mw_1587 mw_1588 mw_124 mw_1589 ⟨by decide, by decide, by decide +kernel⟩ rfl ⟨Nat.le_of_ble_eq_true rfl, Nat.le_of_ble_eq_true rfl⟩ ⟨hcs.1, hcs.2⟩ rfl (Nat.le_of_ble_eq_true rfl) dL_law_468 (po_i.k fun r' a2 hw => ?_)
  obtain ⟨rfl, hJ⟩ := hw
  refine ux_icmp_eq C (tgt := 1710) (by decide) dL_law_471 (fun _ => ?_) (fun h => absurd rfl h)
  refine ux_iinc (v := nI (k + 6)) C 3 rfl (ud_i6 k) (by decide) rfl dL_law_1710 ?_
  refine ux_goto C (tgt := 18) (by decide) dL_law_1713 ?_
  refine ux_pick [1, 2, 3, 0] rfl ?_
  exact kk N _ cs ss hJ (by omega) ⟨by omega, by omega⟩ (by omega)
set_option maxHeartbeats 4000000 in
theorem lc_next {J J' : Nat → ud_St → Prop} (hst : us_next J J') {D : va_G} {G : Nat → Nat} {z N b L k cs ss : Nat} {xs : Nat → Int32} {p : Program} {l : Launch} {e : Env} {s : State} {m : MethodId} {args : Array Value} {below : List Frame} {meth : Method} {c : Code} {Q : State → Prop} {a : ud_St} (C : ud_C D G z N p s m args meth c code 4 R_law ret) (hX : va_X b L xs s s.heap) (hbl : b < s.heap.size) (hbA : ¬ z ≤ b) (hN : 92 ≤ N) (hk : k + 6 ≤ L) (hL : L ≤ 3072) (hcs : cs ≤ room_1.cells ∧ ss ≤ room_1.slots) (hJ : J N a) (kk : ∀ N' a' cs' ss', J' N' a' → cs' ≤ cs + (N' - N) → (N ≤ N' ∧ N' ≤ N + 11) → ss' ≤ ss + 110 → ud_X D G z N' p l e room_1 s m args below meth c 4 cs' ss' Q a' 18 [(0, .ref b), (1, .ref (z + 0)), (2, .ref (z + 71)), (3, .int (nI (k + 6)))] []) : ud_X D G z N p l e room_1 s m args below meth c 4 cs ss Q a 476 [(0, .ref b), (1, .ref (z + 0)), (2, .ref (z + 71)), (3, .int (nI k))] [] := by
  have hw := hst N a (xs (Int32.toNatClampNeg ((nI k) + 1))) hJ
  refine ux_aload_n C 1 rfl rfl dL_law_476 ?_
  refine ux_aload_n C 0 rfl rfl dL_law_477 ?_
  refine ux_iload_n C 3 rfl rfl dL_law_478 ?_
  refine ux_iconst C (v := 1) (by decide) dL_law_479 ?_
  refine ux_iadd C dL_law_480 ?_
  refine ux_sld C hX hbl hbA (ud_ix (j := 1) hk hL (by decide)) dL_law_481 ?_
  refine ux_callV (n := 1) (As := [.int (xs (Int32.toNatClampNeg ((nI k) + 1)))]) C (c_UpAndDown_next hN hw) (uc_0 hN).1 ((uc_0 hN).2 _ _ _) rfl mw_802 mw_803 mw_804 mw_113 mw_805 ⟨by decide, by decide, by decide +kernel⟩ rfl ⟨Nat.le_of_ble_eq_true rfl, Nat.le_of_ble_eq_true rfl⟩ ⟨hcs.1, hcs.2⟩ rfl (Nat.le_of_ble_eq_true rfl) dL_law_482 (po_ip.k fun r hw => ?_)
  refine ux_aload_n C 2 rfl rfl dL_law_485 ?_
  refine ux_aload_n C 0 rfl rfl dL_law_486 ?_
  refine ux_iload_n C 3 rfl rfl dL_law_487 ?_
  refine ux_iconst C (v := 1) (by decide) dL_law_488 ?_
  refine ux_iadd C dL_law_489 ?_
  refine ux_sld C hX hbl hbA (ud_ix (j := 1) hk hL (by decide)) dL_law_490 ?_
  refine ux_callV (n := 1) (As := [.int (xs (Int32.toNatClampNeg ((nI k) + 1)))]) C (c_Model_next_ hN hw) (uc_71 hN).1 ((uc_71 hN).2 _ _ _) rfl mw_1598 mw_1599 mw_1600 mw_124 mw_1601 ⟨by decide, by decide, by decide +kernel⟩ rfl ⟨Nat.le_of_ble_eq_true rfl, Nat.le_of_ble_eq_true rfl⟩ ⟨hcs.1, hcs.2⟩ rfl (Nat.le_of_ble_eq_true rfl) dL_law_491 (po_i.k fun r' a2 hw => ?_)
  obtain ⟨rfl, hJ⟩ := hw
  refine ux_icmp_eq C (tgt := 1710) (by decide) dL_law_494 (fun _ => ?_) (fun h => absurd rfl h)
  refine ux_iinc (v := nI (k + 6)) C 3 rfl (ud_i6 k) (by decide) rfl dL_law_1710 ?_
  refine ux_goto C (tgt := 18) (by decide) dL_law_1713 ?_
  refine ux_pick [1, 2, 3, 0] rfl ?_
  exact kk N _ cs ss hJ (by omega) ⟨by omega, by omega⟩ (by omega)
set_option maxHeartbeats 4000000 in
theorem lc_through {J J' : Nat → ud_St → Prop} (hst : us_through J J') {D : va_G} {G : Nat → Nat} {z N b L k cs ss : Nat} {xs : Nat → Int32} {p : Program} {l : Launch} {e : Env} {s : State} {m : MethodId} {args : Array Value} {below : List Frame} {meth : Method} {c : Code} {Q : State → Prop} {a : ud_St} (C : ud_C D G z N p s m args meth c code 4 R_law ret) (hX : va_X b L xs s s.heap) (hbl : b < s.heap.size) (hbA : ¬ z ≤ b) (hN : 92 ≤ N) (hk : k + 6 ≤ L) (hL : L ≤ 3072) (hcs : cs ≤ room_1.cells ∧ ss ≤ room_1.slots) (hJ : J N a) (kk : ∀ N' a' cs' ss', J' N' a' → cs' ≤ cs + (N' - N) → (N ≤ N' ∧ N' ≤ N + 11) → ss' ≤ ss + 110 → ud_X D G z N' p l e room_1 s m args below meth c 4 cs' ss' Q a' 18 [(0, .ref b), (1, .ref (z + 0)), (2, .ref (z + 71)), (3, .int (nI (k + 6)))] []) : ud_X D G z N p l e room_1 s m args below meth c 4 cs ss Q a 499 [(0, .ref b), (1, .ref (z + 0)), (2, .ref (z + 71)), (3, .int (nI k))] [] := by
  have hw := hst N a (xs (Int32.toNatClampNeg ((nI k) + 1))) (xs (Int32.toNatClampNeg ((nI k) + 2))) hJ
  refine ux_aload_n C 1 rfl rfl dL_law_499 ?_
  refine ux_aload_n C 0 rfl rfl dL_law_500 ?_
  refine ux_iload_n C 3 rfl rfl dL_law_501 ?_
  refine ux_iconst C (v := 1) (by decide) dL_law_502 ?_
  refine ux_iadd C dL_law_503 ?_
  refine ux_sld C hX hbl hbA (ud_ix (j := 1) hk hL (by decide)) dL_law_504 ?_
  refine ux_aload_n C 0 rfl rfl dL_law_505 ?_
  refine ux_iload_n C 3 rfl rfl dL_law_506 ?_
  refine ux_iconst C (v := 2) (by decide) dL_law_507 ?_
  refine ux_iadd C dL_law_508 ?_
  refine ux_sld C hX hbl hbA (ud_ix (j := 2) hk hL (by decide)) dL_law_509 ?_
  refine ux_callV (n := 2) (As := [.int (xs (Int32.toNatClampNeg ((nI k) + 1))), .int (xs (Int32.toNatClampNeg ((nI k) + 2)))]) C (c_UpAndDown_through hN hw) (uc_0 hN).1 ((uc_0 hN).2 _ _ _) rfl mw_821 mw_822 mw_823 mw_113 mw_824 ⟨by decide, by decide, by decide +kernel⟩ rfl ⟨Nat.le_of_ble_eq_true rfl, Nat.le_of_ble_eq_true rfl⟩ ⟨hcs.1, hcs.2⟩ rfl (Nat.le_of_ble_eq_true rfl) dL_law_510 (po_ip.k fun r hw => ?_)
  refine ux_aload_n C 2 rfl rfl dL_law_513 ?_
  refine ux_aload_n C 0 rfl rfl dL_law_514 ?_
  refine ux_iload_n C 3 rfl rfl dL_law_515 ?_
  refine ux_iconst C (v := 1) (by decide) dL_law_516 ?_
  refine ux_iadd C dL_law_517 ?_
  refine ux_sld C hX hbl hbA (ud_ix (j := 1) hk hL (by decide)) dL_law_518 ?_
  refine ux_aload_n C 0 rfl rfl dL_law_519 ?_
  refine ux_iload_n C 3 rfl rfl dL_law_520 ?_
  refine ux_iconst C (v := 2) (by decide) dL_law_521 ?_
  refine ux_iadd C dL_law_522 ?_
  refine ux_sld C hX hbl hbA (ud_ix (j := 2) hk hL (by decide)) dL_law_523 ?_
  refine ux_callV (n := 2) (As := [.int (xs (Int32.toNatClampNeg ((nI k) + 1))), .int (xs (Int32.toNatClampNeg ((nI k) + 2)))]) C (c_Model_through hN hw) (uc_71 hN).1 ((uc_71 hN).2 _ _ _) rfl mw_1638 mw_1639 mw_1640 mw_124 mw_1641 ⟨by decide, by decide, by decide +kernel⟩ rfl ⟨Nat.le_of_ble_eq_true rfl, Nat.le_of_ble_eq_true rfl⟩ ⟨hcs.1, hcs.2⟩ rfl (Nat.le_of_ble_eq_true rfl) dL_law_524 (po_i.k fun r' a2 hw => ?_)
  obtain ⟨rfl, hJ⟩ := hw
  refine ux_icmp_eq C (tgt := 1710) (by decide) dL_law_527 (fun _ => ?_) (fun h => absurd rfl h)
  refine ux_iinc (v := nI (k + 6)) C 3 rfl (ud_i6 k) (by decide) rfl dL_law_1710 ?_
  refine ux_goto C (tgt := 18) (by decide) dL_law_1713 ?_
  refine ux_pick [1, 2, 3, 0] rfl ?_
  exact kk N _ cs ss hJ (by omega) ⟨by omega, by omega⟩ (by omega)
set_option maxHeartbeats 4000000 in
theorem lc_after {J J' : Nat → ud_St → Prop} (hst : us_after J J') {D : va_G} {G : Nat → Nat} {z N b L k cs ss : Nat} {xs : Nat → Int32} {p : Program} {l : Launch} {e : Env} {s : State} {m : MethodId} {args : Array Value} {below : List Frame} {meth : Method} {c : Code} {Q : State → Prop} {a : ud_St} (C : ud_C D G z N p s m args meth c code 4 R_law ret) (hX : va_X b L xs s s.heap) (hbl : b < s.heap.size) (hbA : ¬ z ≤ b) (hN : 92 ≤ N) (hk : k + 6 ≤ L) (hL : L ≤ 3072) (hcs : cs ≤ room_1.cells ∧ ss ≤ room_1.slots) (hJ : J N a) (kk : ∀ N' a' cs' ss', J' N' a' → cs' ≤ cs + (N' - N) → (N ≤ N' ∧ N' ≤ N + 11) → ss' ≤ ss + 110 → ud_X D G z N' p l e room_1 s m args below meth c 4 cs' ss' Q a' 18 [(0, .ref b), (1, .ref (z + 0)), (2, .ref (z + 71)), (3, .int (nI (k + 6)))] []) : ud_X D G z N p l e room_1 s m args below meth c 4 cs ss Q a 532 [(0, .ref b), (1, .ref (z + 0)), (2, .ref (z + 71)), (3, .int (nI k))] [] := by
  have hw := hst N a (xs (Int32.toNatClampNeg ((nI k) + 1))) (xs (Int32.toNatClampNeg ((nI k) + 2))) hJ
  refine ux_aload_n C 1 rfl rfl dL_law_532 ?_
  refine ux_aload_n C 0 rfl rfl dL_law_533 ?_
  refine ux_iload_n C 3 rfl rfl dL_law_534 ?_
  refine ux_iconst C (v := 1) (by decide) dL_law_535 ?_
  refine ux_iadd C dL_law_536 ?_
  refine ux_sld C hX hbl hbA (ud_ix (j := 1) hk hL (by decide)) dL_law_537 ?_
  refine ux_aload_n C 0 rfl rfl dL_law_538 ?_
  refine ux_iload_n C 3 rfl rfl dL_law_539 ?_
  refine ux_iconst C (v := 2) (by decide) dL_law_540 ?_
  refine ux_iadd C dL_law_541 ?_
  refine ux_sld C hX hbl hbA (ud_ix (j := 2) hk hL (by decide)) dL_law_542 ?_
  refine ux_callV (n := 2) (As := [.int (xs (Int32.toNatClampNeg ((nI k) + 1))), .int (xs (Int32.toNatClampNeg ((nI k) + 2)))]) C (c_UpAndDown_after hN hw) (uc_0 hN).1 ((uc_0 hN).2 _ _ _) rfl mw_825 mw_826 mw_827 mw_113 mw_828 ⟨by decide, by decide, by decide +kernel⟩ rfl ⟨Nat.le_of_ble_eq_true rfl, Nat.le_of_ble_eq_true rfl⟩ ⟨hcs.1, hcs.2⟩ rfl (Nat.le_of_ble_eq_true rfl) dL_law_543 (po_i.k fun r a1 hw => ?_)
  refine ux_aload_n C 2 rfl rfl dL_law_546 ?_
  refine ux_aload_n C 0 rfl rfl dL_law_547 ?_
  refine ux_iload_n C 3 rfl rfl dL_law_548 ?_
  refine ux_iconst C (v := 1) (by decide) dL_law_549 ?_
  refine ux_iadd C dL_law_550 ?_
  refine ux_sld C hX hbl hbA (ud_ix (j := 1) hk hL (by decide)) dL_law_551 ?_
  refine ux_aload_n C 0 rfl rfl dL_law_552 ?_
  refine ux_iload_n C 3 rfl rfl dL_law_553 ?_
  refine ux_iconst C (v := 2) (by decide) dL_law_554 ?_
  refine ux_iadd C dL_law_555 ?_
  refine ux_sld C hX hbl hbA (ud_ix (j := 2) hk hL (by decide)) dL_law_556 ?_
  refine ux_callV (n := 2) (As := [.int (xs (Int32.toNatClampNeg ((nI k) + 1))), .int (xs (Int32.toNatClampNeg ((nI k) + 2)))]) C (c_Model_after hN hw) (uc_71 hN).1 ((uc_71 hN).2 _ _ _) rfl mw_1642 mw_1643 mw_1644 mw_124 mw_1645 ⟨by decide, by decide, by decide +kernel⟩ rfl ⟨Nat.le_of_ble_eq_true rfl, Nat.le_of_ble_eq_true rfl⟩ ⟨hcs.1, hcs.2⟩ rfl (Nat.le_of_ble_eq_true rfl) dL_law_557 (po_i.k fun r' a2 hw => ?_)
  obtain ⟨rfl, hJ⟩ := hw
  refine ux_icmp_eq C (tgt := 1710) (by decide) dL_law_560 (fun _ => ?_) (fun h => absurd rfl h)
  refine ux_iinc (v := nI (k + 6)) C 3 rfl (ud_i6 k) (by decide) rfl dL_law_1710 ?_
  refine ux_goto C (tgt := 18) (by decide) dL_law_1713 ?_
  refine ux_pick [1, 2, 3, 0] rfl ?_
  exact kk N _ cs ss hJ (by omega) ⟨by omega, by omega⟩ (by omega)
set_option maxHeartbeats 4000000 in
theorem lc_ends {J J' : Nat → ud_St → Prop} (hst : us_ends J J') {D : va_G} {G : Nat → Nat} {z N b L k cs ss : Nat} {xs : Nat → Int32} {p : Program} {l : Launch} {e : Env} {s : State} {m : MethodId} {args : Array Value} {below : List Frame} {meth : Method} {c : Code} {Q : State → Prop} {a : ud_St} (C : ud_C D G z N p s m args meth c code 4 R_law ret) (hX : va_X b L xs s s.heap) (hbl : b < s.heap.size) (hbA : ¬ z ≤ b) (hN : 92 ≤ N) (hk : k + 6 ≤ L) (hL : L ≤ 3072) (hcs : cs ≤ room_1.cells ∧ ss ≤ room_1.slots) (hJ : J N a) (kk : ∀ N' a' cs' ss', J' N' a' → cs' ≤ cs + (N' - N) → (N ≤ N' ∧ N' ≤ N + 11) → ss' ≤ ss + 110 → ud_X D G z N' p l e room_1 s m args below meth c 4 cs' ss' Q a' 18 [(0, .ref b), (1, .ref (z + 0)), (2, .ref (z + 71)), (3, .int (nI (k + 6)))] []) : ud_X D G z N p l e room_1 s m args below meth c 4 cs ss Q a 565 [(0, .ref b), (1, .ref (z + 0)), (2, .ref (z + 71)), (3, .int (nI k))] [] := by
  have hw := hst N a (xs (Int32.toNatClampNeg ((nI k) + 1))) (xs (Int32.toNatClampNeg ((nI k) + 2))) hJ
  refine ux_aload_n C 1 rfl rfl dL_law_565 ?_
  refine ux_aload_n C 0 rfl rfl dL_law_566 ?_
  refine ux_iload_n C 3 rfl rfl dL_law_567 ?_
  refine ux_iconst C (v := 1) (by decide) dL_law_568 ?_
  refine ux_iadd C dL_law_569 ?_
  refine ux_sld C hX hbl hbA (ud_ix (j := 1) hk hL (by decide)) dL_law_570 ?_
  refine ux_aload_n C 0 rfl rfl dL_law_571 ?_
  refine ux_iload_n C 3 rfl rfl dL_law_572 ?_
  refine ux_iconst C (v := 2) (by decide) dL_law_573 ?_
  refine ux_iadd C dL_law_574 ?_
  refine ux_sld C hX hbl hbA (ud_ix (j := 2) hk hL (by decide)) dL_law_575 ?_
  refine ux_callV (n := 2) (As := [.int (xs (Int32.toNatClampNeg ((nI k) + 1))), .int (xs (Int32.toNatClampNeg ((nI k) + 2)))]) C (c_UpAndDown_ends hN hw) (uc_0 hN).1 ((uc_0 hN).2 _ _ _) rfl mw_901 mw_902 mw_903 mw_113 mw_904 ⟨by decide, by decide, by decide +kernel⟩ rfl ⟨Nat.le_of_ble_eq_true rfl, Nat.le_of_ble_eq_true rfl⟩ ⟨hcs.1, hcs.2⟩ rfl (Nat.le_of_ble_eq_true rfl) dL_law_576 (po_i.k fun r a1 hw => ?_)
  refine ux_aload_n C 2 rfl rfl dL_law_579 ?_
  refine ux_aload_n C 0 rfl rfl dL_law_580 ?_
  refine ux_iload_n C 3 rfl rfl dL_law_581 ?_
  refine ux_iconst C (v := 1) (by decide) dL_law_582 ?_
  refine ux_iadd C dL_law_583 ?_
  refine ux_sld C hX hbl hbA (ud_ix (j := 1) hk hL (by decide)) dL_law_584 ?_
  refine ux_aload_n C 0 rfl rfl dL_law_585 ?_
  refine ux_iload_n C 3 rfl rfl dL_law_586 ?_
  refine ux_iconst C (v := 2) (by decide) dL_law_587 ?_
  refine ux_iadd C dL_law_588 ?_
  refine ux_sld C hX hbl hbA (ud_ix (j := 2) hk hL (by decide)) dL_law_589 ?_
  refine ux_callV (n := 2) (As := [.int (xs (Int32.toNatClampNeg ((nI k) + 1))), .int (xs (Int32.toNatClampNeg ((nI k) + 2)))]) C (c_Model_ends_ hN hw) (uc_71 hN).1 ((uc_71 hN).2 _ _ _) rfl mw_1671 mw_1672 mw_1673 mw_124 mw_1674 ⟨by decide, by decide, by decide +kernel⟩ rfl ⟨Nat.le_of_ble_eq_true rfl, Nat.le_of_ble_eq_true rfl⟩ ⟨hcs.1, hcs.2⟩ rfl (Nat.le_of_ble_eq_true rfl) dL_law_590 (po_i.k fun r' a2 hw => ?_)
  obtain ⟨rfl, hJ⟩ := hw
  refine ux_icmp_eq C (tgt := 1710) (by decide) dL_law_593 (fun _ => ?_) (fun h => absurd rfl h)
  refine ux_iinc (v := nI (k + 6)) C 3 rfl (ud_i6 k) (by decide) rfl dL_law_1710 ?_
  refine ux_goto C (tgt := 18) (by decide) dL_law_1713 ?_
  refine ux_pick [1, 2, 3, 0] rfl ?_
  exact kk N _ cs ss hJ (by omega) ⟨by omega, by omega⟩ (by omega)
set_option maxHeartbeats 4000000 in
theorem lc_rounds {J J' : Nat → ud_St → Prop} (hst : us_rounds J J') {D : va_G} {G : Nat → Nat} {z N b L k cs ss : Nat} {xs : Nat → Int32} {p : Program} {l : Launch} {e : Env} {s : State} {m : MethodId} {args : Array Value} {below : List Frame} {meth : Method} {c : Code} {Q : State → Prop} {a : ud_St} (C : ud_C D G z N p s m args meth c code 4 R_law ret) (hX : va_X b L xs s s.heap) (hbl : b < s.heap.size) (hbA : ¬ z ≤ b) (hN : 92 ≤ N) (hk : k + 6 ≤ L) (hL : L ≤ 3072) (hcs : cs ≤ room_1.cells ∧ ss ≤ room_1.slots) (hJ : J N a) (kk : ∀ N' a' cs' ss', J' N' a' → cs' ≤ cs + (N' - N) → (N ≤ N' ∧ N' ≤ N + 11) → ss' ≤ ss + 110 → ud_X D G z N' p l e room_1 s m args below meth c 4 cs' ss' Q a' 18 [(0, .ref b), (1, .ref (z + 0)), (2, .ref (z + 71)), (3, .int (nI (k + 6)))] []) : ud_X D G z N p l e room_1 s m args below meth c 4 cs ss Q a 598 [(0, .ref b), (1, .ref (z + 0)), (2, .ref (z + 71)), (3, .int (nI k))] [] := by
  have hw := hst N a (xs (Int32.toNatClampNeg ((nI k) + 1))) hJ
  refine ux_aload_n C 1 rfl rfl dL_law_598 ?_
  refine ux_aload_n C 0 rfl rfl dL_law_599 ?_
  refine ux_iload_n C 3 rfl rfl dL_law_600 ?_
  refine ux_iconst C (v := 1) (by decide) dL_law_601 ?_
  refine ux_iadd C dL_law_602 ?_
  refine ux_sld C hX hbl hbA (ud_ix (j := 1) hk hL (by decide)) dL_law_603 ?_
  refine ux_callV (n := 1) (As := [.int (xs (Int32.toNatClampNeg ((nI k) + 1)))]) C (c_UpAndDown_rounds hN hw) (uc_0 hN).1 ((uc_0 hN).2 _ _ _) rfl mw_909 mw_910 mw_911 mw_113 mw_912 ⟨by decide, by decide, by decide +kernel⟩ rfl ⟨Nat.le_of_ble_eq_true rfl, Nat.le_of_ble_eq_true rfl⟩ ⟨hcs.1, hcs.2⟩ rfl (Nat.le_of_ble_eq_true rfl) dL_law_604 (po_i.k fun r a1 hw => ?_)
  refine ux_aload_n C 2 rfl rfl dL_law_607 ?_
  refine ux_aload_n C 0 rfl rfl dL_law_608 ?_
  refine ux_iload_n C 3 rfl rfl dL_law_609 ?_
  refine ux_iconst C (v := 1) (by decide) dL_law_610 ?_
  refine ux_iadd C dL_law_611 ?_
  refine ux_sld C hX hbl hbA (ud_ix (j := 1) hk hL (by decide)) dL_law_612 ?_
  refine ux_callV (n := 1) (As := [.int (xs (Int32.toNatClampNeg ((nI k) + 1)))]) C (c_Model_rounds hN hw) (uc_71 hN).1 ((uc_71 hN).2 _ _ _) rfl mw_1675 mw_1676 mw_1677 mw_124 mw_1678 ⟨by decide, by decide, by decide +kernel⟩ rfl ⟨Nat.le_of_ble_eq_true rfl, Nat.le_of_ble_eq_true rfl⟩ ⟨hcs.1, hcs.2⟩ rfl (Nat.le_of_ble_eq_true rfl) dL_law_613 (po_i.k fun r' a2 hw => ?_)
  obtain ⟨rfl, hJ⟩ := hw
  refine ux_icmp_eq C (tgt := 1710) (by decide) dL_law_616 (fun _ => ?_) (fun h => absurd rfl h)
  refine ux_iinc (v := nI (k + 6)) C 3 rfl (ud_i6 k) (by decide) rfl dL_law_1710 ?_
  refine ux_goto C (tgt := 18) (by decide) dL_law_1713 ?_
  refine ux_pick [1, 2, 3, 0] rfl ?_
  exact kk N _ cs ss hJ (by omega) ⟨by omega, by omega⟩ (by omega)
set_option maxHeartbeats 4000000 in
theorem lc_round {J J' : Nat → ud_St → Prop} (hst : us_round J J') {D : va_G} {G : Nat → Nat} {z N b L k cs ss : Nat} {xs : Nat → Int32} {p : Program} {l : Launch} {e : Env} {s : State} {m : MethodId} {args : Array Value} {below : List Frame} {meth : Method} {c : Code} {Q : State → Prop} {a : ud_St} (C : ud_C D G z N p s m args meth c code 4 R_law ret) (hX : va_X b L xs s s.heap) (hbl : b < s.heap.size) (hbA : ¬ z ≤ b) (hN : 92 ≤ N) (hk : k + 6 ≤ L) (hL : L ≤ 3072) (hcs : cs ≤ room_1.cells ∧ ss ≤ room_1.slots) (hJ : J N a) (kk : ∀ N' a' cs' ss', J' N' a' → cs' ≤ cs + (N' - N) → (N ≤ N' ∧ N' ≤ N + 11) → ss' ≤ ss + 110 → ud_X D G z N' p l e room_1 s m args below meth c 4 cs' ss' Q a' 18 [(0, .ref b), (1, .ref (z + 0)), (2, .ref (z + 71)), (3, .int (nI (k + 6)))] []) : ud_X D G z N p l e room_1 s m args below meth c 4 cs ss Q a 621 [(0, .ref b), (1, .ref (z + 0)), (2, .ref (z + 71)), (3, .int (nI k))] [] := by
  have hw := hst N a (xs (Int32.toNatClampNeg ((nI k) + 1))) (xs (Int32.toNatClampNeg ((nI k) + 2))) hJ
  refine ux_aload_n C 1 rfl rfl dL_law_621 ?_
  refine ux_aload_n C 0 rfl rfl dL_law_622 ?_
  refine ux_iload_n C 3 rfl rfl dL_law_623 ?_
  refine ux_iconst C (v := 1) (by decide) dL_law_624 ?_
  refine ux_iadd C dL_law_625 ?_
  refine ux_sld C hX hbl hbA (ud_ix (j := 1) hk hL (by decide)) dL_law_626 ?_
  refine ux_aload_n C 0 rfl rfl dL_law_627 ?_
  refine ux_iload_n C 3 rfl rfl dL_law_628 ?_
  refine ux_iconst C (v := 2) (by decide) dL_law_629 ?_
  refine ux_iadd C dL_law_630 ?_
  refine ux_sld C hX hbl hbA (ud_ix (j := 2) hk hL (by decide)) dL_law_631 ?_
  refine ux_callV (n := 2) (As := [.int (xs (Int32.toNatClampNeg ((nI k) + 1))), .int (xs (Int32.toNatClampNeg ((nI k) + 2)))]) C (c_UpAndDown_round hN hw) (uc_0 hN).1 ((uc_0 hN).2 _ _ _) rfl mw_913 mw_914 mw_915 mw_113 mw_916 ⟨by decide, by decide, by decide +kernel⟩ rfl ⟨Nat.le_of_ble_eq_true rfl, Nat.le_of_ble_eq_true rfl⟩ ⟨hcs.1, hcs.2⟩ rfl (Nat.le_of_ble_eq_true rfl) dL_law_632 (po_i.k fun r a1 hw => ?_)
  refine ux_aload_n C 2 rfl rfl dL_law_635 ?_
  refine ux_aload_n C 0 rfl rfl dL_law_636 ?_
  refine ux_iload_n C 3 rfl rfl dL_law_637 ?_
  refine ux_iconst C (v := 1) (by decide) dL_law_638 ?_
  refine ux_iadd C dL_law_639 ?_
  refine ux_sld C hX hbl hbA (ud_ix (j := 1) hk hL (by decide)) dL_law_640 ?_
  refine ux_aload_n C 0 rfl rfl dL_law_641 ?_
  refine ux_iload_n C 3 rfl rfl dL_law_642 ?_
  refine ux_iconst C (v := 2) (by decide) dL_law_643 ?_
  refine ux_iadd C dL_law_644 ?_
  refine ux_sld C hX hbl hbA (ud_ix (j := 2) hk hL (by decide)) dL_law_645 ?_
  refine ux_callV (n := 2) (As := [.int (xs (Int32.toNatClampNeg ((nI k) + 1))), .int (xs (Int32.toNatClampNeg ((nI k) + 2)))]) C (c_Model_round hN hw) (uc_71 hN).1 ((uc_71 hN).2 _ _ _) rfl mw_1691 mw_1692 mw_1693 mw_124 mw_1694 ⟨by decide, by decide, by decide +kernel⟩ rfl ⟨Nat.le_of_ble_eq_true rfl, Nat.le_of_ble_eq_true rfl⟩ ⟨hcs.1, hcs.2⟩ rfl (Nat.le_of_ble_eq_true rfl) dL_law_646 (po_i.k fun r' a2 hw => ?_)
  obtain ⟨rfl, hJ⟩ := hw
  refine ux_icmp_eq C (tgt := 1710) (by decide) dL_law_649 (fun _ => ?_) (fun h => absurd rfl h)
  refine ux_iinc (v := nI (k + 6)) C 3 rfl (ud_i6 k) (by decide) rfl dL_law_1710 ?_
  refine ux_goto C (tgt := 18) (by decide) dL_law_1713 ?_
  refine ux_pick [1, 2, 3, 0] rfl ?_
  exact kk N _ cs ss hJ (by omega) ⟨by omega, by omega⟩ (by omega)
set_option maxHeartbeats 4000000 in
theorem lc_on {J J' : Nat → ud_St → Prop} (hst : us_on J J') {D : va_G} {G : Nat → Nat} {z N b L k cs ss : Nat} {xs : Nat → Int32} {p : Program} {l : Launch} {e : Env} {s : State} {m : MethodId} {args : Array Value} {below : List Frame} {meth : Method} {c : Code} {Q : State → Prop} {a : ud_St} (C : ud_C D G z N p s m args meth c code 4 R_law ret) (hX : va_X b L xs s s.heap) (hbl : b < s.heap.size) (hbA : ¬ z ≤ b) (hN : 92 ≤ N) (hk : k + 6 ≤ L) (hL : L ≤ 3072) (hcs : cs ≤ room_1.cells ∧ ss ≤ room_1.slots) (hJ : J N a) (kk : ∀ N' a' cs' ss', J' N' a' → cs' ≤ cs + (N' - N) → (N ≤ N' ∧ N' ≤ N + 11) → ss' ≤ ss + 110 → ud_X D G z N' p l e room_1 s m args below meth c 4 cs' ss' Q a' 18 [(0, .ref b), (1, .ref (z + 0)), (2, .ref (z + 71)), (3, .int (nI (k + 6)))] []) : ud_X D G z N p l e room_1 s m args below meth c 4 cs ss Q a 654 [(0, .ref b), (1, .ref (z + 0)), (2, .ref (z + 71)), (3, .int (nI k))] [] := by
  have hw := hst N a (xs (Int32.toNatClampNeg ((nI k) + 1))) (xs (Int32.toNatClampNeg ((nI k) + 2))) hJ
  refine ux_aload_n C 1 rfl rfl dL_law_654 ?_
  refine ux_aload_n C 0 rfl rfl dL_law_655 ?_
  refine ux_iload_n C 3 rfl rfl dL_law_656 ?_
  refine ux_iconst C (v := 1) (by decide) dL_law_657 ?_
  refine ux_iadd C dL_law_658 ?_
  refine ux_sld C hX hbl hbA (ud_ix (j := 1) hk hL (by decide)) dL_law_659 ?_
  refine ux_aload_n C 0 rfl rfl dL_law_660 ?_
  refine ux_iload_n C 3 rfl rfl dL_law_661 ?_
  refine ux_iconst C (v := 2) (by decide) dL_law_662 ?_
  refine ux_iadd C dL_law_663 ?_
  refine ux_sld C hX hbl hbA (ud_ix (j := 2) hk hL (by decide)) dL_law_664 ?_
  refine ux_callV (n := 2) (As := [.int (xs (Int32.toNatClampNeg ((nI k) + 1))), .int (xs (Int32.toNatClampNeg ((nI k) + 2)))]) C (c_UpAndDown_on hN hw) (uc_0 hN).1 ((uc_0 hN).2 _ _ _) rfl mw_925 mw_926 mw_927 mw_113 mw_928 ⟨by decide, by decide, by decide +kernel⟩ rfl ⟨Nat.le_of_ble_eq_true rfl, Nat.le_of_ble_eq_true rfl⟩ ⟨hcs.1, hcs.2⟩ rfl (Nat.le_of_ble_eq_true rfl) dL_law_665 (po_i.k fun r a1 hw => ?_)
  refine ux_aload_n C 2 rfl rfl dL_law_668 ?_
  refine ux_aload_n C 0 rfl rfl dL_law_669 ?_
  refine ux_iload_n C 3 rfl rfl dL_law_670 ?_
  refine ux_iconst C (v := 1) (by decide) dL_law_671 ?_
  refine ux_iadd C dL_law_672 ?_
  refine ux_sld C hX hbl hbA (ud_ix (j := 1) hk hL (by decide)) dL_law_673 ?_
  refine ux_aload_n C 0 rfl rfl dL_law_674 ?_
  refine ux_iload_n C 3 rfl rfl dL_law_675 ?_
  refine ux_iconst C (v := 2) (by decide) dL_law_676 ?_
  refine ux_iadd C dL_law_677 ?_
  refine ux_sld C hX hbl hbA (ud_ix (j := 2) hk hL (by decide)) dL_law_678 ?_
  refine ux_callV (n := 2) (As := [.int (xs (Int32.toNatClampNeg ((nI k) + 1))), .int (xs (Int32.toNatClampNeg ((nI k) + 2)))]) C (c_Model_on hN hw) (uc_71 hN).1 ((uc_71 hN).2 _ _ _) rfl mw_1699 mw_1700 mw_1701 mw_124 mw_1702 ⟨by decide, by decide, by decide +kernel⟩ rfl ⟨Nat.le_of_ble_eq_true rfl, Nat.le_of_ble_eq_true rfl⟩ ⟨hcs.1, hcs.2⟩ rfl (Nat.le_of_ble_eq_true rfl) dL_law_679 (po_i.k fun r' a2 hw => ?_)
  obtain ⟨rfl, hJ⟩ := hw
  refine ux_icmp_eq C (tgt := 1710) (by decide) dL_law_682 (fun _ => ?_) (fun h => absurd rfl h)
  refine ux_iinc (v := nI (k + 6)) C 3 rfl (ud_i6 k) (by decide) rfl dL_law_1710 ?_
  refine ux_goto C (tgt := 18) (by decide) dL_law_1713 ?_
  refine ux_pick [1, 2, 3, 0] rfl ?_
  exact kk N _ cs ss hJ (by omega) ⟨by omega, by omega⟩ (by omega)
set_option maxHeartbeats 4000000 in
theorem lc_most {J J' : Nat → ud_St → Prop} (hst : us_most J J') {D : va_G} {G : Nat → Nat} {z N b L k cs ss : Nat} {xs : Nat → Int32} {p : Program} {l : Launch} {e : Env} {s : State} {m : MethodId} {args : Array Value} {below : List Frame} {meth : Method} {c : Code} {Q : State → Prop} {a : ud_St} (C : ud_C D G z N p s m args meth c code 4 R_law ret) (hX : va_X b L xs s s.heap) (hbl : b < s.heap.size) (hbA : ¬ z ≤ b) (hN : 92 ≤ N) (hk : k + 6 ≤ L) (hL : L ≤ 3072) (hcs : cs ≤ room_1.cells ∧ ss ≤ room_1.slots) (hJ : J N a) (kk : ∀ N' a' cs' ss', J' N' a' → cs' ≤ cs + (N' - N) → (N ≤ N' ∧ N' ≤ N + 11) → ss' ≤ ss + 110 → ud_X D G z N' p l e room_1 s m args below meth c 4 cs' ss' Q a' 18 [(0, .ref b), (1, .ref (z + 0)), (2, .ref (z + 71)), (3, .int (nI (k + 6)))] []) : ud_X D G z N p l e room_1 s m args below meth c 4 cs ss Q a 687 [(0, .ref b), (1, .ref (z + 0)), (2, .ref (z + 71)), (3, .int (nI k))] [] := by
  have hw := hst N a (xs (Int32.toNatClampNeg ((nI k) + 1))) hJ
  refine ux_aload_n C 1 rfl rfl dL_law_687 ?_
  refine ux_aload_n C 0 rfl rfl dL_law_688 ?_
  refine ux_iload_n C 3 rfl rfl dL_law_689 ?_
  refine ux_iconst C (v := 1) (by decide) dL_law_690 ?_
  refine ux_iadd C dL_law_691 ?_
  refine ux_sld C hX hbl hbA (ud_ix (j := 1) hk hL (by decide)) dL_law_692 ?_
  refine ux_callV (n := 1) (As := [.int (xs (Int32.toNatClampNeg ((nI k) + 1)))]) C (c_UpAndDown_most hN hw) (uc_0 hN).1 ((uc_0 hN).2 _ _ _) rfl mw_929 mw_930 mw_931 mw_113 mw_932 ⟨by decide, by decide, by decide +kernel⟩ rfl ⟨Nat.le_of_ble_eq_true rfl, Nat.le_of_ble_eq_true rfl⟩ ⟨hcs.1, hcs.2⟩ rfl (Nat.le_of_ble_eq_true rfl) dL_law_693 (po_i.k fun r a1 hw => ?_)
  refine ux_aload_n C 2 rfl rfl dL_law_696 ?_
  refine ux_aload_n C 0 rfl rfl dL_law_697 ?_
  refine ux_iload_n C 3 rfl rfl dL_law_698 ?_
  refine ux_iconst C (v := 1) (by decide) dL_law_699 ?_
  refine ux_iadd C dL_law_700 ?_
  refine ux_sld C hX hbl hbA (ud_ix (j := 1) hk hL (by decide)) dL_law_701 ?_
  refine ux_callV (n := 1) (As := [.int (xs (Int32.toNatClampNeg ((nI k) + 1)))]) C (c_Model_most hN hw) (uc_71 hN).1 ((uc_71 hN).2 _ _ _) rfl mw_1703 mw_1704 mw_1705 mw_124 mw_1706 ⟨by decide, by decide, by decide +kernel⟩ rfl ⟨Nat.le_of_ble_eq_true rfl, Nat.le_of_ble_eq_true rfl⟩ ⟨hcs.1, hcs.2⟩ rfl (Nat.le_of_ble_eq_true rfl) dL_law_702 (po_i.k fun r' a2 hw => ?_)
  obtain ⟨rfl, hJ⟩ := hw
  refine ux_icmp_eq C (tgt := 1710) (by decide) dL_law_705 (fun _ => ?_) (fun h => absurd rfl h)
  refine ux_iinc (v := nI (k + 6)) C 3 rfl (ud_i6 k) (by decide) rfl dL_law_1710 ?_
  refine ux_goto C (tgt := 18) (by decide) dL_law_1713 ?_
  refine ux_pick [1, 2, 3, 0] rfl ?_
  exact kk N _ cs ss hJ (by omega) ⟨by omega, by omega⟩ (by omega)
set_option maxHeartbeats 4000000 in
theorem lc_take {J J' : Nat → ud_St → Prop} (hst : us_take J J') {D : va_G} {G : Nat → Nat} {z N b L k cs ss : Nat} {xs : Nat → Int32} {p : Program} {l : Launch} {e : Env} {s : State} {m : MethodId} {args : Array Value} {below : List Frame} {meth : Method} {c : Code} {Q : State → Prop} {a : ud_St} (C : ud_C D G z N p s m args meth c code 4 R_law ret) (hX : va_X b L xs s s.heap) (hbl : b < s.heap.size) (hbA : ¬ z ≤ b) (hN : 92 ≤ N) (hk : k + 6 ≤ L) (hL : L ≤ 3072) (hcs : cs ≤ room_1.cells ∧ ss ≤ room_1.slots) (hJ : J N a) (kk : ∀ N' a' cs' ss', J' N' a' → cs' ≤ cs + (N' - N) → (N ≤ N' ∧ N' ≤ N + 11) → ss' ≤ ss + 110 → ud_X D G z N' p l e room_1 s m args below meth c 4 cs' ss' Q a' 18 [(0, .ref b), (1, .ref (z + 0)), (2, .ref (z + 71)), (3, .int (nI (k + 6)))] []) : ud_X D G z N p l e room_1 s m args below meth c 4 cs ss Q a 710 [(0, .ref b), (1, .ref (z + 0)), (2, .ref (z + 71)), (3, .int (nI k))] [] := by
  have hw := hst N a (xs (Int32.toNatClampNeg ((nI k) + 1))) hJ
  refine ux_aload_n C 1 rfl rfl dL_law_710 ?_
  refine ux_aload_n C 0 rfl rfl dL_law_711 ?_
  refine ux_iload_n C 3 rfl rfl dL_law_712 ?_
  refine ux_iconst C (v := 1) (by decide) dL_law_713 ?_
  refine ux_iadd C dL_law_714 ?_
  refine ux_sld C hX hbl hbA (ud_ix (j := 1) hk hL (by decide)) dL_law_715 ?_
  refine ux_callV (n := 1) (As := [.int (xs (Int32.toNatClampNeg ((nI k) + 1)))]) C (c_UpAndDown_take hN hw) (uc_0 hN).1 ((uc_0 hN).2 _ _ _) rfl mw_941 mw_942 mw_943 mw_113 mw_944 ⟨by decide, by decide, by decide +kernel⟩ rfl ⟨Nat.le_of_ble_eq_true rfl, Nat.le_of_ble_eq_true rfl⟩ ⟨hcs.1, hcs.2⟩ rfl (Nat.le_of_ble_eq_true rfl) dL_law_716 (po_i.k fun r a1 hw => ?_)
  refine ux_aload_n C 2 rfl rfl dL_law_719 ?_
  refine ux_aload_n C 0 rfl rfl dL_law_720 ?_
  refine ux_iload_n C 3 rfl rfl dL_law_721 ?_
  refine ux_iconst C (v := 1) (by decide) dL_law_722 ?_
  refine ux_iadd C dL_law_723 ?_
  refine ux_sld C hX hbl hbA (ud_ix (j := 1) hk hL (by decide)) dL_law_724 ?_
  refine ux_callV (n := 1) (As := [.int (xs (Int32.toNatClampNeg ((nI k) + 1)))]) C (c_Model_take hN hw) (uc_71 hN).1 ((uc_71 hN).2 _ _ _) rfl mw_1716 mw_1717 mw_1718 mw_124 mw_1719 ⟨by decide, by decide, by decide +kernel⟩ rfl ⟨Nat.le_of_ble_eq_true rfl, Nat.le_of_ble_eq_true rfl⟩ ⟨hcs.1, hcs.2⟩ rfl (Nat.le_of_ble_eq_true rfl) dL_law_725 (po_i.k fun r' a2 hw => ?_)
  obtain ⟨rfl, hJ⟩ := hw
  refine ux_icmp_eq C (tgt := 1710) (by decide) dL_law_728 (fun _ => ?_) (fun h => absurd rfl h)
  refine ux_iinc (v := nI (k + 6)) C 3 rfl (ud_i6 k) (by decide) rfl dL_law_1710 ?_
  refine ux_goto C (tgt := 18) (by decide) dL_law_1713 ?_
  refine ux_pick [1, 2, 3, 0] rfl ?_
  exact kk N _ cs ss hJ (by omega) ⟨by omega, by omega⟩ (by omega)
set_option maxHeartbeats 4000000 in
theorem lc_gardens {J J' : Nat → ud_St → Prop} (hst : us_gardens J J') {D : va_G} {G : Nat → Nat} {z N b L k cs ss : Nat} {xs : Nat → Int32} {p : Program} {l : Launch} {e : Env} {s : State} {m : MethodId} {args : Array Value} {below : List Frame} {meth : Method} {c : Code} {Q : State → Prop} {a : ud_St} (C : ud_C D G z N p s m args meth c code 4 R_law ret) (hX : va_X b L xs s s.heap) (hbl : b < s.heap.size) (hbA : ¬ z ≤ b) (hN : 92 ≤ N) (hk : k + 6 ≤ L) (hL : L ≤ 3072) (hcs : cs ≤ room_1.cells ∧ ss ≤ room_1.slots) (hJ : J N a) (kk : ∀ N' a' cs' ss', J' N' a' → cs' ≤ cs + (N' - N) → (N ≤ N' ∧ N' ≤ N + 11) → ss' ≤ ss + 110 → ud_X D G z N' p l e room_1 s m args below meth c 4 cs' ss' Q a' 18 [(0, .ref b), (1, .ref (z + 0)), (2, .ref (z + 71)), (3, .int (nI (k + 6)))] []) : ud_X D G z N p l e room_1 s m args below meth c 4 cs ss Q a 733 [(0, .ref b), (1, .ref (z + 0)), (2, .ref (z + 71)), (3, .int (nI k))] [] := by
  have hw := hst N a  hJ
  refine ux_aload_n C 1 rfl rfl dL_law_733 ?_
  refine ux_callV (n := 0) (As := []) C (c_UpAndDown_gardens hN hw) (uc_0 hN).1 ((uc_0 hN).2 _ _ _) rfl mw_945 mw_946 mw_947 mw_113 mw_948 ⟨by decide, by decide, by decide +kernel⟩ rfl ⟨Nat.le_of_ble_eq_true rfl, Nat.le_of_ble_eq_true rfl⟩ ⟨hcs.1, hcs.2⟩ rfl (Nat.le_of_ble_eq_true rfl) dL_law_734 (po_i.k fun r a1 hw => ?_)
  refine ux_aload_n C 2 rfl rfl dL_law_737 ?_
  refine ux_callV (n := 0) (As := []) C (c_Model_gardens hN hw) (uc_71 hN).1 ((uc_71 hN).2 _ _ _) rfl mw_1720 mw_1721 mw_1722 mw_124 mw_1723 ⟨by decide, by decide, by decide +kernel⟩ rfl ⟨Nat.le_of_ble_eq_true rfl, Nat.le_of_ble_eq_true rfl⟩ ⟨hcs.1, hcs.2⟩ rfl (Nat.le_of_ble_eq_true rfl) dL_law_738 (po_i.k fun r' a2 hw => ?_)
  obtain ⟨rfl, hJ⟩ := hw
  refine ux_icmp_eq C (tgt := 1710) (by decide) dL_law_741 (fun _ => ?_) (fun h => absurd rfl h)
  refine ux_iinc (v := nI (k + 6)) C 3 rfl (ud_i6 k) (by decide) rfl dL_law_1710 ?_
  refine ux_goto C (tgt := 18) (by decide) dL_law_1713 ?_
  refine ux_pick [1, 2, 3, 0] rfl ?_
  exact kk N _ cs ss hJ (by omega) ⟨by omega, by omega⟩ (by omega)
set_option maxHeartbeats 4000000 in
theorem lc_garden {J J' : Nat → ud_St → Prop} (hst : us_garden J J') {D : va_G} {G : Nat → Nat} {z N b L k cs ss : Nat} {xs : Nat → Int32} {p : Program} {l : Launch} {e : Env} {s : State} {m : MethodId} {args : Array Value} {below : List Frame} {meth : Method} {c : Code} {Q : State → Prop} {a : ud_St} (C : ud_C D G z N p s m args meth c code 4 R_law ret) (hX : va_X b L xs s s.heap) (hbl : b < s.heap.size) (hbA : ¬ z ≤ b) (hN : 92 ≤ N) (hk : k + 6 ≤ L) (hL : L ≤ 3072) (hcs : cs ≤ room_1.cells ∧ ss ≤ room_1.slots) (hJ : J N a) (kk : ∀ N' a' cs' ss', J' N' a' → cs' ≤ cs + (N' - N) → (N ≤ N' ∧ N' ≤ N + 11) → ss' ≤ ss + 110 → ud_X D G z N' p l e room_1 s m args below meth c 4 cs' ss' Q a' 18 [(0, .ref b), (1, .ref (z + 0)), (2, .ref (z + 71)), (3, .int (nI (k + 6)))] []) : ud_X D G z N p l e room_1 s m args below meth c 4 cs ss Q a 746 [(0, .ref b), (1, .ref (z + 0)), (2, .ref (z + 71)), (3, .int (nI k))] [] := by
  have hw := hst N a (xs (Int32.toNatClampNeg ((nI k) + 1))) hJ
  refine ux_aload_n C 1 rfl rfl dL_law_746 ?_
  refine ux_aload_n C 0 rfl rfl dL_law_747 ?_
  refine ux_iload_n C 3 rfl rfl dL_law_748 ?_
  refine ux_iconst C (v := 1) (by decide) dL_law_749 ?_
  refine ux_iadd C dL_law_750 ?_
  refine ux_sld C hX hbl hbA (ud_ix (j := 1) hk hL (by decide)) dL_law_751 ?_
  refine ux_callV (n := 1) (As := [.int (xs (Int32.toNatClampNeg ((nI k) + 1)))]) C (c_UpAndDown_garden hN hw) (uc_0 hN).1 ((uc_0 hN).2 _ _ _) rfl mw_957 mw_958 mw_959 mw_113 mw_960 ⟨by decide, by decide, by decide +kernel⟩ rfl ⟨Nat.le_of_ble_eq_true rfl, Nat.le_of_ble_eq_true rfl⟩ ⟨hcs.1, hcs.2⟩ rfl (Nat.le_of_ble_eq_true rfl) dL_law_752 (po_i.k fun r a1 hw => ?_)
  refine ux_aload_n C 2 rfl rfl dL_law_755 ?_
  refine ux_aload_n C 0 rfl rfl dL_law_756 ?_
  refine ux_iload_n C 3 rfl rfl dL_law_757 ?_
  refine ux_iconst C (v := 1) (by decide) dL_law_758 ?_
  refine ux_iadd C dL_law_759 ?_
  refine ux_sld C hX hbl hbA (ud_ix (j := 1) hk hL (by decide)) dL_law_760 ?_
  refine ux_callV (n := 1) (As := [.int (xs (Int32.toNatClampNeg ((nI k) + 1)))]) C (c_Model_garden hN hw) (uc_71 hN).1 ((uc_71 hN).2 _ _ _) rfl mw_1728 mw_1729 mw_1730 mw_124 mw_1731 ⟨by decide, by decide, by decide +kernel⟩ rfl ⟨Nat.le_of_ble_eq_true rfl, Nat.le_of_ble_eq_true rfl⟩ ⟨hcs.1, hcs.2⟩ rfl (Nat.le_of_ble_eq_true rfl) dL_law_761 (po_i.k fun r' a2 hw => ?_)
  obtain ⟨rfl, hJ⟩ := hw
  refine ux_icmp_eq C (tgt := 1710) (by decide) dL_law_764 (fun _ => ?_) (fun h => absurd rfl h)
  refine ux_iinc (v := nI (k + 6)) C 3 rfl (ud_i6 k) (by decide) rfl dL_law_1710 ?_
  refine ux_goto C (tgt := 18) (by decide) dL_law_1713 ?_
  refine ux_pick [1, 2, 3, 0] rfl ?_
  exact kk N _ cs ss hJ (by omega) ⟨by omega, by omega⟩ (by omega)
set_option maxHeartbeats 4000000 in
theorem lc_from {J J' : Nat → ud_St → Prop} (hst : us_from J J') {D : va_G} {G : Nat → Nat} {z N b L k cs ss : Nat} {xs : Nat → Int32} {p : Program} {l : Launch} {e : Env} {s : State} {m : MethodId} {args : Array Value} {below : List Frame} {meth : Method} {c : Code} {Q : State → Prop} {a : ud_St} (C : ud_C D G z N p s m args meth c code 4 R_law ret) (hX : va_X b L xs s s.heap) (hbl : b < s.heap.size) (hbA : ¬ z ≤ b) (hN : 92 ≤ N) (hk : k + 6 ≤ L) (hL : L ≤ 3072) (hcs : cs ≤ room_1.cells ∧ ss ≤ room_1.slots) (hJ : J N a) (kk : ∀ N' a' cs' ss', J' N' a' → cs' ≤ cs + (N' - N) → (N ≤ N' ∧ N' ≤ N + 11) → ss' ≤ ss + 110 → ud_X D G z N' p l e room_1 s m args below meth c 4 cs' ss' Q a' 18 [(0, .ref b), (1, .ref (z + 0)), (2, .ref (z + 71)), (3, .int (nI (k + 6)))] []) : ud_X D G z N p l e room_1 s m args below meth c 4 cs ss Q a 769 [(0, .ref b), (1, .ref (z + 0)), (2, .ref (z + 71)), (3, .int (nI k))] [] := by
  have hw := hst N a (xs (Int32.toNatClampNeg ((nI k) + 1))) (xs (Int32.toNatClampNeg ((nI k) + 2))) hJ
  refine ux_aload_n C 1 rfl rfl dL_law_769 ?_
  refine ux_aload_n C 0 rfl rfl dL_law_770 ?_
  refine ux_iload_n C 3 rfl rfl dL_law_771 ?_
  refine ux_iconst C (v := 1) (by decide) dL_law_772 ?_
  refine ux_iadd C dL_law_773 ?_
  refine ux_sld C hX hbl hbA (ud_ix (j := 1) hk hL (by decide)) dL_law_774 ?_
  refine ux_aload_n C 0 rfl rfl dL_law_775 ?_
  refine ux_iload_n C 3 rfl rfl dL_law_776 ?_
  refine ux_iconst C (v := 2) (by decide) dL_law_777 ?_
  refine ux_iadd C dL_law_778 ?_
  refine ux_sld C hX hbl hbA (ud_ix (j := 2) hk hL (by decide)) dL_law_779 ?_
  refine ux_callV (n := 2) (As := [.int (xs (Int32.toNatClampNeg ((nI k) + 1))), .int (xs (Int32.toNatClampNeg ((nI k) + 2)))]) C (c_UpAndDown_from hN hw) (uc_0 hN).1 ((uc_0 hN).2 _ _ _) rfl mw_965 mw_966 mw_967 mw_113 mw_968 ⟨by decide, by decide, by decide +kernel⟩ rfl ⟨Nat.le_of_ble_eq_true rfl, Nat.le_of_ble_eq_true rfl⟩ ⟨hcs.1, hcs.2⟩ rfl (Nat.le_of_ble_eq_true rfl) dL_law_780 (po_i.k fun r a1 hw => ?_)
  refine ux_aload_n C 2 rfl rfl dL_law_783 ?_
  refine ux_aload_n C 0 rfl rfl dL_law_784 ?_
  refine ux_iload_n C 3 rfl rfl dL_law_785 ?_
  refine ux_iconst C (v := 1) (by decide) dL_law_786 ?_
  refine ux_iadd C dL_law_787 ?_
  refine ux_sld C hX hbl hbA (ud_ix (j := 1) hk hL (by decide)) dL_law_788 ?_
  refine ux_aload_n C 0 rfl rfl dL_law_789 ?_
  refine ux_iload_n C 3 rfl rfl dL_law_790 ?_
  refine ux_iconst C (v := 2) (by decide) dL_law_791 ?_
  refine ux_iadd C dL_law_792 ?_
  refine ux_sld C hX hbl hbA (ud_ix (j := 2) hk hL (by decide)) dL_law_793 ?_
  refine ux_callV (n := 2) (As := [.int (xs (Int32.toNatClampNeg ((nI k) + 1))), .int (xs (Int32.toNatClampNeg ((nI k) + 2)))]) C (c_Model_from hN hw) (uc_71 hN).1 ((uc_71 hN).2 _ _ _) rfl mw_1732 mw_1733 mw_1734 mw_124 mw_1735 ⟨by decide, by decide, by decide +kernel⟩ rfl ⟨Nat.le_of_ble_eq_true rfl, Nat.le_of_ble_eq_true rfl⟩ ⟨hcs.1, hcs.2⟩ rfl (Nat.le_of_ble_eq_true rfl) dL_law_794 (po_i.k fun r' a2 hw => ?_)
  obtain ⟨rfl, hJ⟩ := hw
  refine ux_icmp_eq C (tgt := 1710) (by decide) dL_law_797 (fun _ => ?_) (fun h => absurd rfl h)
  refine ux_iinc (v := nI (k + 6)) C 3 rfl (ud_i6 k) (by decide) rfl dL_law_1710 ?_
  refine ux_goto C (tgt := 18) (by decide) dL_law_1713 ?_
  refine ux_pick [1, 2, 3, 0] rfl ?_
  exact kk N _ cs ss hJ (by omega) ⟨by omega, by omega⟩ (by omega)
set_option maxHeartbeats 4000000 in
theorem lc_back {J J' : Nat → ud_St → Prop} (hst : us_back J J') {D : va_G} {G : Nat → Nat} {z N b L k cs ss : Nat} {xs : Nat → Int32} {p : Program} {l : Launch} {e : Env} {s : State} {m : MethodId} {args : Array Value} {below : List Frame} {meth : Method} {c : Code} {Q : State → Prop} {a : ud_St} (C : ud_C D G z N p s m args meth c code 4 R_law ret) (hX : va_X b L xs s s.heap) (hbl : b < s.heap.size) (hbA : ¬ z ≤ b) (hN : 92 ≤ N) (hk : k + 6 ≤ L) (hL : L ≤ 3072) (hcs : cs ≤ room_1.cells ∧ ss ≤ room_1.slots) (hJ : J N a) (kk : ∀ N' a' cs' ss', J' N' a' → cs' ≤ cs + (N' - N) → (N ≤ N' ∧ N' ≤ N + 11) → ss' ≤ ss + 110 → ud_X D G z N' p l e room_1 s m args below meth c 4 cs' ss' Q a' 18 [(0, .ref b), (1, .ref (z + 0)), (2, .ref (z + 71)), (3, .int (nI (k + 6)))] []) : ud_X D G z N p l e room_1 s m args below meth c 4 cs ss Q a 802 [(0, .ref b), (1, .ref (z + 0)), (2, .ref (z + 71)), (3, .int (nI k))] [] := by
  have hw := hst N a (xs (Int32.toNatClampNeg ((nI k) + 1))) (xs (Int32.toNatClampNeg ((nI k) + 2))) hJ
  refine ux_aload_n C 1 rfl rfl dL_law_802 ?_
  refine ux_aload_n C 0 rfl rfl dL_law_803 ?_
  refine ux_iload_n C 3 rfl rfl dL_law_804 ?_
  refine ux_iconst C (v := 1) (by decide) dL_law_805 ?_
  refine ux_iadd C dL_law_806 ?_
  refine ux_sld C hX hbl hbA (ud_ix (j := 1) hk hL (by decide)) dL_law_807 ?_
  refine ux_aload_n C 0 rfl rfl dL_law_808 ?_
  refine ux_iload_n C 3 rfl rfl dL_law_809 ?_
  refine ux_iconst C (v := 2) (by decide) dL_law_810 ?_
  refine ux_iadd C dL_law_811 ?_
  refine ux_sld C hX hbl hbA (ud_ix (j := 2) hk hL (by decide)) dL_law_812 ?_
  refine ux_callV (n := 2) (As := [.int (xs (Int32.toNatClampNeg ((nI k) + 1))), .int (xs (Int32.toNatClampNeg ((nI k) + 2)))]) C (c_UpAndDown_back hN hw) (uc_0 hN).1 ((uc_0 hN).2 _ _ _) rfl mw_974 mw_975 mw_976 mw_113 mw_977 ⟨by decide, by decide, by decide +kernel⟩ rfl ⟨Nat.le_of_ble_eq_true rfl, Nat.le_of_ble_eq_true rfl⟩ ⟨hcs.1, hcs.2⟩ rfl (Nat.le_of_ble_eq_true rfl) dL_law_813 (po_i.k fun r a1 hw => ?_)
  refine ux_aload_n C 2 rfl rfl dL_law_816 ?_
  refine ux_aload_n C 0 rfl rfl dL_law_817 ?_
  refine ux_iload_n C 3 rfl rfl dL_law_818 ?_
  refine ux_iconst C (v := 1) (by decide) dL_law_819 ?_
  refine ux_iadd C dL_law_820 ?_
  refine ux_sld C hX hbl hbA (ud_ix (j := 1) hk hL (by decide)) dL_law_821 ?_
  refine ux_aload_n C 0 rfl rfl dL_law_822 ?_
  refine ux_iload_n C 3 rfl rfl dL_law_823 ?_
  refine ux_iconst C (v := 2) (by decide) dL_law_824 ?_
  refine ux_iadd C dL_law_825 ?_
  refine ux_sld C hX hbl hbA (ud_ix (j := 2) hk hL (by decide)) dL_law_826 ?_
  refine ux_callV (n := 2) (As := [.int (xs (Int32.toNatClampNeg ((nI k) + 1))), .int (xs (Int32.toNatClampNeg ((nI k) + 2)))]) C (c_Model_back hN hw) (uc_71 hN).1 ((uc_71 hN).2 _ _ _) rfl mw_1740 mw_1741 mw_1742 mw_124 mw_1743 ⟨by decide, by decide, by decide +kernel⟩ rfl ⟨Nat.le_of_ble_eq_true rfl, Nat.le_of_ble_eq_true rfl⟩ ⟨hcs.1, hcs.2⟩ rfl (Nat.le_of_ble_eq_true rfl) dL_law_827 (po_i.k fun r' a2 hw => ?_)
  obtain ⟨rfl, hJ⟩ := hw
  refine ux_icmp_eq C (tgt := 1710) (by decide) dL_law_830 (fun _ => ?_) (fun h => absurd rfl h)
  refine ux_iinc (v := nI (k + 6)) C 3 rfl (ud_i6 k) (by decide) rfl dL_law_1710 ?_
  refine ux_goto C (tgt := 18) (by decide) dL_law_1713 ?_
  refine ux_pick [1, 2, 3, 0] rfl ?_
  exact kk N _ cs ss hJ (by omega) ⟨by omega, by omega⟩ (by omega)
set_option maxHeartbeats 4000000 in
theorem lc_meet {J J' : Nat → ud_St → Prop} (hst : us_meet J J') {D : va_G} {G : Nat → Nat} {z N b L k cs ss : Nat} {xs : Nat → Int32} {p : Program} {l : Launch} {e : Env} {s : State} {m : MethodId} {args : Array Value} {below : List Frame} {meth : Method} {c : Code} {Q : State → Prop} {a : ud_St} (C : ud_C D G z N p s m args meth c code 4 R_law ret) (hX : va_X b L xs s s.heap) (hbl : b < s.heap.size) (hbA : ¬ z ≤ b) (hN : 92 ≤ N) (hk : k + 6 ≤ L) (hL : L ≤ 3072) (hcs : cs ≤ room_1.cells ∧ ss ≤ room_1.slots) (hJ : J N a) (kk : ∀ N' a' cs' ss', J' N' a' → cs' ≤ cs + (N' - N) → (N ≤ N' ∧ N' ≤ N + 11) → ss' ≤ ss + 110 → ud_X D G z N' p l e room_1 s m args below meth c 4 cs' ss' Q a' 18 [(0, .ref b), (1, .ref (z + 0)), (2, .ref (z + 71)), (3, .int (nI (k + 6)))] []) : ud_X D G z N p l e room_1 s m args below meth c 4 cs ss Q a 835 [(0, .ref b), (1, .ref (z + 0)), (2, .ref (z + 71)), (3, .int (nI k))] [] := by
  have hw := hst N a (xs (Int32.toNatClampNeg ((nI k) + 1))) (xs (Int32.toNatClampNeg ((nI k) + 2))) hJ
  refine ux_aload_n C 1 rfl rfl dL_law_835 ?_
  refine ux_aload_n C 0 rfl rfl dL_law_836 ?_
  refine ux_iload_n C 3 rfl rfl dL_law_837 ?_
  refine ux_iconst C (v := 1) (by decide) dL_law_838 ?_
  refine ux_iadd C dL_law_839 ?_
  refine ux_sld C hX hbl hbA (ud_ix (j := 1) hk hL (by decide)) dL_law_840 ?_
  refine ux_aload_n C 0 rfl rfl dL_law_841 ?_
  refine ux_iload_n C 3 rfl rfl dL_law_842 ?_
  refine ux_iconst C (v := 2) (by decide) dL_law_843 ?_
  refine ux_iadd C dL_law_844 ?_
  refine ux_sld C hX hbl hbA (ud_ix (j := 2) hk hL (by decide)) dL_law_845 ?_
  refine ux_callV (n := 2) (As := [.int (xs (Int32.toNatClampNeg ((nI k) + 1))), .int (xs (Int32.toNatClampNeg ((nI k) + 2)))]) C (c_UpAndDown_meet hN hw) (uc_0 hN).1 ((uc_0 hN).2 _ _ _) rfl mw_990 mw_991 mw_992 mw_113 mw_993 ⟨by decide, by decide, by decide +kernel⟩ rfl ⟨Nat.le_of_ble_eq_true rfl, Nat.le_of_ble_eq_true rfl⟩ ⟨hcs.1, hcs.2⟩ rfl (Nat.le_of_ble_eq_true rfl) dL_law_846 (po_i.k fun r a1 hw => ?_)
  refine ux_aload_n C 2 rfl rfl dL_law_849 ?_
  refine ux_aload_n C 0 rfl rfl dL_law_850 ?_
  refine ux_iload_n C 3 rfl rfl dL_law_851 ?_
  refine ux_iconst C (v := 1) (by decide) dL_law_852 ?_
  refine ux_iadd C dL_law_853 ?_
  refine ux_sld C hX hbl hbA (ud_ix (j := 1) hk hL (by decide)) dL_law_854 ?_
  refine ux_aload_n C 0 rfl rfl dL_law_855 ?_
  refine ux_iload_n C 3 rfl rfl dL_law_856 ?_
  refine ux_iconst C (v := 2) (by decide) dL_law_857 ?_
  refine ux_iadd C dL_law_858 ?_
  refine ux_sld C hX hbl hbA (ud_ix (j := 2) hk hL (by decide)) dL_law_859 ?_
  refine ux_callV (n := 2) (As := [.int (xs (Int32.toNatClampNeg ((nI k) + 1))), .int (xs (Int32.toNatClampNeg ((nI k) + 2)))]) C (c_Model_meet hN hw) (uc_71 hN).1 ((uc_71 hN).2 _ _ _) rfl mw_1745 mw_1746 mw_1747 mw_124 mw_1748 ⟨by decide, by decide, by decide +kernel⟩ rfl ⟨Nat.le_of_ble_eq_true rfl, Nat.le_of_ble_eq_true rfl⟩ ⟨hcs.1, hcs.2⟩ rfl (Nat.le_of_ble_eq_true rfl) dL_law_860 (po_i.k fun r' a2 hw => ?_)
  obtain ⟨rfl, hJ⟩ := hw
  refine ux_icmp_eq C (tgt := 1710) (by decide) dL_law_863 (fun _ => ?_) (fun h => absurd rfl h)
  refine ux_iinc (v := nI (k + 6)) C 3 rfl (ud_i6 k) (by decide) rfl dL_law_1710 ?_
  refine ux_goto C (tgt := 18) (by decide) dL_law_1713 ?_
  refine ux_pick [1, 2, 3, 0] rfl ?_
  exact kk N _ cs ss hJ (by omega) ⟨by omega, by omega⟩ (by omega)
set_option maxHeartbeats 4000000 in
theorem lc_join {J J' : Nat → ud_St → Prop} (hst : us_join J J') {D : va_G} {G : Nat → Nat} {z N b L k cs ss : Nat} {xs : Nat → Int32} {p : Program} {l : Launch} {e : Env} {s : State} {m : MethodId} {args : Array Value} {below : List Frame} {meth : Method} {c : Code} {Q : State → Prop} {a : ud_St} (C : ud_C D G z N p s m args meth c code 4 R_law ret) (hX : va_X b L xs s s.heap) (hbl : b < s.heap.size) (hbA : ¬ z ≤ b) (hN : 92 ≤ N) (hk : k + 6 ≤ L) (hL : L ≤ 3072) (hcs : cs ≤ room_1.cells ∧ ss ≤ room_1.slots) (hJ : J N a) (kk : ∀ N' a' cs' ss', J' N' a' → cs' ≤ cs + (N' - N) → (N ≤ N' ∧ N' ≤ N + 11) → ss' ≤ ss + 110 → ud_X D G z N' p l e room_1 s m args below meth c 4 cs' ss' Q a' 18 [(0, .ref b), (1, .ref (z + 0)), (2, .ref (z + 71)), (3, .int (nI (k + 6)))] []) : ud_X D G z N p l e room_1 s m args below meth c 4 cs ss Q a 868 [(0, .ref b), (1, .ref (z + 0)), (2, .ref (z + 71)), (3, .int (nI k))] [] := by
  have hw := hst N a (xs (Int32.toNatClampNeg ((nI k) + 1))) (xs (Int32.toNatClampNeg ((nI k) + 2))) (xs (Int32.toNatClampNeg ((nI k) + 3))) hJ
  refine ux_aload_n C 1 rfl rfl dL_law_868 ?_
  refine ux_aload_n C 0 rfl rfl dL_law_869 ?_
  refine ux_iload_n C 3 rfl rfl dL_law_870 ?_
  refine ux_iconst C (v := 1) (by decide) dL_law_871 ?_
  refine ux_iadd C dL_law_872 ?_
  refine ux_sld C hX hbl hbA (ud_ix (j := 1) hk hL (by decide)) dL_law_873 ?_
  refine ux_aload_n C 0 rfl rfl dL_law_874 ?_
  refine ux_iload_n C 3 rfl rfl dL_law_875 ?_
  refine ux_iconst C (v := 2) (by decide) dL_law_876 ?_
  refine ux_iadd C dL_law_877 ?_
  refine ux_sld C hX hbl hbA (ud_ix (j := 2) hk hL (by decide)) dL_law_878 ?_
  refine ux_aload_n C 0 rfl rfl dL_law_879 ?_
  refine ux_iload_n C 3 rfl rfl dL_law_880 ?_
  refine ux_iconst C (v := 3) (by decide) dL_law_881 ?_
  refine ux_iadd C dL_law_882 ?_
  refine ux_sld C hX hbl hbA (ud_ix (j := 3) hk hL (by decide)) dL_law_883 ?_
  refine ux_callV (n := 3) (As := [.int (xs (Int32.toNatClampNeg ((nI k) + 1))), .int (xs (Int32.toNatClampNeg ((nI k) + 2))), .int (xs (Int32.toNatClampNeg ((nI k) + 3)))]) C (c_UpAndDown_join hN hw) (uc_0 hN).1 ((uc_0 hN).2 _ _ _) rfl mw_998 mw_999 mw_1000 mw_113 mw_1001 ⟨by decide, by decide, by decide +kernel⟩ rfl ⟨Nat.le_of_ble_eq_true rfl, Nat.le_of_ble_eq_true rfl⟩ ⟨hcs.1, hcs.2⟩ rfl (Nat.le_of_ble_eq_true rfl) dL_law_884 (po_i.k fun r a1 hw => ?_)
  refine ux_aload_n C 2 rfl rfl dL_law_887 ?_
  refine ux_aload_n C 0 rfl rfl dL_law_888 ?_
  refine ux_iload_n C 3 rfl rfl dL_law_889 ?_
  refine ux_iconst C (v := 1) (by decide) dL_law_890 ?_
  refine ux_iadd C dL_law_891 ?_
  refine ux_sld C hX hbl hbA (ud_ix (j := 1) hk hL (by decide)) dL_law_892 ?_
  refine ux_aload_n C 0 rfl rfl dL_law_893 ?_
  refine ux_iload_n C 3 rfl rfl dL_law_894 ?_
  refine ux_iconst C (v := 2) (by decide) dL_law_895 ?_
  refine ux_iadd C dL_law_896 ?_
  refine ux_sld C hX hbl hbA (ud_ix (j := 2) hk hL (by decide)) dL_law_897 ?_
  refine ux_aload_n C 0 rfl rfl dL_law_898 ?_
  refine ux_iload_n C 3 rfl rfl dL_law_899 ?_
  refine ux_iconst C (v := 3) (by decide) dL_law_900 ?_
  refine ux_iadd C dL_law_901 ?_
  refine ux_sld C hX hbl hbA (ud_ix (j := 3) hk hL (by decide)) dL_law_902 ?_
  refine ux_callV (n := 3) (As := [.int (xs (Int32.toNatClampNeg ((nI k) + 1))), .int (xs (Int32.toNatClampNeg ((nI k) + 2))), .int (xs (Int32.toNatClampNeg ((nI k) + 3)))]) C (c_Model_join hN hw) (uc_71 hN).1 ((uc_71 hN).2 _ _ _) rfl mw_1749 mw_1750 mw_1751 mw_124 mw_1752 ⟨by decide, by decide, by decide +kernel⟩ rfl ⟨Nat.le_of_ble_eq_true rfl, Nat.le_of_ble_eq_true rfl⟩ ⟨hcs.1, hcs.2⟩ rfl (Nat.le_of_ble_eq_true rfl) dL_law_903 (po_i.k fun r' a2 hw => ?_)
  obtain ⟨rfl, hJ⟩ := hw
  refine ux_icmp_eq C (tgt := 1710) (by decide) dL_law_906 (fun _ => ?_) (fun h => absurd rfl h)
  refine ux_iinc (v := nI (k + 6)) C 3 rfl (ud_i6 k) (by decide) rfl dL_law_1710 ?_
  refine ux_goto C (tgt := 18) (by decide) dL_law_1713 ?_
  refine ux_pick [1, 2, 3, 0] rfl ?_
  exact kk N _ cs ss hJ (by omega) ⟨by omega, by omega⟩ (by omega)
set_option maxHeartbeats 4000000 in
theorem lc_kinds {J J' : Nat → ud_St → Prop} (hst : us_kinds J J') {D : va_G} {G : Nat → Nat} {z N b L k cs ss : Nat} {xs : Nat → Int32} {p : Program} {l : Launch} {e : Env} {s : State} {m : MethodId} {args : Array Value} {below : List Frame} {meth : Method} {c : Code} {Q : State → Prop} {a : ud_St} (C : ud_C D G z N p s m args meth c code 4 R_law ret) (hX : va_X b L xs s s.heap) (hbl : b < s.heap.size) (hbA : ¬ z ≤ b) (hN : 92 ≤ N) (hk : k + 6 ≤ L) (hL : L ≤ 3072) (hcs : cs ≤ room_1.cells ∧ ss ≤ room_1.slots) (hJ : J N a) (kk : ∀ N' a' cs' ss', J' N' a' → cs' ≤ cs + (N' - N) → (N ≤ N' ∧ N' ≤ N + 11) → ss' ≤ ss + 110 → ud_X D G z N' p l e room_1 s m args below meth c 4 cs' ss' Q a' 18 [(0, .ref b), (1, .ref (z + 0)), (2, .ref (z + 71)), (3, .int (nI (k + 6)))] []) : ud_X D G z N p l e room_1 s m args below meth c 4 cs ss Q a 911 [(0, .ref b), (1, .ref (z + 0)), (2, .ref (z + 71)), (3, .int (nI k))] [] := by
  have hw := hst N a  hJ
  refine ux_aload_n C 1 rfl rfl dL_law_911 ?_
  refine ux_callV (n := 0) (As := []) C (c_UpAndDown_kinds hN hw) (uc_0 hN).1 ((uc_0 hN).2 _ _ _) rfl mw_1006 mw_1007 mw_1008 mw_113 mw_1009 ⟨by decide, by decide, by decide +kernel⟩ rfl ⟨Nat.le_of_ble_eq_true rfl, Nat.le_of_ble_eq_true rfl⟩ ⟨hcs.1, hcs.2⟩ rfl (Nat.le_of_ble_eq_true rfl) dL_law_912 (po_ip.k fun r hw => ?_)
  refine ux_aload_n C 2 rfl rfl dL_law_915 ?_
  refine ux_callV (n := 0) (As := []) C (c_Model_kinds hN hw) (uc_71 hN).1 ((uc_71 hN).2 _ _ _) rfl mw_1753 mw_1754 mw_1755 mw_124 mw_1756 ⟨by decide, by decide, by decide +kernel⟩ rfl ⟨Nat.le_of_ble_eq_true rfl, Nat.le_of_ble_eq_true rfl⟩ ⟨hcs.1, hcs.2⟩ rfl (Nat.le_of_ble_eq_true rfl) dL_law_916 (po_i.k fun r' a2 hw => ?_)
  obtain ⟨rfl, hJ⟩ := hw
  refine ux_icmp_eq C (tgt := 1710) (by decide) dL_law_919 (fun _ => ?_) (fun h => absurd rfl h)
  refine ux_iinc (v := nI (k + 6)) C 3 rfl (ud_i6 k) (by decide) rfl dL_law_1710 ?_
  refine ux_goto C (tgt := 18) (by decide) dL_law_1713 ?_
  refine ux_pick [1, 2, 3, 0] rfl ?_
  exact kk N _ cs ss hJ (by omega) ⟨by omega, by omega⟩ (by omega)
set_option maxHeartbeats 4000000 in
theorem lc_kind {J J' : Nat → ud_St → Prop} (hst : us_kind J J') {D : va_G} {G : Nat → Nat} {z N b L k cs ss : Nat} {xs : Nat → Int32} {p : Program} {l : Launch} {e : Env} {s : State} {m : MethodId} {args : Array Value} {below : List Frame} {meth : Method} {c : Code} {Q : State → Prop} {a : ud_St} (C : ud_C D G z N p s m args meth c code 4 R_law ret) (hX : va_X b L xs s s.heap) (hbl : b < s.heap.size) (hbA : ¬ z ≤ b) (hN : 92 ≤ N) (hk : k + 6 ≤ L) (hL : L ≤ 3072) (hcs : cs ≤ room_1.cells ∧ ss ≤ room_1.slots) (hJ : J N a) (kk : ∀ N' a' cs' ss', J' N' a' → cs' ≤ cs + (N' - N) → (N ≤ N' ∧ N' ≤ N + 11) → ss' ≤ ss + 110 → ud_X D G z N' p l e room_1 s m args below meth c 4 cs' ss' Q a' 18 [(0, .ref b), (1, .ref (z + 0)), (2, .ref (z + 71)), (3, .int (nI (k + 6)))] []) : ud_X D G z N p l e room_1 s m args below meth c 4 cs ss Q a 924 [(0, .ref b), (1, .ref (z + 0)), (2, .ref (z + 71)), (3, .int (nI k))] [] := by
  have hw := hst N a (xs (Int32.toNatClampNeg ((nI k) + 1))) (xs (Int32.toNatClampNeg ((nI k) + 2))) hJ
  refine ux_aload_n C 1 rfl rfl dL_law_924 ?_
  refine ux_aload_n C 0 rfl rfl dL_law_925 ?_
  refine ux_iload_n C 3 rfl rfl dL_law_926 ?_
  refine ux_iconst C (v := 1) (by decide) dL_law_927 ?_
  refine ux_iadd C dL_law_928 ?_
  refine ux_sld C hX hbl hbA (ud_ix (j := 1) hk hL (by decide)) dL_law_929 ?_
  refine ux_aload_n C 0 rfl rfl dL_law_930 ?_
  refine ux_iload_n C 3 rfl rfl dL_law_931 ?_
  refine ux_iconst C (v := 2) (by decide) dL_law_932 ?_
  refine ux_iadd C dL_law_933 ?_
  refine ux_sld C hX hbl hbA (ud_ix (j := 2) hk hL (by decide)) dL_law_934 ?_
  refine ux_callV (n := 2) (As := [.int (xs (Int32.toNatClampNeg ((nI k) + 1))), .int (xs (Int32.toNatClampNeg ((nI k) + 2)))]) C (c_UpAndDown_kind hN hw) (uc_0 hN).1 ((uc_0 hN).2 _ _ _) rfl mw_1018 mw_1019 mw_1020 mw_113 mw_1021 ⟨by decide, by decide, by decide +kernel⟩ rfl ⟨Nat.le_of_ble_eq_true rfl, Nat.le_of_ble_eq_true rfl⟩ ⟨hcs.1, hcs.2⟩ rfl (Nat.le_of_ble_eq_true rfl) dL_law_935 (po_ip.k fun r hw => ?_)
  refine ux_aload_n C 2 rfl rfl dL_law_938 ?_
  refine ux_aload_n C 0 rfl rfl dL_law_939 ?_
  refine ux_iload_n C 3 rfl rfl dL_law_940 ?_
  refine ux_iconst C (v := 1) (by decide) dL_law_941 ?_
  refine ux_iadd C dL_law_942 ?_
  refine ux_sld C hX hbl hbA (ud_ix (j := 1) hk hL (by decide)) dL_law_943 ?_
  refine ux_aload_n C 0 rfl rfl dL_law_944 ?_
  refine ux_iload_n C 3 rfl rfl dL_law_945 ?_
  refine ux_iconst C (v := 2) (by decide) dL_law_946 ?_
  refine ux_iadd C dL_law_947 ?_
  refine ux_sld C hX hbl hbA (ud_ix (j := 2) hk hL (by decide)) dL_law_948 ?_
  refine ux_callV (n := 2) (As := [.int (xs (Int32.toNatClampNeg ((nI k) + 1))), .int (xs (Int32.toNatClampNeg ((nI k) + 2)))]) C (c_Model_kind hN hw) (uc_71 hN).1 ((uc_71 hN).2 _ _ _) rfl mw_1757 mw_1758 mw_1759 mw_124 mw_1760 ⟨by decide, by decide, by decide +kernel⟩ rfl ⟨Nat.le_of_ble_eq_true rfl, Nat.le_of_ble_eq_true rfl⟩ ⟨hcs.1, hcs.2⟩ rfl (Nat.le_of_ble_eq_true rfl) dL_law_949 (po_i.k fun r' a2 hw => ?_)
  obtain ⟨rfl, hJ⟩ := hw
  refine ux_icmp_eq C (tgt := 1710) (by decide) dL_law_952 (fun _ => ?_) (fun h => absurd rfl h)
  refine ux_iinc (v := nI (k + 6)) C 3 rfl (ud_i6 k) (by decide) rfl dL_law_1710 ?_
  refine ux_goto C (tgt := 18) (by decide) dL_law_1713 ?_
  refine ux_pick [1, 2, 3, 0] rfl ?_
  exact kk N _ cs ss hJ (by omega) ⟨by omega, by omega⟩ (by omega)
set_option maxHeartbeats 4000000 in
theorem lc_odd {J J' : Nat → ud_St → Prop} (hst : us_odd J J') {D : va_G} {G : Nat → Nat} {z N b L k cs ss : Nat} {xs : Nat → Int32} {p : Program} {l : Launch} {e : Env} {s : State} {m : MethodId} {args : Array Value} {below : List Frame} {meth : Method} {c : Code} {Q : State → Prop} {a : ud_St} (C : ud_C D G z N p s m args meth c code 4 R_law ret) (hX : va_X b L xs s s.heap) (hbl : b < s.heap.size) (hbA : ¬ z ≤ b) (hN : 92 ≤ N) (hk : k + 6 ≤ L) (hL : L ≤ 3072) (hcs : cs ≤ room_1.cells ∧ ss ≤ room_1.slots) (hJ : J N a) (kk : ∀ N' a' cs' ss', J' N' a' → cs' ≤ cs + (N' - N) → (N ≤ N' ∧ N' ≤ N + 11) → ss' ≤ ss + 110 → ud_X D G z N' p l e room_1 s m args below meth c 4 cs' ss' Q a' 18 [(0, .ref b), (1, .ref (z + 0)), (2, .ref (z + 71)), (3, .int (nI (k + 6)))] []) : ud_X D G z N p l e room_1 s m args below meth c 4 cs ss Q a 957 [(0, .ref b), (1, .ref (z + 0)), (2, .ref (z + 71)), (3, .int (nI k))] [] := by
  have hw := hst N a  hJ
  refine ux_aload_n C 1 rfl rfl dL_law_957 ?_
  refine ux_callV (n := 0) (As := []) C (c_UpAndDown_odd hN hw) (uc_0 hN).1 ((uc_0 hN).2 _ _ _) rfl mw_1027 mw_1028 mw_1029 mw_113 mw_1030 ⟨by decide, by decide, by decide +kernel⟩ rfl ⟨Nat.le_of_ble_eq_true rfl, Nat.le_of_ble_eq_true rfl⟩ ⟨hcs.1, hcs.2⟩ rfl (Nat.le_of_ble_eq_true rfl) dL_law_958 (po_i.k fun r a1 hw => ?_)
  refine ux_aload_n C 2 rfl rfl dL_law_961 ?_
  refine ux_callV (n := 0) (As := []) C (c_Model_odd hN hw) (uc_71 hN).1 ((uc_71 hN).2 _ _ _) rfl mw_1761 mw_1762 mw_1763 mw_124 mw_1764 ⟨by decide, by decide, by decide +kernel⟩ rfl ⟨Nat.le_of_ble_eq_true rfl, Nat.le_of_ble_eq_true rfl⟩ ⟨hcs.1, hcs.2⟩ rfl (Nat.le_of_ble_eq_true rfl) dL_law_962 (po_i.k fun r' a2 hw => ?_)
  obtain ⟨rfl, hJ⟩ := hw
  refine ux_icmp_eq C (tgt := 1710) (by decide) dL_law_965 (fun _ => ?_) (fun h => absurd rfl h)
  refine ux_iinc (v := nI (k + 6)) C 3 rfl (ud_i6 k) (by decide) rfl dL_law_1710 ?_
  refine ux_goto C (tgt := 18) (by decide) dL_law_1713 ?_
  refine ux_pick [1, 2, 3, 0] rfl ?_
  exact kk N _ cs ss hJ (by omega) ⟨by omega, by omega⟩ (by omega)
set_option maxHeartbeats 4000000 in
theorem lc_sure {J J' : Nat → ud_St → Prop} (hst : us_sure J J') {D : va_G} {G : Nat → Nat} {z N b L k cs ss : Nat} {xs : Nat → Int32} {p : Program} {l : Launch} {e : Env} {s : State} {m : MethodId} {args : Array Value} {below : List Frame} {meth : Method} {c : Code} {Q : State → Prop} {a : ud_St} (C : ud_C D G z N p s m args meth c code 4 R_law ret) (hX : va_X b L xs s s.heap) (hbl : b < s.heap.size) (hbA : ¬ z ≤ b) (hN : 92 ≤ N) (hk : k + 6 ≤ L) (hL : L ≤ 3072) (hcs : cs ≤ room_1.cells ∧ ss ≤ room_1.slots) (hJ : J N a) (kk : ∀ N' a' cs' ss', J' N' a' → cs' ≤ cs + (N' - N) → (N ≤ N' ∧ N' ≤ N + 11) → ss' ≤ ss + 110 → ud_X D G z N' p l e room_1 s m args below meth c 4 cs' ss' Q a' 18 [(0, .ref b), (1, .ref (z + 0)), (2, .ref (z + 71)), (3, .int (nI (k + 6)))] []) : ud_X D G z N p l e room_1 s m args below meth c 4 cs ss Q a 970 [(0, .ref b), (1, .ref (z + 0)), (2, .ref (z + 71)), (3, .int (nI k))] [] := by
  have hw := hst N a (xs (Int32.toNatClampNeg ((nI k) + 1))) (xs (Int32.toNatClampNeg ((nI k) + 2))) (xs (Int32.toNatClampNeg ((nI k) + 3))) hJ
  refine ux_aload_n C 1 rfl rfl dL_law_970 ?_
  refine ux_aload_n C 0 rfl rfl dL_law_971 ?_
  refine ux_iload_n C 3 rfl rfl dL_law_972 ?_
  refine ux_iconst C (v := 1) (by decide) dL_law_973 ?_
  refine ux_iadd C dL_law_974 ?_
  refine ux_sld C hX hbl hbA (ud_ix (j := 1) hk hL (by decide)) dL_law_975 ?_
  refine ux_aload_n C 0 rfl rfl dL_law_976 ?_
  refine ux_iload_n C 3 rfl rfl dL_law_977 ?_
  refine ux_iconst C (v := 2) (by decide) dL_law_978 ?_
  refine ux_iadd C dL_law_979 ?_
  refine ux_sld C hX hbl hbA (ud_ix (j := 2) hk hL (by decide)) dL_law_980 ?_
  refine ux_aload_n C 0 rfl rfl dL_law_981 ?_
  refine ux_iload_n C 3 rfl rfl dL_law_982 ?_
  refine ux_iconst C (v := 3) (by decide) dL_law_983 ?_
  refine ux_iadd C dL_law_984 ?_
  refine ux_sld C hX hbl hbA (ud_ix (j := 3) hk hL (by decide)) dL_law_985 ?_
  refine ux_callV (n := 3) (As := [.int (xs (Int32.toNatClampNeg ((nI k) + 1))), .int (xs (Int32.toNatClampNeg ((nI k) + 2))), .int (xs (Int32.toNatClampNeg ((nI k) + 3)))]) C (c_UpAndDown_sure hN hw) (uc_0 hN).1 ((uc_0 hN).2 _ _ _) rfl mw_1036 mw_1037 mw_1038 mw_113 mw_1039 ⟨by decide, by decide, by decide +kernel⟩ rfl ⟨Nat.le_of_ble_eq_true rfl, Nat.le_of_ble_eq_true rfl⟩ ⟨hcs.1, hcs.2⟩ rfl (Nat.le_of_ble_eq_true rfl) dL_law_986 (po_i.k fun r a1 hw => ?_)
  refine ux_aload_n C 2 rfl rfl dL_law_989 ?_
  refine ux_aload_n C 0 rfl rfl dL_law_990 ?_
  refine ux_iload_n C 3 rfl rfl dL_law_991 ?_
  refine ux_iconst C (v := 1) (by decide) dL_law_992 ?_
  refine ux_iadd C dL_law_993 ?_
  refine ux_sld C hX hbl hbA (ud_ix (j := 1) hk hL (by decide)) dL_law_994 ?_
  refine ux_aload_n C 0 rfl rfl dL_law_995 ?_
  refine ux_iload_n C 3 rfl rfl dL_law_996 ?_
  refine ux_iconst C (v := 2) (by decide) dL_law_997 ?_
  refine ux_iadd C dL_law_998 ?_
  refine ux_sld C hX hbl hbA (ud_ix (j := 2) hk hL (by decide)) dL_law_999 ?_
  refine ux_aload_n C 0 rfl rfl dL_law_1000 ?_
  refine ux_iload_n C 3 rfl rfl dL_law_1001 ?_
  refine ux_iconst C (v := 3) (by decide) dL_law_1002 ?_
  refine ux_iadd C dL_law_1003 ?_
  refine ux_sld C hX hbl hbA (ud_ix (j := 3) hk hL (by decide)) dL_law_1004 ?_
  refine ux_callV (n := 3) (As := [.int (xs (Int32.toNatClampNeg ((nI k) + 1))), .int (xs (Int32.toNatClampNeg ((nI k) + 2))), .int (xs (Int32.toNatClampNeg ((nI k) + 3)))]) C (c_Model_sure hN hw) (uc_71 hN).1 ((uc_71 hN).2 _ _ _) rfl mw_1765 mw_1766 mw_1767 mw_124 mw_1768 ⟨by decide, by decide, by decide +kernel⟩ rfl ⟨Nat.le_of_ble_eq_true rfl, Nat.le_of_ble_eq_true rfl⟩ ⟨hcs.1, hcs.2⟩ rfl (Nat.le_of_ble_eq_true rfl) dL_law_1005 (po_i.k fun r' a2 hw => ?_)
  obtain ⟨rfl, hJ⟩ := hw
  refine ux_icmp_eq C (tgt := 1710) (by decide) dL_law_1008 (fun _ => ?_) (fun h => absurd rfl h)
  refine ux_iinc (v := nI (k + 6)) C 3 rfl (ud_i6 k) (by decide) rfl dL_law_1710 ?_
  refine ux_goto C (tgt := 18) (by decide) dL_law_1713 ?_
  refine ux_pick [1, 2, 3, 0] rfl ?_
  exact kk N _ cs ss hJ (by omega) ⟨by omega, by omega⟩ (by omega)
set_option maxHeartbeats 4000000 in
theorem lc_fewest {J J' : Nat → ud_St → Prop} (hst : us_fewest J J') {D : va_G} {G : Nat → Nat} {z N b L k cs ss : Nat} {xs : Nat → Int32} {p : Program} {l : Launch} {e : Env} {s : State} {m : MethodId} {args : Array Value} {below : List Frame} {meth : Method} {c : Code} {Q : State → Prop} {a : ud_St} (C : ud_C D G z N p s m args meth c code 4 R_law ret) (hX : va_X b L xs s s.heap) (hbl : b < s.heap.size) (hbA : ¬ z ≤ b) (hN : 92 ≤ N) (hk : k + 6 ≤ L) (hL : L ≤ 3072) (hcs : cs ≤ room_1.cells ∧ ss ≤ room_1.slots) (hJ : J N a) (kk : ∀ N' a' cs' ss', J' N' a' → cs' ≤ cs + (N' - N) → (N ≤ N' ∧ N' ≤ N + 11) → ss' ≤ ss + 110 → ud_X D G z N' p l e room_1 s m args below meth c 4 cs' ss' Q a' 18 [(0, .ref b), (1, .ref (z + 0)), (2, .ref (z + 71)), (3, .int (nI (k + 6)))] []) : ud_X D G z N p l e room_1 s m args below meth c 4 cs ss Q a 1013 [(0, .ref b), (1, .ref (z + 0)), (2, .ref (z + 71)), (3, .int (nI k))] [] := by
  have hw := hst N a (xs (Int32.toNatClampNeg ((nI k) + 1))) (xs (Int32.toNatClampNeg ((nI k) + 2))) hJ
  refine ux_aload_n C 1 rfl rfl dL_law_1013 ?_
  refine ux_aload_n C 0 rfl rfl dL_law_1014 ?_
  refine ux_iload_n C 3 rfl rfl dL_law_1015 ?_
  refine ux_iconst C (v := 1) (by decide) dL_law_1016 ?_
  refine ux_iadd C dL_law_1017 ?_
  refine ux_sld C hX hbl hbA (ud_ix (j := 1) hk hL (by decide)) dL_law_1018 ?_
  refine ux_aload_n C 0 rfl rfl dL_law_1019 ?_
  refine ux_iload_n C 3 rfl rfl dL_law_1020 ?_
  refine ux_iconst C (v := 2) (by decide) dL_law_1021 ?_
  refine ux_iadd C dL_law_1022 ?_
  refine ux_sld C hX hbl hbA (ud_ix (j := 2) hk hL (by decide)) dL_law_1023 ?_
  refine ux_callV (n := 2) (As := [.int (xs (Int32.toNatClampNeg ((nI k) + 1))), .int (xs (Int32.toNatClampNeg ((nI k) + 2)))]) C (c_UpAndDown_fewest hN hw) (uc_0 hN).1 ((uc_0 hN).2 _ _ _) rfl mw_1088 mw_1089 mw_1090 mw_113 mw_1091 ⟨by decide, by decide, by decide +kernel⟩ rfl ⟨Nat.le_of_ble_eq_true rfl, Nat.le_of_ble_eq_true rfl⟩ ⟨hcs.1, hcs.2⟩ rfl (Nat.le_of_ble_eq_true rfl) dL_law_1024 (po_i.k fun r a1 hw => ?_)
  refine ux_aload_n C 2 rfl rfl dL_law_1027 ?_
  refine ux_aload_n C 0 rfl rfl dL_law_1028 ?_
  refine ux_iload_n C 3 rfl rfl dL_law_1029 ?_
  refine ux_iconst C (v := 1) (by decide) dL_law_1030 ?_
  refine ux_iadd C dL_law_1031 ?_
  refine ux_sld C hX hbl hbA (ud_ix (j := 1) hk hL (by decide)) dL_law_1032 ?_
  refine ux_aload_n C 0 rfl rfl dL_law_1033 ?_
  refine ux_iload_n C 3 rfl rfl dL_law_1034 ?_
  refine ux_iconst C (v := 2) (by decide) dL_law_1035 ?_
  refine ux_iadd C dL_law_1036 ?_
  refine ux_sld C hX hbl hbA (ud_ix (j := 2) hk hL (by decide)) dL_law_1037 ?_
  refine ux_callV (n := 2) (As := [.int (xs (Int32.toNatClampNeg ((nI k) + 1))), .int (xs (Int32.toNatClampNeg ((nI k) + 2)))]) C (c_Model_fewest hN hw) (uc_71 hN).1 ((uc_71 hN).2 _ _ _) rfl mw_1797 mw_1798 mw_1799 mw_124 mw_1800 ⟨by decide, by decide, by decide +kernel⟩ rfl ⟨Nat.le_of_ble_eq_true rfl, Nat.le_of_ble_eq_true rfl⟩ ⟨hcs.1, hcs.2⟩ rfl (Nat.le_of_ble_eq_true rfl) dL_law_1038 (po_i.k fun r' a2 hw => ?_)
  obtain ⟨rfl, hJ⟩ := hw
  refine ux_icmp_eq C (tgt := 1710) (by decide) dL_law_1041 (fun _ => ?_) (fun h => absurd rfl h)
  refine ux_iinc (v := nI (k + 6)) C 3 rfl (ud_i6 k) (by decide) rfl dL_law_1710 ?_
  refine ux_goto C (tgt := 18) (by decide) dL_law_1713 ?_
  refine ux_pick [1, 2, 3, 0] rfl ?_
  exact kk N _ cs ss hJ (by omega) ⟨by omega, by omega⟩ (by omega)
set_option maxHeartbeats 4000000 in
theorem lc_left {J J' : Nat → ud_St → Prop} (hst : us_left J J') {D : va_G} {G : Nat → Nat} {z N b L k cs ss : Nat} {xs : Nat → Int32} {p : Program} {l : Launch} {e : Env} {s : State} {m : MethodId} {args : Array Value} {below : List Frame} {meth : Method} {c : Code} {Q : State → Prop} {a : ud_St} (C : ud_C D G z N p s m args meth c code 4 R_law ret) (hX : va_X b L xs s s.heap) (hbl : b < s.heap.size) (hbA : ¬ z ≤ b) (hN : 92 ≤ N) (hk : k + 6 ≤ L) (hL : L ≤ 3072) (hcs : cs ≤ room_1.cells ∧ ss ≤ room_1.slots) (hJ : J N a) (kk : ∀ N' a' cs' ss', J' N' a' → cs' ≤ cs + (N' - N) → (N ≤ N' ∧ N' ≤ N + 11) → ss' ≤ ss + 110 → ud_X D G z N' p l e room_1 s m args below meth c 4 cs' ss' Q a' 18 [(0, .ref b), (1, .ref (z + 0)), (2, .ref (z + 71)), (3, .int (nI (k + 6)))] []) : ud_X D G z N p l e room_1 s m args below meth c 4 cs ss Q a 1046 [(0, .ref b), (1, .ref (z + 0)), (2, .ref (z + 71)), (3, .int (nI k))] [] := by
  have hw := hst N a (xs (Int32.toNatClampNeg ((nI k) + 1))) (xs (Int32.toNatClampNeg ((nI k) + 2))) hJ
  refine ux_aload_n C 1 rfl rfl dL_law_1046 ?_
  refine ux_aload_n C 0 rfl rfl dL_law_1047 ?_
  refine ux_iload_n C 3 rfl rfl dL_law_1048 ?_
  refine ux_iconst C (v := 1) (by decide) dL_law_1049 ?_
  refine ux_iadd C dL_law_1050 ?_
  refine ux_sld C hX hbl hbA (ud_ix (j := 1) hk hL (by decide)) dL_law_1051 ?_
  refine ux_aload_n C 0 rfl rfl dL_law_1052 ?_
  refine ux_iload_n C 3 rfl rfl dL_law_1053 ?_
  refine ux_iconst C (v := 2) (by decide) dL_law_1054 ?_
  refine ux_iadd C dL_law_1055 ?_
  refine ux_sld C hX hbl hbA (ud_ix (j := 2) hk hL (by decide)) dL_law_1056 ?_
  refine ux_callV (n := 2) (As := [.int (xs (Int32.toNatClampNeg ((nI k) + 1))), .int (xs (Int32.toNatClampNeg ((nI k) + 2)))]) C (c_UpAndDown_left hN hw) (uc_0 hN).1 ((uc_0 hN).2 _ _ _) rfl mw_1092 mw_1093 mw_1094 mw_113 mw_1095 ⟨by decide, by decide, by decide +kernel⟩ rfl ⟨Nat.le_of_ble_eq_true rfl, Nat.le_of_ble_eq_true rfl⟩ ⟨hcs.1, hcs.2⟩ rfl (Nat.le_of_ble_eq_true rfl) dL_law_1057 (po_i.k fun r a1 hw => ?_)
  refine ux_aload_n C 2 rfl rfl dL_law_1060 ?_
  refine ux_aload_n C 0 rfl rfl dL_law_1061 ?_
  refine ux_iload_n C 3 rfl rfl dL_law_1062 ?_
  refine ux_iconst C (v := 1) (by decide) dL_law_1063 ?_
  refine ux_iadd C dL_law_1064 ?_
  refine ux_sld C hX hbl hbA (ud_ix (j := 1) hk hL (by decide)) dL_law_1065 ?_
  refine ux_aload_n C 0 rfl rfl dL_law_1066 ?_
  refine ux_iload_n C 3 rfl rfl dL_law_1067 ?_
  refine ux_iconst C (v := 2) (by decide) dL_law_1068 ?_
  refine ux_iadd C dL_law_1069 ?_
  refine ux_sld C hX hbl hbA (ud_ix (j := 2) hk hL (by decide)) dL_law_1070 ?_
  refine ux_callV (n := 2) (As := [.int (xs (Int32.toNatClampNeg ((nI k) + 1))), .int (xs (Int32.toNatClampNeg ((nI k) + 2)))]) C (c_Model_left hN hw) (uc_71 hN).1 ((uc_71 hN).2 _ _ _) rfl mw_1801 mw_1802 mw_1803 mw_124 mw_1804 ⟨by decide, by decide, by decide +kernel⟩ rfl ⟨Nat.le_of_ble_eq_true rfl, Nat.le_of_ble_eq_true rfl⟩ ⟨hcs.1, hcs.2⟩ rfl (Nat.le_of_ble_eq_true rfl) dL_law_1071 (po_i.k fun r' a2 hw => ?_)
  obtain ⟨rfl, hJ⟩ := hw
  refine ux_icmp_eq C (tgt := 1710) (by decide) dL_law_1074 (fun _ => ?_) (fun h => absurd rfl h)
  refine ux_iinc (v := nI (k + 6)) C 3 rfl (ud_i6 k) (by decide) rfl dL_law_1710 ?_
  refine ux_goto C (tgt := 18) (by decide) dL_law_1713 ?_
  refine ux_pick [1, 2, 3, 0] rfl ?_
  exact kk N _ cs ss hJ (by omega) ⟨by omega, by omega⟩ (by omega)
set_option maxHeartbeats 4000000 in
theorem lc_rest {J J' : Nat → ud_St → Prop} (hst : us_rest J J') {D : va_G} {G : Nat → Nat} {z N b L k cs ss : Nat} {xs : Nat → Int32} {p : Program} {l : Launch} {e : Env} {s : State} {m : MethodId} {args : Array Value} {below : List Frame} {meth : Method} {c : Code} {Q : State → Prop} {a : ud_St} (C : ud_C D G z N p s m args meth c code 4 R_law ret) (hX : va_X b L xs s s.heap) (hbl : b < s.heap.size) (hbA : ¬ z ≤ b) (hN : 92 ≤ N) (hk : k + 6 ≤ L) (hL : L ≤ 3072) (hcs : cs ≤ room_1.cells ∧ ss ≤ room_1.slots) (hJ : J N a) (kk : ∀ N' a' cs' ss', J' N' a' → cs' ≤ cs + (N' - N) → (N ≤ N' ∧ N' ≤ N + 11) → ss' ≤ ss + 110 → ud_X D G z N' p l e room_1 s m args below meth c 4 cs' ss' Q a' 18 [(0, .ref b), (1, .ref (z + 0)), (2, .ref (z + 71)), (3, .int (nI (k + 6)))] []) : ud_X D G z N p l e room_1 s m args below meth c 4 cs ss Q a 1079 [(0, .ref b), (1, .ref (z + 0)), (2, .ref (z + 71)), (3, .int (nI k))] [] := by
  have hw := hst N a (xs (Int32.toNatClampNeg ((nI k) + 1))) (xs (Int32.toNatClampNeg ((nI k) + 2))) hJ
  refine ux_aload_n C 1 rfl rfl dL_law_1079 ?_
  refine ux_aload_n C 0 rfl rfl dL_law_1080 ?_
  refine ux_iload_n C 3 rfl rfl dL_law_1081 ?_
  refine ux_iconst C (v := 1) (by decide) dL_law_1082 ?_
  refine ux_iadd C dL_law_1083 ?_
  refine ux_sld C hX hbl hbA (ud_ix (j := 1) hk hL (by decide)) dL_law_1084 ?_
  refine ux_aload_n C 0 rfl rfl dL_law_1085 ?_
  refine ux_iload_n C 3 rfl rfl dL_law_1086 ?_
  refine ux_iconst C (v := 2) (by decide) dL_law_1087 ?_
  refine ux_iadd C dL_law_1088 ?_
  refine ux_sld C hX hbl hbA (ud_ix (j := 2) hk hL (by decide)) dL_law_1089 ?_
  refine ux_callV (n := 2) (As := [.int (xs (Int32.toNatClampNeg ((nI k) + 1))), .int (xs (Int32.toNatClampNeg ((nI k) + 2)))]) C (c_UpAndDown_rest hN hw) (uc_0 hN).1 ((uc_0 hN).2 _ _ _) rfl mw_1096 mw_1097 mw_1098 mw_113 mw_1099 ⟨by decide, by decide, by decide +kernel⟩ rfl ⟨Nat.le_of_ble_eq_true rfl, Nat.le_of_ble_eq_true rfl⟩ ⟨hcs.1, hcs.2⟩ rfl (Nat.le_of_ble_eq_true rfl) dL_law_1090 (po_i.k fun r a1 hw => ?_)
  refine ux_aload_n C 2 rfl rfl dL_law_1093 ?_
  refine ux_aload_n C 0 rfl rfl dL_law_1094 ?_
  refine ux_iload_n C 3 rfl rfl dL_law_1095 ?_
  refine ux_iconst C (v := 1) (by decide) dL_law_1096 ?_
  refine ux_iadd C dL_law_1097 ?_
  refine ux_sld C hX hbl hbA (ud_ix (j := 1) hk hL (by decide)) dL_law_1098 ?_
  refine ux_aload_n C 0 rfl rfl dL_law_1099 ?_
  refine ux_iload_n C 3 rfl rfl dL_law_1100 ?_
  refine ux_iconst C (v := 2) (by decide) dL_law_1101 ?_
  refine ux_iadd C dL_law_1102 ?_
  refine ux_sld C hX hbl hbA (ud_ix (j := 2) hk hL (by decide)) dL_law_1103 ?_
  refine ux_callV (n := 2) (As := [.int (xs (Int32.toNatClampNeg ((nI k) + 1))), .int (xs (Int32.toNatClampNeg ((nI k) + 2)))]) C (c_Model_rest hN hw) (uc_71 hN).1 ((uc_71 hN).2 _ _ _) rfl mw_1809 mw_1810 mw_1811 mw_124 mw_1812 ⟨by decide, by decide, by decide +kernel⟩ rfl ⟨Nat.le_of_ble_eq_true rfl, Nat.le_of_ble_eq_true rfl⟩ ⟨hcs.1, hcs.2⟩ rfl (Nat.le_of_ble_eq_true rfl) dL_law_1104 (po_i.k fun r' a2 hw => ?_)
  obtain ⟨rfl, hJ⟩ := hw
  refine ux_icmp_eq C (tgt := 1710) (by decide) dL_law_1107 (fun _ => ?_) (fun h => absurd rfl h)
  refine ux_iinc (v := nI (k + 6)) C 3 rfl (ud_i6 k) (by decide) rfl dL_law_1710 ?_
  refine ux_goto C (tgt := 18) (by decide) dL_law_1713 ?_
  refine ux_pick [1, 2, 3, 0] rfl ?_
  exact kk N _ cs ss hJ (by omega) ⟨by omega, by omega⟩ (by omega)
set_option maxHeartbeats 4000000 in
theorem lc_out {J J' : Nat → ud_St → Prop} (hst : us_out J J') {D : va_G} {G : Nat → Nat} {z N b L k cs ss : Nat} {xs : Nat → Int32} {p : Program} {l : Launch} {e : Env} {s : State} {m : MethodId} {args : Array Value} {below : List Frame} {meth : Method} {c : Code} {Q : State → Prop} {a : ud_St} (C : ud_C D G z N p s m args meth c code 4 R_law ret) (hX : va_X b L xs s s.heap) (hbl : b < s.heap.size) (hbA : ¬ z ≤ b) (hN : 92 ≤ N) (hk : k + 6 ≤ L) (hL : L ≤ 3072) (hcs : cs ≤ room_1.cells ∧ ss ≤ room_1.slots) (hJ : J N a) (kk : ∀ N' a' cs' ss', J' N' a' → cs' ≤ cs + (N' - N) → (N ≤ N' ∧ N' ≤ N + 11) → ss' ≤ ss + 110 → ud_X D G z N' p l e room_1 s m args below meth c 4 cs' ss' Q a' 18 [(0, .ref b), (1, .ref (z + 0)), (2, .ref (z + 71)), (3, .int (nI (k + 6)))] []) : ud_X D G z N p l e room_1 s m args below meth c 4 cs ss Q a 1112 [(0, .ref b), (1, .ref (z + 0)), (2, .ref (z + 71)), (3, .int (nI k))] [] := by
  have hw := hst N a (xs (Int32.toNatClampNeg ((nI k) + 1))) (xs (Int32.toNatClampNeg ((nI k) + 2))) (xs (Int32.toNatClampNeg ((nI k) + 3))) hJ
  refine ux_aload_n C 1 rfl rfl dL_law_1112 ?_
  refine ux_aload_n C 0 rfl rfl dL_law_1113 ?_
  refine ux_iload_n C 3 rfl rfl dL_law_1114 ?_
  refine ux_iconst C (v := 1) (by decide) dL_law_1115 ?_
  refine ux_iadd C dL_law_1116 ?_
  refine ux_sld C hX hbl hbA (ud_ix (j := 1) hk hL (by decide)) dL_law_1117 ?_
  refine ux_aload_n C 0 rfl rfl dL_law_1118 ?_
  refine ux_iload_n C 3 rfl rfl dL_law_1119 ?_
  refine ux_iconst C (v := 2) (by decide) dL_law_1120 ?_
  refine ux_iadd C dL_law_1121 ?_
  refine ux_sld C hX hbl hbA (ud_ix (j := 2) hk hL (by decide)) dL_law_1122 ?_
  refine ux_aload_n C 0 rfl rfl dL_law_1123 ?_
  refine ux_iload_n C 3 rfl rfl dL_law_1124 ?_
  refine ux_iconst C (v := 3) (by decide) dL_law_1125 ?_
  refine ux_iadd C dL_law_1126 ?_
  refine ux_sld C hX hbl hbA (ud_ix (j := 3) hk hL (by decide)) dL_law_1127 ?_
  refine ux_callV (n := 3) (As := [.int (xs (Int32.toNatClampNeg ((nI k) + 1))), .int (xs (Int32.toNatClampNeg ((nI k) + 2))), .int (xs (Int32.toNatClampNeg ((nI k) + 3)))]) C (c_UpAndDown_out hN hw) (uc_0 hN).1 ((uc_0 hN).2 _ _ _) rfl mw_1109 mw_1110 mw_1111 mw_113 mw_1112 ⟨by decide, by decide, by decide +kernel⟩ rfl ⟨Nat.le_of_ble_eq_true rfl, Nat.le_of_ble_eq_true rfl⟩ ⟨hcs.1, hcs.2⟩ rfl (Nat.le_of_ble_eq_true rfl) dL_law_1128 (po_i.k fun r a1 hw => ?_)
  refine ux_aload_n C 2 rfl rfl dL_law_1131 ?_
  refine ux_aload_n C 0 rfl rfl dL_law_1132 ?_
  refine ux_iload_n C 3 rfl rfl dL_law_1133 ?_
  refine ux_iconst C (v := 1) (by decide) dL_law_1134 ?_
  refine ux_iadd C dL_law_1135 ?_
  refine ux_sld C hX hbl hbA (ud_ix (j := 1) hk hL (by decide)) dL_law_1136 ?_
  refine ux_aload_n C 0 rfl rfl dL_law_1137 ?_
  refine ux_iload_n C 3 rfl rfl dL_law_1138 ?_
  refine ux_iconst C (v := 2) (by decide) dL_law_1139 ?_
  refine ux_iadd C dL_law_1140 ?_
  refine ux_sld C hX hbl hbA (ud_ix (j := 2) hk hL (by decide)) dL_law_1141 ?_
  refine ux_aload_n C 0 rfl rfl dL_law_1142 ?_
  refine ux_iload_n C 3 rfl rfl dL_law_1143 ?_
  refine ux_iconst C (v := 3) (by decide) dL_law_1144 ?_
  refine ux_iadd C dL_law_1145 ?_
  refine ux_sld C hX hbl hbA (ud_ix (j := 3) hk hL (by decide)) dL_law_1146 ?_
  refine ux_callV (n := 3) (As := [.int (xs (Int32.toNatClampNeg ((nI k) + 1))), .int (xs (Int32.toNatClampNeg ((nI k) + 2))), .int (xs (Int32.toNatClampNeg ((nI k) + 3)))]) C (c_Model_out hN hw) (uc_71 hN).1 ((uc_71 hN).2 _ _ _) rfl mw_1817 mw_1818 mw_1819 mw_124 mw_1820 ⟨by decide, by decide, by decide +kernel⟩ rfl ⟨Nat.le_of_ble_eq_true rfl, Nat.le_of_ble_eq_true rfl⟩ ⟨hcs.1, hcs.2⟩ rfl (Nat.le_of_ble_eq_true rfl) dL_law_1147 (po_i.k fun r' a2 hw => ?_)
  obtain ⟨rfl, hJ⟩ := hw
  refine ux_icmp_eq C (tgt := 1710) (by decide) dL_law_1150 (fun _ => ?_) (fun h => absurd rfl h)
  refine ux_iinc (v := nI (k + 6)) C 3 rfl (ud_i6 k) (by decide) rfl dL_law_1710 ?_
  refine ux_goto C (tgt := 18) (by decide) dL_law_1713 ?_
  refine ux_pick [1, 2, 3, 0] rfl ?_
  exact kk N _ cs ss hJ (by omega) ⟨by omega, by omega⟩ (by omega)
set_option maxHeartbeats 4000000 in
theorem lc_slip {J J' : Nat → ud_St → Prop} (hst : us_slip J J') {D : va_G} {G : Nat → Nat} {z N b L k cs ss : Nat} {xs : Nat → Int32} {p : Program} {l : Launch} {e : Env} {s : State} {m : MethodId} {args : Array Value} {below : List Frame} {meth : Method} {c : Code} {Q : State → Prop} {a : ud_St} (C : ud_C D G z N p s m args meth c code 4 R_law ret) (hX : va_X b L xs s s.heap) (hbl : b < s.heap.size) (hbA : ¬ z ≤ b) (hN : 92 ≤ N) (hk : k + 6 ≤ L) (hL : L ≤ 3072) (hcs : cs ≤ room_1.cells ∧ ss ≤ room_1.slots) (hJ : J N a) (kk : ∀ N' a' cs' ss', J' N' a' → cs' ≤ cs + (N' - N) → (N ≤ N' ∧ N' ≤ N + 11) → ss' ≤ ss + 110 → ud_X D G z N' p l e room_1 s m args below meth c 4 cs' ss' Q a' 18 [(0, .ref b), (1, .ref (z + 0)), (2, .ref (z + 71)), (3, .int (nI (k + 6)))] []) : ud_X D G z N p l e room_1 s m args below meth c 4 cs ss Q a 1155 [(0, .ref b), (1, .ref (z + 0)), (2, .ref (z + 71)), (3, .int (nI k))] [] := by
  have hw := hst N a (xs (Int32.toNatClampNeg ((nI k) + 1))) (xs (Int32.toNatClampNeg ((nI k) + 2))) (xs (Int32.toNatClampNeg ((nI k) + 3))) hJ
  refine ux_aload_n C 1 rfl rfl dL_law_1155 ?_
  refine ux_aload_n C 0 rfl rfl dL_law_1156 ?_
  refine ux_iload_n C 3 rfl rfl dL_law_1157 ?_
  refine ux_iconst C (v := 1) (by decide) dL_law_1158 ?_
  refine ux_iadd C dL_law_1159 ?_
  refine ux_sld C hX hbl hbA (ud_ix (j := 1) hk hL (by decide)) dL_law_1160 ?_
  refine ux_aload_n C 0 rfl rfl dL_law_1161 ?_
  refine ux_iload_n C 3 rfl rfl dL_law_1162 ?_
  refine ux_iconst C (v := 2) (by decide) dL_law_1163 ?_
  refine ux_iadd C dL_law_1164 ?_
  refine ux_sld C hX hbl hbA (ud_ix (j := 2) hk hL (by decide)) dL_law_1165 ?_
  refine ux_aload_n C 0 rfl rfl dL_law_1166 ?_
  refine ux_iload_n C 3 rfl rfl dL_law_1167 ?_
  refine ux_iconst C (v := 3) (by decide) dL_law_1168 ?_
  refine ux_iadd C dL_law_1169 ?_
  refine ux_sld C hX hbl hbA (ud_ix (j := 3) hk hL (by decide)) dL_law_1170 ?_
  refine ux_callV (n := 3) (As := [.int (xs (Int32.toNatClampNeg ((nI k) + 1))), .int (xs (Int32.toNatClampNeg ((nI k) + 2))), .int (xs (Int32.toNatClampNeg ((nI k) + 3)))]) C (c_UpAndDown_slip hN hw) (uc_0 hN).1 ((uc_0 hN).2 _ _ _) rfl mw_1122 mw_1123 mw_1124 mw_113 mw_1125 ⟨by decide, by decide, by decide +kernel⟩ rfl ⟨Nat.le_of_ble_eq_true rfl, Nat.le_of_ble_eq_true rfl⟩ ⟨hcs.1, hcs.2⟩ rfl (Nat.le_of_ble_eq_true rfl) dL_law_1171 (po_i.k fun r a1 hw => ?_)
  refine ux_aload_n C 2 rfl rfl dL_law_1174 ?_
  refine ux_aload_n C 0 rfl rfl dL_law_1175 ?_
  refine ux_iload_n C 3 rfl rfl dL_law_1176 ?_
  refine ux_iconst C (v := 1) (by decide) dL_law_1177 ?_
  refine ux_iadd C dL_law_1178 ?_
  refine ux_sld C hX hbl hbA (ud_ix (j := 1) hk hL (by decide)) dL_law_1179 ?_
  refine ux_aload_n C 0 rfl rfl dL_law_1180 ?_
  refine ux_iload_n C 3 rfl rfl dL_law_1181 ?_
  refine ux_iconst C (v := 2) (by decide) dL_law_1182 ?_
  refine ux_iadd C dL_law_1183 ?_
  refine ux_sld C hX hbl hbA (ud_ix (j := 2) hk hL (by decide)) dL_law_1184 ?_
  refine ux_aload_n C 0 rfl rfl dL_law_1185 ?_
  refine ux_iload_n C 3 rfl rfl dL_law_1186 ?_
  refine ux_iconst C (v := 3) (by decide) dL_law_1187 ?_
  refine ux_iadd C dL_law_1188 ?_
  refine ux_sld C hX hbl hbA (ud_ix (j := 3) hk hL (by decide)) dL_law_1189 ?_
  refine ux_callV (n := 3) (As := [.int (xs (Int32.toNatClampNeg ((nI k) + 1))), .int (xs (Int32.toNatClampNeg ((nI k) + 2))), .int (xs (Int32.toNatClampNeg ((nI k) + 3)))]) C (c_Model_slip hN hw) (uc_71 hN).1 ((uc_71 hN).2 _ _ _) rfl mw_1821 mw_1822 mw_1823 mw_124 mw_1824 ⟨by decide, by decide, by decide +kernel⟩ rfl ⟨Nat.le_of_ble_eq_true rfl, Nat.le_of_ble_eq_true rfl⟩ ⟨hcs.1, hcs.2⟩ rfl (Nat.le_of_ble_eq_true rfl) dL_law_1190 (po_i.k fun r' a2 hw => ?_)
  obtain ⟨rfl, hJ⟩ := hw
  refine ux_icmp_eq C (tgt := 1710) (by decide) dL_law_1193 (fun _ => ?_) (fun h => absurd rfl h)
  refine ux_iinc (v := nI (k + 6)) C 3 rfl (ud_i6 k) (by decide) rfl dL_law_1710 ?_
  refine ux_goto C (tgt := 18) (by decide) dL_law_1713 ?_
  refine ux_pick [1, 2, 3, 0] rfl ?_
  exact kk N _ cs ss hJ (by omega) ⟨by omega, by omega⟩ (by omega)
set_option maxHeartbeats 4000000 in
theorem lc_fits {J J' : Nat → ud_St → Prop} (hst : us_fits J J') {D : va_G} {G : Nat → Nat} {z N b L k cs ss : Nat} {xs : Nat → Int32} {p : Program} {l : Launch} {e : Env} {s : State} {m : MethodId} {args : Array Value} {below : List Frame} {meth : Method} {c : Code} {Q : State → Prop} {a : ud_St} (C : ud_C D G z N p s m args meth c code 4 R_law ret) (hX : va_X b L xs s s.heap) (hbl : b < s.heap.size) (hbA : ¬ z ≤ b) (hN : 92 ≤ N) (hk : k + 6 ≤ L) (hL : L ≤ 3072) (hcs : cs ≤ room_1.cells ∧ ss ≤ room_1.slots) (hJ : J N a) (kk : ∀ N' a' cs' ss', J' N' a' → cs' ≤ cs + (N' - N) → (N ≤ N' ∧ N' ≤ N + 11) → ss' ≤ ss + 110 → ud_X D G z N' p l e room_1 s m args below meth c 4 cs' ss' Q a' 18 [(0, .ref b), (1, .ref (z + 0)), (2, .ref (z + 71)), (3, .int (nI (k + 6)))] []) : ud_X D G z N p l e room_1 s m args below meth c 4 cs ss Q a 1198 [(0, .ref b), (1, .ref (z + 0)), (2, .ref (z + 71)), (3, .int (nI k))] [] := by
  have hw := hst N a (xs (Int32.toNatClampNeg ((nI k) + 1))) (xs (Int32.toNatClampNeg ((nI k) + 2))) hJ
  refine ux_aload_n C 1 rfl rfl dL_law_1198 ?_
  refine ux_aload_n C 0 rfl rfl dL_law_1199 ?_
  refine ux_iload_n C 3 rfl rfl dL_law_1200 ?_
  refine ux_iconst C (v := 1) (by decide) dL_law_1201 ?_
  refine ux_iadd C dL_law_1202 ?_
  refine ux_sld C hX hbl hbA (ud_ix (j := 1) hk hL (by decide)) dL_law_1203 ?_
  refine ux_aload_n C 0 rfl rfl dL_law_1204 ?_
  refine ux_iload_n C 3 rfl rfl dL_law_1205 ?_
  refine ux_iconst C (v := 2) (by decide) dL_law_1206 ?_
  refine ux_iadd C dL_law_1207 ?_
  refine ux_sld C hX hbl hbA (ud_ix (j := 2) hk hL (by decide)) dL_law_1208 ?_
  refine ux_callV (n := 2) (As := [.int (xs (Int32.toNatClampNeg ((nI k) + 1))), .int (xs (Int32.toNatClampNeg ((nI k) + 2)))]) C (c_UpAndDown_fits hN hw) (uc_0 hN).1 ((uc_0 hN).2 _ _ _) rfl mw_1135 mw_1136 mw_1137 mw_113 mw_1138 ⟨by decide, by decide, by decide +kernel⟩ rfl ⟨Nat.le_of_ble_eq_true rfl, Nat.le_of_ble_eq_true rfl⟩ ⟨hcs.1, hcs.2⟩ rfl (Nat.le_of_ble_eq_true rfl) dL_law_1209 (po_i.k fun r a1 hw => ?_)
  refine ux_aload_n C 2 rfl rfl dL_law_1212 ?_
  refine ux_aload_n C 0 rfl rfl dL_law_1213 ?_
  refine ux_iload_n C 3 rfl rfl dL_law_1214 ?_
  refine ux_iconst C (v := 1) (by decide) dL_law_1215 ?_
  refine ux_iadd C dL_law_1216 ?_
  refine ux_sld C hX hbl hbA (ud_ix (j := 1) hk hL (by decide)) dL_law_1217 ?_
  refine ux_aload_n C 0 rfl rfl dL_law_1218 ?_
  refine ux_iload_n C 3 rfl rfl dL_law_1219 ?_
  refine ux_iconst C (v := 2) (by decide) dL_law_1220 ?_
  refine ux_iadd C dL_law_1221 ?_
  refine ux_sld C hX hbl hbA (ud_ix (j := 2) hk hL (by decide)) dL_law_1222 ?_
  refine ux_callV (n := 2) (As := [.int (xs (Int32.toNatClampNeg ((nI k) + 1))), .int (xs (Int32.toNatClampNeg ((nI k) + 2)))]) C (c_Model_fits hN hw) (uc_71 hN).1 ((uc_71 hN).2 _ _ _) rfl mw_1829 mw_1830 mw_1831 mw_124 mw_1832 ⟨by decide, by decide, by decide +kernel⟩ rfl ⟨Nat.le_of_ble_eq_true rfl, Nat.le_of_ble_eq_true rfl⟩ ⟨hcs.1, hcs.2⟩ rfl (Nat.le_of_ble_eq_true rfl) dL_law_1223 (po_i.k fun r' a2 hw => ?_)
  obtain ⟨rfl, hJ⟩ := hw
  refine ux_icmp_eq C (tgt := 1710) (by decide) dL_law_1226 (fun _ => ?_) (fun h => absurd rfl h)
  refine ux_iinc (v := nI (k + 6)) C 3 rfl (ud_i6 k) (by decide) rfl dL_law_1710 ?_
  refine ux_goto C (tgt := 18) (by decide) dL_law_1713 ?_
  refine ux_pick [1, 2, 3, 0] rfl ?_
  exact kk N _ cs ss hJ (by omega) ⟨by omega, by omega⟩ (by omega)
set_option maxHeartbeats 4000000 in
theorem lc_which {J J' : Nat → ud_St → Prop} (hst : us_which J J') {D : va_G} {G : Nat → Nat} {z N b L k cs ss : Nat} {xs : Nat → Int32} {p : Program} {l : Launch} {e : Env} {s : State} {m : MethodId} {args : Array Value} {below : List Frame} {meth : Method} {c : Code} {Q : State → Prop} {a : ud_St} (C : ud_C D G z N p s m args meth c code 4 R_law ret) (hX : va_X b L xs s s.heap) (hbl : b < s.heap.size) (hbA : ¬ z ≤ b) (hN : 92 ≤ N) (hk : k + 6 ≤ L) (hL : L ≤ 3072) (hcs : cs ≤ room_1.cells ∧ ss ≤ room_1.slots) (hJ : J N a) (kk : ∀ N' a' cs' ss', J' N' a' → cs' ≤ cs + (N' - N) → (N ≤ N' ∧ N' ≤ N + 11) → ss' ≤ ss + 110 → ud_X D G z N' p l e room_1 s m args below meth c 4 cs' ss' Q a' 18 [(0, .ref b), (1, .ref (z + 0)), (2, .ref (z + 71)), (3, .int (nI (k + 6)))] []) : ud_X D G z N p l e room_1 s m args below meth c 4 cs ss Q a 1231 [(0, .ref b), (1, .ref (z + 0)), (2, .ref (z + 71)), (3, .int (nI k))] [] := by
  have hw := hst N a (xs (Int32.toNatClampNeg ((nI k) + 1))) (xs (Int32.toNatClampNeg ((nI k) + 2))) hJ
  refine ux_aload_n C 1 rfl rfl dL_law_1231 ?_
  refine ux_aload_n C 0 rfl rfl dL_law_1232 ?_
  refine ux_iload_n C 3 rfl rfl dL_law_1233 ?_
  refine ux_iconst C (v := 1) (by decide) dL_law_1234 ?_
  refine ux_iadd C dL_law_1235 ?_
  refine ux_sld C hX hbl hbA (ud_ix (j := 1) hk hL (by decide)) dL_law_1236 ?_
  refine ux_aload_n C 0 rfl rfl dL_law_1237 ?_
  refine ux_iload_n C 3 rfl rfl dL_law_1238 ?_
  refine ux_iconst C (v := 2) (by decide) dL_law_1239 ?_
  refine ux_iadd C dL_law_1240 ?_
  refine ux_sld C hX hbl hbA (ud_ix (j := 2) hk hL (by decide)) dL_law_1241 ?_
  refine ux_callV (n := 2) (As := [.int (xs (Int32.toNatClampNeg ((nI k) + 1))), .int (xs (Int32.toNatClampNeg ((nI k) + 2)))]) C (c_UpAndDown_which hN hw) (uc_0 hN).1 ((uc_0 hN).2 _ _ _) rfl mw_1143 mw_1144 mw_1145 mw_113 mw_1146 ⟨by decide, by decide, by decide +kernel⟩ rfl ⟨Nat.le_of_ble_eq_true rfl, Nat.le_of_ble_eq_true rfl⟩ ⟨hcs.1, hcs.2⟩ rfl (Nat.le_of_ble_eq_true rfl) dL_law_1242 (po_i.k fun r a1 hw => ?_)
  refine ux_aload_n C 2 rfl rfl dL_law_1245 ?_
  refine ux_aload_n C 0 rfl rfl dL_law_1246 ?_
  refine ux_iload_n C 3 rfl rfl dL_law_1247 ?_
  refine ux_iconst C (v := 1) (by decide) dL_law_1248 ?_
  refine ux_iadd C dL_law_1249 ?_
  refine ux_sld C hX hbl hbA (ud_ix (j := 1) hk hL (by decide)) dL_law_1250 ?_
  refine ux_aload_n C 0 rfl rfl dL_law_1251 ?_
  refine ux_iload_n C 3 rfl rfl dL_law_1252 ?_
  refine ux_iconst C (v := 2) (by decide) dL_law_1253 ?_
  refine ux_iadd C dL_law_1254 ?_
  refine ux_sld C hX hbl hbA (ud_ix (j := 2) hk hL (by decide)) dL_law_1255 ?_
  refine ux_callV (n := 2) (As := [.int (xs (Int32.toNatClampNeg ((nI k) + 1))), .int (xs (Int32.toNatClampNeg ((nI k) + 2)))]) C (c_Model_which hN hw) (uc_71 hN).1 ((uc_71 hN).2 _ _ _) rfl mw_1833 mw_1834 mw_1835 mw_124 mw_1836 ⟨by decide, by decide, by decide +kernel⟩ rfl ⟨Nat.le_of_ble_eq_true rfl, Nat.le_of_ble_eq_true rfl⟩ ⟨hcs.1, hcs.2⟩ rfl (Nat.le_of_ble_eq_true rfl) dL_law_1256 (po_i.k fun r' a2 hw => ?_)
  obtain ⟨rfl, hJ⟩ := hw
  refine ux_icmp_eq C (tgt := 1710) (by decide) dL_law_1259 (fun _ => ?_) (fun h => absurd rfl h)
  refine ux_iinc (v := nI (k + 6)) C 3 rfl (ud_i6 k) (by decide) rfl dL_law_1710 ?_
  refine ux_goto C (tgt := 18) (by decide) dL_law_1713 ?_
  refine ux_pick [1, 2, 3, 0] rfl ?_
  exact kk N _ cs ss hJ (by omega) ⟨by omega, by omega⟩ (by omega)
set_option maxHeartbeats 4000000 in
theorem lc_find {J J' : Nat → ud_St → Prop} (hst : us_find J J') {D : va_G} {G : Nat → Nat} {z N b L k cs ss : Nat} {xs : Nat → Int32} {p : Program} {l : Launch} {e : Env} {s : State} {m : MethodId} {args : Array Value} {below : List Frame} {meth : Method} {c : Code} {Q : State → Prop} {a : ud_St} (C : ud_C D G z N p s m args meth c code 4 R_law ret) (hX : va_X b L xs s s.heap) (hbl : b < s.heap.size) (hbA : ¬ z ≤ b) (hN : 92 ≤ N) (hk : k + 6 ≤ L) (hL : L ≤ 3072) (hcs : cs ≤ room_1.cells ∧ ss ≤ room_1.slots) (hJ : J N a) (kk : ∀ N' a' cs' ss', J' N' a' → cs' ≤ cs + (N' - N) → (N ≤ N' ∧ N' ≤ N + 11) → ss' ≤ ss + 110 → ud_X D G z N' p l e room_1 s m args below meth c 4 cs' ss' Q a' 18 [(0, .ref b), (1, .ref (z + 0)), (2, .ref (z + 71)), (3, .int (nI (k + 6)))] []) : ud_X D G z N p l e room_1 s m args below meth c 4 cs ss Q a 1264 [(0, .ref b), (1, .ref (z + 0)), (2, .ref (z + 71)), (3, .int (nI k))] [] := by
  have hw := hst N a (xs (Int32.toNatClampNeg ((nI k) + 1))) (xs (Int32.toNatClampNeg ((nI k) + 2))) hJ
  refine ux_aload_n C 1 rfl rfl dL_law_1264 ?_
  refine ux_aload_n C 0 rfl rfl dL_law_1265 ?_
  refine ux_iload_n C 3 rfl rfl dL_law_1266 ?_
  refine ux_iconst C (v := 1) (by decide) dL_law_1267 ?_
  refine ux_iadd C dL_law_1268 ?_
  refine ux_sld C hX hbl hbA (ud_ix (j := 1) hk hL (by decide)) dL_law_1269 ?_
  refine ux_aload_n C 0 rfl rfl dL_law_1270 ?_
  refine ux_iload_n C 3 rfl rfl dL_law_1271 ?_
  refine ux_iconst C (v := 2) (by decide) dL_law_1272 ?_
  refine ux_iadd C dL_law_1273 ?_
  refine ux_sld C hX hbl hbA (ud_ix (j := 2) hk hL (by decide)) dL_law_1274 ?_
  refine ux_callV (n := 2) (As := [.int (xs (Int32.toNatClampNeg ((nI k) + 1))), .int (xs (Int32.toNatClampNeg ((nI k) + 2)))]) C (c_UpAndDown_find hN hw) (uc_0 hN).1 ((uc_0 hN).2 _ _ _) rfl mw_1147 mw_1148 mw_1149 mw_113 mw_1150 ⟨by decide, by decide, by decide +kernel⟩ rfl ⟨Nat.le_of_ble_eq_true rfl, Nat.le_of_ble_eq_true rfl⟩ ⟨hcs.1, hcs.2⟩ rfl (Nat.le_of_ble_eq_true rfl) dL_law_1275 (po_i.k fun r a1 hw => ?_)
  refine ux_aload_n C 2 rfl rfl dL_law_1278 ?_
  refine ux_aload_n C 0 rfl rfl dL_law_1279 ?_
  refine ux_iload_n C 3 rfl rfl dL_law_1280 ?_
  refine ux_iconst C (v := 1) (by decide) dL_law_1281 ?_
  refine ux_iadd C dL_law_1282 ?_
  refine ux_sld C hX hbl hbA (ud_ix (j := 1) hk hL (by decide)) dL_law_1283 ?_
  refine ux_aload_n C 0 rfl rfl dL_law_1284 ?_
  refine ux_iload_n C 3 rfl rfl dL_law_1285 ?_
  refine ux_iconst C (v := 2) (by decide) dL_law_1286 ?_
  refine ux_iadd C dL_law_1287 ?_
  refine ux_sld C hX hbl hbA (ud_ix (j := 2) hk hL (by decide)) dL_law_1288 ?_
  refine ux_callV (n := 2) (As := [.int (xs (Int32.toNatClampNeg ((nI k) + 1))), .int (xs (Int32.toNatClampNeg ((nI k) + 2)))]) C (c_Model_find hN hw) (uc_71 hN).1 ((uc_71 hN).2 _ _ _) rfl mw_1837 mw_1838 mw_1839 mw_124 mw_1840 ⟨by decide, by decide, by decide +kernel⟩ rfl ⟨Nat.le_of_ble_eq_true rfl, Nat.le_of_ble_eq_true rfl⟩ ⟨hcs.1, hcs.2⟩ rfl (Nat.le_of_ble_eq_true rfl) dL_law_1289 (po_i.k fun r' a2 hw => ?_)
  obtain ⟨rfl, hJ⟩ := hw
  refine ux_icmp_eq C (tgt := 1710) (by decide) dL_law_1292 (fun _ => ?_) (fun h => absurd rfl h)
  refine ux_iinc (v := nI (k + 6)) C 3 rfl (ud_i6 k) (by decide) rfl dL_law_1710 ?_
  refine ux_goto C (tgt := 18) (by decide) dL_law_1713 ?_
  refine ux_pick [1, 2, 3, 0] rfl ?_
  exact kk N _ cs ss hJ (by omega) ⟨by omega, by omega⟩ (by omega)
set_option maxHeartbeats 4000000 in
theorem lc_found {J J' : Nat → ud_St → Prop} (hst : us_found J J') {D : va_G} {G : Nat → Nat} {z N b L k cs ss : Nat} {xs : Nat → Int32} {p : Program} {l : Launch} {e : Env} {s : State} {m : MethodId} {args : Array Value} {below : List Frame} {meth : Method} {c : Code} {Q : State → Prop} {a : ud_St} (C : ud_C D G z N p s m args meth c code 4 R_law ret) (hX : va_X b L xs s s.heap) (hbl : b < s.heap.size) (hbA : ¬ z ≤ b) (hN : 92 ≤ N) (hk : k + 6 ≤ L) (hL : L ≤ 3072) (hcs : cs ≤ room_1.cells ∧ ss ≤ room_1.slots) (hJ : J N a) (kk : ∀ N' a' cs' ss', J' N' a' → cs' ≤ cs + (N' - N) → (N ≤ N' ∧ N' ≤ N + 11) → ss' ≤ ss + 110 → ud_X D G z N' p l e room_1 s m args below meth c 4 cs' ss' Q a' 18 [(0, .ref b), (1, .ref (z + 0)), (2, .ref (z + 71)), (3, .int (nI (k + 6)))] []) : ud_X D G z N p l e room_1 s m args below meth c 4 cs ss Q a 1297 [(0, .ref b), (1, .ref (z + 0)), (2, .ref (z + 71)), (3, .int (nI k))] [] := by
  have hw := hst N a (xs (Int32.toNatClampNeg ((nI k) + 1))) (xs (Int32.toNatClampNeg ((nI k) + 2))) (xs (Int32.toNatClampNeg ((nI k) + 3))) hJ
  refine ux_aload_n C 1 rfl rfl dL_law_1297 ?_
  refine ux_aload_n C 0 rfl rfl dL_law_1298 ?_
  refine ux_iload_n C 3 rfl rfl dL_law_1299 ?_
  refine ux_iconst C (v := 1) (by decide) dL_law_1300 ?_
  refine ux_iadd C dL_law_1301 ?_
  refine ux_sld C hX hbl hbA (ud_ix (j := 1) hk hL (by decide)) dL_law_1302 ?_
  refine ux_aload_n C 0 rfl rfl dL_law_1303 ?_
  refine ux_iload_n C 3 rfl rfl dL_law_1304 ?_
  refine ux_iconst C (v := 2) (by decide) dL_law_1305 ?_
  refine ux_iadd C dL_law_1306 ?_
  refine ux_sld C hX hbl hbA (ud_ix (j := 2) hk hL (by decide)) dL_law_1307 ?_
  refine ux_aload_n C 0 rfl rfl dL_law_1308 ?_
  refine ux_iload_n C 3 rfl rfl dL_law_1309 ?_
  refine ux_iconst C (v := 3) (by decide) dL_law_1310 ?_
  refine ux_iadd C dL_law_1311 ?_
  refine ux_sld C hX hbl hbA (ud_ix (j := 3) hk hL (by decide)) dL_law_1312 ?_
  refine ux_callV (n := 3) (As := [.int (xs (Int32.toNatClampNeg ((nI k) + 1))), .int (xs (Int32.toNatClampNeg ((nI k) + 2))), .int (xs (Int32.toNatClampNeg ((nI k) + 3)))]) C (c_UpAndDown_found hN hw) (uc_0 hN).1 ((uc_0 hN).2 _ _ _) rfl mw_1159 mw_1160 mw_1161 mw_113 mw_1162 ⟨by decide, by decide, by decide +kernel⟩ rfl ⟨Nat.le_of_ble_eq_true rfl, Nat.le_of_ble_eq_true rfl⟩ ⟨hcs.1, hcs.2⟩ rfl (Nat.le_of_ble_eq_true rfl) dL_law_1313 (po_i.k fun r a1 hw => ?_)
  refine ux_aload_n C 2 rfl rfl dL_law_1316 ?_
  refine ux_aload_n C 0 rfl rfl dL_law_1317 ?_
  refine ux_iload_n C 3 rfl rfl dL_law_1318 ?_
  refine ux_iconst C (v := 1) (by decide) dL_law_1319 ?_
  refine ux_iadd C dL_law_1320 ?_
  refine ux_sld C hX hbl hbA (ud_ix (j := 1) hk hL (by decide)) dL_law_1321 ?_
  refine ux_aload_n C 0 rfl rfl dL_law_1322 ?_
  refine ux_iload_n C 3 rfl rfl dL_law_1323 ?_
  refine ux_iconst C (v := 2) (by decide) dL_law_1324 ?_
  refine ux_iadd C dL_law_1325 ?_
  refine ux_sld C hX hbl hbA (ud_ix (j := 2) hk hL (by decide)) dL_law_1326 ?_
  refine ux_aload_n C 0 rfl rfl dL_law_1327 ?_
  refine ux_iload_n C 3 rfl rfl dL_law_1328 ?_
  refine ux_iconst C (v := 3) (by decide) dL_law_1329 ?_
  refine ux_iadd C dL_law_1330 ?_
  refine ux_sld C hX hbl hbA (ud_ix (j := 3) hk hL (by decide)) dL_law_1331 ?_
  refine ux_callV (n := 3) (As := [.int (xs (Int32.toNatClampNeg ((nI k) + 1))), .int (xs (Int32.toNatClampNeg ((nI k) + 2))), .int (xs (Int32.toNatClampNeg ((nI k) + 3)))]) C (c_Model_found hN hw) (uc_71 hN).1 ((uc_71 hN).2 _ _ _) rfl mw_1849 mw_1850 mw_1851 mw_124 mw_1852 ⟨by decide, by decide, by decide +kernel⟩ rfl ⟨Nat.le_of_ble_eq_true rfl, Nat.le_of_ble_eq_true rfl⟩ ⟨hcs.1, hcs.2⟩ rfl (Nat.le_of_ble_eq_true rfl) dL_law_1332 (po_i.k fun r' a2 hw => ?_)
  obtain ⟨rfl, hJ⟩ := hw
  refine ux_icmp_eq C (tgt := 1710) (by decide) dL_law_1335 (fun _ => ?_) (fun h => absurd rfl h)
  refine ux_iinc (v := nI (k + 6)) C 3 rfl (ud_i6 k) (by decide) rfl dL_law_1710 ?_
  refine ux_goto C (tgt := 18) (by decide) dL_law_1713 ?_
  refine ux_pick [1, 2, 3, 0] rfl ?_
  exact kk N _ cs ss hJ (by omega) ⟨by omega, by omega⟩ (by omega)
set_option maxHeartbeats 4000000 in
theorem lc_best {J J' : Nat → ud_St → Prop} (hst : us_best J J') {D : va_G} {G : Nat → Nat} {z N b L k cs ss : Nat} {xs : Nat → Int32} {p : Program} {l : Launch} {e : Env} {s : State} {m : MethodId} {args : Array Value} {below : List Frame} {meth : Method} {c : Code} {Q : State → Prop} {a : ud_St} (C : ud_C D G z N p s m args meth c code 4 R_law ret) (hX : va_X b L xs s s.heap) (hbl : b < s.heap.size) (hbA : ¬ z ≤ b) (hN : 92 ≤ N) (hk : k + 6 ≤ L) (hL : L ≤ 3072) (hcs : cs ≤ room_1.cells ∧ ss ≤ room_1.slots) (hJ : J N a) (kk : ∀ N' a' cs' ss', J' N' a' → cs' ≤ cs + (N' - N) → (N ≤ N' ∧ N' ≤ N + 11) → ss' ≤ ss + 110 → ud_X D G z N' p l e room_1 s m args below meth c 4 cs' ss' Q a' 18 [(0, .ref b), (1, .ref (z + 0)), (2, .ref (z + 71)), (3, .int (nI (k + 6)))] []) : ud_X D G z N p l e room_1 s m args below meth c 4 cs ss Q a 1340 [(0, .ref b), (1, .ref (z + 0)), (2, .ref (z + 71)), (3, .int (nI k))] [] := by
  have hw := hst N a (xs (Int32.toNatClampNeg ((nI k) + 1))) (xs (Int32.toNatClampNeg ((nI k) + 2))) hJ
  refine ux_aload_n C 1 rfl rfl dL_law_1340 ?_
  refine ux_aload_n C 0 rfl rfl dL_law_1341 ?_
  refine ux_iload_n C 3 rfl rfl dL_law_1342 ?_
  refine ux_iconst C (v := 1) (by decide) dL_law_1343 ?_
  refine ux_iadd C dL_law_1344 ?_
  refine ux_sld C hX hbl hbA (ud_ix (j := 1) hk hL (by decide)) dL_law_1345 ?_
  refine ux_aload_n C 0 rfl rfl dL_law_1346 ?_
  refine ux_iload_n C 3 rfl rfl dL_law_1347 ?_
  refine ux_iconst C (v := 2) (by decide) dL_law_1348 ?_
  refine ux_iadd C dL_law_1349 ?_
  refine ux_sld C hX hbl hbA (ud_ix (j := 2) hk hL (by decide)) dL_law_1350 ?_
  refine ux_callV (n := 2) (As := [.int (xs (Int32.toNatClampNeg ((nI k) + 1))), .int (xs (Int32.toNatClampNeg ((nI k) + 2)))]) C (c_UpAndDown_best hN hw) (uc_0 hN).1 ((uc_0 hN).2 _ _ _) rfl mw_1163 mw_1164 mw_1165 mw_113 mw_1166 ⟨by decide, by decide, by decide +kernel⟩ rfl ⟨Nat.le_of_ble_eq_true rfl, Nat.le_of_ble_eq_true rfl⟩ ⟨hcs.1, hcs.2⟩ rfl (Nat.le_of_ble_eq_true rfl) dL_law_1351 (po_i.k fun r a1 hw => ?_)
  refine ux_aload_n C 2 rfl rfl dL_law_1354 ?_
  refine ux_aload_n C 0 rfl rfl dL_law_1355 ?_
  refine ux_iload_n C 3 rfl rfl dL_law_1356 ?_
  refine ux_iconst C (v := 1) (by decide) dL_law_1357 ?_
  refine ux_iadd C dL_law_1358 ?_
  refine ux_sld C hX hbl hbA (ud_ix (j := 1) hk hL (by decide)) dL_law_1359 ?_
  refine ux_aload_n C 0 rfl rfl dL_law_1360 ?_
  refine ux_iload_n C 3 rfl rfl dL_law_1361 ?_
  refine ux_iconst C (v := 2) (by decide) dL_law_1362 ?_
  refine ux_iadd C dL_law_1363 ?_
  refine ux_sld C hX hbl hbA (ud_ix (j := 2) hk hL (by decide)) dL_law_1364 ?_
  refine ux_callV (n := 2) (As := [.int (xs (Int32.toNatClampNeg ((nI k) + 1))), .int (xs (Int32.toNatClampNeg ((nI k) + 2)))]) C (c_Model_best hN hw) (uc_71 hN).1 ((uc_71 hN).2 _ _ _) rfl mw_1853 mw_1854 mw_1855 mw_124 mw_1856 ⟨by decide, by decide, by decide +kernel⟩ rfl ⟨Nat.le_of_ble_eq_true rfl, Nat.le_of_ble_eq_true rfl⟩ ⟨hcs.1, hcs.2⟩ rfl (Nat.le_of_ble_eq_true rfl) dL_law_1365 (po_i.k fun r' a2 hw => ?_)
  obtain ⟨rfl, hJ⟩ := hw
  refine ux_icmp_eq C (tgt := 1710) (by decide) dL_law_1368 (fun _ => ?_) (fun h => absurd rfl h)
  refine ux_iinc (v := nI (k + 6)) C 3 rfl (ud_i6 k) (by decide) rfl dL_law_1710 ?_
  refine ux_goto C (tgt := 18) (by decide) dL_law_1713 ?_
  refine ux_pick [1, 2, 3, 0] rfl ?_
  exact kk N _ cs ss hJ (by omega) ⟨by omega, by omega⟩ (by omega)
set_option maxHeartbeats 4000000 in
theorem lc_evening {J J' : Nat → ud_St → Prop} (hst : us_evening J J') {D : va_G} {G : Nat → Nat} {z N b L k cs ss : Nat} {xs : Nat → Int32} {p : Program} {l : Launch} {e : Env} {s : State} {m : MethodId} {args : Array Value} {below : List Frame} {meth : Method} {c : Code} {Q : State → Prop} {a : ud_St} (C : ud_C D G z N p s m args meth c code 4 R_law ret) (hX : va_X b L xs s s.heap) (hbl : b < s.heap.size) (hbA : ¬ z ≤ b) (hN : 92 ≤ N) (hk : k + 6 ≤ L) (hL : L ≤ 3072) (hcs : cs ≤ room_1.cells ∧ ss ≤ room_1.slots) (hJ : J N a) (kk : ∀ N' a' cs' ss', J' N' a' → cs' ≤ cs + (N' - N) → (N ≤ N' ∧ N' ≤ N + 11) → ss' ≤ ss + 110 → ud_X D G z N' p l e room_1 s m args below meth c 4 cs' ss' Q a' 18 [(0, .ref b), (1, .ref (z + 0)), (2, .ref (z + 71)), (3, .int (nI (k + 6)))] []) : ud_X D G z N p l e room_1 s m args below meth c 4 cs ss Q a 1373 [(0, .ref b), (1, .ref (z + 0)), (2, .ref (z + 71)), (3, .int (nI k))] [] := by
  have hw := hst N a (xs (Int32.toNatClampNeg ((nI k) + 1))) (xs (Int32.toNatClampNeg ((nI k) + 2))) (xs (Int32.toNatClampNeg ((nI k) + 3))) hJ
  refine ux_aload_n C 1 rfl rfl dL_law_1373 ?_
  refine ux_aload_n C 0 rfl rfl dL_law_1374 ?_
  refine ux_iload_n C 3 rfl rfl dL_law_1375 ?_
  refine ux_iconst C (v := 1) (by decide) dL_law_1376 ?_
  refine ux_iadd C dL_law_1377 ?_
  refine ux_sld C hX hbl hbA (ud_ix (j := 1) hk hL (by decide)) dL_law_1378 ?_
  refine ux_aload_n C 0 rfl rfl dL_law_1379 ?_
  refine ux_iload_n C 3 rfl rfl dL_law_1380 ?_
  refine ux_iconst C (v := 2) (by decide) dL_law_1381 ?_
  refine ux_iadd C dL_law_1382 ?_
  refine ux_sld C hX hbl hbA (ud_ix (j := 2) hk hL (by decide)) dL_law_1383 ?_
  refine ux_aload_n C 0 rfl rfl dL_law_1384 ?_
  refine ux_iload_n C 3 rfl rfl dL_law_1385 ?_
  refine ux_iconst C (v := 3) (by decide) dL_law_1386 ?_
  refine ux_iadd C dL_law_1387 ?_
  refine ux_sld C hX hbl hbA (ud_ix (j := 3) hk hL (by decide)) dL_law_1388 ?_
  refine ux_callV (n := 3) (As := [.int (xs (Int32.toNatClampNeg ((nI k) + 1))), .int (xs (Int32.toNatClampNeg ((nI k) + 2))), .int (xs (Int32.toNatClampNeg ((nI k) + 3)))]) C (c_UpAndDown_evening hN hw) (uc_0 hN).1 ((uc_0 hN).2 _ _ _) rfl mw_1184 mw_1185 mw_1186 mw_113 mw_1187 ⟨by decide, by decide, by decide +kernel⟩ rfl ⟨Nat.le_of_ble_eq_true rfl, Nat.le_of_ble_eq_true rfl⟩ ⟨hcs.1, hcs.2⟩ rfl (Nat.le_of_ble_eq_true rfl) dL_law_1389 (po_i.k fun r a1 hw => ?_)
  refine ux_aload_n C 2 rfl rfl dL_law_1392 ?_
  refine ux_aload_n C 0 rfl rfl dL_law_1393 ?_
  refine ux_iload_n C 3 rfl rfl dL_law_1394 ?_
  refine ux_iconst C (v := 1) (by decide) dL_law_1395 ?_
  refine ux_iadd C dL_law_1396 ?_
  refine ux_sld C hX hbl hbA (ud_ix (j := 1) hk hL (by decide)) dL_law_1397 ?_
  refine ux_aload_n C 0 rfl rfl dL_law_1398 ?_
  refine ux_iload_n C 3 rfl rfl dL_law_1399 ?_
  refine ux_iconst C (v := 2) (by decide) dL_law_1400 ?_
  refine ux_iadd C dL_law_1401 ?_
  refine ux_sld C hX hbl hbA (ud_ix (j := 2) hk hL (by decide)) dL_law_1402 ?_
  refine ux_aload_n C 0 rfl rfl dL_law_1403 ?_
  refine ux_iload_n C 3 rfl rfl dL_law_1404 ?_
  refine ux_iconst C (v := 3) (by decide) dL_law_1405 ?_
  refine ux_iadd C dL_law_1406 ?_
  refine ux_sld C hX hbl hbA (ud_ix (j := 3) hk hL (by decide)) dL_law_1407 ?_
  refine ux_callV (n := 3) (As := [.int (xs (Int32.toNatClampNeg ((nI k) + 1))), .int (xs (Int32.toNatClampNeg ((nI k) + 2))), .int (xs (Int32.toNatClampNeg ((nI k) + 3)))]) C (c_Model_evening hN hw) (uc_71 hN).1 ((uc_71 hN).2 _ _ _) rfl mw_1857 mw_1858 mw_1859 mw_124 mw_1860 ⟨by decide, by decide, by decide +kernel⟩ rfl ⟨Nat.le_of_ble_eq_true rfl, Nat.le_of_ble_eq_true rfl⟩ ⟨hcs.1, hcs.2⟩ rfl (Nat.le_of_ble_eq_true rfl) dL_law_1408 (po_i.k fun r' a2 hw => ?_)
  obtain ⟨rfl, hJ⟩ := hw
  refine ux_icmp_eq C (tgt := 1710) (by decide) dL_law_1411 (fun _ => ?_) (fun h => absurd rfl h)
  refine ux_iinc (v := nI (k + 6)) C 3 rfl (ud_i6 k) (by decide) rfl dL_law_1710 ?_
  refine ux_goto C (tgt := 18) (by decide) dL_law_1713 ?_
  refine ux_pick [1, 2, 3, 0] rfl ?_
  exact kk N _ cs ss hJ (by omega) ⟨by omega, by omega⟩ (by omega)
set_option maxHeartbeats 4000000 in
theorem lc_judge {J J' : Nat → ud_St → Prop} (hst : us_judge J J') {D : va_G} {G : Nat → Nat} {z N b L k cs ss : Nat} {xs : Nat → Int32} {p : Program} {l : Launch} {e : Env} {s : State} {m : MethodId} {args : Array Value} {below : List Frame} {meth : Method} {c : Code} {Q : State → Prop} {a : ud_St} (C : ud_C D G z N p s m args meth c code 4 R_law ret) (hX : va_X b L xs s s.heap) (hbl : b < s.heap.size) (hbA : ¬ z ≤ b) (hN : 92 ≤ N) (hk : k + 6 ≤ L) (hL : L ≤ 3072) (hcs : cs ≤ room_1.cells ∧ ss ≤ room_1.slots) (hJ : J N a) (kk : ∀ N' a' cs' ss', J' N' a' → cs' ≤ cs + (N' - N) → (N ≤ N' ∧ N' ≤ N + 11) → ss' ≤ ss + 110 → ud_X D G z N' p l e room_1 s m args below meth c 4 cs' ss' Q a' 18 [(0, .ref b), (1, .ref (z + 0)), (2, .ref (z + 71)), (3, .int (nI (k + 6)))] []) : ud_X D G z N p l e room_1 s m args below meth c 4 cs ss Q a 1416 [(0, .ref b), (1, .ref (z + 0)), (2, .ref (z + 71)), (3, .int (nI k))] [] := by
  have hw := hst N a (xs (Int32.toNatClampNeg ((nI k) + 1))) hJ
  refine ux_aload_n C 1 rfl rfl dL_law_1416 ?_
  refine ux_aload_n C 0 rfl rfl dL_law_1417 ?_
  refine ux_iload_n C 3 rfl rfl dL_law_1418 ?_
  refine ux_iconst C (v := 1) (by decide) dL_law_1419 ?_
  refine ux_iadd C dL_law_1420 ?_
  refine ux_sld C hX hbl hbA (ud_ix (j := 1) hk hL (by decide)) dL_law_1421 ?_
  refine ux_callV (n := 1) (As := [.int (xs (Int32.toNatClampNeg ((nI k) + 1)))]) C (c_UpAndDown_judge hN hw) (uc_0 hN).1 ((uc_0 hN).2 _ _ _) rfl mw_1223 mw_1224 mw_1225 mw_113 mw_1226 ⟨by decide, by decide, by decide +kernel⟩ rfl ⟨Nat.le_of_ble_eq_true rfl, Nat.le_of_ble_eq_true rfl⟩ ⟨hcs.1, hcs.2⟩ rfl (Nat.le_of_ble_eq_true rfl) dL_law_1422 (po_ip.k fun r hw => ?_)
  refine ux_aload_n C 2 rfl rfl dL_law_1425 ?_
  refine ux_aload_n C 0 rfl rfl dL_law_1426 ?_
  refine ux_iload_n C 3 rfl rfl dL_law_1427 ?_
  refine ux_iconst C (v := 1) (by decide) dL_law_1428 ?_
  refine ux_iadd C dL_law_1429 ?_
  refine ux_sld C hX hbl hbA (ud_ix (j := 1) hk hL (by decide)) dL_law_1430 ?_
  refine ux_callV (n := 1) (As := [.int (xs (Int32.toNatClampNeg ((nI k) + 1)))]) C (c_Model_judge hN hw) (uc_71 hN).1 ((uc_71 hN).2 _ _ _) rfl mw_1867 mw_1868 mw_1869 mw_124 mw_1870 ⟨by decide, by decide, by decide +kernel⟩ rfl ⟨Nat.le_of_ble_eq_true rfl, Nat.le_of_ble_eq_true rfl⟩ ⟨hcs.1, hcs.2⟩ rfl (Nat.le_of_ble_eq_true rfl) dL_law_1431 (po_i.k fun r' a2 hw => ?_)
  obtain ⟨rfl, hJ⟩ := hw
  refine ux_icmp_eq C (tgt := 1710) (by decide) dL_law_1434 (fun _ => ?_) (fun h => absurd rfl h)
  refine ux_iinc (v := nI (k + 6)) C 3 rfl (ud_i6 k) (by decide) rfl dL_law_1710 ?_
  refine ux_goto C (tgt := 18) (by decide) dL_law_1713 ?_
  refine ux_pick [1, 2, 3, 0] rfl ?_
  exact kk N _ cs ss hJ (by omega) ⟨by omega, by omega⟩ (by omega)
set_option maxHeartbeats 4000000 in
theorem lc_count {J J' : Nat → ud_St → Prop} (hst : us_count J J') {D : va_G} {G : Nat → Nat} {z N b L k cs ss : Nat} {xs : Nat → Int32} {p : Program} {l : Launch} {e : Env} {s : State} {m : MethodId} {args : Array Value} {below : List Frame} {meth : Method} {c : Code} {Q : State → Prop} {a : ud_St} (C : ud_C D G z N p s m args meth c code 4 R_law ret) (hX : va_X b L xs s s.heap) (hbl : b < s.heap.size) (hbA : ¬ z ≤ b) (hN : 92 ≤ N) (hk : k + 6 ≤ L) (hL : L ≤ 3072) (hcs : cs ≤ room_1.cells ∧ ss ≤ room_1.slots) (hJ : J N a) (kk : ∀ N' a' cs' ss', J' N' a' → cs' ≤ cs + (N' - N) → (N ≤ N' ∧ N' ≤ N + 11) → ss' ≤ ss + 110 → ud_X D G z N' p l e room_1 s m args below meth c 4 cs' ss' Q a' 18 [(0, .ref b), (1, .ref (z + 0)), (2, .ref (z + 71)), (3, .int (nI (k + 6)))] []) : ud_X D G z N p l e room_1 s m args below meth c 4 cs ss Q a 1439 [(0, .ref b), (1, .ref (z + 0)), (2, .ref (z + 71)), (3, .int (nI k))] [] := by
  have hw := hst N a (xs (Int32.toNatClampNeg ((nI k) + 1))) hJ
  refine ux_aload_n C 1 rfl rfl dL_law_1439 ?_
  refine ux_aload_n C 0 rfl rfl dL_law_1440 ?_
  refine ux_iload_n C 3 rfl rfl dL_law_1441 ?_
  refine ux_iconst C (v := 1) (by decide) dL_law_1442 ?_
  refine ux_iadd C dL_law_1443 ?_
  refine ux_sld C hX hbl hbA (ud_ix (j := 1) hk hL (by decide)) dL_law_1444 ?_
  refine ux_callV (n := 1) (As := [.int (xs (Int32.toNatClampNeg ((nI k) + 1)))]) C (c_UpAndDown_count hN hw) (uc_0 hN).1 ((uc_0 hN).2 _ _ _) rfl mw_1239 mw_1240 mw_1241 mw_113 mw_1242 ⟨by decide, by decide, by decide +kernel⟩ rfl ⟨Nat.le_of_ble_eq_true rfl, Nat.le_of_ble_eq_true rfl⟩ ⟨hcs.1, hcs.2⟩ rfl (Nat.le_of_ble_eq_true rfl) dL_law_1445 (po_ip.k fun r hw => ?_)
  refine ux_aload_n C 2 rfl rfl dL_law_1448 ?_
  refine ux_aload_n C 0 rfl rfl dL_law_1449 ?_
  refine ux_iload_n C 3 rfl rfl dL_law_1450 ?_
  refine ux_iconst C (v := 1) (by decide) dL_law_1451 ?_
  refine ux_iadd C dL_law_1452 ?_
  refine ux_sld C hX hbl hbA (ud_ix (j := 1) hk hL (by decide)) dL_law_1453 ?_
  refine ux_callV (n := 1) (As := [.int (xs (Int32.toNatClampNeg ((nI k) + 1)))]) C (c_Model_count hN hw) (uc_71 hN).1 ((uc_71 hN).2 _ _ _) rfl mw_1871 mw_1872 mw_1873 mw_124 mw_1874 ⟨by decide, by decide, by decide +kernel⟩ rfl ⟨Nat.le_of_ble_eq_true rfl, Nat.le_of_ble_eq_true rfl⟩ ⟨hcs.1, hcs.2⟩ rfl (Nat.le_of_ble_eq_true rfl) dL_law_1454 (po_i.k fun r' a2 hw => ?_)
  obtain ⟨rfl, hJ⟩ := hw
  refine ux_icmp_eq C (tgt := 1710) (by decide) dL_law_1457 (fun _ => ?_) (fun h => absurd rfl h)
  refine ux_iinc (v := nI (k + 6)) C 3 rfl (ud_i6 k) (by decide) rfl dL_law_1710 ?_
  refine ux_goto C (tgt := 18) (by decide) dL_law_1713 ?_
  refine ux_pick [1, 2, 3, 0] rfl ?_
  exact kk N _ cs ss hJ (by omega) ⟨by omega, by omega⟩ (by omega)
set_option maxHeartbeats 4000000 in
theorem lc_told {J J' : Nat → ud_St → Prop} (hst : us_told J J') {D : va_G} {G : Nat → Nat} {z N b L k cs ss : Nat} {xs : Nat → Int32} {p : Program} {l : Launch} {e : Env} {s : State} {m : MethodId} {args : Array Value} {below : List Frame} {meth : Method} {c : Code} {Q : State → Prop} {a : ud_St} (C : ud_C D G z N p s m args meth c code 4 R_law ret) (hX : va_X b L xs s s.heap) (hbl : b < s.heap.size) (hbA : ¬ z ≤ b) (hN : 92 ≤ N) (hk : k + 6 ≤ L) (hL : L ≤ 3072) (hcs : cs ≤ room_1.cells ∧ ss ≤ room_1.slots) (hJ : J N a) (kk : ∀ N' a' cs' ss', J' N' a' → cs' ≤ cs + (N' - N) → (N ≤ N' ∧ N' ≤ N + 11) → ss' ≤ ss + 110 → ud_X D G z N' p l e room_1 s m args below meth c 4 cs' ss' Q a' 18 [(0, .ref b), (1, .ref (z + 0)), (2, .ref (z + 71)), (3, .int (nI (k + 6)))] []) : ud_X D G z N p l e room_1 s m args below meth c 4 cs ss Q a 1462 [(0, .ref b), (1, .ref (z + 0)), (2, .ref (z + 71)), (3, .int (nI k))] [] := by
  have hw := hst N a (xs (Int32.toNatClampNeg ((nI k) + 1))) hJ
  refine ux_aload_n C 1 rfl rfl dL_law_1462 ?_
  refine ux_aload_n C 0 rfl rfl dL_law_1463 ?_
  refine ux_iload_n C 3 rfl rfl dL_law_1464 ?_
  refine ux_iconst C (v := 1) (by decide) dL_law_1465 ?_
  refine ux_iadd C dL_law_1466 ?_
  refine ux_sld C hX hbl hbA (ud_ix (j := 1) hk hL (by decide)) dL_law_1467 ?_
  refine ux_callV (n := 1) (As := [.int (xs (Int32.toNatClampNeg ((nI k) + 1)))]) C (c_UpAndDown_told hN hw) (uc_0 hN).1 ((uc_0 hN).2 _ _ _) rfl mw_1247 mw_1248 mw_1249 mw_113 mw_1250 ⟨by decide, by decide, by decide +kernel⟩ rfl ⟨Nat.le_of_ble_eq_true rfl, Nat.le_of_ble_eq_true rfl⟩ ⟨hcs.1, hcs.2⟩ rfl (Nat.le_of_ble_eq_true rfl) dL_law_1468 (po_ip.k fun r hw => ?_)
  refine ux_aload_n C 2 rfl rfl dL_law_1471 ?_
  refine ux_aload_n C 0 rfl rfl dL_law_1472 ?_
  refine ux_iload_n C 3 rfl rfl dL_law_1473 ?_
  refine ux_iconst C (v := 1) (by decide) dL_law_1474 ?_
  refine ux_iadd C dL_law_1475 ?_
  refine ux_sld C hX hbl hbA (ud_ix (j := 1) hk hL (by decide)) dL_law_1476 ?_
  refine ux_callV (n := 1) (As := [.int (xs (Int32.toNatClampNeg ((nI k) + 1)))]) C (c_Model_told hN hw) (uc_71 hN).1 ((uc_71 hN).2 _ _ _) rfl mw_1875 mw_1876 mw_1877 mw_124 mw_1878 ⟨by decide, by decide, by decide +kernel⟩ rfl ⟨Nat.le_of_ble_eq_true rfl, Nat.le_of_ble_eq_true rfl⟩ ⟨hcs.1, hcs.2⟩ rfl (Nat.le_of_ble_eq_true rfl) dL_law_1477 (po_i.k fun r' a2 hw => ?_)
  obtain ⟨rfl, hJ⟩ := hw
  refine ux_icmp_eq C (tgt := 1710) (by decide) dL_law_1480 (fun _ => ?_) (fun h => absurd rfl h)
  refine ux_iinc (v := nI (k + 6)) C 3 rfl (ud_i6 k) (by decide) rfl dL_law_1710 ?_
  refine ux_goto C (tgt := 18) (by decide) dL_law_1713 ?_
  refine ux_pick [1, 2, 3, 0] rfl ?_
  exact kk N _ cs ss hJ (by omega) ⟨by omega, by omega⟩ (by omega)
set_option maxHeartbeats 4000000 in
theorem lc_restore {J J' : Nat → ud_St → Prop} (hst : us_restore J J') {D : va_G} {G : Nat → Nat} {z N b L k cs ss : Nat} {xs : Nat → Int32} {p : Program} {l : Launch} {e : Env} {s : State} {m : MethodId} {args : Array Value} {below : List Frame} {meth : Method} {c : Code} {Q : State → Prop} {a : ud_St} (C : ud_C D G z N p s m args meth c code 4 R_law ret) (hX : va_X b L xs s s.heap) (hbl : b < s.heap.size) (hbA : ¬ z ≤ b) (hN : 92 ≤ N) (hk : k + 6 ≤ L) (hL : L ≤ 3072) (hcs : cs ≤ room_1.cells ∧ ss ≤ room_1.slots) (hJ : J N a) (kk : ∀ N' a' cs' ss', J' N' a' → cs' ≤ cs + (N' - N) → (N ≤ N' ∧ N' ≤ N + 11) → ss' ≤ ss + 110 → ud_X D G z N' p l e room_1 s m args below meth c 4 cs' ss' Q a' 18 [(0, .ref b), (1, .ref (z + 0)), (2, .ref (z + 71)), (3, .int (nI (k + 6)))] []) : ud_X D G z N p l e room_1 s m args below meth c 4 cs ss Q a 1508 [(0, .ref b), (1, .ref (z + 0)), (2, .ref (z + 71)), (3, .int (nI k))] [] := by
  have hw := hst N a (xs (Int32.toNatClampNeg ((nI k) + 1))) hJ
  refine ux_aload_n C 1 rfl rfl dL_law_1508 ?_
  refine ux_aload_n C 0 rfl rfl dL_law_1509 ?_
  refine ux_iload_n C 3 rfl rfl dL_law_1510 ?_
  refine ux_iconst C (v := 1) (by decide) dL_law_1511 ?_
  refine ux_iadd C dL_law_1512 ?_
  refine ux_sld C hX hbl hbA (ud_ix (j := 1) hk hL (by decide)) dL_law_1513 ?_
  refine ux_callV (n := 1) (As := [.int (xs (Int32.toNatClampNeg ((nI k) + 1)))]) C (c_UpAndDown_restore hN hw) (uc_0 hN).1 ((uc_0 hN).2 _ _ _) rfl mw_1260 mw_1261 mw_1262 mw_113 mw_1263 ⟨by decide, by decide, by decide +kernel⟩ rfl ⟨Nat.le_of_ble_eq_true rfl, Nat.le_of_ble_eq_true rfl⟩ ⟨hcs.1, hcs.2⟩ rfl (Nat.le_of_ble_eq_true rfl) dL_law_1514 (po_i.k fun r a1 hw => ?_)
  refine ux_aload_n C 2 rfl rfl dL_law_1517 ?_
  refine ux_aload_n C 0 rfl rfl dL_law_1518 ?_
  refine ux_iload_n C 3 rfl rfl dL_law_1519 ?_
  refine ux_iconst C (v := 1) (by decide) dL_law_1520 ?_
  refine ux_iadd C dL_law_1521 ?_
  refine ux_sld C hX hbl hbA (ud_ix (j := 1) hk hL (by decide)) dL_law_1522 ?_
  refine ux_callV (n := 1) (As := [.int (xs (Int32.toNatClampNeg ((nI k) + 1)))]) C (c_Model_restore hN hw) (uc_71 hN).1 ((uc_71 hN).2 _ _ _) rfl mw_1883 mw_1884 mw_1885 mw_124 mw_1886 ⟨by decide, by decide, by decide +kernel⟩ rfl ⟨Nat.le_of_ble_eq_true rfl, Nat.le_of_ble_eq_true rfl⟩ ⟨hcs.1, hcs.2⟩ rfl (Nat.le_of_ble_eq_true rfl) dL_law_1523 (po_i.k fun r' a2 hw => ?_)
  obtain ⟨rfl, hJ⟩ := hw
  refine ux_icmp_eq C (tgt := 1710) (by decide) dL_law_1526 (fun _ => ?_) (fun h => absurd rfl h)
  refine ux_iinc (v := nI (k + 6)) C 3 rfl (ud_i6 k) (by decide) rfl dL_law_1710 ?_
  refine ux_goto C (tgt := 18) (by decide) dL_law_1713 ?_
  refine ux_pick [1, 2, 3, 0] rfl ?_
  exact kk N _ cs ss hJ (by omega) ⟨by omega, by omega⟩ (by omega)
set_option maxHeartbeats 4000000 in
theorem lc_row {J J' : Nat → ud_St → Prop} (hst : us_row J J') {D : va_G} {G : Nat → Nat} {z N b L k cs ss : Nat} {xs : Nat → Int32} {p : Program} {l : Launch} {e : Env} {s : State} {m : MethodId} {args : Array Value} {below : List Frame} {meth : Method} {c : Code} {Q : State → Prop} {a : ud_St} (C : ud_C D G z N p s m args meth c code 4 R_law ret) (hX : va_X b L xs s s.heap) (hbl : b < s.heap.size) (hbA : ¬ z ≤ b) (hN : 92 ≤ N) (hk : k + 6 ≤ L) (hL : L ≤ 3072) (hcs : cs ≤ room_1.cells ∧ ss ≤ room_1.slots) (hJ : J N a) (kk : ∀ N' a' cs' ss', J' N' a' → cs' ≤ cs + (N' - N) → (N ≤ N' ∧ N' ≤ N + 11) → ss' ≤ ss + 110 → ud_X D G z N' p l e room_1 s m args below meth c 4 cs' ss' Q a' 18 [(0, .ref b), (1, .ref (z + 0)), (2, .ref (z + 71)), (3, .int (nI (k + 6)))] []) : ud_X D G z N p l e room_1 s m args below meth c 4 cs ss Q a 1531 [(0, .ref b), (1, .ref (z + 0)), (2, .ref (z + 71)), (3, .int (nI k))] [] := by
  have hw := hst N a (xs (Int32.toNatClampNeg ((nI k) + 1))) (xs (Int32.toNatClampNeg ((nI k) + 2))) (xs (Int32.toNatClampNeg ((nI k) + 3))) hJ
  refine ux_aload_n C 1 rfl rfl dL_law_1531 ?_
  refine ux_aload_n C 0 rfl rfl dL_law_1532 ?_
  refine ux_iload_n C 3 rfl rfl dL_law_1533 ?_
  refine ux_iconst C (v := 1) (by decide) dL_law_1534 ?_
  refine ux_iadd C dL_law_1535 ?_
  refine ux_sld C hX hbl hbA (ud_ix (j := 1) hk hL (by decide)) dL_law_1536 ?_
  refine ux_aload_n C 0 rfl rfl dL_law_1537 ?_
  refine ux_iload_n C 3 rfl rfl dL_law_1538 ?_
  refine ux_iconst C (v := 2) (by decide) dL_law_1539 ?_
  refine ux_iadd C dL_law_1540 ?_
  refine ux_sld C hX hbl hbA (ud_ix (j := 2) hk hL (by decide)) dL_law_1541 ?_
  refine ux_aload_n C 0 rfl rfl dL_law_1542 ?_
  refine ux_iload_n C 3 rfl rfl dL_law_1543 ?_
  refine ux_iconst C (v := 3) (by decide) dL_law_1544 ?_
  refine ux_iadd C dL_law_1545 ?_
  refine ux_sld C hX hbl hbA (ud_ix (j := 3) hk hL (by decide)) dL_law_1546 ?_
  refine ux_callV (n := 3) (As := [.int (xs (Int32.toNatClampNeg ((nI k) + 1))), .int (xs (Int32.toNatClampNeg ((nI k) + 2))), .int (xs (Int32.toNatClampNeg ((nI k) + 3)))]) C (c_UpAndDown_row hN hw) (uc_0 hN).1 ((uc_0 hN).2 _ _ _) rfl mw_1264 mw_1265 mw_1266 mw_113 mw_1267 ⟨by decide, by decide, by decide +kernel⟩ rfl ⟨Nat.le_of_ble_eq_true rfl, Nat.le_of_ble_eq_true rfl⟩ ⟨hcs.1, hcs.2⟩ rfl (Nat.le_of_ble_eq_true rfl) dL_law_1547 (po_i.k fun r a1 hw => ?_)
  refine ux_aload_n C 2 rfl rfl dL_law_1550 ?_
  refine ux_aload_n C 0 rfl rfl dL_law_1551 ?_
  refine ux_iload_n C 3 rfl rfl dL_law_1552 ?_
  refine ux_iconst C (v := 1) (by decide) dL_law_1553 ?_
  refine ux_iadd C dL_law_1554 ?_
  refine ux_sld C hX hbl hbA (ud_ix (j := 1) hk hL (by decide)) dL_law_1555 ?_
  refine ux_aload_n C 0 rfl rfl dL_law_1556 ?_
  refine ux_iload_n C 3 rfl rfl dL_law_1557 ?_
  refine ux_iconst C (v := 2) (by decide) dL_law_1558 ?_
  refine ux_iadd C dL_law_1559 ?_
  refine ux_sld C hX hbl hbA (ud_ix (j := 2) hk hL (by decide)) dL_law_1560 ?_
  refine ux_aload_n C 0 rfl rfl dL_law_1561 ?_
  refine ux_iload_n C 3 rfl rfl dL_law_1562 ?_
  refine ux_iconst C (v := 3) (by decide) dL_law_1563 ?_
  refine ux_iadd C dL_law_1564 ?_
  refine ux_sld C hX hbl hbA (ud_ix (j := 3) hk hL (by decide)) dL_law_1565 ?_
  refine ux_callV (n := 3) (As := [.int (xs (Int32.toNatClampNeg ((nI k) + 1))), .int (xs (Int32.toNatClampNeg ((nI k) + 2))), .int (xs (Int32.toNatClampNeg ((nI k) + 3)))]) C (c_Model_row hN hw) (uc_71 hN).1 ((uc_71 hN).2 _ _ _) rfl mw_1408 mw_1409 mw_1410 mw_124 mw_1411 ⟨by decide, by decide, by decide +kernel⟩ rfl ⟨Nat.le_of_ble_eq_true rfl, Nat.le_of_ble_eq_true rfl⟩ ⟨hcs.1, hcs.2⟩ rfl (Nat.le_of_ble_eq_true rfl) dL_law_1566 (po_i.k fun r' a2 hw => ?_)
  obtain ⟨rfl, hJ⟩ := hw
  refine ux_icmp_eq C (tgt := 1710) (by decide) dL_law_1569 (fun _ => ?_) (fun h => absurd rfl h)
  refine ux_iinc (v := nI (k + 6)) C 3 rfl (ud_i6 k) (by decide) rfl dL_law_1710 ?_
  refine ux_goto C (tgt := 18) (by decide) dL_law_1713 ?_
  refine ux_pick [1, 2, 3, 0] rfl ?_
  exact kk N _ cs ss hJ (by omega) ⟨by omega, by omega⟩ (by omega)
set_option maxHeartbeats 4000000 in
theorem lc_write {J J' : Nat → ud_St → Prop} (hst : us_write J J') {D : va_G} {G : Nat → Nat} {z N b L k cs ss : Nat} {xs : Nat → Int32} {p : Program} {l : Launch} {e : Env} {s : State} {m : MethodId} {args : Array Value} {below : List Frame} {meth : Method} {c : Code} {Q : State → Prop} {a : ud_St} (C : ud_C D G z N p s m args meth c code 4 R_law ret) (hX : va_X b L xs s s.heap) (hbl : b < s.heap.size) (hbA : ¬ z ≤ b) (hN : 92 ≤ N) (hk : k + 6 ≤ L) (hL : L ≤ 3072) (hcs : cs ≤ room_1.cells ∧ ss ≤ room_1.slots) (hJ : J N a) (kk : ∀ N' a' cs' ss', J' N' a' → cs' ≤ cs + (N' - N) → (N ≤ N' ∧ N' ≤ N + 11) → ss' ≤ ss + 110 → ud_X D G z N' p l e room_1 s m args below meth c 4 cs' ss' Q a' 18 [(0, .ref b), (1, .ref (z + 0)), (2, .ref (z + 71)), (3, .int (nI (k + 6)))] []) : ud_X D G z N p l e room_1 s m args below meth c 4 cs ss Q a 1574 [(0, .ref b), (1, .ref (z + 0)), (2, .ref (z + 71)), (3, .int (nI k))] [] := by
  have hw := hst N a (xs (Int32.toNatClampNeg ((nI k) + 1))) (xs (Int32.toNatClampNeg ((nI k) + 2))) (((Int32.toInt64 (xs (Int32.toNatClampNeg ((nI k) + 3)))) <<< (Int32.toInt64 32 &&& 63)) ||| ((Int32.toInt64 (xs (Int32.toNatClampNeg ((nI k) + 4)))) &&& (4294967295 : Int64))) hJ
  refine ux_aload_n C 1 rfl rfl dL_law_1574 ?_
  refine ux_aload_n C 0 rfl rfl dL_law_1575 ?_
  refine ux_iload_n C 3 rfl rfl dL_law_1576 ?_
  refine ux_iconst C (v := 1) (by decide) dL_law_1577 ?_
  refine ux_iadd C dL_law_1578 ?_
  refine ux_sld C hX hbl hbA (ud_ix (j := 1) hk hL (by decide)) dL_law_1579 ?_
  refine ux_aload_n C 0 rfl rfl dL_law_1580 ?_
  refine ux_iload_n C 3 rfl rfl dL_law_1581 ?_
  refine ux_iconst C (v := 2) (by decide) dL_law_1582 ?_
  refine ux_iadd C dL_law_1583 ?_
  refine ux_sld C hX hbl hbA (ud_ix (j := 2) hk hL (by decide)) dL_law_1584 ?_
  refine ux_aload_n C 0 rfl rfl dL_law_1585 ?_
  refine ux_iload_n C 3 rfl rfl dL_law_1586 ?_
  refine ux_iconst C (v := 3) (by decide) dL_law_1587 ?_
  refine ux_iadd C dL_law_1588 ?_
  refine ux_sld C hX hbl hbA (ud_ix (j := 3) hk hL (by decide)) dL_law_1589 ?_
  refine ux_i2l C dL_law_1590 ?_
  refine ux_bipush C (v := 32) (by decide) dL_law_1591 ?_
  refine ux_lshl C rfl dL_law_1593 ?_
  refine ux_aload_n C 0 rfl rfl dL_law_1594 ?_
  refine ux_iload_n C 3 rfl rfl dL_law_1595 ?_
  refine ux_iconst C (v := 4) (by decide) dL_law_1596 ?_
  refine ux_iadd C dL_law_1597 ?_
  refine ux_sld C hX hbl hbA (ud_ix (j := 4) hk hL (by decide)) dL_law_1598 ?_
  refine ux_i2l C dL_law_1599 ?_
  refine ux_ldc2 C (v := 4294967295) mw_1887 dL_law_1600 ?_
  refine ux_land C dL_law_1603 ?_
  refine ux_lor C dL_law_1604 ?_
  refine ux_callV (n := 3) (As := [.int (xs (Int32.toNatClampNeg ((nI k) + 1))), .int (xs (Int32.toNatClampNeg ((nI k) + 2))), .long (((Int32.toInt64 (xs (Int32.toNatClampNeg ((nI k) + 3)))) <<< (Int32.toInt64 32 &&& 63)) ||| ((Int32.toInt64 (xs (Int32.toNatClampNeg ((nI k) + 4)))) &&& (4294967295 : Int64)))]) C (c_UpAndDown_write hN hw) (uc_0 hN).1 ((uc_0 hN).2 _ _ _) rfl mw_1272 mw_1273 mw_1274 mw_113 mw_1275 ⟨by decide, by decide, by decide +kernel⟩ rfl ⟨Nat.le_of_ble_eq_true rfl, Nat.le_of_ble_eq_true rfl⟩ ⟨hcs.1, hcs.2⟩ rfl (Nat.le_of_ble_eq_true rfl) dL_law_1605 (po_i.k fun r a1 hw => ?_)
  refine ux_aload_n C 2 rfl rfl dL_law_1608 ?_
  refine ux_aload_n C 0 rfl rfl dL_law_1609 ?_
  refine ux_iload_n C 3 rfl rfl dL_law_1610 ?_
  refine ux_iconst C (v := 1) (by decide) dL_law_1611 ?_
  refine ux_iadd C dL_law_1612 ?_
  refine ux_sld C hX hbl hbA (ud_ix (j := 1) hk hL (by decide)) dL_law_1613 ?_
  refine ux_aload_n C 0 rfl rfl dL_law_1614 ?_
  refine ux_iload_n C 3 rfl rfl dL_law_1615 ?_
  refine ux_iconst C (v := 2) (by decide) dL_law_1616 ?_
  refine ux_iadd C dL_law_1617 ?_
  refine ux_sld C hX hbl hbA (ud_ix (j := 2) hk hL (by decide)) dL_law_1618 ?_
  refine ux_aload_n C 0 rfl rfl dL_law_1619 ?_
  refine ux_iload_n C 3 rfl rfl dL_law_1620 ?_
  refine ux_iconst C (v := 3) (by decide) dL_law_1621 ?_
  refine ux_iadd C dL_law_1622 ?_
  refine ux_sld C hX hbl hbA (ud_ix (j := 3) hk hL (by decide)) dL_law_1623 ?_
  refine ux_i2l C dL_law_1624 ?_
  refine ux_bipush C (v := 32) (by decide) dL_law_1625 ?_
  refine ux_lshl C rfl dL_law_1627 ?_
  refine ux_aload_n C 0 rfl rfl dL_law_1628 ?_
  refine ux_iload_n C 3 rfl rfl dL_law_1629 ?_
  refine ux_iconst C (v := 4) (by decide) dL_law_1630 ?_
  refine ux_iadd C dL_law_1631 ?_
  refine ux_sld C hX hbl hbA (ud_ix (j := 4) hk hL (by decide)) dL_law_1632 ?_
  refine ux_i2l C dL_law_1633 ?_
  refine ux_ldc2 C (v := 4294967295) mw_1887 dL_law_1634 ?_
  refine ux_land C dL_law_1637 ?_
  refine ux_lor C dL_law_1638 ?_
  refine ux_callV (n := 3) (As := [.int (xs (Int32.toNatClampNeg ((nI k) + 1))), .int (xs (Int32.toNatClampNeg ((nI k) + 2))), .long (((Int32.toInt64 (xs (Int32.toNatClampNeg ((nI k) + 3)))) <<< (Int32.toInt64 32 &&& 63)) ||| ((Int32.toInt64 (xs (Int32.toNatClampNeg ((nI k) + 4)))) &&& (4294967295 : Int64)))]) C (c_Model_write hN hw) (uc_71 hN).1 ((uc_71 hN).2 _ _ _) rfl mw_1419 mw_1420 mw_1421 mw_124 mw_1422 ⟨by decide, by decide, by decide +kernel⟩ rfl ⟨Nat.le_of_ble_eq_true rfl, Nat.le_of_ble_eq_true rfl⟩ ⟨hcs.1, hcs.2⟩ rfl (Nat.le_of_ble_eq_true rfl) dL_law_1639 (po_i.k fun r' a2 hw => ?_)
  obtain ⟨rfl, hJ⟩ := hw
  refine ux_icmp_eq C (tgt := 1710) (by decide) dL_law_1642 (fun _ => ?_) (fun h => absurd rfl h)
  refine ux_iinc (v := nI (k + 6)) C 3 rfl (ud_i6 k) (by decide) rfl dL_law_1710 ?_
  refine ux_goto C (tgt := 18) (by decide) dL_law_1713 ?_
  refine ux_pick [1, 2, 3, 0] rfl ?_
  exact kk N _ cs ss hJ (by omega) ⟨by omega, by omega⟩ (by omega)
set_option maxHeartbeats 4000000 in
theorem lc_paste {J J' : Nat → ud_St → Prop} (hst : us_paste J J') {D : va_G} {G : Nat → Nat} {z N b L k cs ss : Nat} {xs : Nat → Int32} {p : Program} {l : Launch} {e : Env} {s : State} {m : MethodId} {args : Array Value} {below : List Frame} {meth : Method} {c : Code} {Q : State → Prop} {a : ud_St} (C : ud_C D G z N p s m args meth c code 4 R_law ret) (hX : va_X b L xs s s.heap) (hbl : b < s.heap.size) (hbA : ¬ z ≤ b) (hN : 92 ≤ N) (hk : k + 6 ≤ L) (hL : L ≤ 3072) (hcs : cs ≤ room_1.cells ∧ ss ≤ room_1.slots) (hJ : J N a) (kk : ∀ N' a' cs' ss', J' N' a' → cs' ≤ cs + (N' - N) → (N ≤ N' ∧ N' ≤ N + 11) → ss' ≤ ss + 110 → ud_X D G z N' p l e room_1 s m args below meth c 4 cs' ss' Q a' 18 [(0, .ref b), (1, .ref (z + 0)), (2, .ref (z + 71)), (3, .int (nI (k + 6)))] []) : ud_X D G z N p l e room_1 s m args below meth c 4 cs ss Q a 1647 [(0, .ref b), (1, .ref (z + 0)), (2, .ref (z + 71)), (3, .int (nI k))] [] := by
  have hw := hst N a (xs (Int32.toNatClampNeg ((nI k) + 1))) (xs (Int32.toNatClampNeg ((nI k) + 2))) (xs (Int32.toNatClampNeg ((nI k) + 3))) (xs (Int32.toNatClampNeg ((nI k) + 4))) (xs (Int32.toNatClampNeg ((nI k) + 5))) hJ
  refine ux_aload_n C 1 rfl rfl dL_law_1647 ?_
  refine ux_aload_n C 0 rfl rfl dL_law_1648 ?_
  refine ux_iload_n C 3 rfl rfl dL_law_1649 ?_
  refine ux_iconst C (v := 1) (by decide) dL_law_1650 ?_
  refine ux_iadd C dL_law_1651 ?_
  refine ux_sld C hX hbl hbA (ud_ix (j := 1) hk hL (by decide)) dL_law_1652 ?_
  refine ux_aload_n C 0 rfl rfl dL_law_1653 ?_
  refine ux_iload_n C 3 rfl rfl dL_law_1654 ?_
  refine ux_iconst C (v := 2) (by decide) dL_law_1655 ?_
  refine ux_iadd C dL_law_1656 ?_
  refine ux_sld C hX hbl hbA (ud_ix (j := 2) hk hL (by decide)) dL_law_1657 ?_
  refine ux_aload_n C 0 rfl rfl dL_law_1658 ?_
  refine ux_iload_n C 3 rfl rfl dL_law_1659 ?_
  refine ux_iconst C (v := 3) (by decide) dL_law_1660 ?_
  refine ux_iadd C dL_law_1661 ?_
  refine ux_sld C hX hbl hbA (ud_ix (j := 3) hk hL (by decide)) dL_law_1662 ?_
  refine ux_aload_n C 0 rfl rfl dL_law_1663 ?_
  refine ux_iload_n C 3 rfl rfl dL_law_1664 ?_
  refine ux_iconst C (v := 4) (by decide) dL_law_1665 ?_
  refine ux_iadd C dL_law_1666 ?_
  refine ux_sld C hX hbl hbA (ud_ix (j := 4) hk hL (by decide)) dL_law_1667 ?_
  refine ux_aload_n C 0 rfl rfl dL_law_1668 ?_
  refine ux_iload_n C 3 rfl rfl dL_law_1669 ?_
  refine ux_iconst C (v := 5) (by decide) dL_law_1670 ?_
  refine ux_iadd C dL_law_1671 ?_
  refine ux_sld C hX hbl hbA (ud_ix (j := 5) hk hL (by decide)) dL_law_1672 ?_
  refine ux_callV (n := 5) (As := [.int (xs (Int32.toNatClampNeg ((nI k) + 1))), .int (xs (Int32.toNatClampNeg ((nI k) + 2))), .int (xs (Int32.toNatClampNeg ((nI k) + 3))), .int (xs (Int32.toNatClampNeg ((nI k) + 4))), .int (xs (Int32.toNatClampNeg ((nI k) + 5)))]) C (c_UpAndDown_paste hN hw) (uc_0 hN).1 ((uc_0 hN).2 _ _ _) rfl mw_1284 mw_1285 mw_1286 mw_113 mw_1287 ⟨by decide, by decide, by decide +kernel⟩ rfl ⟨Nat.le_of_ble_eq_true rfl, Nat.le_of_ble_eq_true rfl⟩ ⟨hcs.1, hcs.2⟩ rfl (Nat.le_of_ble_eq_true rfl) dL_law_1673 (po_i.k fun r a1 hw => ?_)
  refine ux_aload_n C 2 rfl rfl dL_law_1676 ?_
  refine ux_aload_n C 0 rfl rfl dL_law_1677 ?_
  refine ux_iload_n C 3 rfl rfl dL_law_1678 ?_
  refine ux_iconst C (v := 1) (by decide) dL_law_1679 ?_
  refine ux_iadd C dL_law_1680 ?_
  refine ux_sld C hX hbl hbA (ud_ix (j := 1) hk hL (by decide)) dL_law_1681 ?_
  refine ux_aload_n C 0 rfl rfl dL_law_1682 ?_
  refine ux_iload_n C 3 rfl rfl dL_law_1683 ?_
  refine ux_iconst C (v := 2) (by decide) dL_law_1684 ?_
  refine ux_iadd C dL_law_1685 ?_
  refine ux_sld C hX hbl hbA (ud_ix (j := 2) hk hL (by decide)) dL_law_1686 ?_
  refine ux_aload_n C 0 rfl rfl dL_law_1687 ?_
  refine ux_iload_n C 3 rfl rfl dL_law_1688 ?_
  refine ux_iconst C (v := 3) (by decide) dL_law_1689 ?_
  refine ux_iadd C dL_law_1690 ?_
  refine ux_sld C hX hbl hbA (ud_ix (j := 3) hk hL (by decide)) dL_law_1691 ?_
  refine ux_aload_n C 0 rfl rfl dL_law_1692 ?_
  refine ux_iload_n C 3 rfl rfl dL_law_1693 ?_
  refine ux_iconst C (v := 4) (by decide) dL_law_1694 ?_
  refine ux_iadd C dL_law_1695 ?_
  refine ux_sld C hX hbl hbA (ud_ix (j := 4) hk hL (by decide)) dL_law_1696 ?_
  refine ux_aload_n C 0 rfl rfl dL_law_1697 ?_
  refine ux_iload_n C 3 rfl rfl dL_law_1698 ?_
  refine ux_iconst C (v := 5) (by decide) dL_law_1699 ?_
  refine ux_iadd C dL_law_1700 ?_
  refine ux_sld C hX hbl hbA (ud_ix (j := 5) hk hL (by decide)) dL_law_1701 ?_
  refine ux_callV (n := 5) (As := [.int (xs (Int32.toNatClampNeg ((nI k) + 1))), .int (xs (Int32.toNatClampNeg ((nI k) + 2))), .int (xs (Int32.toNatClampNeg ((nI k) + 3))), .int (xs (Int32.toNatClampNeg ((nI k) + 4))), .int (xs (Int32.toNatClampNeg ((nI k) + 5)))]) C (c_Model_paste hN hw) (uc_71 hN).1 ((uc_71 hN).2 _ _ _) rfl mw_1426 mw_1427 mw_1428 mw_124 mw_1429 ⟨by decide, by decide, by decide +kernel⟩ rfl ⟨Nat.le_of_ble_eq_true rfl, Nat.le_of_ble_eq_true rfl⟩ ⟨hcs.1, hcs.2⟩ rfl (Nat.le_of_ble_eq_true rfl) dL_law_1702 (po_i.k fun r' a2 hw => ?_)
  obtain ⟨rfl, hJ⟩ := hw
  refine ux_icmp_eq C (tgt := 1710) (by decide) dL_law_1705 (fun _ => ?_) (fun h => absurd rfl h)
  refine ux_iinc (v := nI (k + 6)) C 3 rfl (ud_i6 k) (by decide) rfl dL_law_1710 ?_
  refine ux_goto C (tgt := 18) (by decide) dL_law_1713 ?_
  refine ux_pick [1, 2, 3, 0] rfl ?_
  exact kk N _ cs ss hJ (by omega) ⟨by omega, by omega⟩ (by omega)
set_option maxHeartbeats 4000000 in
theorem lc_keep {J J' : Nat → ud_St → Prop} (hst : us_keep J J') (hst1 : us_keep1 J J') {D : va_G} {G : Nat → Nat} {z N b L k ss : Nat} {xs : Nat → Int32} {p : Program} {l : Launch} {e : Env} {s : State} {m : MethodId} {args : Array Value} {below : List Frame} {meth : Method} {c : Code} {Q : State → Prop} {a : ud_St} (C : ud_C D G z N p s m args meth c code 4 R_law ret) (hX : va_X b L xs s s.heap) (hbl : b < s.heap.size) (hbA : ¬ z ≤ b) (hN : 92 ≤ N) (hk : k + 6 ≤ L) (hL : L ≤ 3072) (hcs : N + 11 ≤ room_1.cells ∧ ss + 110 ≤ room_1.slots) (hz : s.heap.size = z) (hO1 : va_AO RX8 s) (hO2 : va_AO RX7 s) (hJ : J N a) (kk : ∀ N' a' cs' ss', J' N' a' → cs' = N' → (N ≤ N' ∧ N' ≤ N + 11) → ss' ≤ ss + 110 → ud_X D G z N' p l e room_1 s m args below meth c 4 cs' ss' Q a' 18 [(0, .ref b), (1, .ref (z + 0)), (2, .ref (z + 71)), (3, .int (nI (k + 6)))] []) : ud_X D G z N p l e room_1 s m args below meth c 4 N ss Q a 1485 [(0, .ref b), (1, .ref (z + 0)), (2, .ref (z + 71)), (3, .int (nI k))] [] := by
  by_cases hi : vp_in (xs (Int32.toNatClampNeg ((nI k) + 1))) 3 ∧ a.2.2 70 (Int32.toNatClampNeg (xs (Int32.toNatClampNeg ((nI k) + 1)))) = none
  · obtain ⟨h1, h2⟩ := hst1 N a (xs (Int32.toNatClampNeg ((nI k) + 1))) hJ hi.1 hi.2
    have C' : ud_C D G z (N + 11) p s m args meth c code 4 R_law ret := ⟨C.1, C.2.1, C.2.2.1, C.2.2.2.1, C.2.2.2.2.1, by omega⟩
    refine ux_aload_n C 1 rfl rfl dL_law_1485 ?_
    refine ux_aload_n C 0 rfl rfl dL_law_1486 ?_
    refine ux_iload_n C 3 rfl rfl dL_law_1487 ?_
    refine ux_iconst C (v := 1) (by decide) dL_law_1488 ?_
    refine ux_iadd C dL_law_1489 ?_
    refine ux_sld C hX hbl hbA (ud_ix (j := 1) hk hL (by decide)) dL_law_1490 ?_
    refine ux_callK C hz hO1 hO2 (c_keep1 hN h1 hi.1 hi.2 h2) mw_1252 hcs dL_law_1491 (fun a1 hw => ?_)
    have C := C'
    have hN : 92 ≤ N + 11 := by omega
    refine ux_aload_n C 2 rfl rfl dL_law_1494 ?_
    refine ux_aload_n C 0 rfl rfl dL_law_1495 ?_
    refine ux_iload_n C 3 rfl rfl dL_law_1496 ?_
    refine ux_iconst C (v := 1) (by decide) dL_law_1497 ?_
    refine ux_iadd C dL_law_1498 ?_
    refine ux_sld C hX hbl hbA (ud_ix (j := 1) hk hL (by decide)) dL_law_1499 ?_
    refine ux_callV (n := 1) (As := [.int (xs (Int32.toNatClampNeg ((nI k) + 1)))]) C (c_Model_keep hN hw) (uc_71 hN).1 ((uc_71 hN).2 _ _ _) rfl mw_1879 mw_1880 mw_1881 mw_124 mw_1882 ⟨by decide, by decide, by decide +kernel⟩ rfl ⟨Nat.le_of_ble_eq_true rfl, Nat.le_of_ble_eq_true rfl⟩ ⟨hcs.1, hcs.2⟩ rfl (Nat.le_of_ble_eq_true rfl) dL_law_1500 (po_i.k fun r' a2 hw => ?_)
    obtain ⟨rfl, hJ⟩ := hw
    refine ux_icmp_eq C (tgt := 1710) (by decide) dL_law_1503 (fun _ => ?_) (fun h => absurd rfl h)
    refine ux_iinc (v := nI (k + 6)) C 3 rfl (ud_i6 k) (by decide) rfl dL_law_1710 ?_
    refine ux_goto C (tgt := 18) (by decide) dL_law_1713 ?_
    refine ux_pick [1, 2, 3, 0] rfl ?_
    exact kk (N + 11) _ (N + 11) (ss + 110) hJ rfl ⟨by omega, by omega⟩ (by omega)
  · have hw := hst N a (xs (Int32.toNatClampNeg ((nI k) + 1))) hJ hi
    refine ux_aload_n C 1 rfl rfl dL_law_1485 ?_
    refine ux_aload_n C 0 rfl rfl dL_law_1486 ?_
    refine ux_iload_n C 3 rfl rfl dL_law_1487 ?_
    refine ux_iconst C (v := 1) (by decide) dL_law_1488 ?_
    refine ux_iadd C dL_law_1489 ?_
    refine ux_sld C hX hbl hbA (ud_ix (j := 1) hk hL (by decide)) dL_law_1490 ?_
    refine ux_callV (n := 1) (As := [.int (xs (Int32.toNatClampNeg ((nI k) + 1)))]) C (c_UpAndDown_keep hN hw) (uc_0 hN).1 ((uc_0 hN).2 _ _ _) rfl mw_1252 mw_1253 mw_1254 mw_113 mw_1255 ⟨by decide, by decide, by decide +kernel⟩ rfl ⟨Nat.le_of_ble_eq_true rfl, Nat.le_of_ble_eq_true rfl⟩ ⟨by omega, by omega⟩ rfl (Nat.le_of_ble_eq_true rfl) dL_law_1491 (po_i.k fun r a1 hw => ?_)
    refine ux_aload_n C 2 rfl rfl dL_law_1494 ?_
    refine ux_aload_n C 0 rfl rfl dL_law_1495 ?_
    refine ux_iload_n C 3 rfl rfl dL_law_1496 ?_
    refine ux_iconst C (v := 1) (by decide) dL_law_1497 ?_
    refine ux_iadd C dL_law_1498 ?_
    refine ux_sld C hX hbl hbA (ud_ix (j := 1) hk hL (by decide)) dL_law_1499 ?_
    refine ux_callV (n := 1) (As := [.int (xs (Int32.toNatClampNeg ((nI k) + 1)))]) C (c_Model_keep hN hw) (uc_71 hN).1 ((uc_71 hN).2 _ _ _) rfl mw_1879 mw_1880 mw_1881 mw_124 mw_1882 ⟨by decide, by decide, by decide +kernel⟩ rfl ⟨Nat.le_of_ble_eq_true rfl, Nat.le_of_ble_eq_true rfl⟩ ⟨by omega, by omega⟩ rfl (Nat.le_of_ble_eq_true rfl) dL_law_1500 (po_i.k fun r' a2 hw => ?_)
    obtain ⟨rfl, hJ⟩ := hw
    refine ux_icmp_eq C (tgt := 1710) (by decide) dL_law_1503 (fun _ => ?_) (fun h => absurd rfl h)
    refine ux_iinc (v := nI (k + 6)) C 3 rfl (ud_i6 k) (by decide) rfl dL_law_1710 ?_
    refine ux_goto C (tgt := 18) (by decide) dL_law_1713 ?_
    refine ux_pick [1, 2, 3, 0] rfl ?_
    exact kk N _ N ss hJ rfl ⟨by omega, by omega⟩ (by omega)
