/-! the methods meet what they ask -/
set_option maxHeartbeats 2000000 in
set_option maxRecDepth 4000 in
theorem c_Model_copyTable {l : Launch} {D : va_G} {G : Nat → Nat} {z N : Nat} (hN : 92 ≤ N) {a0 : ud_St} {x1 : Int32} {x2 : Int32}  {Qf : ud_St → Prop} (hw : w_Model_copyTable a0 x1 x2 Qf) : ud_M l D G z N yX12_copyTable cX12_copyTable 3 (none : Option Jvm.ClassFile.FieldType) 1 [.ref (z + 71), .int x1, .int x2] a0 (po_v Qf) := by
  unfold w_Model_copyTable at hw
  refine ud_M_of hN (by decide) (Nat.le_of_ble_eq_true rfl) ?_
  intro p e s m args below meth c C
  have C : ud_C D G z N p s m args meth c cX12_copyTable 3 RX12 (none : Option Jvm.ClassFile.FieldType) := C
  show ud_X D G z N p l e (ud_rm 1 0 0) s m args below meth c 3 0 0 (ud_Q D G z N (po_v Qf) below args s) a0 0 [(0, .ref (z + 71)), (1, .int x1), (2, .int x2)] []
  refine ux_aload_n C 0 rfl rfl dX12_copyTable_0 ?_
  refine gf_12_31 C dX12_copyTable_1 ?_
  refine ux_iconst C (v := 1) (by decide) dX12_copyTable_4 ?_
  refine ux_iload_n C 1 rfl rfl dX12_copyTable_5 ?_
  refine ux_iload_n C 2 rfl rfl dX12_copyTable_6 ?_
  refine cs_12_255 C  (c_Model_copyRow hN (uc_77 C.2.2.2.2.2) hw) (by decide) (by decide) (Nat.le_of_ble_eq_true rfl) dX12_copyTable_7 (po_v.k fun a_2 hw => ?_)
  refine ux_aload_n C 0 rfl rfl dX12_copyTable_10 ?_
  refine gf_12_34 C dX12_copyTable_11 ?_
  refine ux_bipush C (v := 6) (by decide) dX12_copyTable_14 ?_
  refine ux_iload_n C 1 rfl rfl dX12_copyTable_16 ?_
  refine ux_iload_n C 2 rfl rfl dX12_copyTable_17 ?_
  refine cs_12_255 C  (c_Model_copyRow hN (uc_78 C.2.2.2.2.2) hw) (by decide) (by decide) (Nat.le_of_ble_eq_true rfl) dX12_copyTable_18 (po_v.k fun a_4 hw => ?_)
  refine ux_aload_n C 0 rfl rfl dX12_copyTable_21 ?_
  refine gf_12_37 C dX12_copyTable_22 ?_
  refine ux_bipush C (v := 24) (by decide) dX12_copyTable_25 ?_
  refine ux_iload_n C 1 rfl rfl dX12_copyTable_27 ?_
  refine ux_iload_n C 2 rfl rfl dX12_copyTable_28 ?_
  refine cs_12_255 C  (c_Model_copyRow hN (uc_79 C.2.2.2.2.2) hw) (by decide) (by decide) (Nat.le_of_ble_eq_true rfl) dX12_copyTable_29 (po_v.k fun a_6 hw => ?_)
  refine ux_aload_n C 0 rfl rfl dX12_copyTable_32 ?_
  refine gf_12_40 C dX12_copyTable_33 ?_
  refine ux_bipush C (v := 24) (by decide) dX12_copyTable_36 ?_
  refine ux_iload_n C 1 rfl rfl dX12_copyTable_38 ?_
  refine ux_iload_n C 2 rfl rfl dX12_copyTable_39 ?_
  refine cs_12_255 C  (c_Model_copyRow hN (uc_80 C.2.2.2.2.2) hw) (by decide) (by decide) (Nat.le_of_ble_eq_true rfl) dX12_copyTable_40 (po_v.k fun a_8 hw => ?_)
  refine ux_aload_n C 0 rfl rfl dX12_copyTable_43 ?_
  refine gf_12_43 C dX12_copyTable_44 ?_
  refine ux_bipush C (v := 20) (by decide) dX12_copyTable_47 ?_
  refine ux_iload_n C 1 rfl rfl dX12_copyTable_49 ?_
  refine ux_iload_n C 2 rfl rfl dX12_copyTable_50 ?_
  refine cs_12_255 C  (c_Model_copyRow hN (uc_81 C.2.2.2.2.2) hw) (by decide) (by decide) (Nat.le_of_ble_eq_true rfl) dX12_copyTable_51 (po_v.k fun a_10 hw => ?_)
  exact ux_vret C ⟨rfl, hw⟩ dX12_copyTable_54
set_option maxHeartbeats 2000000 in
set_option maxRecDepth 4000 in
theorem c_Model_isNumber {l : Launch} {D : va_G} {G : Nat → Nat} {z N : Nat} (hN : 92 ≤ N) {a0 : ud_St} {x1 : Int64}  {Qf : Int32 → Prop} (hw : w_Model_isNumber a0 x1 Qf) : ud_M l D G z N yX12_isNumber cX12_isNumber 3 (some Jvm.ClassFile.FieldType.boolean) 1 [.ref (z + 71), .long x1] a0 (po_ip a0 Qf) := by
  unfold w_Model_isNumber at hw
  refine ud_M_of hN (by decide) (Nat.le_of_ble_eq_true rfl) ?_
  intro p e s m args below meth c C
  have C : ud_C D G z N p s m args meth c cX12_isNumber 3 RX12 (some Jvm.ClassFile.FieldType.boolean) := C
  show ud_X D G z N p l e (ud_rm 1 0 0) s m args below meth c 3 0 0 (ud_Q D G z N (po_ip a0 Qf) below args s) a0 0 [(0, .ref (z + 71)), (1, .long x1)] []
  refine ux_lload_n C 1 rfl rfl dX12_isNumber_0 ?_
  refine ux_lconst C (v := 0) (by decide) dX12_isNumber_1 ?_
  refine ux_aload_n C 0 rfl rfl dX12_isNumber_2 ?_
  refine gf_12_34 C dX12_isNumber_3 ?_
  refine ux_iconst C (v := 2) (by decide) dX12_isNumber_6 ?_
  obtain ⟨hi_4, hw⟩ := hw
  refine ux_iald C (uc_78 C.2.2.2.2.2) hi_4 dX12_isNumber_7 ?_
  refine ux_i2l C dX12_isNumber_8 ?_
  refine ux_lconst C (v := 1) (by decide) dX12_isNumber_9 ?_
  refine ux_lsub C dX12_isNumber_10 ?_
  refine cs_12_82 C  (c_Model_in hN  hw) (by decide) (by decide) (Nat.le_of_ble_eq_true rfl) dX12_isNumber_11 (po_ip.k fun r_1 hw => ?_)
  obtain ⟨hn_3, hw⟩ := hw
  exact ux_zret C (ud_narZ hn_3) ⟨_, rfl, rfl, hw⟩ dX12_isNumber_14
set_option maxHeartbeats 2000000 in
set_option maxRecDepth 4000 in
theorem c_Model_isWord {l : Launch} {D : va_G} {G : Nat → Nat} {z N : Nat} (hN : 92 ≤ N) {a0 : ud_St} {x1 : Int32}  {Qf : Int32 → Prop} (hw : w_Model_isWord a0 x1 Qf) : ud_M l D G z N yX12_isWord cX12_isWord 2 (some Jvm.ClassFile.FieldType.boolean) 1 [.ref (z + 71), .int x1] a0 (po_ip a0 Qf) := by
  unfold w_Model_isWord at hw
  refine ud_M_of hN (by decide) (Nat.le_of_ble_eq_true rfl) ?_
  intro p e s m args below meth c C
  have C : ud_C D G z N p s m args meth c cX12_isWord 2 RX12 (some Jvm.ClassFile.FieldType.boolean) := C
  show ud_X D G z N p l e (ud_rm 1 0 0) s m args below meth c 2 0 0 (ud_Q D G z N (po_ip a0 Qf) below args s) a0 0 [(0, .ref (z + 71)), (1, .int x1)] []
  refine ux_iload_n C 1 rfl rfl dX12_isWord_0 ?_
  refine ux_i2l C dX12_isWord_1 ?_
  refine ux_lconst C (v := 0) (by decide) dX12_isWord_2 ?_
  refine ux_aload_n C 0 rfl rfl dX12_isWord_3 ?_
  refine gf_12_34 C dX12_isWord_4 ?_
  refine ux_iconst C (v := 3) (by decide) dX12_isWord_7 ?_
  obtain ⟨hi_4, hw⟩ := hw
  refine ux_iald C (uc_78 C.2.2.2.2.2) hi_4 dX12_isWord_8 ?_
  refine ux_iconst C (v := 1) (by decide) dX12_isWord_9 ?_
  refine ux_isub C dX12_isWord_10 ?_
  refine ux_i2l C dX12_isWord_11 ?_
  refine cs_12_82 C  (c_Model_in hN  hw) (by decide) (by decide) (Nat.le_of_ble_eq_true rfl) dX12_isWord_12 (po_ip.k fun r_1 hw => ?_)
  obtain ⟨hn_3, hw⟩ := hw
  exact ux_zret C (ud_narZ hn_3) ⟨_, rfl, rfl, hw⟩ dX12_isWord_15
set_option maxHeartbeats 2000000 in
set_option maxRecDepth 4000 in
theorem c_Model_sorts_j22 {D : va_G} {G : Nat → Nat} {z N : Nat} {p : Program} {l : Launch} {e : Env} {s : State} {m : MethodId} {args : Array Value} {below : List Frame} {meth : Method} {c : Code} (hN : 92 ≤ N) {a0 : ud_St} {x1 : Int32} {b_22 : ud_St} {y2_22 : Int32} {y3_22 : Int32} {y4_22 : Int32} {K_3 : Int32 → Int32 → ud_St → Prop}  {Qf : ud_St → Prop} (C : ud_C D G z N p s m args meth c cX12_sorts 5 RX12 (none : Option Jvm.ClassFile.FieldType)) (ih_4 : ∀ (v0 : Int32) (v1 : Int32) (v2 : ud_St), K_3 v0 v1 v2 → ud_X D G z N p l e (ud_rm 1 0 0) s m args below meth c 5 0 0 (ud_Q D G z N (po_v Qf) below args s) v2 9 [(0, .ref (z + 71)), (2, .int v0), (3, .int v1)] []) (hw : w_Model_sorts_j22 a0 x1 b_22 y2_22 y3_22 y4_22 K_3 Qf) : ud_X D G z N p l e (ud_rm 1 0 0) s m args below meth c 5 0 0 (ud_Q D G z N (po_v Qf) below args s) b_22 22 [(0, .ref (z + 71)), (2, .int y2_22), (3, .int y3_22), (4, .int y4_22)] [] := by
  unfold w_Model_sorts_j22 at hw
  refine ux_pick [0, 1, 2, 3] rfl ?_
  refine LW3.elim (P := fun (x2_10 : Int32) (x4_11 : Int32) (a_12 : ud_St) => ud_X D G z N p l e (ud_rm 1 0 0) s m args below meth c 5 0 0 (ud_Q D G z N (po_v Qf) below args s) a_12 22 [(0, .ref (z + 71)), (2, .int x2_10), (3, .int y3_22), (4, .int x4_11)] []) hw ?_
  intro x2_10 x4_11 a_12 K_8 hw ih_9
  refine ux_iload C 3 rfl dX12_sorts_22 ?_
  refine ux_aload_n C 0 rfl rfl dX12_sorts_24 ?_
  refine gf_12_34 C dX12_sorts_25 ?_
  refine ux_iconst C (v := 1) (by decide) dX12_sorts_28 ?_
  obtain ⟨hi_17, hw⟩ := hw
  refine ux_iald C (uc_78 C.2.2.2.2.2) hi_17 dX12_sorts_29 ?_
  refine ux_icmp_ge C (tgt := 63) (by decide) dX12_sorts_30 (fun hc_16 => ?_) (fun hc_16 => ?_)
  · replace hw := hw.1 hc_16
    refine ux_iinc C 2 rfl rfl (by decide) rfl dX12_sorts_63 ?_
    refine ux_goto C (tgt := 9) (by decide) dX12_sorts_66 ?_
    exact ux_pick [1, 2, 0] rfl (ih_4 _ _ _ hw)
  · replace hw := hw.2 hc_16
    refine ux_aload_n C 0 rfl rfl dX12_sorts_33 ?_
    refine gf_12_50 C dX12_sorts_34 ?_
    refine ux_iload C 3 rfl dX12_sorts_37 ?_
    obtain ⟨hi_15, hw⟩ := hw
    refine ux_iald C (uc_83 C.2.2.2.2.2) hi_15 dX12_sorts_39 ?_
    refine ux_iload_n C 2 rfl rfl dX12_sorts_40 ?_
    refine ux_icmp_eq C (tgt := 47) (by decide) dX12_sorts_41 (fun hc_14 => ?_) (fun hc_14 => ?_)
    · replace hw := hw.1 hc_14
      refine ux_aload_n C 0 rfl rfl dX12_sorts_47 ?_
      refine gf_12_53 C dX12_sorts_48 ?_
      refine ux_iload_n C 1 rfl rfl dX12_sorts_51 ?_
      refine ux_iload_n C 2 rfl rfl dX12_sorts_52 ?_
      obtain ⟨hi_13, hw⟩ := hw
      refine ux_iast C (uc_84 C.2.2.2.2.2) hi_13 dX12_sorts_53 ?_
      refine ux_iinc C 1 rfl rfl (by decide) rfl dX12_sorts_54 ?_
      refine ux_iinc C 3 rfl rfl (by decide) rfl dX12_sorts_57 ?_
      refine ux_goto C (tgt := 22) (by decide) dX12_sorts_60 ?_
      exact ux_pick [2, 1, 3, 0] rfl (ih_9 _ _ _ hw)
    · replace hw := hw.2 hc_14
      refine ux_goto C (tgt := 57) (by decide) dX12_sorts_44 ?_
      refine ux_iinc C 3 rfl rfl (by decide) rfl dX12_sorts_57 ?_
      refine ux_goto C (tgt := 22) (by decide) dX12_sorts_60 ?_
      exact ux_pick [1, 2, 3, 0] rfl (ih_9 _ _ _ hw)
set_option maxHeartbeats 2000000 in
set_option maxRecDepth 4000 in
theorem c_Model_sorts_j9 {D : va_G} {G : Nat → Nat} {z N : Nat} {p : Program} {l : Launch} {e : Env} {s : State} {m : MethodId} {args : Array Value} {below : List Frame} {meth : Method} {c : Code} (hN : 92 ≤ N) {a0 : ud_St} {x1 : Int32} {b_9 : ud_St} {y2_9 : Int32} {y3_9 : Int32}  {Qf : ud_St → Prop} (C : ud_C D G z N p s m args meth c cX12_sorts 5 RX12 (none : Option Jvm.ClassFile.FieldType))  (hw : w_Model_sorts_j9 a0 x1 b_9 y2_9 y3_9 Qf) : ud_X D G z N p l e (ud_rm 1 0 0) s m args below meth c 5 0 0 (ud_Q D G z N (po_v Qf) below args s) b_9 9 [(0, .ref (z + 71)), (2, .int y2_9), (3, .int y3_9)] [] := by
  unfold w_Model_sorts_j9 at hw
  refine ux_pick [0, 1, 2] rfl ?_
  refine LW3.elim (P := fun (x2_5 : Int32) (x3_6 : Int32) (a_7 : ud_St) => ud_X D G z N p l e (ud_rm 1 0 0) s m args below meth c 5 0 0 (ud_Q D G z N (po_v Qf) below args s) a_7 9 [(0, .ref (z + 71)), (2, .int x2_5), (3, .int x3_6)] []) hw ?_
  intro x2_5 x3_6 a_7 K_3 hw ih_4
  refine ux_iload_n C 2 rfl rfl dX12_sorts_9 ?_
  refine ux_aload_n C 0 rfl rfl dX12_sorts_10 ?_
  refine gf_12_34 C dX12_sorts_11 ?_
  refine ux_iconst C (v := 0) (by decide) dX12_sorts_14 ?_
  obtain ⟨hi_19, hw⟩ := hw
  refine ux_iald C (uc_78 C.2.2.2.2.2) hi_19 dX12_sorts_15 ?_
  refine ux_icmp_ge C (tgt := 69) (by decide) dX12_sorts_16 (fun hc_18 => ?_) (fun hc_18 => ?_)
  · replace hw := hw.1 hc_18
    exact ux_vret C ⟨rfl, hw⟩ dX12_sorts_69
  · replace hw := hw.2 hc_18
    refine ux_iconst C (v := 0) (by decide) dX12_sorts_19 ?_
    refine ux_istore C (by decide) rfl dX12_sorts_20 ?_
    exact ux_pick [1, 2, 3, 0] rfl (c_Model_sorts_j22 hN  C ih_4 hw)
set_option maxHeartbeats 2000000 in
set_option maxRecDepth 4000 in
theorem c_Model_sorts {l : Launch} {D : va_G} {G : Nat → Nat} {z N : Nat} (hN : 92 ≤ N) {a0 : ud_St} {x1 : Int32}  {Qf : ud_St → Prop} (hw : w_Model_sorts a0 x1 Qf) : ud_M l D G z N yX12_sorts cX12_sorts 5 (none : Option Jvm.ClassFile.FieldType) 1 [.ref (z + 71), .int x1] a0 (po_v Qf) := by
  unfold w_Model_sorts at hw
  refine ud_M_of hN (by decide) (Nat.le_of_ble_eq_true rfl) ?_
  intro p e s m args below meth c C
  have C : ud_C D G z N p s m args meth c cX12_sorts 5 RX12 (none : Option Jvm.ClassFile.FieldType) := C
  show ud_X D G z N p l e (ud_rm 1 0 0) s m args below meth c 5 0 0 (ud_Q D G z N (po_v Qf) below args s) a0 0 [(0, .ref (z + 71)), (1, .int x1)] []
  refine ux_aload_n C 0 rfl rfl dX12_sorts_0 ?_
  refine ux_iload_n C 1 rfl rfl dX12_sorts_1 ?_
  refine cs_12_259 C  (c_Model_figures hN  hw) (by decide) (by decide) (Nat.le_of_ble_eq_true rfl) dX12_sorts_2 (po_v.k fun a_2 hw => ?_)
  refine ux_iconst C (v := 0) (by decide) dX12_sorts_5 ?_
  refine ux_istore_n C rfl (by decide) rfl dX12_sorts_6 ?_
  refine ux_iconst C (v := 0) (by decide) dX12_sorts_7 ?_
  refine ux_istore_n C rfl (by decide) rfl dX12_sorts_8 ?_
  exact ux_pick [2, 1, 0] rfl (c_Model_sorts_j9 hN  C  hw)
set_option maxHeartbeats 2000000 in
set_option maxRecDepth 4000 in
theorem c_Model_turned {l : Launch} {D : va_G} {G : Nat → Nat} {z N : Nat} (hN : 92 ≤ N) {a0 : ud_St} {x1 : Int32}  {Qf : Int32 → ud_St → Prop} (hw : w_Model_turned a0 x1 Qf) : ud_M l D G z N yX12_turned cX12_turned 4 (some Jvm.ClassFile.FieldType.int) 1 [.ref (z + 71), .int x1] a0 (po_i Qf) := by
  unfold w_Model_turned at hw
  refine ud_M_of hN (by decide) (Nat.le_of_ble_eq_true rfl) ?_
  intro p e s m args below meth c C
  have C : ud_C D G z N p s m args meth c cX12_turned 4 RX12 (some Jvm.ClassFile.FieldType.int) := C
  show ud_X D G z N p l e (ud_rm 1 0 0) s m args below meth c 4 0 0 (ud_Q D G z N (po_i Qf) below args s) a0 0 [(0, .ref (z + 71)), (1, .int x1)] []
  refine ux_aload_n C 0 rfl rfl dX12_turned_0 ?_
  refine ux_iload_n C 1 rfl rfl dX12_turned_1 ?_
  refine cs_12_259 C  (c_Model_figures hN  hw) (by decide) (by decide) (Nat.le_of_ble_eq_true rfl) dX12_turned_2 (po_v.k fun a_2 hw => ?_)
  refine ux_iconst C (v := 0) (by decide) dX12_turned_5 ?_
  refine ux_istore_n C rfl (by decide) rfl dX12_turned_6 ?_
  refine ux_aload_n C 1 rfl rfl dX12_turned_7 ?_
  refine gf_12_34 C dX12_turned_8 ?_
  refine ux_iconst C (v := 1) (by decide) dX12_turned_11 ?_
  obtain ⟨hi_10, hw⟩ := hw
  refine ux_iald C (uc_78 C.2.2.2.2.2) hi_10 dX12_turned_12 ?_
  refine ux_iconst C (v := 1) (by decide) dX12_turned_13 ?_
  refine ux_isub C dX12_turned_14 ?_
  refine ux_istore_n C rfl (by decide) rfl dX12_turned_15 ?_
  refine ux_pick [2, 1, 0] rfl ?_
  refine LW2.elim (P := fun (x2_5 : Int32) (x3_6 : Int32) => ud_X D G z N p l e (ud_rm 1 0 0) s m args below meth c 4 0 0 (ud_Q D G z N (po_i Qf) below args s) a_2 16 [(0, .ref (z + 71)), (2, .int x2_5), (3, .int x3_6)] []) hw ?_
  intro x2_5 x3_6 K_3 hw ih_4
  refine ux_iload_n C 2 rfl rfl dX12_turned_16 ?_
  refine ux_if_lt C (tgt := 42) (by decide) dX12_turned_17 (fun hc_9 => ?_) (fun hc_9 => ?_)
  · replace hw := hw.1 hc_9
    refine ux_iload_n C 1 rfl rfl dX12_turned_42 ?_
    exact ux_iret C ⟨_, rfl, hw⟩ dX12_turned_43
  · replace hw := hw.2 hc_9
    refine ux_iload_n C 1 rfl rfl dX12_turned_20 ?_
    refine ux_aload_n C 0 rfl rfl dX12_turned_21 ?_
    refine gf_12_34 C dX12_turned_22 ?_
    refine ux_iconst C (v := 0) (by decide) dX12_turned_25 ?_
    obtain ⟨hi_8, hw⟩ := hw
    refine ux_iald C (uc_78 C.2.2.2.2.2) hi_8 dX12_turned_26 ?_
    refine ux_imul C dX12_turned_27 ?_
    refine ux_aload_n C 0 rfl rfl dX12_turned_28 ?_
    refine gf_12_50 C dX12_turned_29 ?_
    refine ux_iload_n C 2 rfl rfl dX12_turned_32 ?_
    obtain ⟨hi_7, hw⟩ := hw
    refine ux_iald C (uc_83 C.2.2.2.2.2) hi_7 dX12_turned_33 ?_
    refine ux_iadd C dX12_turned_34 ?_
    refine ux_istore_n C rfl (by decide) rfl dX12_turned_35 ?_
    refine ux_iinc C 2 rfl rfl (by decide) rfl dX12_turned_36 ?_
    refine ux_goto C (tgt := 16) (by decide) dX12_turned_39 ?_
    exact ux_pick [2, 1, 0] rfl (ih_4 _ _ hw)
set_option maxHeartbeats 2000000 in
set_option maxRecDepth 4000 in
theorem c_Model_moved {l : Launch} {D : va_G} {G : Nat → Nat} {z N : Nat} (hN : 92 ≤ N) {a0 : ud_St} {x1 : Int32}  {Qf : Int32 → ud_St → Prop} (hw : w_Model_moved a0 x1 Qf) : ud_M l D G z N yX12_moved cX12_moved 4 (some Jvm.ClassFile.FieldType.int) 1 [.ref (z + 71), .int x1] a0 (po_i Qf) := by
  unfold w_Model_moved at hw
  refine ud_M_of hN (by decide) (Nat.le_of_ble_eq_true rfl) ?_
  intro p e s m args below meth c C
  have C : ud_C D G z N p s m args meth c cX12_moved 4 RX12 (some Jvm.ClassFile.FieldType.int) := C
  show ud_X D G z N p l e (ud_rm 1 0 0) s m args below meth c 4 0 0 (ud_Q D G z N (po_i Qf) below args s) a0 0 [(0, .ref (z + 71)), (1, .int x1)] []
  refine ux_aload_n C 0 rfl rfl dX12_moved_0 ?_
  refine ux_iload_n C 1 rfl rfl dX12_moved_1 ?_
  refine cs_12_259 C  (c_Model_figures hN  hw) (by decide) (by decide) (Nat.le_of_ble_eq_true rfl) dX12_moved_2 (po_v.k fun a_2 hw => ?_)
  refine ux_iconst C (v := 0) (by decide) dX12_moved_5 ?_
  refine ux_istore_n C rfl (by decide) rfl dX12_moved_6 ?_
  refine ux_iconst C (v := 1) (by decide) dX12_moved_7 ?_
  refine ux_istore_n C rfl (by decide) rfl dX12_moved_8 ?_
  refine ux_pick [2, 1, 0] rfl ?_
  refine LW2.elim (P := fun (x2_5 : Int32) (x3_6 : Int32) => ud_X D G z N p l e (ud_rm 1 0 0) s m args below meth c 4 0 0 (ud_Q D G z N (po_i Qf) below args s) a_2 9 [(0, .ref (z + 71)), (2, .int x2_5), (3, .int x3_6)] []) hw ?_
  intro x2_5 x3_6 K_3 hw ih_4
  refine ux_iload_n C 2 rfl rfl dX12_moved_9 ?_
  refine ux_aload_n C 0 rfl rfl dX12_moved_10 ?_
  refine gf_12_34 C dX12_moved_11 ?_
  refine ux_iconst C (v := 1) (by decide) dX12_moved_14 ?_
  obtain ⟨hi_12, hw⟩ := hw
  refine ux_iald C (uc_78 C.2.2.2.2.2) hi_12 dX12_moved_15 ?_
  refine ux_icmp_gt C (tgt := 48) (by decide) dX12_moved_16 (fun hc_11 => ?_) (fun hc_11 => ?_)
  · replace hw := hw.1 hc_11
    refine ux_iload_n C 1 rfl rfl dX12_moved_48 ?_
    exact ux_iret C ⟨_, rfl, hw⟩ dX12_moved_49
  · replace hw := hw.2 hc_11
    refine ux_iload_n C 1 rfl rfl dX12_moved_19 ?_
    refine ux_aload_n C 0 rfl rfl dX12_moved_20 ?_
    refine gf_12_34 C dX12_moved_21 ?_
    refine ux_iconst C (v := 0) (by decide) dX12_moved_24 ?_
    obtain ⟨hi_10, hw⟩ := hw
    refine ux_iald C (uc_78 C.2.2.2.2.2) hi_10 dX12_moved_25 ?_
    refine ux_imul C dX12_moved_26 ?_
    refine ux_aload_n C 0 rfl rfl dX12_moved_27 ?_
    refine gf_12_50 C dX12_moved_28 ?_
    refine ux_iload_n C 2 rfl rfl dX12_moved_31 ?_
    refine ux_aload_n C 0 rfl rfl dX12_moved_32 ?_
    refine gf_12_34 C dX12_moved_33 ?_
    refine ux_iconst C (v := 1) (by decide) dX12_moved_36 ?_
    obtain ⟨hi_9, hw⟩ := hw
    refine ux_iald C (uc_78 C.2.2.2.2.2) hi_9 dX12_moved_37 ?_
    obtain ⟨hc_8, hw⟩ := hw
    refine ux_irem C hc_8 dX12_moved_38 ?_
    obtain ⟨hi_7, hw⟩ := hw
    refine ux_iald C (uc_83 C.2.2.2.2.2) hi_7 dX12_moved_39 ?_
    refine ux_iadd C dX12_moved_40 ?_
    refine ux_istore_n C rfl (by decide) rfl dX12_moved_41 ?_
    refine ux_iinc C 2 rfl rfl (by decide) rfl dX12_moved_42 ?_
    refine ux_goto C (tgt := 9) (by decide) dX12_moved_45 ?_
    exact ux_pick [2, 1, 0] rfl (ih_4 _ _ hw)
set_option maxHeartbeats 2000000 in
set_option maxRecDepth 4000 in
theorem c_Model_powers {l : Launch} {D : va_G} {G : Nat → Nat} {z N : Nat} (hN : 92 ≤ N) {a0 : ud_St} {x1 : Int32} {x2 : Int32}  {Qf : Int32 → ud_St → Prop} (hw : w_Model_powers a0 x1 x2 Qf) : ud_M l D G z N yX12_powers cX12_powers 5 (some Jvm.ClassFile.FieldType.int) 1 [.ref (z + 71), .int x1, .int x2] a0 (po_i Qf) := by
  unfold w_Model_powers at hw
  refine ud_M_of hN (by decide) (Nat.le_of_ble_eq_true rfl) ?_
  intro p e s m args below meth c C
  have C : ud_C D G z N p s m args meth c cX12_powers 5 RX12 (some Jvm.ClassFile.FieldType.int) := C
  show ud_X D G z N p l e (ud_rm 1 0 0) s m args below meth c 5 0 0 (ud_Q D G z N (po_i Qf) below args s) a0 0 [(0, .ref (z + 71)), (1, .int x1), (2, .int x2)] []
  refine ux_aload_n C 0 rfl rfl dX12_powers_0 ?_
  refine ux_iload_n C 1 rfl rfl dX12_powers_1 ?_
  refine cs_12_259 C  (c_Model_figures hN  hw) (by decide) (by decide) (Nat.le_of_ble_eq_true rfl) dX12_powers_2 (po_v.k fun a_2 hw => ?_)
  refine ux_iconst C (v := 0) (by decide) dX12_powers_5 ?_
  refine ux_istore_n C rfl (by decide) rfl dX12_powers_6 ?_
  refine ux_iconst C (v := 0) (by decide) dX12_powers_7 ?_
  refine ux_istore C (by decide) rfl dX12_powers_8 ?_
  refine ux_pick [2, 4, 1, 0] rfl ?_
  refine LW2.elim (P := fun (x3_5 : Int32) (x4_6 : Int32) => ud_X D G z N p l e (ud_rm 1 0 0) s m args below meth c 5 0 0 (ud_Q D G z N (po_i Qf) below args s) a_2 10 [(0, .ref (z + 71)), (2, .int x2), (3, .int x3_5), (4, .int x4_6)] []) hw ?_
  intro x3_5 x4_6 K_3 hw ih_4
  refine ux_iload C 3 rfl dX12_powers_10 ?_
  refine ux_aload_n C 0 rfl rfl dX12_powers_12 ?_
  refine gf_12_34 C dX12_powers_13 ?_
  refine ux_iconst C (v := 1) (by decide) dX12_powers_16 ?_
  obtain ⟨hi_16, hw⟩ := hw
  refine ux_iald C (uc_78 C.2.2.2.2.2) hi_16 dX12_powers_17 ?_
  refine ux_icmp_ge C (tgt := 91) (by decide) dX12_powers_18 (fun hc_15 => ?_) (fun hc_15 => ?_)
  · replace hw := hw.1 hc_15
    refine ux_iload_n C 2 rfl rfl dX12_powers_91 ?_
    exact ux_iret C ⟨_, rfl, hw⟩ dX12_powers_92
  · replace hw := hw.2 hc_15
    refine ux_iload_n C 2 rfl rfl dX12_powers_21 ?_
    refine ux_iload_n C 1 rfl rfl dX12_powers_22 ?_
    refine ux_iconst C (v := 1) (by decide) dX12_powers_23 ?_
    refine ux_icmp_ne C (tgt := 37) (by decide) dX12_powers_24 (fun hc_14 => ?_) (fun hc_14 => ?_)
    · replace hw := hw.2 hc_14
      refine ux_iload_n C 1 rfl rfl dX12_powers_37 ?_
      refine ux_iconst C (v := 2) (by decide) dX12_powers_38 ?_
      refine ux_icmp_ne C (tgt := 60) (by decide) dX12_powers_39 (fun hc_12 => ?_) (fun hc_12 => ?_)
      · replace hw := hw.2 hc_12
        refine ux_aload_n C 0 rfl rfl dX12_powers_60 ?_
        refine gf_12_50 C dX12_powers_61 ?_
        refine ux_iload C 3 rfl dX12_powers_64 ?_
        obtain ⟨hi_9, hw⟩ := hw
        refine ux_iald C (uc_83 C.2.2.2.2.2) hi_9 dX12_powers_66 ?_
        refine ux_aload_n C 0 rfl rfl dX12_powers_67 ?_
        refine gf_12_50 C dX12_powers_68 ?_
        refine ux_iload C 3 rfl dX12_powers_71 ?_
        obtain ⟨hi_8, hw⟩ := hw
        refine ux_iald C (uc_83 C.2.2.2.2.2) hi_8 dX12_powers_73 ?_
        refine ux_imul C dX12_powers_74 ?_
        refine ux_aload_n C 0 rfl rfl dX12_powers_75 ?_
        refine gf_12_50 C dX12_powers_76 ?_
        refine ux_iload C 3 rfl dX12_powers_79 ?_
        obtain ⟨hi_7, hw⟩ := hw
        refine ux_iald C (uc_83 C.2.2.2.2.2) hi_7 dX12_powers_81 ?_
        refine ux_imul C dX12_powers_82 ?_
        refine ux_iadd C dX12_powers_83 ?_
        refine ux_istore_n C rfl (by decide) rfl dX12_powers_84 ?_
        refine ux_iinc C 3 rfl rfl (by decide) rfl dX12_powers_85 ?_
        refine ux_goto C (tgt := 10) (by decide) dX12_powers_88 ?_
        exact ux_pick [2, 3, 1, 0] rfl (ih_4 _ _ hw)
      · replace hw := hw.1 hc_12
        refine ux_aload_n C 0 rfl rfl dX12_powers_42 ?_
        refine gf_12_50 C dX12_powers_43 ?_
        refine ux_iload C 3 rfl dX12_powers_46 ?_
        obtain ⟨hi_11, hw⟩ := hw
        refine ux_iald C (uc_83 C.2.2.2.2.2) hi_11 dX12_powers_48 ?_
        refine ux_aload_n C 0 rfl rfl dX12_powers_49 ?_
        refine gf_12_50 C dX12_powers_50 ?_
        refine ux_iload C 3 rfl dX12_powers_53 ?_
        obtain ⟨hi_10, hw⟩ := hw
        refine ux_iald C (uc_83 C.2.2.2.2.2) hi_10 dX12_powers_55 ?_
        refine ux_imul C dX12_powers_56 ?_
        refine ux_goto C (tgt := 83) (by decide) dX12_powers_57 ?_
        refine ux_iadd C dX12_powers_83 ?_
        refine ux_istore_n C rfl (by decide) rfl dX12_powers_84 ?_
        refine ux_iinc C 3 rfl rfl (by decide) rfl dX12_powers_85 ?_
        refine ux_goto C (tgt := 10) (by decide) dX12_powers_88 ?_
        exact ux_pick [2, 3, 1, 0] rfl (ih_4 _ _ hw)
    · replace hw := hw.1 hc_14
      refine ux_aload_n C 0 rfl rfl dX12_powers_27 ?_
      refine gf_12_50 C dX12_powers_28 ?_
      refine ux_iload C 3 rfl dX12_powers_31 ?_
      obtain ⟨hi_13, hw⟩ := hw
      refine ux_iald C (uc_83 C.2.2.2.2.2) hi_13 dX12_powers_33 ?_
      refine ux_goto C (tgt := 83) (by decide) dX12_powers_34 ?_
      refine ux_iadd C dX12_powers_83 ?_
      refine ux_istore_n C rfl (by decide) rfl dX12_powers_84 ?_
      refine ux_iinc C 3 rfl rfl (by decide) rfl dX12_powers_85 ?_
      refine ux_goto C (tgt := 10) (by decide) dX12_powers_88 ?_
      exact ux_pick [2, 3, 1, 0] rfl (ih_4 _ _ hw)
set_option maxHeartbeats 2000000 in
set_option maxRecDepth 4000 in
theorem c_Model_leftOut {l : Launch} {D : va_G} {G : Nat → Nat} {z N : Nat} (hN : 92 ≤ N) {a0 : ud_St} {x1 : Int32} {x2 : Int32}  {Qf : Int32 → ud_St → Prop} (hw : w_Model_leftOut a0 x1 x2 Qf) : ud_M l D G z N yX12_leftOut cX12_leftOut 5 (some Jvm.ClassFile.FieldType.int) 1 [.ref (z + 71), .int x1, .int x2] a0 (po_i Qf) := by
  unfold w_Model_leftOut at hw
  refine ud_M_of hN (by decide) (Nat.le_of_ble_eq_true rfl) ?_
  intro p e s m args below meth c C
  have C : ud_C D G z N p s m args meth c cX12_leftOut 5 RX12 (some Jvm.ClassFile.FieldType.int) := C
  show ud_X D G z N p l e (ud_rm 1 0 0) s m args below meth c 5 0 0 (ud_Q D G z N (po_i Qf) below args s) a0 0 [(0, .ref (z + 71)), (1, .int x1), (2, .int x2)] []
  refine ux_aload_n C 0 rfl rfl dX12_leftOut_0 ?_
  refine ux_iload_n C 1 rfl rfl dX12_leftOut_1 ?_
  refine cs_12_259 C  (c_Model_figures hN  hw) (by decide) (by decide) (Nat.le_of_ble_eq_true rfl) dX12_leftOut_2 (po_v.k fun a_2 hw => ?_)
  refine ux_iconst C (v := 0) (by decide) dX12_leftOut_5 ?_
  refine ux_istore_n C rfl (by decide) rfl dX12_leftOut_6 ?_
  refine ux_iconst C (v := 0) (by decide) dX12_leftOut_7 ?_
  refine ux_istore C (by decide) rfl dX12_leftOut_8 ?_
  refine ux_pick [2, 4, 1, 0] rfl ?_
  refine LW2.elim (P := fun (x3_5 : Int32) (x4_6 : Int32) => ud_X D G z N p l e (ud_rm 1 0 0) s m args below meth c 5 0 0 (ud_Q D G z N (po_i Qf) below args s) a_2 10 [(0, .ref (z + 71)), (2, .int x2), (3, .int x3_5), (4, .int x4_6)] []) hw ?_
  intro x3_5 x4_6 K_3 hw ih_4
  refine ux_iload C 3 rfl dX12_leftOut_10 ?_
  refine ux_aload_n C 0 rfl rfl dX12_leftOut_12 ?_
  refine gf_12_34 C dX12_leftOut_13 ?_
  refine ux_iconst C (v := 1) (by decide) dX12_leftOut_16 ?_
  obtain ⟨hi_12, hw⟩ := hw
  refine ux_iald C (uc_78 C.2.2.2.2.2) hi_12 dX12_leftOut_17 ?_
  refine ux_icmp_ge C (tgt := 55) (by decide) dX12_leftOut_18 (fun hc_11 => ?_) (fun hc_11 => ?_)
  · replace hw := hw.1 hc_11
    refine ux_iload_n C 2 rfl rfl dX12_leftOut_55 ?_
    exact ux_iret C ⟨_, rfl, hw⟩ dX12_leftOut_56
  · replace hw := hw.2 hc_11
    refine ux_aload_n C 0 rfl rfl dX12_leftOut_21 ?_
    refine gf_12_50 C dX12_leftOut_22 ?_
    refine ux_iload C 3 rfl dX12_leftOut_25 ?_
    obtain ⟨hi_10, hw⟩ := hw
    refine ux_iald C (uc_83 C.2.2.2.2.2) hi_10 dX12_leftOut_27 ?_
    refine ux_iload_n C 1 rfl rfl dX12_leftOut_28 ?_
    refine ux_icmp_eq C (tgt := 49) (by decide) dX12_leftOut_29 (fun hc_9 => ?_) (fun hc_9 => ?_)
    · replace hw := hw.1 hc_9
      refine ux_iinc C 3 rfl rfl (by decide) rfl dX12_leftOut_49 ?_
      refine ux_goto C (tgt := 10) (by decide) dX12_leftOut_52 ?_
      exact ux_pick [1, 2, 3, 0] rfl (ih_4 _ _ hw)
    · replace hw := hw.2 hc_9
      refine ux_iload_n C 2 rfl rfl dX12_leftOut_32 ?_
      refine ux_aload_n C 0 rfl rfl dX12_leftOut_33 ?_
      refine gf_12_34 C dX12_leftOut_34 ?_
      refine ux_iconst C (v := 0) (by decide) dX12_leftOut_37 ?_
      obtain ⟨hi_8, hw⟩ := hw
      refine ux_iald C (uc_78 C.2.2.2.2.2) hi_8 dX12_leftOut_38 ?_
      refine ux_imul C dX12_leftOut_39 ?_
      refine ux_aload_n C 0 rfl rfl dX12_leftOut_40 ?_
      refine gf_12_50 C dX12_leftOut_41 ?_
      refine ux_iload C 3 rfl dX12_leftOut_44 ?_
      obtain ⟨hi_7, hw⟩ := hw
      refine ux_iald C (uc_83 C.2.2.2.2.2) hi_7 dX12_leftOut_46 ?_
      refine ux_iadd C dX12_leftOut_47 ?_
      refine ux_istore_n C rfl (by decide) rfl dX12_leftOut_48 ?_
      refine ux_iinc C 3 rfl rfl (by decide) rfl dX12_leftOut_49 ?_
      refine ux_goto C (tgt := 10) (by decide) dX12_leftOut_52 ?_
      exact ux_pick [2, 3, 1, 0] rfl (ih_4 _ _ hw)
set_option maxHeartbeats 2000000 in
set_option maxRecDepth 4000 in
theorem c_Model_size {l : Launch} {D : va_G} {G : Nat → Nat} {z N : Nat} (hN : 92 ≤ N) {a0 : ud_St}   {Qf : Int32 → ud_St → Prop} (hw : w_Model_size a0  Qf) : ud_M l D G z N yX12_size cX12_size 1 (some Jvm.ClassFile.FieldType.int) 1 [.ref (z + 71)] a0 (po_i Qf) := by
  unfold w_Model_size at hw
  refine ud_M_of hN (by decide) (Nat.le_of_ble_eq_true rfl) ?_
  intro p e s m args below meth c C
  have C : ud_C D G z N p s m args meth c cX12_size 1 RX12 (some Jvm.ClassFile.FieldType.int) := C
  show ud_X D G z N p l e (ud_rm 1 0 0) s m args below meth c 1 0 0 (ud_Q D G z N (po_i Qf) below args s) a0 0 [(0, .ref (z + 71))] []
  refine ux_aload_n C 0 rfl rfl dX12_size_0 ?_
  refine ux_iconst C (v := 0) (by decide) dX12_size_1 ?_
  refine pf_12_77 C dX12_size_2 ?_
  refine ux_aload_n C 0 rfl rfl dX12_size_5 ?_
  refine cs_12_299 C  (c_Model_isTable hN  hw) (by decide) (by decide) (Nat.le_of_ble_eq_true rfl) dX12_size_6 (po_ip.k fun r_1 hw => ?_)
  refine ux_if_eq C (tgt := 21) (by decide) dX12_size_9 (fun hc_4 => ?_) (fun hc_4 => ?_)
  · replace hw := hw.1 hc_4
    refine ux_bipush C (v := -2) (by decide) dX12_size_21 ?_
    exact ux_iret C ⟨_, rfl, hw⟩ dX12_size_23
  · replace hw := hw.2 hc_4
    refine ux_aload_n C 0 rfl rfl dX12_size_12 ?_
    refine gf_12_34 C dX12_size_13 ?_
    refine ux_iconst C (v := 2) (by decide) dX12_size_16 ?_
    obtain ⟨hi_3, hw⟩ := hw
    refine ux_iald C (uc_78 C.2.2.2.2.2) hi_3 dX12_size_17 ?_
    refine ux_goto C (tgt := 23) (by decide) dX12_size_18 ?_
    exact ux_iret C ⟨_, rfl, hw⟩ dX12_size_23
set_option maxHeartbeats 2000000 in
set_option maxRecDepth 4000 in
theorem c_Model_gathers_j133 {D : va_G} {G : Nat → Nat} {z N : Nat} {p : Program} {l : Launch} {e : Env} {s : State} {m : MethodId} {args : Array Value} {below : List Frame} {meth : Method} {c : Code} (hN : 92 ≤ N) {a0 : ud_St} {b_133 : ud_St} {y1_133 : Int32} {y2_133 : Int32} {y3_133 : Int32} {K_9 : Int32 → ud_St → Prop}  {Qf : ud_St → Prop} (C : ud_C D G z N p s m args meth c cX12_gathers 4 RX12 (none : Option Jvm.ClassFile.FieldType)) (ih_10 : ∀ (v0 : Int32) (v1 : ud_St), K_9 v0 v1 → ud_X D G z N p l e (ud_rm 1 0 0) s m args below meth c 4 0 0 (ud_Q D G z N (po_v Qf) below args s) v1 119 [(0, .ref (z + 71)), (1, .int v0)] []) (hw : w_Model_gathers_j133 a0 b_133 y1_133 y2_133 y3_133 K_9 Qf) : ud_X D G z N p l e (ud_rm 1 0 0) s m args below meth c 4 0 0 (ud_Q D G z N (po_v Qf) below args s) b_133 133 [(0, .ref (z + 71)), (1, .int y1_133), (2, .int y2_133), (3, .int y3_133)] [] := by
  unfold w_Model_gathers_j133 at hw
  refine ux_pick [0, 1, 2, 3] rfl ?_
  refine LW2.elim (P := fun (x2_15 : Int32) (x3_16 : Int32) => ud_X D G z N p l e (ud_rm 1 0 0) s m args below meth c 4 0 0 (ud_Q D G z N (po_v Qf) below args s) b_133 133 [(0, .ref (z + 71)), (1, .int y1_133), (2, .int x2_15), (3, .int x3_16)] []) hw ?_
  intro x2_15 x3_16 K_13 hw ih_14
  refine ux_aload_n C 0 rfl rfl dX12_gathers_133 ?_
  refine gf_12_65 C dX12_gathers_134 ?_
  refine ux_iload_n C 2 rfl rfl dX12_gathers_137 ?_
  obtain ⟨hi_22, hw⟩ := hw
  refine ux_iald C (uc_88 C.2.2.2.2.2) hi_22 dX12_gathers_138 ?_
  refine ux_if_ne C (tgt := 155) (by decide) dX12_gathers_139 (fun hc_21 => ?_) (fun hc_21 => ?_)
  · replace hw := hw.2 hc_21
    refine ux_aload_n C 0 rfl rfl dX12_gathers_155 ?_
    refine gf_12_59 C dX12_gathers_156 ?_
    refine ux_iload_n C 1 rfl rfl dX12_gathers_159 ?_
    refine ux_iload_n C 3 rfl rfl dX12_gathers_160 ?_
    obtain ⟨hi_17, hw⟩ := hw
    refine ux_iast C (uc_86 C.2.2.2.2.2) hi_17 dX12_gathers_161 ?_
    refine ux_aload_n C 0 rfl rfl dX12_gathers_162 ?_
    refine gf_12_62 C dX12_gathers_163 ?_
    refine ux_iload_n C 1 rfl rfl dX12_gathers_166 ?_
    refine ux_aload_n C 0 rfl rfl dX12_gathers_167 ?_
    refine gf_12_62 C dX12_gathers_168 ?_
    refine ux_iload_n C 2 rfl rfl dX12_gathers_171 ?_
    obtain ⟨hi_19, hw⟩ := hw
    refine ux_iald C (uc_87 C.2.2.2.2.2) hi_19 dX12_gathers_172 ?_
    obtain ⟨hi_18, hw⟩ := hw
    refine ux_iast C (uc_87 C.2.2.2.2.2) hi_18 dX12_gathers_173 ?_
    refine ux_iinc C 1 rfl rfl (by decide) rfl dX12_gathers_174 ?_
    refine ux_goto C (tgt := 119) (by decide) dX12_gathers_177 ?_
    exact ux_pick [1, 0] rfl (ih_10 _ _ hw)
  · replace hw := hw.1 hc_21
    refine ux_aload_n C 0 rfl rfl dX12_gathers_142 ?_
    refine gf_12_56 C dX12_gathers_143 ?_
    refine ux_iload_n C 2 rfl rfl dX12_gathers_146 ?_
    obtain ⟨hi_20, hw⟩ := hw
    refine ux_iald C (uc_85 C.2.2.2.2.2) hi_20 dX12_gathers_147 ?_
    refine ux_istore_n C rfl (by decide) rfl dX12_gathers_148 ?_
    refine ux_iinc C 3 rfl rfl (by decide) rfl dX12_gathers_149 ?_
    refine ux_goto C (tgt := 133) (by decide) dX12_gathers_152 ?_
    exact ux_pick [2, 3, 1, 0] rfl (ih_14 _ _ hw)
set_option maxHeartbeats 2000000 in
set_option maxRecDepth 4000 in
theorem c_Model_gathers_j119 {D : va_G} {G : Nat → Nat} {z N : Nat} {p : Program} {l : Launch} {e : Env} {s : State} {m : MethodId} {args : Array Value} {below : List Frame} {meth : Method} {c : Code} (hN : 92 ≤ N) {a0 : ud_St} {b_119 : ud_St} {y1_119 : Int32}  {Qf : ud_St → Prop} (C : ud_C D G z N p s m args meth c cX12_gathers 4 RX12 (none : Option Jvm.ClassFile.FieldType))  (hw : w_Model_gathers_j119 a0 b_119 y1_119 Qf) : ud_X D G z N p l e (ud_rm 1 0 0) s m args below meth c 4 0 0 (ud_Q D G z N (po_v Qf) below args s) b_119 119 [(0, .ref (z + 71)), (1, .int y1_119)] [] := by
  unfold w_Model_gathers_j119 at hw
  refine ux_pick [0, 1] rfl ?_
  refine LW2.elim (P := fun (x1_11 : Int32) (a_12 : ud_St) => ud_X D G z N p l e (ud_rm 1 0 0) s m args below meth c 4 0 0 (ud_Q D G z N (po_v Qf) below args s) a_12 119 [(0, .ref (z + 71)), (1, .int x1_11)] []) hw ?_
  intro x1_11 a_12 K_9 hw ih_10
  refine ux_iload_n C 1 rfl rfl dX12_gathers_119 ?_
  refine ux_aload_n C 0 rfl rfl dX12_gathers_120 ?_
  refine gf_12_34 C dX12_gathers_121 ?_
  refine ux_iconst C (v := 2) (by decide) dX12_gathers_124 ?_
  obtain ⟨hi_24, hw⟩ := hw
  refine ux_iald C (uc_78 C.2.2.2.2.2) hi_24 dX12_gathers_125 ?_
  refine ux_icmp_ge C (tgt := 180) (by decide) dX12_gathers_126 (fun hc_23 => ?_) (fun hc_23 => ?_)
  · replace hw := hw.1 hc_23
    exact ux_vret C ⟨rfl, hw⟩ dX12_gathers_180
  · replace hw := hw.2 hc_23
    refine ux_iload_n C 1 rfl rfl dX12_gathers_129 ?_
    refine ux_istore_n C rfl (by decide) rfl dX12_gathers_130 ?_
    refine ux_iconst C (v := 0) (by decide) dX12_gathers_131 ?_
    refine ux_istore_n C rfl (by decide) rfl dX12_gathers_132 ?_
    exact ux_pick [2, 3, 1, 0] rfl (c_Model_gathers_j133 hN  C ih_10 hw)
set_option maxHeartbeats 2000000 in
set_option maxRecDepth 4000 in
theorem c_Model_gathers_j59 {D : va_G} {G : Nat → Nat} {z N : Nat} {p : Program} {l : Launch} {e : Env} {s : State} {m : MethodId} {args : Array Value} {below : List Frame} {meth : Method} {c : Code} (hN : 92 ≤ N) {a0 : ud_St} {b_59 : ud_St} {y1_59 : Int32} {y2_59 : Int32} {K_5 : Int32 → ud_St → Prop}  {Qf : ud_St → Prop} (C : ud_C D G z N p s m args meth c cX12_gathers 4 RX12 (none : Option Jvm.ClassFile.FieldType)) (ih_6 : ∀ (v0 : Int32) (v1 : ud_St), K_5 v0 v1 → ud_X D G z N p l e (ud_rm 1 0 0) s m args below meth c 4 0 0 (ud_Q D G z N (po_v Qf) below args s) v1 34 [(0, .ref (z + 71)), (1, .int v0)] []) (hw : w_Model_gathers_j59 a0 b_59 y1_59 y2_59 K_5 Qf) : ud_X D G z N p l e (ud_rm 1 0 0) s m args below meth c 4 0 0 (ud_Q D G z N (po_v Qf) below args s) b_59 59 [(0, .ref (z + 71)), (1, .int y1_59), (2, .int y2_59)] [] := by
  unfold w_Model_gathers_j59 at hw
  refine ux_pick [0, 1, 2] rfl ?_
  refine LW2.elim (P := fun (x2_27 : Int32) (a_28 : ud_St) => ud_X D G z N p l e (ud_rm 1 0 0) s m args below meth c 4 0 0 (ud_Q D G z N (po_v Qf) below args s) a_28 59 [(0, .ref (z + 71)), (1, .int y1_59), (2, .int x2_27)] []) hw ?_
  intro x2_27 a_28 K_25 hw ih_26
  refine ux_aload_n C 0 rfl rfl dX12_gathers_59 ?_
  refine gf_12_68 C dX12_gathers_60 ?_
  refine ux_iload_n C 2 rfl rfl dX12_gathers_63 ?_
  obtain ⟨hi_38, hw⟩ := hw
  refine ux_iald C (uc_89 C.2.2.2.2.2) hi_38 dX12_gathers_64 ?_
  refine ux_iconst C (v := -1) (by decide) dX12_gathers_65 ?_
  refine ux_icmp_ne C (tgt := 86) (by decide) dX12_gathers_66 (fun hc_37 => ?_) (fun hc_37 => ?_)
  · replace hw := hw.2 hc_37
    refine ux_aload_n C 0 rfl rfl dX12_gathers_86 ?_
    refine gf_12_68 C dX12_gathers_87 ?_
    refine ux_iload_n C 2 rfl rfl dX12_gathers_90 ?_
    obtain ⟨hi_34, hw⟩ := hw
    refine ux_iald C (uc_89 C.2.2.2.2.2) hi_34 dX12_gathers_91 ?_
    refine ux_iload_n C 1 rfl rfl dX12_gathers_92 ?_
    refine ux_icmp_ne C (tgt := 111) (by decide) dX12_gathers_93 (fun hc_33 => ?_) (fun hc_33 => ?_)
    · replace hw := hw.2 hc_33
      refine ux_iinc C 1 rfl rfl (by decide) rfl dX12_gathers_111 ?_
      refine ux_goto C (tgt := 34) (by decide) dX12_gathers_114 ?_
      exact ux_pick [1, 0] rfl (ih_6 _ _ hw)
    · replace hw := hw.1 hc_33
      refine ux_aload_n C 0 rfl rfl dX12_gathers_96 ?_
      refine gf_12_62 C dX12_gathers_97 ?_
      refine ux_iload_n C 2 rfl rfl dX12_gathers_100 ?_
      obtain ⟨hi_32, hw⟩ := hw
      refine ux_iald C (uc_87 C.2.2.2.2.2) hi_32 dX12_gathers_101 ?_
      refine ux_iconst C (v := -1) (by decide) dX12_gathers_102 ?_
      refine ux_icmp_ne C (tgt := 111) (by decide) dX12_gathers_103 (fun hc_31 => ?_) (fun hc_31 => ?_)
      · replace hw := hw.2 hc_31
        refine ux_iinc C 1 rfl rfl (by decide) rfl dX12_gathers_111 ?_
        refine ux_goto C (tgt := 34) (by decide) dX12_gathers_114 ?_
        exact ux_pick [1, 0] rfl (ih_6 _ _ hw)
      · replace hw := hw.1 hc_31
        refine ux_aload_n C 0 rfl rfl dX12_gathers_106 ?_
        refine ux_iload_n C 2 rfl rfl dX12_gathers_107 ?_
        refine cs_12_305 C  (c_Model_laysRound hN  hw) (by decide) (by decide) (Nat.le_of_ble_eq_true rfl) dX12_gathers_108 (po_v.k fun a_30 hw => ?_)
        refine ux_iinc C 1 rfl rfl (by decide) rfl dX12_gathers_111 ?_
        refine ux_goto C (tgt := 34) (by decide) dX12_gathers_114 ?_
        exact ux_pick [1, 0] rfl (ih_6 _ _ hw)
  · replace hw := hw.1 hc_37
    refine ux_aload_n C 0 rfl rfl dX12_gathers_69 ?_
    refine gf_12_68 C dX12_gathers_70 ?_
    refine ux_iload_n C 2 rfl rfl dX12_gathers_73 ?_
    refine ux_iload_n C 1 rfl rfl dX12_gathers_74 ?_
    obtain ⟨hi_35, hw⟩ := hw
    refine ux_iast C (uc_89 C.2.2.2.2.2) hi_35 dX12_gathers_75 ?_
    refine ux_aload_n C 0 rfl rfl dX12_gathers_76 ?_
    refine gf_12_56 C dX12_gathers_77 ?_
    refine ux_iload_n C 2 rfl rfl dX12_gathers_80 ?_
    obtain ⟨hi_36, hw⟩ := hw
    refine ux_iald C (uc_85 C.2.2.2.2.2) hi_36 dX12_gathers_81 ?_
    refine ux_istore_n C rfl (by decide) rfl dX12_gathers_82 ?_
    refine ux_goto C (tgt := 59) (by decide) dX12_gathers_83 ?_
    exact ux_pick [1, 2, 0] rfl (ih_26 _ _ hw)
set_option maxHeartbeats 2000000 in
set_option maxRecDepth 4000 in
theorem c_Model_gathers_j34 {D : va_G} {G : Nat → Nat} {z N : Nat} {p : Program} {l : Launch} {e : Env} {s : State} {m : MethodId} {args : Array Value} {below : List Frame} {meth : Method} {c : Code} (hN : 92 ≤ N) {a0 : ud_St} {b_34 : ud_St} {y1_34 : Int32}  {Qf : ud_St → Prop} (C : ud_C D G z N p s m args meth c cX12_gathers 4 RX12 (none : Option Jvm.ClassFile.FieldType))  (hw : w_Model_gathers_j34 a0 b_34 y1_34 Qf) : ud_X D G z N p l e (ud_rm 1 0 0) s m args below meth c 4 0 0 (ud_Q D G z N (po_v Qf) below args s) b_34 34 [(0, .ref (z + 71)), (1, .int y1_34)] [] := by
  unfold w_Model_gathers_j34 at hw
  refine ux_pick [0, 1] rfl ?_
  refine LW2.elim (P := fun (x1_7 : Int32) (a_8 : ud_St) => ud_X D G z N p l e (ud_rm 1 0 0) s m args below meth c 4 0 0 (ud_Q D G z N (po_v Qf) below args s) a_8 34 [(0, .ref (z + 71)), (1, .int x1_7)] []) hw ?_
  intro x1_7 a_8 K_5 hw ih_6
  refine ux_iload_n C 1 rfl rfl dX12_gathers_34 ?_
  refine ux_aload_n C 0 rfl rfl dX12_gathers_35 ?_
  refine gf_12_34 C dX12_gathers_36 ?_
  refine ux_iconst C (v := 2) (by decide) dX12_gathers_39 ?_
  obtain ⟨hi_42, hw⟩ := hw
  refine ux_iald C (uc_78 C.2.2.2.2.2) hi_42 dX12_gathers_40 ?_
  refine ux_icmp_ge C (tgt := 117) (by decide) dX12_gathers_41 (fun hc_41 => ?_) (fun hc_41 => ?_)
  · replace hw := hw.1 hc_41
    refine ux_iconst C (v := 0) (by decide) dX12_gathers_117 ?_
    refine ux_istore_n C rfl (by decide) rfl dX12_gathers_118 ?_
    exact ux_pick [1, 0] rfl (c_Model_gathers_j119 hN  C  hw)
  · replace hw := hw.2 hc_41
    refine ux_aload_n C 0 rfl rfl dX12_gathers_44 ?_
    refine gf_12_68 C dX12_gathers_45 ?_
    refine ux_iload_n C 1 rfl rfl dX12_gathers_48 ?_
    obtain ⟨hi_40, hw⟩ := hw
    refine ux_iald C (uc_89 C.2.2.2.2.2) hi_40 dX12_gathers_49 ?_
    refine ux_iconst C (v := -1) (by decide) dX12_gathers_50 ?_
    refine ux_icmp_eq C (tgt := 57) (by decide) dX12_gathers_51 (fun hc_39 => ?_) (fun hc_39 => ?_)
    · replace hw := hw.1 hc_39
      refine ux_iload_n C 1 rfl rfl dX12_gathers_57 ?_
      refine ux_istore_n C rfl (by decide) rfl dX12_gathers_58 ?_
      exact ux_pick [1, 2, 0] rfl (c_Model_gathers_j59 hN  C ih_6 hw)
    · replace hw := hw.2 hc_39
      refine ux_goto C (tgt := 111) (by decide) dX12_gathers_54 ?_
      refine ux_iinc C 1 rfl rfl (by decide) rfl dX12_gathers_111 ?_
      refine ux_goto C (tgt := 34) (by decide) dX12_gathers_114 ?_
      exact ux_pick [1, 0] rfl (ih_6 _ _ hw)
set_option maxHeartbeats 2000000 in
set_option maxRecDepth 4000 in
theorem c_Model_gathers_j2 {D : va_G} {G : Nat → Nat} {z N : Nat} {p : Program} {l : Launch} {e : Env} {s : State} {m : MethodId} {args : Array Value} {below : List Frame} {meth : Method} {c : Code} (hN : 92 ≤ N) {a0 : ud_St} {b_2 : ud_St} {y1_2 : Int32}  {Qf : ud_St → Prop} (C : ud_C D G z N p s m args meth c cX12_gathers 4 RX12 (none : Option Jvm.ClassFile.FieldType))  (hw : w_Model_gathers_j2 a0 b_2 y1_2 Qf) : ud_X D G z N p l e (ud_rm 1 0 0) s m args below meth c 4 0 0 (ud_Q D G z N (po_v Qf) below args s) b_2 2 [(0, .ref (z + 71)), (1, .int y1_2)] [] := by
  unfold w_Model_gathers_j2 at hw
  refine ux_pick [0, 1] rfl ?_
  refine LW2.elim (P := fun (x1_3 : Int32) (a_4 : ud_St) => ud_X D G z N p l e (ud_rm 1 0 0) s m args below meth c 4 0 0 (ud_Q D G z N (po_v Qf) below args s) a_4 2 [(0, .ref (z + 71)), (1, .int x1_3)] []) hw ?_
  intro x1_3 a_4 K_1 hw ih_2
  refine ux_iload_n C 1 rfl rfl dX12_gathers_2 ?_
  refine ux_aload_n C 0 rfl rfl dX12_gathers_3 ?_
  refine gf_12_34 C dX12_gathers_4 ?_
  refine ux_iconst C (v := 2) (by decide) dX12_gathers_7 ?_
  obtain ⟨hi_46, hw⟩ := hw
  refine ux_iald C (uc_78 C.2.2.2.2.2) hi_46 dX12_gathers_8 ?_
  refine ux_icmp_ge C (tgt := 32) (by decide) dX12_gathers_9 (fun hc_45 => ?_) (fun hc_45 => ?_)
  · replace hw := hw.1 hc_45
    refine ux_iconst C (v := 0) (by decide) dX12_gathers_32 ?_
    refine ux_istore_n C rfl (by decide) rfl dX12_gathers_33 ?_
    exact ux_pick [1, 0] rfl (c_Model_gathers_j34 hN  C  hw)
  · replace hw := hw.2 hc_45
    refine ux_aload_n C 0 rfl rfl dX12_gathers_12 ?_
    refine gf_12_68 C dX12_gathers_13 ?_
    refine ux_iload_n C 1 rfl rfl dX12_gathers_16 ?_
    refine ux_iconst C (v := -1) (by decide) dX12_gathers_17 ?_
    obtain ⟨hi_43, hw⟩ := hw
    refine ux_iast C (uc_89 C.2.2.2.2.2) hi_43 dX12_gathers_18 ?_
    refine ux_aload_n C 0 rfl rfl dX12_gathers_19 ?_
    refine gf_12_62 C dX12_gathers_20 ?_
    refine ux_iload_n C 1 rfl rfl dX12_gathers_23 ?_
    refine ux_iconst C (v := -1) (by decide) dX12_gathers_24 ?_
    obtain ⟨hi_44, hw⟩ := hw
    refine ux_iast C (uc_87 C.2.2.2.2.2) hi_44 dX12_gathers_25 ?_
    refine ux_iinc C 1 rfl rfl (by decide) rfl dX12_gathers_26 ?_
    refine ux_goto C (tgt := 2) (by decide) dX12_gathers_29 ?_
    exact ux_pick [1, 0] rfl (ih_2 _ _ hw)
set_option maxHeartbeats 2000000 in
set_option maxRecDepth 4000 in
theorem c_Model_gathers {l : Launch} {D : va_G} {G : Nat → Nat} {z N : Nat} (hN : 92 ≤ N) {a0 : ud_St}   {Qf : ud_St → Prop} (hw : w_Model_gathers a0  Qf) : ud_M l D G z N yX12_gathers cX12_gathers 4 (none : Option Jvm.ClassFile.FieldType) 1 [.ref (z + 71)] a0 (po_v Qf) := by
  unfold w_Model_gathers at hw
  refine ud_M_of hN (by decide) (Nat.le_of_ble_eq_true rfl) ?_
  intro p e s m args below meth c C
  have C : ud_C D G z N p s m args meth c cX12_gathers 4 RX12 (none : Option Jvm.ClassFile.FieldType) := C
  show ud_X D G z N p l e (ud_rm 1 0 0) s m args below meth c 4 0 0 (ud_Q D G z N (po_v Qf) below args s) a0 0 [(0, .ref (z + 71))] []
  refine ux_iconst C (v := 0) (by decide) dX12_gathers_0 ?_
  refine ux_istore_n C rfl (by decide) rfl dX12_gathers_1 ?_
  exact ux_pick [1, 0] rfl (c_Model_gathers_j2 hN  C  hw)
set_option maxHeartbeats 2000000 in
set_option maxRecDepth 4000 in
theorem c_Model_manyRounds {l : Launch} {D : va_G} {G : Nat → Nat} {z N : Nat} (hN : 92 ≤ N) {a0 : ud_St}   {Qf : Int32 → Prop} (hw : w_Model_manyRounds a0  Qf) : ud_M l D G z N yX12_manyRounds cX12_manyRounds 3 (some Jvm.ClassFile.FieldType.int) 1 [.ref (z + 71)] a0 (po_ip a0 Qf) := by
  unfold w_Model_manyRounds at hw
  refine ud_M_of hN (by decide) (Nat.le_of_ble_eq_true rfl) ?_
  intro p e s m args below meth c C
  have C : ud_C D G z N p s m args meth c cX12_manyRounds 3 RX12 (some Jvm.ClassFile.FieldType.int) := C
  show ud_X D G z N p l e (ud_rm 1 0 0) s m args below meth c 3 0 0 (ud_Q D G z N (po_ip a0 Qf) below args s) a0 0 [(0, .ref (z + 71))] []
  refine ux_iconst C (v := 0) (by decide) dX12_manyRounds_0 ?_
  refine ux_istore_n C rfl (by decide) rfl dX12_manyRounds_1 ?_
  refine ux_iconst C (v := 0) (by decide) dX12_manyRounds_2 ?_
  refine ux_istore_n C rfl (by decide) rfl dX12_manyRounds_3 ?_
  refine ux_pick [2, 1, 0] rfl ?_
  refine LW2.elim (P := fun (x1_3 : Int32) (x2_4 : Int32) => ud_X D G z N p l e (ud_rm 1 0 0) s m args below meth c 3 0 0 (ud_Q D G z N (po_ip a0 Qf) below args s) a0 4 [(0, .ref (z + 71)), (1, .int x1_3), (2, .int x2_4)] []) hw ?_
  intro x1_3 x2_4 K_1 hw ih_2
  refine ux_iload_n C 2 rfl rfl dX12_manyRounds_4 ?_
  refine ux_aload_n C 0 rfl rfl dX12_manyRounds_5 ?_
  refine gf_12_34 C dX12_manyRounds_6 ?_
  refine ux_iconst C (v := 2) (by decide) dX12_manyRounds_9 ?_
  obtain ⟨hi_9, hw⟩ := hw
  refine ux_iald C (uc_78 C.2.2.2.2.2) hi_9 dX12_manyRounds_10 ?_
  refine ux_icmp_ge C (tgt := 36) (by decide) dX12_manyRounds_11 (fun hc_8 => ?_) (fun hc_8 => ?_)
  · replace hw := hw.1 hc_8
    refine ux_iload_n C 1 rfl rfl dX12_manyRounds_36 ?_
    exact ux_iret C ⟨_, rfl, rfl, hw⟩ dX12_manyRounds_37
  · replace hw := hw.2 hc_8
    refine ux_iload_n C 1 rfl rfl dX12_manyRounds_14 ?_
    refine ux_aload_n C 0 rfl rfl dX12_manyRounds_15 ?_
    refine ux_iload_n C 2 rfl rfl dX12_manyRounds_16 ?_
    refine cs_12_325 C  (c_Model_isHome hN  hw) (by decide) (by decide) (Nat.le_of_ble_eq_true rfl) dX12_manyRounds_17 (po_ip.k fun r_5 hw => ?_)
    refine ux_if_eq C (tgt := 27) (by decide) dX12_manyRounds_20 (fun hc_7 => ?_) (fun hc_7 => ?_)
    · replace hw := hw.1 hc_7
      refine ux_iconst C (v := 0) (by decide) dX12_manyRounds_27 ?_
      refine ux_iadd C dX12_manyRounds_28 ?_
      refine ux_istore_n C rfl (by decide) rfl dX12_manyRounds_29 ?_
      refine ux_iinc C 2 rfl rfl (by decide) rfl dX12_manyRounds_30 ?_
      refine ux_goto C (tgt := 4) (by decide) dX12_manyRounds_33 ?_
      exact ux_pick [2, 1, 0] rfl (ih_2 _ _ hw)
    · replace hw := hw.2 hc_7
      refine ux_iconst C (v := 1) (by decide) dX12_manyRounds_23 ?_
      refine ux_goto C (tgt := 28) (by decide) dX12_manyRounds_24 ?_
      refine ux_iadd C dX12_manyRounds_28 ?_
      refine ux_istore_n C rfl (by decide) rfl dX12_manyRounds_29 ?_
      refine ux_iinc C 2 rfl rfl (by decide) rfl dX12_manyRounds_30 ?_
      refine ux_goto C (tgt := 4) (by decide) dX12_manyRounds_33 ?_
      exact ux_pick [2, 1, 0] rfl (ih_2 _ _ hw)
set_option maxHeartbeats 2000000 in
set_option maxRecDepth 4000 in
theorem c_Model_longest {l : Launch} {D : va_G} {G : Nat → Nat} {z N : Nat} (hN : 92 ≤ N) {a0 : ud_St}   {Qf : Int32 → Prop} (hw : w_Model_longest a0  Qf) : ud_M l D G z N yX12_longest cX12_longest 3 (some Jvm.ClassFile.FieldType.int) 1 [.ref (z + 71)] a0 (po_ip a0 Qf) := by
  unfold w_Model_longest at hw
  refine ud_M_of hN (by decide) (Nat.le_of_ble_eq_true rfl) ?_
  intro p e s m args below meth c C
  have C : ud_C D G z N p s m args meth c cX12_longest 3 RX12 (some Jvm.ClassFile.FieldType.int) := C
  show ud_X D G z N p l e (ud_rm 1 0 0) s m args below meth c 3 0 0 (ud_Q D G z N (po_ip a0 Qf) below args s) a0 0 [(0, .ref (z + 71))] []
  refine ux_iconst C (v := 0) (by decide) dX12_longest_0 ?_
  refine ux_istore_n C rfl (by decide) rfl dX12_longest_1 ?_
  refine ux_iconst C (v := 0) (by decide) dX12_longest_2 ?_
  refine ux_istore_n C rfl (by decide) rfl dX12_longest_3 ?_
  refine ux_pick [2, 1, 0] rfl ?_
  refine LW2.elim (P := fun (x1_3 : Int32) (x2_4 : Int32) => ud_X D G z N p l e (ud_rm 1 0 0) s m args below meth c 3 0 0 (ud_Q D G z N (po_ip a0 Qf) below args s) a0 4 [(0, .ref (z + 71)), (1, .int x1_3), (2, .int x2_4)] []) hw ?_
  intro x1_3 x2_4 K_1 hw ih_2
  refine ux_iload_n C 2 rfl rfl dX12_longest_4 ?_
  refine ux_aload_n C 0 rfl rfl dX12_longest_5 ?_
  refine gf_12_34 C dX12_longest_6 ?_
  refine ux_iconst C (v := 2) (by decide) dX12_longest_9 ?_
  obtain ⟨hi_15, hw⟩ := hw
  refine ux_iald C (uc_78 C.2.2.2.2.2) hi_15 dX12_longest_10 ?_
  refine ux_icmp_ge C (tgt := 53) (by decide) dX12_longest_11 (fun hc_14 => ?_) (fun hc_14 => ?_)
  · replace hw := hw.1 hc_14
    refine ux_iload_n C 1 rfl rfl dX12_longest_53 ?_
    exact ux_iret C ⟨_, rfl, rfl, hw⟩ dX12_longest_54
  · replace hw := hw.2 hc_14
    refine ux_aload_n C 0 rfl rfl dX12_longest_14 ?_
    refine ux_iload_n C 2 rfl rfl dX12_longest_15 ?_
    refine cs_12_325 C  (c_Model_isHome hN  hw) (by decide) (by decide) (Nat.le_of_ble_eq_true rfl) dX12_longest_16 (po_ip.k fun r_5 hw => ?_)
    refine ux_if_eq C (tgt := 47) (by decide) dX12_longest_19 (fun hc_13 => ?_) (fun hc_13 => ?_)
    · replace hw := hw.1 hc_13
      refine ux_iinc C 2 rfl rfl (by decide) rfl dX12_longest_47 ?_
      refine ux_goto C (tgt := 4) (by decide) dX12_longest_50 ?_
      exact ux_pick [1, 2, 0] rfl (ih_2 _ _ hw)
    · replace hw := hw.2 hc_13
      refine ux_aload_n C 0 rfl rfl dX12_longest_22 ?_
      refine ux_iload_n C 1 rfl rfl dX12_longest_23 ?_
      refine cs_12_325 C  (c_Model_isHome hN  hw) (by decide) (by decide) (Nat.le_of_ble_eq_true rfl) dX12_longest_24 (po_ip.k fun r_7 hw => ?_)
      refine ux_if_eq C (tgt := 45) (by decide) dX12_longest_27 (fun hc_12 => ?_) (fun hc_12 => ?_)
      · replace hw := hw.1 hc_12
        refine ux_iload_n C 2 rfl rfl dX12_longest_45 ?_
        refine ux_istore_n C rfl (by decide) rfl dX12_longest_46 ?_
        refine ux_iinc C 2 rfl rfl (by decide) rfl dX12_longest_47 ?_
        refine ux_goto C (tgt := 4) (by decide) dX12_longest_50 ?_
        exact ux_pick [2, 1, 0] rfl (ih_2 _ _ hw)
      · replace hw := hw.2 hc_12
        refine ux_aload_n C 0 rfl rfl dX12_longest_30 ?_
        refine gf_12_65 C dX12_longest_31 ?_
        refine ux_iload_n C 2 rfl rfl dX12_longest_34 ?_
        obtain ⟨hi_11, hw⟩ := hw
        refine ux_iald C (uc_88 C.2.2.2.2.2) hi_11 dX12_longest_35 ?_
        refine ux_aload_n C 0 rfl rfl dX12_longest_36 ?_
        refine gf_12_65 C dX12_longest_37 ?_
        refine ux_iload_n C 1 rfl rfl dX12_longest_40 ?_
        obtain ⟨hi_10, hw⟩ := hw
        refine ux_iald C (uc_88 C.2.2.2.2.2) hi_10 dX12_longest_41 ?_
        refine ux_icmp_le C (tgt := 47) (by decide) dX12_longest_42 (fun hc_9 => ?_) (fun hc_9 => ?_)
        · replace hw := hw.1 hc_9
          refine ux_iinc C 2 rfl rfl (by decide) rfl dX12_longest_47 ?_
          refine ux_goto C (tgt := 4) (by decide) dX12_longest_50 ?_
          exact ux_pick [1, 2, 0] rfl (ih_2 _ _ hw)
        · replace hw := hw.2 hc_9
          refine ux_iload_n C 2 rfl rfl dX12_longest_45 ?_
          refine ux_istore_n C rfl (by decide) rfl dX12_longest_46 ?_
          refine ux_iinc C 2 rfl rfl (by decide) rfl dX12_longest_47 ?_
          refine ux_goto C (tgt := 4) (by decide) dX12_longest_50 ?_
          exact ux_pick [2, 1, 0] rfl (ih_2 _ _ hw)
set_option maxHeartbeats 2000000 in
set_option maxRecDepth 4000 in
theorem c_Model_homeOf {l : Launch} {D : va_G} {G : Nat → Nat} {z N : Nat} (hN : 92 ≤ N) {a0 : ud_St} {x1 : Int32}  {Qf : Int32 → Prop} (hw : w_Model_homeOf a0 x1 Qf) : ud_M l D G z N yX12_homeOf cX12_homeOf 4 (some Jvm.ClassFile.FieldType.int) 1 [.ref (z + 71), .int x1] a0 (po_ip a0 Qf) := by
  unfold w_Model_homeOf at hw
  refine ud_M_of hN (by decide) (Nat.le_of_ble_eq_true rfl) ?_
  intro p e s m args below meth c C
  have C : ud_C D G z N p s m args meth c cX12_homeOf 4 RX12 (some Jvm.ClassFile.FieldType.int) := C
  show ud_X D G z N p l e (ud_rm 1 0 0) s m args below meth c 4 0 0 (ud_Q D G z N (po_ip a0 Qf) below args s) a0 0 [(0, .ref (z + 71)), (1, .int x1)] []
  refine ux_iload_n C 1 rfl rfl dX12_homeOf_0 ?_
  refine ux_istore_n C rfl (by decide) rfl dX12_homeOf_1 ?_
  refine ux_iconst C (v := 0) (by decide) dX12_homeOf_2 ?_
  refine ux_istore_n C rfl (by decide) rfl dX12_homeOf_3 ?_
  refine ux_pick [2, 3, 1, 0] rfl ?_
  refine LW2.elim (P := fun (x2_3 : Int32) (x3_4 : Int32) => ud_X D G z N p l e (ud_rm 1 0 0) s m args below meth c 4 0 0 (ud_Q D G z N (po_ip a0 Qf) below args s) a0 4 [(0, .ref (z + 71)), (1, .int x1), (2, .int x2_3), (3, .int x3_4)] []) hw ?_
  intro x2_3 x3_4 K_1 hw ih_2
  refine ux_iload_n C 3 rfl rfl dX12_homeOf_4 ?_
  refine ux_aload_n C 0 rfl rfl dX12_homeOf_5 ?_
  refine gf_12_34 C dX12_homeOf_6 ?_
  refine ux_iconst C (v := 2) (by decide) dX12_homeOf_9 ?_
  obtain ⟨hi_11, hw⟩ := hw
  refine ux_iald C (uc_78 C.2.2.2.2.2) hi_11 dX12_homeOf_10 ?_
  refine ux_icmp_ge C (tgt := 44) (by decide) dX12_homeOf_11 (fun hc_10 => ?_) (fun hc_10 => ?_)
  · replace hw := hw.1 hc_10
    refine ux_iconst C (v := -1) (by decide) dX12_homeOf_44 ?_
    exact ux_iret C ⟨_, rfl, rfl, hw⟩ dX12_homeOf_45
  · replace hw := hw.2 hc_10
    refine ux_iload_n C 1 rfl rfl dX12_homeOf_14 ?_
    refine ux_if_lt C (tgt := 44) (by decide) dX12_homeOf_15 (fun hc_9 => ?_) (fun hc_9 => ?_)
    · replace hw := hw.1 hc_9
      refine ux_iconst C (v := -1) (by decide) dX12_homeOf_44 ?_
      exact ux_iret C ⟨_, rfl, rfl, hw⟩ dX12_homeOf_45
    · replace hw := hw.2 hc_9
      refine ux_aload_n C 0 rfl rfl dX12_homeOf_18 ?_
      refine ux_iload_n C 3 rfl rfl dX12_homeOf_19 ?_
      refine cs_12_325 C  (c_Model_isHome hN  hw) (by decide) (by decide) (Nat.le_of_ble_eq_true rfl) dX12_homeOf_20 (po_ip.k fun r_5 hw => ?_)
      refine ux_if_ne C (tgt := 29) (by decide) dX12_homeOf_23 (fun hc_8 => ?_) (fun hc_8 => ?_)
      · replace hw := hw.2 hc_8
        refine ux_iload_n C 2 rfl rfl dX12_homeOf_29 ?_
        refine ux_if_ne C (tgt := 35) (by decide) dX12_homeOf_30 (fun hc_7 => ?_) (fun hc_7 => ?_)
        · replace hw := hw.2 hc_7
          refine ux_iinc C 2 rfl rfl (by decide) rfl dX12_homeOf_35 ?_
          refine ux_iinc C 3 rfl rfl (by decide) rfl dX12_homeOf_38 ?_
          refine ux_goto C (tgt := 4) (by decide) dX12_homeOf_41 ?_
          exact ux_pick [2, 3, 1, 0] rfl (ih_2 _ _ hw)
        · replace hw := hw.1 hc_7
          refine ux_iload_n C 3 rfl rfl dX12_homeOf_33 ?_
          exact ux_iret C ⟨_, rfl, rfl, hw⟩ dX12_homeOf_34
      · replace hw := hw.1 hc_8
        refine ux_goto C (tgt := 38) (by decide) dX12_homeOf_26 ?_
        refine ux_iinc C 3 rfl rfl (by decide) rfl dX12_homeOf_38 ?_
        refine ux_goto C (tgt := 4) (by decide) dX12_homeOf_41 ?_
        exact ux_pick [1, 2, 3, 0] rfl (ih_2 _ _ hw)
set_option maxHeartbeats 2000000 in
set_option maxRecDepth 4000 in
theorem c_Model_isCrowd {l : Launch} {D : va_G} {G : Nat → Nat} {z N : Nat} (hN : 92 ≤ N) {a0 : ud_St} {x1 : Int32} {x2 : Int32}  {Qf : Int32 → Prop} (hw : w_Model_isCrowd a0 x1 x2 Qf) : ud_M l D G z N yX12_isCrowd cX12_isCrowd 3 (some Jvm.ClassFile.FieldType.boolean) 1 [.ref (z + 71), .int x1, .int x2] a0 (po_ip a0 Qf) := by
  unfold w_Model_isCrowd at hw
  refine ud_M_of hN (by decide) (Nat.le_of_ble_eq_true rfl) ?_
  intro p e s m args below meth c C
  have C : ud_C D G z N p s m args meth c cX12_isCrowd 3 RX12 (some Jvm.ClassFile.FieldType.boolean) := C
  show ud_X D G z N p l e (ud_rm 1 0 0) s m args below meth c 3 0 0 (ud_Q D G z N (po_ip a0 Qf) below args s) a0 0 [(0, .ref (z + 71)), (1, .int x1), (2, .int x2)] []
  refine ux_aload_n C 0 rfl rfl dX12_isCrowd_0 ?_
  refine cs_12_299 C  (c_Model_isTable hN  hw) (by decide) (by decide) (Nat.le_of_ble_eq_true rfl) dX12_isCrowd_1 (po_ip.k fun r_1 hw => ?_)
  refine ux_if_eq C (tgt := 35) (by decide) dX12_isCrowd_4 (fun hc_9 => ?_) (fun hc_9 => ?_)
  · replace hw := hw.1 hc_9
    refine ux_iconst C (v := 0) (by decide) dX12_isCrowd_35 ?_
    exact ux_zret C rfl ⟨_, rfl, rfl, hw⟩ dX12_isCrowd_36
  · replace hw := hw.2 hc_9
    refine ux_iload_n C 1 rfl rfl dX12_isCrowd_7 ?_
    refine ux_i2l C dX12_isCrowd_8 ?_
    refine ux_lconst C (v := 0) (by decide) dX12_isCrowd_9 ?_
    refine ux_ldc2 C (v := 3) mw_1415 dX12_isCrowd_10 ?_
    refine cs_12_82 C  (c_Model_in hN  hw) (by decide) (by decide) (Nat.le_of_ble_eq_true rfl) dX12_isCrowd_13 (po_ip.k fun r_3 hw => ?_)
    refine ux_if_eq C (tgt := 35) (by decide) dX12_isCrowd_16 (fun hc_8 => ?_) (fun hc_8 => ?_)
    · replace hw := hw.1 hc_8
      refine ux_iconst C (v := 0) (by decide) dX12_isCrowd_35 ?_
      exact ux_zret C rfl ⟨_, rfl, rfl, hw⟩ dX12_isCrowd_36
    · replace hw := hw.2 hc_8
      refine ux_iload_n C 2 rfl rfl dX12_isCrowd_19 ?_
      refine ux_i2l C dX12_isCrowd_20 ?_
      refine ux_lconst C (v := 0) (by decide) dX12_isCrowd_21 ?_
      refine ux_ldc2 C (v := 200) mw_1744 dX12_isCrowd_22 ?_
      refine cs_12_82 C  (c_Model_in hN  hw) (by decide) (by decide) (Nat.le_of_ble_eq_true rfl) dX12_isCrowd_25 (po_ip.k fun r_5 hw => ?_)
      refine ux_if_eq C (tgt := 35) (by decide) dX12_isCrowd_28 (fun hc_7 => ?_) (fun hc_7 => ?_)
      · replace hw := hw.1 hc_7
        refine ux_iconst C (v := 0) (by decide) dX12_isCrowd_35 ?_
        exact ux_zret C rfl ⟨_, rfl, rfl, hw⟩ dX12_isCrowd_36
      · replace hw := hw.2 hc_7
        refine ux_iconst C (v := 1) (by decide) dX12_isCrowd_31 ?_
        refine ux_goto C (tgt := 36) (by decide) dX12_isCrowd_32 ?_
        exact ux_zret C rfl ⟨_, rfl, rfl, hw⟩ dX12_isCrowd_36
set_option maxHeartbeats 2000000 in
set_option maxRecDepth 4000 in
theorem c_Model_sureAt {l : Launch} {D : va_G} {G : Nat → Nat} {z N : Nat} (hN : 92 ≤ N) {a0 : ud_St} {x1 : Int32}  {Qf : Int32 → ud_St → Prop} (hw : w_Model_sureAt a0 x1 Qf) : ud_M l D G z N yX12_sureAt cX12_sureAt 4 (some Jvm.ClassFile.FieldType.int) 1 [.ref (z + 71), .int x1] a0 (po_i Qf) := by
  unfold w_Model_sureAt at hw
  refine ud_M_of hN (by decide) (Nat.le_of_ble_eq_true rfl) ?_
  intro p e s m args below meth c C
  have C : ud_C D G z N p s m args meth c cX12_sureAt 4 RX12 (some Jvm.ClassFile.FieldType.int) := C
  show ud_X D G z N p l e (ud_rm 1 0 0) s m args below meth c 4 0 0 (ud_Q D G z N (po_i Qf) below args s) a0 0 [(0, .ref (z + 71)), (1, .int x1)] []
  refine ux_iconst C (v := -1) (by decide) dX12_sureAt_0 ?_
  refine ux_istore_n C rfl (by decide) rfl dX12_sureAt_1 ?_
  refine ux_iconst C (v := 0) (by decide) dX12_sureAt_2 ?_
  refine ux_istore_n C rfl (by decide) rfl dX12_sureAt_3 ?_
  refine ux_pick [2, 3, 1, 0] rfl ?_
  refine LW3.elim (P := fun (x2_3 : Int32) (x3_4 : Int32) (a_5 : ud_St) => ud_X D G z N p l e (ud_rm 1 0 0) s m args below meth c 4 0 0 (ud_Q D G z N (po_i Qf) below args s) a_5 4 [(0, .ref (z + 71)), (1, .int x1), (2, .int x2_3), (3, .int x3_4)] []) hw ?_
  intro x2_3 x3_4 a_5 K_1 hw ih_2
  refine ux_iload_n C 3 rfl rfl dX12_sureAt_4 ?_
  refine ux_aload_n C 0 rfl rfl dX12_sureAt_5 ?_
  refine gf_12_34 C dX12_sureAt_6 ?_
  refine ux_iconst C (v := 2) (by decide) dX12_sureAt_9 ?_
  obtain ⟨hi_16, hw⟩ := hw
  refine ux_iald C (uc_78 C.2.2.2.2.2) hi_16 dX12_sureAt_10 ?_
  refine ux_icmp_ge C (tgt := 61) (by decide) dX12_sureAt_11 (fun hc_15 => ?_) (fun hc_15 => ?_)
  · replace hw := hw.1 hc_15
    refine ux_iload_n C 2 rfl rfl dX12_sureAt_61 ?_
    exact ux_iret C ⟨_, rfl, hw⟩ dX12_sureAt_62
  · replace hw := hw.2 hc_15
    refine ux_aload_n C 0 rfl rfl dX12_sureAt_14 ?_
    refine gf_12_71 C dX12_sureAt_15 ?_
    refine ux_iload_n C 3 rfl rfl dX12_sureAt_18 ?_
    obtain ⟨hi_14, hw⟩ := hw
    refine ux_zald C (uc_90 C.2.2.2.2.2) hi_14 dX12_sureAt_19 ?_
    refine ux_if_ne C (tgt := 26) (by decide) dX12_sureAt_20 (fun hc_13 => ?_) (fun hc_13 => ?_)
    · replace hw := hw.2 hc_13
      refine ux_aload_n C 0 rfl rfl dX12_sureAt_26 ?_
      refine ux_iload_n C 3 rfl rfl dX12_sureAt_27 ?_
      refine cs_12_259 C  (c_Model_figures hN  hw) (by decide) (by decide) (Nat.le_of_ble_eq_true rfl) dX12_sureAt_28 (po_v.k fun a_7 hw => ?_)
      refine ux_iload_n C 2 rfl rfl dX12_sureAt_31 ?_
      refine ux_iconst C (v := -1) (by decide) dX12_sureAt_32 ?_
      refine ux_icmp_eq C (tgt := 48) (by decide) dX12_sureAt_33 (fun hc_12 => ?_) (fun hc_12 => ?_)
      · replace hw := hw.1 hc_12
        refine ux_aload_n C 0 rfl rfl dX12_sureAt_48 ?_
        refine gf_12_50 C dX12_sureAt_49 ?_
        refine ux_iload_n C 1 rfl rfl dX12_sureAt_52 ?_
        obtain ⟨hi_8, hw⟩ := hw
        refine ux_iald C (uc_83 C.2.2.2.2.2) hi_8 dX12_sureAt_53 ?_
        refine ux_istore_n C rfl (by decide) rfl dX12_sureAt_54 ?_
        refine ux_iinc C 3 rfl rfl (by decide) rfl dX12_sureAt_55 ?_
        refine ux_goto C (tgt := 4) (by decide) dX12_sureAt_58 ?_
        exact ux_pick [2, 3, 1, 0] rfl (ih_2 _ _ _ hw)
      · replace hw := hw.2 hc_12
        refine ux_iload_n C 2 rfl rfl dX12_sureAt_36 ?_
        refine ux_aload_n C 0 rfl rfl dX12_sureAt_37 ?_
        refine gf_12_50 C dX12_sureAt_38 ?_
        refine ux_iload_n C 1 rfl rfl dX12_sureAt_41 ?_
        obtain ⟨hi_11, hw⟩ := hw
        refine ux_iald C (uc_83 C.2.2.2.2.2) hi_11 dX12_sureAt_42 ?_
        refine ux_icmp_eq C (tgt := 48) (by decide) dX12_sureAt_43 (fun hc_10 => ?_) (fun hc_10 => ?_)
        · replace hw := hw.1 hc_10
          refine ux_aload_n C 0 rfl rfl dX12_sureAt_48 ?_
          refine gf_12_50 C dX12_sureAt_49 ?_
          refine ux_iload_n C 1 rfl rfl dX12_sureAt_52 ?_
          obtain ⟨hi_9, hw⟩ := hw
          refine ux_iald C (uc_83 C.2.2.2.2.2) hi_9 dX12_sureAt_53 ?_
          refine ux_istore_n C rfl (by decide) rfl dX12_sureAt_54 ?_
          refine ux_iinc C 3 rfl rfl (by decide) rfl dX12_sureAt_55 ?_
          refine ux_goto C (tgt := 4) (by decide) dX12_sureAt_58 ?_
          exact ux_pick [2, 3, 1, 0] rfl (ih_2 _ _ _ hw)
        · replace hw := hw.2 hc_10
          refine ux_iconst C (v := -1) (by decide) dX12_sureAt_46 ?_
          exact ux_iret C ⟨_, rfl, hw⟩ dX12_sureAt_47
    · replace hw := hw.1 hc_13
      refine ux_goto C (tgt := 55) (by decide) dX12_sureAt_23 ?_
      refine ux_iinc C 3 rfl rfl (by decide) rfl dX12_sureAt_55 ?_
      refine ux_goto C (tgt := 4) (by decide) dX12_sureAt_58 ?_
      exact ux_pick [1, 2, 3, 0] rfl (ih_2 _ _ _ hw)
set_option maxHeartbeats 2000000 in
set_option maxRecDepth 4000 in
theorem c_Model_told {l : Launch} {D : va_G} {G : Nat → Nat} {z N : Nat} (hN : 92 ≤ N) {a0 : ud_St} {x1 : Int32}  {Qf : Int32 → ud_St → Prop} (hw : w_Model_told a0 x1 Qf) : ud_M l D G z N yX12_told cX12_told 2 (some Jvm.ClassFile.FieldType.int) 1 [.ref (z + 71), .int x1] a0 (po_i Qf) := by
  unfold w_Model_told at hw
  refine ud_M_of hN (by decide) (Nat.le_of_ble_eq_true rfl) ?_
  intro p e s m args below meth c C
  have C : ud_C D G z N p s m args meth c cX12_told 2 RX12 (some Jvm.ClassFile.FieldType.int) := C
  show ud_X D G z N p l e (ud_rm 1 0 0) s m args below meth c 2 0 0 (ud_Q D G z N (po_i Qf) below args s) a0 0 [(0, .ref (z + 71)), (1, .int x1)] []
  refine ux_aload_n C 0 rfl rfl dX12_told_0 ?_
  refine ux_iconst C (v := 0) (by decide) dX12_told_1 ?_
  refine pf_12_77 C dX12_told_2 ?_
  refine ux_iload_n C 1 rfl rfl dX12_told_5 ?_
  refine ux_i2l C dX12_told_6 ?_
  refine ux_lconst C (v := 0) (by decide) dX12_told_7 ?_
  refine ux_aload_n C 0 rfl rfl dX12_told_8 ?_
  refine gf_12_34 C dX12_told_9 ?_
  refine ux_iconst C (v := 5) (by decide) dX12_told_12 ?_
  obtain ⟨hi_5, hw⟩ := hw
  refine ux_iald C (uc_78 C.2.2.2.2.2) hi_5 dX12_told_13 ?_
  refine ux_iconst C (v := 1) (by decide) dX12_told_14 ?_
  refine ux_isub C dX12_told_15 ?_
  refine ux_i2l C dX12_told_16 ?_
  refine cs_12_82 C  (c_Model_in hN  hw) (by decide) (by decide) (Nat.le_of_ble_eq_true rfl) dX12_told_17 (po_ip.k fun r_1 hw => ?_)
  refine ux_if_eq C (tgt := 32) (by decide) dX12_told_20 (fun hc_4 => ?_) (fun hc_4 => ?_)
  · replace hw := hw.1 hc_4
    refine ux_iconst C (v := -1) (by decide) dX12_told_32 ?_
    exact ux_iret C ⟨_, rfl, hw⟩ dX12_told_33
  · replace hw := hw.2 hc_4
    refine ux_aload_n C 0 rfl rfl dX12_told_23 ?_
    refine gf_12_43 C dX12_told_24 ?_
    refine ux_iload_n C 1 rfl rfl dX12_told_27 ?_
    obtain ⟨hi_3, hw⟩ := hw
    refine ux_iald C (uc_81 C.2.2.2.2.2) hi_3 dX12_told_28 ?_
    refine ux_goto C (tgt := 33) (by decide) dX12_told_29 ?_
    exact ux_iret C ⟨_, rfl, hw⟩ dX12_told_33
set_option maxHeartbeats 2000000 in
set_option maxRecDepth 4000 in
theorem c_Crowd_goOnce {l : Launch} {D : va_G} {G : Nat → Nat} {z N : Nat} (hN : 92 ≤ N) {a0 : ud_St}   {Qf : ud_St → Prop} (hw : w_Crowd_goOnce a0  Qf) : ud_M l D G z N yX2_goOnce cX2_goOnce 6 (none : Option Jvm.ClassFile.FieldType) 2 [.ref (z + 45), .ref (z + 36)] a0 (po_v Qf) := by
  unfold w_Crowd_goOnce at hw
  refine ud_M_of hN (by decide) (Nat.le_of_ble_eq_true rfl) ?_
  intro p e s m args below meth c C
  have C : ud_C D G z N p s m args meth c cX2_goOnce 6 RX2 (none : Option Jvm.ClassFile.FieldType) := C
  show ud_X D G z N p l e (ud_rm 2 0 0) s m args below meth c 6 0 0 (ud_Q D G z N (po_v Qf) below args s) a0 0 [(0, .ref (z + 45)), (1, .ref (z + 36))] []
  refine ux_aload_n C 0 rfl rfl dX2_goOnce_0 ?_
  refine gf_2_25 C dX2_goOnce_1 ?_
  refine ux_istore_n C rfl (by decide) rfl dX2_goOnce_4 ?_
  refine ux_iconst C (v := 0) (by decide) dX2_goOnce_5 ?_
  refine ux_istore_n C rfl (by decide) rfl dX2_goOnce_6 ?_
  refine ux_aload_n C 2 rfl rfl dX2_goOnce_7 ?_
  refine ux_iconst C (v := 0) (by decide) dX2_goOnce_8 ?_
  refine pf_2_25 C dX2_goOnce_9 ?_
  refine ux_aload_n C 2 rfl rfl dX2_goOnce_12 ?_
  refine ux_dup C rfl dX2_goOnce_13 ?_
  refine gf_2_32 C dX2_goOnce_14 ?_
  refine ux_iconst C (v := 1) (by decide) dX2_goOnce_17 ?_
  refine ux_iadd C dX2_goOnce_18 ?_
  refine pf_2_32 C dX2_goOnce_19 ?_
  refine ux_iconst C (v := 0) (by decide) dX2_goOnce_22 ?_
  refine ux_istore C (by decide) rfl dX2_goOnce_23 ?_
  refine ux_pick [3, 4, 2, 1, 0] rfl ?_
  refine LW3.elim (P := fun (x3_3 : Int32) (x4_4 : Int32) (a_5 : ud_St) => ud_X D G z N p l e (ud_rm 2 0 0) s m args below meth c 6 0 0 (ud_Q D G z N (po_v Qf) below args s) a_5 25 [(0, .ref (z + 45)), (1, .ref (z + 36)), (2, .int (a0.1 45 5)), (3, .int x3_3), (4, .int x4_4)] []) hw ?_
  intro x3_3 x4_4 a_5 K_1 hw ih_2
  refine ux_iload C 4 rfl dX2_goOnce_25 ?_
  refine ux_iload_n C 2 rfl rfl dX2_goOnce_27 ?_
  refine ux_icmp_ge C (tgt := 84) (by decide) dX2_goOnce_28 (fun hc_18 => ?_) (fun hc_18 => ?_)
  · replace hw := hw.1 hc_18
    refine ux_aload_n C 0 rfl rfl dX2_goOnce_84 ?_
    refine ux_iload_n C 3 rfl rfl dX2_goOnce_85 ?_
    refine ux_iload_n C 2 rfl rfl dX2_goOnce_86 ?_
    refine ux_icmp_ne C (tgt := 94) (by decide) dX2_goOnce_87 (fun hc_6 => ?_) (fun hc_6 => ?_)
    · replace hw := hw.2 hc_6
      refine ux_iconst C (v := 0) (by decide) dX2_goOnce_94 ?_
      refine pf_2_28 C (Or.inl rfl) dX2_goOnce_95 ?_
      exact ux_vret C ⟨rfl, hw⟩ dX2_goOnce_98
    · replace hw := hw.1 hc_6
      refine ux_iconst C (v := 1) (by decide) dX2_goOnce_90 ?_
      refine ux_goto C (tgt := 95) (by decide) dX2_goOnce_91 ?_
      refine pf_2_28 C (Or.inr rfl) dX2_goOnce_95 ?_
      exact ux_vret C ⟨rfl, hw⟩ dX2_goOnce_98
  · replace hw := hw.2 hc_18
    refine ux_aload_n C 1 rfl rfl dX2_goOnce_31 ?_
    refine ux_aload_n C 0 rfl rfl dX2_goOnce_32 ?_
    refine gf_2_9 C dX2_goOnce_33 ?_
    refine ux_iload C 4 rfl dX2_goOnce_36 ?_
    refine cs_2_43 C  (c_Cells_at hN (uc_46 C.2.2.2.2.2) hw) (by decide) (by decide) (Nat.le_of_ble_eq_true rfl) dX2_goOnce_38 (po_ip.k fun r_7 hw => ?_)
    refine cs_2_77 C  (c_Paths_nextOf hN  hw) (by decide) (by decide) (Nat.le_of_ble_eq_true rfl) dX2_goOnce_41 (po_ip.k fun r_9 hw => ?_)
    refine ux_istore C (by decide) rfl dX2_goOnce_44 ?_
    refine ux_iload_n C 4 rfl rfl dX2_goOnce_46 ?_
    refine ux_aload_n C 1 rfl rfl dX2_goOnce_47 ?_
    refine gf_2_15 C dX2_goOnce_48 ?_
    refine ux_iload C 0 rfl dX2_goOnce_51 ?_
    refine cs_2_43 C  (c_Cells_at hN (uc_47 C.2.2.2.2.2) hw) (by decide) (by decide) (Nat.le_of_ble_eq_true rfl) dX2_goOnce_53 (po_ip.k fun r_11 hw => ?_)
    refine ux_aload_n C 1 rfl rfl dX2_goOnce_56 ?_
    refine gf_2_32 C dX2_goOnce_57 ?_
    refine ux_iconst C (v := 1) (by decide) dX2_goOnce_60 ?_
    refine ux_isub C dX2_goOnce_61 ?_
    refine ux_icmp_ne C (tgt := 69) (by decide) dX2_goOnce_62 (fun hc_17 => ?_) (fun hc_17 => ?_)
    · replace hw := hw.2 hc_17
      refine ux_iconst C (v := 0) (by decide) dX2_goOnce_69 ?_
      refine ux_iadd C dX2_goOnce_70 ?_
      refine ux_istore_n C rfl (by decide) rfl dX2_goOnce_71 ?_
      refine ux_aload_n C 2 rfl rfl dX2_goOnce_72 ?_
      refine ux_iload C 1 rfl dX2_goOnce_73 ?_
      refine cs_2_49 C  (c_Crowd_admit hN  hw) (by decide) (by decide) (Nat.le_of_ble_eq_true rfl) dX2_goOnce_75 (po_v.k fun a_14 hw => ?_)
      refine ux_iinc C 5 rfl rfl (by decide) rfl dX2_goOnce_78 ?_
      refine ux_goto C (tgt := 25) (by decide) dX2_goOnce_81 ?_
      exact ux_pick [3, 4, 5, 1, 0] rfl (ih_2 _ _ _ hw)
    · replace hw := hw.1 hc_17
      refine ux_iconst C (v := 1) (by decide) dX2_goOnce_65 ?_
      refine ux_goto C (tgt := 70) (by decide) dX2_goOnce_66 ?_
      refine ux_iadd C dX2_goOnce_70 ?_
      refine ux_istore_n C rfl (by decide) rfl dX2_goOnce_71 ?_
      refine ux_aload_n C 2 rfl rfl dX2_goOnce_72 ?_
      refine ux_iload C 1 rfl dX2_goOnce_73 ?_
      refine cs_2_49 C  (c_Crowd_admit hN  hw) (by decide) (by decide) (Nat.le_of_ble_eq_true rfl) dX2_goOnce_75 (po_v.k fun a_16 hw => ?_)
      refine ux_iinc C 5 rfl rfl (by decide) rfl dX2_goOnce_78 ?_
      refine ux_goto C (tgt := 25) (by decide) dX2_goOnce_81 ?_
      exact ux_pick [3, 4, 5, 1, 0] rfl (ih_2 _ _ _ hw)
set_option maxHeartbeats 2000000 in
set_option maxRecDepth 4000 in
theorem c_Crowd_greatestOfOneRest {l : Launch} {D : va_G} {G : Nat → Nat} {z N : Nat} (hN : 92 ≤ N) {a0 : ud_St}   {Qf : Int32 → Prop} (hw : w_Crowd_greatestOfOneRest a0  Qf) : ud_M l D G z N yX2_greatestOfOneRest cX2_greatestOfOneRest 2 (some Jvm.ClassFile.FieldType.int) 2 [.ref (z + 45)] a0 (po_ip a0 Qf) := by
  unfold w_Crowd_greatestOfOneRest at hw
  refine ud_M_of hN (by decide) (Nat.le_of_ble_eq_true rfl) ?_
  intro p e s m args below meth c C
  have C : ud_C D G z N p s m args meth c cX2_greatestOfOneRest 2 RX2 (some Jvm.ClassFile.FieldType.int) := C
  show ud_X D G z N p l e (ud_rm 2 0 0) s m args below meth c 2 0 0 (ud_Q D G z N (po_ip a0 Qf) below args s) a0 0 [(0, .ref (z + 45))] []
  refine ux_aload_n C 0 rfl rfl dX2_greatestOfOneRest_0 ?_
  refine gf_2_25 C dX2_greatestOfOneRest_1 ?_
  refine ux_if_ne C (tgt := 9) (by decide) dX2_greatestOfOneRest_4 (fun hc_8 => ?_) (fun hc_8 => ?_)
  · replace hw := hw.2 hc_8
    refine ux_bipush C (v := 99) (by decide) dX2_greatestOfOneRest_9 ?_
    refine ux_istore_n C rfl (by decide) rfl dX2_greatestOfOneRest_11 ?_
    refine ux_pick [1, 0] rfl ?_
    refine LW1.elim (P := fun (x1_3 : Int32) => ud_X D G z N p l e (ud_rm 2 0 0) s m args below meth c 2 0 0 (ud_Q D G z N (po_ip a0 Qf) below args s) a0 12 [(0, .ref (z + 45)), (1, .int x1_3)] []) hw ?_
    intro x1_3 K_1 hw ih_2
    refine ux_iload_n C 1 rfl rfl dX2_greatestOfOneRest_12 ?_
    refine ux_iconst C (v := 2) (by decide) dX2_greatestOfOneRest_13 ?_
    refine ux_icmp_lt C (tgt := 33) (by decide) dX2_greatestOfOneRest_14 (fun hc_7 => ?_) (fun hc_7 => ?_)
    · replace hw := hw.1 hc_7
      refine ux_iconst C (v := -1) (by decide) dX2_greatestOfOneRest_33 ?_
      exact ux_iret C ⟨_, rfl, rfl, hw⟩ dX2_greatestOfOneRest_34
    · replace hw := hw.2 hc_7
      refine ux_aload_n C 0 rfl rfl dX2_greatestOfOneRest_17 ?_
      refine ux_iload_n C 1 rfl rfl dX2_greatestOfOneRest_18 ?_
      refine cs_2_87 C  (c_Crowd_isOneRest hN  hw) (by decide) (by decide) (Nat.le_of_ble_eq_true rfl) dX2_greatestOfOneRest_19 (po_ip.k fun r_4 hw => ?_)
      refine ux_if_eq C (tgt := 27) (by decide) dX2_greatestOfOneRest_22 (fun hc_6 => ?_) (fun hc_6 => ?_)
      · replace hw := hw.1 hc_6
        refine ux_iinc C 1 rfl rfl (by decide) rfl dX2_greatestOfOneRest_27 ?_
        refine ux_goto C (tgt := 12) (by decide) dX2_greatestOfOneRest_30 ?_
        exact ux_pick [1, 0] rfl (ih_2 _ hw)
      · replace hw := hw.2 hc_6
        refine ux_iload_n C 1 rfl rfl dX2_greatestOfOneRest_25 ?_
        exact ux_iret C ⟨_, rfl, rfl, hw⟩ dX2_greatestOfOneRest_26
  · replace hw := hw.1 hc_8
    refine ux_iconst C (v := -1) (by decide) dX2_greatestOfOneRest_7 ?_
    exact ux_iret C ⟨_, rfl, rfl, hw⟩ dX2_greatestOfOneRest_8
set_option maxHeartbeats 2000000 in
set_option maxRecDepth 4000 in
theorem c_Evening_homeAt {l : Launch} {D : va_G} {G : Nat → Nat} {z N : Nat} (hN : 92 ≤ N) {a0 : ud_St} {x2 : Int32}  {Qf : Int32 → Prop} (hw : w_Evening_homeAt a0 x2 Qf) : ud_M l D G z N yX3_homeAt cX3_homeAt 3 (some Jvm.ClassFile.FieldType.int) 2 [.ref (z + 59), .ref (z + 36), .int x2] a0 (po_ip a0 Qf) := by
  unfold w_Evening_homeAt at hw
  refine ud_M_of hN (by decide) (Nat.le_of_ble_eq_true rfl) ?_
  intro p e s m args below meth c C
  have C : ud_C D G z N p s m args meth c cX3_homeAt 3 RX3 (some Jvm.ClassFile.FieldType.int) := C
  show ud_X D G z N p l e (ud_rm 2 0 0) s m args below meth c 3 0 0 (ud_Q D G z N (po_ip a0 Qf) below args s) a0 0 [(0, .ref (z + 59)), (1, .ref (z + 36)), (2, .int x2)] []
  refine ux_aload_n C 1 rfl rfl dX3_homeAt_0 ?_
  refine ux_aload_n C 0 rfl rfl dX3_homeAt_1 ?_
  refine gf_3_9 C dX3_homeAt_2 ?_
  refine ux_iload_n C 2 rfl rfl dX3_homeAt_5 ?_
  refine cs_3_37 C  (c_Cells_at hN (uc_60 C.2.2.2.2.2) hw) (by decide) (by decide) (Nat.le_of_ble_eq_true rfl) dX3_homeAt_6 (po_ip.k fun r_1 hw => ?_)
  refine cs_3_41 C  (c_Paths_homeOf hN  hw) (by decide) (by decide) (Nat.le_of_ble_eq_true rfl) dX3_homeAt_9 (po_ip.k fun r_3 hw => ?_)
  exact ux_iret C ⟨_, rfl, rfl, hw⟩ dX3_homeAt_12
set_option maxHeartbeats 2000000 in
set_option maxRecDepth 4000 in
theorem c_Evening_longestWay {l : Launch} {D : va_G} {G : Nat → Nat} {z N : Nat} (hN : 92 ≤ N) {a0 : ud_St}   {Qf : Int32 → Prop} (hw : w_Evening_longestWay a0  Qf) : ud_M l D G z N yX3_longestWay cX3_longestWay 4 (some Jvm.ClassFile.FieldType.int) 2 [.ref (z + 59), .ref (z + 36)] a0 (po_ip a0 Qf) := by
  unfold w_Evening_longestWay at hw
  refine ud_M_of hN (by decide) (Nat.le_of_ble_eq_true rfl) ?_
  intro p e s m args below meth c C
  have C : ud_C D G z N p s m args meth c cX3_longestWay 4 RX3 (some Jvm.ClassFile.FieldType.int) := C
  show ud_X D G z N p l e (ud_rm 2 0 0) s m args below meth c 4 0 0 (ud_Q D G z N (po_ip a0 Qf) below args s) a0 0 [(0, .ref (z + 59)), (1, .ref (z + 36))] []
  refine ux_iconst C (v := 0) (by decide) dX3_longestWay_0 ?_
  refine ux_istore_n C rfl (by decide) rfl dX3_longestWay_1 ?_
  refine ux_iconst C (v := 0) (by decide) dX3_longestWay_2 ?_
  refine ux_istore_n C rfl (by decide) rfl dX3_longestWay_3 ?_
  refine ux_pick [2, 3, 1, 0] rfl ?_
  refine LW2.elim (P := fun (x2_3 : Int32) (x3_4 : Int32) => ud_X D G z N p l e (ud_rm 2 0 0) s m args below meth c 4 0 0 (ud_Q D G z N (po_ip a0 Qf) below args s) a0 4 [(0, .ref (z + 59)), (1, .ref (z + 36)), (2, .int x2_3), (3, .int x3_4)] []) hw ?_
  intro x2_3 x3_4 K_1 hw ih_2
  refine ux_iload_n C 3 rfl rfl dX3_longestWay_4 ?_
  refine ux_aload_n C 0 rfl rfl dX3_longestWay_5 ?_
  refine gf_3_15 C dX3_longestWay_6 ?_
  refine ux_icmp_ge C (tgt := 35) (by decide) dX3_longestWay_9 (fun hc_9 => ?_) (fun hc_9 => ?_)
  · replace hw := hw.1 hc_9
    refine ux_iload_n C 2 rfl rfl dX3_longestWay_35 ?_
    exact ux_iret C ⟨_, rfl, rfl, hw⟩ dX3_longestWay_36
  · replace hw := hw.2 hc_9
    refine ux_iload_n C 2 rfl rfl dX3_longestWay_12 ?_
    refine ux_aload_n C 1 rfl rfl dX3_longestWay_13 ?_
    refine ux_aload_n C 0 rfl rfl dX3_longestWay_14 ?_
    refine gf_3_9 C dX3_longestWay_15 ?_
    refine ux_iload_n C 3 rfl rfl dX3_longestWay_18 ?_
    refine cs_3_37 C  (c_Cells_at hN (uc_60 C.2.2.2.2.2) hw) (by decide) (by decide) (Nat.le_of_ble_eq_true rfl) dX3_longestWay_19 (po_ip.k fun r_5 hw => ?_)
    refine cs_3_55 C  (c_Paths_tailOf hN  hw) (by decide) (by decide) (Nat.le_of_ble_eq_true rfl) dX3_longestWay_22 (po_ip.k fun r_7 hw => ?_)
    refine ux_mmax C mw_1218 mw_878 mw_130 mw_879 (by decide) (Nat.le_of_ble_eq_true rfl) dX3_longestWay_25 ?_
    refine ux_istore_n C rfl (by decide) rfl dX3_longestWay_28 ?_
    refine ux_iinc C 3 rfl rfl (by decide) rfl dX3_longestWay_29 ?_
    refine ux_goto C (tgt := 4) (by decide) dX3_longestWay_32 ?_
    exact ux_pick [2, 3, 1, 0] rfl (ih_2 _ _ hw)
set_option maxHeartbeats 2000000 in
set_option maxRecDepth 4000 in
theorem c_Figures_figureOf {l : Launch} {D : va_G} {G : Nat → Nat} {z N : Nat} (hN : 92 ≤ N) {a0 : ud_St} {x1 : Int32} {x2 : Int32}  {Qf : Int32 → Prop} (hw : w_Figures_figureOf a0 x1 x2 Qf) : ud_M l D G z N yX4_figureOf cX4_figureOf 3 (some Jvm.ClassFile.FieldType.int) 2 [.ref (z + 26), .int x1, .int x2] a0 (po_ip a0 Qf) := by
  unfold w_Figures_figureOf at hw
  refine ud_M_of hN (by decide) (Nat.le_of_ble_eq_true rfl) ?_
  intro p e s m args below meth c C
  have C : ud_C D G z N p s m args meth c cX4_figureOf 3 RX4 (some Jvm.ClassFile.FieldType.int) := C
  show ud_X D G z N p l e (ud_rm 2 0 0) s m args below meth c 3 0 0 (ud_Q D G z N (po_ip a0 Qf) below args s) a0 0 [(0, .ref (z + 26)), (1, .int x1), (2, .int x2)] []
  refine ux_iload_n C 1 rfl rfl dX4_figureOf_0 ?_
  refine ux_aload_n C 0 rfl rfl dX4_figureOf_1 ?_
  refine ux_aload_n C 0 rfl rfl dX4_figureOf_2 ?_
  refine gf_4_43 C dX4_figureOf_3 ?_
  refine ux_iconst C (v := 1) (by decide) dX4_figureOf_6 ?_
  refine ux_isub C dX4_figureOf_7 ?_
  refine ux_iload_n C 2 rfl rfl dX4_figureOf_8 ?_
  refine ux_isub C dX4_figureOf_9 ?_
  refine cs_4_70 C  (c_Figures_power hN  hw) (by decide) (by decide) (Nat.le_of_ble_eq_true rfl) dX4_figureOf_10 (po_ip.k fun r_1 hw => ?_)
  refine cs_4_84 C  (c_Cells_part hN  hw) (by decide) (by decide) (Nat.le_of_ble_eq_true rfl) dX4_figureOf_13 (po_ip.k fun r_3 hw => ?_)
  refine ux_aload_n C 0 rfl rfl dX4_figureOf_16 ?_
  refine gf_4_39 C dX4_figureOf_17 ?_
  refine cs_4_63 C  (c_Cells_over hN  hw) (by decide) (by decide) (Nat.le_of_ble_eq_true rfl) dX4_figureOf_20 (po_ip.k fun r_5 hw => ?_)
  exact ux_iret C ⟨_, rfl, rfl, hw⟩ dX4_figureOf_23
set_option maxHeartbeats 2000000 in
set_option maxRecDepth 4000 in
theorem c_Figures_without {l : Launch} {D : va_G} {G : Nat → Nat} {z N : Nat} (hN : 92 ≤ N) {a0 : ud_St} {x1 : Int32} {x2 : Int32}  {Qf : Int32 → Prop} (hw : w_Figures_without a0 x1 x2 Qf) : ud_M l D G z N yX4_without cX4_without 4 (some Jvm.ClassFile.FieldType.int) 2 [.ref (z + 26), .int x1, .int x2] a0 (po_ip a0 Qf) := by
  unfold w_Figures_without at hw
  refine ud_M_of hN (by decide) (Nat.le_of_ble_eq_true rfl) ?_
  intro p e s m args below meth c C
  have C : ud_C D G z N p s m args meth c cX4_without 4 RX4 (some Jvm.ClassFile.FieldType.int) := C
  show ud_X D G z N p l e (ud_rm 2 0 0) s m args below meth c 4 0 0 (ud_Q D G z N (po_ip a0 Qf) below args s) a0 0 [(0, .ref (z + 26)), (1, .int x1), (2, .int x2)] []
  refine ux_aload_n C 0 rfl rfl dX4_without_0 ?_
  refine ux_aload_n C 0 rfl rfl dX4_without_1 ?_
  refine gf_4_43 C dX4_without_2 ?_
  refine ux_iconst C (v := 1) (by decide) dX4_without_5 ?_
  refine ux_isub C dX4_without_6 ?_
  refine ux_iload_n C 2 rfl rfl dX4_without_7 ?_
  refine ux_isub C dX4_without_8 ?_
  refine cs_4_70 C  (c_Figures_power hN  hw) (by decide) (by decide) (Nat.le_of_ble_eq_true rfl) dX4_without_9 (po_ip.k fun r_1 hw => ?_)
  refine ux_istore_n C rfl (by decide) rfl dX4_without_12 ?_
  refine ux_iload_n C 2 rfl rfl dX4_without_13 ?_
  refine ux_aload_n C 1 rfl rfl dX4_without_14 ?_
  refine ux_aload_n C 1 rfl rfl dX4_without_15 ?_
  refine gf_4_43 C dX4_without_16 ?_
  refine ux_iload_n C 3 rfl rfl dX4_without_19 ?_
  refine ux_isub C dX4_without_20 ?_
  refine cs_4_70 C  (c_Figures_power hN  hw) (by decide) (by decide) (Nat.le_of_ble_eq_true rfl) dX4_without_21 (po_ip.k fun r_3 hw => ?_)
  refine cs_4_84 C  (c_Cells_part hN  hw) (by decide) (by decide) (Nat.le_of_ble_eq_true rfl) dX4_without_24 (po_ip.k fun r_5 hw => ?_)
  refine ux_iload_n C 0 rfl rfl dX4_without_27 ?_
  refine ux_imul C dX4_without_28 ?_
  refine ux_iload_n C 2 rfl rfl dX4_without_29 ?_
  refine ux_iload_n C 0 rfl rfl dX4_without_30 ?_
  refine cs_4_63 C  (c_Cells_over hN  hw) (by decide) (by decide) (Nat.le_of_ble_eq_true rfl) dX4_without_31 (po_ip.k fun r_7 hw => ?_)
  refine ux_iadd C dX4_without_34 ?_
  exact ux_iret C ⟨_, rfl, rfl, hw⟩ dX4_without_35
set_option maxHeartbeats 2000000 in
set_option maxRecDepth 4000 in
theorem c_Figures_countOfKind {l : Launch} {D : va_G} {G : Nat → Nat} {z N : Nat} (hN : 92 ≤ N) {a0 : ud_St} {x1 : Int32}  {Qf : Int32 → Prop} (hw : w_Figures_countOfKind a0 x1 Qf) : ud_M l D G z N yX4_countOfKind cX4_countOfKind 5 (some Jvm.ClassFile.FieldType.int) 2 [.ref (z + 26), .int x1] a0 (po_ip a0 Qf) := by
  unfold w_Figures_countOfKind at hw
  refine ud_M_of hN (by decide) (Nat.le_of_ble_eq_true rfl) ?_
  intro p e s m args below meth c C
  have C : ud_C D G z N p s m args meth c cX4_countOfKind 5 RX4 (some Jvm.ClassFile.FieldType.int) := C
  show ud_X D G z N p l e (ud_rm 2 0 0) s m args below meth c 5 0 0 (ud_Q D G z N (po_ip a0 Qf) below args s) a0 0 [(0, .ref (z + 26)), (1, .int x1)] []
  refine ux_aload_n C 0 rfl rfl dX4_countOfKind_0 ?_
  refine ux_iload_n C 1 rfl rfl dX4_countOfKind_1 ?_
  refine cs_4_95 C  (c_Figures_leastOfKind hN  hw) (by decide) (by decide) (Nat.le_of_ble_eq_true rfl) dX4_countOfKind_2 (po_ip.k fun r_1 hw => ?_)
  refine ux_istore_n C rfl (by decide) rfl dX4_countOfKind_5 ?_
  refine ux_iconst C (v := 0) (by decide) dX4_countOfKind_6 ?_
  refine ux_istore_n C rfl (by decide) rfl dX4_countOfKind_7 ?_
  refine ux_iconst C (v := 0) (by decide) dX4_countOfKind_8 ?_
  refine ux_istore C (by decide) rfl dX4_countOfKind_9 ?_
  refine ux_pick [3, 2, 1, 0] rfl ?_
  refine LW2.elim (P := fun (x3_5 : Int32) (x4_6 : Int32) => ud_X D G z N p l e (ud_rm 2 0 0) s m args below meth c 5 0 0 (ud_Q D G z N (po_ip a0 Qf) below args s) a0 11 [(0, .ref (z + 26)), (2, .int r_1), (3, .int x3_5), (4, .int x4_6)] []) hw ?_
  intro x3_5 x4_6 K_3 hw ih_4
  refine ux_iload C 3 rfl dX4_countOfKind_11 ?_
  refine ux_aload_n C 0 rfl rfl dX4_countOfKind_13 ?_
  refine gf_4_46 C dX4_countOfKind_14 ?_
  refine ux_icmp_ge C (tgt := 44) (by decide) dX4_countOfKind_17 (fun hc_10 => ?_) (fun hc_10 => ?_)
  · replace hw := hw.1 hc_10
    refine ux_iload_n C 2 rfl rfl dX4_countOfKind_44 ?_
    exact ux_iret C ⟨_, rfl, rfl, hw⟩ dX4_countOfKind_45
  · replace hw := hw.2 hc_10
    refine ux_iload_n C 2 rfl rfl dX4_countOfKind_20 ?_
    refine ux_aload_n C 0 rfl rfl dX4_countOfKind_21 ?_
    refine ux_iload C 3 rfl dX4_countOfKind_22 ?_
    refine cs_4_95 C  (c_Figures_leastOfKind hN  hw) (by decide) (by decide) (Nat.le_of_ble_eq_true rfl) dX4_countOfKind_24 (po_ip.k fun r_7 hw => ?_)
    refine ux_iload_n C 1 rfl rfl dX4_countOfKind_27 ?_
    refine ux_icmp_ne C (tgt := 35) (by decide) dX4_countOfKind_28 (fun hc_9 => ?_) (fun hc_9 => ?_)
    · replace hw := hw.2 hc_9
      refine ux_iconst C (v := 0) (by decide) dX4_countOfKind_35 ?_
      refine ux_iadd C dX4_countOfKind_36 ?_
      refine ux_istore_n C rfl (by decide) rfl dX4_countOfKind_37 ?_
      refine ux_iinc C 3 rfl rfl (by decide) rfl dX4_countOfKind_38 ?_
      refine ux_goto C (tgt := 11) (by decide) dX4_countOfKind_41 ?_
      exact ux_pick [2, 3, 1, 0] rfl (ih_4 _ _ hw)
    · replace hw := hw.1 hc_9
      refine ux_iconst C (v := 1) (by decide) dX4_countOfKind_31 ?_
      refine ux_goto C (tgt := 36) (by decide) dX4_countOfKind_32 ?_
      refine ux_iadd C dX4_countOfKind_36 ?_
      refine ux_istore_n C rfl (by decide) rfl dX4_countOfKind_37 ?_
      refine ux_iinc C 3 rfl rfl (by decide) rfl dX4_countOfKind_38 ?_
      refine ux_goto C (tgt := 11) (by decide) dX4_countOfKind_41 ?_
      exact ux_pick [2, 3, 1, 0] rfl (ih_4 _ _ hw)
set_option maxHeartbeats 2000000 in
set_option maxRecDepth 4000 in
theorem c_Figures_countKinds {l : Launch} {D : va_G} {G : Nat → Nat} {z N : Nat} (hN : 92 ≤ N) {a0 : ud_St}   {Qf : Int32 → Prop} (hw : w_Figures_countKinds a0  Qf) : ud_M l D G z N yX4_countKinds cX4_countKinds 3 (some Jvm.ClassFile.FieldType.int) 2 [.ref (z + 26)] a0 (po_ip a0 Qf) := by
  unfold w_Figures_countKinds at hw
  refine ud_M_of hN (by decide) (Nat.le_of_ble_eq_true rfl) ?_
  intro p e s m args below meth c C
  have C : ud_C D G z N p s m args meth c cX4_countKinds 3 RX4 (some Jvm.ClassFile.FieldType.int) := C
  show ud_X D G z N p l e (ud_rm 2 0 0) s m args below meth c 3 0 0 (ud_Q D G z N (po_ip a0 Qf) below args s) a0 0 [(0, .ref (z + 26))] []
  refine ux_iconst C (v := 0) (by decide) dX4_countKinds_0 ?_
  refine ux_istore_n C rfl (by decide) rfl dX4_countKinds_1 ?_
  refine ux_iconst C (v := 0) (by decide) dX4_countKinds_2 ?_
  refine ux_istore_n C rfl (by decide) rfl dX4_countKinds_3 ?_
  refine ux_pick [2, 1, 0] rfl ?_
  refine LW2.elim (P := fun (x1_3 : Int32) (x2_4 : Int32) => ud_X D G z N p l e (ud_rm 2 0 0) s m args below meth c 3 0 0 (ud_Q D G z N (po_ip a0 Qf) below args s) a0 4 [(0, .ref (z + 26)), (1, .int x1_3), (2, .int x2_4)] []) hw ?_
  intro x1_3 x2_4 K_1 hw ih_2
  refine ux_iload_n C 2 rfl rfl dX4_countKinds_4 ?_
  refine ux_aload_n C 0 rfl rfl dX4_countKinds_5 ?_
  refine gf_4_46 C dX4_countKinds_6 ?_
  refine ux_icmp_ge C (tgt := 35) (by decide) dX4_countKinds_9 (fun hc_8 => ?_) (fun hc_8 => ?_)
  · replace hw := hw.1 hc_8
    refine ux_iload_n C 1 rfl rfl dX4_countKinds_35 ?_
    exact ux_iret C ⟨_, rfl, rfl, hw⟩ dX4_countKinds_36
  · replace hw := hw.2 hc_8
    refine ux_iload_n C 1 rfl rfl dX4_countKinds_12 ?_
    refine ux_aload_n C 0 rfl rfl dX4_countKinds_13 ?_
    refine ux_iload_n C 2 rfl rfl dX4_countKinds_14 ?_
    refine cs_4_95 C  (c_Figures_leastOfKind hN  hw) (by decide) (by decide) (Nat.le_of_ble_eq_true rfl) dX4_countKinds_15 (po_ip.k fun r_5 hw => ?_)
    refine ux_iload_n C 2 rfl rfl dX4_countKinds_18 ?_
    refine ux_icmp_ne C (tgt := 26) (by decide) dX4_countKinds_19 (fun hc_7 => ?_) (fun hc_7 => ?_)
    · replace hw := hw.2 hc_7
      refine ux_iconst C (v := 0) (by decide) dX4_countKinds_26 ?_
      refine ux_iadd C dX4_countKinds_27 ?_
      refine ux_istore_n C rfl (by decide) rfl dX4_countKinds_28 ?_
      refine ux_iinc C 2 rfl rfl (by decide) rfl dX4_countKinds_29 ?_
      refine ux_goto C (tgt := 4) (by decide) dX4_countKinds_32 ?_
      exact ux_pick [2, 1, 0] rfl (ih_2 _ _ hw)
    · replace hw := hw.1 hc_7
      refine ux_iconst C (v := 1) (by decide) dX4_countKinds_22 ?_
      refine ux_goto C (tgt := 27) (by decide) dX4_countKinds_23 ?_
      refine ux_iadd C dX4_countKinds_27 ?_
      refine ux_istore_n C rfl (by decide) rfl dX4_countKinds_28 ?_
      refine ux_iinc C 2 rfl rfl (by decide) rfl dX4_countKinds_29 ?_
      refine ux_goto C (tgt := 4) (by decide) dX4_countKinds_32 ?_
      exact ux_pick [2, 1, 0] rfl (ih_2 _ _ hw)
set_option maxHeartbeats 2000000 in
set_option maxRecDepth 4000 in
theorem c_Paths_peel_j94 {D : va_G} {G : Nat → Nat} {z N : Nat} {p : Program} {l : Launch} {e : Env} {s : State} {m : MethodId} {args : Array Value} {below : List Frame} {meth : Method} {c : Code} (hN : 92 ≤ N) {a0 : ud_St} {b_94 : ud_St} {y1_94 : Int32} {y2_94 : Int32}  {Qf : Int32 → ud_St → Prop} (C : ud_C D G z N p s m args meth c cX5_peel 4 RX5 (some Jvm.ClassFile.FieldType.int))  (hw : w_Paths_peel_j94 a0 b_94 y1_94 y2_94 Qf) : ud_X D G z N p l e (ud_rm 2 0 0) s m args below meth c 4 0 0 (ud_Q D G z N (po_i Qf) below args s) b_94 94 [(0, .ref (z + 36)), (1, .int y1_94), (2, .int y2_94)] [] := by
  unfold w_Paths_peel_j94 at hw
  refine ux_pick [0, 1, 2] rfl ?_
  refine LW3.elim (P := fun (x1_16 : Int32) (x2_17 : Int32) (a_18 : ud_St) => ud_X D G z N p l e (ud_rm 2 0 0) s m args below meth c 4 0 0 (ud_Q D G z N (po_i Qf) below args s) a_18 94 [(0, .ref (z + 36)), (1, .int x1_16), (2, .int x2_17)] []) hw ?_
  intro x1_16 x2_17 a_18 K_14 hw ih_15
  refine ux_iload_n C 2 rfl rfl dX5_peel_94 ?_
  refine ux_iload_n C 1 rfl rfl dX5_peel_95 ?_
  refine ux_icmp_ge C (tgt := 155) (by decide) dX5_peel_96 (fun hc_31 => ?_) (fun hc_31 => ?_)
  · replace hw := hw.1 hc_31
    refine ux_iload_n C 1 rfl rfl dX5_peel_155 ?_
    exact ux_iret C ⟨_, rfl, hw⟩ dX5_peel_156
  · replace hw := hw.2 hc_31
    refine ux_iload_n C 2 rfl rfl dX5_peel_99 ?_
    refine ux_aload_n C 0 rfl rfl dX5_peel_100 ?_
    refine gf_5_53 C dX5_peel_101 ?_
    refine ux_icmp_ge C (tgt := 155) (by decide) dX5_peel_104 (fun hc_30 => ?_) (fun hc_30 => ?_)
    · replace hw := hw.1 hc_30
      refine ux_iload_n C 1 rfl rfl dX5_peel_155 ?_
      exact ux_iret C ⟨_, rfl, hw⟩ dX5_peel_156
    · replace hw := hw.2 hc_30
      refine ux_aload_n C 0 rfl rfl dX5_peel_107 ?_
      refine ux_aload_n C 0 rfl rfl dX5_peel_108 ?_
      refine gf_5_27 C dX5_peel_109 ?_
      refine ux_iload_n C 2 rfl rfl dX5_peel_112 ?_
      refine cs_5_88 C  (c_Cells_at hN (uc_42 C.2.2.2.2.2) hw) (by decide) (by decide) (Nat.le_of_ble_eq_true rfl) dX5_peel_113 (po_ip.k fun r_19 hw => ?_)
      refine cs_5_80 C  (c_Paths_nextOf hN  hw) (by decide) (by decide) (Nat.le_of_ble_eq_true rfl) dX5_peel_116 (po_ip.k fun r_21 hw => ?_)
      refine ux_istore_n C rfl (by decide) rfl dX5_peel_119 ?_
      refine ux_aload_n C 1 rfl rfl dX5_peel_120 ?_
      refine ux_iload_n C 0 rfl rfl dX5_peel_121 ?_
      refine ux_iconst C (v := -1) (by decide) dX5_peel_122 ?_
      refine cs_5_84 C  (c_Paths_waitMore hN  hw) (by decide) (by decide) (Nat.le_of_ble_eq_true rfl) dX5_peel_123 (po_v.k fun a_24 hw => ?_)
      refine ux_aload_n C 1 rfl rfl dX5_peel_126 ?_
      refine gf_5_24 C dX5_peel_127 ?_
      refine ux_iload_n C 0 rfl rfl dX5_peel_130 ?_
      refine cs_5_88 C  (c_Cells_at hN (uc_41 C.2.2.2.2.2) hw) (by decide) (by decide) (Nat.le_of_ble_eq_true rfl) dX5_peel_131 (po_ip.k fun r_25 hw => ?_)
      refine ux_if_ne C (tgt := 149) (by decide) dX5_peel_134 (fun hc_29 => ?_) (fun hc_29 => ?_)
      · replace hw := hw.2 hc_29
        refine ux_iinc C 3 rfl rfl (by decide) rfl dX5_peel_149 ?_
        refine ux_goto C (tgt := 94) (by decide) dX5_peel_152 ?_
        exact ux_pick [2, 3, 0] rfl (ih_15 _ _ _ hw)
      · replace hw := hw.1 hc_29
        refine ux_aload_n C 1 rfl rfl dX5_peel_137 ?_
        refine gf_5_27 C dX5_peel_138 ?_
        refine ux_iload_n C 2 rfl rfl dX5_peel_141 ?_
        refine ux_iinc C 2 rfl rfl (by decide) rfl dX5_peel_142 ?_
        refine ux_iload_n C 1 rfl rfl dX5_peel_145 ?_
        refine cs_5_63 C  (c_Cells_put hN (uc_42 C.2.2.2.2.2) hw) (by decide) (by decide) (Nat.le_of_ble_eq_true rfl) dX5_peel_146 (po_v.k fun a_28 hw => ?_)
        refine ux_iinc C 3 rfl rfl (by decide) rfl dX5_peel_149 ?_
        refine ux_goto C (tgt := 94) (by decide) dX5_peel_152 ?_
        exact ux_pick [3, 1, 0] rfl (ih_15 _ _ _ hw)
set_option maxHeartbeats 2000000 in
set_option maxRecDepth 4000 in
theorem c_Paths_peel_j55 {D : va_G} {G : Nat → Nat} {z N : Nat} {p : Program} {l : Launch} {e : Env} {s : State} {m : MethodId} {args : Array Value} {below : List Frame} {meth : Method} {c : Code} (hN : 92 ≤ N) {a0 : ud_St} {b_55 : ud_St} {y1_55 : Int32} {y2_55 : Int32}  {Qf : Int32 → ud_St → Prop} (C : ud_C D G z N p s m args meth c cX5_peel 4 RX5 (some Jvm.ClassFile.FieldType.int))  (hw : w_Paths_peel_j55 a0 b_55 y1_55 y2_55 Qf) : ud_X D G z N p l e (ud_rm 2 0 0) s m args below meth c 4 0 0 (ud_Q D G z N (po_i Qf) below args s) b_55 55 [(0, .ref (z + 36)), (1, .int y1_55), (2, .int y2_55)] [] := by
  unfold w_Paths_peel_j55 at hw
  refine ux_pick [0, 1, 2] rfl ?_
  refine LW3.elim (P := fun (x1_11 : Int32) (x2_12 : Int32) (a_13 : ud_St) => ud_X D G z N p l e (ud_rm 2 0 0) s m args below meth c 4 0 0 (ud_Q D G z N (po_i Qf) below args s) a_13 55 [(0, .ref (z + 36)), (1, .int x1_11), (2, .int x2_12)] []) hw ?_
  intro x1_11 x2_12 a_13 K_9 hw ih_10
  refine ux_iload_n C 2 rfl rfl dX5_peel_55 ?_
  refine ux_aload_n C 0 rfl rfl dX5_peel_56 ?_
  refine gf_5_53 C dX5_peel_57 ?_
  refine ux_icmp_ge C (tgt := 92) (by decide) dX5_peel_60 (fun hc_37 => ?_) (fun hc_37 => ?_)
  · replace hw := hw.1 hc_37
    refine ux_iconst C (v := 0) (by decide) dX5_peel_92 ?_
    refine ux_istore_n C rfl (by decide) rfl dX5_peel_93 ?_
    exact ux_pick [1, 2, 0] rfl (c_Paths_peel_j94 hN  C  hw)
  · replace hw := hw.2 hc_37
    refine ux_aload_n C 0 rfl rfl dX5_peel_63 ?_
    refine gf_5_24 C dX5_peel_64 ?_
    refine ux_iload_n C 2 rfl rfl dX5_peel_67 ?_
    refine cs_5_88 C  (c_Cells_at hN (uc_41 C.2.2.2.2.2) hw) (by decide) (by decide) (Nat.le_of_ble_eq_true rfl) dX5_peel_68 (po_ip.k fun r_32 hw => ?_)
    refine ux_if_ne C (tgt := 86) (by decide) dX5_peel_71 (fun hc_36 => ?_) (fun hc_36 => ?_)
    · replace hw := hw.2 hc_36
      refine ux_iinc C 2 rfl rfl (by decide) rfl dX5_peel_86 ?_
      refine ux_goto C (tgt := 55) (by decide) dX5_peel_89 ?_
      exact ux_pick [1, 2, 0] rfl (ih_10 _ _ _ hw)
    · replace hw := hw.1 hc_36
      refine ux_aload_n C 0 rfl rfl dX5_peel_74 ?_
      refine gf_5_27 C dX5_peel_75 ?_
      refine ux_iload_n C 1 rfl rfl dX5_peel_78 ?_
      refine ux_iinc C 1 rfl rfl (by decide) rfl dX5_peel_79 ?_
      refine ux_iload_n C 2 rfl rfl dX5_peel_82 ?_
      refine cs_5_63 C  (c_Cells_put hN (uc_42 C.2.2.2.2.2) hw) (by decide) (by decide) (Nat.le_of_ble_eq_true rfl) dX5_peel_83 (po_v.k fun a_35 hw => ?_)
      refine ux_iinc C 2 rfl rfl (by decide) rfl dX5_peel_86 ?_
      refine ux_goto C (tgt := 55) (by decide) dX5_peel_89 ?_
      exact ux_pick [2, 1, 0] rfl (ih_10 _ _ _ hw)
set_option maxHeartbeats 2000000 in
set_option maxRecDepth 4000 in
theorem c_Paths_peel_j27 {D : va_G} {G : Nat → Nat} {z N : Nat} {p : Program} {l : Launch} {e : Env} {s : State} {m : MethodId} {args : Array Value} {below : List Frame} {meth : Method} {c : Code} (hN : 92 ≤ N) {a0 : ud_St} {b_27 : ud_St} {y1_27 : Int32}  {Qf : Int32 → ud_St → Prop} (C : ud_C D G z N p s m args meth c cX5_peel 4 RX5 (some Jvm.ClassFile.FieldType.int))  (hw : w_Paths_peel_j27 a0 b_27 y1_27 Qf) : ud_X D G z N p l e (ud_rm 2 0 0) s m args below meth c 4 0 0 (ud_Q D G z N (po_i Qf) below args s) b_27 27 [(0, .ref (z + 36)), (1, .int y1_27)] [] := by
  unfold w_Paths_peel_j27 at hw
  refine ux_pick [0, 1] rfl ?_
  refine LW2.elim (P := fun (x1_7 : Int32) (a_8 : ud_St) => ud_X D G z N p l e (ud_rm 2 0 0) s m args below meth c 4 0 0 (ud_Q D G z N (po_i Qf) below args s) a_8 27 [(0, .ref (z + 36)), (1, .int x1_7)] []) hw ?_
  intro x1_7 a_8 K_5 hw ih_6
  refine ux_iload_n C 1 rfl rfl dX5_peel_27 ?_
  refine ux_aload_n C 0 rfl rfl dX5_peel_28 ?_
  refine gf_5_53 C dX5_peel_29 ?_
  refine ux_icmp_ge C (tgt := 51) (by decide) dX5_peel_32 (fun hc_42 => ?_) (fun hc_42 => ?_)
  · replace hw := hw.1 hc_42
    refine ux_iconst C (v := 0) (by decide) dX5_peel_51 ?_
    refine ux_istore_n C rfl (by decide) rfl dX5_peel_52 ?_
    refine ux_iconst C (v := 0) (by decide) dX5_peel_53 ?_
    refine ux_istore_n C rfl (by decide) rfl dX5_peel_54 ?_
    exact ux_pick [2, 1, 0] rfl (c_Paths_peel_j55 hN  C  hw)
  · replace hw := hw.2 hc_42
    refine ux_aload_n C 0 rfl rfl dX5_peel_35 ?_
    refine ux_aload_n C 0 rfl rfl dX5_peel_36 ?_
    refine ux_iload_n C 1 rfl rfl dX5_peel_37 ?_
    refine cs_5_80 C  (c_Paths_nextOf hN  hw) (by decide) (by decide) (Nat.le_of_ble_eq_true rfl) dX5_peel_38 (po_ip.k fun r_38 hw => ?_)
    refine ux_iconst C (v := 1) (by decide) dX5_peel_41 ?_
    refine cs_5_84 C  (c_Paths_waitMore hN  hw) (by decide) (by decide) (Nat.le_of_ble_eq_true rfl) dX5_peel_42 (po_v.k fun a_41 hw => ?_)
    refine ux_iinc C 1 rfl rfl (by decide) rfl dX5_peel_45 ?_
    refine ux_goto C (tgt := 27) (by decide) dX5_peel_48 ?_
    exact ux_pick [1, 0] rfl (ih_6 _ _ hw)
set_option maxHeartbeats 2000000 in
set_option maxRecDepth 4000 in
theorem c_Paths_peel_j2 {D : va_G} {G : Nat → Nat} {z N : Nat} {p : Program} {l : Launch} {e : Env} {s : State} {m : MethodId} {args : Array Value} {below : List Frame} {meth : Method} {c : Code} (hN : 92 ≤ N) {a0 : ud_St} {b_2 : ud_St} {y1_2 : Int32}  {Qf : Int32 → ud_St → Prop} (C : ud_C D G z N p s m args meth c cX5_peel 4 RX5 (some Jvm.ClassFile.FieldType.int))  (hw : w_Paths_peel_j2 a0 b_2 y1_2 Qf) : ud_X D G z N p l e (ud_rm 2 0 0) s m args below meth c 4 0 0 (ud_Q D G z N (po_i Qf) below args s) b_2 2 [(0, .ref (z + 36)), (1, .int y1_2)] [] := by
  unfold w_Paths_peel_j2 at hw
  refine ux_pick [0, 1] rfl ?_
  refine LW2.elim (P := fun (x1_3 : Int32) (a_4 : ud_St) => ud_X D G z N p l e (ud_rm 2 0 0) s m args below meth c 4 0 0 (ud_Q D G z N (po_i Qf) below args s) a_4 2 [(0, .ref (z + 36)), (1, .int x1_3)] []) hw ?_
  intro x1_3 a_4 K_1 hw ih_2
  refine ux_iload_n C 1 rfl rfl dX5_peel_2 ?_
  refine ux_aload_n C 0 rfl rfl dX5_peel_3 ?_
  refine gf_5_53 C dX5_peel_4 ?_
  refine ux_icmp_ge C (tgt := 25) (by decide) dX5_peel_7 (fun hc_45 => ?_) (fun hc_45 => ?_)
  · replace hw := hw.1 hc_45
    refine ux_iconst C (v := 0) (by decide) dX5_peel_25 ?_
    refine ux_istore_n C rfl (by decide) rfl dX5_peel_26 ?_
    exact ux_pick [1, 0] rfl (c_Paths_peel_j27 hN  C  hw)
  · replace hw := hw.2 hc_45
    refine ux_aload_n C 0 rfl rfl dX5_peel_10 ?_
    refine gf_5_24 C dX5_peel_11 ?_
    refine ux_iload_n C 1 rfl rfl dX5_peel_14 ?_
    refine ux_iconst C (v := 0) (by decide) dX5_peel_15 ?_
    refine cs_5_63 C  (c_Cells_put hN (uc_41 C.2.2.2.2.2) hw) (by decide) (by decide) (Nat.le_of_ble_eq_true rfl) dX5_peel_16 (po_v.k fun a_44 hw => ?_)
    refine ux_iinc C 1 rfl rfl (by decide) rfl dX5_peel_19 ?_
    refine ux_goto C (tgt := 2) (by decide) dX5_peel_22 ?_
    exact ux_pick [1, 0] rfl (ih_2 _ _ hw)
set_option maxHeartbeats 2000000 in
set_option maxRecDepth 4000 in
theorem c_Paths_peel {l : Launch} {D : va_G} {G : Nat → Nat} {z N : Nat} (hN : 92 ≤ N) {a0 : ud_St}   {Qf : Int32 → ud_St → Prop} (hw : w_Paths_peel a0  Qf) : ud_M l D G z N yX5_peel cX5_peel 4 (some Jvm.ClassFile.FieldType.int) 2 [.ref (z + 36)] a0 (po_i Qf) := by
  unfold w_Paths_peel at hw
  refine ud_M_of hN (by decide) (Nat.le_of_ble_eq_true rfl) ?_
  intro p e s m args below meth c C
  have C : ud_C D G z N p s m args meth c cX5_peel 4 RX5 (some Jvm.ClassFile.FieldType.int) := C
  show ud_X D G z N p l e (ud_rm 2 0 0) s m args below meth c 4 0 0 (ud_Q D G z N (po_i Qf) below args s) a0 0 [(0, .ref (z + 36))] []
  refine ux_iconst C (v := 0) (by decide) dX5_peel_0 ?_
  refine ux_istore_n C rfl (by decide) rfl dX5_peel_1 ?_
  exact ux_pick [1, 0] rfl (c_Paths_peel_j2 hN  C  hw)
set_option maxHeartbeats 2000000 in
set_option maxRecDepth 4000 in
theorem c_Paths_walkRound {l : Launch} {D : va_G} {G : Nat → Nat} {z N : Nat} (hN : 92 ≤ N) {a0 : ud_St} {x1 : Int32}  {Qf : Int32 → ud_St → Prop} (hw : w_Paths_walkRound a0 x1 Qf) : ud_M l D G z N yX5_walkRound cX5_walkRound 4 (some Jvm.ClassFile.FieldType.int) 2 [.ref (z + 36), .int x1] a0 (po_i Qf) := by
  unfold w_Paths_walkRound at hw
  refine ud_M_of hN (by decide) (Nat.le_of_ble_eq_true rfl) ?_
  intro p e s m args below meth c C
  have C : ud_C D G z N p s m args meth c cX5_walkRound 4 RX5 (some Jvm.ClassFile.FieldType.int) := C
  show ud_X D G z N p l e (ud_rm 2 0 0) s m args below meth c 4 0 0 (ud_Q D G z N (po_i Qf) below args s) a0 0 [(0, .ref (z + 36)), (1, .int x1)] []
  refine ux_iconst C (v := 0) (by decide) dX5_walkRound_0 ?_
  refine ux_istore_n C rfl (by decide) rfl dX5_walkRound_1 ?_
  refine ux_iload_n C 2 rfl rfl dX5_walkRound_2 ?_
  refine ux_istore_n C rfl (by decide) rfl dX5_walkRound_3 ?_
  refine ux_pick [2, 1, 0] rfl ?_
  refine LW3.elim (P := fun (x2_3 : Int32) (x3_4 : Int32) (a_5 : ud_St) => ud_X D G z N p l e (ud_rm 2 0 0) s m args below meth c 4 0 0 (ud_Q D G z N (po_i Qf) below args s) a_5 4 [(0, .ref (z + 36)), (2, .int x2_3), (3, .int x3_4)] []) hw ?_
  intro x2_3 x3_4 a_5 K_1 hw ih_2
  refine ux_iload_n C 1 rfl rfl dX5_walkRound_4 ?_
  refine ux_aload_n C 0 rfl rfl dX5_walkRound_5 ?_
  refine gf_5_53 C dX5_walkRound_6 ?_
  refine ux_icmp_ge C (tgt := 65) (by decide) dX5_walkRound_9 (fun hc_17 => ?_) (fun hc_17 => ?_)
  · replace hw := hw.1 hc_17
    refine ux_iload_n C 1 rfl rfl dX5_walkRound_65 ?_
    exact ux_iret C ⟨_, rfl, hw⟩ dX5_walkRound_66
  · replace hw := hw.2 hc_17
    refine ux_aload_n C 0 rfl rfl dX5_walkRound_12 ?_
    refine gf_5_24 C dX5_walkRound_13 ?_
    refine ux_iload_n C 2 rfl rfl dX5_walkRound_16 ?_
    refine cs_5_88 C  (c_Cells_at hN (uc_41 C.2.2.2.2.2) hw) (by decide) (by decide) (Nat.le_of_ble_eq_true rfl) dX5_walkRound_17 (po_ip.k fun r_6 hw => ?_)
    refine ux_if_le C (tgt := 65) (by decide) dX5_walkRound_20 (fun hc_16 => ?_) (fun hc_16 => ?_)
    · replace hw := hw.1 hc_16
      refine ux_iload_n C 1 rfl rfl dX5_walkRound_65 ?_
      exact ux_iret C ⟨_, rfl, hw⟩ dX5_walkRound_66
    · replace hw := hw.2 hc_16
      refine ux_aload_n C 0 rfl rfl dX5_walkRound_23 ?_
      refine gf_5_24 C dX5_walkRound_24 ?_
      refine ux_iload_n C 2 rfl rfl dX5_walkRound_27 ?_
      refine ux_iconst C (v := 0) (by decide) dX5_walkRound_28 ?_
      refine cs_5_63 C  (c_Cells_put hN (uc_41 C.2.2.2.2.2) hw) (by decide) (by decide) (Nat.le_of_ble_eq_true rfl) dX5_walkRound_29 (po_v.k fun a_9 hw => ?_)
      refine ux_aload_n C 0 rfl rfl dX5_walkRound_32 ?_
      refine gf_5_15 C dX5_walkRound_33 ?_
      refine ux_iload_n C 2 rfl rfl dX5_walkRound_36 ?_
      refine ux_iconst C (v := 0) (by decide) dX5_walkRound_37 ?_
      refine cs_5_63 C  (c_Cells_put hN (uc_38 C.2.2.2.2.2) hw) (by decide) (by decide) (Nat.le_of_ble_eq_true rfl) dX5_walkRound_38 (po_v.k fun a_11 hw => ?_)
      refine ux_aload_n C 0 rfl rfl dX5_walkRound_41 ?_
      refine gf_5_18 C dX5_walkRound_42 ?_
      refine ux_iload_n C 2 rfl rfl dX5_walkRound_45 ?_
      refine ux_aload_n C 0 rfl rfl dX5_walkRound_46 ?_
      refine gf_5_92 C dX5_walkRound_47 ?_
      refine cs_5_63 C  (c_Cells_put hN (uc_39 C.2.2.2.2.2) hw) (by decide) (by decide) (Nat.le_of_ble_eq_true rfl) dX5_walkRound_50 (po_v.k fun a_13 hw => ?_)
      refine ux_iinc C 1 rfl rfl (by decide) rfl dX5_walkRound_53 ?_
      refine ux_aload_n C 1 rfl rfl dX5_walkRound_56 ?_
      refine ux_iload_n C 2 rfl rfl dX5_walkRound_57 ?_
      refine cs_5_80 C  (c_Paths_nextOf hN  hw) (by decide) (by decide) (Nat.le_of_ble_eq_true rfl) dX5_walkRound_58 (po_ip.k fun r_14 hw => ?_)
      refine ux_istore_n C rfl (by decide) rfl dX5_walkRound_61 ?_
      refine ux_goto C (tgt := 4) (by decide) dX5_walkRound_62 ?_
      exact ux_pick [2, 1, 0] rfl (ih_2 _ _ _ hw)
set_option maxHeartbeats 2000000 in
set_option maxRecDepth 4000 in
theorem c_Paths_goBack {l : Launch} {D : va_G} {G : Nat → Nat} {z N : Nat} (hN : 92 ≤ N) {a0 : ud_St} {x1 : Int32}  {Qf : ud_St → Prop} (hw : w_Paths_goBack a0 x1 Qf) : ud_M l D G z N yX5_goBack cX5_goBack 5 (none : Option Jvm.ClassFile.FieldType) 2 [.ref (z + 36), .int x1] a0 (po_v Qf) := by
  unfold w_Paths_goBack at hw
  refine ud_M_of hN (by decide) (Nat.le_of_ble_eq_true rfl) ?_
  intro p e s m args below meth c C
  have C : ud_C D G z N p s m args meth c cX5_goBack 5 RX5 (none : Option Jvm.ClassFile.FieldType) := C
  show ud_X D G z N p l e (ud_rm 2 0 0) s m args below meth c 5 0 0 (ud_Q D G z N (po_v Qf) below args s) a0 0 [(0, .ref (z + 36)), (1, .int x1)] []
  refine ux_aload_n C 0 rfl rfl dX5_goBack_0 ?_
  refine ux_iconst C (v := 0) (by decide) dX5_goBack_1 ?_
  refine pf_5_107 C dX5_goBack_2 ?_
  refine ux_iload_n C 1 rfl rfl dX5_goBack_5 ?_
  refine ux_iconst C (v := 1) (by decide) dX5_goBack_6 ?_
  refine ux_isub C dX5_goBack_7 ?_
  refine ux_istore_n C rfl (by decide) rfl dX5_goBack_8 ?_
  refine ux_pick [1, 0] rfl ?_
  refine LW2.elim (P := fun (x2_3 : Int32) (a_4 : ud_St) => ud_X D G z N p l e (ud_rm 2 0 0) s m args below meth c 5 0 0 (ud_Q D G z N (po_v Qf) below args s) a_4 9 [(0, .ref (z + 36)), (2, .int x2_3)] []) hw ?_
  intro x2_3 a_4 K_1 hw ih_2
  refine ux_iload_n C 1 rfl rfl dX5_goBack_9 ?_
  refine ux_if_lt C (tgt := 81) (by decide) dX5_goBack_10 (fun hc_19 => ?_) (fun hc_19 => ?_)
  · replace hw := hw.1 hc_19
    exact ux_vret C ⟨rfl, hw⟩ dX5_goBack_81
  · replace hw := hw.2 hc_19
    refine ux_aload_n C 0 rfl rfl dX5_goBack_13 ?_
    refine gf_5_27 C dX5_goBack_14 ?_
    refine ux_iload_n C 1 rfl rfl dX5_goBack_17 ?_
    refine cs_5_88 C  (c_Cells_at hN (uc_42 C.2.2.2.2.2) hw) (by decide) (by decide) (Nat.le_of_ble_eq_true rfl) dX5_goBack_18 (po_ip.k fun r_5 hw => ?_)
    refine ux_istore_n C rfl (by decide) rfl dX5_goBack_21 ?_
    refine ux_aload_n C 1 rfl rfl dX5_goBack_22 ?_
    refine ux_aload_n C 1 rfl rfl dX5_goBack_23 ?_
    refine ux_iload_n C 0 rfl rfl dX5_goBack_24 ?_
    refine cs_5_80 C  (c_Paths_nextOf hN  hw) (by decide) (by decide) (Nat.le_of_ble_eq_true rfl) dX5_goBack_25 (po_ip.k fun r_7 hw => ?_)
    refine cs_5_110 C  (c_Paths_tailOf hN  hw) (by decide) (by decide) (Nat.le_of_ble_eq_true rfl) dX5_goBack_28 (po_ip.k fun r_9 hw => ?_)
    refine ux_iconst C (v := 1) (by decide) dX5_goBack_31 ?_
    refine ux_iadd C dX5_goBack_32 ?_
    refine ux_istore C (by decide) rfl dX5_goBack_33 ?_
    refine ux_aload_n C 2 rfl rfl dX5_goBack_35 ?_
    refine gf_5_15 C dX5_goBack_36 ?_
    refine ux_iload_n C 1 rfl rfl dX5_goBack_39 ?_
    refine ux_iload C 0 rfl dX5_goBack_40 ?_
    refine cs_5_63 C  (c_Cells_put hN (uc_38 C.2.2.2.2.2) hw) (by decide) (by decide) (Nat.le_of_ble_eq_true rfl) dX5_goBack_42 (po_v.k fun a_12 hw => ?_)
    refine ux_aload_n C 2 rfl rfl dX5_goBack_45 ?_
    refine gf_5_18 C dX5_goBack_46 ?_
    refine ux_iload_n C 1 rfl rfl dX5_goBack_49 ?_
    refine ux_aload_n C 2 rfl rfl dX5_goBack_50 ?_
    refine ux_aload_n C 2 rfl rfl dX5_goBack_51 ?_
    refine ux_iload_n C 1 rfl rfl dX5_goBack_52 ?_
    refine cs_5_80 C  (c_Paths_nextOf hN  hw) (by decide) (by decide) (Nat.le_of_ble_eq_true rfl) dX5_goBack_53 (po_ip.k fun r_13 hw => ?_)
    refine cs_5_113 C  (c_Paths_homeOf hN  hw) (by decide) (by decide) (Nat.le_of_ble_eq_true rfl) dX5_goBack_56 (po_ip.k fun r_15 hw => ?_)
    refine cs_5_63 C  (c_Cells_put hN (uc_39 C.2.2.2.2.2) hw) (by decide) (by decide) (Nat.le_of_ble_eq_true rfl) dX5_goBack_59 (po_v.k fun a_18 hw => ?_)
    refine ux_aload_n C 2 rfl rfl dX5_goBack_62 ?_
    refine ux_aload_n C 2 rfl rfl dX5_goBack_63 ?_
    refine gf_5_107 C dX5_goBack_64 ?_
    refine ux_iload C 0 rfl dX5_goBack_67 ?_
    refine ux_mmax C mw_877 mw_878 mw_130 mw_879 (by decide) (Nat.le_of_ble_eq_true rfl) dX5_goBack_69 ?_
    refine pf_5_107 C dX5_goBack_72 ?_
    refine ux_iinc C 3 rfl rfl (by decide) rfl dX5_goBack_75 ?_
    refine ux_goto C (tgt := 9) (by decide) dX5_goBack_78 ?_
    exact ux_pick [3, 0] rfl (ih_2 _ _ hw)
set_option maxHeartbeats 2000000 in
set_option maxRecDepth 4000 in
theorem c_Paths_listInto_j89 {D : va_G} {G : Nat → Nat} {z N : Nat} {p : Program} {l : Launch} {e : Env} {s : State} {m : MethodId} {args : Array Value} {below : List Frame} {meth : Method} {c : Code} (hN : 92 ≤ N) {a0 : ud_St} {b_89 : ud_St} {y1_89 : Int32}  {Qf : ud_St → Prop} (C : ud_C D G z N p s m args meth c cX5_listInto 2 RX5 (none : Option Jvm.ClassFile.FieldType))  (hw : w_Paths_listInto_j89 a0 b_89 y1_89 Qf) : ud_X D G z N p l e (ud_rm 2 0 0) s m args below meth c 2 0 0 (ud_Q D G z N (po_v Qf) below args s) b_89 89 [(0, .ref (z + 36)), (1, .int y1_89)] [] := by
  unfold w_Paths_listInto_j89 at hw
  refine ux_pick [0, 1] rfl ?_
  refine LW2.elim (P := fun (x1_15 : Int32) (a_16 : ud_St) => ud_X D G z N p l e (ud_rm 2 0 0) s m args below meth c 2 0 0 (ud_Q D G z N (po_v Qf) below args s) a_16 89 [(0, .ref (z + 36)), (1, .int x1_15)] []) hw ?_
  intro x1_15 a_16 K_13 hw ih_14
  refine ux_iload_n C 1 rfl rfl dX5_listInto_89 ?_
  refine ux_if_lt C (tgt := 129) (by decide) dX5_listInto_90 (fun hc_27 => ?_) (fun hc_27 => ?_)
  · replace hw := hw.1 hc_27
    exact ux_vret C ⟨rfl, hw⟩ dX5_listInto_129
  · replace hw := hw.2 hc_27
    refine ux_aload_n C 0 rfl rfl dX5_listInto_93 ?_
    refine ux_aload_n C 0 rfl rfl dX5_listInto_94 ?_
    refine ux_iload_n C 1 rfl rfl dX5_listInto_95 ?_
    refine cs_5_80 C  (c_Paths_nextOf hN  hw) (by decide) (by decide) (Nat.le_of_ble_eq_true rfl) dX5_listInto_96 (po_ip.k fun r_17 hw => ?_)
    refine ux_iconst C (v := -1) (by decide) dX5_listInto_99 ?_
    refine cs_5_122 C  (c_Paths_startMore hN  hw) (by decide) (by decide) (Nat.le_of_ble_eq_true rfl) dX5_listInto_100 (po_v.k fun a_20 hw => ?_)
    refine ux_aload_n C 0 rfl rfl dX5_listInto_103 ?_
    refine gf_5_33 C dX5_listInto_104 ?_
    refine ux_aload_n C 0 rfl rfl dX5_listInto_107 ?_
    refine gf_5_30 C dX5_listInto_108 ?_
    refine ux_aload_n C 0 rfl rfl dX5_listInto_111 ?_
    refine ux_iload_n C 1 rfl rfl dX5_listInto_112 ?_
    refine cs_5_80 C  (c_Paths_nextOf hN  hw) (by decide) (by decide) (Nat.le_of_ble_eq_true rfl) dX5_listInto_113 (po_ip.k fun r_21 hw => ?_)
    refine cs_5_88 C  (c_Cells_at hN (uc_43 C.2.2.2.2.2) hw) (by decide) (by decide) (Nat.le_of_ble_eq_true rfl) dX5_listInto_116 (po_ip.k fun r_23 hw => ?_)
    refine ux_iload_n C 1 rfl rfl dX5_listInto_119 ?_
    refine cs_5_63 C  (c_Cells_put hN (uc_44 C.2.2.2.2.2) hw) (by decide) (by decide) (Nat.le_of_ble_eq_true rfl) dX5_listInto_120 (po_v.k fun a_26 hw => ?_)
    refine ux_iinc C 1 rfl rfl (by decide) rfl dX5_listInto_123 ?_
    refine ux_goto C (tgt := 89) (by decide) dX5_listInto_126 ?_
    exact ux_pick [1, 0] rfl (ih_14 _ _ hw)
set_option maxHeartbeats 2000000 in
set_option maxRecDepth 4000 in
theorem c_Paths_listInto_j53 {D : va_G} {G : Nat → Nat} {z N : Nat} {p : Program} {l : Launch} {e : Env} {s : State} {m : MethodId} {args : Array Value} {below : List Frame} {meth : Method} {c : Code} (hN : 92 ≤ N) {a0 : ud_St} {b_53 : ud_St} {y1_53 : Int32}  {Qf : ud_St → Prop} (C : ud_C D G z N p s m args meth c cX5_listInto 2 RX5 (none : Option Jvm.ClassFile.FieldType))  (hw : w_Paths_listInto_j53 a0 b_53 y1_53 Qf) : ud_X D G z N p l e (ud_rm 2 0 0) s m args below meth c 2 0 0 (ud_Q D G z N (po_v Qf) below args s) b_53 53 [(0, .ref (z + 36)), (1, .int y1_53)] [] := by
  unfold w_Paths_listInto_j53 at hw
  refine ux_pick [0, 1] rfl ?_
  refine LW2.elim (P := fun (x1_11 : Int32) (a_12 : ud_St) => ud_X D G z N p l e (ud_rm 2 0 0) s m args below meth c 2 0 0 (ud_Q D G z N (po_v Qf) below args s) a_12 53 [(0, .ref (z + 36)), (1, .int x1_11)] []) hw ?_
  intro x1_11 a_12 K_9 hw ih_10
  refine ux_iload_n C 1 rfl rfl dX5_listInto_53 ?_
  refine ux_aload_n C 0 rfl rfl dX5_listInto_54 ?_
  refine gf_5_53 C dX5_listInto_55 ?_
  refine ux_icmp_gt C (tgt := 82) (by decide) dX5_listInto_58 (fun hc_32 => ?_) (fun hc_32 => ?_)
  · replace hw := hw.1 hc_32
    refine ux_aload_n C 0 rfl rfl dX5_listInto_82 ?_
    refine gf_5_53 C dX5_listInto_83 ?_
    refine ux_iconst C (v := 1) (by decide) dX5_listInto_86 ?_
    refine ux_isub C dX5_listInto_87 ?_
    refine ux_istore_n C rfl (by decide) rfl dX5_listInto_88 ?_
    exact ux_pick [1, 0] rfl (c_Paths_listInto_j89 hN  C  hw)
  · replace hw := hw.2 hc_32
    refine ux_aload_n C 0 rfl rfl dX5_listInto_61 ?_
    refine ux_iload_n C 1 rfl rfl dX5_listInto_62 ?_
    refine ux_aload_n C 0 rfl rfl dX5_listInto_63 ?_
    refine gf_5_30 C dX5_listInto_64 ?_
    refine ux_iload_n C 1 rfl rfl dX5_listInto_67 ?_
    refine ux_iconst C (v := 1) (by decide) dX5_listInto_68 ?_
    refine ux_isub C dX5_listInto_69 ?_
    refine cs_5_88 C  (c_Cells_at hN (uc_43 C.2.2.2.2.2) hw) (by decide) (by decide) (Nat.le_of_ble_eq_true rfl) dX5_listInto_70 (po_ip.k fun r_28 hw => ?_)
    refine cs_5_122 C  (c_Paths_startMore hN  hw) (by decide) (by decide) (Nat.le_of_ble_eq_true rfl) dX5_listInto_73 (po_v.k fun a_31 hw => ?_)
    refine ux_iinc C 1 rfl rfl (by decide) rfl dX5_listInto_76 ?_
    refine ux_goto C (tgt := 53) (by decide) dX5_listInto_79 ?_
    exact ux_pick [1, 0] rfl (ih_10 _ _ hw)
set_option maxHeartbeats 2000000 in
set_option maxRecDepth 4000 in
theorem c_Paths_listInto_j27 {D : va_G} {G : Nat → Nat} {z N : Nat} {p : Program} {l : Launch} {e : Env} {s : State} {m : MethodId} {args : Array Value} {below : List Frame} {meth : Method} {c : Code} (hN : 92 ≤ N) {a0 : ud_St} {b_27 : ud_St} {y1_27 : Int32}  {Qf : ud_St → Prop} (C : ud_C D G z N p s m args meth c cX5_listInto 2 RX5 (none : Option Jvm.ClassFile.FieldType))  (hw : w_Paths_listInto_j27 a0 b_27 y1_27 Qf) : ud_X D G z N p l e (ud_rm 2 0 0) s m args below meth c 2 0 0 (ud_Q D G z N (po_v Qf) below args s) b_27 27 [(0, .ref (z + 36)), (1, .int y1_27)] [] := by
  unfold w_Paths_listInto_j27 at hw
  refine ux_pick [0, 1] rfl ?_
  refine LW2.elim (P := fun (x1_7 : Int32) (a_8 : ud_St) => ud_X D G z N p l e (ud_rm 2 0 0) s m args below meth c 2 0 0 (ud_Q D G z N (po_v Qf) below args s) a_8 27 [(0, .ref (z + 36)), (1, .int x1_7)] []) hw ?_
  intro x1_7 a_8 K_5 hw ih_6
  refine ux_iload_n C 1 rfl rfl dX5_listInto_27 ?_
  refine ux_aload_n C 0 rfl rfl dX5_listInto_28 ?_
  refine gf_5_53 C dX5_listInto_29 ?_
  refine ux_icmp_ge C (tgt := 51) (by decide) dX5_listInto_32 (fun hc_37 => ?_) (fun hc_37 => ?_)
  · replace hw := hw.1 hc_37
    refine ux_iconst C (v := 1) (by decide) dX5_listInto_51 ?_
    refine ux_istore_n C rfl (by decide) rfl dX5_listInto_52 ?_
    exact ux_pick [1, 0] rfl (c_Paths_listInto_j53 hN  C  hw)
  · replace hw := hw.2 hc_37
    refine ux_aload_n C 0 rfl rfl dX5_listInto_35 ?_
    refine ux_aload_n C 0 rfl rfl dX5_listInto_36 ?_
    refine ux_iload_n C 1 rfl rfl dX5_listInto_37 ?_
    refine cs_5_80 C  (c_Paths_nextOf hN  hw) (by decide) (by decide) (Nat.le_of_ble_eq_true rfl) dX5_listInto_38 (po_ip.k fun r_33 hw => ?_)
    refine ux_iconst C (v := 1) (by decide) dX5_listInto_41 ?_
    refine cs_5_122 C  (c_Paths_startMore hN  hw) (by decide) (by decide) (Nat.le_of_ble_eq_true rfl) dX5_listInto_42 (po_v.k fun a_36 hw => ?_)
    refine ux_iinc C 1 rfl rfl (by decide) rfl dX5_listInto_45 ?_
    refine ux_goto C (tgt := 27) (by decide) dX5_listInto_48 ?_
    exact ux_pick [1, 0] rfl (ih_6 _ _ hw)
set_option maxHeartbeats 2000000 in
set_option maxRecDepth 4000 in
theorem c_Paths_listInto_j2 {D : va_G} {G : Nat → Nat} {z N : Nat} {p : Program} {l : Launch} {e : Env} {s : State} {m : MethodId} {args : Array Value} {below : List Frame} {meth : Method} {c : Code} (hN : 92 ≤ N) {a0 : ud_St} {b_2 : ud_St} {y1_2 : Int32}  {Qf : ud_St → Prop} (C : ud_C D G z N p s m args meth c cX5_listInto 2 RX5 (none : Option Jvm.ClassFile.FieldType))  (hw : w_Paths_listInto_j2 a0 b_2 y1_2 Qf) : ud_X D G z N p l e (ud_rm 2 0 0) s m args below meth c 2 0 0 (ud_Q D G z N (po_v Qf) below args s) b_2 2 [(0, .ref (z + 36)), (1, .int y1_2)] [] := by
  unfold w_Paths_listInto_j2 at hw
  refine ux_pick [0, 1] rfl ?_
  refine LW2.elim (P := fun (x1_3 : Int32) (a_4 : ud_St) => ud_X D G z N p l e (ud_rm 2 0 0) s m args below meth c 2 0 0 (ud_Q D G z N (po_v Qf) below args s) a_4 2 [(0, .ref (z + 36)), (1, .int x1_3)] []) hw ?_
  intro x1_3 a_4 K_1 hw ih_2
  refine ux_iload_n C 1 rfl rfl dX5_listInto_2 ?_
  refine ux_aload_n C 0 rfl rfl dX5_listInto_3 ?_
  refine gf_5_53 C dX5_listInto_4 ?_
  refine ux_icmp_gt C (tgt := 25) (by decide) dX5_listInto_7 (fun hc_40 => ?_) (fun hc_40 => ?_)
  · replace hw := hw.1 hc_40
    refine ux_iconst C (v := 0) (by decide) dX5_listInto_25 ?_
    refine ux_istore_n C rfl (by decide) rfl dX5_listInto_26 ?_
    exact ux_pick [1, 0] rfl (c_Paths_listInto_j27 hN  C  hw)
  · replace hw := hw.2 hc_40
    refine ux_aload_n C 0 rfl rfl dX5_listInto_10 ?_
    refine gf_5_30 C dX5_listInto_11 ?_
    refine ux_iload_n C 1 rfl rfl dX5_listInto_14 ?_
    refine ux_iconst C (v := 0) (by decide) dX5_listInto_15 ?_
    refine cs_5_63 C  (c_Cells_put hN (uc_43 C.2.2.2.2.2) hw) (by decide) (by decide) (Nat.le_of_ble_eq_true rfl) dX5_listInto_16 (po_v.k fun a_39 hw => ?_)
    refine ux_iinc C 1 rfl rfl (by decide) rfl dX5_listInto_19 ?_
    refine ux_goto C (tgt := 2) (by decide) dX5_listInto_22 ?_
    exact ux_pick [1, 0] rfl (ih_2 _ _ hw)
set_option maxHeartbeats 2000000 in
set_option maxRecDepth 4000 in
theorem c_Paths_listInto {l : Launch} {D : va_G} {G : Nat → Nat} {z N : Nat} (hN : 92 ≤ N) {a0 : ud_St}   {Qf : ud_St → Prop} (hw : w_Paths_listInto a0  Qf) : ud_M l D G z N yX5_listInto cX5_listInto 2 (none : Option Jvm.ClassFile.FieldType) 2 [.ref (z + 36)] a0 (po_v Qf) := by
  unfold w_Paths_listInto at hw
  refine ud_M_of hN (by decide) (Nat.le_of_ble_eq_true rfl) ?_
  intro p e s m args below meth c C
  have C : ud_C D G z N p s m args meth c cX5_listInto 2 RX5 (none : Option Jvm.ClassFile.FieldType) := C
  show ud_X D G z N p l e (ud_rm 2 0 0) s m args below meth c 2 0 0 (ud_Q D G z N (po_v Qf) below args s) a0 0 [(0, .ref (z + 36))] []
  refine ux_iconst C (v := 0) (by decide) dX5_listInto_0 ?_
  refine ux_istore_n C rfl (by decide) rfl dX5_listInto_1 ?_
  exact ux_pick [1, 0] rfl (c_Paths_listInto_j2 hN  C  hw)
set_option maxHeartbeats 2000000 in
set_option maxRecDepth 4000 in
theorem c_Paths_lengthOf {l : Launch} {D : va_G} {G : Nat → Nat} {z N : Nat} (hN : 92 ≤ N) {a0 : ud_St} {x1 : Int32}  {Qf : Int32 → Prop} (hw : w_Paths_lengthOf a0 x1 Qf) : ud_M l D G z N yX5_lengthOf cX5_lengthOf 5 (some Jvm.ClassFile.FieldType.int) 2 [.ref (z + 36), .int x1] a0 (po_ip a0 Qf) := by
  unfold w_Paths_lengthOf at hw
  refine ud_M_of hN (by decide) (Nat.le_of_ble_eq_true rfl) ?_
  intro p e s m args below meth c C
  have C : ud_C D G z N p s m args meth c cX5_lengthOf 5 RX5 (some Jvm.ClassFile.FieldType.int) := C
  show ud_X D G z N p l e (ud_rm 2 0 0) s m args below meth c 5 0 0 (ud_Q D G z N (po_ip a0 Qf) below args s) a0 0 [(0, .ref (z + 36)), (1, .int x1)] []
  refine ux_aload_n C 0 rfl rfl dX5_lengthOf_0 ?_
  refine ux_iload_n C 1 rfl rfl dX5_lengthOf_1 ?_
  refine cs_5_125 C  (c_Paths_leastOf hN  hw) (by decide) (by decide) (Nat.le_of_ble_eq_true rfl) dX5_lengthOf_2 (po_ip.k fun r_1 hw => ?_)
  refine ux_istore_n C rfl (by decide) rfl dX5_lengthOf_5 ?_
  refine ux_iconst C (v := 1) (by decide) dX5_lengthOf_6 ?_
  refine ux_istore_n C rfl (by decide) rfl dX5_lengthOf_7 ?_
  refine ux_aload_n C 2 rfl rfl dX5_lengthOf_8 ?_
  refine ux_iload_n C 1 rfl rfl dX5_lengthOf_9 ?_
  refine cs_5_80 C  (c_Paths_nextOf hN  hw) (by decide) (by decide) (Nat.le_of_ble_eq_true rfl) dX5_lengthOf_10 (po_ip.k fun r_3 hw => ?_)
  refine ux_istore C (by decide) rfl dX5_lengthOf_13 ?_
  refine ux_pick [3, 2, 1, 0] rfl ?_
  refine LW2.elim (P := fun (x3_7 : Int32) (x4_8 : Int32) => ud_X D G z N p l e (ud_rm 2 0 0) s m args below meth c 5 0 0 (ud_Q D G z N (po_ip a0 Qf) below args s) a0 15 [(0, .ref (z + 36)), (2, .int r_1), (3, .int x3_7), (4, .int x4_8)] []) hw ?_
  intro x3_7 x4_8 K_5 hw ih_6
  refine ux_iload_n C 2 rfl rfl dX5_lengthOf_15 ?_
  refine ux_aload_n C 0 rfl rfl dX5_lengthOf_16 ?_
  refine gf_5_53 C dX5_lengthOf_17 ?_
  refine ux_icmp_ge C (tgt := 43) (by decide) dX5_lengthOf_20 (fun hc_12 => ?_) (fun hc_12 => ?_)
  · replace hw := hw.1 hc_12
    refine ux_iload_n C 2 rfl rfl dX5_lengthOf_43 ?_
    exact ux_iret C ⟨_, rfl, rfl, hw⟩ dX5_lengthOf_44
  · replace hw := hw.2 hc_12
    refine ux_iload C 3 rfl dX5_lengthOf_23 ?_
    refine ux_iload_n C 1 rfl rfl dX5_lengthOf_25 ?_
    refine ux_icmp_eq C (tgt := 43) (by decide) dX5_lengthOf_26 (fun hc_11 => ?_) (fun hc_11 => ?_)
    · replace hw := hw.1 hc_11
      refine ux_iload_n C 2 rfl rfl dX5_lengthOf_43 ?_
      exact ux_iret C ⟨_, rfl, rfl, hw⟩ dX5_lengthOf_44
    · replace hw := hw.2 hc_11
      refine ux_iinc C 2 rfl rfl (by decide) rfl dX5_lengthOf_29 ?_
      refine ux_aload_n C 1 rfl rfl dX5_lengthOf_32 ?_
      refine ux_iload C 3 rfl dX5_lengthOf_33 ?_
      refine cs_5_80 C  (c_Paths_nextOf hN  hw) (by decide) (by decide) (Nat.le_of_ble_eq_true rfl) dX5_lengthOf_35 (po_ip.k fun r_9 hw => ?_)
      refine ux_istore C (by decide) rfl dX5_lengthOf_38 ?_
      refine ux_goto C (tgt := 15) (by decide) dX5_lengthOf_40 ?_
      exact ux_pick [2, 3, 1, 0] rfl (ih_6 _ _ hw)
set_option maxHeartbeats 2000000 in
set_option maxRecDepth 4000 in
theorem c_Paths_comersTo {l : Launch} {D : va_G} {G : Nat → Nat} {z N : Nat} (hN : 92 ≤ N) {a0 : ud_St} {x1 : Int32}  {Qf : Int32 → Prop} (hw : w_Paths_comersTo a0 x1 Qf) : ud_M l D G z N yX5_comersTo cX5_comersTo 4 (some Jvm.ClassFile.FieldType.int) 2 [.ref (z + 36), .int x1] a0 (po_ip a0 Qf) := by
  unfold w_Paths_comersTo at hw
  refine ud_M_of hN (by decide) (Nat.le_of_ble_eq_true rfl) ?_
  intro p e s m args below meth c C
  have C : ud_C D G z N p s m args meth c cX5_comersTo 4 RX5 (some Jvm.ClassFile.FieldType.int) := C
  show ud_X D G z N p l e (ud_rm 2 0 0) s m args below meth c 4 0 0 (ud_Q D G z N (po_ip a0 Qf) below args s) a0 0 [(0, .ref (z + 36)), (1, .int x1)] []
  refine ux_iconst C (v := 0) (by decide) dX5_comersTo_0 ?_
  refine ux_istore_n C rfl (by decide) rfl dX5_comersTo_1 ?_
  refine ux_iconst C (v := 0) (by decide) dX5_comersTo_2 ?_
  refine ux_istore_n C rfl (by decide) rfl dX5_comersTo_3 ?_
  refine ux_pick [2, 3, 1, 0] rfl ?_
  refine LW2.elim (P := fun (x2_3 : Int32) (x3_4 : Int32) => ud_X D G z N p l e (ud_rm 2 0 0) s m args below meth c 4 0 0 (ud_Q D G z N (po_ip a0 Qf) below args s) a0 4 [(0, .ref (z + 36)), (1, .int x1), (2, .int x2_3), (3, .int x3_4)] []) hw ?_
  intro x2_3 x3_4 K_1 hw ih_2
  refine ux_iload_n C 3 rfl rfl dX5_comersTo_4 ?_
  refine ux_aload_n C 0 rfl rfl dX5_comersTo_5 ?_
  refine gf_5_53 C dX5_comersTo_6 ?_
  refine ux_icmp_ge C (tgt := 35) (by decide) dX5_comersTo_9 (fun hc_8 => ?_) (fun hc_8 => ?_)
  · replace hw := hw.1 hc_8
    refine ux_iload_n C 2 rfl rfl dX5_comersTo_35 ?_
    exact ux_iret C ⟨_, rfl, rfl, hw⟩ dX5_comersTo_36
  · replace hw := hw.2 hc_8
    refine ux_iload_n C 2 rfl rfl dX5_comersTo_12 ?_
    refine ux_aload_n C 0 rfl rfl dX5_comersTo_13 ?_
    refine ux_iload_n C 3 rfl rfl dX5_comersTo_14 ?_
    refine cs_5_113 C  (c_Paths_homeOf hN  hw) (by decide) (by decide) (Nat.le_of_ble_eq_true rfl) dX5_comersTo_15 (po_ip.k fun r_5 hw => ?_)
    refine ux_iload_n C 1 rfl rfl dX5_comersTo_18 ?_
    refine ux_icmp_ne C (tgt := 26) (by decide) dX5_comersTo_19 (fun hc_7 => ?_) (fun hc_7 => ?_)
    · replace hw := hw.2 hc_7
      refine ux_iconst C (v := 0) (by decide) dX5_comersTo_26 ?_
      refine ux_iadd C dX5_comersTo_27 ?_
      refine ux_istore_n C rfl (by decide) rfl dX5_comersTo_28 ?_
      refine ux_iinc C 3 rfl rfl (by decide) rfl dX5_comersTo_29 ?_
      refine ux_goto C (tgt := 4) (by decide) dX5_comersTo_32 ?_
      exact ux_pick [2, 3, 1, 0] rfl (ih_2 _ _ hw)
    · replace hw := hw.1 hc_7
      refine ux_iconst C (v := 1) (by decide) dX5_comersTo_22 ?_
      refine ux_goto C (tgt := 27) (by decide) dX5_comersTo_23 ?_
      refine ux_iadd C dX5_comersTo_27 ?_
      refine ux_istore_n C rfl (by decide) rfl dX5_comersTo_28 ?_
      refine ux_iinc C 3 rfl rfl (by decide) rfl dX5_comersTo_29 ?_
      refine ux_goto C (tgt := 4) (by decide) dX5_comersTo_32 ?_
      exact ux_pick [2, 3, 1, 0] rfl (ih_2 _ _ hw)
set_option maxHeartbeats 2000000 in
set_option maxRecDepth 4000 in
theorem c_Paths_mostGoesTo {l : Launch} {D : va_G} {G : Nat → Nat} {z N : Nat} (hN : 92 ≤ N) {a0 : ud_St} {x1 : Int32}  {Qf : Int32 → Prop} (hw : w_Paths_mostGoesTo a0 x1 Qf) : ud_M l D G z N yX5_mostGoesTo cX5_mostGoesTo 4 (some Jvm.ClassFile.FieldType.int) 2 [.ref (z + 36), .int x1] a0 (po_ip a0 Qf) := by
  unfold w_Paths_mostGoesTo at hw
  refine ud_M_of hN (by decide) (Nat.le_of_ble_eq_true rfl) ?_
  intro p e s m args below meth c C
  have C : ud_C D G z N p s m args meth c cX5_mostGoesTo 4 RX5 (some Jvm.ClassFile.FieldType.int) := C
  show ud_X D G z N p l e (ud_rm 2 0 0) s m args below meth c 4 0 0 (ud_Q D G z N (po_ip a0 Qf) below args s) a0 0 [(0, .ref (z + 36)), (1, .int x1)] []
  refine ux_iconst C (v := 0) (by decide) dX5_mostGoesTo_0 ?_
  refine ux_istore_n C rfl (by decide) rfl dX5_mostGoesTo_1 ?_
  refine ux_iconst C (v := 0) (by decide) dX5_mostGoesTo_2 ?_
  refine ux_istore_n C rfl (by decide) rfl dX5_mostGoesTo_3 ?_
  refine ux_pick [2, 3, 1, 0] rfl ?_
  refine LW2.elim (P := fun (x2_3 : Int32) (x3_4 : Int32) => ud_X D G z N p l e (ud_rm 2 0 0) s m args below meth c 4 0 0 (ud_Q D G z N (po_ip a0 Qf) below args s) a0 4 [(0, .ref (z + 36)), (1, .int x1), (2, .int x2_3), (3, .int x3_4)] []) hw ?_
  intro x2_3 x3_4 K_1 hw ih_2
  refine ux_iload_n C 3 rfl rfl dX5_mostGoesTo_4 ?_
  refine ux_aload_n C 0 rfl rfl dX5_mostGoesTo_5 ?_
  refine gf_5_53 C dX5_mostGoesTo_6 ?_
  refine ux_icmp_ge C (tgt := 37) (by decide) dX5_mostGoesTo_9 (fun hc_10 => ?_) (fun hc_10 => ?_)
  · replace hw := hw.1 hc_10
    refine ux_iload_n C 2 rfl rfl dX5_mostGoesTo_37 ?_
    exact ux_iret C ⟨_, rfl, rfl, hw⟩ dX5_mostGoesTo_38
  · replace hw := hw.2 hc_10
    refine ux_aload_n C 0 rfl rfl dX5_mostGoesTo_12 ?_
    refine ux_iload_n C 3 rfl rfl dX5_mostGoesTo_13 ?_
    refine cs_5_113 C  (c_Paths_homeOf hN  hw) (by decide) (by decide) (Nat.le_of_ble_eq_true rfl) dX5_mostGoesTo_14 (po_ip.k fun r_5 hw => ?_)
    refine ux_iload_n C 1 rfl rfl dX5_mostGoesTo_17 ?_
    refine ux_icmp_ne C (tgt := 31) (by decide) dX5_mostGoesTo_18 (fun hc_9 => ?_) (fun hc_9 => ?_)
    · replace hw := hw.2 hc_9
      refine ux_iinc C 3 rfl rfl (by decide) rfl dX5_mostGoesTo_31 ?_
      refine ux_goto C (tgt := 4) (by decide) dX5_mostGoesTo_34 ?_
      exact ux_pick [1, 2, 3, 0] rfl (ih_2 _ _ hw)
    · replace hw := hw.1 hc_9
      refine ux_iload_n C 2 rfl rfl dX5_mostGoesTo_21 ?_
      refine ux_aload_n C 0 rfl rfl dX5_mostGoesTo_22 ?_
      refine ux_iload_n C 3 rfl rfl dX5_mostGoesTo_23 ?_
      refine cs_5_110 C  (c_Paths_tailOf hN  hw) (by decide) (by decide) (Nat.le_of_ble_eq_true rfl) dX5_mostGoesTo_24 (po_ip.k fun r_7 hw => ?_)
      refine ux_mmax C mw_877 mw_878 mw_130 mw_879 (by decide) (Nat.le_of_ble_eq_true rfl) dX5_mostGoesTo_27 ?_
      refine ux_istore_n C rfl (by decide) rfl dX5_mostGoesTo_30 ?_
      refine ux_iinc C 3 rfl rfl (by decide) rfl dX5_mostGoesTo_31 ?_
      refine ux_goto C (tgt := 4) (by decide) dX5_mostGoesTo_34 ?_
      exact ux_pick [2, 3, 1, 0] rfl (ih_2 _ _ hw)
set_option maxHeartbeats 2000000 in
set_option maxRecDepth 4000 in
theorem c_Paths_countTaking {l : Launch} {D : va_G} {G : Nat → Nat} {z N : Nat} (hN : 92 ≤ N) {a0 : ud_St} {x1 : Int32}  {Qf : Int32 → Prop} (hw : w_Paths_countTaking a0 x1 Qf) : ud_M l D G z N yX5_countTaking cX5_countTaking 4 (some Jvm.ClassFile.FieldType.int) 2 [.ref (z + 36), .int x1] a0 (po_ip a0 Qf) := by
  unfold w_Paths_countTaking at hw
  refine ud_M_of hN (by decide) (Nat.le_of_ble_eq_true rfl) ?_
  intro p e s m args below meth c C
  have C : ud_C D G z N p s m args meth c cX5_countTaking 4 RX5 (some Jvm.ClassFile.FieldType.int) := C
  show ud_X D G z N p l e (ud_rm 2 0 0) s m args below meth c 4 0 0 (ud_Q D G z N (po_ip a0 Qf) below args s) a0 0 [(0, .ref (z + 36)), (1, .int x1)] []
  refine ux_iconst C (v := 0) (by decide) dX5_countTaking_0 ?_
  refine ux_istore_n C rfl (by decide) rfl dX5_countTaking_1 ?_
  refine ux_iconst C (v := 0) (by decide) dX5_countTaking_2 ?_
  refine ux_istore_n C rfl (by decide) rfl dX5_countTaking_3 ?_
  refine ux_pick [2, 3, 1, 0] rfl ?_
  refine LW2.elim (P := fun (x2_3 : Int32) (x3_4 : Int32) => ud_X D G z N p l e (ud_rm 2 0 0) s m args below meth c 4 0 0 (ud_Q D G z N (po_ip a0 Qf) below args s) a0 4 [(0, .ref (z + 36)), (1, .int x1), (2, .int x2_3), (3, .int x3_4)] []) hw ?_
  intro x2_3 x3_4 K_1 hw ih_2
  refine ux_iload_n C 3 rfl rfl dX5_countTaking_4 ?_
  refine ux_aload_n C 0 rfl rfl dX5_countTaking_5 ?_
  refine gf_5_53 C dX5_countTaking_6 ?_
  refine ux_icmp_ge C (tgt := 35) (by decide) dX5_countTaking_9 (fun hc_8 => ?_) (fun hc_8 => ?_)
  · replace hw := hw.1 hc_8
    refine ux_iload_n C 2 rfl rfl dX5_countTaking_35 ?_
    exact ux_iret C ⟨_, rfl, rfl, hw⟩ dX5_countTaking_36
  · replace hw := hw.2 hc_8
    refine ux_iload_n C 2 rfl rfl dX5_countTaking_12 ?_
    refine ux_aload_n C 0 rfl rfl dX5_countTaking_13 ?_
    refine ux_iload_n C 3 rfl rfl dX5_countTaking_14 ?_
    refine cs_5_110 C  (c_Paths_tailOf hN  hw) (by decide) (by decide) (Nat.le_of_ble_eq_true rfl) dX5_countTaking_15 (po_ip.k fun r_5 hw => ?_)
    refine ux_iload_n C 1 rfl rfl dX5_countTaking_18 ?_
    refine ux_icmp_ne C (tgt := 26) (by decide) dX5_countTaking_19 (fun hc_7 => ?_) (fun hc_7 => ?_)
    · replace hw := hw.2 hc_7
      refine ux_iconst C (v := 0) (by decide) dX5_countTaking_26 ?_
      refine ux_iadd C dX5_countTaking_27 ?_
      refine ux_istore_n C rfl (by decide) rfl dX5_countTaking_28 ?_
      refine ux_iinc C 3 rfl rfl (by decide) rfl dX5_countTaking_29 ?_
      refine ux_goto C (tgt := 4) (by decide) dX5_countTaking_32 ?_
      exact ux_pick [2, 3, 1, 0] rfl (ih_2 _ _ hw)
    · replace hw := hw.1 hc_7
      refine ux_iconst C (v := 1) (by decide) dX5_countTaking_22 ?_
      refine ux_goto C (tgt := 27) (by decide) dX5_countTaking_23 ?_
      refine ux_iadd C dX5_countTaking_27 ?_
      refine ux_istore_n C rfl (by decide) rfl dX5_countTaking_28 ?_
      refine ux_iinc C 3 rfl rfl (by decide) rfl dX5_countTaking_29 ?_
      refine ux_goto C (tgt := 4) (by decide) dX5_countTaking_32 ?_
      exact ux_pick [2, 3, 1, 0] rfl (ih_2 _ _ hw)
set_option maxHeartbeats 2000000 in
set_option maxRecDepth 4000 in
theorem c_Paths_leastTaking {l : Launch} {D : va_G} {G : Nat → Nat} {z N : Nat} (hN : 92 ≤ N) {a0 : ud_St} {x1 : Int32}  {Qf : Int32 → Prop} (hw : w_Paths_leastTaking a0 x1 Qf) : ud_M l D G z N yX5_leastTaking cX5_leastTaking 3 (some Jvm.ClassFile.FieldType.int) 2 [.ref (z + 36), .int x1] a0 (po_ip a0 Qf) := by
  unfold w_Paths_leastTaking at hw
  refine ud_M_of hN (by decide) (Nat.le_of_ble_eq_true rfl) ?_
  intro p e s m args below meth c C
  have C : ud_C D G z N p s m args meth c cX5_leastTaking 3 RX5 (some Jvm.ClassFile.FieldType.int) := C
  show ud_X D G z N p l e (ud_rm 2 0 0) s m args below meth c 3 0 0 (ud_Q D G z N (po_ip a0 Qf) below args s) a0 0 [(0, .ref (z + 36)), (1, .int x1)] []
  refine ux_iconst C (v := 0) (by decide) dX5_leastTaking_0 ?_
  refine ux_istore_n C rfl (by decide) rfl dX5_leastTaking_1 ?_
  refine ux_pick [1, 2, 0] rfl ?_
  refine LW1.elim (P := fun (x2_3 : Int32) => ud_X D G z N p l e (ud_rm 2 0 0) s m args below meth c 3 0 0 (ud_Q D G z N (po_ip a0 Qf) below args s) a0 2 [(0, .ref (z + 36)), (1, .int x1), (2, .int x2_3)] []) hw ?_
  intro x2_3 K_1 hw ih_2
  refine ux_iload_n C 2 rfl rfl dX5_leastTaking_2 ?_
  refine ux_aload_n C 0 rfl rfl dX5_leastTaking_3 ?_
  refine gf_5_53 C dX5_leastTaking_4 ?_
  refine ux_icmp_ge C (tgt := 27) (by decide) dX5_leastTaking_7 (fun hc_7 => ?_) (fun hc_7 => ?_)
  · replace hw := hw.1 hc_7
    refine ux_iconst C (v := -1) (by decide) dX5_leastTaking_27 ?_
    exact ux_iret C ⟨_, rfl, rfl, hw⟩ dX5_leastTaking_28
  · replace hw := hw.2 hc_7
    refine ux_aload_n C 0 rfl rfl dX5_leastTaking_10 ?_
    refine ux_iload_n C 2 rfl rfl dX5_leastTaking_11 ?_
    refine cs_5_110 C  (c_Paths_tailOf hN  hw) (by decide) (by decide) (Nat.le_of_ble_eq_true rfl) dX5_leastTaking_12 (po_ip.k fun r_4 hw => ?_)
    refine ux_iload_n C 1 rfl rfl dX5_leastTaking_15 ?_
    refine ux_icmp_ne C (tgt := 21) (by decide) dX5_leastTaking_16 (fun hc_6 => ?_) (fun hc_6 => ?_)
    · replace hw := hw.2 hc_6
      refine ux_iinc C 2 rfl rfl (by decide) rfl dX5_leastTaking_21 ?_
      refine ux_goto C (tgt := 2) (by decide) dX5_leastTaking_24 ?_
      exact ux_pick [1, 2, 0] rfl (ih_2 _ hw)
    · replace hw := hw.1 hc_6
      refine ux_iload_n C 2 rfl rfl dX5_leastTaking_19 ?_
      exact ux_iret C ⟨_, rfl, rfl, hw⟩ dX5_leastTaking_20
set_option maxHeartbeats 2000000 in
set_option maxRecDepth 4000 in
theorem c_Paths_countGardens {l : Launch} {D : va_G} {G : Nat → Nat} {z N : Nat} (hN : 92 ≤ N) {a0 : ud_St}   {Qf : Int32 → Prop} (hw : w_Paths_countGardens a0  Qf) : ud_M l D G z N yX5_countGardens cX5_countGardens 3 (some Jvm.ClassFile.FieldType.int) 2 [.ref (z + 36)] a0 (po_ip a0 Qf) := by
  unfold w_Paths_countGardens at hw
  refine ud_M_of hN (by decide) (Nat.le_of_ble_eq_true rfl) ?_
  intro p e s m args below meth c C
  have C : ud_C D G z N p s m args meth c cX5_countGardens 3 RX5 (some Jvm.ClassFile.FieldType.int) := C
  show ud_X D G z N p l e (ud_rm 2 0 0) s m args below meth c 3 0 0 (ud_Q D G z N (po_ip a0 Qf) below args s) a0 0 [(0, .ref (z + 36))] []
  refine ux_iconst C (v := 0) (by decide) dX5_countGardens_0 ?_
  refine ux_istore_n C rfl (by decide) rfl dX5_countGardens_1 ?_
  refine ux_iconst C (v := 0) (by decide) dX5_countGardens_2 ?_
  refine ux_istore_n C rfl (by decide) rfl dX5_countGardens_3 ?_
  refine ux_pick [2, 1, 0] rfl ?_
  refine LW2.elim (P := fun (x1_3 : Int32) (x2_4 : Int32) => ud_X D G z N p l e (ud_rm 2 0 0) s m args below meth c 3 0 0 (ud_Q D G z N (po_ip a0 Qf) below args s) a0 4 [(0, .ref (z + 36)), (1, .int x1_3), (2, .int x2_4)] []) hw ?_
  intro x1_3 x2_4 K_1 hw ih_2
  refine ux_iload_n C 2 rfl rfl dX5_countGardens_4 ?_
  refine ux_aload_n C 0 rfl rfl dX5_countGardens_5 ?_
  refine gf_5_53 C dX5_countGardens_6 ?_
  refine ux_icmp_ge C (tgt := 34) (by decide) dX5_countGardens_9 (fun hc_8 => ?_) (fun hc_8 => ?_)
  · replace hw := hw.1 hc_8
    refine ux_iload_n C 1 rfl rfl dX5_countGardens_34 ?_
    exact ux_iret C ⟨_, rfl, rfl, hw⟩ dX5_countGardens_35
  · replace hw := hw.2 hc_8
    refine ux_iload_n C 1 rfl rfl dX5_countGardens_12 ?_
    refine ux_aload_n C 0 rfl rfl dX5_countGardens_13 ?_
    refine ux_iload_n C 2 rfl rfl dX5_countGardens_14 ?_
    refine cs_5_134 C  (c_Paths_countInto hN  hw) (by decide) (by decide) (Nat.le_of_ble_eq_true rfl) dX5_countGardens_15 (po_ip.k fun r_5 hw => ?_)
    refine ux_if_ne C (tgt := 25) (by decide) dX5_countGardens_18 (fun hc_7 => ?_) (fun hc_7 => ?_)
    · replace hw := hw.2 hc_7
      refine ux_iconst C (v := 0) (by decide) dX5_countGardens_25 ?_
      refine ux_iadd C dX5_countGardens_26 ?_
      refine ux_istore_n C rfl (by decide) rfl dX5_countGardens_27 ?_
      refine ux_iinc C 2 rfl rfl (by decide) rfl dX5_countGardens_28 ?_
      refine ux_goto C (tgt := 4) (by decide) dX5_countGardens_31 ?_
      exact ux_pick [2, 1, 0] rfl (ih_2 _ _ hw)
    · replace hw := hw.1 hc_7
      refine ux_iconst C (v := 1) (by decide) dX5_countGardens_21 ?_
      refine ux_goto C (tgt := 26) (by decide) dX5_countGardens_22 ?_
      refine ux_iadd C dX5_countGardens_26 ?_
      refine ux_istore_n C rfl (by decide) rfl dX5_countGardens_27 ?_
      refine ux_iinc C 2 rfl rfl (by decide) rfl dX5_countGardens_28 ?_
      refine ux_goto C (tgt := 4) (by decide) dX5_countGardens_31 ?_
      exact ux_pick [2, 1, 0] rfl (ih_2 _ _ hw)
set_option maxHeartbeats 2000000 in
set_option maxRecDepth 4000 in
theorem c_Paths_gardenAt {l : Launch} {D : va_G} {G : Nat → Nat} {z N : Nat} (hN : 92 ≤ N) {a0 : ud_St} {x1 : Int32}  {Qf : Int32 → Prop} (hw : w_Paths_gardenAt a0 x1 Qf) : ud_M l D G z N yX5_gardenAt cX5_gardenAt 4 (some Jvm.ClassFile.FieldType.int) 2 [.ref (z + 36), .int x1] a0 (po_ip a0 Qf) := by
  unfold w_Paths_gardenAt at hw
  refine ud_M_of hN (by decide) (Nat.le_of_ble_eq_true rfl) ?_
  intro p e s m args below meth c C
  have C : ud_C D G z N p s m args meth c cX5_gardenAt 4 RX5 (some Jvm.ClassFile.FieldType.int) := C
  show ud_X D G z N p l e (ud_rm 2 0 0) s m args below meth c 4 0 0 (ud_Q D G z N (po_ip a0 Qf) below args s) a0 0 [(0, .ref (z + 36)), (1, .int x1)] []
  refine ux_iconst C (v := 0) (by decide) dX5_gardenAt_0 ?_
  refine ux_istore_n C rfl (by decide) rfl dX5_gardenAt_1 ?_
  refine ux_iconst C (v := 0) (by decide) dX5_gardenAt_2 ?_
  refine ux_istore_n C rfl (by decide) rfl dX5_gardenAt_3 ?_
  refine ux_pick [2, 3, 1, 0] rfl ?_
  refine LW2.elim (P := fun (x2_3 : Int32) (x3_4 : Int32) => ud_X D G z N p l e (ud_rm 2 0 0) s m args below meth c 4 0 0 (ud_Q D G z N (po_ip a0 Qf) below args s) a0 4 [(0, .ref (z + 36)), (1, .int x1), (2, .int x2_3), (3, .int x3_4)] []) hw ?_
  intro x2_3 x3_4 K_1 hw ih_2
  refine ux_iload_n C 3 rfl rfl dX5_gardenAt_4 ?_
  refine ux_aload_n C 0 rfl rfl dX5_gardenAt_5 ?_
  refine gf_5_53 C dX5_gardenAt_6 ?_
  refine ux_icmp_ge C (tgt := 36) (by decide) dX5_gardenAt_9 (fun hc_9 => ?_) (fun hc_9 => ?_)
  · replace hw := hw.1 hc_9
    refine ux_iconst C (v := -1) (by decide) dX5_gardenAt_36 ?_
    exact ux_iret C ⟨_, rfl, rfl, hw⟩ dX5_gardenAt_37
  · replace hw := hw.2 hc_9
    refine ux_aload_n C 0 rfl rfl dX5_gardenAt_12 ?_
    refine ux_iload_n C 3 rfl rfl dX5_gardenAt_13 ?_
    refine cs_5_134 C  (c_Paths_countInto hN  hw) (by decide) (by decide) (Nat.le_of_ble_eq_true rfl) dX5_gardenAt_14 (po_ip.k fun r_5 hw => ?_)
    refine ux_if_ne C (tgt := 30) (by decide) dX5_gardenAt_17 (fun hc_8 => ?_) (fun hc_8 => ?_)
    · replace hw := hw.2 hc_8
      refine ux_iinc C 3 rfl rfl (by decide) rfl dX5_gardenAt_30 ?_
      refine ux_goto C (tgt := 4) (by decide) dX5_gardenAt_33 ?_
      exact ux_pick [1, 2, 3, 0] rfl (ih_2 _ _ hw)
    · replace hw := hw.1 hc_8
      refine ux_iload_n C 2 rfl rfl dX5_gardenAt_20 ?_
      refine ux_iload_n C 1 rfl rfl dX5_gardenAt_21 ?_
      refine ux_icmp_ne C (tgt := 27) (by decide) dX5_gardenAt_22 (fun hc_7 => ?_) (fun hc_7 => ?_)
      · replace hw := hw.2 hc_7
        refine ux_iinc C 2 rfl rfl (by decide) rfl dX5_gardenAt_27 ?_
        refine ux_iinc C 3 rfl rfl (by decide) rfl dX5_gardenAt_30 ?_
        refine ux_goto C (tgt := 4) (by decide) dX5_gardenAt_33 ?_
        exact ux_pick [2, 3, 1, 0] rfl (ih_2 _ _ hw)
      · replace hw := hw.1 hc_7
        refine ux_iload_n C 3 rfl rfl dX5_gardenAt_25 ?_
        exact ux_iret C ⟨_, rfl, rfl, hw⟩ dX5_gardenAt_26
set_option maxHeartbeats 2000000 in
set_option maxRecDepth 4000 in
theorem c_Paths_queueInto {l : Launch} {D : va_G} {G : Nat → Nat} {z N : Nat} (hN : 92 ≤ N) {a0 : ud_St} {x1 : Int32} {x2 : Int32} {x3 : Int32}  {Qf : Int32 → ud_St → Prop} (hw : w_Paths_queueInto a0 x1 x2 x3 Qf) : ud_M l D G z N yX5_queueInto cX5_queueInto 6 (some Jvm.ClassFile.FieldType.int) 2 [.ref (z + 36), .int x1, .int x2, .int x3] a0 (po_i Qf) := by
  unfold w_Paths_queueInto at hw
  refine ud_M_of hN (by decide) (Nat.le_of_ble_eq_true rfl) ?_
  intro p e s m args below meth c C
  have C : ud_C D G z N p s m args meth c cX5_queueInto 6 RX5 (some Jvm.ClassFile.FieldType.int) := C
  show ud_X D G z N p l e (ud_rm 2 0 0) s m args below meth c 6 0 0 (ud_Q D G z N (po_i Qf) below args s) a0 0 [(0, .ref (z + 36)), (1, .int x1), (2, .int x2), (3, .int x3)] []
  refine ux_iload_n C 3 rfl rfl dX5_queueInto_0 ?_
  refine ux_istore C (by decide) rfl dX5_queueInto_1 ?_
  refine ux_iconst C (v := 0) (by decide) dX5_queueInto_3 ?_
  refine ux_istore C (by decide) rfl dX5_queueInto_4 ?_
  refine ux_pick [2, 3, 4, 1, 0] rfl ?_
  refine LW3.elim (P := fun (x4_3 : Int32) (x5_4 : Int32) (a_5 : ud_St) => ud_X D G z N p l e (ud_rm 2 0 0) s m args below meth c 6 0 0 (ud_Q D G z N (po_i Qf) below args s) a_5 6 [(0, .ref (z + 36)), (1, .int x1), (2, .int x2), (4, .int x4_3), (5, .int x5_4)] []) hw ?_
  intro x4_3 x5_4 a_5 K_1 hw ih_2
  refine ux_iload C 4 rfl dX5_queueInto_6 ?_
  refine ux_aload_n C 0 rfl rfl dX5_queueInto_8 ?_
  refine ux_iload_n C 1 rfl rfl dX5_queueInto_9 ?_
  refine cs_5_134 C  (c_Paths_countInto hN  hw) (by decide) (by decide) (Nat.le_of_ble_eq_true rfl) dX5_queueInto_10 (po_ip.k fun r_6 hw => ?_)
  refine ux_icmp_ge C (tgt := 52) (by decide) dX5_queueInto_13 (fun hc_15 => ?_) (fun hc_15 => ?_)
  · replace hw := hw.1 hc_15
    refine ux_iload C 3 rfl dX5_queueInto_52 ?_
    exact ux_iret C ⟨_, rfl, hw⟩ dX5_queueInto_54
  · replace hw := hw.2 hc_15
    refine ux_aload_n C 0 rfl rfl dX5_queueInto_16 ?_
    refine ux_iload_n C 1 rfl rfl dX5_queueInto_17 ?_
    refine ux_iload C 4 rfl dX5_queueInto_18 ?_
    refine cs_5_141 C  (c_Paths_into hN  hw) (by decide) (by decide) (Nat.le_of_ble_eq_true rfl) dX5_queueInto_20 (po_ip.k fun r_8 hw => ?_)
    refine ux_iload_n C 2 rfl rfl dX5_queueInto_23 ?_
    refine ux_icmp_eq C (tgt := 46) (by decide) dX5_queueInto_24 (fun hc_14 => ?_) (fun hc_14 => ?_)
    · replace hw := hw.1 hc_14
      refine ux_iinc C 4 rfl rfl (by decide) rfl dX5_queueInto_46 ?_
      refine ux_goto C (tgt := 6) (by decide) dX5_queueInto_49 ?_
      exact ux_pick [1, 2, 3, 4, 0] rfl (ih_2 _ _ _ hw)
    · replace hw := hw.2 hc_14
      refine ux_aload_n C 0 rfl rfl dX5_queueInto_27 ?_
      refine gf_5_27 C dX5_queueInto_28 ?_
      refine ux_iload C 3 rfl dX5_queueInto_31 ?_
      refine ux_iinc C 3 rfl rfl (by decide) rfl dX5_queueInto_33 ?_
      refine ux_aload_n C 1 rfl rfl dX5_queueInto_36 ?_
      refine ux_iload_n C 2 rfl rfl dX5_queueInto_37 ?_
      refine ux_iload C 4 rfl dX5_queueInto_38 ?_
      refine cs_5_141 C  (c_Paths_into hN  hw) (by decide) (by decide) (Nat.le_of_ble_eq_true rfl) dX5_queueInto_40 (po_ip.k fun r_10 hw => ?_)
      refine cs_5_63 C  (c_Cells_put hN (uc_42 C.2.2.2.2.2) hw) (by decide) (by decide) (Nat.le_of_ble_eq_true rfl) dX5_queueInto_43 (po_v.k fun a_13 hw => ?_)
      refine ux_iinc C 4 rfl rfl (by decide) rfl dX5_queueInto_46 ?_
      refine ux_goto C (tgt := 6) (by decide) dX5_queueInto_49 ?_
      exact ux_pick [2, 3, 4, 1, 0] rfl (ih_2 _ _ _ hw)
set_option maxHeartbeats 2000000 in
set_option maxRecDepth 4000 in
theorem c_Paths_goesTillSame {l : Launch} {D : va_G} {G : Nat → Nat} {z N : Nat} (hN : 92 ≤ N) {a0 : ud_St} {x1 : Int32} {x2 : Int32}  {Qf : Int32 → Prop} (hw : w_Paths_goesTillSame a0 x1 x2 Qf) : ud_M l D G z N yX5_goesTillSame cX5_goesTillSame 7 (some Jvm.ClassFile.FieldType.int) 2 [.ref (z + 36), .int x1, .int x2] a0 (po_ip a0 Qf) := by
  unfold w_Paths_goesTillSame at hw
  refine ud_M_of hN (by decide) (Nat.le_of_ble_eq_true rfl) ?_
  intro p e s m args below meth c C
  have C : ud_C D G z N p s m args meth c cX5_goesTillSame 7 RX5 (some Jvm.ClassFile.FieldType.int) := C
  show ud_X D G z N p l e (ud_rm 2 0 0) s m args below meth c 7 0 0 (ud_Q D G z N (po_ip a0 Qf) below args s) a0 0 [(0, .ref (z + 36)), (1, .int x1), (2, .int x2)] []
  refine ux_aload_n C 0 rfl rfl dX5_goesTillSame_0 ?_
  refine ux_iload_n C 1 rfl rfl dX5_goesTillSame_1 ?_
  refine cs_5_110 C  (c_Paths_tailOf hN  hw) (by decide) (by decide) (Nat.le_of_ble_eq_true rfl) dX5_goesTillSame_2 (po_ip.k fun r_1 hw => ?_)
  refine ux_aload_n C 0 rfl rfl dX5_goesTillSame_5 ?_
  refine ux_iload_n C 2 rfl rfl dX5_goesTillSame_6 ?_
  refine cs_5_110 C  (c_Paths_tailOf hN  hw) (by decide) (by decide) (Nat.le_of_ble_eq_true rfl) dX5_goesTillSame_7 (po_ip.k fun r_3 hw => ?_)
  refine ux_mmax C mw_877 mw_878 mw_130 mw_879 (by decide) (Nat.le_of_ble_eq_true rfl) dX5_goesTillSame_10 ?_
  refine ux_istore_n C rfl (by decide) rfl dX5_goesTillSame_13 ?_
  refine ux_iload_n C 2 rfl rfl dX5_goesTillSame_14 ?_
  refine ux_istore C (by decide) rfl dX5_goesTillSame_15 ?_
  refine ux_iload_n C 4 rfl rfl dX5_goesTillSame_17 ?_
  refine ux_istore C (by decide) rfl dX5_goesTillSame_18 ?_
  refine ux_iconst C (v := 0) (by decide) dX5_goesTillSame_20 ?_
  refine ux_istore C (by decide) rfl dX5_goesTillSame_21 ?_
  refine ux_pick [4, 3, 2, 1, 0] rfl ?_
  refine LW3.elim (P := fun (x4_7 : Int32) (x5_8 : Int32) (x6_9 : Int32) => ud_X D G z N p l e (ud_rm 2 0 0) s m args below meth c 7 0 0 (ud_Q D G z N (po_ip a0 Qf) below args s) a0 23 [(0, .ref (z + 36)), (3, .int (if r_1 < r_3 then r_3 else r_1)), (4, .int x4_7), (5, .int x5_8), (6, .int x6_9)] []) hw ?_
  intro x4_7 x5_8 x6_9 K_5 hw ih_6
  refine ux_iload C 4 rfl dX5_goesTillSame_23 ?_
  refine ux_iload_n C 1 rfl rfl dX5_goesTillSame_25 ?_
  refine ux_icmp_gt C (tgt := 61) (by decide) dX5_goesTillSame_26 (fun hc_15 => ?_) (fun hc_15 => ?_)
  · replace hw := hw.1 hc_15
    refine ux_iconst C (v := -1) (by decide) dX5_goesTillSame_61 ?_
    exact ux_iret C ⟨_, rfl, rfl, hw⟩ dX5_goesTillSame_62
  · replace hw := hw.2 hc_15
    refine ux_iload C 2 rfl dX5_goesTillSame_29 ?_
    refine ux_iload C 3 rfl dX5_goesTillSame_31 ?_
    refine ux_icmp_ne C (tgt := 39) (by decide) dX5_goesTillSame_33 (fun hc_14 => ?_) (fun hc_14 => ?_)
    · replace hw := hw.2 hc_14
      refine ux_aload_n C 0 rfl rfl dX5_goesTillSame_39 ?_
      refine ux_iload C 2 rfl dX5_goesTillSame_40 ?_
      refine cs_5_80 C  (c_Paths_nextOf hN  hw) (by decide) (by decide) (Nat.le_of_ble_eq_true rfl) dX5_goesTillSame_42 (po_ip.k fun r_10 hw => ?_)
      refine ux_istore C (by decide) rfl dX5_goesTillSame_45 ?_
      refine ux_aload_n C 1 rfl rfl dX5_goesTillSame_47 ?_
      refine ux_iload C 3 rfl dX5_goesTillSame_48 ?_
      refine cs_5_80 C  (c_Paths_nextOf hN  hw) (by decide) (by decide) (Nat.le_of_ble_eq_true rfl) dX5_goesTillSame_50 (po_ip.k fun r_12 hw => ?_)
      refine ux_istore C (by decide) rfl dX5_goesTillSame_53 ?_
      refine ux_iinc C 4 rfl rfl (by decide) rfl dX5_goesTillSame_55 ?_
      refine ux_goto C (tgt := 23) (by decide) dX5_goesTillSame_58 ?_
      exact ux_pick [3, 4, 2, 1, 0] rfl (ih_6 _ _ _ hw)
    · replace hw := hw.1 hc_14
      refine ux_iload C 4 rfl dX5_goesTillSame_36 ?_
      exact ux_iret C ⟨_, rfl, rfl, hw⟩ dX5_goesTillSame_38
set_option maxHeartbeats 2000000 in
set_option maxRecDepth 4000 in
theorem c_Paths_joined_j149 {D : va_G} {G : Nat → Nat} {z N : Nat} {p : Program} {l : Launch} {e : Env} {s : State} {m : MethodId} {args : Array Value} {below : List Frame} {meth : Method} {c : Code} (hN : 92 ≤ N) {a0 : ud_St} {x1 : Int32} {x2 : Int32} {x3 : Int32} {y3_149 : Int32} {y4_149 : Int32} {y6_149 : Int32} {y7_149 : Int32}  {Qf : Int32 → Prop} (C : ud_C D G z N p s m args meth c cX5_joined 11 RX5 (some Jvm.ClassFile.FieldType.int))  (hw : w_Paths_joined_j149 a0 x1 x2 x3 y3_149 y4_149 y6_149 y7_149 Qf) : ud_X D G z N p l e (ud_rm 2 0 0) s m args below meth c 11 0 0 (ud_Q D G z N (po_ip a0 Qf) below args s) a0 149 [(3, .int y3_149), (4, .int y4_149), (6, .int y6_149), (7, .int y7_149)] [] := by
  unfold w_Paths_joined_j149 at hw
  refine ux_iload_n C 0 rfl rfl dX5_joined_149 ?_
  refine ux_if_ne C (tgt := 156) (by decide) dX5_joined_150 (fun hc_13 => ?_) (fun hc_13 => ?_)
  · replace hw := hw.2 hc_13
    refine ux_iload_n C 0 rfl rfl dX5_joined_156 ?_
    refine ux_iconst C (v := 1) (by decide) dX5_joined_157 ?_
    refine ux_icmp_ne C (tgt := 166) (by decide) dX5_joined_158 (fun hc_12 => ?_) (fun hc_12 => ?_)
    · replace hw := hw.2 hc_12
      refine ux_iload C 3 rfl dX5_joined_166 ?_
      exact ux_iret C ⟨_, rfl, rfl, hw⟩ dX5_joined_168
    · replace hw := hw.1 hc_12
      refine ux_iload C 2 rfl dX5_joined_161 ?_
      refine ux_goto C (tgt := 168) (by decide) dX5_joined_163 ?_
      exact ux_iret C ⟨_, rfl, rfl, hw⟩ dX5_joined_168
  · replace hw := hw.1 hc_13
    refine ux_iload C 1 rfl dX5_joined_153 ?_
    exact ux_iret C ⟨_, rfl, rfl, hw⟩ dX5_joined_155
set_option maxHeartbeats 2000000 in
set_option maxRecDepth 4000 in
theorem c_Paths_joined_j127 {D : va_G} {G : Nat → Nat} {z N : Nat} {p : Program} {l : Launch} {e : Env} {s : State} {m : MethodId} {args : Array Value} {below : List Frame} {meth : Method} {c : Code} (hN : 92 ≤ N) {a0 : ud_St} {x1 : Int32} {x2 : Int32} {x3 : Int32} {y3_127 : Int32} {y4_127 : Int32} {y5_127 : Int32} {y6_127 : Int32} {y7_127 : Int32} {y8_127 : Int32} {y10_127 : Int32} {K_5 : Int32 → Int32 → Int32 → Int32 → Int32 → Prop}  {Qf : Int32 → Prop} (C : ud_C D G z N p s m args meth c cX5_joined 11 RX5 (some Jvm.ClassFile.FieldType.int)) (ih_6 : ∀ (v0 : Int32) (v1 : Int32) (v2 : Int32) (v3 : Int32) (v4 : Int32), K_5 v0 v1 v2 v3 v4 → ud_X D G z N p l e (ud_rm 2 0 0) s m args below meth c 11 0 0 (ud_Q D G z N (po_ip a0 Qf) below args s) a0 30 [(0, .ref (z + 36)), (3, .int y3_127), (4, .int v0), (5, .int v1), (6, .int v2), (7, .int v3), (8, .int v4)] []) (hw : w_Paths_joined_j127 a0 x1 x2 x3 y3_127 y4_127 y5_127 y6_127 y7_127 y8_127 y10_127 K_5 Qf) : ud_X D G z N p l e (ud_rm 2 0 0) s m args below meth c 11 0 0 (ud_Q D G z N (po_ip a0 Qf) below args s) a0 127 [(0, .ref (z + 36)), (3, .int y3_127), (4, .int y4_127), (5, .int y5_127), (6, .int y6_127), (7, .int y7_127), (8, .int y8_127), (10, .int y10_127)] [] := by
  unfold w_Paths_joined_j127 at hw
  refine ux_iload C 7 rfl dX5_joined_127 ?_
  refine ux_if_eq C (tgt := 143) (by decide) dX5_joined_129 (fun hc_22 => ?_) (fun hc_22 => ?_)
  · replace hw := hw.1 hc_22
    refine ux_iinc C 6 rfl rfl (by decide) rfl dX5_joined_143 ?_
    refine ux_goto C (tgt := 30) (by decide) dX5_joined_146 ?_
    exact ux_pick [1, 2, 3, 4, 5, 6, 0] rfl (ih_6 _ _ _ _ _ hw)
  · replace hw := hw.2 hc_22
    refine ux_aload_n C 0 rfl rfl dX5_joined_132 ?_
    refine ux_iload C 2 rfl dX5_joined_133 ?_
    refine cs_5_80 C  (c_Paths_nextOf hN  hw) (by decide) (by decide) (Nat.le_of_ble_eq_true rfl) dX5_joined_135 (po_ip.k fun r_20 hw => ?_)
    refine ux_istore C (by decide) rfl dX5_joined_138 ?_
    refine ux_iinc C 4 rfl rfl (by decide) rfl dX5_joined_140 ?_
    refine ux_iinc C 6 rfl rfl (by decide) rfl dX5_joined_143 ?_
    refine ux_goto C (tgt := 30) (by decide) dX5_joined_146 ?_
    exact ux_pick [3, 4, 2, 5, 1, 6, 0] rfl (ih_6 _ _ _ _ _ hw)
set_option maxHeartbeats 2000000 in
set_option maxRecDepth 4000 in
theorem c_Paths_joined_j116 {D : va_G} {G : Nat → Nat} {z N : Nat} {p : Program} {l : Launch} {e : Env} {s : State} {m : MethodId} {args : Array Value} {below : List Frame} {meth : Method} {c : Code} (hN : 92 ≤ N) {a0 : ud_St} {x1 : Int32} {x2 : Int32} {x3 : Int32} {y3_116 : Int32} {y4_116 : Int32} {y5_116 : Int32} {y6_116 : Int32} {y7_116 : Int32} {y8_116 : Int32} {y10_116 : Int32} {K_5 : Int32 → Int32 → Int32 → Int32 → Int32 → Prop}  {Qf : Int32 → Prop} (C : ud_C D G z N p s m args meth c cX5_joined 11 RX5 (some Jvm.ClassFile.FieldType.int)) (ih_6 : ∀ (v0 : Int32) (v1 : Int32) (v2 : Int32) (v3 : Int32) (v4 : Int32), K_5 v0 v1 v2 v3 v4 → ud_X D G z N p l e (ud_rm 2 0 0) s m args below meth c 11 0 0 (ud_Q D G z N (po_ip a0 Qf) below args s) a0 30 [(0, .ref (z + 36)), (3, .int y3_116), (4, .int v0), (5, .int v1), (6, .int v2), (7, .int v3), (8, .int v4)] []) (hw : w_Paths_joined_j116 a0 x1 x2 x3 y3_116 y4_116 y5_116 y6_116 y7_116 y8_116 y10_116 K_5 Qf) : ud_X D G z N p l e (ud_rm 2 0 0) s m args below meth c 11 0 0 (ud_Q D G z N (po_ip a0 Qf) below args s) a0 116 [(0, .ref (z + 36)), (3, .int y3_116), (4, .int y4_116), (5, .int y5_116), (6, .int y6_116), (7, .int y7_116), (8, .int y8_116), (10, .int y10_116)] [] := by
  unfold w_Paths_joined_j116 at hw
  refine ux_aload_n C 0 rfl rfl dX5_joined_116 ?_
  refine ux_iload C 3 rfl dX5_joined_117 ?_
  refine cs_5_80 C  (c_Paths_nextOf hN  hw) (by decide) (by decide) (Nat.le_of_ble_eq_true rfl) dX5_joined_119 (po_ip.k fun r_18 hw => ?_)
  refine ux_istore C (by decide) rfl dX5_joined_122 ?_
  refine ux_iinc C 5 rfl rfl (by decide) rfl dX5_joined_124 ?_
  exact ux_pick [2, 3, 4, 1, 5, 0, 6, 7] rfl (c_Paths_joined_j127 hN  C ih_6 hw)
set_option maxHeartbeats 2000000 in
set_option maxRecDepth 4000 in
theorem c_Paths_joined_j104 {D : va_G} {G : Nat → Nat} {z N : Nat} {p : Program} {l : Launch} {e : Env} {s : State} {m : MethodId} {args : Array Value} {below : List Frame} {meth : Method} {c : Code} (hN : 92 ≤ N) {a0 : ud_St} {x1 : Int32} {x2 : Int32} {x3 : Int32} {y3_104 : Int32} {y4_104 : Int32} {y5_104 : Int32} {y6_104 : Int32} {y7_104 : Int32} {y8_104 : Int32} {y9_104 : Int32} {u0_104 : Int32} {K_5 : Int32 → Int32 → Int32 → Int32 → Int32 → Prop}  {Qf : Int32 → Prop} (C : ud_C D G z N p s m args meth c cX5_joined 11 RX5 (some Jvm.ClassFile.FieldType.int)) (ih_6 : ∀ (v0 : Int32) (v1 : Int32) (v2 : Int32) (v3 : Int32) (v4 : Int32), K_5 v0 v1 v2 v3 v4 → ud_X D G z N p l e (ud_rm 2 0 0) s m args below meth c 11 0 0 (ud_Q D G z N (po_ip a0 Qf) below args s) a0 30 [(0, .ref (z + 36)), (3, .int y3_104), (4, .int v0), (5, .int v1), (6, .int v2), (7, .int v3), (8, .int v4)] []) (hw : w_Paths_joined_j104 a0 x1 x2 x3 y3_104 y4_104 y5_104 y6_104 y7_104 y8_104 y9_104 u0_104 K_5 Qf) : ud_X D G z N p l e (ud_rm 2 0 0) s m args below meth c 11 0 0 (ud_Q D G z N (po_ip a0 Qf) below args s) a0 104 [(0, .ref (z + 36)), (3, .int y3_104), (4, .int y4_104), (5, .int y5_104), (6, .int y6_104), (7, .int y7_104), (8, .int y8_104), (9, .int y9_104)] [.int u0_104] := by
  unfold w_Paths_joined_j104 at hw
  refine ux_istore C (by decide) rfl dX5_joined_104 ?_
  refine ux_iload C 8 rfl dX5_joined_106 ?_
  refine ux_if_ne C (tgt := 116) (by decide) dX5_joined_108 (fun hc_24 => ?_) (fun hc_24 => ?_)
  · replace hw := hw.2 hc_24
    exact ux_pick [1, 2, 3, 4, 5, 6, 7, 0] rfl (c_Paths_joined_j116 hN  C ih_6 hw)
  · replace hw := hw.1 hc_24
    refine ux_iload C 0 rfl dX5_joined_111 ?_
    refine ux_if_ne C (tgt := 127) (by decide) dX5_joined_113 (fun hc_23 => ?_) (fun hc_23 => ?_)
    · replace hw := hw.2 hc_23
      exact ux_pick [1, 2, 3, 4, 5, 6, 7, 0] rfl (c_Paths_joined_j127 hN  C ih_6 hw)
    · replace hw := hw.1 hc_23
      exact ux_pick [1, 2, 3, 4, 5, 6, 7, 0] rfl (c_Paths_joined_j116 hN  C ih_6 hw)
set_option maxHeartbeats 2000000 in
set_option maxRecDepth 4000 in
theorem c_Paths_joined_j99 {D : va_G} {G : Nat → Nat} {z N : Nat} {p : Program} {l : Launch} {e : Env} {s : State} {m : MethodId} {args : Array Value} {below : List Frame} {meth : Method} {c : Code} (hN : 92 ≤ N) {a0 : ud_St} {x1 : Int32} {x2 : Int32} {x3 : Int32} {y3_99 : Int32} {y4_99 : Int32} {y5_99 : Int32} {y6_99 : Int32} {y7_99 : Int32} {y8_99 : Int32} {y9_99 : Int32} {K_5 : Int32 → Int32 → Int32 → Int32 → Int32 → Prop}  {Qf : Int32 → Prop} (C : ud_C D G z N p s m args meth c cX5_joined 11 RX5 (some Jvm.ClassFile.FieldType.int)) (ih_6 : ∀ (v0 : Int32) (v1 : Int32) (v2 : Int32) (v3 : Int32) (v4 : Int32), K_5 v0 v1 v2 v3 v4 → ud_X D G z N p l e (ud_rm 2 0 0) s m args below meth c 11 0 0 (ud_Q D G z N (po_ip a0 Qf) below args s) a0 30 [(0, .ref (z + 36)), (3, .int y3_99), (4, .int v0), (5, .int v1), (6, .int v2), (7, .int v3), (8, .int v4)] []) (hw : w_Paths_joined_j99 a0 x1 x2 x3 y3_99 y4_99 y5_99 y6_99 y7_99 y8_99 y9_99 K_5 Qf) : ud_X D G z N p l e (ud_rm 2 0 0) s m args below meth c 11 0 0 (ud_Q D G z N (po_ip a0 Qf) below args s) a0 99 [(0, .ref (z + 36)), (3, .int y3_99), (4, .int y4_99), (5, .int y5_99), (6, .int y6_99), (7, .int y7_99), (8, .int y8_99), (9, .int y9_99)] [] := by
  unfold w_Paths_joined_j99 at hw
  refine ux_iconst C (v := 1) (by decide) dX5_joined_99 ?_
  refine ux_goto C (tgt := 104) (by decide) dX5_joined_100 ?_
  exact ux_pick [0, 1, 2, 3, 4, 5, 6, 7] rfl (c_Paths_joined_j104 hN  C ih_6 hw)
set_option maxHeartbeats 2000000 in
set_option maxRecDepth 4000 in
theorem c_Paths_joined_j77 {D : va_G} {G : Nat → Nat} {z N : Nat} {p : Program} {l : Launch} {e : Env} {s : State} {m : MethodId} {args : Array Value} {below : List Frame} {meth : Method} {c : Code} (hN : 92 ≤ N) {a0 : ud_St} {x1 : Int32} {x2 : Int32} {x3 : Int32} {y3_77 : Int32} {y4_77 : Int32} {y5_77 : Int32} {y6_77 : Int32} {y7_77 : Int32} {y8_77 : Int32} {u0_77 : Int32} {K_5 : Int32 → Int32 → Int32 → Int32 → Int32 → Prop}  {Qf : Int32 → Prop} (C : ud_C D G z N p s m args meth c cX5_joined 11 RX5 (some Jvm.ClassFile.FieldType.int)) (ih_6 : ∀ (v0 : Int32) (v1 : Int32) (v2 : Int32) (v3 : Int32) (v4 : Int32), K_5 v0 v1 v2 v3 v4 → ud_X D G z N p l e (ud_rm 2 0 0) s m args below meth c 11 0 0 (ud_Q D G z N (po_ip a0 Qf) below args s) a0 30 [(0, .ref (z + 36)), (3, .int y3_77), (4, .int v0), (5, .int v1), (6, .int v2), (7, .int v3), (8, .int v4)] []) (hw : w_Paths_joined_j77 a0 x1 x2 x3 y3_77 y4_77 y5_77 y6_77 y7_77 y8_77 u0_77 K_5 Qf) : ud_X D G z N p l e (ud_rm 2 0 0) s m args below meth c 11 0 0 (ud_Q D G z N (po_ip a0 Qf) below args s) a0 77 [(0, .ref (z + 36)), (3, .int y3_77), (4, .int y4_77), (5, .int y5_77), (6, .int y6_77), (7, .int y7_77), (8, .int y8_77)] [.int u0_77] := by
  unfold w_Paths_joined_j77 at hw
  refine ux_istore C (by decide) rfl dX5_joined_77 ?_
  refine ux_iload C 0 rfl dX5_joined_79 ?_
  refine ux_if_ne C (tgt := 99) (by decide) dX5_joined_81 (fun hc_30 => ?_) (fun hc_30 => ?_)
  · replace hw := hw.2 hc_30
    exact ux_pick [1, 2, 3, 4, 5, 6, 7, 0] rfl (c_Paths_joined_j99 hN  C ih_6 hw)
  · replace hw := hw.1 hc_30
    refine ux_aload_n C 1 rfl rfl dX5_joined_84 ?_
    refine ux_iload C 3 rfl dX5_joined_85 ?_
    refine cs_5_110 C  (c_Paths_tailOf hN  hw) (by decide) (by decide) (Nat.le_of_ble_eq_true rfl) dX5_joined_87 (po_ip.k fun r_25 hw => ?_)
    refine ux_aload_n C 1 rfl rfl dX5_joined_90 ?_
    refine ux_iload C 4 rfl dX5_joined_91 ?_
    refine cs_5_110 C  (c_Paths_tailOf hN  hw) (by decide) (by decide) (Nat.le_of_ble_eq_true rfl) dX5_joined_93 (po_ip.k fun r_27 hw => ?_)
    refine ux_icmp_le C (tgt := 103) (by decide) dX5_joined_96 (fun hc_29 => ?_) (fun hc_29 => ?_)
    · replace hw := hw.1 hc_29
      refine ux_iconst C (v := 0) (by decide) dX5_joined_103 ?_
      exact ux_pick [1, 2, 3, 4, 5, 6, 7, 0] rfl (c_Paths_joined_j104 hN  C ih_6 hw)
    · replace hw := hw.2 hc_29
      exact ux_pick [1, 2, 3, 4, 5, 6, 7, 0] rfl (c_Paths_joined_j99 hN  C ih_6 hw)
set_option maxHeartbeats 2000000 in
set_option maxRecDepth 4000 in
theorem c_Paths_joined_j76 {D : va_G} {G : Nat → Nat} {z N : Nat} {p : Program} {l : Launch} {e : Env} {s : State} {m : MethodId} {args : Array Value} {below : List Frame} {meth : Method} {c : Code} (hN : 92 ≤ N) {a0 : ud_St} {x1 : Int32} {x2 : Int32} {x3 : Int32} {y3_76 : Int32} {y4_76 : Int32} {y5_76 : Int32} {y6_76 : Int32} {y7_76 : Int32} {y8_76 : Int32} {K_5 : Int32 → Int32 → Int32 → Int32 → Int32 → Prop}  {Qf : Int32 → Prop} (C : ud_C D G z N p s m args meth c cX5_joined 11 RX5 (some Jvm.ClassFile.FieldType.int)) (ih_6 : ∀ (v0 : Int32) (v1 : Int32) (v2 : Int32) (v3 : Int32) (v4 : Int32), K_5 v0 v1 v2 v3 v4 → ud_X D G z N p l e (ud_rm 2 0 0) s m args below meth c 11 0 0 (ud_Q D G z N (po_ip a0 Qf) below args s) a0 30 [(0, .ref (z + 36)), (3, .int y3_76), (4, .int v0), (5, .int v1), (6, .int v2), (7, .int v3), (8, .int v4)] []) (hw : w_Paths_joined_j76 a0 x1 x2 x3 y3_76 y4_76 y5_76 y6_76 y7_76 y8_76 K_5 Qf) : ud_X D G z N p l e (ud_rm 2 0 0) s m args below meth c 11 0 0 (ud_Q D G z N (po_ip a0 Qf) below args s) a0 76 [(0, .ref (z + 36)), (3, .int y3_76), (4, .int y4_76), (5, .int y5_76), (6, .int y6_76), (7, .int y7_76), (8, .int y8_76)] [] := by
  unfold w_Paths_joined_j76 at hw
  refine ux_iconst C (v := 0) (by decide) dX5_joined_76 ?_
  exact ux_pick [0, 1, 2, 3, 4, 5, 6] rfl (c_Paths_joined_j77 hN  C ih_6 hw)
set_option maxHeartbeats 2000000 in
set_option maxRecDepth 4000 in
theorem c_Paths_joined {l : Launch} {D : va_G} {G : Nat → Nat} {z N : Nat} (hN : 92 ≤ N) {a0 : ud_St} {x1 : Int32} {x2 : Int32} {x3 : Int32}  {Qf : Int32 → Prop} (hw : w_Paths_joined a0 x1 x2 x3 Qf) : ud_M l D G z N yX5_joined cX5_joined 11 (some Jvm.ClassFile.FieldType.int) 2 [.ref (z + 36), .int x1, .int x2, .int x3] a0 (po_ip a0 Qf) := by
  unfold w_Paths_joined at hw
  refine ud_M_of hN (by decide) (Nat.le_of_ble_eq_true rfl) ?_
  intro p e s m args below meth c C
  have C : ud_C D G z N p s m args meth c cX5_joined 11 RX5 (some Jvm.ClassFile.FieldType.int) := C
  show ud_X D G z N p l e (ud_rm 2 0 0) s m args below meth c 11 0 0 (ud_Q D G z N (po_ip a0 Qf) below args s) a0 0 [(0, .ref (z + 36)), (1, .int x1), (2, .int x2), (3, .int x3)] []
  refine ux_aload_n C 0 rfl rfl dX5_joined_0 ?_
  refine ux_iload_n C 1 rfl rfl dX5_joined_1 ?_
  refine cs_5_113 C  (c_Paths_homeOf hN  hw) (by decide) (by decide) (Nat.le_of_ble_eq_true rfl) dX5_joined_2 (po_ip.k fun r_1 hw => ?_)
  refine ux_aload_n C 0 rfl rfl dX5_joined_5 ?_
  refine ux_iload_n C 2 rfl rfl dX5_joined_6 ?_
  refine cs_5_113 C  (c_Paths_homeOf hN  hw) (by decide) (by decide) (Nat.le_of_ble_eq_true rfl) dX5_joined_7 (po_ip.k fun r_3 hw => ?_)
  refine ux_icmp_eq C (tgt := 15) (by decide) dX5_joined_10 (fun hc_37 => ?_) (fun hc_37 => ?_)
  · replace hw := hw.1 hc_37
    refine ux_iload_n C 1 rfl rfl dX5_joined_15 ?_
    refine ux_istore C (by decide) rfl dX5_joined_16 ?_
    refine ux_iload_n C 3 rfl rfl dX5_joined_18 ?_
    refine ux_istore C (by decide) rfl dX5_joined_19 ?_
    refine ux_iconst C (v := 0) (by decide) dX5_joined_21 ?_
    refine ux_istore C (by decide) rfl dX5_joined_22 ?_
    refine ux_iconst C (v := 0) (by decide) dX5_joined_24 ?_
    refine ux_istore C (by decide) rfl dX5_joined_25 ?_
    refine ux_iconst C (v := 0) (by decide) dX5_joined_27 ?_
    refine ux_istore C (by decide) rfl dX5_joined_28 ?_
    refine ux_pick [5, 8, 4, 3, 2, 1, 0] rfl ?_
    refine LW5.elim (P := fun (x4_7 : Int32) (x5_8 : Int32) (x6_9 : Int32) (x7_10 : Int32) (x8_11 : Int32) => ud_X D G z N p l e (ud_rm 2 0 0) s m args below meth c 11 0 0 (ud_Q D G z N (po_ip a0 Qf) below args s) a0 30 [(0, .ref (z + 36)), (3, .int x3), (4, .int x4_7), (5, .int x5_8), (6, .int x6_9), (7, .int x7_10), (8, .int x8_11)] []) hw ?_
    intro x4_7 x5_8 x6_9 x7_10 x8_11 K_5 hw ih_6
    refine ux_iload C 6 rfl dX5_joined_30 ?_
    refine ux_iconst C (v := 3) (by decide) dX5_joined_32 ?_
    refine ux_aload_n C 0 rfl rfl dX5_joined_33 ?_
    refine gf_5_53 C dX5_joined_34 ?_
    refine ux_imul C dX5_joined_37 ?_
    refine ux_icmp_ge C (tgt := 149) (by decide) dX5_joined_38 (fun hc_36 => ?_) (fun hc_36 => ?_)
    · replace hw := hw.1 hc_36
      exact ux_pick [1, 2, 4, 5] rfl (c_Paths_joined_j149 hN  C  hw)
    · replace hw := hw.2 hc_36
      refine ux_iload C 2 rfl dX5_joined_41 ?_
      refine ux_iload C 3 rfl dX5_joined_43 ?_
      refine ux_icmp_eq C (tgt := 149) (by decide) dX5_joined_45 (fun hc_35 => ?_) (fun hc_35 => ?_)
      · replace hw := hw.1 hc_35
        exact ux_pick [1, 2, 4, 5] rfl (c_Paths_joined_j149 hN  C  hw)
      · replace hw := hw.2 hc_35
        refine ux_aload_n C 0 rfl rfl dX5_joined_48 ?_
        refine ux_iload C 2 rfl dX5_joined_49 ?_
        refine cs_5_110 C  (c_Paths_tailOf hN  hw) (by decide) (by decide) (Nat.le_of_ble_eq_true rfl) dX5_joined_51 (po_ip.k fun r_14 hw => ?_)
        refine ux_aload_n C 0 rfl rfl dX5_joined_54 ?_
        refine ux_iload C 3 rfl dX5_joined_55 ?_
        refine cs_5_110 C  (c_Paths_tailOf hN  hw) (by decide) (by decide) (Nat.le_of_ble_eq_true rfl) dX5_joined_57 (po_ip.k fun r_16 hw => ?_)
        refine ux_icmp_ne C (tgt := 76) (by decide) dX5_joined_60 (fun hc_34 => ?_) (fun hc_34 => ?_)
        · replace hw := hw.2 hc_34
          exact ux_pick [0, 1, 2, 3, 4, 5, 6] rfl (c_Paths_joined_j76 hN  C ih_6 hw)
        · replace hw := hw.1 hc_34
          refine ux_aload_n C 0 rfl rfl dX5_joined_63 ?_
          refine ux_iload C 2 rfl dX5_joined_64 ?_
          refine cs_5_110 C  (c_Paths_tailOf hN  hw) (by decide) (by decide) (Nat.le_of_ble_eq_true rfl) dX5_joined_66 (po_ip.k fun r_31 hw => ?_)
          refine ux_if_le C (tgt := 76) (by decide) dX5_joined_69 (fun hc_33 => ?_) (fun hc_33 => ?_)
          · replace hw := hw.1 hc_33
            exact ux_pick [0, 1, 2, 3, 4, 5, 6] rfl (c_Paths_joined_j76 hN  C ih_6 hw)
          · replace hw := hw.2 hc_33
            refine ux_iconst C (v := 1) (by decide) dX5_joined_72 ?_
            refine ux_goto C (tgt := 77) (by decide) dX5_joined_73 ?_
            exact ux_pick [0, 1, 2, 3, 4, 5, 6] rfl (c_Paths_joined_j77 hN  C ih_6 hw)
  · replace hw := hw.2 hc_37
    refine ux_iconst C (v := -1) (by decide) dX5_joined_13 ?_
    exact ux_iret C ⟨_, rfl, rfl, hw⟩ dX5_joined_14
set_option maxHeartbeats 2000000 in
set_option maxRecDepth 4000 in
theorem c_Paths_firstOdd {l : Launch} {D : va_G} {G : Nat → Nat} {z N : Nat} (hN : 92 ≤ N) {a0 : ud_St}   {Qf : Int32 → Prop} (hw : w_Paths_firstOdd a0  Qf) : ud_M l D G z N yX5_firstOdd cX5_firstOdd 3 (some Jvm.ClassFile.FieldType.int) 2 [.ref (z + 36), .ref (z + 26)] a0 (po_ip a0 Qf) := by
  unfold w_Paths_firstOdd at hw
  refine ud_M_of hN (by decide) (Nat.le_of_ble_eq_true rfl) ?_
  intro p e s m args below meth c C
  have C : ud_C D G z N p s m args meth c cX5_firstOdd 3 RX5 (some Jvm.ClassFile.FieldType.int) := C
  show ud_X D G z N p l e (ud_rm 2 0 0) s m args below meth c 3 0 0 (ud_Q D G z N (po_ip a0 Qf) below args s) a0 0 [(0, .ref (z + 36)), (1, .ref (z + 26))] []
  refine ux_iconst C (v := 0) (by decide) dX5_firstOdd_0 ?_
  refine ux_istore_n C rfl (by decide) rfl dX5_firstOdd_1 ?_
  refine ux_pick [1, 2, 0] rfl ?_
  refine LW1.elim (P := fun (x2_3 : Int32) => ud_X D G z N p l e (ud_rm 2 0 0) s m args below meth c 3 0 0 (ud_Q D G z N (po_ip a0 Qf) below args s) a0 2 [(0, .ref (z + 36)), (1, .ref (z + 26)), (2, .int x2_3)] []) hw ?_
  intro x2_3 K_1 hw ih_2
  refine ux_iload_n C 2 rfl rfl dX5_firstOdd_2 ?_
  refine ux_aload_n C 0 rfl rfl dX5_firstOdd_3 ?_
  refine gf_5_53 C dX5_firstOdd_4 ?_
  refine ux_icmp_ge C (tgt := 35) (by decide) dX5_firstOdd_7 (fun hc_11 => ?_) (fun hc_11 => ?_)
  · replace hw := hw.1 hc_11
    refine ux_iconst C (v := -1) (by decide) dX5_firstOdd_35 ?_
    exact ux_iret C ⟨_, rfl, rfl, hw⟩ dX5_firstOdd_36
  · replace hw := hw.2 hc_11
    refine ux_aload_n C 0 rfl rfl dX5_firstOdd_10 ?_
    refine ux_iload_n C 2 rfl rfl dX5_firstOdd_11 ?_
    refine cs_5_80 C  (c_Paths_nextOf hN  hw) (by decide) (by decide) (Nat.le_of_ble_eq_true rfl) dX5_firstOdd_12 (po_ip.k fun r_4 hw => ?_)
    refine ux_aload_n C 0 rfl rfl dX5_firstOdd_15 ?_
    refine ux_aload_n C 1 rfl rfl dX5_firstOdd_16 ?_
    refine ux_iload_n C 2 rfl rfl dX5_firstOdd_17 ?_
    refine cs_5_144 C  (c_Figures_leastOfKind hN  hw) (by decide) (by decide) (Nat.le_of_ble_eq_true rfl) dX5_firstOdd_18 (po_ip.k fun r_6 hw => ?_)
    refine cs_5_80 C  (c_Paths_nextOf hN  hw) (by decide) (by decide) (Nat.le_of_ble_eq_true rfl) dX5_firstOdd_21 (po_ip.k fun r_8 hw => ?_)
    refine ux_icmp_eq C (tgt := 29) (by decide) dX5_firstOdd_24 (fun hc_10 => ?_) (fun hc_10 => ?_)
    · replace hw := hw.1 hc_10
      refine ux_iinc C 2 rfl rfl (by decide) rfl dX5_firstOdd_29 ?_
      refine ux_goto C (tgt := 2) (by decide) dX5_firstOdd_32 ?_
      exact ux_pick [1, 2, 0] rfl (ih_2 _ hw)
    · replace hw := hw.2 hc_10
      refine ux_iload_n C 2 rfl rfl dX5_firstOdd_27 ?_
      exact ux_iret C ⟨_, rfl, rfl, hw⟩ dX5_firstOdd_28
set_option maxHeartbeats 2000000 in
set_option maxRecDepth 4000 in
theorem c_Reader_readSign {l : Launch} {D : va_G} {G : Nat → Nat} {z N : Nat} (hN : 92 ≤ N) {a0 : ud_St}   {Qf : Int32 → ud_St → Prop} (hw : w_Reader_readSign a0  Qf) : ud_M l D G z N yX6_readSign cX6_readSign 1 (some Jvm.ClassFile.FieldType.boolean) 2 [.ref (z + 3)] a0 (po_i Qf) := by
  unfold w_Reader_readSign at hw
  refine ud_M_of hN (by decide) (Nat.le_of_ble_eq_true rfl) ?_
  intro p e s m args below meth c C
  have C : ud_C D G z N p s m args meth c cX6_readSign 1 RX6 (some Jvm.ClassFile.FieldType.boolean) := C
  show ud_X D G z N p l e (ud_rm 2 0 0) s m args below meth c 1 0 0 (ud_Q D G z N (po_i Qf) below args s) a0 0 [(0, .ref (z + 3))] []
  refine ux_aload_n C 0 rfl rfl dX6_readSign_0 ?_
  refine gf_6_33 C dX6_readSign_1 ?_
  refine ux_iconst C (v := 3) (by decide) dX6_readSign_4 ?_
  refine ux_icmp_eq C (tgt := 14) (by decide) dX6_readSign_5 (fun hc_6 => ?_) (fun hc_6 => ?_)
  · replace hw := hw.1 hc_6
    refine ux_aload_n C 0 rfl rfl dX6_readSign_14 ?_
    refine cs_6_30 C  (c_Reader_advance hN  hw) (by decide) (by decide) (Nat.le_of_ble_eq_true rfl) dX6_readSign_15 (po_v.k fun a_2 hw => ?_)
    refine ux_iconst C (v := 1) (by decide) dX6_readSign_18 ?_
    exact ux_zret C rfl ⟨_, rfl, hw⟩ dX6_readSign_19
  · replace hw := hw.2 hc_6
    refine ux_aload_n C 0 rfl rfl dX6_readSign_8 ?_
    refine ux_iconst C (v := 1) (by decide) dX6_readSign_9 ?_
    refine cs_6_69 C  (c_Reader_wrong hN  hw) (by decide) (by decide) (Nat.le_of_ble_eq_true rfl) dX6_readSign_10 (po_i.k fun r_3 a_4 hw => ?_)
    obtain ⟨hn_5, hw⟩ := hw
    exact ux_zret C (ud_narZ hn_5) ⟨_, rfl, hw⟩ dX6_readSign_13
set_option maxHeartbeats 2000000 in
set_option maxRecDepth 4000 in
theorem c_Reader_readBetween {l : Launch} {D : va_G} {G : Nat → Nat} {z N : Nat} (hN : 92 ≤ N) {a0 : ud_St} {x1 : Int32} {x2 : Int32}  {Qf : Int32 → ud_St → Prop} (hw : w_Reader_readBetween a0 x1 x2 Qf) : ud_M l D G z N yX6_readBetween cX6_readBetween 5 (some Jvm.ClassFile.FieldType.boolean) 2 [.ref (z + 3), .int x1, .int x2] a0 (po_i Qf) := by
  unfold w_Reader_readBetween at hw
  refine ud_M_of hN (by decide) (Nat.le_of_ble_eq_true rfl) ?_
  intro p e s m args below meth c C
  have C : ud_C D G z N p s m args meth c cX6_readBetween 5 RX6 (some Jvm.ClassFile.FieldType.boolean) := C
  show ud_X D G z N p l e (ud_rm 2 0 0) s m args below meth c 5 0 0 (ud_Q D G z N (po_i Qf) below args s) a0 0 [(0, .ref (z + 3)), (1, .int x1), (2, .int x2)] []
  refine ux_aload_n C 0 rfl rfl dX6_readBetween_0 ?_
  refine gf_6_33 C dX6_readBetween_1 ?_
  refine ux_iconst C (v := 2) (by decide) dX6_readBetween_4 ?_
  refine ux_icmp_eq C (tgt := 14) (by decide) dX6_readBetween_5 (fun hc_21 => ?_) (fun hc_21 => ?_)
  · replace hw := hw.1 hc_21
    refine ux_iconst C (v := 0) (by decide) dX6_readBetween_14 ?_
    refine ux_istore_n C rfl (by decide) rfl dX6_readBetween_15 ?_
    refine ux_aload_n C 1 rfl rfl dX6_readBetween_16 ?_
    refine gf_6_141 C dX6_readBetween_17 ?_
    refine ux_istore C (by decide) rfl dX6_readBetween_20 ?_
    refine ux_pick [2, 3, 4, 1, 0] rfl ?_
    refine LW2.elim (P := fun (x3_3 : Int32) (x4_4 : Int32) => ud_X D G z N p l e (ud_rm 2 0 0) s m args below meth c 5 0 0 (ud_Q D G z N (po_i Qf) below args s) a0 22 [(0, .ref (z + 3)), (1, .int x1), (2, .int x2), (3, .int x3_3), (4, .int x4_4)] []) hw ?_
    intro x3_3 x4_4 K_1 hw ih_2
    refine ux_iload C 4 rfl dX6_readBetween_22 ?_
    refine ux_aload_n C 0 rfl rfl dX6_readBetween_24 ?_
    refine gf_6_22 C dX6_readBetween_25 ?_
    refine ux_icmp_ge C (tgt := 60) (by decide) dX6_readBetween_28 (fun hc_17 => ?_) (fun hc_17 => ?_)
    · replace hw := hw.1 hc_17
      refine ux_iload_n C 3 rfl rfl dX6_readBetween_60 ?_
      refine ux_iload_n C 1 rfl rfl dX6_readBetween_61 ?_
      refine ux_icmp_lt C (tgt := 70) (by decide) dX6_readBetween_62 (fun hc_14 => ?_) (fun hc_14 => ?_)
      · replace hw := hw.1 hc_14
        refine ux_aload_n C 0 rfl rfl dX6_readBetween_70 ?_
        refine ux_iconst C (v := 2) (by decide) dX6_readBetween_71 ?_
        refine cs_6_69 C  (c_Reader_wrong hN  hw) (by decide) (by decide) (Nat.le_of_ble_eq_true rfl) dX6_readBetween_72 (po_i.k fun r_5 a_6 hw => ?_)
        obtain ⟨hn_7, hw⟩ := hw
        exact ux_zret C (ud_narZ hn_7) ⟨_, rfl, hw⟩ dX6_readBetween_75
      · replace hw := hw.2 hc_14
        refine ux_iload_n C 3 rfl rfl dX6_readBetween_65 ?_
        refine ux_iload_n C 2 rfl rfl dX6_readBetween_66 ?_
        refine ux_icmp_le C (tgt := 76) (by decide) dX6_readBetween_67 (fun hc_13 => ?_) (fun hc_13 => ?_)
        · replace hw := hw.1 hc_13
          refine ux_aload_n C 0 rfl rfl dX6_readBetween_76 ?_
          refine ux_iload_n C 3 rfl rfl dX6_readBetween_77 ?_
          refine pf_6_84 C dX6_readBetween_78 ?_
          refine ux_aload_n C 0 rfl rfl dX6_readBetween_81 ?_
          refine cs_6_30 C  (c_Reader_advance hN  hw) (by decide) (by decide) (Nat.le_of_ble_eq_true rfl) dX6_readBetween_82 (po_v.k fun a_9 hw => ?_)
          refine ux_iconst C (v := 1) (by decide) dX6_readBetween_85 ?_
          exact ux_zret C rfl ⟨_, rfl, hw⟩ dX6_readBetween_86
        · replace hw := hw.2 hc_13
          refine ux_aload_n C 0 rfl rfl dX6_readBetween_70 ?_
          refine ux_iconst C (v := 2) (by decide) dX6_readBetween_71 ?_
          refine cs_6_69 C  (c_Reader_wrong hN  hw) (by decide) (by decide) (Nat.le_of_ble_eq_true rfl) dX6_readBetween_72 (po_i.k fun r_10 a_11 hw => ?_)
          obtain ⟨hn_12, hw⟩ := hw
          exact ux_zret C (ud_narZ hn_12) ⟨_, rfl, hw⟩ dX6_readBetween_75
    · replace hw := hw.2 hc_17
      refine ux_ldc C (v := 1000000) mw_624 dX6_readBetween_31 ?_
      refine ux_bipush C (v := 10) (by decide) dX6_readBetween_33 ?_
      refine ux_iload_n C 3 rfl rfl dX6_readBetween_35 ?_
      refine ux_imul C dX6_readBetween_36 ?_
      refine ux_aload_n C 0 rfl rfl dX6_readBetween_37 ?_
      refine gf_6_15 C dX6_readBetween_38 ?_
      refine ux_iload C 4 rfl dX6_readBetween_41 ?_
      refine cs_6_145 C  (c_Tape_byteAt hN  hw) (by decide) (by decide) (Nat.le_of_ble_eq_true rfl) dX6_readBetween_43 (po_ip.k fun r_15 hw => ?_)
      refine ux_iadd C dX6_readBetween_46 ?_
      refine ux_bipush C (v := 48) (by decide) dX6_readBetween_47 ?_
      refine ux_isub C dX6_readBetween_49 ?_
      refine ux_mmin C mw_625 mw_626 mw_130 mw_627 (by decide) (Nat.le_of_ble_eq_true rfl) dX6_readBetween_50 ?_
      refine ux_istore_n C rfl (by decide) rfl dX6_readBetween_53 ?_
      refine ux_iinc C 4 rfl rfl (by decide) rfl dX6_readBetween_54 ?_
      refine ux_goto C (tgt := 22) (by decide) dX6_readBetween_57 ?_
      exact ux_pick [2, 3, 4, 1, 0] rfl (ih_2 _ _ hw)
  · replace hw := hw.2 hc_21
    refine ux_aload_n C 0 rfl rfl dX6_readBetween_8 ?_
    refine ux_iconst C (v := 1) (by decide) dX6_readBetween_9 ?_
    refine cs_6_69 C  (c_Reader_wrong hN  hw) (by decide) (by decide) (Nat.le_of_ble_eq_true rfl) dX6_readBetween_10 (po_i.k fun r_18 a_19 hw => ?_)
    obtain ⟨hn_20, hw⟩ := hw
    exact ux_zret C (ud_narZ hn_20) ⟨_, rfl, hw⟩ dX6_readBetween_13
set_option maxHeartbeats 2000000 in
set_option maxRecDepth 4000 in
theorem c_Words_add {l : Launch} {D : va_G} {G : Nat → Nat} {z N : Nat} (hN : 92 ≤ N) {a0 : ud_St} {k0 : Nat} {x1 : Int32} {x2 : Int32} (hk0 : ud_isW N k0) {Qf : ud_St → Prop} (hw : w_Words_add a0 k0 x1 x2 Qf) : ud_M l D G z N yX10_add cX10_add 3 (none : Option Jvm.ClassFile.FieldType) 2 [.ref (z + k0), .int x1, .int x2] a0 (po_v Qf) := by
  unfold w_Words_add at hw
  refine ud_M_of hN (by decide) (Nat.le_of_ble_eq_true rfl) ?_
  intro p e s m args below meth c C
  have C : ud_C D G z N p s m args meth c cX10_add 3 RX10 (none : Option Jvm.ClassFile.FieldType) := C
  show ud_X D G z N p l e (ud_rm 2 0 0) s m args below meth c 3 0 0 (ud_Q D G z N (po_v Qf) below args s) a0 0 [(0, .ref (z + k0)), (1, .int x1), (2, .int x2)] []
  refine ux_aload_n C 0 rfl rfl dX10_add_0 ?_
  refine gf_10_18 C hk0 dX10_add_1 ?_
  refine ux_bipush C (v := 12) (by decide) dX10_add_4 ?_
  refine ux_icmp_ge C (tgt := 29) (by decide) dX10_add_6 (fun hc_3 => ?_) (fun hc_3 => ?_)
  · replace hw := hw.1 hc_3
    exact ux_vret C ⟨rfl, hw⟩ dX10_add_29
  · replace hw := hw.2 hc_3
    refine ux_aload_n C 0 rfl rfl dX10_add_9 ?_
    refine ux_aload_n C 0 rfl rfl dX10_add_10 ?_
    refine gf_10_18 C hk0 dX10_add_11 ?_
    refine ux_iload_n C 1 rfl rfl dX10_add_14 ?_
    refine ux_iload_n C 2 rfl rfl dX10_add_15 ?_
    refine cs_10_22 C hk0 (c_Words_change hN hk0 hw) (by decide) (by decide) (Nat.le_of_ble_eq_true rfl) dX10_add_16 (po_v.k fun a_2 hw => ?_)
    refine ux_aload_n C 0 rfl rfl dX10_add_19 ?_
    refine ux_dup C rfl dX10_add_20 ?_
    refine gf_10_18 C hk0 dX10_add_21 ?_
    refine ux_iconst C (v := 1) (by decide) dX10_add_24 ?_
    refine ux_iadd C dX10_add_25 ?_
    refine pf_10_18 C hk0 dX10_add_26 ?_
    exact ux_vret C ⟨rfl, hw⟩ dX10_add_29
set_option maxHeartbeats 2000000 in
set_option maxRecDepth 4000 in
theorem c_Words_is {l : Launch} {D : va_G} {G : Nat → Nat} {z N : Nat} (hN : 92 ≤ N) {a0 : ud_St} {k0 : Nat} {x1 : Int32} {x2 : Int32} {x3 : Int32} (hk0 : ud_isW N k0) {Qf : Int32 → Prop} (hw : w_Words_is a0 k0 x1 x2 x3 Qf) : ud_M l D G z N yX10_is cX10_is 4 (some Jvm.ClassFile.FieldType.boolean) 2 [.ref (z + k0), .int x1, .int x2, .int x3] a0 (po_ip a0 Qf) := by
  unfold w_Words_is at hw
  refine ud_M_of hN (by decide) (Nat.le_of_ble_eq_true rfl) ?_
  intro p e s m args below meth c C
  have C : ud_C D G z N p s m args meth c cX10_is 4 RX10 (some Jvm.ClassFile.FieldType.boolean) := C
  show ud_X D G z N p l e (ud_rm 2 0 0) s m args below meth c 4 0 0 (ud_Q D G z N (po_ip a0 Qf) below args s) a0 0 [(0, .ref (z + k0)), (1, .int x1), (2, .int x2), (3, .int x3)] []
  refine ux_aload_n C 0 rfl rfl dX10_is_0 ?_
  refine ux_iload_n C 1 rfl rfl dX10_is_1 ?_
  refine cs_10_36 C hk0 (c_Words_sort hN hk0 hw) (by decide) (by decide) (Nat.le_of_ble_eq_true rfl) dX10_is_2 (po_ip.k fun r_1 hw => ?_)
  refine ux_iload_n C 2 rfl rfl dX10_is_5 ?_
  refine ux_icmp_ne C (tgt := 22) (by decide) dX10_is_6 (fun hc_6 => ?_) (fun hc_6 => ?_)
  · replace hw := hw.2 hc_6
    refine ux_iconst C (v := 0) (by decide) dX10_is_22 ?_
    exact ux_zret C rfl ⟨_, rfl, rfl, hw⟩ dX10_is_23
  · replace hw := hw.1 hc_6
    refine ux_aload_n C 0 rfl rfl dX10_is_9 ?_
    refine ux_iload_n C 1 rfl rfl dX10_is_10 ?_
    refine cs_10_40 C hk0 (c_Words_number hN hk0 hw) (by decide) (by decide) (Nat.le_of_ble_eq_true rfl) dX10_is_11 (po_ip.k fun r_3 hw => ?_)
    refine ux_iload_n C 3 rfl rfl dX10_is_14 ?_
    refine ux_icmp_ne C (tgt := 22) (by decide) dX10_is_15 (fun hc_5 => ?_) (fun hc_5 => ?_)
    · replace hw := hw.2 hc_5
      refine ux_iconst C (v := 0) (by decide) dX10_is_22 ?_
      exact ux_zret C rfl ⟨_, rfl, rfl, hw⟩ dX10_is_23
    · replace hw := hw.1 hc_5
      refine ux_iconst C (v := 1) (by decide) dX10_is_18 ?_
      refine ux_goto C (tgt := 23) (by decide) dX10_is_19 ?_
      exact ux_zret C rfl ⟨_, rfl, rfl, hw⟩ dX10_is_23
set_option maxHeartbeats 2000000 in
set_option maxRecDepth 4000 in
theorem c_Words_copy {l : Launch} {D : va_G} {G : Nat → Nat} {z N : Nat} (hN : 92 ≤ N) {a0 : ud_St} {k0 : Nat} {k1 : Nat} (hk0 : ud_isW N k0) (hk1 : ud_isW N k1) {Qf : ud_St → Prop} (hw : w_Words_copy a0 k0 k1 Qf) : ud_M l D G z N yX10_copy cX10_copy 3 (none : Option Jvm.ClassFile.FieldType) 2 [.ref (z + k0), .ref (z + k1)] a0 (po_v Qf) := by
  unfold w_Words_copy at hw
  refine ud_M_of hN (by decide) (Nat.le_of_ble_eq_true rfl) ?_
  intro p e s m args below meth c C
  have C : ud_C D G z N p s m args meth c cX10_copy 3 RX10 (none : Option Jvm.ClassFile.FieldType) := C
  show ud_X D G z N p l e (ud_rm 2 0 0) s m args below meth c 3 0 0 (ud_Q D G z N (po_v Qf) below args s) a0 0 [(0, .ref (z + k0)), (1, .ref (z + k1))] []
  refine ux_aload_n C 0 rfl rfl dX10_copy_0 ?_
  refine ux_aload_n C 1 rfl rfl dX10_copy_1 ?_
  refine gf_10_18 C hk1 dX10_copy_2 ?_
  refine pf_10_18 C hk0 dX10_copy_5 ?_
  refine ux_iconst C (v := 0) (by decide) dX10_copy_8 ?_
  refine ux_istore_n C rfl (by decide) rfl dX10_copy_9 ?_
  refine ux_pick [1, 2, 0] rfl ?_
  refine LW2.elim (P := fun (x2_3 : Int32) (a_4 : ud_St) => ud_X D G z N p l e (ud_rm 2 0 0) s m args below meth c 3 0 0 (ud_Q D G z N (po_v Qf) below args s) a_4 10 [(0, .ref (z + k0)), (1, .ref (z + k1)), (2, .int x2_3)] []) hw ?_
  intro x2_3 a_4 K_1 hw ih_2
  refine ux_iload_n C 2 rfl rfl dX10_copy_10 ?_
  refine ux_aload_n C 0 rfl rfl dX10_copy_11 ?_
  refine gf_10_18 C hk0 dX10_copy_12 ?_
  refine ux_icmp_ge C (tgt := 39) (by decide) dX10_copy_15 (fun hc_11 => ?_) (fun hc_11 => ?_)
  · replace hw := hw.1 hc_11
    exact ux_vret C ⟨rfl, hw⟩ dX10_copy_39
  · replace hw := hw.2 hc_11
    refine ux_aload_n C 0 rfl rfl dX10_copy_18 ?_
    refine ux_iload_n C 2 rfl rfl dX10_copy_19 ?_
    refine ux_aload_n C 1 rfl rfl dX10_copy_20 ?_
    refine ux_iload_n C 2 rfl rfl dX10_copy_21 ?_
    refine cs_10_36 C hk1 (c_Words_sort hN hk1 hw) (by decide) (by decide) (Nat.le_of_ble_eq_true rfl) dX10_copy_22 (po_ip.k fun r_5 hw => ?_)
    refine ux_aload_n C 1 rfl rfl dX10_copy_25 ?_
    refine ux_iload_n C 2 rfl rfl dX10_copy_26 ?_
    refine cs_10_40 C hk1 (c_Words_number hN hk1 hw) (by decide) (by decide) (Nat.le_of_ble_eq_true rfl) dX10_copy_27 (po_ip.k fun r_7 hw => ?_)
    refine cs_10_22 C hk0 (c_Words_change hN hk0 hw) (by decide) (by decide) (Nat.le_of_ble_eq_true rfl) dX10_copy_30 (po_v.k fun a_10 hw => ?_)
    refine ux_iinc C 2 rfl rfl (by decide) rfl dX10_copy_33 ?_
    refine ux_goto C (tgt := 10) (by decide) dX10_copy_36 ?_
    exact ux_pick [1, 2, 0] rfl (ih_2 _ _ hw)
set_option maxHeartbeats 2000000 in
set_option maxRecDepth 4000 in
theorem c_Words_spell {l : Launch} {D : va_G} {G : Nat → Nat} {z N : Nat} (hN : 92 ≤ N) {a0 : ud_St} {k0 : Nat} {x1 : Int32} {x2 : Int32} (hk0 : ud_isW N k0) {Qf : ud_St → Prop} (hw : w_Words_spell a0 k0 x1 x2 Qf) : ud_M l D G z N yX10_spell cX10_spell 5 (none : Option Jvm.ClassFile.FieldType) 2 [.ref (z + k0), .int x1, .int x2] a0 (po_v Qf) := by
  unfold w_Words_spell at hw
  refine ud_M_of hN (by decide) (Nat.le_of_ble_eq_true rfl) ?_
  intro p e s m args below meth c C
  have C : ud_C D G z N p s m args meth c cX10_spell 5 RX10 (none : Option Jvm.ClassFile.FieldType) := C
  show ud_X D G z N p l e (ud_rm 2 0 0) s m args below meth c 5 0 0 (ud_Q D G z N (po_v Qf) below args s) a0 0 [(0, .ref (z + k0)), (1, .int x1), (2, .int x2)] []
  refine ux_aload_n C 0 rfl rfl dX10_spell_0 ?_
  refine ux_iload_n C 2 rfl rfl dX10_spell_1 ?_
  refine pf_10_18 C hk0 dX10_spell_2 ?_
  refine ux_iload_n C 1 rfl rfl dX10_spell_5 ?_
  refine ux_istore_n C rfl (by decide) rfl dX10_spell_6 ?_
  refine ux_iload_n C 3 rfl rfl dX10_spell_7 ?_
  refine ux_iconst C (v := 1) (by decide) dX10_spell_8 ?_
  refine ux_isub C dX10_spell_9 ?_
  refine ux_istore C (by decide) rfl dX10_spell_10 ?_
  refine ux_pick [2, 1, 0] rfl ?_
  refine LW3.elim (P := fun (x3_3 : Int32) (x4_4 : Int32) (a_5 : ud_St) => ud_X D G z N p l e (ud_rm 2 0 0) s m args below meth c 5 0 0 (ud_Q D G z N (po_v Qf) below args s) a_5 12 [(0, .ref (z + k0)), (3, .int x3_3), (4, .int x4_4)] []) hw ?_
  intro x3_3 x4_4 a_5 K_1 hw ih_2
  refine ux_iload C 2 rfl dX10_spell_12 ?_
  refine ux_if_lt C (tgt := 39) (by decide) dX10_spell_14 (fun hc_8 => ?_) (fun hc_8 => ?_)
  · replace hw := hw.1 hc_8
    exact ux_vret C ⟨rfl, hw⟩ dX10_spell_39
  · replace hw := hw.2 hc_8
    refine ux_aload_n C 0 rfl rfl dX10_spell_17 ?_
    refine ux_iload C 2 rfl dX10_spell_18 ?_
    refine ux_iload_n C 1 rfl rfl dX10_spell_20 ?_
    refine ux_bipush C (v := 12) (by decide) dX10_spell_21 ?_
    refine ux_irem C (by decide) dX10_spell_23 ?_
    refine ux_iconst C (v := 0) (by decide) dX10_spell_24 ?_
    refine cs_10_22 C hk0 (c_Words_change hN hk0 hw) (by decide) (by decide) (Nat.le_of_ble_eq_true rfl) dX10_spell_25 (po_v.k fun a_7 hw => ?_)
    refine ux_iload_n C 1 rfl rfl dX10_spell_28 ?_
    refine ux_bipush C (v := 12) (by decide) dX10_spell_29 ?_
    refine ux_idiv C (by decide) dX10_spell_31 ?_
    refine ux_istore_n C rfl (by decide) rfl dX10_spell_32 ?_
    refine ux_iinc C 2 rfl rfl (by decide) rfl dX10_spell_33 ?_
    refine ux_goto C (tgt := 12) (by decide) dX10_spell_36 ?_
    exact ux_pick [2, 1, 0] rfl (ih_2 _ _ _ hw)
set_option maxHeartbeats 2000000 in
set_option maxRecDepth 4000 in
theorem c_Words_go {l : Launch} {D : va_G} {G : Nat → Nat} {z N : Nat} (hN : 92 ≤ N) {a0 : ud_St} {k0 : Nat} {x2 : Int32} {x3 : Int32} (hk0 : ud_isW N k0) {Qf : Int32 → Prop} (hw : w_Words_go a0 k0 x2 x3 Qf) : ud_M l D G z N yX10_go cX10_go 8 (some Jvm.ClassFile.FieldType.int) 2 [.ref (z + k0), .ref (z + 26), .int x2, .int x3] a0 (po_ip a0 Qf) := by
  unfold w_Words_go at hw
  refine ud_M_of hN (by decide) (Nat.le_of_ble_eq_true rfl) ?_
  intro p e s m args below meth c C
  have C : ud_C D G z N p s m args meth c cX10_go 8 RX10 (some Jvm.ClassFile.FieldType.int) := C
  show ud_X D G z N p l e (ud_rm 2 0 0) s m args below meth c 8 0 0 (ud_Q D G z N (po_ip a0 Qf) below args s) a0 0 [(0, .ref (z + k0)), (1, .ref (z + 26)), (2, .int x2), (3, .int x3)] []
  refine ux_iload_n C 2 rfl rfl dX10_go_0 ?_
  refine ux_istore C (by decide) rfl dX10_go_1 ?_
  refine ux_iload_n C 3 rfl rfl dX10_go_3 ?_
  refine ux_istore C (by decide) rfl dX10_go_4 ?_
  refine ux_iconst C (v := 0) (by decide) dX10_go_6 ?_
  refine ux_istore C (by decide) rfl dX10_go_7 ?_
  refine ux_pick [3, 4, 6, 2, 1, 0] rfl ?_
  refine LW3.elim (P := fun (x4_3 : Int32) (x5_4 : Int32) (x6_5 : Int32) => ud_X D G z N p l e (ud_rm 2 0 0) s m args below meth c 8 0 0 (ud_Q D G z N (po_ip a0 Qf) below args s) a0 9 [(0, .ref (z + k0)), (1, .ref (z + 26)), (3, .int x3), (4, .int x4_3), (5, .int x5_4), (6, .int x6_5)] []) hw ?_
  intro x4_3 x5_4 x6_5 K_1 hw ih_2
  refine ux_iload C 5 rfl dX10_go_9 ?_
  refine ux_iload_n C 2 rfl rfl dX10_go_11 ?_
  refine ux_icmp_ge C (tgt := 66) (by decide) dX10_go_12 (fun hc_14 => ?_) (fun hc_14 => ?_)
  · replace hw := hw.1 hc_14
    refine ux_iload C 3 rfl dX10_go_66 ?_
    exact ux_iret C ⟨_, rfl, rfl, hw⟩ dX10_go_68
  · replace hw := hw.2 hc_14
    refine ux_iload C 5 rfl dX10_go_15 ?_
    refine ux_aload_n C 0 rfl rfl dX10_go_17 ?_
    refine gf_10_18 C hk0 dX10_go_18 ?_
    refine ux_icmp_ge C (tgt := 66) (by decide) dX10_go_21 (fun hc_13 => ?_) (fun hc_13 => ?_)
    · replace hw := hw.1 hc_13
      refine ux_iload C 3 rfl dX10_go_66 ?_
      exact ux_iret C ⟨_, rfl, rfl, hw⟩ dX10_go_68
    · replace hw := hw.2 hc_13
      refine ux_aload_n C 0 rfl rfl dX10_go_24 ?_
      refine ux_iload C 5 rfl dX10_go_25 ?_
      refine cs_10_36 C hk0 (c_Words_sort hN hk0 hw) (by decide) (by decide) (Nat.le_of_ble_eq_true rfl) dX10_go_27 (po_ip.k fun r_6 hw => ?_)
      refine ux_istore C (by decide) rfl dX10_go_30 ?_
      refine ux_aload_n C 2 rfl rfl dX10_go_32 ?_
      refine ux_iload C 0 rfl dX10_go_33 ?_
      refine ux_aload_n C 1 rfl rfl dX10_go_35 ?_
      refine ux_iload C 6 rfl dX10_go_36 ?_
      refine cs_10_40 C hk0 (c_Words_number hN hk0 hw) (by decide) (by decide) (Nat.le_of_ble_eq_true rfl) dX10_go_38 (po_ip.k fun r_8 hw => ?_)
      refine ux_iload C 4 rfl dX10_go_41 ?_
      refine ux_iload C 5 rfl dX10_go_43 ?_
      refine cs_10_43 C  (c_Figures_done hN  hw) (by decide) (by decide) (Nat.le_of_ble_eq_true rfl) dX10_go_45 (po_ip.k fun r_10 hw => ?_)
      refine ux_istore C (by decide) rfl dX10_go_48 ?_
      refine ux_iload C 1 rfl dX10_go_50 ?_
      refine ux_iconst C (v := 3) (by decide) dX10_go_52 ?_
      refine ux_icmp_ne C (tgt := 60) (by decide) dX10_go_53 (fun hc_12 => ?_) (fun hc_12 => ?_)
      · replace hw := hw.2 hc_12
        refine ux_iinc C 6 rfl rfl (by decide) rfl dX10_go_60 ?_
        refine ux_goto C (tgt := 9) (by decide) dX10_go_63 ?_
        exact ux_pick [3, 4, 5, 1, 6, 0] rfl (ih_2 _ _ _ hw)
      · replace hw := hw.1 hc_12
        refine ux_iload C 0 rfl dX10_go_56 ?_
        refine ux_istore C (by decide) rfl dX10_go_58 ?_
        refine ux_iinc C 6 rfl rfl (by decide) rfl dX10_go_60 ?_
        refine ux_goto C (tgt := 9) (by decide) dX10_go_63 ?_
        exact ux_pick [4, 5, 6, 2, 1, 0] rfl (ih_2 _ _ _ hw)
set_option maxHeartbeats 2000000 in
set_option maxRecDepth 4000 in
theorem c_UpAndDown_feed {l : Launch} {D : va_G} {G : Nat → Nat} {z N : Nat} (hN : 92 ≤ N) {a0 : ud_St} {x1 : Int32} {x2 : Int32} {x3 : Int32} {x4 : Int32} {x5 : Int32}  {Qf : Int32 → ud_St → Prop} (hw : w_UpAndDown_feed a0 x1 x2 x3 x4 x5 Qf) : ud_M l D G z N yX11_feed cX11_feed 6 (some Jvm.ClassFile.FieldType.int) 2 [.ref (z + 0), .int x1, .int x2, .int x3, .int x4, .int x5] a0 (po_i Qf) := by
  unfold w_UpAndDown_feed at hw
  refine ud_M_of hN (by decide) (Nat.le_of_ble_eq_true rfl) ?_
  intro p e s m args below meth c C
  have C : ud_C D G z N p s m args meth c cX11_feed 6 RX11 (some Jvm.ClassFile.FieldType.int) := C
  show ud_X D G z N p l e (ud_rm 2 0 0) s m args below meth c 6 0 0 (ud_Q D G z N (po_i Qf) below args s) a0 0 [(0, .ref (z + 0)), (1, .int x1), (2, .int x2), (3, .int x3), (4, .int x4), (5, .int x5)] []
  refine ux_aload_n C 0 rfl rfl dX11_feed_0 ?_
  refine gf_11_10 C dX11_feed_1 ?_
  refine ux_bipush C (v := 20) (by decide) dX11_feed_4 ?_
  refine cs_11_88 C  (c_Tape_hasRoomFor hN  hw) (by decide) (by decide) (Nat.le_of_ble_eq_true rfl) dX11_feed_6 (po_ip.k fun r_1 hw => ?_)
  refine ux_if_ne C (tgt := 14) (by decide) dX11_feed_9 (fun hc_13 => ?_) (fun hc_13 => ?_)
  · replace hw := hw.2 hc_13
    refine ux_aload_n C 0 rfl rfl dX11_feed_14 ?_
    refine gf_11_10 C dX11_feed_15 ?_
    refine ux_iload_n C 1 rfl rfl dX11_feed_18 ?_
    refine cs_11_92 C  (c_Tape_push hN  hw) (by decide) (by decide) (Nat.le_of_ble_eq_true rfl) dX11_feed_19 (po_v.k fun a_4 hw => ?_)
    refine ux_aload_n C 0 rfl rfl dX11_feed_22 ?_
    refine gf_11_10 C dX11_feed_23 ?_
    refine ux_iload_n C 2 rfl rfl dX11_feed_26 ?_
    refine cs_11_92 C  (c_Tape_push hN  hw) (by decide) (by decide) (Nat.le_of_ble_eq_true rfl) dX11_feed_27 (po_v.k fun a_6 hw => ?_)
    refine ux_aload_n C 0 rfl rfl dX11_feed_30 ?_
    refine gf_11_10 C dX11_feed_31 ?_
    refine ux_iload_n C 3 rfl rfl dX11_feed_34 ?_
    refine cs_11_92 C  (c_Tape_push hN  hw) (by decide) (by decide) (Nat.le_of_ble_eq_true rfl) dX11_feed_35 (po_v.k fun a_8 hw => ?_)
    refine ux_aload_n C 0 rfl rfl dX11_feed_38 ?_
    refine gf_11_10 C dX11_feed_39 ?_
    refine ux_iload C 4 rfl dX11_feed_42 ?_
    refine cs_11_92 C  (c_Tape_push hN  hw) (by decide) (by decide) (Nat.le_of_ble_eq_true rfl) dX11_feed_44 (po_v.k fun a_10 hw => ?_)
    refine ux_aload_n C 0 rfl rfl dX11_feed_47 ?_
    refine gf_11_10 C dX11_feed_48 ?_
    refine ux_iload C 5 rfl dX11_feed_51 ?_
    refine cs_11_92 C  (c_Tape_push hN  hw) (by decide) (by decide) (Nat.le_of_ble_eq_true rfl) dX11_feed_53 (po_v.k fun a_12 hw => ?_)
    refine ux_aload_n C 0 rfl rfl dX11_feed_56 ?_
    refine gf_11_10 C dX11_feed_57 ?_
    refine gf_11_96 C dX11_feed_60 ?_
    exact ux_iret C ⟨_, rfl, hw⟩ dX11_feed_63
  · replace hw := hw.1 hc_13
    refine ux_iconst C (v := -1) (by decide) dX11_feed_12 ?_
    exact ux_iret C ⟨_, rfl, hw⟩ dX11_feed_13
set_option maxHeartbeats 2000000 in
set_option maxRecDepth 4000 in
theorem c_UpAndDown_word {l : Launch} {D : va_G} {G : Nat → Nat} {z N : Nat} (hN : 92 ≤ N) {a0 : ud_St} {x1 : Int32} {x2 : Int32}  {Qf : Int32 → Prop} (hw : w_UpAndDown_word a0 x1 x2 Qf) : ud_M l D G z N yX11_word cX11_word 4 (some Jvm.ClassFile.FieldType.int) 2 [.ref (z + 0), .int x1, .int x2] a0 (po_ip a0 Qf) := by
  unfold w_UpAndDown_word at hw
  refine ud_M_of hN (by decide) (Nat.le_of_ble_eq_true rfl) ?_
  intro p e s m args below meth c C
  have C : ud_C D G z N p s m args meth c cX11_word 4 RX11 (some Jvm.ClassFile.FieldType.int) := C
  show ud_X D G z N p l e (ud_rm 2 0 0) s m args below meth c 4 0 0 (ud_Q D G z N (po_ip a0 Qf) below args s) a0 0 [(0, .ref (z + 0)), (1, .int x1), (2, .int x2)] []
  refine ux_aload_n C 0 rfl rfl dX11_word_0 ?_
  refine ux_iload_n C 1 rfl rfl dX11_word_1 ?_
  refine cs_11_120 C  (c_UpAndDown_isWord hN  hw) (by decide) (by decide) (Nat.le_of_ble_eq_true rfl) dX11_word_2 (po_ip.k fun r_1 hw => ?_)
  refine ux_if_eq C (tgt := 17) (by decide) dX11_word_5 (fun hc_11 => ?_) (fun hc_11 => ?_)
  · replace hw := hw.1 hc_11
    refine ux_bipush C (v := -2) (by decide) dX11_word_17 ?_
    exact ux_iret C ⟨_, rfl, rfl, hw⟩ dX11_word_19
  · replace hw := hw.2 hc_11
    refine ux_iload_n C 2 rfl rfl dX11_word_8 ?_
    refine ux_if_lt C (tgt := 17) (by decide) dX11_word_9 (fun hc_10 => ?_) (fun hc_10 => ?_)
    · replace hw := hw.1 hc_10
      refine ux_bipush C (v := -2) (by decide) dX11_word_17 ?_
      exact ux_iret C ⟨_, rfl, rfl, hw⟩ dX11_word_19
    · replace hw := hw.2 hc_10
      refine ux_iload_n C 2 rfl rfl dX11_word_12 ?_
      refine ux_iconst C (v := 1) (by decide) dX11_word_13 ?_
      refine ux_icmp_le C (tgt := 20) (by decide) dX11_word_14 (fun hc_9 => ?_) (fun hc_9 => ?_)
      · replace hw := hw.1 hc_9
        refine ux_aload_n C 0 rfl rfl dX11_word_20 ?_
        refine gf_11_28 C dX11_word_21 ?_
        refine gf_11_123 C (uc_4 C.2.2.2.2.2) dX11_word_24 ?_
        refine ux_iload_n C 1 rfl rfl dX11_word_27 ?_
        refine cs_11_126 C (uc_5 C.2.2.2.2.2) (c_Words_sort hN (uc_5 C.2.2.2.2.2) hw) (by decide) (by decide) (Nat.le_of_ble_eq_true rfl) dX11_word_28 (po_ip.k fun r_3 hw => ?_)
        refine ux_istore_n C rfl (by decide) rfl dX11_word_31 ?_
        refine ux_iload_n C 3 rfl rfl dX11_word_32 ?_
        refine ux_if_ne C (tgt := 38) (by decide) dX11_word_33 (fun hc_8 => ?_) (fun hc_8 => ?_)
        · replace hw := hw.2 hc_8
          refine ux_iload_n C 0 rfl rfl dX11_word_38 ?_
          refine ux_bipush C (v := 12) (by decide) dX11_word_39 ?_
          refine ux_icmp_lt C (tgt := 58) (by decide) dX11_word_41 (fun hc_7 => ?_) (fun hc_7 => ?_)
          · replace hw := hw.1 hc_7
            refine ux_iconst C (v := -1) (by decide) dX11_word_58 ?_
            exact ux_iret C ⟨_, rfl, rfl, hw⟩ dX11_word_59
          · replace hw := hw.2 hc_7
            refine ux_aload_n C 1 rfl rfl dX11_word_44 ?_
            refine gf_11_28 C dX11_word_45 ?_
            refine gf_11_123 C (uc_4 C.2.2.2.2.2) dX11_word_48 ?_
            refine ux_iload_n C 2 rfl rfl dX11_word_51 ?_
            refine cs_11_130 C (uc_5 C.2.2.2.2.2) (c_Words_number hN (uc_5 C.2.2.2.2.2) hw) (by decide) (by decide) (Nat.le_of_ble_eq_true rfl) dX11_word_52 (po_ip.k fun r_5 hw => ?_)
            refine ux_goto C (tgt := 59) (by decide) dX11_word_55 ?_
            exact ux_iret C ⟨_, rfl, rfl, hw⟩ dX11_word_59
        · replace hw := hw.1 hc_8
          refine ux_iload_n C 0 rfl rfl dX11_word_36 ?_
          exact ux_iret C ⟨_, rfl, rfl, hw⟩ dX11_word_37
      · replace hw := hw.2 hc_9
        refine ux_bipush C (v := -2) (by decide) dX11_word_17 ?_
        exact ux_iret C ⟨_, rfl, rfl, hw⟩ dX11_word_19
set_option maxHeartbeats 2000000 in
set_option maxRecDepth 4000 in
theorem c_UpAndDown_write {l : Launch} {D : va_G} {G : Nat → Nat} {z N : Nat} (hN : 92 ≤ N) {a0 : ud_St} {x1 : Int32} {x2 : Int32} {x3 : Int64}  {Qf : Int32 → ud_St → Prop} (hw : w_UpAndDown_write a0 x1 x2 x3 Qf) : ud_M l D G z N yX11_write cX11_write 6 (some Jvm.ClassFile.FieldType.int) 2 [.ref (z + 0), .int x1, .int x2, .long x3] a0 (po_i Qf) := by
  unfold w_UpAndDown_write at hw
  refine ud_M_of hN (by decide) (Nat.le_of_ble_eq_true rfl) ?_
  intro p e s m args below meth c C
  have C : ud_C D G z N p s m args meth c cX11_write 6 RX11 (some Jvm.ClassFile.FieldType.int) := C
  show ud_X D G z N p l e (ud_rm 2 0 0) s m args below meth c 6 0 0 (ud_Q D G z N (po_i Qf) below args s) a0 0 [(0, .ref (z + 0)), (1, .int x1), (2, .int x2), (3, .long x3)] []
  refine ux_aload_n C 0 rfl rfl dX11_write_0 ?_
  refine ux_iload_n C 1 rfl rfl dX11_write_1 ?_
  refine cs_11_318 C  (c_UpAndDown_slotAt hN  hw) (by decide) (by decide) (Nat.le_of_ble_eq_true rfl) dX11_write_2 (po_o.k fun r_1 hw => ?_)
  refine ux_astoreO C (by decide) rfl dX11_write_5 ?_
  refine ux_aloadO C 0 rfl dX11_write_7 ?_
  refine ux_ifnonnullO C (tgt := 15) (by decide) dX11_write_9 (fun hq_4 => ?_) (fun q_3 hq_4 => ?_)
  · replace hw := hw.1 hq_4
    refine ux_bipush C (v := -2) (by decide) dX11_write_12 ?_
    exact ux_iret C ⟨_, rfl, hw⟩ dX11_write_14
  · obtain ⟨hs_5, hw⟩ := hw.2 q_3 hq_4
    try rw [hq_4]
    show ud_X D G z N p l e (ud_rm 2 0 0) s m args below meth c 6 0 0 (ud_Q D G z N (po_i Qf) below args s) a0 15 [(5, .ref (z + q_3)), (0, .ref (z + 0)), (1, .int x1), (2, .int x2), (3, .long x3)] []
    refine ux_aload C 0 rfl dX11_write_15 ?_
    refine gf_11_322 C (ud_slot_of C.2.2.2.2.2 hs_5) dX11_write_17 ?_
    refine ux_if_ne C (tgt := 26) (by decide) dX11_write_20 (fun hc_9 => ?_) (fun hc_9 => ?_)
    · replace hw := hw.2 hc_9
      refine ux_aload C 0 rfl dX11_write_26 ?_
      refine ux_iload_n C 3 rfl rfl dX11_write_28 ?_
      refine ux_lload_n C 4 rfl rfl dX11_write_29 ?_
      refine cs_11_354 C (ud_slot_of C.2.2.2.2.2 hs_5) (c_Slot_put hN (ud_slot_of C.2.2.2.2.2 hs_5) hw) (by decide) (by decide) (Nat.le_of_ble_eq_true rfl) dX11_write_30 (po_i.k fun r_6 a_7 hw => ?_)
      refine ux_if_eq C (tgt := 40) (by decide) dX11_write_33 (fun hc_8 => ?_) (fun hc_8 => ?_)
      · replace hw := hw.1 hc_8
        refine ux_bipush C (v := -7) (by decide) dX11_write_40 ?_
        exact ux_iret C ⟨_, rfl, hw⟩ dX11_write_42
      · replace hw := hw.2 hc_8
        refine ux_iconst C (v := 0) (by decide) dX11_write_36 ?_
        refine ux_goto C (tgt := 42) (by decide) dX11_write_37 ?_
        exact ux_iret C ⟨_, rfl, hw⟩ dX11_write_42
    · replace hw := hw.1 hc_9
      refine ux_bipush C (v := -6) (by decide) dX11_write_23 ?_
      exact ux_iret C ⟨_, rfl, hw⟩ dX11_write_25
set_option maxHeartbeats 2000000 in
set_option maxRecDepth 4000 in
theorem c_Model_row {l : Launch} {D : va_G} {G : Nat → Nat} {z N : Nat} (hN : 92 ≤ N) {a0 : ud_St} {x1 : Int32} {x2 : Int32} {x3 : Int32}  {Qf : Int32 → ud_St → Prop} (hw : w_Model_row a0 x1 x2 x3 Qf) : ud_M l D G z N yX12_row cX12_row 5 (some Jvm.ClassFile.FieldType.int) 2 [.ref (z + 71), .int x1, .int x2, .int x3] a0 (po_i Qf) := by
  unfold w_Model_row at hw
  refine ud_M_of hN (by decide) (Nat.le_of_ble_eq_true rfl) ?_
  intro p e s m args below meth c C
  have C : ud_C D G z N p s m args meth c cX12_row 5 RX12 (some Jvm.ClassFile.FieldType.int) := C
  show ud_X D G z N p l e (ud_rm 2 0 0) s m args below meth c 5 0 0 (ud_Q D G z N (po_i Qf) below args s) a0 0 [(0, .ref (z + 71)), (1, .int x1), (2, .int x2), (3, .int x3)] []
  refine ux_aload_n C 0 rfl rfl dX12_row_0 ?_
  refine ux_iconst C (v := 0) (by decide) dX12_row_1 ?_
  refine pf_12_77 C dX12_row_2 ?_
  refine ux_iload_n C 1 rfl rfl dX12_row_5 ?_
  refine cs_12_86 C  (c_Model_isSlot hN  hw) (by decide) (by decide) (Nat.le_of_ble_eq_true rfl) dX12_row_6 (po_ip.k fun r_1 hw => ?_)
  refine ux_if_eq C (tgt := 30) (by decide) dX12_row_9 (fun hc_16 => ?_) (fun hc_16 => ?_)
  · replace hw := hw.1 hc_16
    refine ux_bipush C (v := -2) (by decide) dX12_row_30 ?_
    exact ux_iret C ⟨_, rfl, hw⟩ dX12_row_32
  · replace hw := hw.2 hc_16
    refine ux_iload_n C 2 rfl rfl dX12_row_12 ?_
    refine ux_i2l C dX12_row_13 ?_
    refine ux_lconst C (v := 0) (by decide) dX12_row_14 ?_
    refine ux_ldc2 C (v := 3) mw_1415 dX12_row_15 ?_
    refine cs_12_82 C  (c_Model_in hN  hw) (by decide) (by decide) (Nat.le_of_ble_eq_true rfl) dX12_row_18 (po_ip.k fun r_3 hw => ?_)
    refine ux_if_eq C (tgt := 30) (by decide) dX12_row_21 (fun hc_15 => ?_) (fun hc_15 => ?_)
    · replace hw := hw.1 hc_15
      refine ux_bipush C (v := -2) (by decide) dX12_row_30 ?_
      exact ux_iret C ⟨_, rfl, hw⟩ dX12_row_32
    · replace hw := hw.2 hc_15
      refine ux_iload_n C 3 rfl rfl dX12_row_24 ?_
      refine ux_bipush C (v := 60) (by decide) dX12_row_25 ?_
      refine ux_icmp_le C (tgt := 33) (by decide) dX12_row_27 (fun hc_14 => ?_) (fun hc_14 => ?_)
      · replace hw := hw.1 hc_14
        refine ux_iload_n C 3 rfl rfl dX12_row_33 ?_
        refine ux_if_ge C (tgt := 40) (by decide) dX12_row_34 (fun hc_13 => ?_) (fun hc_13 => ?_)
        · replace hw := hw.1 hc_13
          refine ux_aload_n C 0 rfl rfl dX12_row_40 ?_
          refine gf_12_7 C dX12_row_41 ?_
          refine ux_iload_n C 1 rfl rfl dX12_row_44 ?_
          refine ux_iload_n C 2 rfl rfl dX12_row_45 ?_
          obtain ⟨hi_5, hw⟩ := hw
          refine ux_iast C (uc_72 C.2.2.2.2.2) hi_5 dX12_row_46 ?_
          refine ux_aload_n C 0 rfl rfl dX12_row_47 ?_
          refine gf_12_13 C dX12_row_48 ?_
          refine ux_iload_n C 1 rfl rfl dX12_row_51 ?_
          refine ux_iload_n C 3 rfl rfl dX12_row_52 ?_
          obtain ⟨hi_6, hw⟩ := hw
          refine ux_iast C (uc_73 C.2.2.2.2.2) hi_6 dX12_row_53 ?_
          refine ux_iconst C (v := 0) (by decide) dX12_row_54 ?_
          refine ux_istore C (by decide) rfl dX12_row_55 ?_
          refine ux_pick [1, 2, 4, 0] rfl ?_
          refine LW2.elim (P := fun (x4_9 : Int32) (a_10 : ud_St) => ud_X D G z N p l e (ud_rm 2 0 0) s m args below meth c 5 0 0 (ud_Q D G z N (po_i Qf) below args s) a_10 57 [(0, .ref (z + 71)), (1, .int x1), (3, .int x3), (4, .int x4_9)] []) hw ?_
          intro x4_9 a_10 K_7 hw ih_8
          refine ux_iload C 3 rfl dX12_row_57 ?_
          refine ux_iload_n C 2 rfl rfl dX12_row_59 ?_
          refine ux_icmp_ge C (tgt := 82) (by decide) dX12_row_60 (fun hc_12 => ?_) (fun hc_12 => ?_)
          · replace hw := hw.1 hc_12
            refine ux_iconst C (v := 0) (by decide) dX12_row_82 ?_
            exact ux_iret C ⟨_, rfl, hw⟩ dX12_row_83
          · replace hw := hw.2 hc_12
            refine ux_aload_n C 0 rfl rfl dX12_row_63 ?_
            refine gf_12_16 C dX12_row_64 ?_
            refine ux_bipush C (v := 60) (by decide) dX12_row_67 ?_
            refine ux_iload_n C 1 rfl rfl dX12_row_69 ?_
            refine ux_imul C dX12_row_70 ?_
            refine ux_iload C 3 rfl dX12_row_71 ?_
            refine ux_iadd C dX12_row_73 ?_
            refine ux_lconst C (v := 0) (by decide) dX12_row_74 ?_
            obtain ⟨hi_11, hw⟩ := hw
            refine ux_last C (uc_74 C.2.2.2.2.2) hi_11 dX12_row_75 ?_
            refine ux_iinc C 3 rfl rfl (by decide) rfl dX12_row_76 ?_
            refine ux_goto C (tgt := 57) (by decide) dX12_row_79 ?_
            exact ux_pick [1, 2, 3, 0] rfl (ih_8 _ _ hw)
        · replace hw := hw.2 hc_13
          refine ux_bipush C (v := -3) (by decide) dX12_row_37 ?_
          exact ux_iret C ⟨_, rfl, hw⟩ dX12_row_39
      · replace hw := hw.2 hc_14
        refine ux_bipush C (v := -2) (by decide) dX12_row_30 ?_
        exact ux_iret C ⟨_, rfl, hw⟩ dX12_row_32
set_option maxHeartbeats 2000000 in
set_option maxRecDepth 4000 in
theorem c_Model_write {l : Launch} {D : va_G} {G : Nat → Nat} {z N : Nat} (hN : 92 ≤ N) {a0 : ud_St} {x1 : Int32} {x2 : Int32} {x3 : Int64}  {Qf : Int32 → ud_St → Prop} (hw : w_Model_write a0 x1 x2 x3 Qf) : ud_M l D G z N yX12_write cX12_write 5 (some Jvm.ClassFile.FieldType.int) 2 [.ref (z + 71), .int x1, .int x2, .long x3] a0 (po_i Qf) := by
  unfold w_Model_write at hw
  refine ud_M_of hN (by decide) (Nat.le_of_ble_eq_true rfl) ?_
  intro p e s m args below meth c C
  have C : ud_C D G z N p s m args meth c cX12_write 5 RX12 (some Jvm.ClassFile.FieldType.int) := C
  show ud_X D G z N p l e (ud_rm 2 0 0) s m args below meth c 5 0 0 (ud_Q D G z N (po_i Qf) below args s) a0 0 [(0, .ref (z + 71)), (1, .int x1), (2, .int x2), (3, .long x3)] []
  refine ux_aload_n C 0 rfl rfl dX12_write_0 ?_
  refine ux_iconst C (v := 0) (by decide) dX12_write_1 ?_
  refine pf_12_77 C dX12_write_2 ?_
  refine ux_iload_n C 1 rfl rfl dX12_write_5 ?_
  refine cs_12_86 C  (c_Model_isSlot hN  hw) (by decide) (by decide) (Nat.le_of_ble_eq_true rfl) dX12_write_6 (po_ip.k fun r_1 hw => ?_)
  refine ux_if_ne C (tgt := 15) (by decide) dX12_write_9 (fun hc_13 => ?_) (fun hc_13 => ?_)
  · replace hw := hw.2 hc_13
    refine ux_aload_n C 0 rfl rfl dX12_write_15 ?_
    refine gf_12_7 C dX12_write_16 ?_
    refine ux_iload_n C 1 rfl rfl dX12_write_19 ?_
    obtain ⟨hi_12, hw⟩ := hw
    refine ux_iald C (uc_72 C.2.2.2.2.2) hi_12 dX12_write_20 ?_
    refine ux_iconst C (v := -1) (by decide) dX12_write_21 ?_
    refine ux_icmp_ne C (tgt := 28) (by decide) dX12_write_22 (fun hc_11 => ?_) (fun hc_11 => ?_)
    · replace hw := hw.2 hc_11
      refine ux_iload_n C 2 rfl rfl dX12_write_28 ?_
      refine ux_i2l C dX12_write_29 ?_
      refine ux_lconst C (v := 0) (by decide) dX12_write_30 ?_
      refine ux_aload_n C 0 rfl rfl dX12_write_31 ?_
      refine gf_12_13 C dX12_write_32 ?_
      refine ux_iload_n C 1 rfl rfl dX12_write_35 ?_
      obtain ⟨hi_10, hw⟩ := hw
      refine ux_iald C (uc_73 C.2.2.2.2.2) hi_10 dX12_write_36 ?_
      refine ux_iconst C (v := 1) (by decide) dX12_write_37 ?_
      refine ux_isub C dX12_write_38 ?_
      refine ux_i2l C dX12_write_39 ?_
      refine cs_12_82 C  (c_Model_in hN  hw) (by decide) (by decide) (Nat.le_of_ble_eq_true rfl) dX12_write_40 (po_ip.k fun r_3 hw => ?_)
      refine ux_if_ne C (tgt := 49) (by decide) dX12_write_43 (fun hc_9 => ?_) (fun hc_9 => ?_)
      · replace hw := hw.2 hc_9
        refine ux_aload_n C 0 rfl rfl dX12_write_49 ?_
        refine gf_12_16 C dX12_write_50 ?_
        refine ux_bipush C (v := 60) (by decide) dX12_write_53 ?_
        refine ux_iload_n C 1 rfl rfl dX12_write_55 ?_
        refine ux_imul C dX12_write_56 ?_
        refine ux_iload_n C 2 rfl rfl dX12_write_57 ?_
        refine ux_iadd C dX12_write_58 ?_
        refine ux_lload_n C 3 rfl rfl dX12_write_59 ?_
        refine ux_aload_n C 0 rfl rfl dX12_write_60 ?_
        refine gf_12_7 C dX12_write_61 ?_
        refine ux_iload_n C 1 rfl rfl dX12_write_64 ?_
        obtain ⟨hi_8, hw⟩ := hw
        refine ux_iald C (uc_72 C.2.2.2.2.2) hi_8 dX12_write_65 ?_
        refine cs_12_90 C  (c_Model_cut hN  hw) (by decide) (by decide) (Nat.le_of_ble_eq_true rfl) dX12_write_66 (po_lp.k fun r_5 hw => ?_)
        obtain ⟨hi_7, hw⟩ := hw
        refine ux_last C (uc_74 C.2.2.2.2.2) hi_7 dX12_write_69 ?_
        refine ux_iconst C (v := 0) (by decide) dX12_write_70 ?_
        exact ux_iret C ⟨_, rfl, hw⟩ dX12_write_71
      · replace hw := hw.1 hc_9
        refine ux_bipush C (v := -7) (by decide) dX12_write_46 ?_
        exact ux_iret C ⟨_, rfl, hw⟩ dX12_write_48
    · replace hw := hw.1 hc_11
      refine ux_bipush C (v := -6) (by decide) dX12_write_25 ?_
      exact ux_iret C ⟨_, rfl, hw⟩ dX12_write_27
  · replace hw := hw.1 hc_13
    refine ux_bipush C (v := -2) (by decide) dX12_write_12 ?_
    exact ux_iret C ⟨_, rfl, hw⟩ dX12_write_14
set_option maxHeartbeats 2000000 in
set_option maxRecDepth 4000 in
theorem c_Model_paste_j155 {D : va_G} {G : Nat → Nat} {z N : Nat} {p : Program} {l : Launch} {e : Env} {s : State} {m : MethodId} {args : Array Value} {below : List Frame} {meth : Method} {c : Code} (hN : 92 ≤ N) {a0 : ud_St} {x1 : Int32} {x2 : Int32} {x3 : Int32} {x4 : Int32} {x5 : Int32} {b_155 : ud_St} {y3_155 : Int32} {y4_155 : Int32} {y5_155 : Int32} {y6_155 : Int32}  {Qf : Int32 → ud_St → Prop} (C : ud_C D G z N p s m args meth c cX12_paste 7 RX12 (some Jvm.ClassFile.FieldType.int))  (hw : w_Model_paste_j155 a0 x1 x2 x3 x4 x5 b_155 y3_155 y4_155 y5_155 y6_155 Qf) : ud_X D G z N p l e (ud_rm 2 0 0) s m args below meth c 7 0 0 (ud_Q D G z N (po_i Qf) below args s) b_155 155 [(0, .ref (z + 71)), (3, .int y3_155), (4, .int y4_155), (5, .int y5_155), (6, .int y6_155)] [] := by
  unfold w_Model_paste_j155 at hw
  refine ux_pick [0, 1, 2, 3, 4] rfl ?_
  refine LW2.elim (P := fun (x6_11 : Int32) (a_12 : ud_St) => ud_X D G z N p l e (ud_rm 2 0 0) s m args below meth c 7 0 0 (ud_Q D G z N (po_i Qf) below args s) a_12 155 [(0, .ref (z + 71)), (3, .int y3_155), (4, .int y4_155), (5, .int y5_155), (6, .int x6_11)] []) hw ?_
  intro x6_11 a_12 K_9 hw ih_10
  refine ux_iload C 4 rfl dX12_paste_155 ?_
  refine ux_iload C 3 rfl dX12_paste_157 ?_
  refine ux_icmp_ge C (tgt := 190) (by decide) dX12_paste_159 (fun hc_15 => ?_) (fun hc_15 => ?_)
  · replace hw := hw.1 hc_15
    refine ux_iconst C (v := 0) (by decide) dX12_paste_190 ?_
    exact ux_iret C ⟨_, rfl, hw⟩ dX12_paste_191
  · replace hw := hw.2 hc_15
    refine ux_aload_n C 0 rfl rfl dX12_paste_162 ?_
    refine gf_12_16 C dX12_paste_163 ?_
    refine ux_bipush C (v := 60) (by decide) dX12_paste_166 ?_
    refine ux_iload_n C 1 rfl rfl dX12_paste_168 ?_
    refine ux_imul C dX12_paste_169 ?_
    refine ux_iload C 2 rfl dX12_paste_170 ?_
    refine ux_iadd C dX12_paste_172 ?_
    refine ux_iload C 4 rfl dX12_paste_173 ?_
    refine ux_iadd C dX12_paste_175 ?_
    refine ux_aload_n C 0 rfl rfl dX12_paste_176 ?_
    refine gf_12_20 C dX12_paste_177 ?_
    refine ux_iload C 4 rfl dX12_paste_180 ?_
    obtain ⟨hi_14, hw⟩ := hw
    refine ux_lald C (uc_75 C.2.2.2.2.2) hi_14 dX12_paste_182 ?_
    obtain ⟨hi_13, hw⟩ := hw
    refine ux_last C (uc_74 C.2.2.2.2.2) hi_13 dX12_paste_183 ?_
    refine ux_iinc C 4 rfl rfl (by decide) rfl dX12_paste_184 ?_
    refine ux_goto C (tgt := 155) (by decide) dX12_paste_187 ?_
    exact ux_pick [1, 2, 3, 4, 0] rfl (ih_10 _ _ hw)
set_option maxHeartbeats 2000000 in
set_option maxRecDepth 4000 in
theorem c_Model_paste_j118 {D : va_G} {G : Nat → Nat} {z N : Nat} {p : Program} {l : Launch} {e : Env} {s : State} {m : MethodId} {args : Array Value} {below : List Frame} {meth : Method} {c : Code} (hN : 92 ≤ N) {a0 : ud_St} {x1 : Int32} {x2 : Int32} {x3 : Int32} {x4 : Int32} {x5 : Int32} {b_118 : ud_St} {y1_118 : Int32} {y2_118 : Int32} {y3_118 : Int32} {y4_118 : Int32} {y5_118 : Int32} {y6_118 : Int32}  {Qf : Int32 → ud_St → Prop} (C : ud_C D G z N p s m args meth c cX12_paste 7 RX12 (some Jvm.ClassFile.FieldType.int))  (hw : w_Model_paste_j118 a0 x1 x2 x3 x4 x5 b_118 y1_118 y2_118 y3_118 y4_118 y5_118 y6_118 Qf) : ud_X D G z N p l e (ud_rm 2 0 0) s m args below meth c 7 0 0 (ud_Q D G z N (po_i Qf) below args s) b_118 118 [(0, .ref (z + 71)), (1, .int y1_118), (2, .int y2_118), (3, .int y3_118), (4, .int y4_118), (5, .int y5_118), (6, .int y6_118)] [] := by
  unfold w_Model_paste_j118 at hw
  refine ux_pick [0, 1, 2, 3, 4, 5, 6] rfl ?_
  refine LW2.elim (P := fun (x6_7 : Int32) (a_8 : ud_St) => ud_X D G z N p l e (ud_rm 2 0 0) s m args below meth c 7 0 0 (ud_Q D G z N (po_i Qf) below args s) a_8 118 [(0, .ref (z + 71)), (1, .int y1_118), (2, .int y2_118), (3, .int y3_118), (4, .int y4_118), (5, .int y5_118), (6, .int x6_7)] []) hw ?_
  intro x6_7 a_8 K_5 hw ih_6
  refine ux_iload C 6 rfl dX12_paste_118 ?_
  refine ux_iload C 5 rfl dX12_paste_120 ?_
  refine ux_icmp_ge C (tgt := 152) (by decide) dX12_paste_122 (fun hc_18 => ?_) (fun hc_18 => ?_)
  · replace hw := hw.1 hc_18
    refine ux_iconst C (v := 0) (by decide) dX12_paste_152 ?_
    refine ux_istore C (by decide) rfl dX12_paste_153 ?_
    exact ux_pick [1, 4, 5, 6, 0] rfl (c_Model_paste_j155 hN  C  hw)
  · replace hw := hw.2 hc_18
    refine ux_aload_n C 0 rfl rfl dX12_paste_125 ?_
    refine gf_12_20 C dX12_paste_126 ?_
    refine ux_iload C 6 rfl dX12_paste_129 ?_
    refine ux_aload_n C 0 rfl rfl dX12_paste_131 ?_
    refine gf_12_16 C dX12_paste_132 ?_
    refine ux_bipush C (v := 60) (by decide) dX12_paste_135 ?_
    refine ux_iload_n C 1 rfl rfl dX12_paste_137 ?_
    refine ux_imul C dX12_paste_138 ?_
    refine ux_iload_n C 2 rfl rfl dX12_paste_139 ?_
    refine ux_iadd C dX12_paste_140 ?_
    refine ux_iload C 6 rfl dX12_paste_141 ?_
    refine ux_iadd C dX12_paste_143 ?_
    obtain ⟨hi_17, hw⟩ := hw
    refine ux_lald C (uc_74 C.2.2.2.2.2) hi_17 dX12_paste_144 ?_
    obtain ⟨hi_16, hw⟩ := hw
    refine ux_last C (uc_75 C.2.2.2.2.2) hi_16 dX12_paste_145 ?_
    refine ux_iinc C 6 rfl rfl (by decide) rfl dX12_paste_146 ?_
    refine ux_goto C (tgt := 118) (by decide) dX12_paste_149 ?_
    exact ux_pick [1, 2, 3, 4, 5, 6, 0] rfl (ih_6 _ _ hw)
set_option maxHeartbeats 2000000 in
set_option maxRecDepth 4000 in
theorem c_Model_paste {l : Launch} {D : va_G} {G : Nat → Nat} {z N : Nat} (hN : 92 ≤ N) {a0 : ud_St} {x1 : Int32} {x2 : Int32} {x3 : Int32} {x4 : Int32} {x5 : Int32}  {Qf : Int32 → ud_St → Prop} (hw : w_Model_paste a0 x1 x2 x3 x4 x5 Qf) : ud_M l D G z N yX12_paste cX12_paste 7 (some Jvm.ClassFile.FieldType.int) 2 [.ref (z + 71), .int x1, .int x2, .int x3, .int x4, .int x5] a0 (po_i Qf) := by
  unfold w_Model_paste at hw
  refine ud_M_of hN (by decide) (Nat.le_of_ble_eq_true rfl) ?_
  intro p e s m args below meth c C
  have C : ud_C D G z N p s m args meth c cX12_paste 7 RX12 (some Jvm.ClassFile.FieldType.int) := C
  show ud_X D G z N p l e (ud_rm 2 0 0) s m args below meth c 7 0 0 (ud_Q D G z N (po_i Qf) below args s) a0 0 [(0, .ref (z + 71)), (1, .int x1), (2, .int x2), (3, .int x3), (4, .int x4), (5, .int x5)] []
  refine ux_aload_n C 0 rfl rfl dX12_paste_0 ?_
  refine ux_iconst C (v := 0) (by decide) dX12_paste_1 ?_
  refine pf_12_77 C dX12_paste_2 ?_
  refine ux_iload_n C 1 rfl rfl dX12_paste_5 ?_
  refine cs_12_86 C  (c_Model_isSlot hN  hw) (by decide) (by decide) (Nat.le_of_ble_eq_true rfl) dX12_paste_6 (po_ip.k fun r_1 hw => ?_)
  refine ux_if_eq C (tgt := 19) (by decide) dX12_paste_9 (fun hc_34 => ?_) (fun hc_34 => ?_)
  · replace hw := hw.1 hc_34
    refine ux_bipush C (v := -2) (by decide) dX12_paste_19 ?_
    exact ux_iret C ⟨_, rfl, hw⟩ dX12_paste_21
  · replace hw := hw.2 hc_34
    refine ux_iload_n C 3 rfl rfl dX12_paste_12 ?_
    refine cs_12_86 C  (c_Model_isSlot hN  hw) (by decide) (by decide) (Nat.le_of_ble_eq_true rfl) dX12_paste_13 (po_ip.k fun r_3 hw => ?_)
    refine ux_if_ne C (tgt := 22) (by decide) dX12_paste_16 (fun hc_33 => ?_) (fun hc_33 => ?_)
    · replace hw := hw.2 hc_33
      refine ux_aload_n C 0 rfl rfl dX12_paste_22 ?_
      refine gf_12_7 C dX12_paste_23 ?_
      refine ux_iload_n C 1 rfl rfl dX12_paste_26 ?_
      obtain ⟨hi_32, hw⟩ := hw
      refine ux_iald C (uc_72 C.2.2.2.2.2) hi_32 dX12_paste_27 ?_
      refine ux_iconst C (v := -1) (by decide) dX12_paste_28 ?_
      refine ux_icmp_eq C (tgt := 42) (by decide) dX12_paste_29 (fun hc_31 => ?_) (fun hc_31 => ?_)
      · replace hw := hw.1 hc_31
        refine ux_bipush C (v := -6) (by decide) dX12_paste_42 ?_
        exact ux_iret C ⟨_, rfl, hw⟩ dX12_paste_44
      · replace hw := hw.2 hc_31
        refine ux_aload_n C 0 rfl rfl dX12_paste_32 ?_
        refine gf_12_7 C dX12_paste_33 ?_
        refine ux_iload_n C 3 rfl rfl dX12_paste_36 ?_
        obtain ⟨hi_30, hw⟩ := hw
        refine ux_iald C (uc_72 C.2.2.2.2.2) hi_30 dX12_paste_37 ?_
        refine ux_iconst C (v := -1) (by decide) dX12_paste_38 ?_
        refine ux_icmp_ne C (tgt := 45) (by decide) dX12_paste_39 (fun hc_29 => ?_) (fun hc_29 => ?_)
        · replace hw := hw.2 hc_29
          refine ux_aload_n C 0 rfl rfl dX12_paste_45 ?_
          refine gf_12_7 C dX12_paste_46 ?_
          refine ux_iload_n C 1 rfl rfl dX12_paste_49 ?_
          obtain ⟨hi_28, hw⟩ := hw
          refine ux_iald C (uc_72 C.2.2.2.2.2) hi_28 dX12_paste_50 ?_
          refine ux_aload_n C 0 rfl rfl dX12_paste_51 ?_
          refine gf_12_7 C dX12_paste_52 ?_
          refine ux_iload_n C 3 rfl rfl dX12_paste_55 ?_
          obtain ⟨hi_27, hw⟩ := hw
          refine ux_iald C (uc_72 C.2.2.2.2.2) hi_27 dX12_paste_56 ?_
          refine ux_icmp_eq C (tgt := 63) (by decide) dX12_paste_57 (fun hc_26 => ?_) (fun hc_26 => ?_)
          · replace hw := hw.1 hc_26
            refine ux_iload_n C 2 rfl rfl dX12_paste_63 ?_
            refine ux_if_lt C (tgt := 112) (by decide) dX12_paste_64 (fun hc_25 => ?_) (fun hc_25 => ?_)
            · replace hw := hw.1 hc_25
              refine ux_bipush C (v := -7) (by decide) dX12_paste_112 ?_
              exact ux_iret C ⟨_, rfl, hw⟩ dX12_paste_114
            · replace hw := hw.2 hc_25
              refine ux_iload C 4 rfl dX12_paste_67 ?_
              refine ux_if_lt C (tgt := 112) (by decide) dX12_paste_69 (fun hc_24 => ?_) (fun hc_24 => ?_)
              · replace hw := hw.1 hc_24
                refine ux_bipush C (v := -7) (by decide) dX12_paste_112 ?_
                exact ux_iret C ⟨_, rfl, hw⟩ dX12_paste_114
              · replace hw := hw.2 hc_24
                refine ux_iload C 5 rfl dX12_paste_72 ?_
                refine ux_if_lt C (tgt := 112) (by decide) dX12_paste_74 (fun hc_23 => ?_) (fun hc_23 => ?_)
                · replace hw := hw.1 hc_23
                  refine ux_bipush C (v := -7) (by decide) dX12_paste_112 ?_
                  exact ux_iret C ⟨_, rfl, hw⟩ dX12_paste_114
                · replace hw := hw.2 hc_23
                  refine ux_iload_n C 2 rfl rfl dX12_paste_77 ?_
                  refine ux_i2l C dX12_paste_78 ?_
                  refine ux_iload C 5 rfl dX12_paste_79 ?_
                  refine ux_i2l C dX12_paste_81 ?_
                  refine ux_ladd C dX12_paste_82 ?_
                  refine ux_aload_n C 0 rfl rfl dX12_paste_83 ?_
                  refine gf_12_13 C dX12_paste_84 ?_
                  refine ux_iload_n C 1 rfl rfl dX12_paste_87 ?_
                  obtain ⟨hi_22, hw⟩ := hw
                  refine ux_iald C (uc_73 C.2.2.2.2.2) hi_22 dX12_paste_88 ?_
                  refine ux_i2l C dX12_paste_89 ?_
                  refine ux_lcmp C dX12_paste_90 ?_
                  refine ux_if_gt C (tgt := 112) (by decide) dX12_paste_91 (fun hc_21 => ?_) (fun hc_21 => ?_)
                  · replace hw := hw.1 hc_21
                    refine ux_bipush C (v := -7) (by decide) dX12_paste_112 ?_
                    exact ux_iret C ⟨_, rfl, hw⟩ dX12_paste_114
                  · replace hw := hw.2 hc_21
                    refine ux_iload C 4 rfl dX12_paste_94 ?_
                    refine ux_i2l C dX12_paste_96 ?_
                    refine ux_iload C 5 rfl dX12_paste_97 ?_
                    refine ux_i2l C dX12_paste_99 ?_
                    refine ux_ladd C dX12_paste_100 ?_
                    refine ux_aload_n C 0 rfl rfl dX12_paste_101 ?_
                    refine gf_12_13 C dX12_paste_102 ?_
                    refine ux_iload_n C 3 rfl rfl dX12_paste_105 ?_
                    obtain ⟨hi_20, hw⟩ := hw
                    refine ux_iald C (uc_73 C.2.2.2.2.2) hi_20 dX12_paste_106 ?_
                    refine ux_i2l C dX12_paste_107 ?_
                    refine ux_lcmp C dX12_paste_108 ?_
                    refine ux_if_le C (tgt := 115) (by decide) dX12_paste_109 (fun hc_19 => ?_) (fun hc_19 => ?_)
                    · replace hw := hw.1 hc_19
                      refine ux_iconst C (v := 0) (by decide) dX12_paste_115 ?_
                      refine ux_istore C (by decide) rfl dX12_paste_116 ?_
                      exact ux_pick [1, 2, 3, 4, 5, 6, 0] rfl (c_Model_paste_j118 hN  C  hw)
                    · replace hw := hw.2 hc_19
                      refine ux_bipush C (v := -7) (by decide) dX12_paste_112 ?_
                      exact ux_iret C ⟨_, rfl, hw⟩ dX12_paste_114
          · replace hw := hw.2 hc_26
            refine ux_bipush C (v := -8) (by decide) dX12_paste_60 ?_
            exact ux_iret C ⟨_, rfl, hw⟩ dX12_paste_62
        · replace hw := hw.1 hc_29
          refine ux_bipush C (v := -6) (by decide) dX12_paste_42 ?_
          exact ux_iret C ⟨_, rfl, hw⟩ dX12_paste_44
    · replace hw := hw.1 hc_33
      refine ux_bipush C (v := -2) (by decide) dX12_paste_19 ?_
      exact ux_iret C ⟨_, rfl, hw⟩ dX12_paste_21
set_option maxHeartbeats 2000000 in
set_option maxRecDepth 4000 in
theorem c_Model_takes {l : Launch} {D : va_G} {G : Nat → Nat} {z N : Nat} (hN : 92 ≤ N) {a0 : ud_St} {x1 : Int64}  {Qf : Int32 → ud_St → Prop} (hw : w_Model_takes a0 x1 Qf) : ud_M l D G z N yX12_takes cX12_takes 3 (some Jvm.ClassFile.FieldType.boolean) 2 [.ref (z + 71), .long x1] a0 (po_i Qf) := by
  unfold w_Model_takes at hw
  refine ud_M_of hN (by decide) (Nat.le_of_ble_eq_true rfl) ?_
  intro p e s m args below meth c C
  have C : ud_C D G z N p s m args meth c cX12_takes 3 RX12 (some Jvm.ClassFile.FieldType.boolean) := C
  show ud_X D G z N p l e (ud_rm 2 0 0) s m args below meth c 3 0 0 (ud_Q D G z N (po_i Qf) below args s) a0 0 [(0, .ref (z + 71)), (1, .long x1)] []
  refine ux_aload_n C 0 rfl rfl dX12_takes_0 ?_
  refine ux_lload_n C 1 rfl rfl dX12_takes_1 ?_
  refine cs_12_135 C  (c_Model_is hN  hw) (by decide) (by decide) (Nat.le_of_ble_eq_true rfl) dX12_takes_2 (po_ip.k fun r_1 hw => ?_)
  refine ux_if_ne C (tgt := 10) (by decide) dX12_takes_5 (fun hc_5 => ?_) (fun hc_5 => ?_)
  · replace hw := hw.2 hc_5
    refine ux_aload_n C 0 rfl rfl dX12_takes_10 ?_
    refine cs_12_139 C  (c_Model_next hN  hw) (by decide) (by decide) (Nat.le_of_ble_eq_true rfl) dX12_takes_11 (po_v.k fun a_4 hw => ?_)
    refine ux_iconst C (v := 1) (by decide) dX12_takes_14 ?_
    exact ux_zret C rfl ⟨_, rfl, hw⟩ dX12_takes_15
  · replace hw := hw.1 hc_5
    refine ux_iconst C (v := 0) (by decide) dX12_takes_8 ?_
    exact ux_zret C rfl ⟨_, rfl, hw⟩ dX12_takes_9
set_option maxHeartbeats 2000000 in
set_option maxRecDepth 4000 in
theorem c_Model_number {l : Launch} {D : va_G} {G : Nat → Nat} {z N : Nat} (hN : 92 ≤ N) {a0 : ud_St} {x1 : Int32} {x2 : Int32}  {Qf : Int32 → ud_St → Prop} (hw : w_Model_number a0 x1 x2 Qf) : ud_M l D G z N yX12_number cX12_number 4 (some Jvm.ClassFile.FieldType.int) 2 [.ref (z + 71), .int x1, .int x2] a0 (po_i Qf) := by
  unfold w_Model_number at hw
  refine ud_M_of hN (by decide) (Nat.le_of_ble_eq_true rfl) ?_
  intro p e s m args below meth c C
  have C : ud_C D G z N p s m args meth c cX12_number 4 RX12 (some Jvm.ClassFile.FieldType.int) := C
  show ud_X D G z N p l e (ud_rm 2 0 0) s m args below meth c 4 0 0 (ud_Q D G z N (po_i Qf) below args s) a0 0 [(0, .ref (z + 71)), (1, .int x1), (2, .int x2)] []
  refine ux_aload_n C 0 rfl rfl dX12_number_0 ?_
  refine gf_12_129 C dX12_number_1 ?_
  refine ux_if_eq C (tgt := 9) (by decide) dX12_number_4 (fun hc_11 => ?_) (fun hc_11 => ?_)
  · replace hw := hw.1 hc_11
    refine ux_aload_n C 0 rfl rfl dX12_number_9 ?_
    refine gf_12_118 C dX12_number_10 ?_
    refine ux_iconst C (v := 2) (by decide) dX12_number_13 ?_
    refine ux_icmp_eq C (tgt := 24) (by decide) dX12_number_14 (fun hc_10 => ?_) (fun hc_10 => ?_)
    · replace hw := hw.1 hc_10
      refine ux_aload_n C 0 rfl rfl dX12_number_24 ?_
      refine gf_12_111 C dX12_number_25 ?_
      refine ux_i2l C dX12_number_28 ?_
      refine ux_iload_n C 1 rfl rfl dX12_number_29 ?_
      refine ux_i2l C dX12_number_30 ?_
      refine ux_iload_n C 2 rfl rfl dX12_number_31 ?_
      refine ux_i2l C dX12_number_32 ?_
      refine cs_12_82 C  (c_Model_in hN  hw) (by decide) (by decide) (Nat.le_of_ble_eq_true rfl) dX12_number_33 (po_ip.k fun r_1 hw => ?_)
      refine ux_if_ne C (tgt := 46) (by decide) dX12_number_36 (fun hc_7 => ?_) (fun hc_7 => ?_)
      · replace hw := hw.2 hc_7
        refine ux_aload_n C 0 rfl rfl dX12_number_46 ?_
        refine gf_12_111 C dX12_number_47 ?_
        refine ux_istore_n C rfl (by decide) rfl dX12_number_50 ?_
        refine ux_aload_n C 1 rfl rfl dX12_number_51 ?_
        refine cs_12_139 C  (c_Model_next hN  hw) (by decide) (by decide) (Nat.le_of_ble_eq_true rfl) dX12_number_52 (po_v.k fun a_4 hw => ?_)
        refine ux_iload_n C 0 rfl rfl dX12_number_55 ?_
        exact ux_iret C ⟨_, rfl, hw⟩ dX12_number_56
      · replace hw := hw.1 hc_7
        refine ux_aload_n C 0 rfl rfl dX12_number_39 ?_
        refine ux_iconst C (v := 2) (by decide) dX12_number_40 ?_
        refine cs_12_145 C  (c_Model_fails hN  hw) (by decide) (by decide) (Nat.le_of_ble_eq_true rfl) dX12_number_41 (po_v.k fun a_6 hw => ?_)
        refine ux_iload_n C 1 rfl rfl dX12_number_44 ?_
        exact ux_iret C ⟨_, rfl, hw⟩ dX12_number_45
    · replace hw := hw.2 hc_10
      refine ux_aload_n C 0 rfl rfl dX12_number_17 ?_
      refine ux_iconst C (v := 1) (by decide) dX12_number_18 ?_
      refine cs_12_145 C  (c_Model_fails hN  hw) (by decide) (by decide) (Nat.le_of_ble_eq_true rfl) dX12_number_19 (po_v.k fun a_9 hw => ?_)
      refine ux_iload_n C 1 rfl rfl dX12_number_22 ?_
      exact ux_iret C ⟨_, rfl, hw⟩ dX12_number_23
  · replace hw := hw.2 hc_11
    refine ux_iload_n C 1 rfl rfl dX12_number_7 ?_
    exact ux_iret C ⟨_, rfl, hw⟩ dX12_number_8
set_option maxHeartbeats 2000000 in
set_option maxRecDepth 4000 in
theorem c_Model_ends_j13 {D : va_G} {G : Nat → Nat} {z N : Nat} {p : Program} {l : Launch} {e : Env} {s : State} {m : MethodId} {args : Array Value} {below : List Frame} {meth : Method} {c : Code} (hN : 92 ≤ N) {a0 : ud_St} {b_13 : ud_St}  {Qf : ud_St → Prop} (C : ud_C D G z N p s m args meth c cX12_ends 1 RX12 (none : Option Jvm.ClassFile.FieldType))  (hw : w_Model_ends_j13 a0 b_13 Qf) : ud_X D G z N p l e (ud_rm 2 0 0) s m args below meth c 1 0 0 (ud_Q D G z N (po_v Qf) below args s) b_13 13 [(0, .ref (z + 71))] [] := by
  unfold w_Model_ends_j13 at hw
  refine ux_aload_n C 0 rfl rfl dX12_ends_13 ?_
  refine gf_12_129 C dX12_ends_14 ?_
  refine ux_if_ne C (tgt := 24) (by decide) dX12_ends_17 (fun hc_3 => ?_) (fun hc_3 => ?_)
  · replace hw := hw.2 hc_3
    exact ux_vret C ⟨rfl, hw⟩ dX12_ends_24
  · replace hw := hw.1 hc_3
    refine ux_aload_n C 0 rfl rfl dX12_ends_20 ?_
    refine cs_12_139 C  (c_Model_next hN  hw) (by decide) (by decide) (Nat.le_of_ble_eq_true rfl) dX12_ends_21 (po_v.k fun a_2 hw => ?_)
    exact ux_vret C ⟨rfl, hw⟩ dX12_ends_24
set_option maxHeartbeats 2000000 in
set_option maxRecDepth 4000 in
theorem c_Model_ends {l : Launch} {D : va_G} {G : Nat → Nat} {z N : Nat} (hN : 92 ≤ N) {a0 : ud_St}   {Qf : ud_St → Prop} (hw : w_Model_ends a0  Qf) : ud_M l D G z N yX12_ends cX12_ends 1 (none : Option Jvm.ClassFile.FieldType) 2 [.ref (z + 71)] a0 (po_v Qf) := by
  unfold w_Model_ends at hw
  refine ud_M_of hN (by decide) (Nat.le_of_ble_eq_true rfl) ?_
  intro p e s m args below meth c C
  have C : ud_C D G z N p s m args meth c cX12_ends 1 RX12 (none : Option Jvm.ClassFile.FieldType) := C
  show ud_X D G z N p l e (ud_rm 2 0 0) s m args below meth c 1 0 0 (ud_Q D G z N (po_v Qf) below args s) a0 0 [(0, .ref (z + 71))] []
  refine ux_aload_n C 0 rfl rfl dX12_ends_0 ?_
  refine gf_12_118 C dX12_ends_1 ?_
  refine ux_iconst C (v := 3) (by decide) dX12_ends_4 ?_
  refine ux_icmp_eq C (tgt := 13) (by decide) dX12_ends_5 (fun hc_6 => ?_) (fun hc_6 => ?_)
  · replace hw := hw.1 hc_6
    exact ux_pick [0] rfl (c_Model_ends_j13 hN  C  hw)
  · replace hw := hw.2 hc_6
    refine ux_aload_n C 0 rfl rfl dX12_ends_8 ?_
    refine ux_iconst C (v := 1) (by decide) dX12_ends_9 ?_
    refine cs_12_145 C  (c_Model_fails hN  hw) (by decide) (by decide) (Nat.le_of_ble_eq_true rfl) dX12_ends_10 (po_v.k fun a_5 hw => ?_)
    exact ux_pick [0] rfl (c_Model_ends_j13 hN  C  hw)
set_option maxHeartbeats 2000000 in
set_option maxRecDepth 4000 in
theorem c_Model_begins {l : Launch} {D : va_G} {G : Nat → Nat} {z N : Nat} (hN : 92 ≤ N) {a0 : ud_St}   {Qf : ud_St → Prop} (hw : w_Model_begins a0  Qf) : ud_M l D G z N yX12_begins cX12_begins 1 (none : Option Jvm.ClassFile.FieldType) 2 [.ref (z + 71)] a0 (po_v Qf) := by
  unfold w_Model_begins at hw
  refine ud_M_of hN (by decide) (Nat.le_of_ble_eq_true rfl) ?_
  intro p e s m args below meth c C
  have C : ud_C D G z N p s m args meth c cX12_begins 1 RX12 (none : Option Jvm.ClassFile.FieldType) := C
  show ud_X D G z N p l e (ud_rm 2 0 0) s m args below meth c 1 0 0 (ud_Q D G z N (po_v Qf) below args s) a0 0 [(0, .ref (z + 71))] []
  refine ux_aload_n C 0 rfl rfl dX12_begins_0 ?_
  refine ux_iconst C (v := 0) (by decide) dX12_begins_1 ?_
  refine pf_12_129 C dX12_begins_2 ?_
  refine ux_aload_n C 0 rfl rfl dX12_begins_5 ?_
  refine ux_iconst C (v := -1) (by decide) dX12_begins_6 ?_
  refine pf_12_132 C dX12_begins_7 ?_
  refine ux_aload_n C 0 rfl rfl dX12_begins_10 ?_
  refine ux_iconst C (v := 0) (by decide) dX12_begins_11 ?_
  refine pf_12_101 C dX12_begins_12 ?_
  refine ux_aload_n C 0 rfl rfl dX12_begins_15 ?_
  refine cs_12_139 C  (c_Model_next hN  hw) (by decide) (by decide) (Nat.le_of_ble_eq_true rfl) dX12_begins_16 (po_v.k fun a_2 hw => ?_)
  exact ux_vret C ⟨rfl, hw⟩ dX12_begins_19
set_option maxHeartbeats 2000000 in
set_option maxRecDepth 4000 in
theorem c_Model_up {l : Launch} {D : va_G} {G : Nat → Nat} {z N : Nat} (hN : 92 ≤ N) {a0 : ud_St} {x1 : Int32}  {Qf : Int32 → ud_St → Prop} (hw : w_Model_up a0 x1 Qf) : ud_M l D G z N yX12_up cX12_up 4 (some Jvm.ClassFile.FieldType.int) 2 [.ref (z + 71), .int x1] a0 (po_i Qf) := by
  unfold w_Model_up at hw
  refine ud_M_of hN (by decide) (Nat.le_of_ble_eq_true rfl) ?_
  intro p e s m args below meth c C
  have C : ud_C D G z N p s m args meth c cX12_up 4 RX12 (some Jvm.ClassFile.FieldType.int) := C
  show ud_X D G z N p l e (ud_rm 2 0 0) s m args below meth c 4 0 0 (ud_Q D G z N (po_i Qf) below args s) a0 0 [(0, .ref (z + 71)), (1, .int x1)] []
  refine ux_aload_n C 0 rfl rfl dX12_up_0 ?_
  refine ux_iload_n C 1 rfl rfl dX12_up_1 ?_
  refine cs_12_262 C  (c_Model_sorts hN  hw) (by decide) (by decide) (Nat.le_of_ble_eq_true rfl) dX12_up_2 (po_v.k fun a_2 hw => ?_)
  refine ux_iconst C (v := 0) (by decide) dX12_up_5 ?_
  refine ux_istore_n C rfl (by decide) rfl dX12_up_6 ?_
  refine ux_iconst C (v := 0) (by decide) dX12_up_7 ?_
  refine ux_istore_n C rfl (by decide) rfl dX12_up_8 ?_
  refine ux_pick [2, 1, 0] rfl ?_
  refine LW2.elim (P := fun (x2_5 : Int32) (x3_6 : Int32) => ud_X D G z N p l e (ud_rm 2 0 0) s m args below meth c 4 0 0 (ud_Q D G z N (po_i Qf) below args s) a_2 9 [(0, .ref (z + 71)), (2, .int x2_5), (3, .int x3_6)] []) hw ?_
  intro x2_5 x3_6 K_3 hw ih_4
  refine ux_iload_n C 2 rfl rfl dX12_up_9 ?_
  refine ux_aload_n C 0 rfl rfl dX12_up_10 ?_
  refine gf_12_34 C dX12_up_11 ?_
  refine ux_iconst C (v := 1) (by decide) dX12_up_14 ?_
  obtain ⟨hi_10, hw⟩ := hw
  refine ux_iald C (uc_78 C.2.2.2.2.2) hi_10 dX12_up_15 ?_
  refine ux_icmp_ge C (tgt := 41) (by decide) dX12_up_16 (fun hc_9 => ?_) (fun hc_9 => ?_)
  · replace hw := hw.1 hc_9
    refine ux_iload_n C 1 rfl rfl dX12_up_41 ?_
    exact ux_iret C ⟨_, rfl, hw⟩ dX12_up_42
  · replace hw := hw.2 hc_9
    refine ux_iload_n C 1 rfl rfl dX12_up_19 ?_
    refine ux_aload_n C 0 rfl rfl dX12_up_20 ?_
    refine gf_12_34 C dX12_up_21 ?_
    refine ux_iconst C (v := 0) (by decide) dX12_up_24 ?_
    obtain ⟨hi_8, hw⟩ := hw
    refine ux_iald C (uc_78 C.2.2.2.2.2) hi_8 dX12_up_25 ?_
    refine ux_imul C dX12_up_26 ?_
    refine ux_aload_n C 0 rfl rfl dX12_up_27 ?_
    refine gf_12_53 C dX12_up_28 ?_
    refine ux_iload_n C 2 rfl rfl dX12_up_31 ?_
    obtain ⟨hi_7, hw⟩ := hw
    refine ux_iald C (uc_84 C.2.2.2.2.2) hi_7 dX12_up_32 ?_
    refine ux_iadd C dX12_up_33 ?_
    refine ux_istore_n C rfl (by decide) rfl dX12_up_34 ?_
    refine ux_iinc C 2 rfl rfl (by decide) rfl dX12_up_35 ?_
    refine ux_goto C (tgt := 9) (by decide) dX12_up_38 ?_
    exact ux_pick [2, 1, 0] rfl (ih_4 _ _ hw)
set_option maxHeartbeats 2000000 in
set_option maxRecDepth 4000 in
theorem c_Model_down {l : Launch} {D : va_G} {G : Nat → Nat} {z N : Nat} (hN : 92 ≤ N) {a0 : ud_St} {x1 : Int32}  {Qf : Int32 → ud_St → Prop} (hw : w_Model_down a0 x1 Qf) : ud_M l D G z N yX12_down cX12_down 4 (some Jvm.ClassFile.FieldType.int) 2 [.ref (z + 71), .int x1] a0 (po_i Qf) := by
  unfold w_Model_down at hw
  refine ud_M_of hN (by decide) (Nat.le_of_ble_eq_true rfl) ?_
  intro p e s m args below meth c C
  have C : ud_C D G z N p s m args meth c cX12_down 4 RX12 (some Jvm.ClassFile.FieldType.int) := C
  show ud_X D G z N p l e (ud_rm 2 0 0) s m args below meth c 4 0 0 (ud_Q D G z N (po_i Qf) below args s) a0 0 [(0, .ref (z + 71)), (1, .int x1)] []
  refine ux_aload_n C 0 rfl rfl dX12_down_0 ?_
  refine ux_iload_n C 1 rfl rfl dX12_down_1 ?_
  refine cs_12_262 C  (c_Model_sorts hN  hw) (by decide) (by decide) (Nat.le_of_ble_eq_true rfl) dX12_down_2 (po_v.k fun a_2 hw => ?_)
  refine ux_iconst C (v := 0) (by decide) dX12_down_5 ?_
  refine ux_istore_n C rfl (by decide) rfl dX12_down_6 ?_
  refine ux_aload_n C 1 rfl rfl dX12_down_7 ?_
  refine gf_12_34 C dX12_down_8 ?_
  refine ux_iconst C (v := 1) (by decide) dX12_down_11 ?_
  obtain ⟨hi_10, hw⟩ := hw
  refine ux_iald C (uc_78 C.2.2.2.2.2) hi_10 dX12_down_12 ?_
  refine ux_iconst C (v := 1) (by decide) dX12_down_13 ?_
  refine ux_isub C dX12_down_14 ?_
  refine ux_istore_n C rfl (by decide) rfl dX12_down_15 ?_
  refine ux_pick [2, 1, 0] rfl ?_
  refine LW2.elim (P := fun (x2_5 : Int32) (x3_6 : Int32) => ud_X D G z N p l e (ud_rm 2 0 0) s m args below meth c 4 0 0 (ud_Q D G z N (po_i Qf) below args s) a_2 16 [(0, .ref (z + 71)), (2, .int x2_5), (3, .int x3_6)] []) hw ?_
  intro x2_5 x3_6 K_3 hw ih_4
  refine ux_iload_n C 2 rfl rfl dX12_down_16 ?_
  refine ux_if_lt C (tgt := 42) (by decide) dX12_down_17 (fun hc_9 => ?_) (fun hc_9 => ?_)
  · replace hw := hw.1 hc_9
    refine ux_iload_n C 1 rfl rfl dX12_down_42 ?_
    exact ux_iret C ⟨_, rfl, hw⟩ dX12_down_43
  · replace hw := hw.2 hc_9
    refine ux_iload_n C 1 rfl rfl dX12_down_20 ?_
    refine ux_aload_n C 0 rfl rfl dX12_down_21 ?_
    refine gf_12_34 C dX12_down_22 ?_
    refine ux_iconst C (v := 0) (by decide) dX12_down_25 ?_
    obtain ⟨hi_8, hw⟩ := hw
    refine ux_iald C (uc_78 C.2.2.2.2.2) hi_8 dX12_down_26 ?_
    refine ux_imul C dX12_down_27 ?_
    refine ux_aload_n C 0 rfl rfl dX12_down_28 ?_
    refine gf_12_53 C dX12_down_29 ?_
    refine ux_iload_n C 2 rfl rfl dX12_down_32 ?_
    obtain ⟨hi_7, hw⟩ := hw
    refine ux_iald C (uc_84 C.2.2.2.2.2) hi_7 dX12_down_33 ?_
    refine ux_iadd C dX12_down_34 ?_
    refine ux_istore_n C rfl (by decide) rfl dX12_down_35 ?_
    refine ux_iinc C 2 rfl rfl (by decide) rfl dX12_down_36 ?_
    refine ux_goto C (tgt := 16) (by decide) dX12_down_39 ?_
    exact ux_pick [2, 1, 0] rfl (ih_4 _ _ hw)
set_option maxHeartbeats 2000000 in
set_option maxRecDepth 4000 in
theorem c_Model_word {l : Launch} {D : va_G} {G : Nat → Nat} {z N : Nat} (hN : 92 ≤ N) {a0 : ud_St} {x1 : Int32} {x2 : Int32}  {Qf : Int32 → ud_St → Prop} (hw : w_Model_word a0 x1 x2 Qf) : ud_M l D G z N yX12_word cX12_word 3 (some Jvm.ClassFile.FieldType.int) 2 [.ref (z + 71), .int x1, .int x2] a0 (po_i Qf) := by
  unfold w_Model_word at hw
  refine ud_M_of hN (by decide) (Nat.le_of_ble_eq_true rfl) ?_
  intro p e s m args below meth c C
  have C : ud_C D G z N p s m args meth c cX12_word 3 RX12 (some Jvm.ClassFile.FieldType.int) := C
  show ud_X D G z N p l e (ud_rm 2 0 0) s m args below meth c 3 0 0 (ud_Q D G z N (po_i Qf) below args s) a0 0 [(0, .ref (z + 71)), (1, .int x1), (2, .int x2)] []
  refine ux_aload_n C 0 rfl rfl dX12_word_0 ?_
  refine ux_iconst C (v := 0) (by decide) dX12_word_1 ?_
  refine pf_12_77 C dX12_word_2 ?_
  refine ux_aload_n C 0 rfl rfl dX12_word_5 ?_
  refine ux_iload_n C 1 rfl rfl dX12_word_6 ?_
  refine cs_12_292 C  (c_Model_isWord hN  hw) (by decide) (by decide) (Nat.le_of_ble_eq_true rfl) dX12_word_7 (po_ip.k fun r_1 hw => ?_)
  refine ux_if_eq C (tgt := 36) (by decide) dX12_word_10 (fun hc_7 => ?_) (fun hc_7 => ?_)
  · replace hw := hw.1 hc_7
    refine ux_bipush C (v := -2) (by decide) dX12_word_36 ?_
    exact ux_iret C ⟨_, rfl, hw⟩ dX12_word_38
  · replace hw := hw.2 hc_7
    refine ux_iload_n C 2 rfl rfl dX12_word_13 ?_
    refine ux_i2l C dX12_word_14 ?_
    refine ux_lconst C (v := 0) (by decide) dX12_word_15 ?_
    refine ux_lconst C (v := 1) (by decide) dX12_word_16 ?_
    refine cs_12_82 C  (c_Model_in hN  hw) (by decide) (by decide) (Nat.le_of_ble_eq_true rfl) dX12_word_17 (po_ip.k fun r_3 hw => ?_)
    refine ux_if_eq C (tgt := 36) (by decide) dX12_word_20 (fun hc_6 => ?_) (fun hc_6 => ?_)
    · replace hw := hw.1 hc_6
      refine ux_bipush C (v := -2) (by decide) dX12_word_36 ?_
      exact ux_iret C ⟨_, rfl, hw⟩ dX12_word_38
    · replace hw := hw.2 hc_6
      refine ux_aload_n C 0 rfl rfl dX12_word_23 ?_
      refine gf_12_37 C dX12_word_24 ?_
      refine ux_iconst C (v := 2) (by decide) dX12_word_27 ?_
      refine ux_iload_n C 1 rfl rfl dX12_word_28 ?_
      refine ux_imul C dX12_word_29 ?_
      refine ux_iload_n C 2 rfl rfl dX12_word_30 ?_
      refine ux_iadd C dX12_word_31 ?_
      obtain ⟨hi_5, hw⟩ := hw
      refine ux_iald C (uc_79 C.2.2.2.2.2) hi_5 dX12_word_32 ?_
      refine ux_goto C (tgt := 38) (by decide) dX12_word_33 ?_
      exact ux_iret C ⟨_, rfl, hw⟩ dX12_word_38
set_option maxHeartbeats 2000000 in
set_option maxRecDepth 4000 in
theorem c_Model_turn_j113 {D : va_G} {G : Nat → Nat} {z N : Nat} {p : Program} {l : Launch} {e : Env} {s : State} {m : MethodId} {args : Array Value} {below : List Frame} {meth : Method} {c : Code} (hN : 92 ≤ N) {a0 : ud_St} {x1 : Int32} {x2 : Int32} {x3 : Int32} {b_113 : ud_St} {y1_113 : Int32} {y2_113 : Int32} {y4_113 : Int32} {u0_113 : Int32}  {Qf : Int32 → ud_St → Prop} (C : ud_C D G z N p s m args meth c cX12_turn 6 RX12 (some Jvm.ClassFile.FieldType.int))  (hw : w_Model_turn_j113 a0 x1 x2 x3 b_113 y1_113 y2_113 y4_113 u0_113 Qf) : ud_X D G z N p l e (ud_rm 2 0 0) s m args below meth c 6 0 0 (ud_Q D G z N (po_i Qf) below args s) b_113 113 [(0, .ref (z + 71)), (1, .int y1_113), (2, .int y2_113), (4, .int y4_113)] [.int u0_113] := by
  unfold w_Model_turn_j113 at hw
  refine ux_istore C (by decide) rfl dX12_turn_113 ?_
  refine ux_aload_n C 1 rfl rfl dX12_turn_115 ?_
  refine gf_12_37 C dX12_turn_116 ?_
  refine ux_iconst C (v := 2) (by decide) dX12_turn_119 ?_
  refine ux_iload_n C 2 rfl rfl dX12_turn_120 ?_
  refine ux_imul C dX12_turn_121 ?_
  refine ux_iload_n C 3 rfl rfl dX12_turn_122 ?_
  obtain ⟨hi_7, hw⟩ := hw
  refine ux_iast C (uc_79 C.2.2.2.2.2) hi_7 dX12_turn_123 ?_
  refine ux_aload_n C 1 rfl rfl dX12_turn_124 ?_
  refine gf_12_37 C dX12_turn_125 ?_
  refine ux_iconst C (v := 2) (by decide) dX12_turn_128 ?_
  refine ux_iload_n C 2 rfl rfl dX12_turn_129 ?_
  refine ux_imul C dX12_turn_130 ?_
  refine ux_iconst C (v := 1) (by decide) dX12_turn_131 ?_
  refine ux_iadd C dX12_turn_132 ?_
  refine ux_iload C 4 rfl dX12_turn_133 ?_
  obtain ⟨hi_8, hw⟩ := hw
  refine ux_iast C (uc_79 C.2.2.2.2.2) hi_8 dX12_turn_135 ?_
  refine ux_iload C 0 rfl dX12_turn_136 ?_
  refine ux_if_eq C (tgt := 145) (by decide) dX12_turn_138 (fun hc_9 => ?_) (fun hc_9 => ?_)
  · replace hw := hw.1 hc_9
    refine ux_iconst C (v := 0) (by decide) dX12_turn_145 ?_
    exact ux_iret C ⟨_, rfl, hw⟩ dX12_turn_146
  · replace hw := hw.2 hc_9
    refine ux_iconst C (v := 1) (by decide) dX12_turn_141 ?_
    refine ux_goto C (tgt := 146) (by decide) dX12_turn_142 ?_
    exact ux_iret C ⟨_, rfl, hw⟩ dX12_turn_146
set_option maxHeartbeats 2000000 in
set_option maxRecDepth 4000 in
theorem c_Model_turn_j108 {D : va_G} {G : Nat → Nat} {z N : Nat} {p : Program} {l : Launch} {e : Env} {s : State} {m : MethodId} {args : Array Value} {below : List Frame} {meth : Method} {c : Code} (hN : 92 ≤ N) {a0 : ud_St} {x1 : Int32} {x2 : Int32} {x3 : Int32} {b_108 : ud_St} {y1_108 : Int32} {y2_108 : Int32} {y4_108 : Int32}  {Qf : Int32 → ud_St → Prop} (C : ud_C D G z N p s m args meth c cX12_turn 6 RX12 (some Jvm.ClassFile.FieldType.int))  (hw : w_Model_turn_j108 a0 x1 x2 x3 b_108 y1_108 y2_108 y4_108 Qf) : ud_X D G z N p l e (ud_rm 2 0 0) s m args below meth c 6 0 0 (ud_Q D G z N (po_i Qf) below args s) b_108 108 [(0, .ref (z + 71)), (1, .int y1_108), (2, .int y2_108), (4, .int y4_108)] [] := by
  unfold w_Model_turn_j108 at hw
  refine ux_iconst C (v := 1) (by decide) dX12_turn_108 ?_
  refine ux_goto C (tgt := 113) (by decide) dX12_turn_109 ?_
  exact ux_pick [0, 1, 2, 3] rfl (c_Model_turn_j113 hN  C  hw)
set_option maxHeartbeats 2000000 in
set_option maxRecDepth 4000 in
theorem c_Model_turn_j79 {D : va_G} {G : Nat → Nat} {z N : Nat} {p : Program} {l : Launch} {e : Env} {s : State} {m : MethodId} {args : Array Value} {below : List Frame} {meth : Method} {c : Code} (hN : 92 ≤ N) {a0 : ud_St} {x1 : Int32} {x2 : Int32} {x3 : Int32} {b_79 : ud_St} {y1_79 : Int32} {y2_79 : Int32} {u0_79 : Int32}  {Qf : Int32 → ud_St → Prop} (C : ud_C D G z N p s m args meth c cX12_turn 6 RX12 (some Jvm.ClassFile.FieldType.int))  (hw : w_Model_turn_j79 a0 x1 x2 x3 b_79 y1_79 y2_79 u0_79 Qf) : ud_X D G z N p l e (ud_rm 2 0 0) s m args below meth c 6 0 0 (ud_Q D G z N (po_i Qf) below args s) b_79 79 [(0, .ref (z + 71)), (1, .int y1_79), (2, .int y2_79)] [.int u0_79] := by
  unfold w_Model_turn_j79 at hw
  refine ux_istore C (by decide) rfl dX12_turn_79 ?_
  refine ux_aload_n C 1 rfl rfl dX12_turn_81 ?_
  refine gf_12_37 C dX12_turn_82 ?_
  refine ux_iconst C (v := 2) (by decide) dX12_turn_85 ?_
  refine ux_iload_n C 2 rfl rfl dX12_turn_86 ?_
  refine ux_imul C dX12_turn_87 ?_
  obtain ⟨hi_13, hw⟩ := hw
  refine ux_iald C (uc_79 C.2.2.2.2.2) hi_13 dX12_turn_88 ?_
  refine ux_iload_n C 3 rfl rfl dX12_turn_89 ?_
  refine ux_icmp_ne C (tgt := 108) (by decide) dX12_turn_90 (fun hc_12 => ?_) (fun hc_12 => ?_)
  · replace hw := hw.2 hc_12
    exact ux_pick [1, 2, 3, 0] rfl (c_Model_turn_j108 hN  C  hw)
  · replace hw := hw.1 hc_12
    refine ux_aload_n C 1 rfl rfl dX12_turn_93 ?_
    refine gf_12_37 C dX12_turn_94 ?_
    refine ux_iconst C (v := 2) (by decide) dX12_turn_97 ?_
    refine ux_iload_n C 2 rfl rfl dX12_turn_98 ?_
    refine ux_imul C dX12_turn_99 ?_
    refine ux_iconst C (v := 1) (by decide) dX12_turn_100 ?_
    refine ux_iadd C dX12_turn_101 ?_
    obtain ⟨hi_11, hw⟩ := hw
    refine ux_iald C (uc_79 C.2.2.2.2.2) hi_11 dX12_turn_102 ?_
    refine ux_iload C 0 rfl dX12_turn_103 ?_
    refine ux_icmp_eq C (tgt := 112) (by decide) dX12_turn_105 (fun hc_10 => ?_) (fun hc_10 => ?_)
    · replace hw := hw.1 hc_10
      refine ux_iconst C (v := 0) (by decide) dX12_turn_112 ?_
      exact ux_pick [1, 2, 3, 0] rfl (c_Model_turn_j113 hN  C  hw)
    · replace hw := hw.2 hc_10
      exact ux_pick [1, 2, 3, 0] rfl (c_Model_turn_j108 hN  C  hw)
set_option maxHeartbeats 2000000 in
set_option maxRecDepth 4000 in
theorem c_Model_turn_j59 {D : va_G} {G : Nat → Nat} {z N : Nat} {p : Program} {l : Launch} {e : Env} {s : State} {m : MethodId} {args : Array Value} {below : List Frame} {meth : Method} {c : Code} (hN : 92 ≤ N) {a0 : ud_St} {x1 : Int32} {x2 : Int32} {x3 : Int32} {b_59 : ud_St} {y1_59 : Int32} {y2_59 : Int32} {y3_59 : Int32} {u0_59 : Int64} {u1_59 : Int64} {u2_59 : Int64}  {Qf : Int32 → ud_St → Prop} (C : ud_C D G z N p s m args meth c cX12_turn 6 RX12 (some Jvm.ClassFile.FieldType.int))  (hw : w_Model_turn_j59 a0 x1 x2 x3 b_59 y1_59 y2_59 y3_59 u0_59 u1_59 u2_59 Qf) : ud_X D G z N p l e (ud_rm 2 0 0) s m args below meth c 6 0 0 (ud_Q D G z N (po_i Qf) below args s) b_59 59 [(0, .ref (z + 71)), (1, .int y1_59), (2, .int y2_59), (3, .int y3_59)] [.long u0_59, .long u1_59, .long u2_59] := by
  unfold w_Model_turn_j59 at hw
  refine cs_12_82 C  (c_Model_in hN  hw) (by decide) (by decide) (Nat.le_of_ble_eq_true rfl) dX12_turn_59 (po_ip.k fun r_5 hw => ?_)
  refine ux_if_ne C (tgt := 68) (by decide) dX12_turn_62 (fun hc_15 => ?_) (fun hc_15 => ?_)
  · replace hw := hw.2 hc_15
    refine ux_iload_n C 2 rfl rfl dX12_turn_68 ?_
    refine ux_bipush C (v := 12) (by decide) dX12_turn_69 ?_
    refine ux_icmp_lt C (tgt := 78) (by decide) dX12_turn_71 (fun hc_14 => ?_) (fun hc_14 => ?_)
    · replace hw := hw.1 hc_14
      refine ux_iconst C (v := -1) (by decide) dX12_turn_78 ?_
      exact ux_pick [0, 1, 2] rfl (c_Model_turn_j79 hN  C  hw)
    · replace hw := hw.2 hc_14
      refine ux_iload_n C 3 rfl rfl dX12_turn_74 ?_
      refine ux_goto C (tgt := 79) (by decide) dX12_turn_75 ?_
      exact ux_pick [0, 1, 2] rfl (c_Model_turn_j79 hN  C  hw)
  · replace hw := hw.1 hc_15
    refine ux_bipush C (v := -2) (by decide) dX12_turn_65 ?_
    exact ux_iret C ⟨_, rfl, hw⟩ dX12_turn_67
set_option maxHeartbeats 2000000 in
set_option maxRecDepth 4000 in
theorem c_Model_turn {l : Launch} {D : va_G} {G : Nat → Nat} {z N : Nat} (hN : 92 ≤ N) {a0 : ud_St} {x1 : Int32} {x2 : Int32} {x3 : Int32}  {Qf : Int32 → ud_St → Prop} (hw : w_Model_turn a0 x1 x2 x3 Qf) : ud_M l D G z N yX12_turn cX12_turn 6 (some Jvm.ClassFile.FieldType.int) 2 [.ref (z + 71), .int x1, .int x2, .int x3] a0 (po_i Qf) := by
  unfold w_Model_turn at hw
  refine ud_M_of hN (by decide) (Nat.le_of_ble_eq_true rfl) ?_
  intro p e s m args below meth c C
  have C : ud_C D G z N p s m args meth c cX12_turn 6 RX12 (some Jvm.ClassFile.FieldType.int) := C
  show ud_X D G z N p l e (ud_rm 2 0 0) s m args below meth c 6 0 0 (ud_Q D G z N (po_i Qf) below args s) a0 0 [(0, .ref (z + 71)), (1, .int x1), (2, .int x2), (3, .int x3)] []
  refine ux_aload_n C 0 rfl rfl dX12_turn_0 ?_
  refine ux_iconst C (v := 0) (by decide) dX12_turn_1 ?_
  refine pf_12_77 C dX12_turn_2 ?_
  refine ux_aload_n C 0 rfl rfl dX12_turn_5 ?_
  refine ux_iload_n C 1 rfl rfl dX12_turn_6 ?_
  refine cs_12_292 C  (c_Model_isWord hN  hw) (by decide) (by decide) (Nat.le_of_ble_eq_true rfl) dX12_turn_7 (po_ip.k fun r_1 hw => ?_)
  refine ux_if_eq C (tgt := 65) (by decide) dX12_turn_10 (fun hc_20 => ?_) (fun hc_20 => ?_)
  · replace hw := hw.1 hc_20
    refine ux_bipush C (v := -2) (by decide) dX12_turn_65 ?_
    exact ux_iret C ⟨_, rfl, hw⟩ dX12_turn_67
  · replace hw := hw.2 hc_20
    refine ux_iload_n C 2 rfl rfl dX12_turn_13 ?_
    refine ux_i2l C dX12_turn_14 ?_
    refine ux_lconst C (v := 0) (by decide) dX12_turn_15 ?_
    refine ux_ldc2 C (v := 14) mw_1576 dX12_turn_16 ?_
    refine cs_12_82 C  (c_Model_in hN  hw) (by decide) (by decide) (Nat.le_of_ble_eq_true rfl) dX12_turn_19 (po_ip.k fun r_3 hw => ?_)
    refine ux_if_eq C (tgt := 65) (by decide) dX12_turn_22 (fun hc_19 => ?_) (fun hc_19 => ?_)
    · replace hw := hw.1 hc_19
      refine ux_bipush C (v := -2) (by decide) dX12_turn_65 ?_
      exact ux_iret C ⟨_, rfl, hw⟩ dX12_turn_67
    · replace hw := hw.2 hc_19
      refine ux_iload_n C 3 rfl rfl dX12_turn_25 ?_
      refine ux_i2l C dX12_turn_26 ?_
      refine ux_lconst C (v := 0) (by decide) dX12_turn_27 ?_
      refine ux_iload_n C 2 rfl rfl dX12_turn_28 ?_
      refine ux_bipush C (v := 14) (by decide) dX12_turn_29 ?_
      refine ux_icmp_ne C (tgt := 46) (by decide) dX12_turn_31 (fun hc_18 => ?_) (fun hc_18 => ?_)
      · replace hw := hw.2 hc_18
        refine ux_iload_n C 2 rfl rfl dX12_turn_46 ?_
        refine ux_bipush C (v := 12) (by decide) dX12_turn_47 ?_
        refine ux_icmp_lt C (tgt := 58) (by decide) dX12_turn_49 (fun hc_16 => ?_) (fun hc_16 => ?_)
        · replace hw := hw.1 hc_16
          refine ux_lconst C (v := 0) (by decide) dX12_turn_58 ?_
          exact ux_pick [0, 1, 2, 3] rfl (c_Model_turn_j59 hN  C  hw)
        · replace hw := hw.2 hc_16
          refine ux_ldc2 C (v := 99) mw_1577 dX12_turn_52 ?_
          refine ux_goto C (tgt := 59) (by decide) dX12_turn_55 ?_
          exact ux_pick [0, 1, 2, 3] rfl (c_Model_turn_j59 hN  C  hw)
      · replace hw := hw.1 hc_18
        refine ux_aload_n C 0 rfl rfl dX12_turn_34 ?_
        refine gf_12_34 C dX12_turn_35 ?_
        refine ux_iconst C (v := 0) (by decide) dX12_turn_38 ?_
        obtain ⟨hi_17, hw⟩ := hw
        refine ux_iald C (uc_78 C.2.2.2.2.2) hi_17 dX12_turn_39 ?_
        refine ux_iconst C (v := 1) (by decide) dX12_turn_40 ?_
        refine ux_isub C dX12_turn_41 ?_
        refine ux_i2l C dX12_turn_42 ?_
        refine ux_goto C (tgt := 59) (by decide) dX12_turn_43 ?_
        exact ux_pick [0, 1, 2, 3] rfl (c_Model_turn_j59 hN  C  hw)
set_option maxHeartbeats 2000000 in
set_option maxRecDepth 4000 in
theorem c_Model_figure {l : Launch} {D : va_G} {G : Nat → Nat} {z N : Nat} (hN : 92 ≤ N) {a0 : ud_St} {x1 : Int32} {x2 : Int32}  {Qf : Int32 → ud_St → Prop} (hw : w_Model_figure a0 x1 x2 Qf) : ud_M l D G z N yX12_figure cX12_figure 3 (some Jvm.ClassFile.FieldType.int) 2 [.ref (z + 71), .int x1, .int x2] a0 (po_i Qf) := by
  unfold w_Model_figure at hw
  refine ud_M_of hN (by decide) (Nat.le_of_ble_eq_true rfl) ?_
  intro p e s m args below meth c C
  have C : ud_C D G z N p s m args meth c cX12_figure 3 RX12 (some Jvm.ClassFile.FieldType.int) := C
  show ud_X D G z N p l e (ud_rm 2 0 0) s m args below meth c 3 0 0 (ud_Q D G z N (po_i Qf) below args s) a0 0 [(0, .ref (z + 71)), (1, .int x1), (2, .int x2)] []
  refine ux_aload_n C 0 rfl rfl dX12_figure_0 ?_
  refine ux_iconst C (v := 0) (by decide) dX12_figure_1 ?_
  refine pf_12_77 C dX12_figure_2 ?_
  refine ux_aload_n C 0 rfl rfl dX12_figure_5 ?_
  refine ux_iload_n C 1 rfl rfl dX12_figure_6 ?_
  refine ux_i2l C dX12_figure_7 ?_
  refine cs_12_302 C  (c_Model_isNumber hN  hw) (by decide) (by decide) (Nat.le_of_ble_eq_true rfl) dX12_figure_8 (po_ip.k fun r_1 hw => ?_)
  refine ux_if_eq C (tgt := 32) (by decide) dX12_figure_11 (fun hc_10 => ?_) (fun hc_10 => ?_)
  · replace hw := hw.1 hc_10
    refine ux_bipush C (v := -2) (by decide) dX12_figure_32 ?_
    exact ux_iret C ⟨_, rfl, hw⟩ dX12_figure_34
  · replace hw := hw.2 hc_10
    refine ux_iload_n C 2 rfl rfl dX12_figure_14 ?_
    refine ux_i2l C dX12_figure_15 ?_
    refine ux_lconst C (v := 0) (by decide) dX12_figure_16 ?_
    refine ux_aload_n C 0 rfl rfl dX12_figure_17 ?_
    refine gf_12_34 C dX12_figure_18 ?_
    refine ux_iconst C (v := 1) (by decide) dX12_figure_21 ?_
    obtain ⟨hi_9, hw⟩ := hw
    refine ux_iald C (uc_78 C.2.2.2.2.2) hi_9 dX12_figure_22 ?_
    refine ux_iconst C (v := 1) (by decide) dX12_figure_23 ?_
    refine ux_isub C dX12_figure_24 ?_
    refine ux_i2l C dX12_figure_25 ?_
    refine cs_12_82 C  (c_Model_in hN  hw) (by decide) (by decide) (Nat.le_of_ble_eq_true rfl) dX12_figure_26 (po_ip.k fun r_3 hw => ?_)
    refine ux_if_ne C (tgt := 35) (by decide) dX12_figure_29 (fun hc_8 => ?_) (fun hc_8 => ?_)
    · replace hw := hw.2 hc_8
      refine ux_aload_n C 0 rfl rfl dX12_figure_35 ?_
      refine ux_iload_n C 1 rfl rfl dX12_figure_36 ?_
      refine cs_12_259 C  (c_Model_figures hN  hw) (by decide) (by decide) (Nat.le_of_ble_eq_true rfl) dX12_figure_37 (po_v.k fun a_6 hw => ?_)
      refine ux_aload_n C 0 rfl rfl dX12_figure_40 ?_
      refine gf_12_50 C dX12_figure_41 ?_
      refine ux_iload_n C 2 rfl rfl dX12_figure_44 ?_
      obtain ⟨hi_7, hw⟩ := hw
      refine ux_iald C (uc_83 C.2.2.2.2.2) hi_7 dX12_figure_45 ?_
      exact ux_iret C ⟨_, rfl, hw⟩ dX12_figure_46
    · replace hw := hw.1 hc_8
      refine ux_bipush C (v := -2) (by decide) dX12_figure_32 ?_
      exact ux_iret C ⟨_, rfl, hw⟩ dX12_figure_34
set_option maxHeartbeats 2000000 in
set_option maxRecDepth 4000 in
theorem c_Model_goesAll {l : Launch} {D : va_G} {G : Nat → Nat} {z N : Nat} (hN : 92 ≤ N) {a0 : ud_St}   {Qf : ud_St → Prop} (hw : w_Model_goesAll a0  Qf) : ud_M l D G z N yX12_goesAll cX12_goesAll 2 (none : Option Jvm.ClassFile.FieldType) 2 [.ref (z + 71)] a0 (po_v Qf) := by
  unfold w_Model_goesAll at hw
  refine ud_M_of hN (by decide) (Nat.le_of_ble_eq_true rfl) ?_
  intro p e s m args below meth c C
  have C : ud_C D G z N p s m args meth c cX12_goesAll 2 RX12 (none : Option Jvm.ClassFile.FieldType) := C
  show ud_X D G z N p l e (ud_rm 2 0 0) s m args below meth c 2 0 0 (ud_Q D G z N (po_v Qf) below args s) a0 0 [(0, .ref (z + 71))] []
  refine ux_iconst C (v := 0) (by decide) dX12_goesAll_0 ?_
  refine ux_istore_n C rfl (by decide) rfl dX12_goesAll_1 ?_
  refine ux_pick [1, 0] rfl ?_
  refine LW2.elim (P := fun (x1_3 : Int32) (a_4 : ud_St) => ud_X D G z N p l e (ud_rm 2 0 0) s m args below meth c 2 0 0 (ud_Q D G z N (po_v Qf) below args s) a_4 2 [(0, .ref (z + 71)), (1, .int x1_3)] []) hw ?_
  intro x1_3 a_4 K_1 hw ih_2
  refine ux_iload_n C 1 rfl rfl dX12_goesAll_2 ?_
  refine ux_aload_n C 0 rfl rfl dX12_goesAll_3 ?_
  refine gf_12_34 C dX12_goesAll_4 ?_
  refine ux_iconst C (v := 2) (by decide) dX12_goesAll_7 ?_
  obtain ⟨hi_9, hw⟩ := hw
  refine ux_iald C (uc_78 C.2.2.2.2.2) hi_9 dX12_goesAll_8 ?_
  refine ux_icmp_ge C (tgt := 25) (by decide) dX12_goesAll_9 (fun hc_8 => ?_) (fun hc_8 => ?_)
  · replace hw := hw.1 hc_8
    refine ux_aload_n C 0 rfl rfl dX12_goesAll_25 ?_
    refine cs_12_308 C  (c_Model_gathers hN  hw) (by decide) (by decide) (Nat.le_of_ble_eq_true rfl) dX12_goesAll_26 (po_v.k fun a_6 hw => ?_)
    exact ux_vret C ⟨rfl, hw⟩ dX12_goesAll_29
  · replace hw := hw.2 hc_8
    refine ux_aload_n C 0 rfl rfl dX12_goesAll_12 ?_
    refine gf_12_65 C dX12_goesAll_13 ?_
    refine ux_iload_n C 1 rfl rfl dX12_goesAll_16 ?_
    refine ux_iconst C (v := 0) (by decide) dX12_goesAll_17 ?_
    obtain ⟨hi_7, hw⟩ := hw
    refine ux_iast C (uc_88 C.2.2.2.2.2) hi_7 dX12_goesAll_18 ?_
    refine ux_iinc C 1 rfl rfl (by decide) rfl dX12_goesAll_19 ?_
    refine ux_goto C (tgt := 2) (by decide) dX12_goesAll_22 ?_
    exact ux_pick [1, 0] rfl (ih_2 _ _ hw)
set_option maxHeartbeats 2000000 in
set_option maxRecDepth 4000 in
theorem c_Model_isOf {l : Launch} {D : va_G} {G : Nat → Nat} {z N : Nat} (hN : 92 ≤ N) {a0 : ud_St} {x1 : Int32} {x2 : Int32}  {Qf : Int32 → ud_St → Prop} (hw : w_Model_isOf a0 x1 x2 Qf) : ud_M l D G z N yX12_isOf cX12_isOf 4 (some Jvm.ClassFile.FieldType.boolean) 2 [.ref (z + 71), .int x1, .int x2] a0 (po_i Qf) := by
  unfold w_Model_isOf at hw
  refine ud_M_of hN (by decide) (Nat.le_of_ble_eq_true rfl) ?_
  intro p e s m args below meth c C
  have C : ud_C D G z N p s m args meth c cX12_isOf 4 RX12 (some Jvm.ClassFile.FieldType.boolean) := C
  show ud_X D G z N p l e (ud_rm 2 0 0) s m args below meth c 4 0 0 (ud_Q D G z N (po_i Qf) below args s) a0 0 [(0, .ref (z + 71)), (1, .int x1), (2, .int x2)] []
  refine ux_iload_n C 1 rfl rfl dX12_isOf_0 ?_
  refine ux_if_ne C (tgt := 6) (by decide) dX12_isOf_1 (fun hc_20 => ?_) (fun hc_20 => ?_)
  · replace hw := hw.2 hc_20
    refine ux_iload_n C 1 rfl rfl dX12_isOf_6 ?_
    refine ux_iconst C (v := 3) (by decide) dX12_isOf_7 ?_
    refine ux_icmp_ne C (tgt := 17) (by decide) dX12_isOf_8 (fun hc_19 => ?_) (fun hc_19 => ?_)
    · replace hw := hw.2 hc_19
      refine ux_aload_n C 0 rfl rfl dX12_isOf_17 ?_
      refine ux_iload_n C 2 rfl rfl dX12_isOf_18 ?_
      refine cs_12_262 C  (c_Model_sorts hN  hw) (by decide) (by decide) (Nat.le_of_ble_eq_true rfl) dX12_isOf_19 (po_v.k fun a_2 hw => ?_)
      refine ux_iload_n C 1 rfl rfl dX12_isOf_22 ?_
      refine ux_iconst C (v := 1) (by decide) dX12_isOf_23 ?_
      refine ux_icmp_ne C (tgt := 55) (by decide) dX12_isOf_24 (fun hc_15 => ?_) (fun hc_15 => ?_)
      · replace hw := hw.2 hc_15
        refine ux_iconst C (v := 1) (by decide) dX12_isOf_55 ?_
        refine ux_istore_n C rfl (by decide) rfl dX12_isOf_56 ?_
        refine ux_pick [1, 0] rfl ?_
        refine LW1.elim (P := fun (x3_5 : Int32) => ud_X D G z N p l e (ud_rm 2 0 0) s m args below meth c 4 0 0 (ud_Q D G z N (po_i Qf) below args s) a_2 57 [(0, .ref (z + 71)), (3, .int x3_5)] []) hw ?_
        intro x3_5 K_3 hw ih_4
        refine ux_iload_n C 1 rfl rfl dX12_isOf_57 ?_
        refine ux_aload_n C 0 rfl rfl dX12_isOf_58 ?_
        refine gf_12_34 C dX12_isOf_59 ?_
        refine ux_iconst C (v := 1) (by decide) dX12_isOf_62 ?_
        obtain ⟨hi_10, hw⟩ := hw
        refine ux_iald C (uc_78 C.2.2.2.2.2) hi_10 dX12_isOf_63 ?_
        refine ux_icmp_ge C (tgt := 92) (by decide) dX12_isOf_64 (fun hc_9 => ?_) (fun hc_9 => ?_)
        · replace hw := hw.1 hc_9
          refine ux_iconst C (v := 1) (by decide) dX12_isOf_92 ?_
          exact ux_zret C rfl ⟨_, rfl, hw⟩ dX12_isOf_93
        · replace hw := hw.2 hc_9
          refine ux_aload_n C 0 rfl rfl dX12_isOf_67 ?_
          refine gf_12_53 C dX12_isOf_68 ?_
          refine ux_iload_n C 1 rfl rfl dX12_isOf_71 ?_
          obtain ⟨hi_8, hw⟩ := hw
          refine ux_iald C (uc_84 C.2.2.2.2.2) hi_8 dX12_isOf_72 ?_
          refine ux_aload_n C 0 rfl rfl dX12_isOf_73 ?_
          refine gf_12_53 C dX12_isOf_74 ?_
          refine ux_iload_n C 1 rfl rfl dX12_isOf_77 ?_
          refine ux_iconst C (v := 1) (by decide) dX12_isOf_78 ?_
          refine ux_isub C dX12_isOf_79 ?_
          obtain ⟨hi_7, hw⟩ := hw
          refine ux_iald C (uc_84 C.2.2.2.2.2) hi_7 dX12_isOf_80 ?_
          refine ux_icmp_ne C (tgt := 86) (by decide) dX12_isOf_81 (fun hc_6 => ?_) (fun hc_6 => ?_)
          · replace hw := hw.2 hc_6
            refine ux_iinc C 1 rfl rfl (by decide) rfl dX12_isOf_86 ?_
            refine ux_goto C (tgt := 57) (by decide) dX12_isOf_89 ?_
            exact ux_pick [1, 0] rfl (ih_4 _ hw)
          · replace hw := hw.1 hc_6
            refine ux_iconst C (v := 0) (by decide) dX12_isOf_84 ?_
            exact ux_zret C rfl ⟨_, rfl, hw⟩ dX12_isOf_85
      · replace hw := hw.1 hc_15
        refine ux_aload_n C 0 rfl rfl dX12_isOf_27 ?_
        refine gf_12_53 C dX12_isOf_28 ?_
        refine ux_iconst C (v := 0) (by decide) dX12_isOf_31 ?_
        obtain ⟨hi_14, hw⟩ := hw
        refine ux_iald C (uc_84 C.2.2.2.2.2) hi_14 dX12_isOf_32 ?_
        refine ux_aload_n C 0 rfl rfl dX12_isOf_33 ?_
        refine gf_12_53 C dX12_isOf_34 ?_
        refine ux_aload_n C 0 rfl rfl dX12_isOf_37 ?_
        refine gf_12_34 C dX12_isOf_38 ?_
        refine ux_iconst C (v := 1) (by decide) dX12_isOf_41 ?_
        obtain ⟨hi_13, hw⟩ := hw
        refine ux_iald C (uc_78 C.2.2.2.2.2) hi_13 dX12_isOf_42 ?_
        refine ux_iconst C (v := 1) (by decide) dX12_isOf_43 ?_
        refine ux_isub C dX12_isOf_44 ?_
        obtain ⟨hi_12, hw⟩ := hw
        refine ux_iald C (uc_84 C.2.2.2.2.2) hi_12 dX12_isOf_45 ?_
        refine ux_icmp_eq C (tgt := 53) (by decide) dX12_isOf_46 (fun hc_11 => ?_) (fun hc_11 => ?_)
        · replace hw := hw.1 hc_11
          refine ux_iconst C (v := 0) (by decide) dX12_isOf_53 ?_
          exact ux_zret C rfl ⟨_, rfl, hw⟩ dX12_isOf_54
        · replace hw := hw.2 hc_11
          refine ux_iconst C (v := 1) (by decide) dX12_isOf_49 ?_
          refine ux_goto C (tgt := 54) (by decide) dX12_isOf_50 ?_
          exact ux_zret C rfl ⟨_, rfl, hw⟩ dX12_isOf_54
    · replace hw := hw.1 hc_19
      refine ux_aload_n C 0 rfl rfl dX12_isOf_11 ?_
      refine ux_iload_n C 2 rfl rfl dX12_isOf_12 ?_
      refine cs_12_353 C  (c_Model_isTold hN  hw) (by decide) (by decide) (Nat.le_of_ble_eq_true rfl) dX12_isOf_13 (po_ip.k fun r_16 hw => ?_)
      obtain ⟨hn_18, hw⟩ := hw
      exact ux_zret C (ud_narZ hn_18) ⟨_, rfl, hw⟩ dX12_isOf_16
  · replace hw := hw.1 hc_20
    refine ux_iconst C (v := 1) (by decide) dX12_isOf_4 ?_
    exact ux_zret C rfl ⟨_, rfl, hw⟩ dX12_isOf_5
set_option maxHeartbeats 2000000 in
set_option maxRecDepth 4000 in
theorem c_Model_keep {l : Launch} {D : va_G} {G : Nat → Nat} {z N : Nat} (hN : 92 ≤ N) {a0 : ud_St} {x1 : Int32}  {Qf : Int32 → ud_St → Prop} (hw : w_Model_keep a0 x1 Qf) : ud_M l D G z N yX12_keep cX12_keep 2 (some Jvm.ClassFile.FieldType.int) 2 [.ref (z + 71), .int x1] a0 (po_i Qf) := by
  unfold w_Model_keep at hw
  refine ud_M_of hN (by decide) (Nat.le_of_ble_eq_true rfl) ?_
  intro p e s m args below meth c C
  have C : ud_C D G z N p s m args meth c cX12_keep 2 RX12 (some Jvm.ClassFile.FieldType.int) := C
  show ud_X D G z N p l e (ud_rm 2 0 0) s m args below meth c 2 0 0 (ud_Q D G z N (po_i Qf) below args s) a0 0 [(0, .ref (z + 71)), (1, .int x1)] []
  refine ux_aload_n C 0 rfl rfl dX12_keep_0 ?_
  refine ux_iconst C (v := 0) (by decide) dX12_keep_1 ?_
  refine pf_12_77 C dX12_keep_2 ?_
  refine ux_iload_n C 1 rfl rfl dX12_keep_5 ?_
  refine ux_i2l C dX12_keep_6 ?_
  refine ux_lconst C (v := 0) (by decide) dX12_keep_7 ?_
  refine ux_ldc2 C (v := 2) mw_1707 dX12_keep_8 ?_
  refine cs_12_82 C  (c_Model_in hN  hw) (by decide) (by decide) (Nat.le_of_ble_eq_true rfl) dX12_keep_11 (po_ip.k fun r_1 hw => ?_)
  refine ux_if_ne C (tgt := 20) (by decide) dX12_keep_14 (fun hc_6 => ?_) (fun hc_6 => ?_)
  · replace hw := hw.2 hc_6
    refine ux_aload_n C 0 rfl rfl dX12_keep_20 ?_
    refine ux_iconst C (v := 0) (by decide) dX12_keep_21 ?_
    refine ux_iconst C (v := 1) (by decide) dX12_keep_22 ?_
    refine ux_iload_n C 1 rfl rfl dX12_keep_23 ?_
    refine ux_iadd C dX12_keep_24 ?_
    refine cs_12_251 C  (c_Model_copyTable hN  hw) (by decide) (by decide) (Nat.le_of_ble_eq_true rfl) dX12_keep_25 (po_v.k fun a_4 hw => ?_)
    refine ux_aload_n C 0 rfl rfl dX12_keep_28 ?_
    refine gf_12_46 C dX12_keep_29 ?_
    refine ux_iload_n C 1 rfl rfl dX12_keep_32 ?_
    refine ux_iconst C (v := 1) (by decide) dX12_keep_33 ?_
    obtain ⟨hi_5, hw⟩ := hw
    refine ux_zast C (uc_82 C.2.2.2.2.2) hi_5 dX12_keep_34 ?_
    refine ux_iconst C (v := 0) (by decide) dX12_keep_35 ?_
    exact ux_iret C ⟨_, rfl, hw⟩ dX12_keep_36
  · replace hw := hw.1 hc_6
    refine ux_bipush C (v := -2) (by decide) dX12_keep_17 ?_
    exact ux_iret C ⟨_, rfl, hw⟩ dX12_keep_19
set_option maxHeartbeats 2000000 in
set_option maxRecDepth 4000 in
theorem c_Model_restore {l : Launch} {D : va_G} {G : Nat → Nat} {z N : Nat} (hN : 92 ≤ N) {a0 : ud_St} {x1 : Int32}  {Qf : Int32 → ud_St → Prop} (hw : w_Model_restore a0 x1 Qf) : ud_M l D G z N yX12_restore cX12_restore 2 (some Jvm.ClassFile.FieldType.int) 2 [.ref (z + 71), .int x1] a0 (po_i Qf) := by
  unfold w_Model_restore at hw
  refine ud_M_of hN (by decide) (Nat.le_of_ble_eq_true rfl) ?_
  intro p e s m args below meth c C
  have C : ud_C D G z N p s m args meth c cX12_restore 2 RX12 (some Jvm.ClassFile.FieldType.int) := C
  show ud_X D G z N p l e (ud_rm 2 0 0) s m args below meth c 2 0 0 (ud_Q D G z N (po_i Qf) below args s) a0 0 [(0, .ref (z + 71)), (1, .int x1)] []
  refine ux_aload_n C 0 rfl rfl dX12_restore_0 ?_
  refine ux_iconst C (v := 0) (by decide) dX12_restore_1 ?_
  refine pf_12_77 C dX12_restore_2 ?_
  refine ux_iload_n C 1 rfl rfl dX12_restore_5 ?_
  refine ux_i2l C dX12_restore_6 ?_
  refine ux_lconst C (v := 0) (by decide) dX12_restore_7 ?_
  refine ux_ldc2 C (v := 2) mw_1707 dX12_restore_8 ?_
  refine cs_12_82 C  (c_Model_in hN  hw) (by decide) (by decide) (Nat.le_of_ble_eq_true rfl) dX12_restore_11 (po_ip.k fun r_1 hw => ?_)
  refine ux_if_ne C (tgt := 20) (by decide) dX12_restore_14 (fun hc_7 => ?_) (fun hc_7 => ?_)
  · replace hw := hw.2 hc_7
    refine ux_aload_n C 0 rfl rfl dX12_restore_20 ?_
    refine gf_12_46 C dX12_restore_21 ?_
    refine ux_iload_n C 1 rfl rfl dX12_restore_24 ?_
    obtain ⟨hi_6, hw⟩ := hw
    refine ux_zald C (uc_82 C.2.2.2.2.2) hi_6 dX12_restore_25 ?_
    refine ux_if_ne C (tgt := 32) (by decide) dX12_restore_26 (fun hc_5 => ?_) (fun hc_5 => ?_)
    · replace hw := hw.2 hc_5
      refine ux_aload_n C 0 rfl rfl dX12_restore_32 ?_
      refine ux_iconst C (v := 1) (by decide) dX12_restore_33 ?_
      refine ux_iload_n C 1 rfl rfl dX12_restore_34 ?_
      refine ux_iadd C dX12_restore_35 ?_
      refine ux_iconst C (v := 0) (by decide) dX12_restore_36 ?_
      refine cs_12_251 C  (c_Model_copyTable hN  hw) (by decide) (by decide) (Nat.le_of_ble_eq_true rfl) dX12_restore_37 (po_v.k fun a_4 hw => ?_)
      refine ux_iconst C (v := 0) (by decide) dX12_restore_40 ?_
      exact ux_iret C ⟨_, rfl, hw⟩ dX12_restore_41
    · replace hw := hw.1 hc_5
      refine ux_bipush C (v := -6) (by decide) dX12_restore_29 ?_
      exact ux_iret C ⟨_, rfl, hw⟩ dX12_restore_31
  · replace hw := hw.1 hc_7
    refine ux_bipush C (v := -2) (by decide) dX12_restore_17 ?_
    exact ux_iret C ⟨_, rfl, hw⟩ dX12_restore_19
set_option maxHeartbeats 2000000 in
set_option maxRecDepth 4000 in
theorem c_Crowd_goOn {l : Launch} {D : va_G} {G : Nat → Nat} {z N : Nat} (hN : 92 ≤ N) {a0 : ud_St} {x2 : Int32}  {Qf : ud_St → Prop} (hw : w_Crowd_goOn a0 x2 Qf) : ud_M l D G z N yX2_goOn cX2_goOn 4 (none : Option Jvm.ClassFile.FieldType) 3 [.ref (z + 45), .ref (z + 36), .int x2] a0 (po_v Qf) := by
  unfold w_Crowd_goOn at hw
  refine ud_M_of hN (by decide) (Nat.le_of_ble_eq_true rfl) ?_
  intro p e s m args below meth c C
  have C : ud_C D G z N p s m args meth c cX2_goOn 4 RX2 (none : Option Jvm.ClassFile.FieldType) := C
  show ud_X D G z N p l e (ud_rm 3 0 0) s m args below meth c 4 0 0 (ud_Q D G z N (po_v Qf) below args s) a0 0 [(0, .ref (z + 45)), (1, .ref (z + 36)), (2, .int x2)] []
  refine ux_aload_n C 0 rfl rfl dX2_goOn_0 ?_
  refine gf_2_22 C dX2_goOn_1 ?_
  refine ux_istore_n C rfl (by decide) rfl dX2_goOn_4 ?_
  refine ux_pick [1, 2, 3, 0] rfl ?_
  refine LW2.elim (P := fun (x3_3 : Int32) (a_4 : ud_St) => ud_X D G z N p l e (ud_rm 3 0 0) s m args below meth c 4 0 0 (ud_Q D G z N (po_v Qf) below args s) a_4 5 [(0, .ref (z + 45)), (1, .ref (z + 36)), (2, .int x2), (3, .int x3_3)] []) hw ?_
  intro x3_3 a_4 K_1 hw ih_2
  refine ux_iload_n C 3 rfl rfl dX2_goOn_5 ?_
  refine ux_iload_n C 2 rfl rfl dX2_goOn_6 ?_
  refine ux_icmp_ge C (tgt := 28) (by decide) dX2_goOn_7 (fun hc_8 => ?_) (fun hc_8 => ?_)
  · replace hw := hw.1 hc_8
    refine ux_aload_n C 0 rfl rfl dX2_goOn_28 ?_
    refine ux_iload_n C 2 rfl rfl dX2_goOn_29 ?_
    refine pf_2_22 C dX2_goOn_30 ?_
    exact ux_vret C ⟨rfl, hw⟩ dX2_goOn_33
  · replace hw := hw.2 hc_8
    refine ux_aload_n C 0 rfl rfl dX2_goOn_10 ?_
    refine gf_2_28 C dX2_goOn_11 ?_
    refine ux_if_ne C (tgt := 28) (by decide) dX2_goOn_14 (fun hc_7 => ?_) (fun hc_7 => ?_)
    · replace hw := hw.2 hc_7
      refine ux_aload_n C 0 rfl rfl dX2_goOn_28 ?_
      refine ux_iload_n C 2 rfl rfl dX2_goOn_29 ?_
      refine pf_2_22 C dX2_goOn_30 ?_
      exact ux_vret C ⟨rfl, hw⟩ dX2_goOn_33
    · replace hw := hw.1 hc_7
      refine ux_aload_n C 0 rfl rfl dX2_goOn_17 ?_
      refine ux_aload_n C 1 rfl rfl dX2_goOn_18 ?_
      refine cs_2_73 C  (c_Crowd_goOnce hN  hw) (by decide) (by decide) (Nat.le_of_ble_eq_true rfl) dX2_goOn_19 (po_v.k fun a_6 hw => ?_)
      refine ux_iinc C 3 rfl rfl (by decide) rfl dX2_goOn_22 ?_
      refine ux_goto C (tgt := 5) (by decide) dX2_goOn_25 ?_
      exact ux_pick [1, 2, 3, 0] rfl (ih_2 _ _ hw)
set_option maxHeartbeats 2000000 in
set_option maxRecDepth 4000 in
theorem c_Crowd_sureFigure {l : Launch} {D : va_G} {G : Nat → Nat} {z N : Nat} (hN : 92 ≤ N) {a0 : ud_St} {x2 : Int32}  {Qf : Int32 → Prop} (hw : w_Crowd_sureFigure a0 x2 Qf) : ud_M l D G z N yX2_sureFigure cX2_sureFigure 5 (some Jvm.ClassFile.FieldType.int) 3 [.ref (z + 45), .ref (z + 26), .int x2] a0 (po_ip a0 Qf) := by
  unfold w_Crowd_sureFigure at hw
  refine ud_M_of hN (by decide) (Nat.le_of_ble_eq_true rfl) ?_
  intro p e s m args below meth c C
  have C : ud_C D G z N p s m args meth c cX2_sureFigure 5 RX2 (some Jvm.ClassFile.FieldType.int) := C
  show ud_X D G z N p l e (ud_rm 3 0 0) s m args below meth c 5 0 0 (ud_Q D G z N (po_ip a0 Qf) below args s) a0 0 [(0, .ref (z + 45)), (1, .ref (z + 26)), (2, .int x2)] []
  refine ux_aload_n C 0 rfl rfl dX2_sureFigure_0 ?_
  refine gf_2_25 C dX2_sureFigure_1 ?_
  refine ux_if_ne C (tgt := 9) (by decide) dX2_sureFigure_4 (fun hc_14 => ?_) (fun hc_14 => ?_)
  · replace hw := hw.2 hc_14
    refine ux_aload_n C 1 rfl rfl dX2_sureFigure_9 ?_
    refine ux_aload_n C 0 rfl rfl dX2_sureFigure_10 ?_
    refine gf_2_9 C dX2_sureFigure_11 ?_
    refine ux_iconst C (v := 0) (by decide) dX2_sureFigure_14 ?_
    refine cs_2_43 C  (c_Cells_at hN (uc_46 C.2.2.2.2.2) hw) (by decide) (by decide) (Nat.le_of_ble_eq_true rfl) dX2_sureFigure_15 (po_ip.k fun r_1 hw => ?_)
    refine ux_iload_n C 2 rfl rfl dX2_sureFigure_18 ?_
    refine cs_2_83 C  (c_Figures_figureOf hN  hw) (by decide) (by decide) (Nat.le_of_ble_eq_true rfl) dX2_sureFigure_19 (po_ip.k fun r_3 hw => ?_)
    refine ux_istore_n C rfl (by decide) rfl dX2_sureFigure_22 ?_
    refine ux_iconst C (v := 1) (by decide) dX2_sureFigure_23 ?_
    refine ux_istore C (by decide) rfl dX2_sureFigure_24 ?_
    refine ux_pick [2, 3, 4, 1, 0] rfl ?_
    refine LW1.elim (P := fun (x4_7 : Int32) => ud_X D G z N p l e (ud_rm 3 0 0) s m args below meth c 5 0 0 (ud_Q D G z N (po_ip a0 Qf) below args s) a0 26 [(0, .ref (z + 45)), (1, .ref (z + 26)), (2, .int x2), (3, .int r_3), (4, .int x4_7)] []) hw ?_
    intro x4_7 K_5 hw ih_6
    refine ux_iload C 4 rfl dX2_sureFigure_26 ?_
    refine ux_aload_n C 0 rfl rfl dX2_sureFigure_28 ?_
    refine gf_2_25 C dX2_sureFigure_29 ?_
    refine ux_icmp_ge C (tgt := 61) (by decide) dX2_sureFigure_32 (fun hc_13 => ?_) (fun hc_13 => ?_)
    · replace hw := hw.1 hc_13
      refine ux_iload_n C 3 rfl rfl dX2_sureFigure_61 ?_
      exact ux_iret C ⟨_, rfl, rfl, hw⟩ dX2_sureFigure_62
    · replace hw := hw.2 hc_13
      refine ux_aload_n C 1 rfl rfl dX2_sureFigure_35 ?_
      refine ux_aload_n C 0 rfl rfl dX2_sureFigure_36 ?_
      refine gf_2_9 C dX2_sureFigure_37 ?_
      refine ux_iload C 4 rfl dX2_sureFigure_40 ?_
      refine cs_2_43 C  (c_Cells_at hN (uc_46 C.2.2.2.2.2) hw) (by decide) (by decide) (Nat.le_of_ble_eq_true rfl) dX2_sureFigure_42 (po_ip.k fun r_8 hw => ?_)
      refine ux_iload_n C 2 rfl rfl dX2_sureFigure_45 ?_
      refine cs_2_83 C  (c_Figures_figureOf hN  hw) (by decide) (by decide) (Nat.le_of_ble_eq_true rfl) dX2_sureFigure_46 (po_ip.k fun r_10 hw => ?_)
      refine ux_iload_n C 3 rfl rfl dX2_sureFigure_49 ?_
      refine ux_icmp_eq C (tgt := 55) (by decide) dX2_sureFigure_50 (fun hc_12 => ?_) (fun hc_12 => ?_)
      · replace hw := hw.1 hc_12
        refine ux_iinc C 4 rfl rfl (by decide) rfl dX2_sureFigure_55 ?_
        refine ux_goto C (tgt := 26) (by decide) dX2_sureFigure_58 ?_
        exact ux_pick [1, 2, 3, 4, 0] rfl (ih_6 _ hw)
      · replace hw := hw.2 hc_12
        refine ux_iconst C (v := -1) (by decide) dX2_sureFigure_53 ?_
        exact ux_iret C ⟨_, rfl, rfl, hw⟩ dX2_sureFigure_54
  · replace hw := hw.1 hc_14
    refine ux_iconst C (v := -1) (by decide) dX2_sureFigure_7 ?_
    exact ux_iret C ⟨_, rfl, rfl, hw⟩ dX2_sureFigure_8
set_option maxHeartbeats 2000000 in
set_option maxRecDepth 4000 in
theorem c_Crowd_leftOut_j28 {D : va_G} {G : Nat → Nat} {z N : Nat} {p : Program} {l : Launch} {e : Env} {s : State} {m : MethodId} {args : Array Value} {below : List Frame} {meth : Method} {c : Code} (hN : 92 ≤ N) {a0 : ud_St} {x2 : Int32} {y2_28 : Int32} {y3_28 : Int32} {y4_28 : Int32} {y5_28 : Int32} {y6_28 : Int32} {K_1 : Int32 → Int32 → Prop}  {Qf : Int32 → Prop} (C : ud_C D G z N p s m args meth c cX2_leftOut 7 RX2 (some Jvm.ClassFile.FieldType.int)) (ih_2 : ∀ (v0 : Int32) (v1 : Int32), K_1 v0 v1 → ud_X D G z N p l e (ud_rm 3 0 0) s m args below meth c 7 0 0 (ud_Q D G z N (po_ip a0 Qf) below args s) a0 5 [(0, .ref (z + 45)), (1, .ref (z + 26)), (2, .int y2_28), (3, .int v0), (4, .int v1)] []) (hw : w_Crowd_leftOut_j28 a0 x2 y2_28 y3_28 y4_28 y5_28 y6_28 K_1 Qf) : ud_X D G z N p l e (ud_rm 3 0 0) s m args below meth c 7 0 0 (ud_Q D G z N (po_ip a0 Qf) below args s) a0 28 [(0, .ref (z + 45)), (1, .ref (z + 26)), (2, .int y2_28), (3, .int y3_28), (4, .int y4_28), (5, .int y5_28), (6, .int y6_28)] [] := by
  unfold w_Crowd_leftOut_j28 at hw
  refine ux_pick [0, 1, 2, 3, 4, 5, 6] rfl ?_
  refine LW2.elim (P := fun (x3_9 : Int32) (x6_10 : Int32) => ud_X D G z N p l e (ud_rm 3 0 0) s m args below meth c 7 0 0 (ud_Q D G z N (po_ip a0 Qf) below args s) a0 28 [(0, .ref (z + 45)), (1, .ref (z + 26)), (2, .int y2_28), (3, .int x3_9), (4, .int y4_28), (5, .int y5_28), (6, .int x6_10)] []) hw ?_
  intro x3_9 x6_10 K_7 hw ih_8
  refine ux_iload C 6 rfl dX2_leftOut_28 ?_
  refine ux_aload_n C 1 rfl rfl dX2_leftOut_30 ?_
  refine gf_2_93 C dX2_leftOut_31 ?_
  refine ux_icmp_ge C (tgt := 68) (by decide) dX2_leftOut_34 (fun hc_16 => ?_) (fun hc_16 => ?_)
  · replace hw := hw.1 hc_16
    refine ux_iinc C 4 rfl rfl (by decide) rfl dX2_leftOut_68 ?_
    refine ux_goto C (tgt := 5) (by decide) dX2_leftOut_71 ?_
    exact ux_pick [1, 2, 3, 4, 0] rfl (ih_2 _ _ hw)
  · replace hw := hw.2 hc_16
    refine ux_aload_n C 1 rfl rfl dX2_leftOut_37 ?_
    refine ux_iload C 5 rfl dX2_leftOut_38 ?_
    refine ux_iload C 6 rfl dX2_leftOut_40 ?_
    refine cs_2_96 C  (c_Figures_without hN  hw) (by decide) (by decide) (Nat.le_of_ble_eq_true rfl) dX2_leftOut_42 (po_ip.k fun r_11 hw => ?_)
    refine ux_iload_n C 2 rfl rfl dX2_leftOut_45 ?_
    refine ux_icmp_ne C (tgt := 62) (by decide) dX2_leftOut_46 (fun hc_15 => ?_) (fun hc_15 => ?_)
    · replace hw := hw.2 hc_15
      refine ux_iinc C 6 rfl rfl (by decide) rfl dX2_leftOut_62 ?_
      refine ux_goto C (tgt := 28) (by decide) dX2_leftOut_65 ?_
      exact ux_pick [1, 2, 3, 4, 5, 6, 0] rfl (ih_8 _ _ hw)
    · replace hw := hw.1 hc_15
      refine ux_iload_n C 3 rfl rfl dX2_leftOut_49 ?_
      refine ux_iconst C (v := 1) (by decide) dX2_leftOut_50 ?_
      refine ux_aload_n C 1 rfl rfl dX2_leftOut_51 ?_
      refine ux_iload C 5 rfl dX2_leftOut_52 ?_
      refine ux_iload C 6 rfl dX2_leftOut_54 ?_
      refine cs_2_83 C  (c_Figures_figureOf hN  hw) (by decide) (by decide) (Nat.le_of_ble_eq_true rfl) dX2_leftOut_56 (po_ip.k fun r_13 hw => ?_)
      refine ux_ishl C dX2_leftOut_59 ?_
      refine ux_ior C dX2_leftOut_60 ?_
      refine ux_istore_n C rfl (by decide) rfl dX2_leftOut_61 ?_
      refine ux_iinc C 6 rfl rfl (by decide) rfl dX2_leftOut_62 ?_
      refine ux_goto C (tgt := 28) (by decide) dX2_leftOut_65 ?_
      exact ux_pick [2, 3, 4, 1, 5, 6, 0] rfl (ih_8 _ _ hw)
set_option maxHeartbeats 2000000 in
set_option maxRecDepth 4000 in
theorem c_Crowd_leftOut_j5 {D : va_G} {G : Nat → Nat} {z N : Nat} {p : Program} {l : Launch} {e : Env} {s : State} {m : MethodId} {args : Array Value} {below : List Frame} {meth : Method} {c : Code} (hN : 92 ≤ N) {a0 : ud_St} {x2 : Int32} {y2_5 : Int32} {y3_5 : Int32} {y4_5 : Int32}  {Qf : Int32 → Prop} (C : ud_C D G z N p s m args meth c cX2_leftOut 7 RX2 (some Jvm.ClassFile.FieldType.int))  (hw : w_Crowd_leftOut_j5 a0 x2 y2_5 y3_5 y4_5 Qf) : ud_X D G z N p l e (ud_rm 3 0 0) s m args below meth c 7 0 0 (ud_Q D G z N (po_ip a0 Qf) below args s) a0 5 [(0, .ref (z + 45)), (1, .ref (z + 26)), (2, .int y2_5), (3, .int y3_5), (4, .int y4_5)] [] := by
  unfold w_Crowd_leftOut_j5 at hw
  refine ux_pick [0, 1, 2, 3, 4] rfl ?_
  refine LW2.elim (P := fun (x3_3 : Int32) (x4_4 : Int32) => ud_X D G z N p l e (ud_rm 3 0 0) s m args below meth c 7 0 0 (ud_Q D G z N (po_ip a0 Qf) below args s) a0 5 [(0, .ref (z + 45)), (1, .ref (z + 26)), (2, .int y2_5), (3, .int x3_3), (4, .int x4_4)] []) hw ?_
  intro x3_3 x4_4 K_1 hw ih_2
  refine ux_iload C 4 rfl dX2_leftOut_5 ?_
  refine ux_aload_n C 0 rfl rfl dX2_leftOut_7 ?_
  refine gf_2_25 C dX2_leftOut_8 ?_
  refine ux_icmp_ge C (tgt := 74) (by decide) dX2_leftOut_11 (fun hc_17 => ?_) (fun hc_17 => ?_)
  · replace hw := hw.1 hc_17
    refine ux_iload_n C 3 rfl rfl dX2_leftOut_74 ?_
    exact ux_iret C ⟨_, rfl, rfl, hw⟩ dX2_leftOut_75
  · replace hw := hw.2 hc_17
    refine ux_aload_n C 0 rfl rfl dX2_leftOut_14 ?_
    refine gf_2_9 C dX2_leftOut_15 ?_
    refine ux_iload C 4 rfl dX2_leftOut_18 ?_
    refine cs_2_43 C  (c_Cells_at hN (uc_46 C.2.2.2.2.2) hw) (by decide) (by decide) (Nat.le_of_ble_eq_true rfl) dX2_leftOut_20 (po_ip.k fun r_5 hw => ?_)
    refine ux_istore C (by decide) rfl dX2_leftOut_23 ?_
    refine ux_iconst C (v := 0) (by decide) dX2_leftOut_25 ?_
    refine ux_istore C (by decide) rfl dX2_leftOut_26 ?_
    exact ux_pick [2, 3, 4, 5, 6, 1, 0] rfl (c_Crowd_leftOut_j28 hN  C ih_2 hw)
set_option maxHeartbeats 2000000 in
set_option maxRecDepth 4000 in
theorem c_Crowd_leftOut {l : Launch} {D : va_G} {G : Nat → Nat} {z N : Nat} (hN : 92 ≤ N) {a0 : ud_St} {x2 : Int32}  {Qf : Int32 → Prop} (hw : w_Crowd_leftOut a0 x2 Qf) : ud_M l D G z N yX2_leftOut cX2_leftOut 7 (some Jvm.ClassFile.FieldType.int) 3 [.ref (z + 45), .ref (z + 26), .int x2] a0 (po_ip a0 Qf) := by
  unfold w_Crowd_leftOut at hw
  refine ud_M_of hN (by decide) (Nat.le_of_ble_eq_true rfl) ?_
  intro p e s m args below meth c C
  have C : ud_C D G z N p s m args meth c cX2_leftOut 7 RX2 (some Jvm.ClassFile.FieldType.int) := C
  show ud_X D G z N p l e (ud_rm 3 0 0) s m args below meth c 7 0 0 (ud_Q D G z N (po_ip a0 Qf) below args s) a0 0 [(0, .ref (z + 45)), (1, .ref (z + 26)), (2, .int x2)] []
  refine ux_iconst C (v := 0) (by decide) dX2_leftOut_0 ?_
  refine ux_istore_n C rfl (by decide) rfl dX2_leftOut_1 ?_
  refine ux_iconst C (v := 0) (by decide) dX2_leftOut_2 ?_
  refine ux_istore C (by decide) rfl dX2_leftOut_3 ?_
  exact ux_pick [2, 3, 4, 1, 0] rfl (c_Crowd_leftOut_j5 hN  C  hw)
set_option maxHeartbeats 2000000 in
set_option maxRecDepth 4000 in
theorem c_Evening_isFirstHome {l : Launch} {D : va_G} {G : Nat → Nat} {z N : Nat} (hN : 92 ≤ N) {a0 : ud_St} {x2 : Int32}  {Qf : Int32 → Prop} (hw : w_Evening_isFirstHome a0 x2 Qf) : ud_M l D G z N yX3_isFirstHome cX3_isFirstHome 4 (some Jvm.ClassFile.FieldType.boolean) 3 [.ref (z + 59), .ref (z + 36), .int x2] a0 (po_ip a0 Qf) := by
  unfold w_Evening_isFirstHome at hw
  refine ud_M_of hN (by decide) (Nat.le_of_ble_eq_true rfl) ?_
  intro p e s m args below meth c C
  have C : ud_C D G z N p s m args meth c cX3_isFirstHome 4 RX3 (some Jvm.ClassFile.FieldType.boolean) := C
  show ud_X D G z N p l e (ud_rm 3 0 0) s m args below meth c 4 0 0 (ud_Q D G z N (po_ip a0 Qf) below args s) a0 0 [(0, .ref (z + 59)), (1, .ref (z + 36)), (2, .int x2)] []
  refine ux_iconst C (v := 0) (by decide) dX3_isFirstHome_0 ?_
  refine ux_istore_n C rfl (by decide) rfl dX3_isFirstHome_1 ?_
  refine ux_pick [1, 2, 3, 0] rfl ?_
  refine LW1.elim (P := fun (x3_3 : Int32) => ud_X D G z N p l e (ud_rm 3 0 0) s m args below meth c 4 0 0 (ud_Q D G z N (po_ip a0 Qf) below args s) a0 2 [(0, .ref (z + 59)), (1, .ref (z + 36)), (2, .int x2), (3, .int x3_3)] []) hw ?_
  intro x3_3 K_1 hw ih_2
  refine ux_iload_n C 3 rfl rfl dX3_isFirstHome_2 ?_
  refine ux_iload_n C 2 rfl rfl dX3_isFirstHome_3 ?_
  refine ux_icmp_ge C (tgt := 30) (by decide) dX3_isFirstHome_4 (fun hc_9 => ?_) (fun hc_9 => ?_)
  · replace hw := hw.1 hc_9
    refine ux_iconst C (v := 1) (by decide) dX3_isFirstHome_30 ?_
    exact ux_zret C rfl ⟨_, rfl, rfl, hw⟩ dX3_isFirstHome_31
  · replace hw := hw.2 hc_9
    refine ux_aload_n C 0 rfl rfl dX3_isFirstHome_7 ?_
    refine ux_aload_n C 1 rfl rfl dX3_isFirstHome_8 ?_
    refine ux_iload_n C 3 rfl rfl dX3_isFirstHome_9 ?_
    refine cs_3_51 C  (c_Evening_homeAt hN  hw) (by decide) (by decide) (Nat.le_of_ble_eq_true rfl) dX3_isFirstHome_10 (po_ip.k fun r_4 hw => ?_)
    refine ux_aload_n C 0 rfl rfl dX3_isFirstHome_13 ?_
    refine ux_aload_n C 1 rfl rfl dX3_isFirstHome_14 ?_
    refine ux_iload_n C 2 rfl rfl dX3_isFirstHome_15 ?_
    refine cs_3_51 C  (c_Evening_homeAt hN  hw) (by decide) (by decide) (Nat.le_of_ble_eq_true rfl) dX3_isFirstHome_16 (po_ip.k fun r_6 hw => ?_)
    refine ux_icmp_ne C (tgt := 24) (by decide) dX3_isFirstHome_19 (fun hc_8 => ?_) (fun hc_8 => ?_)
    · replace hw := hw.2 hc_8
      refine ux_iinc C 3 rfl rfl (by decide) rfl dX3_isFirstHome_24 ?_
      refine ux_goto C (tgt := 2) (by decide) dX3_isFirstHome_27 ?_
      exact ux_pick [1, 2, 3, 0] rfl (ih_2 _ hw)
    · replace hw := hw.1 hc_8
      refine ux_iconst C (v := 0) (by decide) dX3_isFirstHome_22 ?_
      exact ux_zret C rfl ⟨_, rfl, rfl, hw⟩ dX3_isFirstHome_23
