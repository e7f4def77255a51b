/-! the methods meet what they ask -/
set_option maxHeartbeats 2000000 in
set_option maxRecDepth 4000 in
theorem c_Model_finds {l : Launch} {D : va_G} {G : Nat → Nat} {z N : Nat} (hN : 92 ≤ N) {a0 : ud_St} {x1 : Int32} {x2 : Int32}  {Qf : ud_St → Prop} (hw : w_Model_finds a0 x1 x2 Qf) : ud_M l D G z N yX12_finds cX12_finds 4 (none : Option Jvm.ClassFile.FieldType) 5 [.ref (z + 71), .int x1, .int x2] a0 (po_v Qf) := by
  unfold w_Model_finds at hw
  refine ud_M_of hN (by decide) (Nat.le_of_ble_eq_true rfl) ?_
  intro p e s m args below meth c C
  have C : ud_C D G z N p s m args meth c cX12_finds 4 RX12 (none : Option Jvm.ClassFile.FieldType) := C
  show ud_X D G z N p l e (ud_rm 5 0 0) s m args below meth c 4 0 0 (ud_Q D G z N (po_v Qf) below args s) a0 0 [(0, .ref (z + 71)), (1, .int x1), (2, .int x2)] []
  refine ux_iconst C (v := 1) (by decide) dX12_finds_0 ?_
  refine ux_istore_n C rfl (by decide) rfl dX12_finds_1 ?_
  refine ux_aload_n C 1 rfl rfl dX12_finds_2 ?_
  refine ux_iconst C (v := 0) (by decide) dX12_finds_3 ?_
  refine pf_12_384 C dX12_finds_4 ?_
  exact ux_pick [1, 2, 3, 0] rfl (c_Model_finds_j7 hN  C  hw)
set_option maxHeartbeats 2000000 in
set_option maxRecDepth 4000 in
theorem c_Model_best_j141 {D : va_G} {G : Nat → Nat} {z N : Nat} {p : Program} {l : Launch} {e : Env} {s : State} {m : MethodId} {args : Array Value} {below : List Frame} {meth : Method} {c : Code} (hN : 92 ≤ N) {a0 : ud_St} {x1 : Int32} {x2 : Int32} {b_141 : ud_St} {y1_141 : Int32} {y2_141 : Int32} {y3_141 : Int32} {y4_141 : Int32} {y5_141 : Int32} {y6_141 : Int32} {u0_141 : Int32} {K_7 : Int32 → Int32 → Int32 → ud_St → Prop}  {Qf : Int32 → ud_St → Prop} (C : ud_C D G z N p s m args meth c cX12_best 8 RX12 (some Jvm.ClassFile.FieldType.int)) (ih_8 : ∀ (v0 : Int32) (v1 : Int32) (v2 : Int32) (v3 : ud_St), K_7 v0 v1 v2 v3 → ud_X D G z N p l e (ud_rm 5 0 0) s m args below meth c 8 0 0 (ud_Q D G z N (po_i Qf) below args s) v3 62 [(0, .ref (z + 71)), (1, .int y1_141), (2, .int y2_141), (3, .int v0), (4, .int v1), (5, .int y5_141), (6, .int v2)] []) (hw : w_Model_best_j141 a0 x1 x2 b_141 y1_141 y2_141 y3_141 y4_141 y5_141 y6_141 u0_141 K_7 Qf) : ud_X D G z N p l e (ud_rm 5 0 0) s m args below meth c 8 0 0 (ud_Q D G z N (po_i Qf) below args s) b_141 141 [(0, .ref (z + 71)), (1, .int y1_141), (2, .int y2_141), (3, .int y3_141), (4, .int y4_141), (5, .int y5_141), (6, .int y6_141)] [.int u0_141] := by
  unfold w_Model_best_j141 at hw
  refine ux_istore C (by decide) rfl dX12_best_141 ?_
  refine ux_iload C 0 rfl dX12_best_143 ?_
  refine ux_iload C 5 rfl dX12_best_145 ?_
  refine ux_icmp_gt C (tgt := 153) (by decide) dX12_best_147 (fun hc_22 => ?_) (fun hc_22 => ?_)
  · replace hw := hw.1 hc_22
    refine ux_iload C 7 rfl dX12_best_153 ?_
    refine ux_istore_n C rfl (by decide) rfl dX12_best_155 ?_
    refine ux_iload C 1 rfl dX12_best_156 ?_
    refine ux_istore C (by decide) rfl dX12_best_158 ?_
    refine ux_iinc C 7 rfl rfl (by decide) rfl dX12_best_160 ?_
    refine ux_goto C (tgt := 62) (by decide) dX12_best_163 ?_
    exact ux_pick [4, 5, 6, 2, 1, 7, 0] rfl (ih_8 _ _ _ _ hw)
  · replace hw := hw.2 hc_22
    refine ux_goto C (tgt := 160) (by decide) dX12_best_150 ?_
    refine ux_iinc C 7 rfl rfl (by decide) rfl dX12_best_160 ?_
    refine ux_goto C (tgt := 62) (by decide) dX12_best_163 ?_
    exact ux_pick [2, 3, 4, 5, 6, 7, 0] rfl (ih_8 _ _ _ _ hw)
set_option maxHeartbeats 2000000 in
set_option maxRecDepth 4000 in
theorem c_Model_best_j72 {D : va_G} {G : Nat → Nat} {z N : Nat} {p : Program} {l : Launch} {e : Env} {s : State} {m : MethodId} {args : Array Value} {below : List Frame} {meth : Method} {c : Code} (hN : 92 ≤ N) {a0 : ud_St} {x1 : Int32} {x2 : Int32} {b_72 : ud_St} {y1_72 : Int32} {y2_72 : Int32} {y3_72 : Int32} {y4_72 : Int32} {y5_72 : Int32} {y6_72 : Int32} {y7_72 : Int32} {K_7 : Int32 → Int32 → Int32 → ud_St → Prop}  {Qf : Int32 → ud_St → Prop} (C : ud_C D G z N p s m args meth c cX12_best 8 RX12 (some Jvm.ClassFile.FieldType.int)) (ih_8 : ∀ (v0 : Int32) (v1 : Int32) (v2 : Int32) (v3 : ud_St), K_7 v0 v1 v2 v3 → ud_X D G z N p l e (ud_rm 5 0 0) s m args below meth c 8 0 0 (ud_Q D G z N (po_i Qf) below args s) v3 62 [(0, .ref (z + 71)), (1, .int y1_72), (2, .int y2_72), (3, .int v0), (4, .int v1), (5, .int y5_72), (6, .int v2)] []) (hw : w_Model_best_j72 a0 x1 x2 b_72 y1_72 y2_72 y3_72 y4_72 y5_72 y6_72 y7_72 K_7 Qf) : ud_X D G z N p l e (ud_rm 5 0 0) s m args below meth c 8 0 0 (ud_Q D G z N (po_i Qf) below args s) b_72 72 [(0, .ref (z + 71)), (1, .int y1_72), (2, .int y2_72), (3, .int y3_72), (4, .int y4_72), (5, .int y5_72), (6, .int y6_72), (7, .int y7_72)] [] := by
  unfold w_Model_best_j72 at hw
  refine ux_pick [0, 1, 2, 3, 4, 5, 6, 7] rfl ?_
  refine LW2.elim (P := fun (x7_16 : Int32) (a_17 : ud_St) => ud_X D G z N p l e (ud_rm 5 0 0) s m args below meth c 8 0 0 (ud_Q D G z N (po_i Qf) below args s) a_17 72 [(0, .ref (z + 71)), (1, .int y1_72), (2, .int y2_72), (3, .int y3_72), (4, .int y4_72), (5, .int y5_72), (6, .int y6_72), (7, .int x7_16)] []) hw ?_
  intro x7_16 a_17 K_14 hw ih_15
  refine ux_iload C 7 rfl dX12_best_72 ?_
  refine ux_aload_n C 0 rfl rfl dX12_best_74 ?_
  refine gf_12_34 C dX12_best_75 ?_
  refine ux_iconst C (v := 2) (by decide) dX12_best_78 ?_
  obtain ⟨hi_34, hw⟩ := hw
  refine ux_iald C (uc_78 C.2.2.2.2.2) hi_34 dX12_best_79 ?_
  refine ux_icmp_ge C (tgt := 105) (by decide) dX12_best_80 (fun hc_33 => ?_) (fun hc_33 => ?_)
  · replace hw := hw.1 hc_33
    refine ux_aload_n C 0 rfl rfl dX12_best_105 ?_
    refine cs_12_314 C  (c_Model_goesAll hN  hw) (by decide) (by decide) (Nat.le_of_ble_eq_true rfl) dX12_best_106 (po_v.k fun a_19 hw => ?_)
    refine ux_iload_n C 2 rfl rfl dX12_best_109 ?_
    refine ux_if_ne C (tgt := 125) (by decide) dX12_best_110 (fun hc_29 => ?_) (fun hc_29 => ?_)
    · replace hw := hw.2 hc_29
      refine ux_iload_n C 2 rfl rfl dX12_best_125 ?_
      refine ux_iconst C (v := 1) (by decide) dX12_best_126 ?_
      refine ux_icmp_ne C (tgt := 137) (by decide) dX12_best_127 (fun hc_25 => ?_) (fun hc_25 => ?_)
      · replace hw := hw.2 hc_25
        refine ux_aload_n C 0 rfl rfl dX12_best_137 ?_
        refine cs_12_339 C  (c_Model_mostTail hN  hw) (by decide) (by decide) (Nat.le_of_ble_eq_true rfl) dX12_best_138 (po_ip.k fun r_20 hw => ?_)
        exact ux_pick [0, 1, 2, 3, 4, 5, 6] rfl (c_Model_best_j141 hN  C ih_8 hw)
      · replace hw := hw.1 hc_25
        refine ux_aload_n C 0 rfl rfl dX12_best_130 ?_
        refine cs_12_328 C  (c_Model_manyRounds hN  hw) (by decide) (by decide) (Nat.le_of_ble_eq_true rfl) dX12_best_131 (po_ip.k fun r_23 hw => ?_)
        refine ux_goto C (tgt := 141) (by decide) dX12_best_134 ?_
        exact ux_pick [0, 1, 2, 3, 4, 5, 6] rfl (c_Model_best_j141 hN  C ih_8 hw)
    · replace hw := hw.1 hc_29
      refine ux_aload_n C 0 rfl rfl dX12_best_113 ?_
      refine gf_12_65 C dX12_best_114 ?_
      refine ux_aload_n C 0 rfl rfl dX12_best_117 ?_
      refine cs_12_331 C  (c_Model_longest hN  hw) (by decide) (by decide) (Nat.le_of_ble_eq_true rfl) dX12_best_118 (po_ip.k fun r_26 hw => ?_)
      obtain ⟨hi_28, hw⟩ := hw
      refine ux_iald C (uc_88 C.2.2.2.2.2) hi_28 dX12_best_121 ?_
      refine ux_goto C (tgt := 141) (by decide) dX12_best_122 ?_
      exact ux_pick [0, 1, 2, 3, 4, 5, 6] rfl (c_Model_best_j141 hN  C ih_8 hw)
  · replace hw := hw.2 hc_33
    refine ux_aload_n C 0 rfl rfl dX12_best_83 ?_
    refine gf_12_56 C dX12_best_84 ?_
    refine ux_iload C 7 rfl dX12_best_87 ?_
    refine ux_aload_n C 0 rfl rfl dX12_best_89 ?_
    refine ux_iload C 7 rfl dX12_best_90 ?_
    refine ux_iload_n C 1 rfl rfl dX12_best_92 ?_
    refine ux_iload C 6 rfl dX12_best_93 ?_
    refine cs_12_390 C  (c_Model_rowed hN  hw) (by decide) (by decide) (Nat.le_of_ble_eq_true rfl) dX12_best_95 (po_i.k fun r_30 a_31 hw => ?_)
    obtain ⟨hi_32, hw⟩ := hw
    refine ux_iast C (uc_85 C.2.2.2.2.2) hi_32 dX12_best_98 ?_
    refine ux_iinc C 7 rfl rfl (by decide) rfl dX12_best_99 ?_
    refine ux_goto C (tgt := 72) (by decide) dX12_best_102 ?_
    exact ux_pick [1, 2, 3, 4, 5, 6, 7, 0] rfl (ih_15 _ _ hw)
set_option maxHeartbeats 2000000 in
set_option maxRecDepth 4000 in
theorem c_Model_best_j62 {D : va_G} {G : Nat → Nat} {z N : Nat} {p : Program} {l : Launch} {e : Env} {s : State} {m : MethodId} {args : Array Value} {below : List Frame} {meth : Method} {c : Code} (hN : 92 ≤ N) {a0 : ud_St} {x1 : Int32} {x2 : Int32} {b_62 : ud_St} {y1_62 : Int32} {y2_62 : Int32} {y3_62 : Int32} {y4_62 : Int32} {y5_62 : Int32} {y6_62 : Int32}  {Qf : Int32 → ud_St → Prop} (C : ud_C D G z N p s m args meth c cX12_best 8 RX12 (some Jvm.ClassFile.FieldType.int))  (hw : w_Model_best_j62 a0 x1 x2 b_62 y1_62 y2_62 y3_62 y4_62 y5_62 y6_62 Qf) : ud_X D G z N p l e (ud_rm 5 0 0) s m args below meth c 8 0 0 (ud_Q D G z N (po_i Qf) below args s) b_62 62 [(0, .ref (z + 71)), (1, .int y1_62), (2, .int y2_62), (3, .int y3_62), (4, .int y4_62), (5, .int y5_62), (6, .int y6_62)] [] := by
  unfold w_Model_best_j62 at hw
  refine ux_pick [0, 1, 2, 3, 4, 5, 6] rfl ?_
  refine LW4.elim (P := fun (x3_9 : Int32) (x4_10 : Int32) (x6_11 : Int32) (a_12 : ud_St) => ud_X D G z N p l e (ud_rm 5 0 0) s m args below meth c 8 0 0 (ud_Q D G z N (po_i Qf) below args s) a_12 62 [(0, .ref (z + 71)), (1, .int y1_62), (2, .int y2_62), (3, .int x3_9), (4, .int x4_10), (5, .int y5_62), (6, .int x6_11)] []) hw ?_
  intro x3_9 x4_10 x6_11 a_12 K_7 hw ih_8
  refine ux_iload C 6 rfl dX12_best_62 ?_
  refine ux_iload C 5 rfl dX12_best_64 ?_
  refine ux_icmp_ge C (tgt := 166) (by decide) dX12_best_66 (fun hc_35 => ?_) (fun hc_35 => ?_)
  · replace hw := hw.1 hc_35
    refine ux_iload_n C 1 rfl rfl dX12_best_166 ?_
    refine ux_iconst C (v := 1) (by decide) dX12_best_167 ?_
    refine ux_icmp_ne C (tgt := 175) (by decide) dX12_best_168 (fun hc_13 => ?_) (fun hc_13 => ?_)
    · replace hw := hw.2 hc_13
      refine ux_bipush C (v := 100) (by decide) dX12_best_175 ?_
      refine ux_iload_n C 3 rfl rfl dX12_best_177 ?_
      refine ux_bipush C (v := 12) (by decide) dX12_best_178 ?_
      refine ux_idiv C (by decide) dX12_best_180 ?_
      refine ux_imul C dX12_best_181 ?_
      refine ux_iload_n C 3 rfl rfl dX12_best_182 ?_
      refine ux_bipush C (v := 12) (by decide) dX12_best_183 ?_
      refine ux_irem C (by decide) dX12_best_185 ?_
      refine ux_iadd C dX12_best_186 ?_
      exact ux_iret C ⟨_, rfl, hw⟩ dX12_best_187
    · replace hw := hw.1 hc_13
      refine ux_iload_n C 3 rfl rfl dX12_best_171 ?_
      refine ux_goto C (tgt := 187) (by decide) dX12_best_172 ?_
      exact ux_iret C ⟨_, rfl, hw⟩ dX12_best_187
  · replace hw := hw.2 hc_35
    refine ux_iconst C (v := 0) (by decide) dX12_best_69 ?_
    refine ux_istore C (by decide) rfl dX12_best_70 ?_
    exact ux_pick [1, 2, 3, 4, 5, 6, 7, 0] rfl (c_Model_best_j72 hN  C ih_8 hw)
set_option maxHeartbeats 2000000 in
set_option maxRecDepth 4000 in
theorem c_Model_best {l : Launch} {D : va_G} {G : Nat → Nat} {z N : Nat} (hN : 92 ≤ N) {a0 : ud_St} {x1 : Int32} {x2 : Int32}  {Qf : Int32 → ud_St → Prop} (hw : w_Model_best a0 x1 x2 Qf) : ud_M l D G z N yX12_best cX12_best 8 (some Jvm.ClassFile.FieldType.int) 5 [.ref (z + 71), .int x1, .int x2] a0 (po_i Qf) := by
  unfold w_Model_best at hw
  refine ud_M_of hN (by decide) (Nat.le_of_ble_eq_true rfl) ?_
  intro p e s m args below meth c C
  have C : ud_C D G z N p s m args meth c cX12_best 8 RX12 (some Jvm.ClassFile.FieldType.int) := C
  show ud_X D G z N p l e (ud_rm 5 0 0) s m args below meth c 8 0 0 (ud_Q D G z N (po_i Qf) below args s) a0 0 [(0, .ref (z + 71)), (1, .int x1), (2, .int x2)] []
  refine ux_aload_n C 0 rfl rfl dX12_best_0 ?_
  refine ux_iconst C (v := 0) (by decide) dX12_best_1 ?_
  refine pf_12_77 C dX12_best_2 ?_
  refine ux_aload_n C 0 rfl rfl dX12_best_5 ?_
  refine cs_12_299 C  (c_Model_isTable hN  hw) (by decide) (by decide) (Nat.le_of_ble_eq_true rfl) dX12_best_6 (po_ip.k fun r_1 hw => ?_)
  refine ux_if_eq C (tgt := 36) (by decide) dX12_best_9 (fun hc_39 => ?_) (fun hc_39 => ?_)
  · replace hw := hw.1 hc_39
    refine ux_bipush C (v := -2) (by decide) dX12_best_36 ?_
    exact ux_iret C ⟨_, rfl, hw⟩ dX12_best_38
  · replace hw := hw.2 hc_39
    refine ux_iload_n C 1 rfl rfl dX12_best_12 ?_
    refine ux_i2l C dX12_best_13 ?_
    refine ux_lconst C (v := 1) (by decide) dX12_best_14 ?_
    refine ux_ldc2 C (v := 2) mw_1707 dX12_best_15 ?_
    refine cs_12_82 C  (c_Model_in hN  hw) (by decide) (by decide) (Nat.le_of_ble_eq_true rfl) dX12_best_18 (po_ip.k fun r_3 hw => ?_)
    refine ux_if_eq C (tgt := 36) (by decide) dX12_best_21 (fun hc_38 => ?_) (fun hc_38 => ?_)
    · replace hw := hw.1 hc_38
      refine ux_bipush C (v := -2) (by decide) dX12_best_36 ?_
      exact ux_iret C ⟨_, rfl, hw⟩ dX12_best_38
    · replace hw := hw.2 hc_38
      refine ux_iload_n C 2 rfl rfl dX12_best_24 ?_
      refine ux_i2l C dX12_best_25 ?_
      refine ux_lconst C (v := 0) (by decide) dX12_best_26 ?_
      refine ux_ldc2 C (v := 2) mw_1707 dX12_best_27 ?_
      refine cs_12_82 C  (c_Model_in hN  hw) (by decide) (by decide) (Nat.le_of_ble_eq_true rfl) dX12_best_30 (po_ip.k fun r_5 hw => ?_)
      refine ux_if_ne C (tgt := 39) (by decide) dX12_best_33 (fun hc_37 => ?_) (fun hc_37 => ?_)
      · replace hw := hw.2 hc_37
        refine ux_iconst C (v := -1) (by decide) dX12_best_39 ?_
        refine ux_istore_n C rfl (by decide) rfl dX12_best_40 ?_
        refine ux_iconst C (v := -1) (by decide) dX12_best_41 ?_
        refine ux_istore C (by decide) rfl dX12_best_42 ?_
        refine ux_iload_n C 3 rfl rfl dX12_best_44 ?_
        refine ux_iconst C (v := 1) (by decide) dX12_best_45 ?_
        refine ux_icmp_ne C (tgt := 54) (by decide) dX12_best_46 (fun hc_36 => ?_) (fun hc_36 => ?_)
        · replace hw := hw.2 hc_36
          refine ux_sipush C (v := 144) (by decide) dX12_best_54 ?_
          refine ux_istore C (by decide) rfl dX12_best_57 ?_
          refine ux_iconst C (v := 0) (by decide) dX12_best_59 ?_
          refine ux_istore C (by decide) rfl dX12_best_60 ?_
          exact ux_pick [4, 5, 6, 3, 2, 1, 0] rfl (c_Model_best_j62 hN  C  hw)
        · replace hw := hw.1 hc_36
          refine ux_bipush C (v := 12) (by decide) dX12_best_49 ?_
          refine ux_goto C (tgt := 57) (by decide) dX12_best_51 ?_
          refine ux_istore C (by decide) rfl dX12_best_57 ?_
          refine ux_iconst C (v := 0) (by decide) dX12_best_59 ?_
          refine ux_istore C (by decide) rfl dX12_best_60 ?_
          exact ux_pick [4, 5, 6, 3, 2, 1, 0] rfl (c_Model_best_j62 hN  C  hw)
      · replace hw := hw.1 hc_37
        refine ux_bipush C (v := -2) (by decide) dX12_best_36 ?_
        exact ux_iret C ⟨_, rfl, hw⟩ dX12_best_38
set_option maxHeartbeats 2000000 in
set_option maxRecDepth 4000 in
theorem c_Model_judge {l : Launch} {D : va_G} {G : Nat → Nat} {z N : Nat} (hN : 92 ≤ N) {a0 : ud_St} {x1 : Int32}  {Qf : Int32 → ud_St → Prop} (hw : w_Model_judge a0 x1 Qf) : ud_M l D G z N yX12_judge cX12_judge 5 (some Jvm.ClassFile.FieldType.int) 5 [.ref (z + 71), .int x1] a0 (po_i Qf) := by
  unfold w_Model_judge at hw
  refine ud_M_of hN (by decide) (Nat.le_of_ble_eq_true rfl) ?_
  intro p e s m args below meth c C
  have C : ud_C D G z N p s m args meth c cX12_judge 5 RX12 (some Jvm.ClassFile.FieldType.int) := C
  show ud_X D G z N p l e (ud_rm 5 0 0) s m args below meth c 5 0 0 (ud_Q D G z N (po_i Qf) below args s) a0 0 [(0, .ref (z + 71)), (1, .int x1)] []
  refine ux_aload_n C 0 rfl rfl dX12_judge_0 ?_
  refine ux_iconst C (v := 0) (by decide) dX12_judge_1 ?_
  refine pf_12_77 C dX12_judge_2 ?_
  refine ux_iload_n C 1 rfl rfl dX12_judge_5 ?_
  refine cs_12_86 C  (c_Model_isSlot hN  hw) (by decide) (by decide) (Nat.le_of_ble_eq_true rfl) dX12_judge_6 (po_ip.k fun r_1 hw => ?_)
  refine ux_if_eq C (tgt := 19) (by decide) dX12_judge_9 (fun hc_25 => ?_) (fun hc_25 => ?_)
  · replace hw := hw.1 hc_25
    refine ux_bipush C (v := -2) (by decide) dX12_judge_19 ?_
    exact ux_iret C ⟨_, rfl, hw⟩ dX12_judge_21
  · replace hw := hw.2 hc_25
    refine ux_aload_n C 0 rfl rfl dX12_judge_12 ?_
    refine cs_12_299 C  (c_Model_isTable hN  hw) (by decide) (by decide) (Nat.le_of_ble_eq_true rfl) dX12_judge_13 (po_ip.k fun r_3 hw => ?_)
    refine ux_if_ne C (tgt := 22) (by decide) dX12_judge_16 (fun hc_24 => ?_) (fun hc_24 => ?_)
    · replace hw := hw.2 hc_24
      refine ux_aload_n C 0 rfl rfl dX12_judge_22 ?_
      refine gf_12_7 C dX12_judge_23 ?_
      refine ux_iload_n C 1 rfl rfl dX12_judge_26 ?_
      obtain ⟨hi_23, hw⟩ := hw
      refine ux_iald C (uc_72 C.2.2.2.2.2) hi_23 dX12_judge_27 ?_
      refine ux_iconst C (v := -1) (by decide) dX12_judge_28 ?_
      refine ux_icmp_ne C (tgt := 35) (by decide) dX12_judge_29 (fun hc_22 => ?_) (fun hc_22 => ?_)
      · replace hw := hw.2 hc_22
        refine ux_iconst C (v := 0) (by decide) dX12_judge_35 ?_
        refine ux_istore_n C rfl (by decide) rfl dX12_judge_36 ?_
        refine ux_pick [1, 2, 0] rfl ?_
        refine LW2.elim (P := fun (x2_7 : Int32) (a_8 : ud_St) => ud_X D G z N p l e (ud_rm 5 0 0) s m args below meth c 5 0 0 (ud_Q D G z N (po_i Qf) below args s) a_8 37 [(0, .ref (z + 71)), (1, .int x1), (2, .int x2_7)] []) hw ?_
        intro x2_7 a_8 K_5 hw ih_6
        refine ux_iload_n C 2 rfl rfl dX12_judge_37 ?_
        refine ux_aload_n C 0 rfl rfl dX12_judge_38 ?_
        refine gf_12_13 C dX12_judge_39 ?_
        refine ux_iload_n C 1 rfl rfl dX12_judge_42 ?_
        obtain ⟨hi_21, hw⟩ := hw
        refine ux_iald C (uc_73 C.2.2.2.2.2) hi_21 dX12_judge_43 ?_
        refine ux_icmp_ge C (tgt := 109) (by decide) dX12_judge_44 (fun hc_20 => ?_) (fun hc_20 => ?_)
        · replace hw := hw.1 hc_20
          refine ux_aload_n C 0 rfl rfl dX12_judge_109 ?_
          refine gf_12_13 C dX12_judge_110 ?_
          refine ux_iload_n C 1 rfl rfl dX12_judge_113 ?_
          obtain ⟨hi_9, hw⟩ := hw
          refine ux_iald C (uc_73 C.2.2.2.2.2) hi_9 dX12_judge_114 ?_
          exact ux_iret C ⟨_, rfl, hw⟩ dX12_judge_115
        · replace hw := hw.2 hc_20
          refine ux_aload_n C 0 rfl rfl dX12_judge_47 ?_
          refine gf_12_16 C dX12_judge_48 ?_
          refine ux_bipush C (v := 60) (by decide) dX12_judge_51 ?_
          refine ux_iload_n C 1 rfl rfl dX12_judge_53 ?_
          refine ux_imul C dX12_judge_54 ?_
          refine ux_iload_n C 2 rfl rfl dX12_judge_55 ?_
          refine ux_iadd C dX12_judge_56 ?_
          obtain ⟨hi_19, hw⟩ := hw
          refine ux_lald C (uc_74 C.2.2.2.2.2) hi_19 dX12_judge_57 ?_
          refine ux_lstore_n C rfl (by decide) rfl dX12_judge_58 ?_
          refine ux_aload_n C 1 rfl rfl dX12_judge_59 ?_
          refine ux_lload_n C 0 rfl rfl dX12_judge_60 ?_
          refine cs_12_302 C  (c_Model_isNumber hN  hw) (by decide) (by decide) (Nat.le_of_ble_eq_true rfl) dX12_judge_61 (po_ip.k fun r_10 hw => ?_)
          refine ux_if_eq C (tgt := 101) (by decide) dX12_judge_64 (fun hc_18 => ?_) (fun hc_18 => ?_)
          · replace hw := hw.1 hc_18
            refine ux_iload_n C 3 rfl rfl dX12_judge_101 ?_
            exact ux_iret C ⟨_, rfl, hw⟩ dX12_judge_102
          · replace hw := hw.2 hc_18
            refine ux_iload_n C 3 rfl rfl dX12_judge_67 ?_
            refine ux_if_le C (tgt := 103) (by decide) dX12_judge_68 (fun hc_17 => ?_) (fun hc_17 => ?_)
            · replace hw := hw.1 hc_17
              refine ux_iinc C 3 rfl rfl (by decide) rfl dX12_judge_103 ?_
              refine ux_goto C (tgt := 37) (by decide) dX12_judge_106 ?_
              exact ux_pick [2, 3, 0] rfl (ih_6 _ _ hw)
            · replace hw := hw.2 hc_17
              refine ux_lload_n C 0 rfl rfl dX12_judge_71 ?_
              refine ux_aload_n C 1 rfl rfl dX12_judge_72 ?_
              refine ux_aload_n C 1 rfl rfl dX12_judge_73 ?_
              refine gf_12_16 C dX12_judge_74 ?_
              refine ux_bipush C (v := 60) (by decide) dX12_judge_77 ?_
              refine ux_iload_n C 2 rfl rfl dX12_judge_79 ?_
              refine ux_imul C dX12_judge_80 ?_
              refine ux_iload_n C 3 rfl rfl dX12_judge_81 ?_
              refine ux_iadd C dX12_judge_82 ?_
              refine ux_iconst C (v := 1) (by decide) dX12_judge_83 ?_
              refine ux_isub C dX12_judge_84 ?_
              obtain ⟨hi_16, hw⟩ := hw
              refine ux_lald C (uc_74 C.2.2.2.2.2) hi_16 dX12_judge_85 ?_
              refine ux_l2i C dX12_judge_86 ?_
              refine ux_aload_n C 1 rfl rfl dX12_judge_87 ?_
              refine gf_12_34 C dX12_judge_88 ?_
              refine ux_iconst C (v := 3) (by decide) dX12_judge_91 ?_
              obtain ⟨hi_15, hw⟩ := hw
              refine ux_iald C (uc_78 C.2.2.2.2.2) hi_15 dX12_judge_92 ?_
              refine cs_12_289 C  (c_Model_through0 hN  hw) (by decide) (by decide) (Nat.le_of_ble_eq_true rfl) dX12_judge_93 (po_i.k fun r_12 a_13 hw => ?_)
              refine ux_i2l C dX12_judge_96 ?_
              refine ux_lcmp C dX12_judge_97 ?_
              refine ux_if_eq C (tgt := 103) (by decide) dX12_judge_98 (fun hc_14 => ?_) (fun hc_14 => ?_)
              · replace hw := hw.1 hc_14
                refine ux_iinc C 3 rfl rfl (by decide) rfl dX12_judge_103 ?_
                refine ux_goto C (tgt := 37) (by decide) dX12_judge_106 ?_
                exact ux_pick [2, 3, 0] rfl (ih_6 _ _ hw)
              · replace hw := hw.2 hc_14
                refine ux_iload_n C 3 rfl rfl dX12_judge_101 ?_
                exact ux_iret C ⟨_, rfl, hw⟩ dX12_judge_102
      · replace hw := hw.1 hc_22
        refine ux_bipush C (v := -6) (by decide) dX12_judge_32 ?_
        exact ux_iret C ⟨_, rfl, hw⟩ dX12_judge_34
    · replace hw := hw.1 hc_24
      refine ux_bipush C (v := -2) (by decide) dX12_judge_19 ?_
      exact ux_iret C ⟨_, rfl, hw⟩ dX12_judge_21
set_option maxHeartbeats 2000000 in
set_option maxRecDepth 4000 in
theorem c_Contest_winner_j37 {D : va_G} {G : Nat → Nat} {z N : Nat} {p : Program} {l : Launch} {e : Env} {s : State} {m : MethodId} {args : Array Value} {below : List Frame} {meth : Method} {c : Code} (hN : 92 ≤ N) {a0 : ud_St} {x3 : Int32} {x4 : Int32} {b_37 : ud_St} {y3_37 : Int32} {y4_37 : Int32} {y5_37 : Int32}  {Qf : Int32 → ud_St → Prop} (C : ud_C D G z N p s m args meth c cX1_winner 6 RX1 (some Jvm.ClassFile.FieldType.int))  (hw : w_Contest_winner_j37 a0 x3 x4 b_37 y3_37 y4_37 y5_37 Qf) : ud_X D G z N p l e (ud_rm 6 0 0) s m args below meth c 6 0 0 (ud_Q D G z N (po_i Qf) below args s) b_37 37 [(0, .ref (z + 48)), (1, .ref (z + 26)), (2, .ref (z + 36)), (3, .int y3_37), (4, .int y4_37), (5, .int y5_37)] [] := by
  unfold w_Contest_winner_j37 at hw
  refine ux_aload_n C 0 rfl rfl dX1_winner_37 ?_
  refine ux_aload_n C 1 rfl rfl dX1_winner_38 ?_
  refine ux_aload_n C 2 rfl rfl dX1_winner_39 ?_
  refine ux_iload_n C 3 rfl rfl dX1_winner_40 ?_
  refine cs_1_46 C  (c_Contest_compete hN  hw) (by decide) (by decide) (Nat.le_of_ble_eq_true rfl) dX1_winner_41 (po_v.k fun a_4 hw => ?_)
  refine ux_aload_n C 0 rfl rfl dX1_winner_44 ?_
  refine gf_1_25 C dX1_winner_45 ?_
  refine ux_iload C 5 rfl dX1_winner_48 ?_
  refine ux_aload_n C 1 rfl rfl dX1_winner_50 ?_
  refine gf_1_37 C dX1_winner_51 ?_
  refine cs_1_50 C  (c_Cells_put hN (uc_54 C.2.2.2.2.2) hw) (by decide) (by decide) (Nat.le_of_ble_eq_true rfl) dX1_winner_54 (po_v.k fun a_6 hw => ?_)
  refine ux_aload_n C 0 rfl rfl dX1_winner_57 ?_
  refine gf_1_28 C dX1_winner_58 ?_
  refine ux_iload C 5 rfl dX1_winner_61 ?_
  refine ux_aload_n C 1 rfl rfl dX1_winner_63 ?_
  refine gf_1_43 C dX1_winner_64 ?_
  refine cs_1_50 C  (c_Cells_put hN (uc_55 C.2.2.2.2.2) hw) (by decide) (by decide) (Nat.le_of_ble_eq_true rfl) dX1_winner_67 (po_v.k fun a_8 hw => ?_)
  refine ux_aload_n C 0 rfl rfl dX1_winner_70 ?_
  refine gf_1_9 C dX1_winner_71 ?_
  refine ux_iconst C (v := 3) (by decide) dX1_winner_74 ?_
  refine ux_iload C 5 rfl dX1_winner_75 ?_
  refine ux_imul C dX1_winner_77 ?_
  refine ux_iload C 4 rfl dX1_winner_78 ?_
  refine ux_iadd C dX1_winner_80 ?_
  refine cs_1_31 C  (c_Cells_at hN (uc_49 C.2.2.2.2.2) hw) (by decide) (by decide) (Nat.le_of_ble_eq_true rfl) dX1_winner_81 (po_ip.k fun r_9 hw => ?_)
  exact ux_iret C ⟨_, rfl, hw⟩ dX1_winner_84
set_option maxHeartbeats 2000000 in
set_option maxRecDepth 4000 in
theorem c_Contest_winner {l : Launch} {D : va_G} {G : Nat → Nat} {z N : Nat} (hN : 92 ≤ N) {a0 : ud_St} {x3 : Int32} {x4 : Int32}  {Qf : Int32 → ud_St → Prop} (hw : w_Contest_winner a0 x3 x4 Qf) : ud_M l D G z N yX1_winner cX1_winner 6 (some Jvm.ClassFile.FieldType.int) 6 [.ref (z + 48), .ref (z + 26), .ref (z + 36), .int x3, .int x4] a0 (po_i Qf) := by
  unfold w_Contest_winner at hw
  refine ud_M_of hN (by decide) (Nat.le_of_ble_eq_true rfl) ?_
  intro p e s m args below meth c C
  have C : ud_C D G z N p s m args meth c cX1_winner 6 RX1 (some Jvm.ClassFile.FieldType.int) := C
  show ud_X D G z N p l e (ud_rm 6 0 0) s m args below meth c 6 0 0 (ud_Q D G z N (po_i Qf) below args s) a0 0 [(0, .ref (z + 48)), (1, .ref (z + 26)), (2, .ref (z + 36)), (3, .int x3), (4, .int x4)] []
  refine ux_iload_n C 3 rfl rfl dX1_winner_0 ?_
  refine ux_iconst C (v := 1) (by decide) dX1_winner_1 ?_
  refine ux_isub C dX1_winner_2 ?_
  refine ux_istore C (by decide) rfl dX1_winner_3 ?_
  refine ux_aload_n C 1 rfl rfl dX1_winner_5 ?_
  refine gf_1_25 C dX1_winner_6 ?_
  refine ux_iload C 0 rfl dX1_winner_9 ?_
  refine cs_1_31 C  (c_Cells_at hN (uc_54 C.2.2.2.2.2) hw) (by decide) (by decide) (Nat.le_of_ble_eq_true rfl) dX1_winner_11 (po_ip.k fun r_1 hw => ?_)
  refine ux_aload_n C 2 rfl rfl dX1_winner_14 ?_
  refine gf_1_37 C dX1_winner_15 ?_
  refine ux_icmp_ne C (tgt := 37) (by decide) dX1_winner_18 (fun hc_16 => ?_) (fun hc_16 => ?_)
  · replace hw := hw.2 hc_16
    exact ux_pick [1, 2, 3, 4, 5, 0] rfl (c_Contest_winner_j37 hN  C  hw)
  · replace hw := hw.1 hc_16
    refine ux_aload_n C 1 rfl rfl dX1_winner_21 ?_
    refine gf_1_28 C dX1_winner_22 ?_
    refine ux_iload C 0 rfl dX1_winner_25 ?_
    refine cs_1_31 C  (c_Cells_at hN (uc_55 C.2.2.2.2.2) hw) (by decide) (by decide) (Nat.le_of_ble_eq_true rfl) dX1_winner_27 (po_ip.k fun r_11 hw => ?_)
    refine ux_aload_n C 2 rfl rfl dX1_winner_30 ?_
    refine gf_1_43 C dX1_winner_31 ?_
    refine ux_icmp_eq C (tgt := 70) (by decide) dX1_winner_34 (fun hc_15 => ?_) (fun hc_15 => ?_)
    · replace hw := hw.1 hc_15
      refine ux_aload_n C 1 rfl rfl dX1_winner_70 ?_
      refine gf_1_9 C dX1_winner_71 ?_
      refine ux_iconst C (v := 3) (by decide) dX1_winner_74 ?_
      refine ux_iload C 0 rfl dX1_winner_75 ?_
      refine ux_imul C dX1_winner_77 ?_
      refine ux_iload C 5 rfl dX1_winner_78 ?_
      refine ux_iadd C dX1_winner_80 ?_
      refine cs_1_31 C  (c_Cells_at hN (uc_49 C.2.2.2.2.2) hw) (by decide) (by decide) (Nat.le_of_ble_eq_true rfl) dX1_winner_81 (po_ip.k fun r_13 hw => ?_)
      exact ux_iret C ⟨_, rfl, hw⟩ dX1_winner_84
    · replace hw := hw.2 hc_15
      exact ux_pick [1, 2, 3, 4, 5, 0] rfl (c_Contest_winner_j37 hN  C  hw)
set_option maxHeartbeats 2000000 in
set_option maxRecDepth 4000 in
theorem c_Reader_readBase {l : Launch} {D : va_G} {G : Nat → Nat} {z N : Nat} (hN : 92 ≤ N) {a0 : ud_St}   {Qf : Int32 → ud_St → Prop} (hw : w_Reader_readBase a0  Qf) : ud_M l D G z N yX6_readBase cX6_readBase 3 (some Jvm.ClassFile.FieldType.boolean) 6 [.ref (z + 3), .ref (z + 15)] a0 (po_i Qf) := by
  unfold w_Reader_readBase at hw
  refine ud_M_of hN (by decide) (Nat.le_of_ble_eq_true rfl) ?_
  intro p e s m args below meth c C
  have C : ud_C D G z N p s m args meth c cX6_readBase 3 RX6 (some Jvm.ClassFile.FieldType.boolean) := C
  show ud_X D G z N p l e (ud_rm 6 0 0) s m args below meth c 3 0 0 (ud_Q D G z N (po_i Qf) below args s) a0 0 [(0, .ref (z + 3)), (1, .ref (z + 15))] []
  refine ux_aload_n C 0 rfl rfl dX6_readBase_0 ?_
  refine ux_ldcS C 0 (by decide) rfl dX6_readBase_1 ?_
  refine cs_6_75 C  (c_Reader_readText hN  hw) (by decide) (by decide) (Nat.le_of_ble_eq_true rfl) dX6_readBase_3 (po_i.k fun r_1 a_2 hw => ?_)
  refine ux_if_eq C (tgt := 28) (by decide) dX6_readBase_6 (fun hc_22 => ?_) (fun hc_22 => ?_)
  · replace hw := hw.1 hc_22
    refine ux_iconst C (v := 0) (by decide) dX6_readBase_28 ?_
    exact ux_zret C rfl ⟨_, rfl, hw⟩ dX6_readBase_29
  · replace hw := hw.2 hc_22
    refine ux_aload_n C 0 rfl rfl dX6_readBase_9 ?_
    refine ux_ldcS C 1 (by decide) rfl dX6_readBase_10 ?_
    refine cs_6_75 C  (c_Reader_readText hN  hw) (by decide) (by decide) (Nat.le_of_ble_eq_true rfl) dX6_readBase_12 (po_i.k fun r_3 a_4 hw => ?_)
    refine ux_if_eq C (tgt := 28) (by decide) dX6_readBase_15 (fun hc_21 => ?_) (fun hc_21 => ?_)
    · replace hw := hw.1 hc_21
      refine ux_iconst C (v := 0) (by decide) dX6_readBase_28 ?_
      exact ux_zret C rfl ⟨_, rfl, hw⟩ dX6_readBase_29
    · replace hw := hw.2 hc_21
      refine ux_aload_n C 0 rfl rfl dX6_readBase_18 ?_
      refine ux_iconst C (v := 2) (by decide) dX6_readBase_19 ?_
      refine ux_bipush C (v := 16) (by decide) dX6_readBase_20 ?_
      refine cs_6_80 C  (c_Reader_readBetween hN  hw) (by decide) (by decide) (Nat.le_of_ble_eq_true rfl) dX6_readBase_22 (po_i.k fun r_5 a_6 hw => ?_)
      refine ux_if_ne C (tgt := 30) (by decide) dX6_readBase_25 (fun hc_20 => ?_) (fun hc_20 => ?_)
      · replace hw := hw.2 hc_20
        refine ux_aload_n C 1 rfl rfl dX6_readBase_30 ?_
        refine ux_aload_n C 0 rfl rfl dX6_readBase_31 ?_
        refine gf_6_84 C dX6_readBase_32 ?_
        refine pf_6_87 C (uc_15 C.2.2.2.2.2) dX6_readBase_35 ?_
        refine ux_aload_n C 0 rfl rfl dX6_readBase_38 ?_
        refine ux_ldcS C 2 (by decide) rfl dX6_readBase_39 ?_
        refine cs_6_75 C  (c_Reader_readText hN  hw) (by decide) (by decide) (Nat.le_of_ble_eq_true rfl) dX6_readBase_41 (po_i.k fun r_7 a_8 hw => ?_)
        refine ux_if_eq C (tgt := 62) (by decide) dX6_readBase_44 (fun hc_19 => ?_) (fun hc_19 => ?_)
        · replace hw := hw.1 hc_19
          refine ux_iconst C (v := 0) (by decide) dX6_readBase_62 ?_
          exact ux_zret C rfl ⟨_, rfl, hw⟩ dX6_readBase_63
        · replace hw := hw.2 hc_19
          refine ux_aload_n C 0 rfl rfl dX6_readBase_47 ?_
          refine ux_iconst C (v := 1) (by decide) dX6_readBase_48 ?_
          refine ux_aload_n C 1 rfl rfl dX6_readBase_49 ?_
          refine gf_6_87 C (uc_15 C.2.2.2.2.2) dX6_readBase_50 ?_
          refine cs_6_91 C  (c_Reader_longest hN  hw) (by decide) (by decide) (Nat.le_of_ble_eq_true rfl) dX6_readBase_53 (po_ip.k fun r_9 hw => ?_)
          refine cs_6_80 C  (c_Reader_readBetween hN  hw) (by decide) (by decide) (Nat.le_of_ble_eq_true rfl) dX6_readBase_56 (po_i.k fun r_11 a_12 hw => ?_)
          refine ux_if_ne C (tgt := 64) (by decide) dX6_readBase_59 (fun hc_18 => ?_) (fun hc_18 => ?_)
          · replace hw := hw.2 hc_18
            refine ux_aload_n C 1 rfl rfl dX6_readBase_64 ?_
            refine ux_aload_n C 0 rfl rfl dX6_readBase_65 ?_
            refine gf_6_84 C dX6_readBase_66 ?_
            refine pf_6_95 C (uc_15 C.2.2.2.2.2) dX6_readBase_69 ?_
            refine ux_aload_n C 1 rfl rfl dX6_readBase_72 ?_
            refine ux_iconst C (v := 1) (by decide) dX6_readBase_73 ?_
            refine pf_6_98 C (uc_15 C.2.2.2.2.2) dX6_readBase_74 ?_
            refine ux_iconst C (v := 0) (by decide) dX6_readBase_77 ?_
            refine ux_istore_n C rfl (by decide) rfl dX6_readBase_78 ?_
            refine ux_pick [2, 0] rfl ?_
            refine LW2.elim (P := fun (x2_15 : Int32) (a_16 : ud_St) => ud_X D G z N p l e (ud_rm 6 0 0) s m args below meth c 3 0 0 (ud_Q D G z N (po_i Qf) below args s) a_16 79 [(1, .ref (z + 15)), (2, .int x2_15)] []) hw ?_
            intro x2_15 a_16 K_13 hw ih_14
            refine ux_iload_n C 1 rfl rfl dX6_readBase_79 ?_
            refine ux_aload_n C 0 rfl rfl dX6_readBase_80 ?_
            refine gf_6_95 C (uc_15 C.2.2.2.2.2) dX6_readBase_81 ?_
            refine ux_icmp_ge C (tgt := 106) (by decide) dX6_readBase_84 (fun hc_17 => ?_) (fun hc_17 => ?_)
            · replace hw := hw.1 hc_17
              refine ux_iconst C (v := 1) (by decide) dX6_readBase_106 ?_
              exact ux_zret C rfl ⟨_, rfl, hw⟩ dX6_readBase_107
            · replace hw := hw.2 hc_17
              refine ux_aload_n C 0 rfl rfl dX6_readBase_87 ?_
              refine ux_dup C rfl dX6_readBase_88 ?_
              refine gf_6_98 C (uc_15 C.2.2.2.2.2) dX6_readBase_89 ?_
              refine ux_aload_n C 0 rfl rfl dX6_readBase_92 ?_
              refine gf_6_87 C (uc_15 C.2.2.2.2.2) dX6_readBase_93 ?_
              refine ux_imul C dX6_readBase_96 ?_
              refine pf_6_98 C (uc_15 C.2.2.2.2.2) dX6_readBase_97 ?_
              refine ux_iinc C 1 rfl rfl (by decide) rfl dX6_readBase_100 ?_
              refine ux_goto C (tgt := 79) (by decide) dX6_readBase_103 ?_
              exact ux_pick [1, 0] rfl (ih_14 _ _ hw)
          · replace hw := hw.1 hc_18
            refine ux_iconst C (v := 0) (by decide) dX6_readBase_62 ?_
            exact ux_zret C rfl ⟨_, rfl, hw⟩ dX6_readBase_63
      · replace hw := hw.1 hc_20
        refine ux_iconst C (v := 0) (by decide) dX6_readBase_28 ?_
        exact ux_zret C rfl ⟨_, rfl, hw⟩ dX6_readBase_29
set_option maxHeartbeats 2000000 in
set_option maxRecDepth 4000 in
theorem c_Reader_readWord {l : Launch} {D : va_G} {G : Nat → Nat} {z N : Nat} (hN : 92 ≤ N) {a0 : ud_St}   {Qf : Int32 → ud_St → Prop} (hw : w_Reader_readWord a0  Qf) : ud_M l D G z N yX6_readWord cX6_readWord 3 (some Jvm.ClassFile.FieldType.boolean) 6 [.ref (z + 3), .ref (z + 15)] a0 (po_i Qf) := by
  unfold w_Reader_readWord at hw
  refine ud_M_of hN (by decide) (Nat.le_of_ble_eq_true rfl) ?_
  intro p e s m args below meth c C
  have C : ud_C D G z N p s m args meth c cX6_readWord 3 RX6 (some Jvm.ClassFile.FieldType.boolean) := C
  show ud_X D G z N p l e (ud_rm 6 0 0) s m args below meth c 3 0 0 (ud_Q D G z N (po_i Qf) below args s) a0 0 [(0, .ref (z + 3)), (1, .ref (z + 15))] []
  refine ux_aload_n C 0 rfl rfl dX6_readWord_0 ?_
  refine cs_6_109 C  (c_Reader_sortHere hN  hw) (by decide) (by decide) (Nat.le_of_ble_eq_true rfl) dX6_readWord_1 (po_ip.k fun r_1 hw => ?_)
  refine ux_istore_n C rfl (by decide) rfl dX6_readWord_4 ?_
  refine ux_iload_n C 0 rfl rfl dX6_readWord_5 ?_
  refine ux_iconst C (v := -1) (by decide) dX6_readWord_6 ?_
  refine ux_icmp_ne C (tgt := 16) (by decide) dX6_readWord_7 (fun hc_14 => ?_) (fun hc_14 => ?_)
  · replace hw := hw.2 hc_14
    refine ux_aload_n C 1 rfl rfl dX6_readWord_16 ?_
    refine cs_6_30 C  (c_Reader_advance hN  hw) (by decide) (by decide) (Nat.le_of_ble_eq_true rfl) dX6_readWord_17 (po_v.k fun a_4 hw => ?_)
    refine ux_aload_n C 1 rfl rfl dX6_readWord_20 ?_
    refine ux_iload_n C 0 rfl rfl dX6_readWord_21 ?_
    refine pf_6_116 C dX6_readWord_22 ?_
    refine ux_aload_n C 1 rfl rfl dX6_readWord_25 ?_
    refine ux_iconst C (v := 0) (by decide) dX6_readWord_26 ?_
    refine pf_6_84 C dX6_readWord_27 ?_
    refine ux_iload_n C 0 rfl rfl dX6_readWord_30 ?_
    refine ux_bipush C (v := 12) (by decide) dX6_readWord_31 ?_
    refine ux_icmp_lt C (tgt := 49) (by decide) dX6_readWord_33 (fun hc_10 => ?_) (fun hc_10 => ?_)
    · replace hw := hw.1 hc_10
      refine ux_iconst C (v := 1) (by decide) dX6_readWord_49 ?_
      refine ux_goto C (tgt := 54) (by decide) dX6_readWord_50 ?_
      exact ux_zret C rfl ⟨_, rfl, hw⟩ dX6_readWord_54
    · replace hw := hw.2 hc_10
      refine ux_aload_n C 1 rfl rfl dX6_readWord_36 ?_
      refine ux_iconst C (v := 0) (by decide) dX6_readWord_37 ?_
      refine ux_aload_n C 2 rfl rfl dX6_readWord_38 ?_
      refine ux_iload_n C 0 rfl rfl dX6_readWord_39 ?_
      refine cs_6_138 C (uc_15 C.2.2.2.2.2) (c_Table_mostOf hN (uc_15 C.2.2.2.2.2) hw) (by decide) (by decide) (Nat.le_of_ble_eq_true rfl) dX6_readWord_40 (po_ip.k fun r_5 hw => ?_)
      refine cs_6_80 C  (c_Reader_readBetween hN  hw) (by decide) (by decide) (Nat.le_of_ble_eq_true rfl) dX6_readWord_43 (po_i.k fun r_7 a_8 hw => ?_)
      refine ux_if_eq C (tgt := 53) (by decide) dX6_readWord_46 (fun hc_9 => ?_) (fun hc_9 => ?_)
      · replace hw := hw.1 hc_9
        refine ux_iconst C (v := 0) (by decide) dX6_readWord_53 ?_
        exact ux_zret C rfl ⟨_, rfl, hw⟩ dX6_readWord_54
      · replace hw := hw.2 hc_9
        refine ux_iconst C (v := 1) (by decide) dX6_readWord_49 ?_
        refine ux_goto C (tgt := 54) (by decide) dX6_readWord_50 ?_
        exact ux_zret C rfl ⟨_, rfl, hw⟩ dX6_readWord_54
  · replace hw := hw.1 hc_14
    refine ux_aload_n C 1 rfl rfl dX6_readWord_10 ?_
    refine ux_iconst C (v := 1) (by decide) dX6_readWord_11 ?_
    refine cs_6_69 C  (c_Reader_wrong hN  hw) (by decide) (by decide) (Nat.le_of_ble_eq_true rfl) dX6_readWord_12 (po_i.k fun r_11 a_12 hw => ?_)
    obtain ⟨hn_13, hw⟩ := hw
    exact ux_zret C (ud_narZ hn_13) ⟨_, rfl, hw⟩ dX6_readWord_15
set_option maxHeartbeats 2000000 in
set_option maxRecDepth 4000 in
theorem c_UpAndDown_restore {l : Launch} {D : va_G} {G : Nat → Nat} {z N : Nat} (hN : 92 ≤ N) {a0 : ud_St} {x1 : Int32}  {Qf : Int32 → ud_St → Prop} (hw : w_UpAndDown_restore N a0 x1 Qf) : ud_M l D G z N yX11_restore cX11_restore 2 (some Jvm.ClassFile.FieldType.int) 6 [.ref (z + 0), .int x1] a0 (po_i Qf) := by
  unfold w_UpAndDown_restore at hw
  refine ud_M_of hN (by decide) (Nat.le_of_ble_eq_true rfl) ?_
  intro p e s m args below meth c C
  have C : ud_C D G z N p s m args meth c cX11_restore 2 RX11 (some Jvm.ClassFile.FieldType.int) := C
  show ud_X D G z N p l e (ud_rm 6 0 0) s m args below meth c 2 0 0 (ud_Q D G z N (po_i Qf) below args s) a0 0 [(0, .ref (z + 0)), (1, .int x1)] []
  refine ux_aload_n C 0 rfl rfl dX11_restore_0 ?_
  refine ux_iload_n C 1 rfl rfl dX11_restore_1 ?_
  refine cs_11_348 C  (c_UpAndDown_isImage hN  hw) (by decide) (by decide) (Nat.le_of_ble_eq_true rfl) dX11_restore_2 (po_ip.k fun r_1 hw => ?_)
  refine ux_if_ne C (tgt := 11) (by decide) dX11_restore_5 (fun hc_12 => ?_) (fun hc_12 => ?_)
  · replace hw := hw.2 hc_12
    refine ux_aload_n C 0 rfl rfl dX11_restore_11 ?_
    refine gf_11_84 C dX11_restore_12 ?_
    refine ux_iload_n C 1 rfl rfl dX11_restore_15 ?_
    obtain ⟨hi_3, hw⟩ := hw
    refine ux_aldT C hi_3 dX11_restore_16 ?_
    refine ux_ifnonnullO C (tgt := 23) (by decide) dX11_restore_17 (fun hq_5 => ?_) (fun q_4 hq_5 => ?_)
    · replace hw := hw.1 hq_5
      refine ux_bipush C (v := -6) (by decide) dX11_restore_20 ?_
      exact ux_iret C ⟨_, rfl, hw⟩ dX11_restore_22
    · obtain ⟨hs_6, hw⟩ := hw.2 q_4 hq_5
      try rw [hq_5]
      show ud_X D G z N p l e (ud_rm 6 0 0) s m args below meth c 2 0 0 (ud_Q D G z N (po_i Qf) below args s) a0 23 [(0, .ref (z + 0)), (1, .int x1)] []
      refine ux_aload_n C 0 rfl rfl dX11_restore_23 ?_
      refine gf_11_28 C dX11_restore_24 ?_
      refine ux_aload_n C 0 rfl rfl dX11_restore_27 ?_
      refine gf_11_84 C dX11_restore_28 ?_
      refine ux_iload_n C 1 rfl rfl dX11_restore_31 ?_
      obtain ⟨hi_7, hw⟩ := hw
      refine ux_aldT C hi_7 dX11_restore_32 ?_
      try rw [hq_5]
      show ud_X D G z N p l e (ud_rm 6 0 0) s m args below meth c 2 0 0 (ud_Q D G z N (po_i Qf) below args s) a0 33 [(0, .ref (z + 0)), (1, .int x1)] [.ref (z + q_4), .ref (z + 4)]
      refine cs_11_104 C (uc_4 C.2.2.2.2.2) (c_Table_copy hN (uc_4 C.2.2.2.2.2) hs_6 hw) (by decide) (by decide) (Nat.le_of_ble_eq_true rfl) dX11_restore_33 (po_v.k fun a_9 hw => ?_)
      refine ux_aload_n C 0 rfl rfl dX11_restore_36 ?_
      refine cs_11_108 C  (c_UpAndDown_begin hN  hw) (by decide) (by decide) (Nat.le_of_ble_eq_true rfl) dX11_restore_37 (po_v.k fun a_11 hw => ?_)
      refine ux_iconst C (v := 0) (by decide) dX11_restore_40 ?_
      exact ux_iret C ⟨_, rfl, hw⟩ dX11_restore_41
  · replace hw := hw.1 hc_12
    refine ux_bipush C (v := -2) (by decide) dX11_restore_8 ?_
    exact ux_iret C ⟨_, rfl, hw⟩ dX11_restore_10
set_option maxHeartbeats 2000000 in
set_option maxRecDepth 4000 in
theorem c_UpAndDown_known {l : Launch} {D : va_G} {G : Nat → Nat} {z N : Nat} (hN : 92 ≤ N) {a0 : ud_St}   {Qf : ud_St → Prop} (hw : w_UpAndDown_known a0  Qf) : ud_M l D G z N yX11_known cX11_known 1 (some (Jvm.ClassFile.FieldType.object "UpAndDown$Paths")) 6 [.ref (z + 0)] a0 (po_r z 36 Qf) := by
  unfold w_UpAndDown_known at hw
  refine ud_M_of hN (by decide) (Nat.le_of_ble_eq_true rfl) ?_
  intro p e s m args below meth c C
  have C : ud_C D G z N p s m args meth c cX11_known 1 RX11 (some (Jvm.ClassFile.FieldType.object "UpAndDown$Paths")) := C
  show ud_X D G z N p l e (ud_rm 6 0 0) s m args below meth c 1 0 0 (ud_Q D G z N (po_r z 36 Qf) below args s) a0 0 [(0, .ref (z + 0))] []
  refine ux_aload_n C 0 rfl rfl dX11_known_0 ?_
  refine gf_11_45 C dX11_known_1 ?_
  refine ux_aload_n C 0 rfl rfl dX11_known_4 ?_
  refine gf_11_38 C dX11_known_5 ?_
  refine ux_aload_n C 0 rfl rfl dX11_known_8 ?_
  refine gf_11_28 C dX11_known_9 ?_
  refine gf_11_123 C (uc_4 C.2.2.2.2.2) dX11_known_12 ?_
  refine cs_11_383 C  (c_Paths_prepare hN  hw) (by decide) (by decide) (Nat.le_of_ble_eq_true rfl) dX11_known_15 (po_v.k fun a_2 hw => ?_)
  refine ux_aload_n C 0 rfl rfl dX11_known_18 ?_
  refine gf_11_45 C dX11_known_19 ?_
  exact ux_aret C (Or.inl ⟨_, rfl⟩) (Or.inr ⟨_, rfl⟩) ⟨rfl, hw⟩ dX11_known_22
set_option maxHeartbeats 2000000 in
set_option maxRecDepth 4000 in
theorem c_UpAndDown_behind_j22 {D : va_G} {G : Nat → Nat} {z N : Nat} {p : Program} {l : Launch} {e : Env} {s : State} {m : MethodId} {args : Array Value} {below : List Frame} {meth : Method} {c : Code} (hN : 92 ≤ N) {a0 : ud_St} {x2 : Int32} {x3 : Int32} {b_22 : ud_St} {y2_22 : Int32} {y3_22 : Int32}  {Qf : ud_St → Prop} (C : ud_C D G z N p s m args meth c cX11_behind 4 RX11 (some (Jvm.ClassFile.FieldType.object "UpAndDown$Crowd")))  (hw : w_UpAndDown_behind_j22 a0 x2 x3 b_22 y2_22 y3_22 Qf) : ud_X D G z N p l e (ud_rm 6 0 0) s m args below meth c 4 0 0 (ud_Q D G z N (po_r z 45 Qf) below args s) b_22 22 [(0, .ref (z + 0)), (1, .ref (z + 36)), (2, .int y2_22), (3, .int y3_22)] [] := by
  unfold w_UpAndDown_behind_j22 at hw
  refine ux_aload_n C 0 rfl rfl dX11_behind_22 ?_
  refine gf_11_52 C dX11_behind_23 ?_
  refine ux_aload_n C 0 rfl rfl dX11_behind_26 ?_
  refine gf_11_38 C dX11_behind_27 ?_
  refine ux_aload_n C 0 rfl rfl dX11_behind_30 ?_
  refine gf_11_28 C dX11_behind_31 ?_
  refine ux_iload_n C 2 rfl rfl dX11_behind_34 ?_
  refine cs_11_389 C  (c_Crowd_begin hN  hw) (by decide) (by decide) (Nat.le_of_ble_eq_true rfl) dX11_behind_35 (po_v.k fun a_2 hw => ?_)
  refine ux_aload_n C 0 rfl rfl dX11_behind_38 ?_
  refine gf_11_52 C dX11_behind_39 ?_
  refine ux_aload_n C 1 rfl rfl dX11_behind_42 ?_
  refine ux_iload_n C 3 rfl rfl dX11_behind_43 ?_
  refine cs_11_392 C  (c_Crowd_goOn hN  hw) (by decide) (by decide) (Nat.le_of_ble_eq_true rfl) dX11_behind_44 (po_v.k fun a_4 hw => ?_)
  refine ux_aload_n C 0 rfl rfl dX11_behind_47 ?_
  refine gf_11_52 C dX11_behind_48 ?_
  exact ux_aret C (Or.inl ⟨_, rfl⟩) (Or.inr ⟨_, rfl⟩) ⟨rfl, hw⟩ dX11_behind_51
set_option maxHeartbeats 2000000 in
set_option maxRecDepth 4000 in
theorem c_UpAndDown_behind {l : Launch} {D : va_G} {G : Nat → Nat} {z N : Nat} (hN : 92 ≤ N) {a0 : ud_St} {x2 : Int32} {x3 : Int32}  {Qf : ud_St → Prop} (hw : w_UpAndDown_behind a0 x2 x3 Qf) : ud_M l D G z N yX11_behind cX11_behind 4 (some (Jvm.ClassFile.FieldType.object "UpAndDown$Crowd")) 6 [.ref (z + 0), .ref (z + 36), .int x2, .int x3] a0 (po_r z 45 Qf) := by
  unfold w_UpAndDown_behind at hw
  refine ud_M_of hN (by decide) (Nat.le_of_ble_eq_true rfl) ?_
  intro p e s m args below meth c C
  have C : ud_C D G z N p s m args meth c cX11_behind 4 RX11 (some (Jvm.ClassFile.FieldType.object "UpAndDown$Crowd")) := C
  show ud_X D G z N p l e (ud_rm 6 0 0) s m args below meth c 4 0 0 (ud_Q D G z N (po_r z 45 Qf) below args s) a0 0 [(0, .ref (z + 0)), (1, .ref (z + 36)), (2, .int x2), (3, .int x3)] []
  refine ux_aload_n C 0 rfl rfl dX11_behind_0 ?_
  refine gf_11_52 C dX11_behind_1 ?_
  refine gf_11_380 C dX11_behind_4 ?_
  refine ux_iload_n C 2 rfl rfl dX11_behind_7 ?_
  refine ux_icmp_ne C (tgt := 22) (by decide) dX11_behind_8 (fun hc_8 => ?_) (fun hc_8 => ?_)
  · replace hw := hw.2 hc_8
    exact ux_pick [0, 1, 2, 3] rfl (c_UpAndDown_behind_j22 hN  C  hw)
  · replace hw := hw.1 hc_8
    refine ux_aload_n C 0 rfl rfl dX11_behind_11 ?_
    refine gf_11_52 C dX11_behind_12 ?_
    refine gf_11_386 C dX11_behind_15 ?_
    refine ux_iload_n C 3 rfl rfl dX11_behind_18 ?_
    refine ux_icmp_le C (tgt := 38) (by decide) dX11_behind_19 (fun hc_7 => ?_) (fun hc_7 => ?_)
    · replace hw := hw.1 hc_7
      refine ux_aload_n C 0 rfl rfl dX11_behind_38 ?_
      refine gf_11_52 C dX11_behind_39 ?_
      refine ux_aload_n C 1 rfl rfl dX11_behind_42 ?_
      refine ux_iload_n C 3 rfl rfl dX11_behind_43 ?_
      refine cs_11_392 C  (c_Crowd_goOn hN  hw) (by decide) (by decide) (Nat.le_of_ble_eq_true rfl) dX11_behind_44 (po_v.k fun a_6 hw => ?_)
      refine ux_aload_n C 0 rfl rfl dX11_behind_47 ?_
      refine gf_11_52 C dX11_behind_48 ?_
      exact ux_aret C (Or.inl ⟨_, rfl⟩) (Or.inr ⟨_, rfl⟩) ⟨rfl, hw⟩ dX11_behind_51
    · replace hw := hw.2 hc_7
      exact ux_pick [0, 1, 2, 3] rfl (c_UpAndDown_behind_j22 hN  C  hw)
set_option maxHeartbeats 2000000 in
set_option maxRecDepth 4000 in
theorem c_Model_table_j71 {D : va_G} {G : Nat → Nat} {z N : Nat} {p : Program} {l : Launch} {e : Env} {s : State} {m : MethodId} {args : Array Value} {below : List Frame} {meth : Method} {c : Code} (hN : 92 ≤ N) {a0 : ud_St} {b_71 : ud_St}  {Qf : Int32 → ud_St → Prop} (C : ud_C D G z N p s m args meth c cX12_table 1 RX12 (some Jvm.ClassFile.FieldType.int))  (hw : w_Model_table_j71 a0 b_71 Qf) : ud_X D G z N p l e (ud_rm 6 0 0) s m args below meth c 1 0 0 (ud_Q D G z N (po_i Qf) below args s) b_71 71 [(0, .ref (z + 71))] [] := by
  unfold w_Model_table_j71 at hw
  refine ux_aload_n C 0 rfl rfl dX12_table_71 ?_
  refine cs_12_248 C  (c_Model_isOver hN  hw) (by decide) (by decide) (Nat.le_of_ble_eq_true rfl) dX12_table_72 (po_v.k fun a_11 hw => ?_)
  refine ux_aload_n C 0 rfl rfl dX12_table_75 ?_
  refine gf_12_129 C dX12_table_76 ?_
  refine ux_if_eq C (tgt := 85) (by decide) dX12_table_79 (fun hc_15 => ?_) (fun hc_15 => ?_)
  · replace hw := hw.1 hc_15
    refine ux_aload_n C 0 rfl rfl dX12_table_85 ?_
    refine ux_iconst C (v := 4) (by decide) dX12_table_86 ?_
    refine ux_iconst C (v := 0) (by decide) dX12_table_87 ?_
    refine cs_12_251 C  (c_Model_copyTable hN  hw) (by decide) (by decide) (Nat.le_of_ble_eq_true rfl) dX12_table_88 (po_v.k fun a_13 hw => ?_)
    refine ux_aload_n C 0 rfl rfl dX12_table_91 ?_
    refine gf_12_31 C dX12_table_92 ?_
    refine ux_iconst C (v := 0) (by decide) dX12_table_95 ?_
    obtain ⟨hi_14, hw⟩ := hw
    refine ux_iald C (uc_77 C.2.2.2.2.2) hi_14 dX12_table_96 ?_
    exact ux_iret C ⟨_, rfl, hw⟩ dX12_table_97
  · replace hw := hw.2 hc_15
    refine ux_bipush C (v := -4) (by decide) dX12_table_82 ?_
    exact ux_iret C ⟨_, rfl, hw⟩ dX12_table_84
set_option maxHeartbeats 2000000 in
set_option maxRecDepth 4000 in
theorem c_Model_table_j47 {D : va_G} {G : Nat → Nat} {z N : Nat} {p : Program} {l : Launch} {e : Env} {s : State} {m : MethodId} {args : Array Value} {below : List Frame} {meth : Method} {c : Code} (hN : 92 ≤ N) {a0 : ud_St} {b_47 : ud_St} {K_5 : ud_St → Prop}  {Qf : Int32 → ud_St → Prop} (C : ud_C D G z N p s m args meth c cX12_table 1 RX12 (some Jvm.ClassFile.FieldType.int)) (ih_6 : ∀ (v0 : ud_St), K_5 v0 → ud_X D G z N p l e (ud_rm 6 0 0) s m args below meth c 1 0 0 (ud_Q D G z N (po_i Qf) below args s) v0 13 [(0, .ref (z + 71))] []) (hw : w_Model_table_j47 a0 b_47 K_5 Qf) : ud_X D G z N p l e (ud_rm 6 0 0) s m args below meth c 1 0 0 (ud_Q D G z N (po_i Qf) below args s) b_47 47 [(0, .ref (z + 71))] [] := by
  unfold w_Model_table_j47 at hw
  refine ux_aload_n C 0 rfl rfl dX12_table_47 ?_
  refine cs_12_200 C  (c_Model_isGood hN  hw) (by decide) (by decide) (Nat.le_of_ble_eq_true rfl) dX12_table_48 (po_ip.k fun r_18 hw => ?_)
  refine ux_if_eq C (tgt := 58) (by decide) dX12_table_51 (fun hc_26 => ?_) (fun hc_26 => ?_)
  · replace hw := hw.1 hc_26
    refine ux_aload_n C 0 rfl rfl dX12_table_58 ?_
    refine gf_12_31 C dX12_table_59 ?_
    refine ux_iconst C (v := 4) (by decide) dX12_table_62 ?_
    refine ux_dup2 C rfl rfl dX12_table_63 ?_
    obtain ⟨hi_21, hw⟩ := hw
    refine ux_iald C (uc_77 C.2.2.2.2.2) hi_21 dX12_table_64 ?_
    refine ux_iconst C (v := 1) (by decide) dX12_table_65 ?_
    refine ux_iadd C dX12_table_66 ?_
    obtain ⟨hi_20, hw⟩ := hw
    refine ux_iast C (uc_77 C.2.2.2.2.2) hi_20 dX12_table_67 ?_
    refine ux_goto C (tgt := 13) (by decide) dX12_table_68 ?_
    exact ux_pick [0] rfl (ih_6 _ hw)
  · replace hw := hw.2 hc_26
    refine ux_aload_n C 0 rfl rfl dX12_table_54 ?_
    refine cs_12_245 C  (c_Model_ends hN  hw) (by decide) (by decide) (Nat.le_of_ble_eq_true rfl) dX12_table_55 (po_v.k fun a_23 hw => ?_)
    refine ux_aload_n C 0 rfl rfl dX12_table_58 ?_
    refine gf_12_31 C dX12_table_59 ?_
    refine ux_iconst C (v := 4) (by decide) dX12_table_62 ?_
    refine ux_dup2 C rfl rfl dX12_table_63 ?_
    obtain ⟨hi_25, hw⟩ := hw
    refine ux_iald C (uc_77 C.2.2.2.2.2) hi_25 dX12_table_64 ?_
    refine ux_iconst C (v := 1) (by decide) dX12_table_65 ?_
    refine ux_iadd C dX12_table_66 ?_
    obtain ⟨hi_24, hw⟩ := hw
    refine ux_iast C (uc_77 C.2.2.2.2.2) hi_24 dX12_table_67 ?_
    refine ux_goto C (tgt := 13) (by decide) dX12_table_68 ?_
    exact ux_pick [0] rfl (ih_6 _ hw)
set_option maxHeartbeats 2000000 in
set_option maxRecDepth 4000 in
theorem c_Model_table {l : Launch} {D : va_G} {G : Nat → Nat} {z N : Nat} (hN : 92 ≤ N) {a0 : ud_St}   {Qf : Int32 → ud_St → Prop} (hw : w_Model_table a0  Qf) : ud_M l D G z N yX12_table cX12_table 1 (some Jvm.ClassFile.FieldType.int) 6 [.ref (z + 71)] a0 (po_i Qf) := by
  unfold w_Model_table at hw
  refine ud_M_of hN (by decide) (Nat.le_of_ble_eq_true rfl) ?_
  intro p e s m args below meth c C
  have C : ud_C D G z N p s m args meth c cX12_table 1 RX12 (some Jvm.ClassFile.FieldType.int) := C
  show ud_X D G z N p l e (ud_rm 6 0 0) s m args below meth c 1 0 0 (ud_Q D G z N (po_i Qf) below args s) a0 0 [(0, .ref (z + 71))] []
  refine ux_aload_n C 0 rfl rfl dX12_table_0 ?_
  refine ux_iconst C (v := 0) (by decide) dX12_table_1 ?_
  refine pf_12_77 C dX12_table_2 ?_
  refine ux_aload_n C 0 rfl rfl dX12_table_5 ?_
  refine cs_12_233 C  (c_Model_clears hN  hw) (by decide) (by decide) (Nat.le_of_ble_eq_true rfl) dX12_table_6 (po_v.k fun a_2 hw => ?_)
  refine ux_aload_n C 0 rfl rfl dX12_table_9 ?_
  refine cs_12_236 C  (c_Model_begins hN  hw) (by decide) (by decide) (Nat.le_of_ble_eq_true rfl) dX12_table_10 (po_v.k fun a_4 hw => ?_)
  refine ux_pick [0] rfl ?_
  refine LW1.elim (P := fun (a_7 : ud_St) => ud_X D G z N p l e (ud_rm 6 0 0) s m args below meth c 1 0 0 (ud_Q D G z N (po_i Qf) below args s) a_7 13 [(0, .ref (z + 71))] []) hw ?_
  intro a_7 K_5 hw ih_6
  refine ux_aload_n C 0 rfl rfl dX12_table_13 ?_
  refine cs_12_200 C  (c_Model_isGood hN  hw) (by decide) (by decide) (Nat.le_of_ble_eq_true rfl) dX12_table_14 (po_ip.k fun r_8 hw => ?_)
  refine ux_if_eq C (tgt := 71) (by decide) dX12_table_17 (fun hc_32 => ?_) (fun hc_32 => ?_)
  · replace hw := hw.1 hc_32
    exact ux_pick [0] rfl (c_Model_table_j71 hN  C  hw)
  · replace hw := hw.2 hc_32
    refine ux_aload_n C 0 rfl rfl dX12_table_20 ?_
    refine gf_12_118 C dX12_table_21 ?_
    refine ux_if_eq C (tgt := 71) (by decide) dX12_table_24 (fun hc_31 => ?_) (fun hc_31 => ?_)
    · replace hw := hw.1 hc_31
      exact ux_pick [0] rfl (c_Model_table_j71 hN  C  hw)
    · replace hw := hw.2 hc_31
      refine ux_aload_n C 0 rfl rfl dX12_table_27 ?_
      refine gf_12_31 C dX12_table_28 ?_
      refine ux_iconst C (v := 4) (by decide) dX12_table_31 ?_
      obtain ⟨hi_30, hw⟩ := hw
      refine ux_iald C (uc_77 C.2.2.2.2.2) hi_30 dX12_table_32 ?_
      refine ux_if_ne C (tgt := 43) (by decide) dX12_table_33 (fun hc_29 => ?_) (fun hc_29 => ?_)
      · replace hw := hw.2 hc_29
        refine ux_aload_n C 0 rfl rfl dX12_table_43 ?_
        refine cs_12_242 C  (c_Model_line hN  hw) (by decide) (by decide) (Nat.le_of_ble_eq_true rfl) dX12_table_44 (po_v.k fun a_17 hw => ?_)
        exact ux_pick [0] rfl (c_Model_table_j47 hN  C ih_6 hw)
      · replace hw := hw.1 hc_29
        refine ux_aload_n C 0 rfl rfl dX12_table_36 ?_
        refine cs_12_239 C  (c_Model_first hN  hw) (by decide) (by decide) (Nat.le_of_ble_eq_true rfl) dX12_table_37 (po_v.k fun a_28 hw => ?_)
        refine ux_goto C (tgt := 47) (by decide) dX12_table_40 ?_
        exact ux_pick [0] rfl (c_Model_table_j47 hN  C ih_6 hw)
set_option maxHeartbeats 2000000 in
set_option maxRecDepth 4000 in
theorem c_Model_all {l : Launch} {D : va_G} {G : Nat → Nat} {z N : Nat} (hN : 92 ≤ N) {a0 : ud_St}   {Qf : ud_St → Prop} (hw : w_Model_all a0  Qf) : ud_M l D G z N yX12_all cX12_all 1 (none : Option Jvm.ClassFile.FieldType) 6 [.ref (z + 71)] a0 (po_v Qf) := by
  unfold w_Model_all at hw
  refine ud_M_of hN (by decide) (Nat.le_of_ble_eq_true rfl) ?_
  intro p e s m args below meth c C
  have C : ud_C D G z N p s m args meth c cX12_all 1 RX12 (none : Option Jvm.ClassFile.FieldType) := C
  show ud_X D G z N p l e (ud_rm 6 0 0) s m args below meth c 1 0 0 (ud_Q D G z N (po_v Qf) below args s) a0 0 [(0, .ref (z + 71))] []
  refine ux_aload_n C 0 rfl rfl dX12_all_0 ?_
  refine cs_12_311 C  (c_Model_lays hN  hw) (by decide) (by decide) (Nat.le_of_ble_eq_true rfl) dX12_all_1 (po_v.k fun a_2 hw => ?_)
  refine ux_aload_n C 0 rfl rfl dX12_all_4 ?_
  refine cs_12_314 C  (c_Model_goesAll hN  hw) (by decide) (by decide) (Nat.le_of_ble_eq_true rfl) dX12_all_5 (po_v.k fun a_4 hw => ?_)
  exact ux_vret C ⟨rfl, hw⟩ dX12_all_8
set_option maxHeartbeats 2000000 in
set_option maxRecDepth 4000 in
theorem c_Model_gardens {l : Launch} {D : va_G} {G : Nat → Nat} {z N : Nat} (hN : 92 ≤ N) {a0 : ud_St}   {Qf : Int32 → ud_St → Prop} (hw : w_Model_gardens a0  Qf) : ud_M l D G z N yX12_gardens cX12_gardens 1 (some Jvm.ClassFile.FieldType.int) 6 [.ref (z + 71)] a0 (po_i Qf) := by
  unfold w_Model_gardens at hw
  refine ud_M_of hN (by decide) (Nat.le_of_ble_eq_true rfl) ?_
  intro p e s m args below meth c C
  have C : ud_C D G z N p s m args meth c cX12_gardens 1 RX12 (some Jvm.ClassFile.FieldType.int) := C
  show ud_X D G z N p l e (ud_rm 6 0 0) s m args below meth c 1 0 0 (ud_Q D G z N (po_i Qf) below args s) a0 0 [(0, .ref (z + 71))] []
  refine ux_aload_n C 0 rfl rfl dX12_gardens_0 ?_
  refine ux_iconst C (v := 0) (by decide) dX12_gardens_1 ?_
  refine pf_12_77 C dX12_gardens_2 ?_
  refine ux_aload_n C 0 rfl rfl dX12_gardens_5 ?_
  refine cs_12_299 C  (c_Model_isTable hN  hw) (by decide) (by decide) (Nat.le_of_ble_eq_true rfl) dX12_gardens_6 (po_ip.k fun r_1 hw => ?_)
  refine ux_if_ne C (tgt := 15) (by decide) dX12_gardens_9 (fun hc_7 => ?_) (fun hc_7 => ?_)
  · replace hw := hw.2 hc_7
    refine ux_aload_n C 0 rfl rfl dX12_gardens_15 ?_
    refine cs_12_311 C  (c_Model_lays hN  hw) (by decide) (by decide) (Nat.le_of_ble_eq_true rfl) dX12_gardens_16 (po_v.k fun a_4 hw => ?_)
    refine ux_aload_n C 0 rfl rfl dX12_gardens_19 ?_
    refine ux_iconst C (v := -1) (by decide) dX12_gardens_20 ?_
    refine cs_12_345 C  (c_Model_gardenOf hN  hw) (by decide) (by decide) (Nat.le_of_ble_eq_true rfl) dX12_gardens_21 (po_i.k fun r_5 a_6 hw => ?_)
    exact ux_iret C ⟨_, rfl, hw⟩ dX12_gardens_24
  · replace hw := hw.1 hc_7
    refine ux_bipush C (v := -2) (by decide) dX12_gardens_12 ?_
    exact ux_iret C ⟨_, rfl, hw⟩ dX12_gardens_14
set_option maxHeartbeats 2000000 in
set_option maxRecDepth 4000 in
theorem c_Model_garden {l : Launch} {D : va_G} {G : Nat → Nat} {z N : Nat} (hN : 92 ≤ N) {a0 : ud_St} {x1 : Int32}  {Qf : Int32 → ud_St → Prop} (hw : w_Model_garden a0 x1 Qf) : ud_M l D G z N yX12_garden cX12_garden 2 (some Jvm.ClassFile.FieldType.int) 6 [.ref (z + 71), .int x1] a0 (po_i Qf) := by
  unfold w_Model_garden at hw
  refine ud_M_of hN (by decide) (Nat.le_of_ble_eq_true rfl) ?_
  intro p e s m args below meth c C
  have C : ud_C D G z N p s m args meth c cX12_garden 2 RX12 (some Jvm.ClassFile.FieldType.int) := C
  show ud_X D G z N p l e (ud_rm 6 0 0) s m args below meth c 2 0 0 (ud_Q D G z N (po_i Qf) below args s) a0 0 [(0, .ref (z + 71)), (1, .int x1)] []
  refine ux_aload_n C 0 rfl rfl dX12_garden_0 ?_
  refine ux_iconst C (v := 0) (by decide) dX12_garden_1 ?_
  refine pf_12_77 C dX12_garden_2 ?_
  refine ux_aload_n C 0 rfl rfl dX12_garden_5 ?_
  refine cs_12_299 C  (c_Model_isTable hN  hw) (by decide) (by decide) (Nat.le_of_ble_eq_true rfl) dX12_garden_6 (po_ip.k fun r_1 hw => ?_)
  refine ux_if_ne C (tgt := 15) (by decide) dX12_garden_9 (fun hc_8 => ?_) (fun hc_8 => ?_)
  · replace hw := hw.2 hc_8
    refine ux_aload_n C 0 rfl rfl dX12_garden_15 ?_
    refine cs_12_311 C  (c_Model_lays hN  hw) (by decide) (by decide) (Nat.le_of_ble_eq_true rfl) dX12_garden_16 (po_v.k fun a_4 hw => ?_)
    refine ux_iload_n C 1 rfl rfl dX12_garden_19 ?_
    refine ux_if_ge C (tgt := 27) (by decide) dX12_garden_20 (fun hc_7 => ?_) (fun hc_7 => ?_)
    · replace hw := hw.1 hc_7
      refine ux_aload_n C 0 rfl rfl dX12_garden_27 ?_
      refine ux_iload_n C 1 rfl rfl dX12_garden_28 ?_
      refine cs_12_345 C  (c_Model_gardenOf hN  hw) (by decide) (by decide) (Nat.le_of_ble_eq_true rfl) dX12_garden_29 (po_i.k fun r_5 a_6 hw => ?_)
      exact ux_iret C ⟨_, rfl, hw⟩ dX12_garden_32
    · replace hw := hw.2 hc_7
      refine ux_iconst C (v := -1) (by decide) dX12_garden_23 ?_
      refine ux_goto C (tgt := 32) (by decide) dX12_garden_24 ?_
      exact ux_iret C ⟨_, rfl, hw⟩ dX12_garden_32
  · replace hw := hw.1 hc_8
    refine ux_bipush C (v := -2) (by decide) dX12_garden_12 ?_
    exact ux_iret C ⟨_, rfl, hw⟩ dX12_garden_14
set_option maxHeartbeats 2000000 in
set_option maxRecDepth 4000 in
theorem c_Model_from {l : Launch} {D : va_G} {G : Nat → Nat} {z N : Nat} (hN : 92 ≤ N) {a0 : ud_St} {x1 : Int32} {x2 : Int32}  {Qf : Int32 → ud_St → Prop} (hw : w_Model_from a0 x1 x2 Qf) : ud_M l D G z N yX12_from cX12_from 3 (some Jvm.ClassFile.FieldType.int) 6 [.ref (z + 71), .int x1, .int x2] a0 (po_i Qf) := by
  unfold w_Model_from at hw
  refine ud_M_of hN (by decide) (Nat.le_of_ble_eq_true rfl) ?_
  intro p e s m args below meth c C
  have C : ud_C D G z N p s m args meth c cX12_from 3 RX12 (some Jvm.ClassFile.FieldType.int) := C
  show ud_X D G z N p l e (ud_rm 6 0 0) s m args below meth c 3 0 0 (ud_Q D G z N (po_i Qf) below args s) a0 0 [(0, .ref (z + 71)), (1, .int x1), (2, .int x2)] []
  refine ux_aload_n C 0 rfl rfl dX12_from_0 ?_
  refine ux_iconst C (v := 0) (by decide) dX12_from_1 ?_
  refine pf_12_77 C dX12_from_2 ?_
  refine ux_aload_n C 0 rfl rfl dX12_from_5 ?_
  refine ux_iload_n C 1 rfl rfl dX12_from_6 ?_
  refine ux_i2l C dX12_from_7 ?_
  refine cs_12_302 C  (c_Model_isNumber hN  hw) (by decide) (by decide) (Nat.le_of_ble_eq_true rfl) dX12_from_8 (po_ip.k fun r_1 hw => ?_)
  refine ux_if_eq C (tgt := 19) (by decide) dX12_from_11 (fun hc_8 => ?_) (fun hc_8 => ?_)
  · replace hw := hw.1 hc_8
    refine ux_bipush C (v := -2) (by decide) dX12_from_19 ?_
    exact ux_iret C ⟨_, rfl, hw⟩ dX12_from_21
  · replace hw := hw.2 hc_8
    refine ux_iload_n C 2 rfl rfl dX12_from_14 ?_
    refine ux_iconst C (v := -1) (by decide) dX12_from_15 ?_
    refine ux_icmp_ge C (tgt := 22) (by decide) dX12_from_16 (fun hc_7 => ?_) (fun hc_7 => ?_)
    · replace hw := hw.1 hc_7
      refine ux_aload_n C 0 rfl rfl dX12_from_22 ?_
      refine cs_12_311 C  (c_Model_lays hN  hw) (by decide) (by decide) (Nat.le_of_ble_eq_true rfl) dX12_from_23 (po_v.k fun a_4 hw => ?_)
      refine ux_aload_n C 0 rfl rfl dX12_from_26 ?_
      refine ux_iload_n C 1 rfl rfl dX12_from_27 ?_
      refine ux_iload_n C 2 rfl rfl dX12_from_28 ?_
      refine cs_12_348 C  (c_Model_fromOf hN  hw) (by decide) (by decide) (Nat.le_of_ble_eq_true rfl) dX12_from_29 (po_ip.k fun r_5 hw => ?_)
      exact ux_iret C ⟨_, rfl, hw⟩ dX12_from_32
    · replace hw := hw.2 hc_7
      refine ux_bipush C (v := -2) (by decide) dX12_from_19 ?_
      exact ux_iret C ⟨_, rfl, hw⟩ dX12_from_21
set_option maxHeartbeats 2000000 in
set_option maxRecDepth 4000 in
theorem c_Model_back_j83 {D : va_G} {G : Nat → Nat} {z N : Nat} {p : Program} {l : Launch} {e : Env} {s : State} {m : MethodId} {args : Array Value} {below : List Frame} {meth : Method} {c : Code} (hN : 92 ≤ N) {a0 : ud_St} {x1 : Int32} {x2 : Int32} {b_83 : ud_St} {y1_83 : Int32} {y2_83 : Int32} {y3_83 : Int32} {y4_83 : Int32} {y5_83 : Int32} {y6_83 : Int32} {K_7 : Int32 → Int32 → Prop}  {Qf : Int32 → ud_St → Prop} (C : ud_C D G z N p s m args meth c cX12_back 7 RX12 (some Jvm.ClassFile.FieldType.int)) (ih_8 : ∀ (v0 : Int32) (v1 : Int32), K_7 v0 v1 → ud_X D G z N p l e (ud_rm 6 0 0) s m args below meth c 7 0 0 (ud_Q D G z N (po_i Qf) below args s) b_83 38 [(0, .ref (z + 71)), (1, .int y1_83), (2, .int y2_83), (3, .int v0), (4, .int v1)] []) (hw : w_Model_back_j83 a0 x1 x2 b_83 y1_83 y2_83 y3_83 y4_83 y5_83 y6_83 K_7 Qf) : ud_X D G z N p l e (ud_rm 6 0 0) s m args below meth c 7 0 0 (ud_Q D G z N (po_i Qf) below args s) b_83 83 [(0, .ref (z + 71)), (1, .int y1_83), (2, .int y2_83), (3, .int y3_83), (4, .int y4_83), (5, .int y5_83), (6, .int y6_83)] [] := by
  unfold w_Model_back_j83 at hw
  refine ux_iload_n C 3 rfl rfl dX12_back_83 ?_
  refine ux_iload C 5 rfl dX12_back_84 ?_
  refine ux_iload_n C 1 rfl rfl dX12_back_86 ?_
  refine ux_icmp_ne C (tgt := 100) (by decide) dX12_back_87 (fun hc_16 => ?_) (fun hc_16 => ?_)
  · replace hw := hw.2 hc_16
    refine ux_iconst C (v := 0) (by decide) dX12_back_100 ?_
    refine ux_iadd C dX12_back_101 ?_
    refine ux_istore_n C rfl (by decide) rfl dX12_back_102 ?_
    refine ux_iinc C 4 rfl rfl (by decide) rfl dX12_back_103 ?_
    refine ux_goto C (tgt := 38) (by decide) dX12_back_106 ?_
    exact ux_pick [2, 3, 4, 1, 0] rfl (ih_8 _ _ hw)
  · replace hw := hw.1 hc_16
    refine ux_iload C 6 rfl dX12_back_90 ?_
    refine ux_iload_n C 2 rfl rfl dX12_back_92 ?_
    refine ux_icmp_ne C (tgt := 100) (by decide) dX12_back_93 (fun hc_15 => ?_) (fun hc_15 => ?_)
    · replace hw := hw.2 hc_15
      refine ux_iconst C (v := 0) (by decide) dX12_back_100 ?_
      refine ux_iadd C dX12_back_101 ?_
      refine ux_istore_n C rfl (by decide) rfl dX12_back_102 ?_
      refine ux_iinc C 4 rfl rfl (by decide) rfl dX12_back_103 ?_
      refine ux_goto C (tgt := 38) (by decide) dX12_back_106 ?_
      exact ux_pick [2, 3, 4, 1, 0] rfl (ih_8 _ _ hw)
    · replace hw := hw.1 hc_15
      refine ux_iconst C (v := 1) (by decide) dX12_back_96 ?_
      refine ux_goto C (tgt := 101) (by decide) dX12_back_97 ?_
      refine ux_iadd C dX12_back_101 ?_
      refine ux_istore_n C rfl (by decide) rfl dX12_back_102 ?_
      refine ux_iinc C 4 rfl rfl (by decide) rfl dX12_back_103 ?_
      refine ux_goto C (tgt := 38) (by decide) dX12_back_106 ?_
      exact ux_pick [2, 3, 4, 1, 0] rfl (ih_8 _ _ hw)
set_option maxHeartbeats 2000000 in
set_option maxRecDepth 4000 in
theorem c_Model_back_j56 {D : va_G} {G : Nat → Nat} {z N : Nat} {p : Program} {l : Launch} {e : Env} {s : State} {m : MethodId} {args : Array Value} {below : List Frame} {meth : Method} {c : Code} (hN : 92 ≤ N) {a0 : ud_St} {x1 : Int32} {x2 : Int32} {b_56 : ud_St} {y1_56 : Int32} {y2_56 : Int32} {y3_56 : Int32} {y4_56 : Int32} {y5_56 : Int32} {y6_56 : Int32} {K_7 : Int32 → Int32 → Prop}  {Qf : Int32 → ud_St → Prop} (C : ud_C D G z N p s m args meth c cX12_back 7 RX12 (some Jvm.ClassFile.FieldType.int)) (ih_8 : ∀ (v0 : Int32) (v1 : Int32), K_7 v0 v1 → ud_X D G z N p l e (ud_rm 6 0 0) s m args below meth c 7 0 0 (ud_Q D G z N (po_i Qf) below args s) b_56 38 [(0, .ref (z + 71)), (1, .int y1_56), (2, .int y2_56), (3, .int v0), (4, .int v1)] []) (hw : w_Model_back_j56 a0 x1 x2 b_56 y1_56 y2_56 y3_56 y4_56 y5_56 y6_56 K_7 Qf) : ud_X D G z N p l e (ud_rm 6 0 0) s m args below meth c 7 0 0 (ud_Q D G z N (po_i Qf) below args s) b_56 56 [(0, .ref (z + 71)), (1, .int y1_56), (2, .int y2_56), (3, .int y3_56), (4, .int y4_56), (5, .int y5_56), (6, .int y6_56)] [] := by
  unfold w_Model_back_j56 at hw
  refine ux_pick [0, 1, 2, 3, 4, 5, 6] rfl ?_
  refine LW2.elim (P := fun (x5_13 : Int32) (x6_14 : Int32) => ud_X D G z N p l e (ud_rm 6 0 0) s m args below meth c 7 0 0 (ud_Q D G z N (po_i Qf) below args s) b_56 56 [(0, .ref (z + 71)), (1, .int y1_56), (2, .int y2_56), (3, .int y3_56), (4, .int y4_56), (5, .int x5_13), (6, .int x6_14)] []) hw ?_
  intro x5_13 x6_14 K_11 hw ih_12
  refine ux_iload C 5 rfl dX12_back_56 ?_
  refine ux_iload_n C 1 rfl rfl dX12_back_58 ?_
  refine ux_icmp_eq C (tgt := 83) (by decide) dX12_back_59 (fun hc_19 => ?_) (fun hc_19 => ?_)
  · replace hw := hw.1 hc_19
    exact ux_pick [0, 1, 2, 3, 4, 5, 6] rfl (c_Model_back_j83 hN  C ih_8 hw)
  · replace hw := hw.2 hc_19
    refine ux_iload C 6 rfl dX12_back_62 ?_
    refine ux_iload_n C 2 rfl rfl dX12_back_64 ?_
    refine ux_icmp_ge C (tgt := 83) (by decide) dX12_back_65 (fun hc_18 => ?_) (fun hc_18 => ?_)
    · replace hw := hw.1 hc_18
      exact ux_pick [0, 1, 2, 3, 4, 5, 6] rfl (c_Model_back_j83 hN  C ih_8 hw)
    · replace hw := hw.2 hc_18
      refine ux_aload_n C 0 rfl rfl dX12_back_68 ?_
      refine gf_12_56 C dX12_back_69 ?_
      refine ux_iload C 5 rfl dX12_back_72 ?_
      obtain ⟨hi_17, hw⟩ := hw
      refine ux_iald C (uc_85 C.2.2.2.2.2) hi_17 dX12_back_74 ?_
      refine ux_istore C (by decide) rfl dX12_back_75 ?_
      refine ux_iinc C 6 rfl rfl (by decide) rfl dX12_back_77 ?_
      refine ux_goto C (tgt := 56) (by decide) dX12_back_80 ?_
      exact ux_pick [2, 3, 4, 5, 6, 1, 0] rfl (ih_12 _ _ hw)
set_option maxHeartbeats 2000000 in
set_option maxRecDepth 4000 in
theorem c_Model_back_j38 {D : va_G} {G : Nat → Nat} {z N : Nat} {p : Program} {l : Launch} {e : Env} {s : State} {m : MethodId} {args : Array Value} {below : List Frame} {meth : Method} {c : Code} (hN : 92 ≤ N) {a0 : ud_St} {x1 : Int32} {x2 : Int32} {b_38 : ud_St} {y1_38 : Int32} {y2_38 : Int32} {y3_38 : Int32} {y4_38 : Int32}  {Qf : Int32 → ud_St → Prop} (C : ud_C D G z N p s m args meth c cX12_back 7 RX12 (some Jvm.ClassFile.FieldType.int))  (hw : w_Model_back_j38 a0 x1 x2 b_38 y1_38 y2_38 y3_38 y4_38 Qf) : ud_X D G z N p l e (ud_rm 6 0 0) s m args below meth c 7 0 0 (ud_Q D G z N (po_i Qf) below args s) b_38 38 [(0, .ref (z + 71)), (1, .int y1_38), (2, .int y2_38), (3, .int y3_38), (4, .int y4_38)] [] := by
  unfold w_Model_back_j38 at hw
  refine ux_pick [0, 1, 2, 3, 4] rfl ?_
  refine LW2.elim (P := fun (x3_9 : Int32) (x4_10 : Int32) => ud_X D G z N p l e (ud_rm 6 0 0) s m args below meth c 7 0 0 (ud_Q D G z N (po_i Qf) below args s) b_38 38 [(0, .ref (z + 71)), (1, .int y1_38), (2, .int y2_38), (3, .int x3_9), (4, .int x4_10)] []) hw ?_
  intro x3_9 x4_10 K_7 hw ih_8
  refine ux_iload C 4 rfl dX12_back_38 ?_
  refine ux_aload_n C 0 rfl rfl dX12_back_40 ?_
  refine gf_12_34 C dX12_back_41 ?_
  refine ux_iconst C (v := 2) (by decide) dX12_back_44 ?_
  obtain ⟨hi_21, hw⟩ := hw
  refine ux_iald C (uc_78 C.2.2.2.2.2) hi_21 dX12_back_45 ?_
  refine ux_icmp_ge C (tgt := 109) (by decide) dX12_back_46 (fun hc_20 => ?_) (fun hc_20 => ?_)
  · replace hw := hw.1 hc_20
    refine ux_iload_n C 3 rfl rfl dX12_back_109 ?_
    exact ux_iret C ⟨_, rfl, hw⟩ dX12_back_110
  · replace hw := hw.2 hc_20
    refine ux_iload C 4 rfl dX12_back_49 ?_
    refine ux_istore C (by decide) rfl dX12_back_51 ?_
    refine ux_iconst C (v := 0) (by decide) dX12_back_53 ?_
    refine ux_istore C (by decide) rfl dX12_back_54 ?_
    exact ux_pick [2, 3, 4, 5, 6, 1, 0] rfl (c_Model_back_j56 hN  C ih_8 hw)
set_option maxHeartbeats 2000000 in
set_option maxRecDepth 4000 in
theorem c_Model_back {l : Launch} {D : va_G} {G : Nat → Nat} {z N : Nat} (hN : 92 ≤ N) {a0 : ud_St} {x1 : Int32} {x2 : Int32}  {Qf : Int32 → ud_St → Prop} (hw : w_Model_back a0 x1 x2 Qf) : ud_M l D G z N yX12_back cX12_back 7 (some Jvm.ClassFile.FieldType.int) 6 [.ref (z + 71), .int x1, .int x2] a0 (po_i Qf) := by
  unfold w_Model_back at hw
  refine ud_M_of hN (by decide) (Nat.le_of_ble_eq_true rfl) ?_
  intro p e s m args below meth c C
  have C : ud_C D G z N p s m args meth c cX12_back 7 RX12 (some Jvm.ClassFile.FieldType.int) := C
  show ud_X D G z N p l e (ud_rm 6 0 0) s m args below meth c 7 0 0 (ud_Q D G z N (po_i Qf) below args s) a0 0 [(0, .ref (z + 71)), (1, .int x1), (2, .int x2)] []
  refine ux_aload_n C 0 rfl rfl dX12_back_0 ?_
  refine ux_iconst C (v := 0) (by decide) dX12_back_1 ?_
  refine pf_12_77 C dX12_back_2 ?_
  refine ux_aload_n C 0 rfl rfl dX12_back_5 ?_
  refine ux_iload_n C 1 rfl rfl dX12_back_6 ?_
  refine ux_i2l C dX12_back_7 ?_
  refine cs_12_302 C  (c_Model_isNumber hN  hw) (by decide) (by decide) (Nat.le_of_ble_eq_true rfl) dX12_back_8 (po_ip.k fun r_1 hw => ?_)
  refine ux_if_eq C (tgt := 26) (by decide) dX12_back_11 (fun hc_23 => ?_) (fun hc_23 => ?_)
  · replace hw := hw.1 hc_23
    refine ux_bipush C (v := -2) (by decide) dX12_back_26 ?_
    exact ux_iret C ⟨_, rfl, hw⟩ dX12_back_28
  · replace hw := hw.2 hc_23
    refine ux_iload_n C 2 rfl rfl dX12_back_14 ?_
    refine ux_i2l C dX12_back_15 ?_
    refine ux_lconst C (v := 0) (by decide) dX12_back_16 ?_
    refine ux_ldc2 C (v := 200) mw_1744 dX12_back_17 ?_
    refine cs_12_82 C  (c_Model_in hN  hw) (by decide) (by decide) (Nat.le_of_ble_eq_true rfl) dX12_back_20 (po_ip.k fun r_3 hw => ?_)
    refine ux_if_ne C (tgt := 29) (by decide) dX12_back_23 (fun hc_22 => ?_) (fun hc_22 => ?_)
    · replace hw := hw.2 hc_22
      refine ux_aload_n C 0 rfl rfl dX12_back_29 ?_
      refine cs_12_311 C  (c_Model_lays hN  hw) (by decide) (by decide) (Nat.le_of_ble_eq_true rfl) dX12_back_30 (po_v.k fun a_6 hw => ?_)
      refine ux_iconst C (v := 0) (by decide) dX12_back_33 ?_
      refine ux_istore_n C rfl (by decide) rfl dX12_back_34 ?_
      refine ux_iconst C (v := 0) (by decide) dX12_back_35 ?_
      refine ux_istore C (by decide) rfl dX12_back_36 ?_
      exact ux_pick [2, 3, 4, 1, 0] rfl (c_Model_back_j38 hN  C  hw)
    · replace hw := hw.1 hc_22
      refine ux_bipush C (v := -2) (by decide) dX12_back_26 ?_
      exact ux_iret C ⟨_, rfl, hw⟩ dX12_back_28
set_option maxHeartbeats 2000000 in
set_option maxRecDepth 4000 in
theorem c_Model_meet {l : Launch} {D : va_G} {G : Nat → Nat} {z N : Nat} (hN : 92 ≤ N) {a0 : ud_St} {x1 : Int32} {x2 : Int32}  {Qf : Int32 → ud_St → Prop} (hw : w_Model_meet a0 x1 x2 Qf) : ud_M l D G z N yX12_meet cX12_meet 6 (some Jvm.ClassFile.FieldType.int) 6 [.ref (z + 71), .int x1, .int x2] a0 (po_i Qf) := by
  unfold w_Model_meet at hw
  refine ud_M_of hN (by decide) (Nat.le_of_ble_eq_true rfl) ?_
  intro p e s m args below meth c C
  have C : ud_C D G z N p s m args meth c cX12_meet 6 RX12 (some Jvm.ClassFile.FieldType.int) := C
  show ud_X D G z N p l e (ud_rm 6 0 0) s m args below meth c 6 0 0 (ud_Q D G z N (po_i Qf) below args s) a0 0 [(0, .ref (z + 71)), (1, .int x1), (2, .int x2)] []
  refine ux_aload_n C 0 rfl rfl dX12_meet_0 ?_
  refine ux_iconst C (v := 0) (by decide) dX12_meet_1 ?_
  refine pf_12_77 C dX12_meet_2 ?_
  refine ux_aload_n C 0 rfl rfl dX12_meet_5 ?_
  refine ux_iload_n C 1 rfl rfl dX12_meet_6 ?_
  refine ux_i2l C dX12_meet_7 ?_
  refine cs_12_302 C  (c_Model_isNumber hN  hw) (by decide) (by decide) (Nat.le_of_ble_eq_true rfl) dX12_meet_8 (po_ip.k fun r_1 hw => ?_)
  refine ux_if_eq C (tgt := 23) (by decide) dX12_meet_11 (fun hc_18 => ?_) (fun hc_18 => ?_)
  · replace hw := hw.1 hc_18
    refine ux_bipush C (v := -2) (by decide) dX12_meet_23 ?_
    exact ux_iret C ⟨_, rfl, hw⟩ dX12_meet_25
  · replace hw := hw.2 hc_18
    refine ux_aload_n C 0 rfl rfl dX12_meet_14 ?_
    refine ux_iload_n C 2 rfl rfl dX12_meet_15 ?_
    refine ux_i2l C dX12_meet_16 ?_
    refine cs_12_302 C  (c_Model_isNumber hN  hw) (by decide) (by decide) (Nat.le_of_ble_eq_true rfl) dX12_meet_17 (po_ip.k fun r_3 hw => ?_)
    refine ux_if_ne C (tgt := 26) (by decide) dX12_meet_20 (fun hc_17 => ?_) (fun hc_17 => ?_)
    · replace hw := hw.2 hc_17
      refine ux_aload_n C 0 rfl rfl dX12_meet_26 ?_
      refine cs_12_311 C  (c_Model_lays hN  hw) (by decide) (by decide) (Nat.le_of_ble_eq_true rfl) dX12_meet_27 (po_v.k fun a_6 hw => ?_)
      refine ux_iload_n C 1 rfl rfl dX12_meet_30 ?_
      refine ux_istore_n C rfl (by decide) rfl dX12_meet_31 ?_
      refine ux_iload_n C 3 rfl rfl dX12_meet_32 ?_
      refine ux_istore C (by decide) rfl dX12_meet_33 ?_
      refine ux_iconst C (v := 0) (by decide) dX12_meet_35 ?_
      refine ux_istore C (by decide) rfl dX12_meet_36 ?_
      refine ux_pick [3, 2, 1, 0] rfl ?_
      refine LW3.elim (P := fun (x3_9 : Int32) (x4_10 : Int32) (x5_11 : Int32) => ud_X D G z N p l e (ud_rm 6 0 0) s m args below meth c 6 0 0 (ud_Q D G z N (po_i Qf) below args s) a_6 38 [(0, .ref (z + 71)), (3, .int x3_9), (4, .int x4_10), (5, .int x5_11)] []) hw ?_
      intro x3_9 x4_10 x5_11 K_7 hw ih_8
      refine ux_iload C 3 rfl dX12_meet_38 ?_
      refine ux_aload_n C 0 rfl rfl dX12_meet_40 ?_
      refine gf_12_34 C dX12_meet_41 ?_
      refine ux_iconst C (v := 2) (by decide) dX12_meet_44 ?_
      obtain ⟨hi_16, hw⟩ := hw
      refine ux_iald C (uc_78 C.2.2.2.2.2) hi_16 dX12_meet_45 ?_
      refine ux_icmp_gt C (tgt := 80) (by decide) dX12_meet_46 (fun hc_15 => ?_) (fun hc_15 => ?_)
      · replace hw := hw.1 hc_15
        refine ux_iconst C (v := -1) (by decide) dX12_meet_80 ?_
        exact ux_iret C ⟨_, rfl, hw⟩ dX12_meet_81
      · replace hw := hw.2 hc_15
        refine ux_iload_n C 1 rfl rfl dX12_meet_49 ?_
        refine ux_iload C 2 rfl dX12_meet_50 ?_
        refine ux_icmp_ne C (tgt := 58) (by decide) dX12_meet_52 (fun hc_14 => ?_) (fun hc_14 => ?_)
        · replace hw := hw.2 hc_14
          refine ux_aload_n C 0 rfl rfl dX12_meet_58 ?_
          refine gf_12_56 C dX12_meet_59 ?_
          refine ux_iload_n C 1 rfl rfl dX12_meet_62 ?_
          obtain ⟨hi_13, hw⟩ := hw
          refine ux_iald C (uc_85 C.2.2.2.2.2) hi_13 dX12_meet_63 ?_
          refine ux_istore_n C rfl (by decide) rfl dX12_meet_64 ?_
          refine ux_aload_n C 1 rfl rfl dX12_meet_65 ?_
          refine gf_12_56 C dX12_meet_66 ?_
          refine ux_iload C 2 rfl dX12_meet_69 ?_
          obtain ⟨hi_12, hw⟩ := hw
          refine ux_iald C (uc_85 C.2.2.2.2.2) hi_12 dX12_meet_71 ?_
          refine ux_istore C (by decide) rfl dX12_meet_72 ?_
          refine ux_iinc C 3 rfl rfl (by decide) rfl dX12_meet_74 ?_
          refine ux_goto C (tgt := 38) (by decide) dX12_meet_77 ?_
          exact ux_pick [3, 2, 1, 0] rfl (ih_8 _ _ _ hw)
        · replace hw := hw.1 hc_14
          refine ux_iload C 3 rfl dX12_meet_55 ?_
          exact ux_iret C ⟨_, rfl, hw⟩ dX12_meet_57
    · replace hw := hw.1 hc_17
      refine ux_bipush C (v := -2) (by decide) dX12_meet_23 ?_
      exact ux_iret C ⟨_, rfl, hw⟩ dX12_meet_25
set_option maxHeartbeats 2000000 in
set_option maxRecDepth 4000 in
theorem c_Model_join_j117 {D : va_G} {G : Nat → Nat} {z N : Nat} {p : Program} {l : Launch} {e : Env} {s : State} {m : MethodId} {args : Array Value} {below : List Frame} {meth : Method} {c : Code} (hN : 92 ≤ N) {a0 : ud_St} {x1 : Int32} {x2 : Int32} {x3 : Int32} {b_117 : ud_St} {y3_117 : Int32} {y5_117 : Int32} {y6_117 : Int32}  {Qf : Int32 → ud_St → Prop} (C : ud_C D G z N p s m args meth c cX12_join 7 RX12 (some Jvm.ClassFile.FieldType.int))  (hw : w_Model_join_j117 a0 x1 x2 x3 b_117 y3_117 y5_117 y6_117 Qf) : ud_X D G z N p l e (ud_rm 6 0 0) s m args below meth c 7 0 0 (ud_Q D G z N (po_i Qf) below args s) b_117 117 [(0, .ref (z + 71)), (3, .int y3_117), (5, .int y5_117), (6, .int y6_117)] [] := by
  unfold w_Model_join_j117 at hw
  refine ux_pick [0, 1, 2, 3] rfl ?_
  refine LW2.elim (P := fun (x5_20 : Int32) (x6_21 : Int32) => ud_X D G z N p l e (ud_rm 6 0 0) s m args below meth c 7 0 0 (ud_Q D G z N (po_i Qf) below args s) b_117 117 [(0, .ref (z + 71)), (3, .int y3_117), (5, .int x5_20), (6, .int x6_21)] []) hw ?_
  intro x5_20 x6_21 K_18 hw ih_19
  refine ux_iload C 3 rfl dX12_join_117 ?_
  refine ux_aload_n C 0 rfl rfl dX12_join_119 ?_
  refine gf_12_34 C dX12_join_120 ?_
  refine ux_iconst C (v := 2) (by decide) dX12_join_123 ?_
  obtain ⟨hi_29, hw⟩ := hw
  refine ux_iald C (uc_78 C.2.2.2.2.2) hi_29 dX12_join_124 ?_
  refine ux_icmp_gt C (tgt := 181) (by decide) dX12_join_125 (fun hc_28 => ?_) (fun hc_28 => ?_)
  · replace hw := hw.1 hc_28
    refine ux_iconst C (v := -1) (by decide) dX12_join_181 ?_
    exact ux_iret C ⟨_, rfl, hw⟩ dX12_join_182
  · replace hw := hw.2 hc_28
    refine ux_aload_n C 0 rfl rfl dX12_join_128 ?_
    refine gf_12_68 C dX12_join_129 ?_
    refine ux_iload C 2 rfl dX12_join_132 ?_
    obtain ⟨hi_27, hw⟩ := hw
    refine ux_iald C (uc_89 C.2.2.2.2.2) hi_27 dX12_join_134 ?_
    refine ux_iconst C (v := -1) (by decide) dX12_join_135 ?_
    refine ux_icmp_eq C (tgt := 166) (by decide) dX12_join_136 (fun hc_26 => ?_) (fun hc_26 => ?_)
    · replace hw := hw.1 hc_26
      refine ux_aload_n C 0 rfl rfl dX12_join_166 ?_
      refine gf_12_56 C dX12_join_167 ?_
      refine ux_iload C 2 rfl dX12_join_170 ?_
      obtain ⟨hi_22, hw⟩ := hw
      refine ux_iald C (uc_85 C.2.2.2.2.2) hi_22 dX12_join_172 ?_
      refine ux_istore C (by decide) rfl dX12_join_173 ?_
      refine ux_iinc C 3 rfl rfl (by decide) rfl dX12_join_175 ?_
      refine ux_goto C (tgt := 117) (by decide) dX12_join_178 ?_
      exact ux_pick [2, 3, 1, 0] rfl (ih_19 _ _ hw)
    · replace hw := hw.2 hc_26
      refine ux_iload_n C 1 rfl rfl dX12_join_139 ?_
      refine ux_if_ne C (tgt := 148) (by decide) dX12_join_140 (fun hc_25 => ?_) (fun hc_25 => ?_)
      · replace hw := hw.2 hc_25
        refine ux_iload_n C 1 rfl rfl dX12_join_148 ?_
        refine ux_iconst C (v := 1) (by decide) dX12_join_149 ?_
        refine ux_icmp_ne C (tgt := 158) (by decide) dX12_join_150 (fun hc_24 => ?_) (fun hc_24 => ?_)
        · replace hw := hw.2 hc_24
          refine ux_aload_n C 0 rfl rfl dX12_join_158 ?_
          refine gf_12_68 C dX12_join_159 ?_
          refine ux_iload C 2 rfl dX12_join_162 ?_
          obtain ⟨hi_23, hw⟩ := hw
          refine ux_iald C (uc_89 C.2.2.2.2.2) hi_23 dX12_join_164 ?_
          exact ux_iret C ⟨_, rfl, hw⟩ dX12_join_165
        · replace hw := hw.1 hc_24
          refine ux_iload C 3 rfl dX12_join_153 ?_
          refine ux_goto C (tgt := 165) (by decide) dX12_join_155 ?_
          exact ux_iret C ⟨_, rfl, hw⟩ dX12_join_165
      · replace hw := hw.1 hc_25
        refine ux_iload C 2 rfl dX12_join_143 ?_
        refine ux_goto C (tgt := 165) (by decide) dX12_join_145 ?_
        exact ux_iret C ⟨_, rfl, hw⟩ dX12_join_165
set_option maxHeartbeats 2000000 in
set_option maxRecDepth 4000 in
theorem c_Model_join_j76 {D : va_G} {G : Nat → Nat} {z N : Nat} {p : Program} {l : Launch} {e : Env} {s : State} {m : MethodId} {args : Array Value} {below : List Frame} {meth : Method} {c : Code} (hN : 92 ≤ N) {a0 : ud_St} {x1 : Int32} {x2 : Int32} {x3 : Int32} {b_76 : ud_St} {y1_76 : Int32} {y3_76 : Int32} {y4_76 : Int32} {y5_76 : Int32}  {Qf : Int32 → ud_St → Prop} (C : ud_C D G z N p s m args meth c cX12_join 7 RX12 (some Jvm.ClassFile.FieldType.int))  (hw : w_Model_join_j76 a0 x1 x2 x3 b_76 y1_76 y3_76 y4_76 y5_76 Qf) : ud_X D G z N p l e (ud_rm 6 0 0) s m args below meth c 7 0 0 (ud_Q D G z N (po_i Qf) below args s) b_76 76 [(0, .ref (z + 71)), (1, .int y1_76), (3, .int y3_76), (4, .int y4_76), (5, .int y5_76)] [] := by
  unfold w_Model_join_j76 at hw
  refine ux_pick [0, 1, 2, 3, 4] rfl ?_
  refine LW3.elim (P := fun (x4_15 : Int32) (x5_16 : Int32) (a_17 : ud_St) => ud_X D G z N p l e (ud_rm 6 0 0) s m args below meth c 7 0 0 (ud_Q D G z N (po_i Qf) below args s) a_17 76 [(0, .ref (z + 71)), (1, .int y1_76), (3, .int y3_76), (4, .int x4_15), (5, .int x5_16)] []) hw ?_
  intro x4_15 x5_16 a_17 K_13 hw ih_14
  refine ux_aload_n C 0 rfl rfl dX12_join_76 ?_
  refine gf_12_68 C dX12_join_77 ?_
  refine ux_iload C 3 rfl dX12_join_80 ?_
  obtain ⟨hi_33, hw⟩ := hw
  refine ux_iald C (uc_89 C.2.2.2.2.2) hi_33 dX12_join_82 ?_
  refine ux_iconst C (v := -1) (by decide) dX12_join_83 ?_
  refine ux_icmp_ne C (tgt := 111) (by decide) dX12_join_84 (fun hc_32 => ?_) (fun hc_32 => ?_)
  · replace hw := hw.2 hc_32
    refine ux_iload_n C 1 rfl rfl dX12_join_111 ?_
    refine ux_istore C (by decide) rfl dX12_join_112 ?_
    refine ux_iconst C (v := 0) (by decide) dX12_join_114 ?_
    refine ux_istore C (by decide) rfl dX12_join_115 ?_
    exact ux_pick [2, 4, 1, 0] rfl (c_Model_join_j117 hN  C  hw)
  · replace hw := hw.1 hc_32
    refine ux_aload_n C 0 rfl rfl dX12_join_87 ?_
    refine gf_12_68 C dX12_join_88 ?_
    refine ux_iload C 3 rfl dX12_join_91 ?_
    refine ux_iload C 4 rfl dX12_join_93 ?_
    obtain ⟨hi_30, hw⟩ := hw
    refine ux_iast C (uc_89 C.2.2.2.2.2) hi_30 dX12_join_95 ?_
    refine ux_aload_n C 0 rfl rfl dX12_join_96 ?_
    refine gf_12_56 C dX12_join_97 ?_
    refine ux_iload C 3 rfl dX12_join_100 ?_
    obtain ⟨hi_31, hw⟩ := hw
    refine ux_iald C (uc_85 C.2.2.2.2.2) hi_31 dX12_join_102 ?_
    refine ux_istore C (by decide) rfl dX12_join_103 ?_
    refine ux_iinc C 4 rfl rfl (by decide) rfl dX12_join_105 ?_
    refine ux_goto C (tgt := 76) (by decide) dX12_join_108 ?_
    exact ux_pick [2, 3, 4, 1, 0] rfl (ih_14 _ _ _ hw)
set_option maxHeartbeats 2000000 in
set_option maxRecDepth 4000 in
theorem c_Model_join_j45 {D : va_G} {G : Nat → Nat} {z N : Nat} {p : Program} {l : Launch} {e : Env} {s : State} {m : MethodId} {args : Array Value} {below : List Frame} {meth : Method} {c : Code} (hN : 92 ≤ N) {a0 : ud_St} {x1 : Int32} {x2 : Int32} {x3 : Int32} {b_45 : ud_St} {y1_45 : Int32} {y2_45 : Int32} {y3_45 : Int32} {y4_45 : Int32}  {Qf : Int32 → ud_St → Prop} (C : ud_C D G z N p s m args meth c cX12_join 7 RX12 (some Jvm.ClassFile.FieldType.int))  (hw : w_Model_join_j45 a0 x1 x2 x3 b_45 y1_45 y2_45 y3_45 y4_45 Qf) : ud_X D G z N p l e (ud_rm 6 0 0) s m args below meth c 7 0 0 (ud_Q D G z N (po_i Qf) below args s) b_45 45 [(0, .ref (z + 71)), (1, .int y1_45), (2, .int y2_45), (3, .int y3_45), (4, .int y4_45)] [] := by
  unfold w_Model_join_j45 at hw
  refine ux_pick [0, 1, 2, 3, 4] rfl ?_
  refine LW2.elim (P := fun (x4_11 : Int32) (a_12 : ud_St) => ud_X D G z N p l e (ud_rm 6 0 0) s m args below meth c 7 0 0 (ud_Q D G z N (po_i Qf) below args s) a_12 45 [(0, .ref (z + 71)), (1, .int y1_45), (2, .int y2_45), (3, .int y3_45), (4, .int x4_11)] []) hw ?_
  intro x4_11 a_12 K_9 hw ih_10
  refine ux_iload C 4 rfl dX12_join_45 ?_
  refine ux_aload_n C 0 rfl rfl dX12_join_47 ?_
  refine gf_12_34 C dX12_join_48 ?_
  refine ux_iconst C (v := 2) (by decide) dX12_join_51 ?_
  obtain ⟨hi_36, hw⟩ := hw
  refine ux_iald C (uc_78 C.2.2.2.2.2) hi_36 dX12_join_52 ?_
  refine ux_icmp_ge C (tgt := 70) (by decide) dX12_join_53 (fun hc_35 => ?_) (fun hc_35 => ?_)
  · replace hw := hw.1 hc_35
    refine ux_iload_n C 2 rfl rfl dX12_join_70 ?_
    refine ux_istore C (by decide) rfl dX12_join_71 ?_
    refine ux_iconst C (v := 0) (by decide) dX12_join_73 ?_
    refine ux_istore C (by decide) rfl dX12_join_74 ?_
    exact ux_pick [2, 3, 5, 1, 0] rfl (c_Model_join_j76 hN  C  hw)
  · replace hw := hw.2 hc_35
    refine ux_aload_n C 0 rfl rfl dX12_join_56 ?_
    refine gf_12_68 C dX12_join_57 ?_
    refine ux_iload C 4 rfl dX12_join_60 ?_
    refine ux_iconst C (v := -1) (by decide) dX12_join_62 ?_
    obtain ⟨hi_34, hw⟩ := hw
    refine ux_iast C (uc_89 C.2.2.2.2.2) hi_34 dX12_join_63 ?_
    refine ux_iinc C 4 rfl rfl (by decide) rfl dX12_join_64 ?_
    refine ux_goto C (tgt := 45) (by decide) dX12_join_67 ?_
    exact ux_pick [1, 2, 3, 4, 0] rfl (ih_10 _ _ hw)
set_option maxHeartbeats 2000000 in
set_option maxRecDepth 4000 in
theorem c_Model_join {l : Launch} {D : va_G} {G : Nat → Nat} {z N : Nat} (hN : 92 ≤ N) {a0 : ud_St} {x1 : Int32} {x2 : Int32} {x3 : Int32}  {Qf : Int32 → ud_St → Prop} (hw : w_Model_join a0 x1 x2 x3 Qf) : ud_M l D G z N yX12_join cX12_join 7 (some Jvm.ClassFile.FieldType.int) 6 [.ref (z + 71), .int x1, .int x2, .int x3] a0 (po_i Qf) := by
  unfold w_Model_join at hw
  refine ud_M_of hN (by decide) (Nat.le_of_ble_eq_true rfl) ?_
  intro p e s m args below meth c C
  have C : ud_C D G z N p s m args meth c cX12_join 7 RX12 (some Jvm.ClassFile.FieldType.int) := C
  show ud_X D G z N p l e (ud_rm 6 0 0) s m args below meth c 7 0 0 (ud_Q D G z N (po_i Qf) below args s) a0 0 [(0, .ref (z + 71)), (1, .int x1), (2, .int x2), (3, .int x3)] []
  refine ux_aload_n C 0 rfl rfl dX12_join_0 ?_
  refine ux_iconst C (v := 0) (by decide) dX12_join_1 ?_
  refine pf_12_77 C dX12_join_2 ?_
  refine ux_aload_n C 0 rfl rfl dX12_join_5 ?_
  refine ux_iload_n C 1 rfl rfl dX12_join_6 ?_
  refine ux_i2l C dX12_join_7 ?_
  refine cs_12_302 C  (c_Model_isNumber hN  hw) (by decide) (by decide) (Nat.le_of_ble_eq_true rfl) dX12_join_8 (po_ip.k fun r_1 hw => ?_)
  refine ux_if_eq C (tgt := 35) (by decide) dX12_join_11 (fun hc_39 => ?_) (fun hc_39 => ?_)
  · replace hw := hw.1 hc_39
    refine ux_bipush C (v := -2) (by decide) dX12_join_35 ?_
    exact ux_iret C ⟨_, rfl, hw⟩ dX12_join_37
  · replace hw := hw.2 hc_39
    refine ux_aload_n C 0 rfl rfl dX12_join_14 ?_
    refine ux_iload_n C 2 rfl rfl dX12_join_15 ?_
    refine ux_i2l C dX12_join_16 ?_
    refine cs_12_302 C  (c_Model_isNumber hN  hw) (by decide) (by decide) (Nat.le_of_ble_eq_true rfl) dX12_join_17 (po_ip.k fun r_3 hw => ?_)
    refine ux_if_eq C (tgt := 35) (by decide) dX12_join_20 (fun hc_38 => ?_) (fun hc_38 => ?_)
    · replace hw := hw.1 hc_38
      refine ux_bipush C (v := -2) (by decide) dX12_join_35 ?_
      exact ux_iret C ⟨_, rfl, hw⟩ dX12_join_37
    · replace hw := hw.2 hc_38
      refine ux_iload_n C 3 rfl rfl dX12_join_23 ?_
      refine ux_i2l C dX12_join_24 ?_
      refine ux_lconst C (v := 0) (by decide) dX12_join_25 ?_
      refine ux_ldc2 C (v := 2) mw_1707 dX12_join_26 ?_
      refine cs_12_82 C  (c_Model_in hN  hw) (by decide) (by decide) (Nat.le_of_ble_eq_true rfl) dX12_join_29 (po_ip.k fun r_5 hw => ?_)
      refine ux_if_ne C (tgt := 38) (by decide) dX12_join_32 (fun hc_37 => ?_) (fun hc_37 => ?_)
      · replace hw := hw.2 hc_37
        refine ux_aload_n C 0 rfl rfl dX12_join_38 ?_
        refine cs_12_311 C  (c_Model_lays hN  hw) (by decide) (by decide) (Nat.le_of_ble_eq_true rfl) dX12_join_39 (po_v.k fun a_8 hw => ?_)
        refine ux_iconst C (v := 0) (by decide) dX12_join_42 ?_
        refine ux_istore C (by decide) rfl dX12_join_43 ?_
        exact ux_pick [1, 2, 3, 4, 0] rfl (c_Model_join_j45 hN  C  hw)
      · replace hw := hw.1 hc_37
        refine ux_bipush C (v := -2) (by decide) dX12_join_35 ?_
        exact ux_iret C ⟨_, rfl, hw⟩ dX12_join_37
set_option maxHeartbeats 2000000 in
set_option maxRecDepth 4000 in
theorem c_Model_odd {l : Launch} {D : va_G} {G : Nat → Nat} {z N : Nat} (hN : 92 ≤ N) {a0 : ud_St}   {Qf : Int32 → ud_St → Prop} (hw : w_Model_odd a0  Qf) : ud_M l D G z N yX12_odd cX12_odd 2 (some Jvm.ClassFile.FieldType.int) 6 [.ref (z + 71)] a0 (po_i Qf) := by
  unfold w_Model_odd at hw
  refine ud_M_of hN (by decide) (Nat.le_of_ble_eq_true rfl) ?_
  intro p e s m args below meth c C
  have C : ud_C D G z N p s m args meth c cX12_odd 2 RX12 (some Jvm.ClassFile.FieldType.int) := C
  show ud_X D G z N p l e (ud_rm 6 0 0) s m args below meth c 2 0 0 (ud_Q D G z N (po_i Qf) below args s) a0 0 [(0, .ref (z + 71))] []
  refine ux_aload_n C 0 rfl rfl dX12_odd_0 ?_
  refine ux_iconst C (v := 0) (by decide) dX12_odd_1 ?_
  refine pf_12_77 C dX12_odd_2 ?_
  refine ux_aload_n C 0 rfl rfl dX12_odd_5 ?_
  refine cs_12_299 C  (c_Model_isTable hN  hw) (by decide) (by decide) (Nat.le_of_ble_eq_true rfl) dX12_odd_6 (po_ip.k fun r_1 hw => ?_)
  refine ux_if_ne C (tgt := 15) (by decide) dX12_odd_9 (fun hc_16 => ?_) (fun hc_16 => ?_)
  · replace hw := hw.2 hc_16
    refine ux_aload_n C 0 rfl rfl dX12_odd_15 ?_
    refine cs_12_311 C  (c_Model_lays hN  hw) (by decide) (by decide) (Nat.le_of_ble_eq_true rfl) dX12_odd_16 (po_v.k fun a_4 hw => ?_)
    refine ux_iconst C (v := 0) (by decide) dX12_odd_19 ?_
    refine ux_istore_n C rfl (by decide) rfl dX12_odd_20 ?_
    refine ux_pick [1, 0] rfl ?_
    refine LW2.elim (P := fun (x1_7 : Int32) (a_8 : ud_St) => ud_X D G z N p l e (ud_rm 6 0 0) s m args below meth c 2 0 0 (ud_Q D G z N (po_i Qf) below args s) a_8 21 [(0, .ref (z + 71)), (1, .int x1_7)] []) hw ?_
    intro x1_7 a_8 K_5 hw ih_6
    refine ux_iload_n C 1 rfl rfl dX12_odd_21 ?_
    refine ux_aload_n C 0 rfl rfl dX12_odd_22 ?_
    refine gf_12_34 C dX12_odd_23 ?_
    refine ux_iconst C (v := 2) (by decide) dX12_odd_26 ?_
    obtain ⟨hi_15, hw⟩ := hw
    refine ux_iald C (uc_78 C.2.2.2.2.2) hi_15 dX12_odd_27 ?_
    refine ux_icmp_ge C (tgt := 58) (by decide) dX12_odd_28 (fun hc_14 => ?_) (fun hc_14 => ?_)
    · replace hw := hw.1 hc_14
      refine ux_iconst C (v := -1) (by decide) dX12_odd_58 ?_
      exact ux_iret C ⟨_, rfl, hw⟩ dX12_odd_59
    · replace hw := hw.2 hc_14
      refine ux_aload_n C 0 rfl rfl dX12_odd_31 ?_
      refine gf_12_56 C dX12_odd_32 ?_
      refine ux_iload_n C 1 rfl rfl dX12_odd_35 ?_
      obtain ⟨hi_13, hw⟩ := hw
      refine ux_iald C (uc_85 C.2.2.2.2.2) hi_13 dX12_odd_36 ?_
      refine ux_aload_n C 0 rfl rfl dX12_odd_37 ?_
      refine gf_12_56 C dX12_odd_38 ?_
      refine ux_aload_n C 0 rfl rfl dX12_odd_41 ?_
      refine ux_iload_n C 1 rfl rfl dX12_odd_42 ?_
      refine cs_12_268 C  (c_Model_up hN  hw) (by decide) (by decide) (Nat.le_of_ble_eq_true rfl) dX12_odd_43 (po_i.k fun r_9 a_10 hw => ?_)
      obtain ⟨hi_12, hw⟩ := hw
      refine ux_iald C (uc_85 C.2.2.2.2.2) hi_12 dX12_odd_46 ?_
      refine ux_icmp_eq C (tgt := 52) (by decide) dX12_odd_47 (fun hc_11 => ?_) (fun hc_11 => ?_)
      · replace hw := hw.1 hc_11
        refine ux_iinc C 1 rfl rfl (by decide) rfl dX12_odd_52 ?_
        refine ux_goto C (tgt := 21) (by decide) dX12_odd_55 ?_
        exact ux_pick [1, 0] rfl (ih_6 _ _ hw)
      · replace hw := hw.2 hc_11
        refine ux_iload_n C 1 rfl rfl dX12_odd_50 ?_
        exact ux_iret C ⟨_, rfl, hw⟩ dX12_odd_51
  · replace hw := hw.1 hc_16
    refine ux_bipush C (v := -2) (by decide) dX12_odd_12 ?_
    exact ux_iret C ⟨_, rfl, hw⟩ dX12_odd_14
set_option maxHeartbeats 2000000 in
set_option maxRecDepth 4000 in
theorem c_Model_crowdsBehind {l : Launch} {D : va_G} {G : Nat → Nat} {z N : Nat} (hN : 92 ≤ N) {a0 : ud_St} {x1 : Int32} {x2 : Int32}  {Qf : ud_St → Prop} (hw : w_Model_crowdsBehind a0 x1 x2 Qf) : ud_M l D G z N yX12_crowdsBehind cX12_crowdsBehind 4 (none : Option Jvm.ClassFile.FieldType) 6 [.ref (z + 71), .int x1, .int x2] a0 (po_v Qf) := by
  unfold w_Model_crowdsBehind at hw
  refine ud_M_of hN (by decide) (Nat.le_of_ble_eq_true rfl) ?_
  intro p e s m args below meth c C
  have C : ud_C D G z N p s m args meth c cX12_crowdsBehind 4 RX12 (none : Option Jvm.ClassFile.FieldType) := C
  show ud_X D G z N p l e (ud_rm 6 0 0) s m args below meth c 4 0 0 (ud_Q D G z N (po_v Qf) below args s) a0 0 [(0, .ref (z + 71)), (1, .int x1), (2, .int x2)] []
  refine ux_aload_n C 0 rfl rfl dX12_crowdsBehind_0 ?_
  refine cs_12_311 C  (c_Model_lays hN  hw) (by decide) (by decide) (Nat.le_of_ble_eq_true rfl) dX12_crowdsBehind_1 (po_v.k fun a_2 hw => ?_)
  refine ux_aload_n C 0 rfl rfl dX12_crowdsBehind_4 ?_
  refine ux_iload_n C 1 rfl rfl dX12_crowdsBehind_5 ?_
  refine cs_12_360 C  (c_Model_crowds hN  hw) (by decide) (by decide) (Nat.le_of_ble_eq_true rfl) dX12_crowdsBehind_6 (po_v.k fun a_4 hw => ?_)
  refine ux_iconst C (v := 0) (by decide) dX12_crowdsBehind_9 ?_
  refine ux_istore_n C rfl (by decide) rfl dX12_crowdsBehind_10 ?_
  refine ux_pick [1, 3, 0] rfl ?_
  refine LW2.elim (P := fun (x3_7 : Int32) (a_8 : ud_St) => ud_X D G z N p l e (ud_rm 6 0 0) s m args below meth c 4 0 0 (ud_Q D G z N (po_v Qf) below args s) a_8 11 [(0, .ref (z + 71)), (2, .int x2), (3, .int x3_7)] []) hw ?_
  intro x3_7 a_8 K_5 hw ih_6
  refine ux_iload_n C 2 rfl rfl dX12_crowdsBehind_11 ?_
  refine ux_iload_n C 1 rfl rfl dX12_crowdsBehind_12 ?_
  refine ux_icmp_ge C (tgt := 26) (by decide) dX12_crowdsBehind_13 (fun hc_11 => ?_) (fun hc_11 => ?_)
  · replace hw := hw.1 hc_11
    exact ux_vret C ⟨rfl, hw⟩ dX12_crowdsBehind_26
  · replace hw := hw.2 hc_11
    refine ux_aload_n C 0 rfl rfl dX12_crowdsBehind_16 ?_
    refine cs_12_363 C  (c_Model_goes hN  hw) (by decide) (by decide) (Nat.le_of_ble_eq_true rfl) dX12_crowdsBehind_17 (po_v.k fun a_10 hw => ?_)
    refine ux_iinc C 2 rfl rfl (by decide) rfl dX12_crowdsBehind_20 ?_
    refine ux_goto C (tgt := 11) (by decide) dX12_crowdsBehind_23 ?_
    exact ux_pick [1, 2, 0] rfl (ih_6 _ _ hw)
set_option maxHeartbeats 2000000 in
set_option maxRecDepth 4000 in
theorem c_Model_find {l : Launch} {D : va_G} {G : Nat → Nat} {z N : Nat} (hN : 92 ≤ N) {a0 : ud_St} {x1 : Int32} {x2 : Int32}  {Qf : Int32 → ud_St → Prop} (hw : w_Model_find a0 x1 x2 Qf) : ud_M l D G z N yX12_find cX12_find 3 (some Jvm.ClassFile.FieldType.int) 6 [.ref (z + 71), .int x1, .int x2] a0 (po_i Qf) := by
  unfold w_Model_find at hw
  refine ud_M_of hN (by decide) (Nat.le_of_ble_eq_true rfl) ?_
  intro p e s m args below meth c C
  have C : ud_C D G z N p s m args meth c cX12_find 3 RX12 (some Jvm.ClassFile.FieldType.int) := C
  show ud_X D G z N p l e (ud_rm 6 0 0) s m args below meth c 3 0 0 (ud_Q D G z N (po_i Qf) below args s) a0 0 [(0, .ref (z + 71)), (1, .int x1), (2, .int x2)] []
  refine ux_aload_n C 0 rfl rfl dX12_find_0 ?_
  refine ux_iconst C (v := 0) (by decide) dX12_find_1 ?_
  refine pf_12_77 C dX12_find_2 ?_
  refine ux_aload_n C 0 rfl rfl dX12_find_5 ?_
  refine ux_iload_n C 1 rfl rfl dX12_find_6 ?_
  refine ux_i2l C dX12_find_7 ?_
  refine cs_12_302 C  (c_Model_isNumber hN  hw) (by decide) (by decide) (Nat.le_of_ble_eq_true rfl) dX12_find_8 (po_ip.k fun r_1 hw => ?_)
  refine ux_if_eq C (tgt := 23) (by decide) dX12_find_11 (fun hc_8 => ?_) (fun hc_8 => ?_)
  · replace hw := hw.1 hc_8
    refine ux_bipush C (v := -2) (by decide) dX12_find_23 ?_
    exact ux_iret C ⟨_, rfl, hw⟩ dX12_find_25
  · replace hw := hw.2 hc_8
    refine ux_aload_n C 0 rfl rfl dX12_find_14 ?_
    refine ux_iload_n C 2 rfl rfl dX12_find_15 ?_
    refine ux_i2l C dX12_find_16 ?_
    refine cs_12_302 C  (c_Model_isNumber hN  hw) (by decide) (by decide) (Nat.le_of_ble_eq_true rfl) dX12_find_17 (po_ip.k fun r_3 hw => ?_)
    refine ux_if_ne C (tgt := 26) (by decide) dX12_find_20 (fun hc_7 => ?_) (fun hc_7 => ?_)
    · replace hw := hw.2 hc_7
      refine ux_aload_n C 0 rfl rfl dX12_find_26 ?_
      refine ux_iload_n C 1 rfl rfl dX12_find_27 ?_
      refine ux_iload_n C 2 rfl rfl dX12_find_28 ?_
      refine cs_12_393 C  (c_Model_finds hN  hw) (by decide) (by decide) (Nat.le_of_ble_eq_true rfl) dX12_find_29 (po_v.k fun a_6 hw => ?_)
      refine ux_aload_n C 0 rfl rfl dX12_find_32 ?_
      refine gf_12_384 C dX12_find_33 ?_
      exact ux_iret C ⟨_, rfl, hw⟩ dX12_find_36
    · replace hw := hw.1 hc_7
      refine ux_bipush C (v := -2) (by decide) dX12_find_23 ?_
      exact ux_iret C ⟨_, rfl, hw⟩ dX12_find_25
set_option maxHeartbeats 2000000 in
set_option maxRecDepth 4000 in
theorem c_Model_found {l : Launch} {D : va_G} {G : Nat → Nat} {z N : Nat} (hN : 92 ≤ N) {a0 : ud_St} {x1 : Int32} {x2 : Int32} {x3 : Int32}  {Qf : Int32 → ud_St → Prop} (hw : w_Model_found a0 x1 x2 x3 Qf) : ud_M l D G z N yX12_found cX12_found 6 (some Jvm.ClassFile.FieldType.int) 6 [.ref (z + 71), .int x1, .int x2, .int x3] a0 (po_i Qf) := by
  unfold w_Model_found at hw
  refine ud_M_of hN (by decide) (Nat.le_of_ble_eq_true rfl) ?_
  intro p e s m args below meth c C
  have C : ud_C D G z N p s m args meth c cX12_found 6 RX12 (some Jvm.ClassFile.FieldType.int) := C
  show ud_X D G z N p l e (ud_rm 6 0 0) s m args below meth c 6 0 0 (ud_Q D G z N (po_i Qf) below args s) a0 0 [(0, .ref (z + 71)), (1, .int x1), (2, .int x2), (3, .int x3)] []
  refine ux_aload_n C 0 rfl rfl dX12_found_0 ?_
  refine ux_iconst C (v := 0) (by decide) dX12_found_1 ?_
  refine pf_12_77 C dX12_found_2 ?_
  refine ux_aload_n C 0 rfl rfl dX12_found_5 ?_
  refine ux_iload_n C 1 rfl rfl dX12_found_6 ?_
  refine ux_i2l C dX12_found_7 ?_
  refine cs_12_302 C  (c_Model_isNumber hN  hw) (by decide) (by decide) (Nat.le_of_ble_eq_true rfl) dX12_found_8 (po_ip.k fun r_1 hw => ?_)
  refine ux_if_eq C (tgt := 23) (by decide) dX12_found_11 (fun hc_16 => ?_) (fun hc_16 => ?_)
  · replace hw := hw.1 hc_16
    refine ux_bipush C (v := -2) (by decide) dX12_found_23 ?_
    exact ux_iret C ⟨_, rfl, hw⟩ dX12_found_25
  · replace hw := hw.2 hc_16
    refine ux_aload_n C 0 rfl rfl dX12_found_14 ?_
    refine ux_iload_n C 2 rfl rfl dX12_found_15 ?_
    refine ux_i2l C dX12_found_16 ?_
    refine cs_12_302 C  (c_Model_isNumber hN  hw) (by decide) (by decide) (Nat.le_of_ble_eq_true rfl) dX12_found_17 (po_ip.k fun r_3 hw => ?_)
    refine ux_if_ne C (tgt := 26) (by decide) dX12_found_20 (fun hc_15 => ?_) (fun hc_15 => ?_)
    · replace hw := hw.2 hc_15
      refine ux_aload_n C 0 rfl rfl dX12_found_26 ?_
      refine ux_iload_n C 1 rfl rfl dX12_found_27 ?_
      refine ux_iload_n C 2 rfl rfl dX12_found_28 ?_
      refine cs_12_393 C  (c_Model_finds hN  hw) (by decide) (by decide) (Nat.le_of_ble_eq_true rfl) dX12_found_29 (po_v.k fun a_6 hw => ?_)
      refine ux_iload_n C 3 rfl rfl dX12_found_32 ?_
      refine ux_i2l C dX12_found_33 ?_
      refine ux_lconst C (v := 0) (by decide) dX12_found_34 ?_
      refine ux_aload_n C 0 rfl rfl dX12_found_35 ?_
      refine gf_12_384 C dX12_found_36 ?_
      refine ux_iconst C (v := 1) (by decide) dX12_found_39 ?_
      refine ux_isub C dX12_found_40 ?_
      refine ux_i2l C dX12_found_41 ?_
      refine cs_12_82 C  (c_Model_in hN  hw) (by decide) (by decide) (Nat.le_of_ble_eq_true rfl) dX12_found_42 (po_ip.k fun r_7 hw => ?_)
      refine ux_if_ne C (tgt := 50) (by decide) dX12_found_45 (fun hc_14 => ?_) (fun hc_14 => ?_)
      · replace hw := hw.2 hc_14
        refine ux_aload_n C 0 rfl rfl dX12_found_50 ?_
        refine gf_12_387 C dX12_found_51 ?_
        refine ux_istore C (by decide) rfl dX12_found_54 ?_
        refine ux_aload_n C 1 rfl rfl dX12_found_56 ?_
        refine gf_12_384 C dX12_found_57 ?_
        refine ux_iconst C (v := 1) (by decide) dX12_found_60 ?_
        refine ux_isub C dX12_found_61 ?_
        refine ux_istore C (by decide) rfl dX12_found_62 ?_
        refine ux_pick [5, 1, 0] rfl ?_
        refine LW2.elim (P := fun (x4_11 : Int32) (x5_12 : Int32) => ud_X D G z N p l e (ud_rm 6 0 0) s m args below meth c 6 0 0 (ud_Q D G z N (po_i Qf) below args s) a_6 64 [(3, .int x3), (4, .int x4_11), (5, .int x5_12)] []) hw ?_
        intro x4_11 x5_12 K_9 hw ih_10
        refine ux_iload C 2 rfl dX12_found_64 ?_
        refine ux_iload_n C 0 rfl rfl dX12_found_66 ?_
        refine ux_icmp_le C (tgt := 83) (by decide) dX12_found_67 (fun hc_13 => ?_) (fun hc_13 => ?_)
        · replace hw := hw.1 hc_13
          refine ux_iload C 1 rfl dX12_found_83 ?_
          refine ux_bipush C (v := 12) (by decide) dX12_found_85 ?_
          refine ux_irem C (by decide) dX12_found_87 ?_
          exact ux_iret C ⟨_, rfl, hw⟩ dX12_found_88
        · replace hw := hw.2 hc_13
          refine ux_iload C 1 rfl dX12_found_70 ?_
          refine ux_bipush C (v := 12) (by decide) dX12_found_72 ?_
          refine ux_idiv C (by decide) dX12_found_74 ?_
          refine ux_istore C (by decide) rfl dX12_found_75 ?_
          refine ux_iinc C 2 rfl rfl (by decide) rfl dX12_found_77 ?_
          refine ux_goto C (tgt := 64) (by decide) dX12_found_80 ?_
          exact ux_pick [2, 1, 0] rfl (ih_10 _ _ hw)
      · replace hw := hw.1 hc_14
        refine ux_iconst C (v := -1) (by decide) dX12_found_48 ?_
        exact ux_iret C ⟨_, rfl, hw⟩ dX12_found_49
    · replace hw := hw.1 hc_15
      refine ux_bipush C (v := -2) (by decide) dX12_found_23 ?_
      exact ux_iret C ⟨_, rfl, hw⟩ dX12_found_25
set_option maxHeartbeats 2000000 in
set_option maxRecDepth 4000 in
theorem c_Reader_readDoing_j62 {D : va_G} {G : Nat → Nat} {z N : Nat} {p : Program} {l : Launch} {e : Env} {s : State} {m : MethodId} {args : Array Value} {below : List Frame} {meth : Method} {c : Code} (hN : 92 ≤ N) {a0 : ud_St} {b_62 : ud_St} {y2_62 : Int32} {K_3 : Int32 → ud_St → Prop}  {Qf : Int32 → ud_St → Prop} (C : ud_C D G z N p s m args meth c cX6_readDoing 3 RX6 (some Jvm.ClassFile.FieldType.boolean)) (ih_4 : ∀ (v0 : Int32) (v1 : ud_St), K_3 v0 v1 → ud_X D G z N p l e (ud_rm 7 0 0) s m args below meth c 3 0 0 (ud_Q D G z N (po_i Qf) below args s) v1 22 [(0, .ref (z + 3)), (1, .ref (z + 15)), (2, .int v0)] []) (hw : w_Reader_readDoing_j62 a0 b_62 y2_62 K_3 Qf) : ud_X D G z N p l e (ud_rm 7 0 0) s m args below meth c 3 0 0 (ud_Q D G z N (po_i Qf) below args s) b_62 62 [(0, .ref (z + 3)), (1, .ref (z + 15)), (2, .int y2_62)] [] := by
  unfold w_Reader_readDoing_j62 at hw
  refine ux_aload_n C 0 rfl rfl dX6_readDoing_62 ?_
  refine ux_aload_n C 1 rfl rfl dX6_readDoing_63 ?_
  refine cs_6_113 C  (c_Reader_readWord hN  hw) (by decide) (by decide) (Nat.le_of_ble_eq_true rfl) dX6_readDoing_64 (po_i.k fun r_9 a_10 hw => ?_)
  refine ux_if_ne C (tgt := 72) (by decide) dX6_readDoing_67 (fun hc_13 => ?_) (fun hc_13 => ?_)
  · replace hw := hw.2 hc_13
    refine ux_aload_n C 1 rfl rfl dX6_readDoing_72 ?_
    refine gf_6_101 C (uc_15 C.2.2.2.2.2) dX6_readDoing_73 ?_
    refine ux_aload_n C 0 rfl rfl dX6_readDoing_76 ?_
    refine gf_6_116 C dX6_readDoing_77 ?_
    refine ux_aload_n C 0 rfl rfl dX6_readDoing_80 ?_
    refine gf_6_84 C dX6_readDoing_81 ?_
    refine cs_6_119 C (uc_16 C.2.2.2.2.2) (c_Words_add hN (uc_16 C.2.2.2.2.2) hw) (by decide) (by decide) (Nat.le_of_ble_eq_true rfl) dX6_readDoing_84 (po_v.k fun a_12 hw => ?_)
    refine ux_iinc C 2 rfl rfl (by decide) rfl dX6_readDoing_87 ?_
    refine ux_goto C (tgt := 22) (by decide) dX6_readDoing_90 ?_
    exact ux_pick [1, 2, 0] rfl (ih_4 _ _ hw)
  · replace hw := hw.1 hc_13
    refine ux_iconst C (v := 0) (by decide) dX6_readDoing_70 ?_
    exact ux_zret C rfl ⟨_, rfl, hw⟩ dX6_readDoing_71
set_option maxHeartbeats 2000000 in
set_option maxRecDepth 4000 in
theorem c_Reader_readDoing_j42 {D : va_G} {G : Nat → Nat} {z N : Nat} {p : Program} {l : Launch} {e : Env} {s : State} {m : MethodId} {args : Array Value} {below : List Frame} {meth : Method} {c : Code} (hN : 92 ≤ N) {a0 : ud_St} {b_42 : ud_St} {y2_42 : Int32} {K_3 : Int32 → ud_St → Prop}  {Qf : Int32 → ud_St → Prop} (C : ud_C D G z N p s m args meth c cX6_readDoing 3 RX6 (some Jvm.ClassFile.FieldType.boolean)) (ih_4 : ∀ (v0 : Int32) (v1 : ud_St), K_3 v0 v1 → ud_X D G z N p l e (ud_rm 7 0 0) s m args below meth c 3 0 0 (ud_Q D G z N (po_i Qf) below args s) v1 22 [(0, .ref (z + 3)), (1, .ref (z + 15)), (2, .int v0)] []) (hw : w_Reader_readDoing_j42 a0 b_42 y2_42 K_3 Qf) : ud_X D G z N p l e (ud_rm 7 0 0) s m args below meth c 3 0 0 (ud_Q D G z N (po_i Qf) below args s) b_42 42 [(0, .ref (z + 3)), (1, .ref (z + 15)), (2, .int y2_42)] [] := by
  unfold w_Reader_readDoing_j42 at hw
  refine ux_aload_n C 0 rfl rfl dX6_readDoing_42 ?_
  refine cs_6_109 C  (c_Reader_sortHere hN  hw) (by decide) (by decide) (Nat.le_of_ble_eq_true rfl) dX6_readDoing_43 (po_ip.k fun r_7 hw => ?_)
  refine ux_iconst C (v := -1) (by decide) dX6_readDoing_46 ?_
  refine ux_icmp_eq C (tgt := 62) (by decide) dX6_readDoing_47 (fun hc_18 => ?_) (fun hc_18 => ?_)
  · replace hw := hw.1 hc_18
    exact ux_pick [0, 1, 2] rfl (c_Reader_readDoing_j62 hN  C ih_4 hw)
  · replace hw := hw.2 hc_18
    refine ux_iload_n C 2 rfl rfl dX6_readDoing_50 ?_
    refine ux_bipush C (v := 12) (by decide) dX6_readDoing_51 ?_
    refine ux_icmp_ne C (tgt := 62) (by decide) dX6_readDoing_53 (fun hc_17 => ?_) (fun hc_17 => ?_)
    · replace hw := hw.2 hc_17
      exact ux_pick [0, 1, 2] rfl (c_Reader_readDoing_j62 hN  C ih_4 hw)
    · replace hw := hw.1 hc_17
      refine ux_aload_n C 0 rfl rfl dX6_readDoing_56 ?_
      refine ux_iconst C (v := 3) (by decide) dX6_readDoing_57 ?_
      refine cs_6_69 C  (c_Reader_wrong hN  hw) (by decide) (by decide) (Nat.le_of_ble_eq_true rfl) dX6_readDoing_58 (po_i.k fun r_14 a_15 hw => ?_)
      obtain ⟨hn_16, hw⟩ := hw
      exact ux_zret C (ud_narZ hn_16) ⟨_, rfl, hw⟩ dX6_readDoing_61
set_option maxHeartbeats 2000000 in
set_option maxRecDepth 4000 in
theorem c_Reader_readDoing {l : Launch} {D : va_G} {G : Nat → Nat} {z N : Nat} (hN : 92 ≤ N) {a0 : ud_St}   {Qf : Int32 → ud_St → Prop} (hw : w_Reader_readDoing a0  Qf) : ud_M l D G z N yX6_readDoing cX6_readDoing 3 (some Jvm.ClassFile.FieldType.boolean) 7 [.ref (z + 3), .ref (z + 15)] a0 (po_i Qf) := by
  unfold w_Reader_readDoing at hw
  refine ud_M_of hN (by decide) (Nat.le_of_ble_eq_true rfl) ?_
  intro p e s m args below meth c C
  have C : ud_C D G z N p s m args meth c cX6_readDoing 3 RX6 (some Jvm.ClassFile.FieldType.boolean) := C
  show ud_X D G z N p l e (ud_rm 7 0 0) s m args below meth c 3 0 0 (ud_Q D G z N (po_i Qf) below args s) a0 0 [(0, .ref (z + 3)), (1, .ref (z + 15))] []
  refine ux_aload_n C 1 rfl rfl dX6_readDoing_0 ?_
  refine gf_6_101 C (uc_15 C.2.2.2.2.2) dX6_readDoing_1 ?_
  refine gf_6_104 C (uc_16 C.2.2.2.2.2) dX6_readDoing_4 ?_
  refine ux_if_le C (tgt := 16) (by decide) dX6_readDoing_7 (fun hc_25 => ?_) (fun hc_25 => ?_)
  · replace hw := hw.1 hc_25
    refine ux_aload_n C 0 rfl rfl dX6_readDoing_16 ?_
    refine cs_6_30 C  (c_Reader_advance hN  hw) (by decide) (by decide) (Nat.le_of_ble_eq_true rfl) dX6_readDoing_17 (po_v.k fun a_2 hw => ?_)
    refine ux_iconst C (v := 0) (by decide) dX6_readDoing_20 ?_
    refine ux_istore_n C rfl (by decide) rfl dX6_readDoing_21 ?_
    refine ux_pick [1, 2, 0] rfl ?_
    refine LW2.elim (P := fun (x2_5 : Int32) (a_6 : ud_St) => ud_X D G z N p l e (ud_rm 7 0 0) s m args below meth c 3 0 0 (ud_Q D G z N (po_i Qf) below args s) a_6 22 [(0, .ref (z + 3)), (1, .ref (z + 15)), (2, .int x2_5)] []) hw ?_
    intro x2_5 a_6 K_3 hw ih_4
    refine ux_iload_n C 2 rfl rfl dX6_readDoing_22 ?_
    refine ux_bipush C (v := 12) (by decide) dX6_readDoing_23 ?_
    refine ux_icmp_gt C (tgt := 93) (by decide) dX6_readDoing_25 (fun hc_21 => ?_) (fun hc_21 => ?_)
    · replace hw := hw.1 hc_21
      refine ux_iconst C (v := 1) (by decide) dX6_readDoing_93 ?_
      exact ux_zret C rfl ⟨_, rfl, hw⟩ dX6_readDoing_94
    · replace hw := hw.2 hc_21
      refine ux_iload_n C 2 rfl rfl dX6_readDoing_28 ?_
      refine ux_if_le C (tgt := 42) (by decide) dX6_readDoing_29 (fun hc_20 => ?_) (fun hc_20 => ?_)
      · replace hw := hw.1 hc_20
        exact ux_pick [0, 1, 2] rfl (c_Reader_readDoing_j42 hN  C ih_4 hw)
      · replace hw := hw.2 hc_20
        refine ux_aload_n C 0 rfl rfl dX6_readDoing_32 ?_
        refine gf_6_33 C dX6_readDoing_33 ?_
        refine ux_iconst C (v := 3) (by decide) dX6_readDoing_36 ?_
        refine ux_icmp_ne C (tgt := 42) (by decide) dX6_readDoing_37 (fun hc_19 => ?_) (fun hc_19 => ?_)
        · replace hw := hw.2 hc_19
          exact ux_pick [0, 1, 2] rfl (c_Reader_readDoing_j42 hN  C ih_4 hw)
        · replace hw := hw.1 hc_19
          refine ux_iconst C (v := 1) (by decide) dX6_readDoing_40 ?_
          exact ux_zret C rfl ⟨_, rfl, hw⟩ dX6_readDoing_41
  · replace hw := hw.2 hc_25
    refine ux_aload_n C 0 rfl rfl dX6_readDoing_10 ?_
    refine ux_iconst C (v := 2) (by decide) dX6_readDoing_11 ?_
    refine cs_6_69 C  (c_Reader_wrong hN  hw) (by decide) (by decide) (Nat.le_of_ble_eq_true rfl) dX6_readDoing_12 (po_i.k fun r_22 a_23 hw => ?_)
    obtain ⟨hn_24, hw⟩ := hw
    exact ux_zret C (ud_narZ hn_24) ⟨_, rfl, hw⟩ dX6_readDoing_15
set_option maxHeartbeats 2000000 in
set_option maxRecDepth 4000 in
theorem c_Reader_readSlip {l : Launch} {D : va_G} {G : Nat → Nat} {z N : Nat} (hN : 92 ≤ N) {a0 : ud_St}   {Qf : Int32 → ud_St → Prop} (hw : w_Reader_readSlip a0  Qf) : ud_M l D G z N yX6_readSlip cX6_readSlip 2 (some Jvm.ClassFile.FieldType.boolean) 7 [.ref (z + 3), .ref (z + 15)] a0 (po_i Qf) := by
  unfold w_Reader_readSlip at hw
  refine ud_M_of hN (by decide) (Nat.le_of_ble_eq_true rfl) ?_
  intro p e s m args below meth c C
  have C : ud_C D G z N p s m args meth c cX6_readSlip 2 RX6 (some Jvm.ClassFile.FieldType.boolean) := C
  show ud_X D G z N p l e (ud_rm 7 0 0) s m args below meth c 2 0 0 (ud_Q D G z N (po_i Qf) below args s) a0 0 [(0, .ref (z + 3)), (1, .ref (z + 15))] []
  refine ux_aload_n C 1 rfl rfl dX6_readSlip_0 ?_
  refine gf_6_130 C (uc_15 C.2.2.2.2.2) dX6_readSlip_1 ?_
  refine gf_6_104 C (uc_19 C.2.2.2.2.2) dX6_readSlip_4 ?_
  refine ux_bipush C (v := 6) (by decide) dX6_readSlip_7 ?_
  refine ux_icmp_lt C (tgt := 18) (by decide) dX6_readSlip_9 (fun hc_19 => ?_) (fun hc_19 => ?_)
  · replace hw := hw.1 hc_19
    refine ux_aload_n C 0 rfl rfl dX6_readSlip_18 ?_
    refine cs_6_30 C  (c_Reader_advance hN  hw) (by decide) (by decide) (Nat.le_of_ble_eq_true rfl) dX6_readSlip_19 (po_v.k fun a_2 hw => ?_)
    refine ux_aload_n C 0 rfl rfl dX6_readSlip_22 ?_
    refine ux_aload_n C 1 rfl rfl dX6_readSlip_23 ?_
    refine cs_6_113 C  (c_Reader_readWord hN  hw) (by decide) (by decide) (Nat.le_of_ble_eq_true rfl) dX6_readSlip_24 (po_i.k fun r_3 a_4 hw => ?_)
    refine ux_if_ne C (tgt := 32) (by decide) dX6_readSlip_27 (fun hc_15 => ?_) (fun hc_15 => ?_)
    · replace hw := hw.2 hc_15
      refine ux_aload_n C 1 rfl rfl dX6_readSlip_32 ?_
      refine gf_6_130 C (uc_15 C.2.2.2.2.2) dX6_readSlip_33 ?_
      refine ux_aload_n C 0 rfl rfl dX6_readSlip_36 ?_
      refine gf_6_116 C dX6_readSlip_37 ?_
      refine ux_aload_n C 0 rfl rfl dX6_readSlip_40 ?_
      refine gf_6_84 C dX6_readSlip_41 ?_
      refine cs_6_119 C (uc_19 C.2.2.2.2.2) (c_Words_add hN (uc_19 C.2.2.2.2.2) hw) (by decide) (by decide) (Nat.le_of_ble_eq_true rfl) dX6_readSlip_44 (po_v.k fun a_6 hw => ?_)
      refine ux_aload_n C 0 rfl rfl dX6_readSlip_47 ?_
      refine ux_ldcS C 21 (by decide) rfl dX6_readSlip_48 ?_
      refine cs_6_75 C  (c_Reader_readText hN  hw) (by decide) (by decide) (Nat.le_of_ble_eq_true rfl) dX6_readSlip_50 (po_i.k fun r_7 a_8 hw => ?_)
      refine ux_if_eq C (tgt := 64) (by decide) dX6_readSlip_53 (fun hc_14 => ?_) (fun hc_14 => ?_)
      · replace hw := hw.1 hc_14
        refine ux_iconst C (v := 0) (by decide) dX6_readSlip_64 ?_
        exact ux_zret C rfl ⟨_, rfl, hw⟩ dX6_readSlip_65
      · replace hw := hw.2 hc_14
        refine ux_aload_n C 0 rfl rfl dX6_readSlip_56 ?_
        refine ux_aload_n C 1 rfl rfl dX6_readSlip_57 ?_
        refine cs_6_113 C  (c_Reader_readWord hN  hw) (by decide) (by decide) (Nat.le_of_ble_eq_true rfl) dX6_readSlip_58 (po_i.k fun r_9 a_10 hw => ?_)
        refine ux_if_ne C (tgt := 66) (by decide) dX6_readSlip_61 (fun hc_13 => ?_) (fun hc_13 => ?_)
        · replace hw := hw.2 hc_13
          refine ux_aload_n C 1 rfl rfl dX6_readSlip_66 ?_
          refine gf_6_135 C (uc_15 C.2.2.2.2.2) dX6_readSlip_67 ?_
          refine ux_aload_n C 0 rfl rfl dX6_readSlip_70 ?_
          refine gf_6_116 C dX6_readSlip_71 ?_
          refine ux_aload_n C 0 rfl rfl dX6_readSlip_74 ?_
          refine gf_6_84 C dX6_readSlip_75 ?_
          refine cs_6_119 C (uc_22 C.2.2.2.2.2) (c_Words_add hN (uc_22 C.2.2.2.2.2) hw) (by decide) (by decide) (Nat.le_of_ble_eq_true rfl) dX6_readSlip_78 (po_v.k fun a_12 hw => ?_)
          refine ux_iconst C (v := 1) (by decide) dX6_readSlip_81 ?_
          exact ux_zret C rfl ⟨_, rfl, hw⟩ dX6_readSlip_82
        · replace hw := hw.1 hc_13
          refine ux_iconst C (v := 0) (by decide) dX6_readSlip_64 ?_
          exact ux_zret C rfl ⟨_, rfl, hw⟩ dX6_readSlip_65
    · replace hw := hw.1 hc_15
      refine ux_iconst C (v := 0) (by decide) dX6_readSlip_30 ?_
      exact ux_zret C rfl ⟨_, rfl, hw⟩ dX6_readSlip_31
  · replace hw := hw.2 hc_19
    refine ux_aload_n C 0 rfl rfl dX6_readSlip_12 ?_
    refine ux_iconst C (v := 3) (by decide) dX6_readSlip_13 ?_
    refine cs_6_69 C  (c_Reader_wrong hN  hw) (by decide) (by decide) (Nat.le_of_ble_eq_true rfl) dX6_readSlip_14 (po_i.k fun r_16 a_17 hw => ?_)
    obtain ⟨hn_18, hw⟩ := hw
    exact ux_zret C (ud_narZ hn_18) ⟨_, rfl, hw⟩ dX6_readSlip_17
set_option maxHeartbeats 2000000 in
set_option maxRecDepth 4000 in
theorem c_UpAndDown_after {l : Launch} {D : va_G} {G : Nat → Nat} {z N : Nat} (hN : 92 ≤ N) {a0 : ud_St} {x1 : Int32} {x2 : Int32}  {Qf : Int32 → ud_St → Prop} (hw : w_UpAndDown_after a0 x1 x2 Qf) : ud_M l D G z N yX11_after cX11_after 3 (some Jvm.ClassFile.FieldType.int) 7 [.ref (z + 0), .int x1, .int x2] a0 (po_i Qf) := by
  unfold w_UpAndDown_after at hw
  refine ud_M_of hN (by decide) (Nat.le_of_ble_eq_true rfl) ?_
  intro p e s m args below meth c C
  have C : ud_C D G z N p s m args meth c cX11_after 3 RX11 (some Jvm.ClassFile.FieldType.int) := C
  show ud_X D G z N p l e (ud_rm 7 0 0) s m args below meth c 3 0 0 (ud_Q D G z N (po_i Qf) below args s) a0 0 [(0, .ref (z + 0)), (1, .int x1), (2, .int x2)] []
  refine ux_aload_n C 0 rfl rfl dX11_after_0 ?_
  refine ux_iload_n C 1 rfl rfl dX11_after_1 ?_
  refine cs_11_154 C  (c_UpAndDown_isNumber hN  hw) (by decide) (by decide) (Nat.le_of_ble_eq_true rfl) dX11_after_2 (po_ip.k fun r_1 hw => ?_)
  refine ux_if_eq C (tgt := 18) (by decide) dX11_after_5 (fun hc_9 => ?_) (fun hc_9 => ?_)
  · replace hw := hw.1 hc_9
    refine ux_bipush C (v := -2) (by decide) dX11_after_18 ?_
    exact ux_iret C ⟨_, rfl, hw⟩ dX11_after_20
  · replace hw := hw.2 hc_9
    refine ux_iload_n C 2 rfl rfl dX11_after_8 ?_
    refine ux_if_lt C (tgt := 18) (by decide) dX11_after_9 (fun hc_8 => ?_) (fun hc_8 => ?_)
    · replace hw := hw.1 hc_8
      refine ux_bipush C (v := -2) (by decide) dX11_after_18 ?_
      exact ux_iret C ⟨_, rfl, hw⟩ dX11_after_20
    · replace hw := hw.2 hc_8
      refine ux_iload_n C 2 rfl rfl dX11_after_12 ?_
      refine ux_ldc C (v := 1000000000) mw_829 dX11_after_13 ?_
      refine ux_icmp_le C (tgt := 21) (by decide) dX11_after_15 (fun hc_7 => ?_) (fun hc_7 => ?_)
      · replace hw := hw.1 hc_7
        refine ux_aload_n C 0 rfl rfl dX11_after_21 ?_
        refine cs_11_170 C  (c_UpAndDown_known hN  hw) (by decide) (by decide) (Nat.le_of_ble_eq_true rfl) dX11_after_22 (po_r.k fun a_4 hw => ?_)
        refine ux_iload_n C 1 rfl rfl dX11_after_25 ?_
        refine ux_iload_n C 2 rfl rfl dX11_after_26 ?_
        refine cs_11_174 C  (c_Paths_afterGoes hN  hw) (by decide) (by decide) (Nat.le_of_ble_eq_true rfl) dX11_after_27 (po_ip.k fun r_5 hw => ?_)
        exact ux_iret C ⟨_, rfl, hw⟩ dX11_after_30
      · replace hw := hw.2 hc_7
        refine ux_bipush C (v := -2) (by decide) dX11_after_18 ?_
        exact ux_iret C ⟨_, rfl, hw⟩ dX11_after_20
set_option maxHeartbeats 2000000 in
set_option maxRecDepth 4000 in
theorem c_UpAndDown_ends {l : Launch} {D : va_G} {G : Nat → Nat} {z N : Nat} (hN : 92 ≤ N) {a0 : ud_St} {x1 : Int32} {x2 : Int32}  {Qf : Int32 → ud_St → Prop} (hw : w_UpAndDown_ends a0 x1 x2 Qf) : ud_M l D G z N yX11_ends cX11_ends 4 (some Jvm.ClassFile.FieldType.int) 7 [.ref (z + 0), .int x1, .int x2] a0 (po_i Qf) := by
  unfold w_UpAndDown_ends at hw
  refine ud_M_of hN (by decide) (Nat.le_of_ble_eq_true rfl) ?_
  intro p e s m args below meth c C
  have C : ud_C D G z N p s m args meth c cX11_ends 4 RX11 (some Jvm.ClassFile.FieldType.int) := C
  show ud_X D G z N p l e (ud_rm 7 0 0) s m args below meth c 4 0 0 (ud_Q D G z N (po_i Qf) below args s) a0 0 [(0, .ref (z + 0)), (1, .int x1), (2, .int x2)] []
  refine ux_aload_n C 0 rfl rfl dX11_ends_0 ?_
  refine ux_iload_n C 1 rfl rfl dX11_ends_1 ?_
  refine cs_11_154 C  (c_UpAndDown_isNumber hN  hw) (by decide) (by decide) (Nat.le_of_ble_eq_true rfl) dX11_ends_2 (po_ip.k fun r_1 hw => ?_)
  refine ux_if_eq C (tgt := 17) (by decide) dX11_ends_5 (fun hc_24 => ?_) (fun hc_24 => ?_)
  · replace hw := hw.1 hc_24
    refine ux_bipush C (v := -2) (by decide) dX11_ends_17 ?_
    exact ux_iret C ⟨_, rfl, hw⟩ dX11_ends_19
  · replace hw := hw.2 hc_24
    refine ux_iload_n C 2 rfl rfl dX11_ends_8 ?_
    refine ux_if_lt C (tgt := 17) (by decide) dX11_ends_9 (fun hc_23 => ?_) (fun hc_23 => ?_)
    · replace hw := hw.1 hc_23
      refine ux_bipush C (v := -2) (by decide) dX11_ends_17 ?_
      exact ux_iret C ⟨_, rfl, hw⟩ dX11_ends_19
    · replace hw := hw.2 hc_23
      refine ux_iload_n C 2 rfl rfl dX11_ends_12 ?_
      refine ux_iconst C (v := 3) (by decide) dX11_ends_13 ?_
      refine ux_icmp_le C (tgt := 20) (by decide) dX11_ends_14 (fun hc_22 => ?_) (fun hc_22 => ?_)
      · replace hw := hw.1 hc_22
        refine ux_aload_n C 0 rfl rfl dX11_ends_20 ?_
        refine cs_11_170 C  (c_UpAndDown_known hN  hw) (by decide) (by decide) (Nat.le_of_ble_eq_true rfl) dX11_ends_21 (po_r.k fun a_4 hw => ?_)
        refine ux_astore_n C rfl (by decide) rfl dX11_ends_24 ?_
        refine ux_iload_n C 3 rfl rfl dX11_ends_25 ?_
        by_cases hx_7 : x2 = 0
        · replace hw := hw.1 hx_7
          refine ux_tableIn C (tgt := 52) (by rw [hx_7]; decide) (by rw [hx_7]; decide) (by rw [hx_7]; rfl) (by decide) dX11_ends_26 ?_
          refine ux_aload_n C 0 rfl rfl dX11_ends_52 ?_
          refine ux_iload_n C 2 rfl rfl dX11_ends_53 ?_
          refine cs_11_177 C  (c_Paths_tailOf hN  hw) (by decide) (by decide) (Nat.le_of_ble_eq_true rfl) dX11_ends_54 (po_ip.k fun r_5 hw => ?_)
          exact ux_iret C ⟨_, rfl, hw⟩ dX11_ends_57
        · replace hw := hw.2 hx_7
          by_cases hx_12 : x2 = 1
          · replace hw := hw.1 hx_12
            refine ux_tableIn C (tgt := 58) (by rw [hx_12]; decide) (by rw [hx_12]; decide) (by rw [hx_12]; rfl) (by decide) dX11_ends_26 ?_
            refine ux_aload_n C 0 rfl rfl dX11_ends_58 ?_
            refine ux_aload_n C 0 rfl rfl dX11_ends_59 ?_
            refine ux_iload_n C 2 rfl rfl dX11_ends_60 ?_
            refine cs_11_180 C  (c_Paths_homeOf hN  hw) (by decide) (by decide) (Nat.le_of_ble_eq_true rfl) dX11_ends_61 (po_ip.k fun r_8 hw => ?_)
            refine cs_11_183 C  (c_Paths_lengthOf hN  hw) (by decide) (by decide) (Nat.le_of_ble_eq_true rfl) dX11_ends_64 (po_ip.k fun r_10 hw => ?_)
            exact ux_iret C ⟨_, rfl, hw⟩ dX11_ends_67
          · replace hw := hw.2 hx_12
            by_cases hx_17 : x2 = 2
            · replace hw := hw.1 hx_17
              refine ux_tableIn C (tgt := 68) (by rw [hx_17]; decide) (by rw [hx_17]; decide) (by rw [hx_17]; rfl) (by decide) dX11_ends_26 ?_
              refine ux_aload_n C 0 rfl rfl dX11_ends_68 ?_
              refine ux_aload_n C 0 rfl rfl dX11_ends_69 ?_
              refine ux_iload_n C 2 rfl rfl dX11_ends_70 ?_
              refine cs_11_180 C  (c_Paths_homeOf hN  hw) (by decide) (by decide) (Nat.le_of_ble_eq_true rfl) dX11_ends_71 (po_ip.k fun r_13 hw => ?_)
              refine cs_11_186 C  (c_Paths_leastOf hN  hw) (by decide) (by decide) (Nat.le_of_ble_eq_true rfl) dX11_ends_74 (po_ip.k fun r_15 hw => ?_)
              exact ux_iret C ⟨_, rfl, hw⟩ dX11_ends_77
            · replace hw := hw.2 hx_17
              have hx_7i : Int32.toInt x2 ≠ 0 := fun q => hx_7 (Int32.toInt_inj.mp (q.trans (by decide)))
              have hx_12i : Int32.toInt x2 ≠ 1 := fun q => hx_12 (Int32.toInt_inj.mp (q.trans (by decide)))
              have hx_17i : Int32.toInt x2 ≠ 2 := fun q => hx_17 (Int32.toInt_inj.mp (q.trans (by decide)))
              refine ux_tableOut C (tgt := 78) (by omega) (by decide) dX11_ends_26 ?_
              refine ux_aload_n C 0 rfl rfl dX11_ends_78 ?_
              refine ux_iload_n C 2 rfl rfl dX11_ends_79 ?_
              refine ux_aload_n C 0 rfl rfl dX11_ends_80 ?_
              refine ux_iload_n C 2 rfl rfl dX11_ends_81 ?_
              refine cs_11_177 C  (c_Paths_tailOf hN  hw) (by decide) (by decide) (Nat.le_of_ble_eq_true rfl) dX11_ends_82 (po_ip.k fun r_18 hw => ?_)
              refine cs_11_174 C  (c_Paths_afterGoes hN  hw) (by decide) (by decide) (Nat.le_of_ble_eq_true rfl) dX11_ends_85 (po_ip.k fun r_20 hw => ?_)
              exact ux_iret C ⟨_, rfl, hw⟩ dX11_ends_88
      · replace hw := hw.2 hc_22
        refine ux_bipush C (v := -2) (by decide) dX11_ends_17 ?_
        exact ux_iret C ⟨_, rfl, hw⟩ dX11_ends_19
set_option maxHeartbeats 2000000 in
set_option maxRecDepth 4000 in
theorem c_UpAndDown_rounds {l : Launch} {D : va_G} {G : Nat → Nat} {z N : Nat} (hN : 92 ≤ N) {a0 : ud_St} {x1 : Int32}  {Qf : Int32 → ud_St → Prop} (hw : w_UpAndDown_rounds a0 x1 Qf) : ud_M l D G z N yX11_rounds cX11_rounds 3 (some Jvm.ClassFile.FieldType.int) 7 [.ref (z + 0), .int x1] a0 (po_i Qf) := by
  unfold w_UpAndDown_rounds at hw
  refine ud_M_of hN (by decide) (Nat.le_of_ble_eq_true rfl) ?_
  intro p e s m args below meth c C
  have C : ud_C D G z N p s m args meth c cX11_rounds 3 RX11 (some Jvm.ClassFile.FieldType.int) := C
  show ud_X D G z N p l e (ud_rm 7 0 0) s m args below meth c 3 0 0 (ud_Q D G z N (po_i Qf) below args s) a0 0 [(0, .ref (z + 0)), (1, .int x1)] []
  refine ux_aload_n C 0 rfl rfl dX11_rounds_0 ?_
  refine cs_11_147 C  (c_UpAndDown_hasTable hN  hw) (by decide) (by decide) (Nat.le_of_ble_eq_true rfl) dX11_rounds_1 (po_ip.k fun r_1 hw => ?_)
  refine ux_if_eq C (tgt := 16) (by decide) dX11_rounds_4 (fun hc_10 => ?_) (fun hc_10 => ?_)
  · replace hw := hw.1 hc_10
    refine ux_bipush C (v := -2) (by decide) dX11_rounds_16 ?_
    exact ux_iret C ⟨_, rfl, hw⟩ dX11_rounds_18
  · replace hw := hw.2 hc_10
    refine ux_iload_n C 1 rfl rfl dX11_rounds_7 ?_
    refine ux_if_lt C (tgt := 16) (by decide) dX11_rounds_8 (fun hc_9 => ?_) (fun hc_9 => ?_)
    · replace hw := hw.1 hc_9
      refine ux_bipush C (v := -2) (by decide) dX11_rounds_16 ?_
      exact ux_iret C ⟨_, rfl, hw⟩ dX11_rounds_18
    · replace hw := hw.2 hc_9
      refine ux_iload_n C 1 rfl rfl dX11_rounds_11 ?_
      refine ux_iconst C (v := 3) (by decide) dX11_rounds_12 ?_
      refine ux_icmp_le C (tgt := 19) (by decide) dX11_rounds_13 (fun hc_8 => ?_) (fun hc_8 => ?_)
      · replace hw := hw.1 hc_8
        refine ux_aload_n C 0 rfl rfl dX11_rounds_19 ?_
        refine cs_11_170 C  (c_UpAndDown_known hN  hw) (by decide) (by decide) (Nat.le_of_ble_eq_true rfl) dX11_rounds_20 (po_r.k fun a_4 hw => ?_)
        refine ux_astore_n C rfl (by decide) rfl dX11_rounds_23 ?_
        refine ux_iload_n C 2 rfl rfl dX11_rounds_24 ?_
        by_cases hx_5 : x1 = 0
        · replace hw := hw.1 hx_5
          refine ux_tableIn C (tgt := 52) (by rw [hx_5]; decide) (by rw [hx_5]; decide) (by rw [hx_5]; rfl) (by decide) dX11_rounds_25 ?_
          refine ux_aload_n C 0 rfl rfl dX11_rounds_52 ?_
          refine gf_11_189 C dX11_rounds_53 ?_
          exact ux_iret C ⟨_, rfl, hw⟩ dX11_rounds_56
        · replace hw := hw.2 hx_5
          by_cases hx_6 : x1 = 1
          · replace hw := hw.1 hx_6
            refine ux_tableIn C (tgt := 57) (by rw [hx_6]; decide) (by rw [hx_6]; decide) (by rw [hx_6]; rfl) (by decide) dX11_rounds_25 ?_
            refine ux_aload_n C 0 rfl rfl dX11_rounds_57 ?_
            refine gf_11_192 C dX11_rounds_58 ?_
            exact ux_iret C ⟨_, rfl, hw⟩ dX11_rounds_61
          · replace hw := hw.2 hx_6
            by_cases hx_7 : x1 = 2
            · replace hw := hw.1 hx_7
              refine ux_tableIn C (tgt := 62) (by rw [hx_7]; decide) (by rw [hx_7]; decide) (by rw [hx_7]; rfl) (by decide) dX11_rounds_25 ?_
              refine ux_aload_n C 0 rfl rfl dX11_rounds_62 ?_
              refine gf_11_195 C dX11_rounds_63 ?_
              exact ux_iret C ⟨_, rfl, hw⟩ dX11_rounds_66
            · replace hw := hw.2 hx_7
              have hx_5i : Int32.toInt x1 ≠ 0 := fun q => hx_5 (Int32.toInt_inj.mp (q.trans (by decide)))
              have hx_6i : Int32.toInt x1 ≠ 1 := fun q => hx_6 (Int32.toInt_inj.mp (q.trans (by decide)))
              have hx_7i : Int32.toInt x1 ≠ 2 := fun q => hx_7 (Int32.toInt_inj.mp (q.trans (by decide)))
              refine ux_tableOut C (tgt := 67) (by omega) (by decide) dX11_rounds_25 ?_
              refine ux_aload_n C 0 rfl rfl dX11_rounds_67 ?_
              refine gf_11_198 C dX11_rounds_68 ?_
              exact ux_iret C ⟨_, rfl, hw⟩ dX11_rounds_71
      · replace hw := hw.2 hc_8
        refine ux_bipush C (v := -2) (by decide) dX11_rounds_16 ?_
        exact ux_iret C ⟨_, rfl, hw⟩ dX11_rounds_18
set_option maxHeartbeats 2000000 in
set_option maxRecDepth 4000 in
theorem c_UpAndDown_round {l : Launch} {D : va_G} {G : Nat → Nat} {z N : Nat} (hN : 92 ≤ N) {a0 : ud_St} {x1 : Int32} {x2 : Int32}  {Qf : Int32 → ud_St → Prop} (hw : w_UpAndDown_round a0 x1 x2 Qf) : ud_M l D G z N yX11_round cX11_round 4 (some Jvm.ClassFile.FieldType.int) 7 [.ref (z + 0), .int x1, .int x2] a0 (po_i Qf) := by
  unfold w_UpAndDown_round at hw
  refine ud_M_of hN (by decide) (Nat.le_of_ble_eq_true rfl) ?_
  intro p e s m args below meth c C
  have C : ud_C D G z N p s m args meth c cX11_round 4 RX11 (some Jvm.ClassFile.FieldType.int) := C
  show ud_X D G z N p l e (ud_rm 7 0 0) s m args below meth c 4 0 0 (ud_Q D G z N (po_i Qf) below args s) a0 0 [(0, .ref (z + 0)), (1, .int x1), (2, .int x2)] []
  refine ux_aload_n C 0 rfl rfl dX11_round_0 ?_
  refine cs_11_147 C  (c_UpAndDown_hasTable hN  hw) (by decide) (by decide) (Nat.le_of_ble_eq_true rfl) dX11_round_1 (po_ip.k fun r_1 hw => ?_)
  refine ux_if_eq C (tgt := 16) (by decide) dX11_round_4 (fun hc_20 => ?_) (fun hc_20 => ?_)
  · replace hw := hw.1 hc_20
    refine ux_bipush C (v := -2) (by decide) dX11_round_16 ?_
    exact ux_iret C ⟨_, rfl, hw⟩ dX11_round_18
  · replace hw := hw.2 hc_20
    refine ux_iload_n C 2 rfl rfl dX11_round_7 ?_
    refine ux_if_lt C (tgt := 16) (by decide) dX11_round_8 (fun hc_19 => ?_) (fun hc_19 => ?_)
    · replace hw := hw.1 hc_19
      refine ux_bipush C (v := -2) (by decide) dX11_round_16 ?_
      exact ux_iret C ⟨_, rfl, hw⟩ dX11_round_18
    · replace hw := hw.2 hc_19
      refine ux_iload_n C 2 rfl rfl dX11_round_11 ?_
      refine ux_iconst C (v := 3) (by decide) dX11_round_12 ?_
      refine ux_icmp_le C (tgt := 19) (by decide) dX11_round_13 (fun hc_18 => ?_) (fun hc_18 => ?_)
      · replace hw := hw.1 hc_18
        refine ux_aload_n C 0 rfl rfl dX11_round_19 ?_
        refine cs_11_170 C  (c_UpAndDown_known hN  hw) (by decide) (by decide) (Nat.le_of_ble_eq_true rfl) dX11_round_20 (po_r.k fun a_4 hw => ?_)
        refine ux_astore_n C rfl (by decide) rfl dX11_round_23 ?_
        refine ux_iload_n C 2 rfl rfl dX11_round_24 ?_
        refine ux_if_lt C (tgt := 36) (by decide) dX11_round_25 (fun hc_17 => ?_) (fun hc_17 => ?_)
        · replace hw := hw.1 hc_17
          refine ux_iconst C (v := -1) (by decide) dX11_round_36 ?_
          exact ux_iret C ⟨_, rfl, hw⟩ dX11_round_37
        · replace hw := hw.2 hc_17
          refine ux_iload_n C 2 rfl rfl dX11_round_28 ?_
          refine ux_aload_n C 0 rfl rfl dX11_round_29 ?_
          refine gf_11_189 C dX11_round_30 ?_
          refine ux_icmp_lt C (tgt := 38) (by decide) dX11_round_33 (fun hc_16 => ?_) (fun hc_16 => ?_)
          · replace hw := hw.1 hc_16
            refine ux_iload_n C 3 rfl rfl dX11_round_38 ?_
            by_cases hx_7 : x2 = 0
            · replace hw := hw.1 hx_7
              refine ux_tableIn C (tgt := 64) (by rw [hx_7]; decide) (by rw [hx_7]; decide) (by rw [hx_7]; rfl) (by decide) dX11_round_39 ?_
              refine ux_aload_n C 0 rfl rfl dX11_round_64 ?_
              refine ux_iload_n C 2 rfl rfl dX11_round_65 ?_
              refine cs_11_186 C  (c_Paths_leastOf hN  hw) (by decide) (by decide) (Nat.le_of_ble_eq_true rfl) dX11_round_66 (po_ip.k fun r_5 hw => ?_)
              exact ux_iret C ⟨_, rfl, hw⟩ dX11_round_69
            · replace hw := hw.2 hx_7
              by_cases hx_10 : x2 = 1
              · replace hw := hw.1 hx_10
                refine ux_tableIn C (tgt := 70) (by rw [hx_10]; decide) (by rw [hx_10]; decide) (by rw [hx_10]; rfl) (by decide) dX11_round_39 ?_
                refine ux_aload_n C 0 rfl rfl dX11_round_70 ?_
                refine ux_iload_n C 2 rfl rfl dX11_round_71 ?_
                refine cs_11_183 C  (c_Paths_lengthOf hN  hw) (by decide) (by decide) (Nat.le_of_ble_eq_true rfl) dX11_round_72 (po_ip.k fun r_8 hw => ?_)
                exact ux_iret C ⟨_, rfl, hw⟩ dX11_round_75
              · replace hw := hw.2 hx_10
                by_cases hx_13 : x2 = 2
                · replace hw := hw.1 hx_13
                  refine ux_tableIn C (tgt := 76) (by rw [hx_13]; decide) (by rw [hx_13]; decide) (by rw [hx_13]; rfl) (by decide) dX11_round_39 ?_
                  refine ux_aload_n C 0 rfl rfl dX11_round_76 ?_
                  refine ux_iload_n C 2 rfl rfl dX11_round_77 ?_
                  refine cs_11_201 C  (c_Paths_comersTo hN  hw) (by decide) (by decide) (Nat.le_of_ble_eq_true rfl) dX11_round_78 (po_ip.k fun r_11 hw => ?_)
                  exact ux_iret C ⟨_, rfl, hw⟩ dX11_round_81
                · replace hw := hw.2 hx_13
                  have hx_7i : Int32.toInt x2 ≠ 0 := fun q => hx_7 (Int32.toInt_inj.mp (q.trans (by decide)))
                  have hx_10i : Int32.toInt x2 ≠ 1 := fun q => hx_10 (Int32.toInt_inj.mp (q.trans (by decide)))
                  have hx_13i : Int32.toInt x2 ≠ 2 := fun q => hx_13 (Int32.toInt_inj.mp (q.trans (by decide)))
                  refine ux_tableOut C (tgt := 82) (by omega) (by decide) dX11_round_39 ?_
                  refine ux_aload_n C 0 rfl rfl dX11_round_82 ?_
                  refine ux_iload_n C 2 rfl rfl dX11_round_83 ?_
                  refine cs_11_204 C  (c_Paths_mostGoesTo hN  hw) (by decide) (by decide) (Nat.le_of_ble_eq_true rfl) dX11_round_84 (po_ip.k fun r_14 hw => ?_)
                  exact ux_iret C ⟨_, rfl, hw⟩ dX11_round_87
          · replace hw := hw.2 hc_16
            refine ux_iconst C (v := -1) (by decide) dX11_round_36 ?_
            exact ux_iret C ⟨_, rfl, hw⟩ dX11_round_37
      · replace hw := hw.2 hc_18
        refine ux_bipush C (v := -2) (by decide) dX11_round_16 ?_
        exact ux_iret C ⟨_, rfl, hw⟩ dX11_round_18
set_option maxHeartbeats 2000000 in
set_option maxRecDepth 4000 in
theorem c_UpAndDown_on {l : Launch} {D : va_G} {G : Nat → Nat} {z N : Nat} (hN : 92 ≤ N) {a0 : ud_St} {x1 : Int32} {x2 : Int32}  {Qf : Int32 → ud_St → Prop} (hw : w_UpAndDown_on a0 x1 x2 Qf) : ud_M l D G z N yX11_on cX11_on 4 (some Jvm.ClassFile.FieldType.int) 7 [.ref (z + 0), .int x1, .int x2] a0 (po_i Qf) := by
  unfold w_UpAndDown_on at hw
  refine ud_M_of hN (by decide) (Nat.le_of_ble_eq_true rfl) ?_
  intro p e s m args below meth c C
  have C : ud_C D G z N p s m args meth c cX11_on 4 RX11 (some Jvm.ClassFile.FieldType.int) := C
  show ud_X D G z N p l e (ud_rm 7 0 0) s m args below meth c 4 0 0 (ud_Q D G z N (po_i Qf) below args s) a0 0 [(0, .ref (z + 0)), (1, .int x1), (2, .int x2)] []
  refine ux_aload_n C 0 rfl rfl dX11_on_0 ?_
  refine cs_11_147 C  (c_UpAndDown_hasTable hN  hw) (by decide) (by decide) (Nat.le_of_ble_eq_true rfl) dX11_on_1 (po_ip.k fun r_1 hw => ?_)
  refine ux_if_ne C (tgt := 10) (by decide) dX11_on_4 (fun hc_15 => ?_) (fun hc_15 => ?_)
  · replace hw := hw.2 hc_15
    refine ux_aload_n C 0 rfl rfl dX11_on_10 ?_
    refine cs_11_170 C  (c_UpAndDown_known hN  hw) (by decide) (by decide) (Nat.le_of_ble_eq_true rfl) dX11_on_11 (po_r.k fun a_4 hw => ?_)
    refine ux_astore_n C rfl (by decide) rfl dX11_on_14 ?_
    refine ux_iload_n C 2 rfl rfl dX11_on_15 ?_
    refine ux_if_lt C (tgt := 40) (by decide) dX11_on_16 (fun hc_14 => ?_) (fun hc_14 => ?_)
    · replace hw := hw.1 hc_14
      refine ux_iconst C (v := -1) (by decide) dX11_on_40 ?_
      exact ux_iret C ⟨_, rfl, hw⟩ dX11_on_41
    · replace hw := hw.2 hc_14
      refine ux_iload_n C 2 rfl rfl dX11_on_19 ?_
      refine ux_aload_n C 0 rfl rfl dX11_on_20 ?_
      refine gf_11_189 C dX11_on_21 ?_
      refine ux_icmp_ge C (tgt := 40) (by decide) dX11_on_24 (fun hc_13 => ?_) (fun hc_13 => ?_)
      · replace hw := hw.1 hc_13
        refine ux_iconst C (v := -1) (by decide) dX11_on_40 ?_
        exact ux_iret C ⟨_, rfl, hw⟩ dX11_on_41
      · replace hw := hw.2 hc_13
        refine ux_iload_n C 3 rfl rfl dX11_on_27 ?_
        refine ux_if_lt C (tgt := 40) (by decide) dX11_on_28 (fun hc_12 => ?_) (fun hc_12 => ?_)
        · replace hw := hw.1 hc_12
          refine ux_iconst C (v := -1) (by decide) dX11_on_40 ?_
          exact ux_iret C ⟨_, rfl, hw⟩ dX11_on_41
        · replace hw := hw.2 hc_12
          refine ux_iload_n C 3 rfl rfl dX11_on_31 ?_
          refine ux_aload_n C 0 rfl rfl dX11_on_32 ?_
          refine ux_iload_n C 2 rfl rfl dX11_on_33 ?_
          refine cs_11_183 C  (c_Paths_lengthOf hN  hw) (by decide) (by decide) (Nat.le_of_ble_eq_true rfl) dX11_on_34 (po_ip.k fun r_5 hw => ?_)
          refine ux_icmp_lt C (tgt := 42) (by decide) dX11_on_37 (fun hc_11 => ?_) (fun hc_11 => ?_)
          · replace hw := hw.1 hc_11
            refine ux_aload_n C 0 rfl rfl dX11_on_42 ?_
            refine ux_aload_n C 0 rfl rfl dX11_on_43 ?_
            refine ux_iload_n C 2 rfl rfl dX11_on_44 ?_
            refine cs_11_186 C  (c_Paths_leastOf hN  hw) (by decide) (by decide) (Nat.le_of_ble_eq_true rfl) dX11_on_45 (po_ip.k fun r_7 hw => ?_)
            refine ux_iload_n C 3 rfl rfl dX11_on_48 ?_
            refine cs_11_174 C  (c_Paths_afterGoes hN  hw) (by decide) (by decide) (Nat.le_of_ble_eq_true rfl) dX11_on_49 (po_ip.k fun r_9 hw => ?_)
            exact ux_iret C ⟨_, rfl, hw⟩ dX11_on_52
          · replace hw := hw.2 hc_11
            refine ux_iconst C (v := -1) (by decide) dX11_on_40 ?_
            exact ux_iret C ⟨_, rfl, hw⟩ dX11_on_41
  · replace hw := hw.1 hc_15
    refine ux_bipush C (v := -2) (by decide) dX11_on_7 ?_
    exact ux_iret C ⟨_, rfl, hw⟩ dX11_on_9
set_option maxHeartbeats 2000000 in
set_option maxRecDepth 4000 in
theorem c_UpAndDown_most {l : Launch} {D : va_G} {G : Nat → Nat} {z N : Nat} (hN : 92 ≤ N) {a0 : ud_St} {x1 : Int32}  {Qf : Int32 → ud_St → Prop} (hw : w_UpAndDown_most a0 x1 Qf) : ud_M l D G z N yX11_most cX11_most 3 (some Jvm.ClassFile.FieldType.int) 7 [.ref (z + 0), .int x1] a0 (po_i Qf) := by
  unfold w_UpAndDown_most at hw
  refine ud_M_of hN (by decide) (Nat.le_of_ble_eq_true rfl) ?_
  intro p e s m args below meth c C
  have C : ud_C D G z N p s m args meth c cX11_most 3 RX11 (some Jvm.ClassFile.FieldType.int) := C
  show ud_X D G z N p l e (ud_rm 7 0 0) s m args below meth c 3 0 0 (ud_Q D G z N (po_i Qf) below args s) a0 0 [(0, .ref (z + 0)), (1, .int x1)] []
  refine ux_aload_n C 0 rfl rfl dX11_most_0 ?_
  refine cs_11_147 C  (c_UpAndDown_hasTable hN  hw) (by decide) (by decide) (Nat.le_of_ble_eq_true rfl) dX11_most_1 (po_ip.k fun r_1 hw => ?_)
  refine ux_if_eq C (tgt := 16) (by decide) dX11_most_4 (fun hc_13 => ?_) (fun hc_13 => ?_)
  · replace hw := hw.1 hc_13
    refine ux_bipush C (v := -2) (by decide) dX11_most_16 ?_
    exact ux_iret C ⟨_, rfl, hw⟩ dX11_most_18
  · replace hw := hw.2 hc_13
    refine ux_iload_n C 1 rfl rfl dX11_most_7 ?_
    refine ux_if_lt C (tgt := 16) (by decide) dX11_most_8 (fun hc_12 => ?_) (fun hc_12 => ?_)
    · replace hw := hw.1 hc_12
      refine ux_bipush C (v := -2) (by decide) dX11_most_16 ?_
      exact ux_iret C ⟨_, rfl, hw⟩ dX11_most_18
    · replace hw := hw.2 hc_12
      refine ux_iload_n C 1 rfl rfl dX11_most_11 ?_
      refine ux_iconst C (v := 2) (by decide) dX11_most_12 ?_
      refine ux_icmp_le C (tgt := 19) (by decide) dX11_most_13 (fun hc_11 => ?_) (fun hc_11 => ?_)
      · replace hw := hw.1 hc_11
        refine ux_aload_n C 0 rfl rfl dX11_most_19 ?_
        refine cs_11_170 C  (c_UpAndDown_known hN  hw) (by decide) (by decide) (Nat.le_of_ble_eq_true rfl) dX11_most_20 (po_r.k fun a_4 hw => ?_)
        refine ux_astore_n C rfl (by decide) rfl dX11_most_23 ?_
        refine ux_iload_n C 2 rfl rfl dX11_most_24 ?_
        by_cases hx_5 : x1 = 0
        · replace hw := hw.1 hx_5
          refine ux_lookup C (off := 27) (tgt := 52) (by decide) (by first | (rw [hx_5]; done) | (rw [hx_5]; rfl)) (by decide) dX11_most_25 ?_
          refine ux_aload_n C 0 rfl rfl dX11_most_52 ?_
          refine gf_11_207 C dX11_most_53 ?_
          exact ux_iret C ⟨_, rfl, hw⟩ dX11_most_56
        · replace hw := hw.2 hx_5
          by_cases hx_8 : x1 = 1
          · replace hw := hw.1 hx_8
            refine ux_lookup C (off := 32) (tgt := 57) (by decide) (by first | (rw [hx_8]; done) | (rw [hx_8]; rfl)) (by decide) dX11_most_25 ?_
            refine ux_aload_n C 0 rfl rfl dX11_most_57 ?_
            refine ux_aload_n C 0 rfl rfl dX11_most_58 ?_
            refine gf_11_207 C dX11_most_59 ?_
            refine cs_11_210 C  (c_Paths_leastTaking hN  hw) (by decide) (by decide) (Nat.le_of_ble_eq_true rfl) dX11_most_62 (po_ip.k fun r_6 hw => ?_)
            exact ux_iret C ⟨_, rfl, hw⟩ dX11_most_65
          · replace hw := hw.2 hx_8
            have hx_5i : Int32.toInt x1 ≠ 0 := fun q => hx_5 (Int32.toInt_inj.mp (q.trans (by decide)))
            have hx_8i : Int32.toInt x1 ≠ 1 := fun q => hx_8 (Int32.toInt_inj.mp (q.trans (by decide)))
            refine ux_lookup C (off := 41) (tgt := 66) (by decide) (by simp [Op.lookupswitch.offset, hx_5i, Ne.symm hx_5i, hx_8i, Ne.symm hx_8i]) (by decide) dX11_most_25 ?_
            refine ux_aload_n C 0 rfl rfl dX11_most_66 ?_
            refine ux_aload_n C 0 rfl rfl dX11_most_67 ?_
            refine gf_11_207 C dX11_most_68 ?_
            refine cs_11_213 C  (c_Paths_countTaking hN  hw) (by decide) (by decide) (Nat.le_of_ble_eq_true rfl) dX11_most_71 (po_ip.k fun r_9 hw => ?_)
            exact ux_iret C ⟨_, rfl, hw⟩ dX11_most_74
      · replace hw := hw.2 hc_11
        refine ux_bipush C (v := -2) (by decide) dX11_most_16 ?_
        exact ux_iret C ⟨_, rfl, hw⟩ dX11_most_18
set_option maxHeartbeats 2000000 in
set_option maxRecDepth 4000 in
theorem c_UpAndDown_take {l : Launch} {D : va_G} {G : Nat → Nat} {z N : Nat} (hN : 92 ≤ N) {a0 : ud_St} {x1 : Int32}  {Qf : Int32 → ud_St → Prop} (hw : w_UpAndDown_take a0 x1 Qf) : ud_M l D G z N yX11_take cX11_take 2 (some Jvm.ClassFile.FieldType.int) 7 [.ref (z + 0), .int x1] a0 (po_i Qf) := by
  unfold w_UpAndDown_take at hw
  refine ud_M_of hN (by decide) (Nat.le_of_ble_eq_true rfl) ?_
  intro p e s m args below meth c C
  have C : ud_C D G z N p s m args meth c cX11_take 2 RX11 (some Jvm.ClassFile.FieldType.int) := C
  show ud_X D G z N p l e (ud_rm 7 0 0) s m args below meth c 2 0 0 (ud_Q D G z N (po_i Qf) below args s) a0 0 [(0, .ref (z + 0)), (1, .int x1)] []
  refine ux_aload_n C 0 rfl rfl dX11_take_0 ?_
  refine cs_11_147 C  (c_UpAndDown_hasTable hN  hw) (by decide) (by decide) (Nat.le_of_ble_eq_true rfl) dX11_take_1 (po_ip.k fun r_1 hw => ?_)
  refine ux_if_eq C (tgt := 11) (by decide) dX11_take_4 (fun hc_8 => ?_) (fun hc_8 => ?_)
  · replace hw := hw.1 hc_8
    refine ux_bipush C (v := -2) (by decide) dX11_take_11 ?_
    exact ux_iret C ⟨_, rfl, hw⟩ dX11_take_13
  · replace hw := hw.2 hc_8
    refine ux_iload_n C 1 rfl rfl dX11_take_7 ?_
    refine ux_if_ge C (tgt := 14) (by decide) dX11_take_8 (fun hc_7 => ?_) (fun hc_7 => ?_)
    · replace hw := hw.1 hc_7
      refine ux_aload_n C 0 rfl rfl dX11_take_14 ?_
      refine cs_11_170 C  (c_UpAndDown_known hN  hw) (by decide) (by decide) (Nat.le_of_ble_eq_true rfl) dX11_take_15 (po_r.k fun a_4 hw => ?_)
      refine ux_iload_n C 1 rfl rfl dX11_take_18 ?_
      refine cs_11_213 C  (c_Paths_countTaking hN  hw) (by decide) (by decide) (Nat.le_of_ble_eq_true rfl) dX11_take_19 (po_ip.k fun r_5 hw => ?_)
      exact ux_iret C ⟨_, rfl, hw⟩ dX11_take_22
    · replace hw := hw.2 hc_7
      refine ux_bipush C (v := -2) (by decide) dX11_take_11 ?_
      exact ux_iret C ⟨_, rfl, hw⟩ dX11_take_13
set_option maxHeartbeats 2000000 in
set_option maxRecDepth 4000 in
theorem c_UpAndDown_gardens {l : Launch} {D : va_G} {G : Nat → Nat} {z N : Nat} (hN : 92 ≤ N) {a0 : ud_St}   {Qf : Int32 → ud_St → Prop} (hw : w_UpAndDown_gardens a0  Qf) : ud_M l D G z N yX11_gardens cX11_gardens 1 (some Jvm.ClassFile.FieldType.int) 7 [.ref (z + 0)] a0 (po_i Qf) := by
  unfold w_UpAndDown_gardens at hw
  refine ud_M_of hN (by decide) (Nat.le_of_ble_eq_true rfl) ?_
  intro p e s m args below meth c C
  have C : ud_C D G z N p s m args meth c cX11_gardens 1 RX11 (some Jvm.ClassFile.FieldType.int) := C
  show ud_X D G z N p l e (ud_rm 7 0 0) s m args below meth c 1 0 0 (ud_Q D G z N (po_i Qf) below args s) a0 0 [(0, .ref (z + 0))] []
  refine ux_aload_n C 0 rfl rfl dX11_gardens_0 ?_
  refine cs_11_147 C  (c_UpAndDown_hasTable hN  hw) (by decide) (by decide) (Nat.le_of_ble_eq_true rfl) dX11_gardens_1 (po_ip.k fun r_1 hw => ?_)
  refine ux_if_eq C (tgt := 17) (by decide) dX11_gardens_4 (fun hc_7 => ?_) (fun hc_7 => ?_)
  · replace hw := hw.1 hc_7
    refine ux_bipush C (v := -2) (by decide) dX11_gardens_17 ?_
    exact ux_iret C ⟨_, rfl, hw⟩ dX11_gardens_19
  · replace hw := hw.2 hc_7
    refine ux_aload_n C 0 rfl rfl dX11_gardens_7 ?_
    refine cs_11_170 C  (c_UpAndDown_known hN  hw) (by decide) (by decide) (Nat.le_of_ble_eq_true rfl) dX11_gardens_8 (po_r.k fun a_4 hw => ?_)
    refine cs_11_216 C  (c_Paths_countGardens hN  hw) (by decide) (by decide) (Nat.le_of_ble_eq_true rfl) dX11_gardens_11 (po_ip.k fun r_5 hw => ?_)
    refine ux_goto C (tgt := 19) (by decide) dX11_gardens_14 ?_
    exact ux_iret C ⟨_, rfl, hw⟩ dX11_gardens_19
set_option maxHeartbeats 2000000 in
set_option maxRecDepth 4000 in
theorem c_UpAndDown_garden {l : Launch} {D : va_G} {G : Nat → Nat} {z N : Nat} (hN : 92 ≤ N) {a0 : ud_St} {x1 : Int32}  {Qf : Int32 → ud_St → Prop} (hw : w_UpAndDown_garden a0 x1 Qf) : ud_M l D G z N yX11_garden cX11_garden 2 (some Jvm.ClassFile.FieldType.int) 7 [.ref (z + 0), .int x1] a0 (po_i Qf) := by
  unfold w_UpAndDown_garden at hw
  refine ud_M_of hN (by decide) (Nat.le_of_ble_eq_true rfl) ?_
  intro p e s m args below meth c C
  have C : ud_C D G z N p s m args meth c cX11_garden 2 RX11 (some Jvm.ClassFile.FieldType.int) := C
  show ud_X D G z N p l e (ud_rm 7 0 0) s m args below meth c 2 0 0 (ud_Q D G z N (po_i Qf) below args s) a0 0 [(0, .ref (z + 0)), (1, .int x1)] []
  refine ux_aload_n C 0 rfl rfl dX11_garden_0 ?_
  refine cs_11_147 C  (c_UpAndDown_hasTable hN  hw) (by decide) (by decide) (Nat.le_of_ble_eq_true rfl) dX11_garden_1 (po_ip.k fun r_1 hw => ?_)
  refine ux_if_ne C (tgt := 10) (by decide) dX11_garden_4 (fun hc_8 => ?_) (fun hc_8 => ?_)
  · replace hw := hw.2 hc_8
    refine ux_iload_n C 1 rfl rfl dX11_garden_10 ?_
    refine ux_if_ge C (tgt := 18) (by decide) dX11_garden_11 (fun hc_7 => ?_) (fun hc_7 => ?_)
    · replace hw := hw.1 hc_7
      refine ux_aload_n C 0 rfl rfl dX11_garden_18 ?_
      refine cs_11_170 C  (c_UpAndDown_known hN  hw) (by decide) (by decide) (Nat.le_of_ble_eq_true rfl) dX11_garden_19 (po_r.k fun a_4 hw => ?_)
      refine ux_iload_n C 1 rfl rfl dX11_garden_22 ?_
      refine cs_11_220 C  (c_Paths_gardenAt hN  hw) (by decide) (by decide) (Nat.le_of_ble_eq_true rfl) dX11_garden_23 (po_ip.k fun r_5 hw => ?_)
      exact ux_iret C ⟨_, rfl, hw⟩ dX11_garden_26
    · replace hw := hw.2 hc_7
      refine ux_iconst C (v := -1) (by decide) dX11_garden_14 ?_
      refine ux_goto C (tgt := 26) (by decide) dX11_garden_15 ?_
      exact ux_iret C ⟨_, rfl, hw⟩ dX11_garden_26
  · replace hw := hw.1 hc_8
    refine ux_bipush C (v := -2) (by decide) dX11_garden_7 ?_
    exact ux_iret C ⟨_, rfl, hw⟩ dX11_garden_9
set_option maxHeartbeats 2000000 in
set_option maxRecDepth 4000 in
theorem c_UpAndDown_from {l : Launch} {D : va_G} {G : Nat → Nat} {z N : Nat} (hN : 92 ≤ N) {a0 : ud_St} {x1 : Int32} {x2 : Int32}  {Qf : Int32 → ud_St → Prop} (hw : w_UpAndDown_from a0 x1 x2 Qf) : ud_M l D G z N yX11_from cX11_from 4 (some Jvm.ClassFile.FieldType.int) 7 [.ref (z + 0), .int x1, .int x2] a0 (po_i Qf) := by
  unfold w_UpAndDown_from at hw
  refine ud_M_of hN (by decide) (Nat.le_of_ble_eq_true rfl) ?_
  intro p e s m args below meth c C
  have C : ud_C D G z N p s m args meth c cX11_from 4 RX11 (some Jvm.ClassFile.FieldType.int) := C
  show ud_X D G z N p l e (ud_rm 7 0 0) s m args below meth c 4 0 0 (ud_Q D G z N (po_i Qf) below args s) a0 0 [(0, .ref (z + 0)), (1, .int x1), (2, .int x2)] []
  refine ux_aload_n C 0 rfl rfl dX11_from_0 ?_
  refine ux_iload_n C 1 rfl rfl dX11_from_1 ?_
  refine cs_11_154 C  (c_UpAndDown_isNumber hN  hw) (by decide) (by decide) (Nat.le_of_ble_eq_true rfl) dX11_from_2 (po_ip.k fun r_1 hw => ?_)
  refine ux_if_eq C (tgt := 13) (by decide) dX11_from_5 (fun hc_14 => ?_) (fun hc_14 => ?_)
  · replace hw := hw.1 hc_14
    refine ux_bipush C (v := -2) (by decide) dX11_from_13 ?_
    exact ux_iret C ⟨_, rfl, hw⟩ dX11_from_15
  · replace hw := hw.2 hc_14
    refine ux_iload_n C 2 rfl rfl dX11_from_8 ?_
    refine ux_iconst C (v := -1) (by decide) dX11_from_9 ?_
    refine ux_icmp_ge C (tgt := 16) (by decide) dX11_from_10 (fun hc_13 => ?_) (fun hc_13 => ?_)
    · replace hw := hw.1 hc_13
      refine ux_aload_n C 0 rfl rfl dX11_from_16 ?_
      refine cs_11_170 C  (c_UpAndDown_known hN  hw) (by decide) (by decide) (Nat.le_of_ble_eq_true rfl) dX11_from_17 (po_r.k fun a_4 hw => ?_)
      refine ux_astore_n C rfl (by decide) rfl dX11_from_20 ?_
      refine ux_iload_n C 3 rfl rfl dX11_from_21 ?_
      refine ux_iconst C (v := -1) (by decide) dX11_from_22 ?_
      refine ux_icmp_ne C (tgt := 32) (by decide) dX11_from_23 (fun hc_12 => ?_) (fun hc_12 => ?_)
      · replace hw := hw.2 hc_12
        refine ux_iload_n C 3 rfl rfl dX11_from_32 ?_
        refine ux_aload_n C 0 rfl rfl dX11_from_33 ?_
        refine ux_iload_n C 2 rfl rfl dX11_from_34 ?_
        refine cs_11_223 C  (c_Paths_countInto hN  hw) (by decide) (by decide) (Nat.le_of_ble_eq_true rfl) dX11_from_35 (po_ip.k fun r_5 hw => ?_)
        refine ux_icmp_ge C (tgt := 50) (by decide) dX11_from_38 (fun hc_9 => ?_) (fun hc_9 => ?_)
        · replace hw := hw.1 hc_9
          refine ux_iconst C (v := -1) (by decide) dX11_from_50 ?_
          exact ux_iret C ⟨_, rfl, hw⟩ dX11_from_51
        · replace hw := hw.2 hc_9
          refine ux_aload_n C 0 rfl rfl dX11_from_41 ?_
          refine ux_iload_n C 2 rfl rfl dX11_from_42 ?_
          refine ux_iload_n C 3 rfl rfl dX11_from_43 ?_
          refine cs_11_226 C  (c_Paths_into hN  hw) (by decide) (by decide) (Nat.le_of_ble_eq_true rfl) dX11_from_44 (po_ip.k fun r_7 hw => ?_)
          refine ux_goto C (tgt := 51) (by decide) dX11_from_47 ?_
          exact ux_iret C ⟨_, rfl, hw⟩ dX11_from_51
      · replace hw := hw.1 hc_12
        refine ux_aload_n C 0 rfl rfl dX11_from_26 ?_
        refine ux_iload_n C 2 rfl rfl dX11_from_27 ?_
        refine cs_11_223 C  (c_Paths_countInto hN  hw) (by decide) (by decide) (Nat.le_of_ble_eq_true rfl) dX11_from_28 (po_ip.k fun r_10 hw => ?_)
        exact ux_iret C ⟨_, rfl, hw⟩ dX11_from_31
    · replace hw := hw.2 hc_13
      refine ux_bipush C (v := -2) (by decide) dX11_from_13 ?_
      exact ux_iret C ⟨_, rfl, hw⟩ dX11_from_15
set_option maxHeartbeats 2000000 in
set_option maxRecDepth 4000 in
theorem c_UpAndDown_back {l : Launch} {D : va_G} {G : Nat → Nat} {z N : Nat} (hN : 92 ≤ N) {a0 : ud_St} {x1 : Int32} {x2 : Int32}  {Qf : Int32 → ud_St → Prop} (hw : w_UpAndDown_back a0 x1 x2 Qf) : ud_M l D G z N yX11_back cX11_back 3 (some Jvm.ClassFile.FieldType.int) 7 [.ref (z + 0), .int x1, .int x2] a0 (po_i Qf) := by
  unfold w_UpAndDown_back at hw
  refine ud_M_of hN (by decide) (Nat.le_of_ble_eq_true rfl) ?_
  intro p e s m args below meth c C
  have C : ud_C D G z N p s m args meth c cX11_back 3 RX11 (some Jvm.ClassFile.FieldType.int) := C
  show ud_X D G z N p l e (ud_rm 7 0 0) s m args below meth c 3 0 0 (ud_Q D G z N (po_i Qf) below args s) a0 0 [(0, .ref (z + 0)), (1, .int x1), (2, .int x2)] []
  refine ux_aload_n C 0 rfl rfl dX11_back_0 ?_
  refine ux_iload_n C 1 rfl rfl dX11_back_1 ?_
  refine cs_11_154 C  (c_UpAndDown_isNumber hN  hw) (by decide) (by decide) (Nat.le_of_ble_eq_true rfl) dX11_back_2 (po_ip.k fun r_1 hw => ?_)
  refine ux_if_eq C (tgt := 15) (by decide) dX11_back_5 (fun hc_10 => ?_) (fun hc_10 => ?_)
  · replace hw := hw.1 hc_10
    refine ux_bipush C (v := -2) (by decide) dX11_back_15 ?_
    exact ux_iret C ⟨_, rfl, hw⟩ dX11_back_17
  · replace hw := hw.2 hc_10
    refine ux_iload_n C 2 rfl rfl dX11_back_8 ?_
    refine cs_11_229 C  (c_UpAndDown_isBehind hN  hw) (by decide) (by decide) (Nat.le_of_ble_eq_true rfl) dX11_back_9 (po_ip.k fun r_3 hw => ?_)
    refine ux_if_ne C (tgt := 18) (by decide) dX11_back_12 (fun hc_9 => ?_) (fun hc_9 => ?_)
    · replace hw := hw.2 hc_9
      refine ux_aload_n C 0 rfl rfl dX11_back_18 ?_
      refine cs_11_170 C  (c_UpAndDown_known hN  hw) (by decide) (by decide) (Nat.le_of_ble_eq_true rfl) dX11_back_19 (po_r.k fun a_6 hw => ?_)
      refine ux_iload_n C 1 rfl rfl dX11_back_22 ?_
      refine ux_iload_n C 2 rfl rfl dX11_back_23 ?_
      refine cs_11_232 C  (c_Paths_countBack hN  hw) (by decide) (by decide) (Nat.le_of_ble_eq_true rfl) dX11_back_24 (po_i.k fun r_7 a_8 hw => ?_)
      exact ux_iret C ⟨_, rfl, hw⟩ dX11_back_27
    · replace hw := hw.1 hc_9
      refine ux_bipush C (v := -2) (by decide) dX11_back_15 ?_
      exact ux_iret C ⟨_, rfl, hw⟩ dX11_back_17
set_option maxHeartbeats 2000000 in
set_option maxRecDepth 4000 in
theorem c_UpAndDown_meet {l : Launch} {D : va_G} {G : Nat → Nat} {z N : Nat} (hN : 92 ≤ N) {a0 : ud_St} {x1 : Int32} {x2 : Int32}  {Qf : Int32 → ud_St → Prop} (hw : w_UpAndDown_meet a0 x1 x2 Qf) : ud_M l D G z N yX11_meet cX11_meet 3 (some Jvm.ClassFile.FieldType.int) 7 [.ref (z + 0), .int x1, .int x2] a0 (po_i Qf) := by
  unfold w_UpAndDown_meet at hw
  refine ud_M_of hN (by decide) (Nat.le_of_ble_eq_true rfl) ?_
  intro p e s m args below meth c C
  have C : ud_C D G z N p s m args meth c cX11_meet 3 RX11 (some Jvm.ClassFile.FieldType.int) := C
  show ud_X D G z N p l e (ud_rm 7 0 0) s m args below meth c 3 0 0 (ud_Q D G z N (po_i Qf) below args s) a0 0 [(0, .ref (z + 0)), (1, .int x1), (2, .int x2)] []
  refine ux_aload_n C 0 rfl rfl dX11_meet_0 ?_
  refine ux_iload_n C 1 rfl rfl dX11_meet_1 ?_
  refine cs_11_154 C  (c_UpAndDown_isNumber hN  hw) (by decide) (by decide) (Nat.le_of_ble_eq_true rfl) dX11_meet_2 (po_ip.k fun r_1 hw => ?_)
  refine ux_if_eq C (tgt := 16) (by decide) dX11_meet_5 (fun hc_10 => ?_) (fun hc_10 => ?_)
  · replace hw := hw.1 hc_10
    refine ux_bipush C (v := -2) (by decide) dX11_meet_16 ?_
    exact ux_iret C ⟨_, rfl, hw⟩ dX11_meet_18
  · replace hw := hw.2 hc_10
    refine ux_aload_n C 0 rfl rfl dX11_meet_8 ?_
    refine ux_iload_n C 2 rfl rfl dX11_meet_9 ?_
    refine cs_11_154 C  (c_UpAndDown_isNumber hN  hw) (by decide) (by decide) (Nat.le_of_ble_eq_true rfl) dX11_meet_10 (po_ip.k fun r_3 hw => ?_)
    refine ux_if_ne C (tgt := 19) (by decide) dX11_meet_13 (fun hc_9 => ?_) (fun hc_9 => ?_)
    · replace hw := hw.2 hc_9
      refine ux_aload_n C 0 rfl rfl dX11_meet_19 ?_
      refine cs_11_170 C  (c_UpAndDown_known hN  hw) (by decide) (by decide) (Nat.le_of_ble_eq_true rfl) dX11_meet_20 (po_r.k fun a_6 hw => ?_)
      refine ux_iload_n C 1 rfl rfl dX11_meet_23 ?_
      refine ux_iload_n C 2 rfl rfl dX11_meet_24 ?_
      refine cs_11_235 C  (c_Paths_goesTillSame hN  hw) (by decide) (by decide) (Nat.le_of_ble_eq_true rfl) dX11_meet_25 (po_ip.k fun r_7 hw => ?_)
      exact ux_iret C ⟨_, rfl, hw⟩ dX11_meet_28
    · replace hw := hw.1 hc_9
      refine ux_bipush C (v := -2) (by decide) dX11_meet_16 ?_
      exact ux_iret C ⟨_, rfl, hw⟩ dX11_meet_18
set_option maxHeartbeats 2000000 in
set_option maxRecDepth 4000 in
theorem c_UpAndDown_join {l : Launch} {D : va_G} {G : Nat → Nat} {z N : Nat} (hN : 92 ≤ N) {a0 : ud_St} {x1 : Int32} {x2 : Int32} {x3 : Int32}  {Qf : Int32 → ud_St → Prop} (hw : w_UpAndDown_join a0 x1 x2 x3 Qf) : ud_M l D G z N yX11_join cX11_join 4 (some Jvm.ClassFile.FieldType.int) 7 [.ref (z + 0), .int x1, .int x2, .int x3] a0 (po_i Qf) := by
  unfold w_UpAndDown_join at hw
  refine ud_M_of hN (by decide) (Nat.le_of_ble_eq_true rfl) ?_
  intro p e s m args below meth c C
  have C : ud_C D G z N p s m args meth c cX11_join 4 RX11 (some Jvm.ClassFile.FieldType.int) := C
  show ud_X D G z N p l e (ud_rm 7 0 0) s m args below meth c 4 0 0 (ud_Q D G z N (po_i Qf) below args s) a0 0 [(0, .ref (z + 0)), (1, .int x1), (2, .int x2), (3, .int x3)] []
  refine ux_aload_n C 0 rfl rfl dX11_join_0 ?_
  refine ux_iload_n C 1 rfl rfl dX11_join_1 ?_
  refine cs_11_154 C  (c_UpAndDown_isNumber hN  hw) (by decide) (by decide) (Nat.le_of_ble_eq_true rfl) dX11_join_2 (po_ip.k fun r_1 hw => ?_)
  refine ux_if_eq C (tgt := 25) (by decide) dX11_join_5 (fun hc_12 => ?_) (fun hc_12 => ?_)
  · replace hw := hw.1 hc_12
    refine ux_bipush C (v := -2) (by decide) dX11_join_25 ?_
    exact ux_iret C ⟨_, rfl, hw⟩ dX11_join_27
  · replace hw := hw.2 hc_12
    refine ux_aload_n C 0 rfl rfl dX11_join_8 ?_
    refine ux_iload_n C 2 rfl rfl dX11_join_9 ?_
    refine cs_11_154 C  (c_UpAndDown_isNumber hN  hw) (by decide) (by decide) (Nat.le_of_ble_eq_true rfl) dX11_join_10 (po_ip.k fun r_3 hw => ?_)
    refine ux_if_eq C (tgt := 25) (by decide) dX11_join_13 (fun hc_11 => ?_) (fun hc_11 => ?_)
    · replace hw := hw.1 hc_11
      refine ux_bipush C (v := -2) (by decide) dX11_join_25 ?_
      exact ux_iret C ⟨_, rfl, hw⟩ dX11_join_27
    · replace hw := hw.2 hc_11
      refine ux_iload_n C 3 rfl rfl dX11_join_16 ?_
      refine ux_if_lt C (tgt := 25) (by decide) dX11_join_17 (fun hc_10 => ?_) (fun hc_10 => ?_)
      · replace hw := hw.1 hc_10
        refine ux_bipush C (v := -2) (by decide) dX11_join_25 ?_
        exact ux_iret C ⟨_, rfl, hw⟩ dX11_join_27
      · replace hw := hw.2 hc_10
        refine ux_iload_n C 3 rfl rfl dX11_join_20 ?_
        refine ux_iconst C (v := 2) (by decide) dX11_join_21 ?_
        refine ux_icmp_le C (tgt := 28) (by decide) dX11_join_22 (fun hc_9 => ?_) (fun hc_9 => ?_)
        · replace hw := hw.1 hc_9
          refine ux_aload_n C 0 rfl rfl dX11_join_28 ?_
          refine cs_11_170 C  (c_UpAndDown_known hN  hw) (by decide) (by decide) (Nat.le_of_ble_eq_true rfl) dX11_join_29 (po_r.k fun a_6 hw => ?_)
          refine ux_iload_n C 1 rfl rfl dX11_join_32 ?_
          refine ux_iload_n C 2 rfl rfl dX11_join_33 ?_
          refine ux_iload_n C 3 rfl rfl dX11_join_34 ?_
          refine cs_11_238 C  (c_Paths_joined hN  hw) (by decide) (by decide) (Nat.le_of_ble_eq_true rfl) dX11_join_35 (po_ip.k fun r_7 hw => ?_)
          exact ux_iret C ⟨_, rfl, hw⟩ dX11_join_38
        · replace hw := hw.2 hc_9
          refine ux_bipush C (v := -2) (by decide) dX11_join_25 ?_
          exact ux_iret C ⟨_, rfl, hw⟩ dX11_join_27
set_option maxHeartbeats 2000000 in
set_option maxRecDepth 4000 in
theorem c_UpAndDown_odd {l : Launch} {D : va_G} {G : Nat → Nat} {z N : Nat} (hN : 92 ≤ N) {a0 : ud_St}   {Qf : Int32 → ud_St → Prop} (hw : w_UpAndDown_odd a0  Qf) : ud_M l D G z N yX11_odd cX11_odd 1 (some Jvm.ClassFile.FieldType.int) 7 [.ref (z + 0)] a0 (po_i Qf) := by
  unfold w_UpAndDown_odd at hw
  refine ud_M_of hN (by decide) (Nat.le_of_ble_eq_true rfl) ?_
  intro p e s m args below meth c C
  have C : ud_C D G z N p s m args meth c cX11_odd 1 RX11 (some Jvm.ClassFile.FieldType.int) := C
  show ud_X D G z N p l e (ud_rm 7 0 0) s m args below meth c 1 0 0 (ud_Q D G z N (po_i Qf) below args s) a0 0 [(0, .ref (z + 0))] []
  refine ux_aload_n C 0 rfl rfl dX11_odd_0 ?_
  refine cs_11_147 C  (c_UpAndDown_hasTable hN  hw) (by decide) (by decide) (Nat.le_of_ble_eq_true rfl) dX11_odd_1 (po_ip.k fun r_1 hw => ?_)
  refine ux_if_eq C (tgt := 21) (by decide) dX11_odd_4 (fun hc_7 => ?_) (fun hc_7 => ?_)
  · replace hw := hw.1 hc_7
    refine ux_bipush C (v := -2) (by decide) dX11_odd_21 ?_
    exact ux_iret C ⟨_, rfl, hw⟩ dX11_odd_23
  · replace hw := hw.2 hc_7
    refine ux_aload_n C 0 rfl rfl dX11_odd_7 ?_
    refine cs_11_170 C  (c_UpAndDown_known hN  hw) (by decide) (by decide) (Nat.le_of_ble_eq_true rfl) dX11_odd_8 (po_r.k fun a_4 hw => ?_)
    refine ux_aload_n C 0 rfl rfl dX11_odd_11 ?_
    refine gf_11_38 C dX11_odd_12 ?_
    refine cs_11_251 C  (c_Paths_firstOdd hN  hw) (by decide) (by decide) (Nat.le_of_ble_eq_true rfl) dX11_odd_15 (po_ip.k fun r_5 hw => ?_)
    refine ux_goto C (tgt := 23) (by decide) dX11_odd_18 ?_
    exact ux_iret C ⟨_, rfl, hw⟩ dX11_odd_23
set_option maxHeartbeats 2000000 in
set_option maxRecDepth 4000 in
theorem c_UpAndDown_sure {l : Launch} {D : va_G} {G : Nat → Nat} {z N : Nat} (hN : 92 ≤ N) {a0 : ud_St} {x1 : Int32} {x2 : Int32} {x3 : Int32}  {Qf : Int32 → ud_St → Prop} (hw : w_UpAndDown_sure a0 x1 x2 x3 Qf) : ud_M l D G z N yX11_sure cX11_sure 4 (some Jvm.ClassFile.FieldType.int) 7 [.ref (z + 0), .int x1, .int x2, .int x3] a0 (po_i Qf) := by
  unfold w_UpAndDown_sure at hw
  refine ud_M_of hN (by decide) (Nat.le_of_ble_eq_true rfl) ?_
  intro p e s m args below meth c C
  have C : ud_C D G z N p s m args meth c cX11_sure 4 RX11 (some Jvm.ClassFile.FieldType.int) := C
  show ud_X D G z N p l e (ud_rm 7 0 0) s m args below meth c 4 0 0 (ud_Q D G z N (po_i Qf) below args s) a0 0 [(0, .ref (z + 0)), (1, .int x1), (2, .int x2), (3, .int x3)] []
  refine ux_aload_n C 0 rfl rfl dX11_sure_0 ?_
  refine ux_iload_n C 1 rfl rfl dX11_sure_1 ?_
  refine cs_11_255 C  (c_UpAndDown_isCrowd hN  hw) (by decide) (by decide) (Nat.le_of_ble_eq_true rfl) dX11_sure_2 (po_ip.k fun r_1 hw => ?_)
  refine ux_if_eq C (tgt := 23) (by decide) dX11_sure_5 (fun hc_15 => ?_) (fun hc_15 => ?_)
  · replace hw := hw.1 hc_15
    refine ux_bipush C (v := -2) (by decide) dX11_sure_23 ?_
    exact ux_iret C ⟨_, rfl, hw⟩ dX11_sure_25
  · replace hw := hw.2 hc_15
    refine ux_iload_n C 2 rfl rfl dX11_sure_8 ?_
    refine cs_11_229 C  (c_UpAndDown_isBehind hN  hw) (by decide) (by decide) (Nat.le_of_ble_eq_true rfl) dX11_sure_9 (po_ip.k fun r_3 hw => ?_)
    refine ux_if_eq C (tgt := 23) (by decide) dX11_sure_12 (fun hc_14 => ?_) (fun hc_14 => ?_)
    · replace hw := hw.1 hc_14
      refine ux_bipush C (v := -2) (by decide) dX11_sure_23 ?_
      exact ux_iret C ⟨_, rfl, hw⟩ dX11_sure_25
    · replace hw := hw.2 hc_14
      refine ux_aload_n C 0 rfl rfl dX11_sure_15 ?_
      refine ux_iload_n C 3 rfl rfl dX11_sure_16 ?_
      refine cs_11_258 C  (c_UpAndDown_isPlace hN  hw) (by decide) (by decide) (Nat.le_of_ble_eq_true rfl) dX11_sure_17 (po_ip.k fun r_5 hw => ?_)
      refine ux_if_ne C (tgt := 26) (by decide) dX11_sure_20 (fun hc_13 => ?_) (fun hc_13 => ?_)
      · replace hw := hw.2 hc_13
        refine ux_aload_n C 0 rfl rfl dX11_sure_26 ?_
        refine ux_aload_n C 0 rfl rfl dX11_sure_27 ?_
        refine cs_11_170 C  (c_UpAndDown_known hN  hw) (by decide) (by decide) (Nat.le_of_ble_eq_true rfl) dX11_sure_28 (po_r.k fun a_8 hw => ?_)
        refine ux_iload_n C 1 rfl rfl dX11_sure_31 ?_
        refine ux_iload_n C 2 rfl rfl dX11_sure_32 ?_
        refine cs_11_261 C  (c_UpAndDown_behind hN  hw) (by decide) (by decide) (Nat.le_of_ble_eq_true rfl) dX11_sure_33 (po_r.k fun a_10 hw => ?_)
        refine ux_aload_n C 0 rfl rfl dX11_sure_36 ?_
        refine gf_11_38 C dX11_sure_37 ?_
        refine ux_iload_n C 3 rfl rfl dX11_sure_40 ?_
        refine cs_11_265 C  (c_Crowd_sureFigure hN  hw) (by decide) (by decide) (Nat.le_of_ble_eq_true rfl) dX11_sure_41 (po_ip.k fun r_11 hw => ?_)
        exact ux_iret C ⟨_, rfl, hw⟩ dX11_sure_44
      · replace hw := hw.1 hc_13
        refine ux_bipush C (v := -2) (by decide) dX11_sure_23 ?_
        exact ux_iret C ⟨_, rfl, hw⟩ dX11_sure_25
set_option maxHeartbeats 2000000 in
set_option maxRecDepth 4000 in
theorem c_UpAndDown_fewest {l : Launch} {D : va_G} {G : Nat → Nat} {z N : Nat} (hN : 92 ≤ N) {a0 : ud_St} {x1 : Int32} {x2 : Int32}  {Qf : Int32 → ud_St → Prop} (hw : w_UpAndDown_fewest a0 x1 x2 Qf) : ud_M l D G z N yX11_fewest cX11_fewest 6 (some Jvm.ClassFile.FieldType.int) 7 [.ref (z + 0), .int x1, .int x2] a0 (po_i Qf) := by
  unfold w_UpAndDown_fewest at hw
  refine ud_M_of hN (by decide) (Nat.le_of_ble_eq_true rfl) ?_
  intro p e s m args below meth c C
  have C : ud_C D G z N p s m args meth c cX11_fewest 6 RX11 (some Jvm.ClassFile.FieldType.int) := C
  show ud_X D G z N p l e (ud_rm 7 0 0) s m args below meth c 6 0 0 (ud_Q D G z N (po_i Qf) below args s) a0 0 [(0, .ref (z + 0)), (1, .int x1), (2, .int x2)] []
  refine ux_aload_n C 0 rfl rfl dX11_fewest_0 ?_
  refine ux_iload_n C 1 rfl rfl dX11_fewest_1 ?_
  refine cs_11_255 C  (c_UpAndDown_isCrowd hN  hw) (by decide) (by decide) (Nat.le_of_ble_eq_true rfl) dX11_fewest_2 (po_ip.k fun r_1 hw => ?_)
  refine ux_if_eq C (tgt := 16) (by decide) dX11_fewest_5 (fun hc_19 => ?_) (fun hc_19 => ?_)
  · replace hw := hw.1 hc_19
    refine ux_bipush C (v := -2) (by decide) dX11_fewest_16 ?_
    exact ux_iret C ⟨_, rfl, hw⟩ dX11_fewest_18
  · replace hw := hw.2 hc_19
    refine ux_aload_n C 0 rfl rfl dX11_fewest_8 ?_
    refine ux_iload_n C 2 rfl rfl dX11_fewest_9 ?_
    refine cs_11_258 C  (c_UpAndDown_isPlace hN  hw) (by decide) (by decide) (Nat.le_of_ble_eq_true rfl) dX11_fewest_10 (po_ip.k fun r_3 hw => ?_)
    refine ux_if_ne C (tgt := 19) (by decide) dX11_fewest_13 (fun hc_18 => ?_) (fun hc_18 => ?_)
    · replace hw := hw.2 hc_18
      refine ux_aload_n C 0 rfl rfl dX11_fewest_19 ?_
      refine cs_11_170 C  (c_UpAndDown_known hN  hw) (by decide) (by decide) (Nat.le_of_ble_eq_true rfl) dX11_fewest_20 (po_r.k fun a_6 hw => ?_)
      refine ux_astore_n C rfl (by decide) rfl dX11_fewest_23 ?_
      refine ux_iconst C (v := 0) (by decide) dX11_fewest_24 ?_
      refine ux_istore C (by decide) rfl dX11_fewest_25 ?_
      refine ux_pick [2, 3, 4, 1, 0] rfl ?_
      refine LW2.elim (P := fun (x4_9 : Int32) (a_10 : ud_St) => ud_X D G z N p l e (ud_rm 7 0 0) s m args below meth c 6 0 0 (ud_Q D G z N (po_i Qf) below args s) a_10 27 [(0, .ref (z + 0)), (1, .int x1), (2, .int x2), (3, .ref (z + 36)), (4, .int x4_9)] []) hw ?_
      intro x4_9 a_10 K_7 hw ih_8
      refine ux_iload C 4 rfl dX11_fewest_27 ?_
      refine ux_sipush C (v := 200) (by decide) dX11_fewest_29 ?_
      refine ux_icmp_gt C (tgt := 78) (by decide) dX11_fewest_32 (fun hc_17 => ?_) (fun hc_17 => ?_)
      · replace hw := hw.1 hc_17
        refine ux_iconst C (v := -1) (by decide) dX11_fewest_78 ?_
        exact ux_iret C ⟨_, rfl, hw⟩ dX11_fewest_79
      · replace hw := hw.2 hc_17
        refine ux_aload_n C 0 rfl rfl dX11_fewest_35 ?_
        refine ux_aload_n C 3 rfl rfl dX11_fewest_36 ?_
        refine ux_iload_n C 1 rfl rfl dX11_fewest_37 ?_
        refine ux_iload C 4 rfl dX11_fewest_38 ?_
        refine cs_11_261 C  (c_UpAndDown_behind hN  hw) (by decide) (by decide) (Nat.le_of_ble_eq_true rfl) dX11_fewest_40 (po_r.k fun a_12 hw => ?_)
        refine ux_astore C (by decide) rfl dX11_fewest_43 ?_
        refine ux_aload C 0 rfl dX11_fewest_45 ?_
        refine ux_aload_n C 1 rfl rfl dX11_fewest_47 ?_
        refine gf_11_38 C dX11_fewest_48 ?_
        refine ux_iload_n C 3 rfl rfl dX11_fewest_51 ?_
        refine cs_11_265 C  (c_Crowd_sureFigure hN  hw) (by decide) (by decide) (Nat.le_of_ble_eq_true rfl) dX11_fewest_52 (po_ip.k fun r_13 hw => ?_)
        refine ux_iconst C (v := -1) (by decide) dX11_fewest_55 ?_
        refine ux_icmp_eq C (tgt := 62) (by decide) dX11_fewest_56 (fun hc_16 => ?_) (fun hc_16 => ?_)
        · replace hw := hw.1 hc_16
          refine ux_aload C 0 rfl dX11_fewest_62 ?_
          refine gf_11_269 C dX11_fewest_64 ?_
          refine ux_if_eq C (tgt := 72) (by decide) dX11_fewest_67 (fun hc_15 => ?_) (fun hc_15 => ?_)
          · replace hw := hw.1 hc_15
            refine ux_iinc C 5 rfl rfl (by decide) rfl dX11_fewest_72 ?_
            refine ux_goto C (tgt := 27) (by decide) dX11_fewest_75 ?_
            exact ux_pick [2, 3, 4, 5, 0] rfl (ih_8 _ _ hw)
          · replace hw := hw.2 hc_15
            refine ux_iconst C (v := -1) (by decide) dX11_fewest_70 ?_
            exact ux_iret C ⟨_, rfl, hw⟩ dX11_fewest_71
        · replace hw := hw.2 hc_16
          refine ux_iload C 5 rfl dX11_fewest_59 ?_
          exact ux_iret C ⟨_, rfl, hw⟩ dX11_fewest_61
    · replace hw := hw.1 hc_18
      refine ux_bipush C (v := -2) (by decide) dX11_fewest_16 ?_
      exact ux_iret C ⟨_, rfl, hw⟩ dX11_fewest_18
set_option maxHeartbeats 2000000 in
set_option maxRecDepth 4000 in
theorem c_UpAndDown_left {l : Launch} {D : va_G} {G : Nat → Nat} {z N : Nat} (hN : 92 ≤ N) {a0 : ud_St} {x1 : Int32} {x2 : Int32}  {Qf : Int32 → ud_St → Prop} (hw : w_UpAndDown_left a0 x1 x2 Qf) : ud_M l D G z N yX11_left cX11_left 3 (some Jvm.ClassFile.FieldType.int) 7 [.ref (z + 0), .int x1, .int x2] a0 (po_i Qf) := by
  unfold w_UpAndDown_left at hw
  refine ud_M_of hN (by decide) (Nat.le_of_ble_eq_true rfl) ?_
  intro p e s m args below meth c C
  have C : ud_C D G z N p s m args meth c cX11_left 3 RX11 (some Jvm.ClassFile.FieldType.int) := C
  show ud_X D G z N p l e (ud_rm 7 0 0) s m args below meth c 3 0 0 (ud_Q D G z N (po_i Qf) below args s) a0 0 [(0, .ref (z + 0)), (1, .int x1), (2, .int x2)] []
  refine ux_aload_n C 0 rfl rfl dX11_left_0 ?_
  refine ux_iload_n C 1 rfl rfl dX11_left_1 ?_
  refine cs_11_255 C  (c_UpAndDown_isCrowd hN  hw) (by decide) (by decide) (Nat.le_of_ble_eq_true rfl) dX11_left_2 (po_ip.k fun r_1 hw => ?_)
  refine ux_if_eq C (tgt := 15) (by decide) dX11_left_5 (fun hc_10 => ?_) (fun hc_10 => ?_)
  · replace hw := hw.1 hc_10
    refine ux_bipush C (v := -2) (by decide) dX11_left_15 ?_
    exact ux_iret C ⟨_, rfl, hw⟩ dX11_left_17
  · replace hw := hw.2 hc_10
    refine ux_iload_n C 2 rfl rfl dX11_left_8 ?_
    refine cs_11_229 C  (c_UpAndDown_isBehind hN  hw) (by decide) (by decide) (Nat.le_of_ble_eq_true rfl) dX11_left_9 (po_ip.k fun r_3 hw => ?_)
    refine ux_if_ne C (tgt := 18) (by decide) dX11_left_12 (fun hc_9 => ?_) (fun hc_9 => ?_)
    · replace hw := hw.2 hc_9
      refine ux_aload_n C 0 rfl rfl dX11_left_18 ?_
      refine ux_aload_n C 0 rfl rfl dX11_left_19 ?_
      refine cs_11_170 C  (c_UpAndDown_known hN  hw) (by decide) (by decide) (Nat.le_of_ble_eq_true rfl) dX11_left_20 (po_r.k fun a_6 hw => ?_)
      refine ux_iload_n C 1 rfl rfl dX11_left_23 ?_
      refine ux_iload_n C 2 rfl rfl dX11_left_24 ?_
      refine cs_11_261 C  (c_UpAndDown_behind hN  hw) (by decide) (by decide) (Nat.le_of_ble_eq_true rfl) dX11_left_25 (po_r.k fun a_8 hw => ?_)
      refine gf_11_273 C dX11_left_28 ?_
      exact ux_iret C ⟨_, rfl, hw⟩ dX11_left_31
    · replace hw := hw.1 hc_9
      refine ux_bipush C (v := -2) (by decide) dX11_left_15 ?_
      exact ux_iret C ⟨_, rfl, hw⟩ dX11_left_17
set_option maxHeartbeats 2000000 in
set_option maxRecDepth 4000 in
theorem c_UpAndDown_rest {l : Launch} {D : va_G} {G : Nat → Nat} {z N : Nat} (hN : 92 ≤ N) {a0 : ud_St} {x1 : Int32} {x2 : Int32}  {Qf : Int32 → ud_St → Prop} (hw : w_UpAndDown_rest a0 x1 x2 Qf) : ud_M l D G z N yX11_rest cX11_rest 3 (some Jvm.ClassFile.FieldType.int) 7 [.ref (z + 0), .int x1, .int x2] a0 (po_i Qf) := by
  unfold w_UpAndDown_rest at hw
  refine ud_M_of hN (by decide) (Nat.le_of_ble_eq_true rfl) ?_
  intro p e s m args below meth c C
  have C : ud_C D G z N p s m args meth c cX11_rest 3 RX11 (some Jvm.ClassFile.FieldType.int) := C
  show ud_X D G z N p l e (ud_rm 7 0 0) s m args below meth c 3 0 0 (ud_Q D G z N (po_i Qf) below args s) a0 0 [(0, .ref (z + 0)), (1, .int x1), (2, .int x2)] []
  refine ux_aload_n C 0 rfl rfl dX11_rest_0 ?_
  refine ux_iload_n C 1 rfl rfl dX11_rest_1 ?_
  refine cs_11_255 C  (c_UpAndDown_isCrowd hN  hw) (by decide) (by decide) (Nat.le_of_ble_eq_true rfl) dX11_rest_2 (po_ip.k fun r_1 hw => ?_)
  refine ux_if_eq C (tgt := 15) (by decide) dX11_rest_5 (fun hc_12 => ?_) (fun hc_12 => ?_)
  · replace hw := hw.1 hc_12
    refine ux_bipush C (v := -2) (by decide) dX11_rest_15 ?_
    exact ux_iret C ⟨_, rfl, hw⟩ dX11_rest_17
  · replace hw := hw.2 hc_12
    refine ux_iload_n C 2 rfl rfl dX11_rest_8 ?_
    refine cs_11_229 C  (c_UpAndDown_isBehind hN  hw) (by decide) (by decide) (Nat.le_of_ble_eq_true rfl) dX11_rest_9 (po_ip.k fun r_3 hw => ?_)
    refine ux_if_ne C (tgt := 18) (by decide) dX11_rest_12 (fun hc_11 => ?_) (fun hc_11 => ?_)
    · replace hw := hw.2 hc_11
      refine ux_aload_n C 0 rfl rfl dX11_rest_18 ?_
      refine ux_aload_n C 0 rfl rfl dX11_rest_19 ?_
      refine cs_11_170 C  (c_UpAndDown_known hN  hw) (by decide) (by decide) (Nat.le_of_ble_eq_true rfl) dX11_rest_20 (po_r.k fun a_6 hw => ?_)
      refine ux_iload_n C 1 rfl rfl dX11_rest_23 ?_
      refine ux_iload_n C 2 rfl rfl dX11_rest_24 ?_
      refine cs_11_261 C  (c_UpAndDown_behind hN  hw) (by decide) (by decide) (Nat.le_of_ble_eq_true rfl) dX11_rest_25 (po_r.k fun a_8 hw => ?_)
      refine cs_11_274 C  (c_Crowd_greatestOfOneRest hN  hw) (by decide) (by decide) (Nat.le_of_ble_eq_true rfl) dX11_rest_28 (po_ip.k fun r_9 hw => ?_)
      exact ux_iret C ⟨_, rfl, hw⟩ dX11_rest_31
    · replace hw := hw.1 hc_11
      refine ux_bipush C (v := -2) (by decide) dX11_rest_15 ?_
      exact ux_iret C ⟨_, rfl, hw⟩ dX11_rest_17
set_option maxHeartbeats 2000000 in
set_option maxRecDepth 4000 in
theorem c_UpAndDown_out {l : Launch} {D : va_G} {G : Nat → Nat} {z N : Nat} (hN : 92 ≤ N) {a0 : ud_St} {x1 : Int32} {x2 : Int32} {x3 : Int32}  {Qf : Int32 → ud_St → Prop} (hw : w_UpAndDown_out a0 x1 x2 x3 Qf) : ud_M l D G z N yX11_out cX11_out 4 (some Jvm.ClassFile.FieldType.int) 7 [.ref (z + 0), .int x1, .int x2, .int x3] a0 (po_i Qf) := by
  unfold w_UpAndDown_out at hw
  refine ud_M_of hN (by decide) (Nat.le_of_ble_eq_true rfl) ?_
  intro p e s m args below meth c C
  have C : ud_C D G z N p s m args meth c cX11_out 4 RX11 (some Jvm.ClassFile.FieldType.int) := C
  show ud_X D G z N p l e (ud_rm 7 0 0) s m args below meth c 4 0 0 (ud_Q D G z N (po_i Qf) below args s) a0 0 [(0, .ref (z + 0)), (1, .int x1), (2, .int x2), (3, .int x3)] []
  refine ux_aload_n C 0 rfl rfl dX11_out_0 ?_
  refine ux_iload_n C 1 rfl rfl dX11_out_1 ?_
  refine cs_11_255 C  (c_UpAndDown_isCrowd hN  hw) (by decide) (by decide) (Nat.le_of_ble_eq_true rfl) dX11_out_2 (po_ip.k fun r_1 hw => ?_)
  refine ux_if_eq C (tgt := 39) (by decide) dX11_out_5 (fun hc_16 => ?_) (fun hc_16 => ?_)
  · replace hw := hw.1 hc_16
    refine ux_bipush C (v := -2) (by decide) dX11_out_39 ?_
    exact ux_iret C ⟨_, rfl, hw⟩ dX11_out_41
  · replace hw := hw.2 hc_16
    refine ux_iload_n C 2 rfl rfl dX11_out_8 ?_
    refine cs_11_229 C  (c_UpAndDown_isBehind hN  hw) (by decide) (by decide) (Nat.le_of_ble_eq_true rfl) dX11_out_9 (po_ip.k fun r_3 hw => ?_)
    refine ux_if_eq C (tgt := 39) (by decide) dX11_out_12 (fun hc_15 => ?_) (fun hc_15 => ?_)
    · replace hw := hw.1 hc_15
      refine ux_bipush C (v := -2) (by decide) dX11_out_39 ?_
      exact ux_iret C ⟨_, rfl, hw⟩ dX11_out_41
    · replace hw := hw.2 hc_15
      refine ux_iload_n C 3 rfl rfl dX11_out_15 ?_
      refine ux_if_lt C (tgt := 39) (by decide) dX11_out_16 (fun hc_14 => ?_) (fun hc_14 => ?_)
      · replace hw := hw.1 hc_14
        refine ux_bipush C (v := -2) (by decide) dX11_out_39 ?_
        exact ux_iret C ⟨_, rfl, hw⟩ dX11_out_41
      · replace hw := hw.2 hc_14
        refine ux_iload_n C 3 rfl rfl dX11_out_19 ?_
        refine ux_aload_n C 0 rfl rfl dX11_out_20 ?_
        refine gf_11_38 C dX11_out_21 ?_
        refine ux_aload_n C 0 rfl rfl dX11_out_24 ?_
        refine gf_11_28 C dX11_out_25 ?_
        refine gf_11_157 C (uc_4 C.2.2.2.2.2) dX11_out_28 ?_
        refine ux_iconst C (v := 1) (by decide) dX11_out_31 ?_
        refine ux_isub C dX11_out_32 ?_
        refine cs_11_277 C  (c_Figures_power hN  hw) (by decide) (by decide) (Nat.le_of_ble_eq_true rfl) dX11_out_33 (po_ip.k fun r_5 hw => ?_)
        refine ux_icmp_lt C (tgt := 42) (by decide) dX11_out_36 (fun hc_13 => ?_) (fun hc_13 => ?_)
        · replace hw := hw.1 hc_13
          refine ux_aload_n C 0 rfl rfl dX11_out_42 ?_
          refine ux_aload_n C 0 rfl rfl dX11_out_43 ?_
          refine cs_11_170 C  (c_UpAndDown_known hN  hw) (by decide) (by decide) (Nat.le_of_ble_eq_true rfl) dX11_out_44 (po_r.k fun a_8 hw => ?_)
          refine ux_iload_n C 1 rfl rfl dX11_out_47 ?_
          refine ux_iload_n C 2 rfl rfl dX11_out_48 ?_
          refine cs_11_261 C  (c_UpAndDown_behind hN  hw) (by decide) (by decide) (Nat.le_of_ble_eq_true rfl) dX11_out_49 (po_r.k fun a_10 hw => ?_)
          refine ux_aload_n C 0 rfl rfl dX11_out_52 ?_
          refine gf_11_38 C dX11_out_53 ?_
          refine ux_iload_n C 3 rfl rfl dX11_out_56 ?_
          refine cs_11_280 C  (c_Crowd_leftOut hN  hw) (by decide) (by decide) (Nat.le_of_ble_eq_true rfl) dX11_out_57 (po_ip.k fun r_11 hw => ?_)
          exact ux_iret C ⟨_, rfl, hw⟩ dX11_out_60
        · replace hw := hw.2 hc_13
          refine ux_bipush C (v := -2) (by decide) dX11_out_39 ?_
          exact ux_iret C ⟨_, rfl, hw⟩ dX11_out_41
set_option maxHeartbeats 2000000 in
set_option maxRecDepth 4000 in
theorem c_UpAndDown_best {l : Launch} {D : va_G} {G : Nat → Nat} {z N : Nat} (hN : 92 ≤ N) {a0 : ud_St} {x1 : Int32} {x2 : Int32}  {Qf : Int32 → ud_St → Prop} (hw : w_UpAndDown_best a0 x1 x2 Qf) : ud_M l D G z N yX11_best cX11_best 3 (some Jvm.ClassFile.FieldType.int) 7 [.ref (z + 0), .int x1, .int x2] a0 (po_i Qf) := by
  unfold w_UpAndDown_best at hw
  refine ud_M_of hN (by decide) (Nat.le_of_ble_eq_true rfl) ?_
  intro p e s m args below meth c C
  have C : ud_C D G z N p s m args meth c cX11_best 3 RX11 (some Jvm.ClassFile.FieldType.int) := C
  show ud_X D G z N p l e (ud_rm 7 0 0) s m args below meth c 3 0 0 (ud_Q D G z N (po_i Qf) below args s) a0 0 [(0, .ref (z + 0)), (1, .int x1), (2, .int x2)] []
  refine ux_aload_n C 0 rfl rfl dX11_best_0 ?_
  refine cs_11_147 C  (c_UpAndDown_hasTable hN  hw) (by decide) (by decide) (Nat.le_of_ble_eq_true rfl) dX11_best_1 (po_ip.k fun r_1 hw => ?_)
  refine ux_if_eq C (tgt := 26) (by decide) dX11_best_4 (fun hc_9 => ?_) (fun hc_9 => ?_)
  · replace hw := hw.1 hc_9
    refine ux_bipush C (v := -2) (by decide) dX11_best_26 ?_
    exact ux_iret C ⟨_, rfl, hw⟩ dX11_best_28
  · replace hw := hw.2 hc_9
    refine ux_iload_n C 1 rfl rfl dX11_best_7 ?_
    refine ux_iconst C (v := 1) (by decide) dX11_best_8 ?_
    refine ux_icmp_lt C (tgt := 26) (by decide) dX11_best_9 (fun hc_8 => ?_) (fun hc_8 => ?_)
    · replace hw := hw.1 hc_8
      refine ux_bipush C (v := -2) (by decide) dX11_best_26 ?_
      exact ux_iret C ⟨_, rfl, hw⟩ dX11_best_28
    · replace hw := hw.2 hc_8
      refine ux_iload_n C 1 rfl rfl dX11_best_12 ?_
      refine ux_iconst C (v := 2) (by decide) dX11_best_13 ?_
      refine ux_icmp_gt C (tgt := 26) (by decide) dX11_best_14 (fun hc_7 => ?_) (fun hc_7 => ?_)
      · replace hw := hw.1 hc_7
        refine ux_bipush C (v := -2) (by decide) dX11_best_26 ?_
        exact ux_iret C ⟨_, rfl, hw⟩ dX11_best_28
      · replace hw := hw.2 hc_7
        refine ux_iload_n C 2 rfl rfl dX11_best_17 ?_
        refine ux_if_lt C (tgt := 26) (by decide) dX11_best_18 (fun hc_6 => ?_) (fun hc_6 => ?_)
        · replace hw := hw.1 hc_6
          refine ux_bipush C (v := -2) (by decide) dX11_best_26 ?_
          exact ux_iret C ⟨_, rfl, hw⟩ dX11_best_28
        · replace hw := hw.2 hc_6
          refine ux_iload_n C 2 rfl rfl dX11_best_21 ?_
          refine ux_iconst C (v := 2) (by decide) dX11_best_22 ?_
          refine ux_icmp_le C (tgt := 29) (by decide) dX11_best_23 (fun hc_5 => ?_) (fun hc_5 => ?_)
          · replace hw := hw.1 hc_5
            refine ux_aload_n C 0 rfl rfl dX11_best_29 ?_
            refine gf_11_59 C dX11_best_30 ?_
            refine ux_aload_n C 0 rfl rfl dX11_best_33 ?_
            refine gf_11_38 C dX11_best_34 ?_
            refine ux_aload_n C 0 rfl rfl dX11_best_37 ?_
            refine gf_11_45 C dX11_best_38 ?_
            refine ux_iload_n C 1 rfl rfl dX11_best_41 ?_
            refine ux_iload_n C 2 rfl rfl dX11_best_42 ?_
            refine cs_11_300 C  (c_Contest_winner hN  hw) (by decide) (by decide) (Nat.le_of_ble_eq_true rfl) dX11_best_43 (po_i.k fun r_3 a_4 hw => ?_)
            exact ux_iret C ⟨_, rfl, hw⟩ dX11_best_46
          · replace hw := hw.2 hc_5
            refine ux_bipush C (v := -2) (by decide) dX11_best_26 ?_
            exact ux_iret C ⟨_, rfl, hw⟩ dX11_best_28
set_option maxHeartbeats 2000000 in
set_option maxRecDepth 4000 in
theorem c_UpAndDown_evening {l : Launch} {D : va_G} {G : Nat → Nat} {z N : Nat} (hN : 92 ≤ N) {a0 : ud_St} {x1 : Int32} {x2 : Int32} {x3 : Int32}  {Qf : Int32 → ud_St → Prop} (hw : w_UpAndDown_evening a0 x1 x2 x3 Qf) : ud_M l D G z N yX11_evening cX11_evening 5 (some Jvm.ClassFile.FieldType.int) 7 [.ref (z + 0), .int x1, .int x2, .int x3] a0 (po_i Qf) := by
  unfold w_UpAndDown_evening at hw
  refine ud_M_of hN (by decide) (Nat.le_of_ble_eq_true rfl) ?_
  intro p e s m args below meth c C
  have C : ud_C D G z N p s m args meth c cX11_evening 5 RX11 (some Jvm.ClassFile.FieldType.int) := C
  show ud_X D G z N p l e (ud_rm 7 0 0) s m args below meth c 5 0 0 (ud_Q D G z N (po_i Qf) below args s) a0 0 [(0, .ref (z + 0)), (1, .int x1), (2, .int x2), (3, .int x3)] []
  refine ux_aload_n C 0 rfl rfl dX11_evening_0 ?_
  refine cs_11_147 C  (c_UpAndDown_hasTable hN  hw) (by decide) (by decide) (Nat.le_of_ble_eq_true rfl) dX11_evening_1 (po_ip.k fun r_1 hw => ?_)
  refine ux_if_eq C (tgt := 38) (by decide) dX11_evening_4 (fun hc_21 => ?_) (fun hc_21 => ?_)
  · replace hw := hw.1 hc_21
    refine ux_bipush C (v := -2) (by decide) dX11_evening_38 ?_
    exact ux_iret C ⟨_, rfl, hw⟩ dX11_evening_40
  · replace hw := hw.2 hc_21
    refine ux_iload_n C 1 rfl rfl dX11_evening_7 ?_
    refine ux_if_lt C (tgt := 38) (by decide) dX11_evening_8 (fun hc_20 => ?_) (fun hc_20 => ?_)
    · replace hw := hw.1 hc_20
      refine ux_bipush C (v := -2) (by decide) dX11_evening_38 ?_
      exact ux_iret C ⟨_, rfl, hw⟩ dX11_evening_40
    · replace hw := hw.2 hc_20
      refine ux_iload_n C 1 rfl rfl dX11_evening_11 ?_
      refine ux_ldcw C (v := 2000000000) mw_1188 dX11_evening_12 ?_
      refine ux_icmp_gt C (tgt := 38) (by decide) dX11_evening_15 (fun hc_19 => ?_) (fun hc_19 => ?_)
      · replace hw := hw.1 hc_19
        refine ux_bipush C (v := -2) (by decide) dX11_evening_38 ?_
        exact ux_iret C ⟨_, rfl, hw⟩ dX11_evening_40
      · replace hw := hw.2 hc_19
        refine ux_iload_n C 2 rfl rfl dX11_evening_18 ?_
        refine ux_iconst C (v := 1) (by decide) dX11_evening_19 ?_
        refine ux_icmp_lt C (tgt := 38) (by decide) dX11_evening_20 (fun hc_18 => ?_) (fun hc_18 => ?_)
        · replace hw := hw.1 hc_18
          refine ux_bipush C (v := -2) (by decide) dX11_evening_38 ?_
          exact ux_iret C ⟨_, rfl, hw⟩ dX11_evening_40
        · replace hw := hw.2 hc_18
          refine ux_iload_n C 2 rfl rfl dX11_evening_23 ?_
          refine ux_bipush C (v := 100) (by decide) dX11_evening_24 ?_
          refine ux_icmp_gt C (tgt := 38) (by decide) dX11_evening_26 (fun hc_17 => ?_) (fun hc_17 => ?_)
          · replace hw := hw.1 hc_17
            refine ux_bipush C (v := -2) (by decide) dX11_evening_38 ?_
            exact ux_iret C ⟨_, rfl, hw⟩ dX11_evening_40
          · replace hw := hw.2 hc_17
            refine ux_iload_n C 3 rfl rfl dX11_evening_29 ?_
            refine ux_if_lt C (tgt := 38) (by decide) dX11_evening_30 (fun hc_16 => ?_) (fun hc_16 => ?_)
            · replace hw := hw.1 hc_16
              refine ux_bipush C (v := -2) (by decide) dX11_evening_38 ?_
              exact ux_iret C ⟨_, rfl, hw⟩ dX11_evening_40
            · replace hw := hw.2 hc_16
              refine ux_iload_n C 3 rfl rfl dX11_evening_33 ?_
              refine ux_iconst C (v := 2) (by decide) dX11_evening_34 ?_
              refine ux_icmp_le C (tgt := 41) (by decide) dX11_evening_35 (fun hc_15 => ?_) (fun hc_15 => ?_)
              · replace hw := hw.1 hc_15
                refine ux_aload_n C 0 rfl rfl dX11_evening_41 ?_
                refine cs_11_170 C  (c_UpAndDown_known hN  hw) (by decide) (by decide) (Nat.le_of_ble_eq_true rfl) dX11_evening_42 (po_r.k fun a_4 hw => ?_)
                refine ux_astore C (by decide) rfl dX11_evening_45 ?_
                refine ux_aload_n C 1 rfl rfl dX11_evening_47 ?_
                refine gf_11_73 C dX11_evening_48 ?_
                refine ux_iload_n C 2 rfl rfl dX11_evening_51 ?_
                refine ux_iload_n C 3 rfl rfl dX11_evening_52 ?_
                refine ux_aload_n C 1 rfl rfl dX11_evening_53 ?_
                refine gf_11_28 C dX11_evening_54 ?_
                refine gf_11_151 C (uc_4 C.2.2.2.2.2) dX11_evening_57 ?_
                refine cs_11_305 C  (c_Evening_draw hN  hw) (by decide) (by decide) (Nat.le_of_ble_eq_true rfl) dX11_evening_60 (po_v.k fun a_6 hw => ?_)
                refine ux_iload_n C 4 rfl rfl dX11_evening_63 ?_
                by_cases hx_9 : x3 = 0
                · replace hw := hw.1 hx_9
                  refine ux_lookup C (off := 28) (tgt := 92) (by decide) (by first | (rw [hx_9]; done) | (rw [hx_9]; rfl)) (by decide) dX11_evening_64 ?_
                  refine ux_aload_n C 1 rfl rfl dX11_evening_92 ?_
                  refine gf_11_73 C dX11_evening_93 ?_
                  refine ux_aload C 0 rfl dX11_evening_96 ?_
                  refine cs_11_308 C  (c_Evening_unlikeRounds hN  hw) (by decide) (by decide) (Nat.le_of_ble_eq_true rfl) dX11_evening_98 (po_ip.k fun r_7 hw => ?_)
                  exact ux_iret C ⟨_, rfl, hw⟩ dX11_evening_101
                · replace hw := hw.2 hx_9
                  by_cases hx_12 : x3 = 1
                  · replace hw := hw.1 hx_12
                    refine ux_lookup C (off := 38) (tgt := 102) (by decide) (by first | (rw [hx_12]; done) | (rw [hx_12]; rfl)) (by decide) dX11_evening_64 ?_
                    refine ux_aload_n C 1 rfl rfl dX11_evening_102 ?_
                    refine gf_11_73 C dX11_evening_103 ?_
                    refine ux_aload C 0 rfl dX11_evening_106 ?_
                    refine cs_11_312 C  (c_Evening_longestWay hN  hw) (by decide) (by decide) (Nat.le_of_ble_eq_true rfl) dX11_evening_108 (po_ip.k fun r_10 hw => ?_)
                    exact ux_iret C ⟨_, rfl, hw⟩ dX11_evening_111
                  · replace hw := hw.2 hx_12
                    have hx_9i : Int32.toInt x3 ≠ 0 := fun q => hx_9 (Int32.toInt_inj.mp (q.trans (by decide)))
                    have hx_12i : Int32.toInt x3 ≠ 1 := fun q => hx_12 (Int32.toInt_inj.mp (q.trans (by decide)))
                    refine ux_lookup C (off := 48) (tgt := 112) (by decide) (by simp [Op.lookupswitch.offset, hx_9i, Ne.symm hx_9i, hx_12i, Ne.symm hx_12i]) (by decide) dX11_evening_64 ?_
                    refine ux_aload_n C 1 rfl rfl dX11_evening_112 ?_
                    refine gf_11_73 C dX11_evening_113 ?_
                    refine ux_aload C 0 rfl dX11_evening_116 ?_
                    refine cs_11_315 C  (c_Evening_withTheFirst hN  hw) (by decide) (by decide) (Nat.le_of_ble_eq_true rfl) dX11_evening_118 (po_ip.k fun r_13 hw => ?_)
                    exact ux_iret C ⟨_, rfl, hw⟩ dX11_evening_121
              · replace hw := hw.2 hc_15
                refine ux_bipush C (v := -2) (by decide) dX11_evening_38 ?_
                exact ux_iret C ⟨_, rfl, hw⟩ dX11_evening_40
set_option maxHeartbeats 2000000 in
set_option maxRecDepth 4000 in
theorem c_Model_after {l : Launch} {D : va_G} {G : Nat → Nat} {z N : Nat} (hN : 92 ≤ N) {a0 : ud_St} {x1 : Int32} {x2 : Int32}  {Qf : Int32 → ud_St → Prop} (hw : w_Model_after a0 x1 x2 Qf) : ud_M l D G z N yX12_after cX12_after 3 (some Jvm.ClassFile.FieldType.int) 7 [.ref (z + 71), .int x1, .int x2] a0 (po_i Qf) := by
  unfold w_Model_after at hw
  refine ud_M_of hN (by decide) (Nat.le_of_ble_eq_true rfl) ?_
  intro p e s m args below meth c C
  have C : ud_C D G z N p s m args meth c cX12_after 3 RX12 (some Jvm.ClassFile.FieldType.int) := C
  show ud_X D G z N p l e (ud_rm 7 0 0) s m args below meth c 3 0 0 (ud_Q D G z N (po_i Qf) below args s) a0 0 [(0, .ref (z + 71)), (1, .int x1), (2, .int x2)] []
  refine ux_aload_n C 0 rfl rfl dX12_after_0 ?_
  refine ux_iconst C (v := 0) (by decide) dX12_after_1 ?_
  refine pf_12_77 C dX12_after_2 ?_
  refine ux_aload_n C 0 rfl rfl dX12_after_5 ?_
  refine ux_iload_n C 1 rfl rfl dX12_after_6 ?_
  refine ux_i2l C dX12_after_7 ?_
  refine cs_12_302 C  (c_Model_isNumber hN  hw) (by decide) (by decide) (Nat.le_of_ble_eq_true rfl) dX12_after_8 (po_ip.k fun r_1 hw => ?_)
  refine ux_if_eq C (tgt := 26) (by decide) dX12_after_11 (fun hc_21 => ?_) (fun hc_21 => ?_)
  · replace hw := hw.1 hc_21
    refine ux_bipush C (v := -2) (by decide) dX12_after_26 ?_
    exact ux_iret C ⟨_, rfl, hw⟩ dX12_after_28
  · replace hw := hw.2 hc_21
    refine ux_iload_n C 2 rfl rfl dX12_after_14 ?_
    refine ux_i2l C dX12_after_15 ?_
    refine ux_lconst C (v := 0) (by decide) dX12_after_16 ?_
    refine ux_ldc2 C (v := 1000000000) mw_1646 dX12_after_17 ?_
    refine cs_12_82 C  (c_Model_in hN  hw) (by decide) (by decide) (Nat.le_of_ble_eq_true rfl) dX12_after_20 (po_ip.k fun r_3 hw => ?_)
    refine ux_if_ne C (tgt := 29) (by decide) dX12_after_23 (fun hc_20 => ?_) (fun hc_20 => ?_)
    · replace hw := hw.2 hc_20
      refine ux_aload_n C 0 rfl rfl dX12_after_29 ?_
      refine cs_12_319 C  (c_Model_all hN  hw) (by decide) (by decide) (Nat.le_of_ble_eq_true rfl) dX12_after_30 (po_v.k fun a_6 hw => ?_)
      refine ux_iload_n C 2 rfl rfl dX12_after_33 ?_
      refine ux_aload_n C 0 rfl rfl dX12_after_34 ?_
      refine gf_12_59 C dX12_after_35 ?_
      refine ux_iload_n C 1 rfl rfl dX12_after_38 ?_
      obtain ⟨hi_19, hw⟩ := hw
      refine ux_iald C (uc_86 C.2.2.2.2.2) hi_19 dX12_after_39 ?_
      refine ux_icmp_gt C (tgt := 50) (by decide) dX12_after_40 (fun hc_18 => ?_) (fun hc_18 => ?_)
      · replace hw := hw.1 hc_18
        refine ux_aload_n C 0 rfl rfl dX12_after_50 ?_
        refine ux_aload_n C 0 rfl rfl dX12_after_51 ?_
        refine ux_iload_n C 1 rfl rfl dX12_after_52 ?_
        refine ux_aload_n C 0 rfl rfl dX12_after_53 ?_
        refine gf_12_59 C dX12_after_54 ?_
        refine ux_iload_n C 1 rfl rfl dX12_after_57 ?_
        obtain ⟨hi_15, hw⟩ := hw
        refine ux_iald C (uc_86 C.2.2.2.2.2) hi_15 dX12_after_58 ?_
        refine cs_12_322 C  (c_Model_behind hN  hw) (by decide) (by decide) (Nat.le_of_ble_eq_true rfl) dX12_after_59 (po_ip.k fun r_7 hw => ?_)
        refine ux_iload_n C 2 rfl rfl dX12_after_62 ?_
        refine ux_aload_n C 0 rfl rfl dX12_after_63 ?_
        refine gf_12_59 C dX12_after_64 ?_
        refine ux_iload_n C 1 rfl rfl dX12_after_67 ?_
        obtain ⟨hi_14, hw⟩ := hw
        refine ux_iald C (uc_86 C.2.2.2.2.2) hi_14 dX12_after_68 ?_
        refine ux_isub C dX12_after_69 ?_
        refine ux_aload_n C 0 rfl rfl dX12_after_70 ?_
        refine gf_12_65 C dX12_after_71 ?_
        refine ux_aload_n C 0 rfl rfl dX12_after_74 ?_
        refine gf_12_62 C dX12_after_75 ?_
        refine ux_iload_n C 1 rfl rfl dX12_after_78 ?_
        obtain ⟨hi_13, hw⟩ := hw
        refine ux_iald C (uc_87 C.2.2.2.2.2) hi_13 dX12_after_79 ?_
        obtain ⟨hi_12, hw⟩ := hw
        refine ux_iald C (uc_88 C.2.2.2.2.2) hi_12 dX12_after_80 ?_
        obtain ⟨hc_11, hw⟩ := hw
        refine ux_irem C hc_11 dX12_after_81 ?_
        refine cs_12_322 C  (c_Model_behind hN  hw) (by decide) (by decide) (Nat.le_of_ble_eq_true rfl) dX12_after_82 (po_ip.k fun r_9 hw => ?_)
        exact ux_iret C ⟨_, rfl, hw⟩ dX12_after_85
      · replace hw := hw.2 hc_18
        refine ux_aload_n C 0 rfl rfl dX12_after_43 ?_
        refine ux_iload_n C 1 rfl rfl dX12_after_44 ?_
        refine ux_iload_n C 2 rfl rfl dX12_after_45 ?_
        refine cs_12_322 C  (c_Model_behind hN  hw) (by decide) (by decide) (Nat.le_of_ble_eq_true rfl) dX12_after_46 (po_ip.k fun r_16 hw => ?_)
        exact ux_iret C ⟨_, rfl, hw⟩ dX12_after_49
    · replace hw := hw.1 hc_20
      refine ux_bipush C (v := -2) (by decide) dX12_after_26 ?_
      exact ux_iret C ⟨_, rfl, hw⟩ dX12_after_28
set_option maxHeartbeats 2000000 in
set_option maxRecDepth 4000 in
theorem c_Model_ends_ {l : Launch} {D : va_G} {G : Nat → Nat} {z N : Nat} (hN : 92 ≤ N) {a0 : ud_St} {x1 : Int32} {x2 : Int32}  {Qf : Int32 → ud_St → Prop} (hw : w_Model_ends_ a0 x1 x2 Qf) : ud_M l D G z N yX12_ends_ cX12_ends_ 3 (some Jvm.ClassFile.FieldType.int) 7 [.ref (z + 71), .int x1, .int x2] a0 (po_i Qf) := by
  unfold w_Model_ends_ at hw
  refine ud_M_of hN (by decide) (Nat.le_of_ble_eq_true rfl) ?_
  intro p e s m args below meth c C
  have C : ud_C D G z N p s m args meth c cX12_ends_ 3 RX12 (some Jvm.ClassFile.FieldType.int) := C
  show ud_X D G z N p l e (ud_rm 7 0 0) s m args below meth c 3 0 0 (ud_Q D G z N (po_i Qf) below args s) a0 0 [(0, .ref (z + 71)), (1, .int x1), (2, .int x2)] []
  refine ux_aload_n C 0 rfl rfl dX12_ends__0 ?_
  refine ux_iconst C (v := 0) (by decide) dX12_ends__1 ?_
  refine pf_12_77 C dX12_ends__2 ?_
  refine ux_aload_n C 0 rfl rfl dX12_ends__5 ?_
  refine ux_iload_n C 1 rfl rfl dX12_ends__6 ?_
  refine ux_i2l C dX12_ends__7 ?_
  refine cs_12_302 C  (c_Model_isNumber hN  hw) (by decide) (by decide) (Nat.le_of_ble_eq_true rfl) dX12_ends__8 (po_ip.k fun r_1 hw => ?_)
  refine ux_if_eq C (tgt := 26) (by decide) dX12_ends__11 (fun hc_18 => ?_) (fun hc_18 => ?_)
  · replace hw := hw.1 hc_18
    refine ux_bipush C (v := -2) (by decide) dX12_ends__26 ?_
    exact ux_iret C ⟨_, rfl, hw⟩ dX12_ends__28
  · replace hw := hw.2 hc_18
    refine ux_iload_n C 2 rfl rfl dX12_ends__14 ?_
    refine ux_i2l C dX12_ends__15 ?_
    refine ux_lconst C (v := 0) (by decide) dX12_ends__16 ?_
    refine ux_ldc2 C (v := 3) mw_1415 dX12_ends__17 ?_
    refine cs_12_82 C  (c_Model_in hN  hw) (by decide) (by decide) (Nat.le_of_ble_eq_true rfl) dX12_ends__20 (po_ip.k fun r_3 hw => ?_)
    refine ux_if_ne C (tgt := 29) (by decide) dX12_ends__23 (fun hc_17 => ?_) (fun hc_17 => ?_)
    · replace hw := hw.2 hc_17
      refine ux_aload_n C 0 rfl rfl dX12_ends__29 ?_
      refine cs_12_319 C  (c_Model_all hN  hw) (by decide) (by decide) (Nat.le_of_ble_eq_true rfl) dX12_ends__30 (po_v.k fun a_6 hw => ?_)
      refine ux_iload_n C 2 rfl rfl dX12_ends__33 ?_
      refine ux_if_ne C (tgt := 46) (by decide) dX12_ends__34 (fun hc_16 => ?_) (fun hc_16 => ?_)
      · replace hw := hw.2 hc_16
        refine ux_iload_n C 2 rfl rfl dX12_ends__46 ?_
        refine ux_iconst C (v := 1) (by decide) dX12_ends__47 ?_
        refine ux_icmp_ne C (tgt := 65) (by decide) dX12_ends__48 (fun hc_14 => ?_) (fun hc_14 => ?_)
        · replace hw := hw.2 hc_14
          refine ux_iload_n C 2 rfl rfl dX12_ends__65 ?_
          refine ux_iconst C (v := 2) (by decide) dX12_ends__66 ?_
          refine ux_icmp_ne C (tgt := 79) (by decide) dX12_ends__67 (fun hc_11 => ?_) (fun hc_11 => ?_)
          · replace hw := hw.2 hc_11
            refine ux_aload_n C 0 rfl rfl dX12_ends__79 ?_
            refine ux_iload_n C 1 rfl rfl dX12_ends__80 ?_
            refine ux_aload_n C 0 rfl rfl dX12_ends__81 ?_
            refine gf_12_59 C dX12_ends__82 ?_
            refine ux_iload_n C 1 rfl rfl dX12_ends__85 ?_
            obtain ⟨hi_9, hw⟩ := hw
            refine ux_iald C (uc_86 C.2.2.2.2.2) hi_9 dX12_ends__86 ?_
            refine cs_12_322 C  (c_Model_behind hN  hw) (by decide) (by decide) (Nat.le_of_ble_eq_true rfl) dX12_ends__87 (po_ip.k fun r_7 hw => ?_)
            exact ux_iret C ⟨_, rfl, hw⟩ dX12_ends__90
          · replace hw := hw.1 hc_11
            refine ux_aload_n C 0 rfl rfl dX12_ends__70 ?_
            refine gf_12_62 C dX12_ends__71 ?_
            refine ux_iload_n C 1 rfl rfl dX12_ends__74 ?_
            obtain ⟨hi_10, hw⟩ := hw
            refine ux_iald C (uc_87 C.2.2.2.2.2) hi_10 dX12_ends__75 ?_
            refine ux_goto C (tgt := 90) (by decide) dX12_ends__76 ?_
            exact ux_iret C ⟨_, rfl, hw⟩ dX12_ends__90
        · replace hw := hw.1 hc_14
          refine ux_aload_n C 0 rfl rfl dX12_ends__51 ?_
          refine gf_12_65 C dX12_ends__52 ?_
          refine ux_aload_n C 0 rfl rfl dX12_ends__55 ?_
          refine gf_12_62 C dX12_ends__56 ?_
          refine ux_iload_n C 1 rfl rfl dX12_ends__59 ?_
          obtain ⟨hi_13, hw⟩ := hw
          refine ux_iald C (uc_87 C.2.2.2.2.2) hi_13 dX12_ends__60 ?_
          obtain ⟨hi_12, hw⟩ := hw
          refine ux_iald C (uc_88 C.2.2.2.2.2) hi_12 dX12_ends__61 ?_
          refine ux_goto C (tgt := 90) (by decide) dX12_ends__62 ?_
          exact ux_iret C ⟨_, rfl, hw⟩ dX12_ends__90
      · replace hw := hw.1 hc_16
        refine ux_aload_n C 0 rfl rfl dX12_ends__37 ?_
        refine gf_12_59 C dX12_ends__38 ?_
        refine ux_iload_n C 1 rfl rfl dX12_ends__41 ?_
        obtain ⟨hi_15, hw⟩ := hw
        refine ux_iald C (uc_86 C.2.2.2.2.2) hi_15 dX12_ends__42 ?_
        refine ux_goto C (tgt := 90) (by decide) dX12_ends__43 ?_
        exact ux_iret C ⟨_, rfl, hw⟩ dX12_ends__90
    · replace hw := hw.1 hc_17
      refine ux_bipush C (v := -2) (by decide) dX12_ends__26 ?_
      exact ux_iret C ⟨_, rfl, hw⟩ dX12_ends__28
set_option maxHeartbeats 2000000 in
set_option maxRecDepth 4000 in
theorem c_Model_rounds {l : Launch} {D : va_G} {G : Nat → Nat} {z N : Nat} (hN : 92 ≤ N) {a0 : ud_St} {x1 : Int32}  {Qf : Int32 → ud_St → Prop} (hw : w_Model_rounds a0 x1 Qf) : ud_M l D G z N yX12_rounds cX12_rounds 4 (some Jvm.ClassFile.FieldType.int) 7 [.ref (z + 71), .int x1] a0 (po_i Qf) := by
  unfold w_Model_rounds at hw
  refine ud_M_of hN (by decide) (Nat.le_of_ble_eq_true rfl) ?_
  intro p e s m args below meth c C
  have C : ud_C D G z N p s m args meth c cX12_rounds 4 RX12 (some Jvm.ClassFile.FieldType.int) := C
  show ud_X D G z N p l e (ud_rm 7 0 0) s m args below meth c 4 0 0 (ud_Q D G z N (po_i Qf) below args s) a0 0 [(0, .ref (z + 71)), (1, .int x1)] []
  refine ux_aload_n C 0 rfl rfl dX12_rounds_0 ?_
  refine ux_iconst C (v := 0) (by decide) dX12_rounds_1 ?_
  refine pf_12_77 C dX12_rounds_2 ?_
  refine ux_aload_n C 0 rfl rfl dX12_rounds_5 ?_
  refine cs_12_299 C  (c_Model_isTable hN  hw) (by decide) (by decide) (Nat.le_of_ble_eq_true rfl) dX12_rounds_6 (po_ip.k fun r_1 hw => ?_)
  refine ux_if_eq C (tgt := 24) (by decide) dX12_rounds_9 (fun hc_26 => ?_) (fun hc_26 => ?_)
  · replace hw := hw.1 hc_26
    refine ux_bipush C (v := -2) (by decide) dX12_rounds_24 ?_
    exact ux_iret C ⟨_, rfl, hw⟩ dX12_rounds_26
  · replace hw := hw.2 hc_26
    refine ux_iload_n C 1 rfl rfl dX12_rounds_12 ?_
    refine ux_i2l C dX12_rounds_13 ?_
    refine ux_lconst C (v := 0) (by decide) dX12_rounds_14 ?_
    refine ux_ldc2 C (v := 3) mw_1415 dX12_rounds_15 ?_
    refine cs_12_82 C  (c_Model_in hN  hw) (by decide) (by decide) (Nat.le_of_ble_eq_true rfl) dX12_rounds_18 (po_ip.k fun r_3 hw => ?_)
    refine ux_if_ne C (tgt := 27) (by decide) dX12_rounds_21 (fun hc_25 => ?_) (fun hc_25 => ?_)
    · replace hw := hw.2 hc_25
      refine ux_aload_n C 0 rfl rfl dX12_rounds_27 ?_
      refine cs_12_319 C  (c_Model_all hN  hw) (by decide) (by decide) (Nat.le_of_ble_eq_true rfl) dX12_rounds_28 (po_v.k fun a_6 hw => ?_)
      refine ux_iload_n C 1 rfl rfl dX12_rounds_31 ?_
      refine ux_if_ne C (tgt := 40) (by decide) dX12_rounds_32 (fun hc_24 => ?_) (fun hc_24 => ?_)
      · replace hw := hw.2 hc_24
        refine ux_iload_n C 1 rfl rfl dX12_rounds_40 ?_
        refine ux_iconst C (v := 2) (by decide) dX12_rounds_41 ?_
        refine ux_icmp_lt C (tgt := 67) (by decide) dX12_rounds_42 (fun hc_21 => ?_) (fun hc_21 => ?_)
        · replace hw := hw.1 hc_21
          refine ux_iconst C (v := 0) (by decide) dX12_rounds_67 ?_
          refine ux_istore_n C rfl (by decide) rfl dX12_rounds_68 ?_
          refine ux_iconst C (v := 0) (by decide) dX12_rounds_69 ?_
          refine ux_istore_n C rfl (by decide) rfl dX12_rounds_70 ?_
          refine ux_pick [2, 1, 0] rfl ?_
          refine LW2.elim (P := fun (x2_9 : Int32) (x3_10 : Int32) => ud_X D G z N p l e (ud_rm 7 0 0) s m args below meth c 4 0 0 (ud_Q D G z N (po_i Qf) below args s) a_6 71 [(0, .ref (z + 71)), (2, .int x2_9), (3, .int x3_10)] []) hw ?_
          intro x2_9 x3_10 K_7 hw ih_8
          refine ux_iload_n C 2 rfl rfl dX12_rounds_71 ?_
          refine ux_aload_n C 0 rfl rfl dX12_rounds_72 ?_
          refine gf_12_34 C dX12_rounds_73 ?_
          refine ux_iconst C (v := 2) (by decide) dX12_rounds_76 ?_
          obtain ⟨hi_14, hw⟩ := hw
          refine ux_iald C (uc_78 C.2.2.2.2.2) hi_14 dX12_rounds_77 ?_
          refine ux_icmp_ge C (tgt := 105) (by decide) dX12_rounds_78 (fun hc_13 => ?_) (fun hc_13 => ?_)
          · replace hw := hw.1 hc_13
            refine ux_iload_n C 1 rfl rfl dX12_rounds_105 ?_
            exact ux_iret C ⟨_, rfl, hw⟩ dX12_rounds_106
          · replace hw := hw.2 hc_13
            refine ux_iload_n C 1 rfl rfl dX12_rounds_81 ?_
            refine ux_aload_n C 0 rfl rfl dX12_rounds_82 ?_
            refine gf_12_56 C dX12_rounds_83 ?_
            refine ux_iload_n C 2 rfl rfl dX12_rounds_86 ?_
            obtain ⟨hi_12, hw⟩ := hw
            refine ux_iald C (uc_85 C.2.2.2.2.2) hi_12 dX12_rounds_87 ?_
            refine ux_iload_n C 2 rfl rfl dX12_rounds_88 ?_
            refine ux_icmp_ne C (tgt := 96) (by decide) dX12_rounds_89 (fun hc_11 => ?_) (fun hc_11 => ?_)
            · replace hw := hw.2 hc_11
              refine ux_iconst C (v := 0) (by decide) dX12_rounds_96 ?_
              refine ux_iadd C dX12_rounds_97 ?_
              refine ux_istore_n C rfl (by decide) rfl dX12_rounds_98 ?_
              refine ux_iinc C 2 rfl rfl (by decide) rfl dX12_rounds_99 ?_
              refine ux_goto C (tgt := 71) (by decide) dX12_rounds_102 ?_
              exact ux_pick [2, 1, 0] rfl (ih_8 _ _ hw)
            · replace hw := hw.1 hc_11
              refine ux_iconst C (v := 1) (by decide) dX12_rounds_92 ?_
              refine ux_goto C (tgt := 97) (by decide) dX12_rounds_93 ?_
              refine ux_iadd C dX12_rounds_97 ?_
              refine ux_istore_n C rfl (by decide) rfl dX12_rounds_98 ?_
              refine ux_iinc C 2 rfl rfl (by decide) rfl dX12_rounds_99 ?_
              refine ux_goto C (tgt := 71) (by decide) dX12_rounds_102 ?_
              exact ux_pick [2, 1, 0] rfl (ih_8 _ _ hw)
        · replace hw := hw.2 hc_21
          refine ux_iload_n C 1 rfl rfl dX12_rounds_45 ?_
          refine ux_iconst C (v := 2) (by decide) dX12_rounds_46 ?_
          refine ux_icmp_ne C (tgt := 62) (by decide) dX12_rounds_47 (fun hc_20 => ?_) (fun hc_20 => ?_)
          · replace hw := hw.2 hc_20
            refine ux_aload_n C 0 rfl rfl dX12_rounds_62 ?_
            refine cs_12_331 C  (c_Model_longest hN  hw) (by decide) (by decide) (Nat.le_of_ble_eq_true rfl) dX12_rounds_63 (po_ip.k fun r_15 hw => ?_)
            exact ux_iret C ⟨_, rfl, hw⟩ dX12_rounds_66
          · replace hw := hw.1 hc_20
            refine ux_aload_n C 0 rfl rfl dX12_rounds_50 ?_
            refine gf_12_65 C dX12_rounds_51 ?_
            refine ux_aload_n C 0 rfl rfl dX12_rounds_54 ?_
            refine cs_12_331 C  (c_Model_longest hN  hw) (by decide) (by decide) (Nat.le_of_ble_eq_true rfl) dX12_rounds_55 (po_ip.k fun r_17 hw => ?_)
            obtain ⟨hi_19, hw⟩ := hw
            refine ux_iald C (uc_88 C.2.2.2.2.2) hi_19 dX12_rounds_58 ?_
            refine ux_goto C (tgt := 66) (by decide) dX12_rounds_59 ?_
            exact ux_iret C ⟨_, rfl, hw⟩ dX12_rounds_66
      · replace hw := hw.1 hc_24
        refine ux_aload_n C 0 rfl rfl dX12_rounds_35 ?_
        refine cs_12_328 C  (c_Model_manyRounds hN  hw) (by decide) (by decide) (Nat.le_of_ble_eq_true rfl) dX12_rounds_36 (po_ip.k fun r_22 hw => ?_)
        exact ux_iret C ⟨_, rfl, hw⟩ dX12_rounds_39
    · replace hw := hw.1 hc_25
      refine ux_bipush C (v := -2) (by decide) dX12_rounds_24 ?_
      exact ux_iret C ⟨_, rfl, hw⟩ dX12_rounds_26
set_option maxHeartbeats 2000000 in
set_option maxRecDepth 4000 in
theorem c_Model_round {l : Launch} {D : va_G} {G : Nat → Nat} {z N : Nat} (hN : 92 ≤ N) {a0 : ud_St} {x1 : Int32} {x2 : Int32}  {Qf : Int32 → ud_St → Prop} (hw : w_Model_round a0 x1 x2 Qf) : ud_M l D G z N yX12_round cX12_round 7 (some Jvm.ClassFile.FieldType.int) 7 [.ref (z + 71), .int x1, .int x2] a0 (po_i Qf) := by
  unfold w_Model_round at hw
  refine ud_M_of hN (by decide) (Nat.le_of_ble_eq_true rfl) ?_
  intro p e s m args below meth c C
  have C : ud_C D G z N p s m args meth c cX12_round 7 RX12 (some Jvm.ClassFile.FieldType.int) := C
  show ud_X D G z N p l e (ud_rm 7 0 0) s m args below meth c 7 0 0 (ud_Q D G z N (po_i Qf) below args s) a0 0 [(0, .ref (z + 71)), (1, .int x1), (2, .int x2)] []
  refine ux_aload_n C 0 rfl rfl dX12_round_0 ?_
  refine ux_iconst C (v := 0) (by decide) dX12_round_1 ?_
  refine pf_12_77 C dX12_round_2 ?_
  refine ux_aload_n C 0 rfl rfl dX12_round_5 ?_
  refine cs_12_299 C  (c_Model_isTable hN  hw) (by decide) (by decide) (Nat.le_of_ble_eq_true rfl) dX12_round_6 (po_ip.k fun r_1 hw => ?_)
  refine ux_if_eq C (tgt := 24) (by decide) dX12_round_9 (fun hc_27 => ?_) (fun hc_27 => ?_)
  · replace hw := hw.1 hc_27
    refine ux_bipush C (v := -2) (by decide) dX12_round_24 ?_
    exact ux_iret C ⟨_, rfl, hw⟩ dX12_round_26
  · replace hw := hw.2 hc_27
    refine ux_iload_n C 2 rfl rfl dX12_round_12 ?_
    refine ux_i2l C dX12_round_13 ?_
    refine ux_lconst C (v := 0) (by decide) dX12_round_14 ?_
    refine ux_ldc2 C (v := 3) mw_1415 dX12_round_15 ?_
    refine cs_12_82 C  (c_Model_in hN  hw) (by decide) (by decide) (Nat.le_of_ble_eq_true rfl) dX12_round_18 (po_ip.k fun r_3 hw => ?_)
    refine ux_if_ne C (tgt := 27) (by decide) dX12_round_21 (fun hc_26 => ?_) (fun hc_26 => ?_)
    · replace hw := hw.2 hc_26
      refine ux_aload_n C 0 rfl rfl dX12_round_27 ?_
      refine cs_12_319 C  (c_Model_all hN  hw) (by decide) (by decide) (Nat.le_of_ble_eq_true rfl) dX12_round_28 (po_v.k fun a_6 hw => ?_)
      refine ux_aload_n C 0 rfl rfl dX12_round_31 ?_
      refine ux_iload_n C 1 rfl rfl dX12_round_32 ?_
      refine cs_12_334 C  (c_Model_homeOf hN  hw) (by decide) (by decide) (Nat.le_of_ble_eq_true rfl) dX12_round_33 (po_ip.k fun r_7 hw => ?_)
      refine ux_istore_n C rfl (by decide) rfl dX12_round_36 ?_
      refine ux_iload_n C 0 rfl rfl dX12_round_37 ?_
      refine ux_iconst C (v := -1) (by decide) dX12_round_38 ?_
      refine ux_icmp_eq C (tgt := 46) (by decide) dX12_round_39 (fun hc_25 => ?_) (fun hc_25 => ?_)
      · replace hw := hw.1 hc_25
        refine ux_iload_n C 0 rfl rfl dX12_round_46 ?_
        exact ux_iret C ⟨_, rfl, hw⟩ dX12_round_47
      · replace hw := hw.2 hc_25
        refine ux_iload_n C 3 rfl rfl dX12_round_42 ?_
        refine ux_if_ne C (tgt := 48) (by decide) dX12_round_43 (fun hc_24 => ?_) (fun hc_24 => ?_)
        · replace hw := hw.2 hc_24
          refine ux_iload_n C 3 rfl rfl dX12_round_48 ?_
          refine ux_iconst C (v := 1) (by decide) dX12_round_49 ?_
          refine ux_icmp_ne C (tgt := 60) (by decide) dX12_round_50 (fun hc_23 => ?_) (fun hc_23 => ?_)
          · replace hw := hw.2 hc_23
            refine ux_iconst C (v := 0) (by decide) dX12_round_60 ?_
            refine ux_istore C (by decide) rfl dX12_round_61 ?_
            refine ux_iconst C (v := 0) (by decide) dX12_round_63 ?_
            refine ux_istore C (by decide) rfl dX12_round_64 ?_
            refine ux_iconst C (v := 0) (by decide) dX12_round_66 ?_
            refine ux_istore C (by decide) rfl dX12_round_67 ?_
            refine ux_pick [4, 6, 3, 2, 1, 0] rfl ?_
            refine LW3.elim (P := fun (x4_11 : Int32) (x5_12 : Int32) (x6_13 : Int32) => ud_X D G z N p l e (ud_rm 7 0 0) s m args below meth c 7 0 0 (ud_Q D G z N (po_i Qf) below args s) a_6 69 [(0, .ref (z + 71)), (2, .int x2), (3, .int r_7), (4, .int x4_11), (5, .int x5_12), (6, .int x6_13)] []) hw ?_
            intro x4_11 x5_12 x6_13 K_9 hw ih_10
            refine ux_iload C 5 rfl dX12_round_69 ?_
            refine ux_aload_n C 0 rfl rfl dX12_round_71 ?_
            refine gf_12_34 C dX12_round_72 ?_
            refine ux_iconst C (v := 2) (by decide) dX12_round_75 ?_
            obtain ⟨hi_21, hw⟩ := hw
            refine ux_iald C (uc_78 C.2.2.2.2.2) hi_21 dX12_round_76 ?_
            refine ux_icmp_ge C (tgt := 129) (by decide) dX12_round_77 (fun hc_20 => ?_) (fun hc_20 => ?_)
            · replace hw := hw.1 hc_20
              refine ux_iload_n C 1 rfl rfl dX12_round_129 ?_
              refine ux_iconst C (v := 2) (by decide) dX12_round_130 ?_
              refine ux_icmp_ne C (tgt := 139) (by decide) dX12_round_131 (fun hc_14 => ?_) (fun hc_14 => ?_)
              · replace hw := hw.2 hc_14
                refine ux_iload C 4 rfl dX12_round_139 ?_
                exact ux_iret C ⟨_, rfl, hw⟩ dX12_round_141
              · replace hw := hw.1 hc_14
                refine ux_iload C 3 rfl dX12_round_134 ?_
                refine ux_goto C (tgt := 141) (by decide) dX12_round_136 ?_
                exact ux_iret C ⟨_, rfl, hw⟩ dX12_round_141
            · replace hw := hw.2 hc_20
              refine ux_aload_n C 0 rfl rfl dX12_round_80 ?_
              refine gf_12_62 C dX12_round_81 ?_
              refine ux_iload C 5 rfl dX12_round_84 ?_
              obtain ⟨hi_19, hw⟩ := hw
              refine ux_iald C (uc_87 C.2.2.2.2.2) hi_19 dX12_round_86 ?_
              refine ux_iload_n C 2 rfl rfl dX12_round_87 ?_
              refine ux_icmp_eq C (tgt := 94) (by decide) dX12_round_88 (fun hc_18 => ?_) (fun hc_18 => ?_)
              · replace hw := hw.1 hc_18
                refine ux_iinc C 3 rfl rfl (by decide) rfl dX12_round_94 ?_
                refine ux_aload_n C 1 rfl rfl dX12_round_97 ?_
                refine gf_12_59 C dX12_round_98 ?_
                refine ux_iload C 5 rfl dX12_round_101 ?_
                obtain ⟨hi_17, hw⟩ := hw
                refine ux_iald C (uc_86 C.2.2.2.2.2) hi_17 dX12_round_103 ?_
                refine ux_iload C 4 rfl dX12_round_104 ?_
                refine ux_icmp_le C (tgt := 119) (by decide) dX12_round_106 (fun hc_16 => ?_) (fun hc_16 => ?_)
                · replace hw := hw.1 hc_16
                  refine ux_iload C 4 rfl dX12_round_119 ?_
                  refine ux_istore C (by decide) rfl dX12_round_121 ?_
                  refine ux_iinc C 5 rfl rfl (by decide) rfl dX12_round_123 ?_
                  refine ux_goto C (tgt := 69) (by decide) dX12_round_126 ?_
                  exact ux_pick [3, 4, 5, 2, 1, 0] rfl (ih_10 _ _ _ hw)
                · replace hw := hw.2 hc_16
                  refine ux_aload_n C 1 rfl rfl dX12_round_109 ?_
                  refine gf_12_59 C dX12_round_110 ?_
                  refine ux_iload C 5 rfl dX12_round_113 ?_
                  obtain ⟨hi_15, hw⟩ := hw
                  refine ux_iald C (uc_86 C.2.2.2.2.2) hi_15 dX12_round_115 ?_
                  refine ux_goto C (tgt := 121) (by decide) dX12_round_116 ?_
                  refine ux_istore C (by decide) rfl dX12_round_121 ?_
                  refine ux_iinc C 5 rfl rfl (by decide) rfl dX12_round_123 ?_
                  refine ux_goto C (tgt := 69) (by decide) dX12_round_126 ?_
                  exact ux_pick [3, 4, 5, 2, 1, 0] rfl (ih_10 _ _ _ hw)
              · replace hw := hw.2 hc_18
                refine ux_goto C (tgt := 123) (by decide) dX12_round_91 ?_
                refine ux_iinc C 5 rfl rfl (by decide) rfl dX12_round_123 ?_
                refine ux_goto C (tgt := 69) (by decide) dX12_round_126 ?_
                exact ux_pick [1, 2, 3, 4, 5, 0] rfl (ih_10 _ _ _ hw)
          · replace hw := hw.1 hc_23
            refine ux_aload_n C 1 rfl rfl dX12_round_53 ?_
            refine gf_12_65 C dX12_round_54 ?_
            refine ux_iload_n C 0 rfl rfl dX12_round_57 ?_
            obtain ⟨hi_22, hw⟩ := hw
            refine ux_iald C (uc_88 C.2.2.2.2.2) hi_22 dX12_round_58 ?_
            exact ux_iret C ⟨_, rfl, hw⟩ dX12_round_59
        · replace hw := hw.1 hc_24
          refine ux_iload_n C 0 rfl rfl dX12_round_46 ?_
          exact ux_iret C ⟨_, rfl, hw⟩ dX12_round_47
    · replace hw := hw.1 hc_26
      refine ux_bipush C (v := -2) (by decide) dX12_round_24 ?_
      exact ux_iret C ⟨_, rfl, hw⟩ dX12_round_26
set_option maxHeartbeats 2000000 in
set_option maxRecDepth 4000 in
theorem c_Model_on {l : Launch} {D : va_G} {G : Nat → Nat} {z N : Nat} (hN : 92 ≤ N) {a0 : ud_St} {x1 : Int32} {x2 : Int32}  {Qf : Int32 → ud_St → Prop} (hw : w_Model_on a0 x1 x2 Qf) : ud_M l D G z N yX12_on cX12_on 4 (some Jvm.ClassFile.FieldType.int) 7 [.ref (z + 71), .int x1, .int x2] a0 (po_i Qf) := by
  unfold w_Model_on at hw
  refine ud_M_of hN (by decide) (Nat.le_of_ble_eq_true rfl) ?_
  intro p e s m args below meth c C
  have C : ud_C D G z N p s m args meth c cX12_on 4 RX12 (some Jvm.ClassFile.FieldType.int) := C
  show ud_X D G z N p l e (ud_rm 7 0 0) s m args below meth c 4 0 0 (ud_Q D G z N (po_i Qf) below args s) a0 0 [(0, .ref (z + 71)), (1, .int x1), (2, .int x2)] []
  refine ux_aload_n C 0 rfl rfl dX12_on_0 ?_
  refine ux_iconst C (v := 0) (by decide) dX12_on_1 ?_
  refine pf_12_77 C dX12_on_2 ?_
  refine ux_aload_n C 0 rfl rfl dX12_on_5 ?_
  refine cs_12_299 C  (c_Model_isTable hN  hw) (by decide) (by decide) (Nat.le_of_ble_eq_true rfl) dX12_on_6 (po_ip.k fun r_1 hw => ?_)
  refine ux_if_ne C (tgt := 15) (by decide) dX12_on_9 (fun hc_14 => ?_) (fun hc_14 => ?_)
  · replace hw := hw.2 hc_14
    refine ux_aload_n C 0 rfl rfl dX12_on_15 ?_
    refine cs_12_319 C  (c_Model_all hN  hw) (by decide) (by decide) (Nat.le_of_ble_eq_true rfl) dX12_on_16 (po_v.k fun a_4 hw => ?_)
    refine ux_aload_n C 0 rfl rfl dX12_on_19 ?_
    refine ux_iload_n C 1 rfl rfl dX12_on_20 ?_
    refine cs_12_334 C  (c_Model_homeOf hN  hw) (by decide) (by decide) (Nat.le_of_ble_eq_true rfl) dX12_on_21 (po_ip.k fun r_5 hw => ?_)
    refine ux_istore_n C rfl (by decide) rfl dX12_on_24 ?_
    refine ux_iload_n C 0 rfl rfl dX12_on_25 ?_
    refine ux_iconst C (v := -1) (by decide) dX12_on_26 ?_
    refine ux_icmp_eq C (tgt := 48) (by decide) dX12_on_27 (fun hc_13 => ?_) (fun hc_13 => ?_)
    · replace hw := hw.1 hc_13
      refine ux_iconst C (v := -1) (by decide) dX12_on_48 ?_
      refine ux_goto C (tgt := 58) (by decide) dX12_on_49 ?_
      exact ux_iret C ⟨_, rfl, hw⟩ dX12_on_58
    · replace hw := hw.2 hc_13
      refine ux_iload_n C 3 rfl rfl dX12_on_30 ?_
      refine ux_i2l C dX12_on_31 ?_
      refine ux_lconst C (v := 0) (by decide) dX12_on_32 ?_
      refine ux_aload_n C 1 rfl rfl dX12_on_33 ?_
      refine gf_12_65 C dX12_on_34 ?_
      refine ux_iload_n C 0 rfl rfl dX12_on_37 ?_
      obtain ⟨hi_12, hw⟩ := hw
      refine ux_iald C (uc_88 C.2.2.2.2.2) hi_12 dX12_on_38 ?_
      refine ux_iconst C (v := 1) (by decide) dX12_on_39 ?_
      refine ux_isub C dX12_on_40 ?_
      refine ux_i2l C dX12_on_41 ?_
      refine cs_12_82 C  (c_Model_in hN  hw) (by decide) (by decide) (Nat.le_of_ble_eq_true rfl) dX12_on_42 (po_ip.k fun r_7 hw => ?_)
      refine ux_if_ne C (tgt := 52) (by decide) dX12_on_45 (fun hc_11 => ?_) (fun hc_11 => ?_)
      · replace hw := hw.2 hc_11
        refine ux_aload_n C 1 rfl rfl dX12_on_52 ?_
        refine ux_iload_n C 0 rfl rfl dX12_on_53 ?_
        refine ux_iload_n C 3 rfl rfl dX12_on_54 ?_
        refine cs_12_322 C  (c_Model_behind hN  hw) (by decide) (by decide) (Nat.le_of_ble_eq_true rfl) dX12_on_55 (po_ip.k fun r_9 hw => ?_)
        exact ux_iret C ⟨_, rfl, hw⟩ dX12_on_58
      · replace hw := hw.1 hc_11
        refine ux_iconst C (v := -1) (by decide) dX12_on_48 ?_
        refine ux_goto C (tgt := 58) (by decide) dX12_on_49 ?_
        exact ux_iret C ⟨_, rfl, hw⟩ dX12_on_58
  · replace hw := hw.1 hc_14
    refine ux_bipush C (v := -2) (by decide) dX12_on_12 ?_
    exact ux_iret C ⟨_, rfl, hw⟩ dX12_on_14
set_option maxHeartbeats 2000000 in
set_option maxRecDepth 4000 in
theorem c_Model_most {l : Launch} {D : va_G} {G : Nat → Nat} {z N : Nat} (hN : 92 ≤ N) {a0 : ud_St} {x1 : Int32}  {Qf : Int32 → ud_St → Prop} (hw : w_Model_most a0 x1 Qf) : ud_M l D G z N yX12_most cX12_most 4 (some Jvm.ClassFile.FieldType.int) 7 [.ref (z + 71), .int x1] a0 (po_i Qf) := by
  unfold w_Model_most at hw
  refine ud_M_of hN (by decide) (Nat.le_of_ble_eq_true rfl) ?_
  intro p e s m args below meth c C
  have C : ud_C D G z N p s m args meth c cX12_most 4 RX12 (some Jvm.ClassFile.FieldType.int) := C
  show ud_X D G z N p l e (ud_rm 7 0 0) s m args below meth c 4 0 0 (ud_Q D G z N (po_i Qf) below args s) a0 0 [(0, .ref (z + 71)), (1, .int x1)] []
  refine ux_aload_n C 0 rfl rfl dX12_most_0 ?_
  refine ux_iconst C (v := 0) (by decide) dX12_most_1 ?_
  refine pf_12_77 C dX12_most_2 ?_
  refine ux_aload_n C 0 rfl rfl dX12_most_5 ?_
  refine cs_12_299 C  (c_Model_isTable hN  hw) (by decide) (by decide) (Nat.le_of_ble_eq_true rfl) dX12_most_6 (po_ip.k fun r_1 hw => ?_)
  refine ux_if_eq C (tgt := 24) (by decide) dX12_most_9 (fun hc_19 => ?_) (fun hc_19 => ?_)
  · replace hw := hw.1 hc_19
    refine ux_bipush C (v := -2) (by decide) dX12_most_24 ?_
    exact ux_iret C ⟨_, rfl, hw⟩ dX12_most_26
  · replace hw := hw.2 hc_19
    refine ux_iload_n C 1 rfl rfl dX12_most_12 ?_
    refine ux_i2l C dX12_most_13 ?_
    refine ux_lconst C (v := 0) (by decide) dX12_most_14 ?_
    refine ux_ldc2 C (v := 2) mw_1707 dX12_most_15 ?_
    refine cs_12_82 C  (c_Model_in hN  hw) (by decide) (by decide) (Nat.le_of_ble_eq_true rfl) dX12_most_18 (po_ip.k fun r_3 hw => ?_)
    refine ux_if_ne C (tgt := 27) (by decide) dX12_most_21 (fun hc_18 => ?_) (fun hc_18 => ?_)
    · replace hw := hw.2 hc_18
      refine ux_aload_n C 0 rfl rfl dX12_most_27 ?_
      refine cs_12_319 C  (c_Model_all hN  hw) (by decide) (by decide) (Nat.le_of_ble_eq_true rfl) dX12_most_28 (po_v.k fun a_6 hw => ?_)
      refine ux_aload_n C 0 rfl rfl dX12_most_31 ?_
      refine cs_12_339 C  (c_Model_mostTail hN  hw) (by decide) (by decide) (Nat.le_of_ble_eq_true rfl) dX12_most_32 (po_ip.k fun r_7 hw => ?_)
      refine ux_istore_n C rfl (by decide) rfl dX12_most_35 ?_
      refine ux_iload_n C 2 rfl rfl dX12_most_36 ?_
      refine ux_iconst C (v := 1) (by decide) dX12_most_37 ?_
      refine ux_icmp_eq C (tgt := 55) (by decide) dX12_most_38 (fun hc_17 => ?_) (fun hc_17 => ?_)
      · replace hw := hw.1 hc_17
        refine ux_iconst C (v := 0) (by decide) dX12_most_55 ?_
        refine ux_istore_n C rfl (by decide) rfl dX12_most_56 ?_
        refine ux_pick [2, 1, 0] rfl ?_
        refine LW1.elim (P := fun (x3_11 : Int32) => ud_X D G z N p l e (ud_rm 7 0 0) s m args below meth c 4 0 0 (ud_Q D G z N (po_i Qf) below args s) a_6 57 [(0, .ref (z + 71)), (2, .int r_7), (3, .int x3_11)] []) hw ?_
        intro x3_11 K_9 hw ih_10
        refine ux_aload_n C 0 rfl rfl dX12_most_57 ?_
        refine gf_12_59 C dX12_most_58 ?_
        refine ux_iload_n C 2 rfl rfl dX12_most_61 ?_
        obtain ⟨hi_13, hw⟩ := hw
        refine ux_iald C (uc_86 C.2.2.2.2.2) hi_13 dX12_most_62 ?_
        refine ux_iload_n C 1 rfl rfl dX12_most_63 ?_
        refine ux_icmp_eq C (tgt := 73) (by decide) dX12_most_64 (fun hc_12 => ?_) (fun hc_12 => ?_)
        · replace hw := hw.1 hc_12
          refine ux_iload_n C 2 rfl rfl dX12_most_73 ?_
          exact ux_iret C ⟨_, rfl, hw⟩ dX12_most_74
        · replace hw := hw.2 hc_12
          refine ux_iinc C 2 rfl rfl (by decide) rfl dX12_most_67 ?_
          refine ux_goto C (tgt := 57) (by decide) dX12_most_70 ?_
          exact ux_pick [1, 2, 0] rfl (ih_10 _ hw)
      · replace hw := hw.2 hc_17
        refine ux_iload_n C 2 rfl rfl dX12_most_41 ?_
        refine ux_if_ne C (tgt := 49) (by decide) dX12_most_42 (fun hc_16 => ?_) (fun hc_16 => ?_)
        · replace hw := hw.2 hc_16
          refine ux_aload_n C 1 rfl rfl dX12_most_49 ?_
          refine ux_iload_n C 0 rfl rfl dX12_most_50 ?_
          refine cs_12_342 C  (c_Model_manyOf hN  hw) (by decide) (by decide) (Nat.le_of_ble_eq_true rfl) dX12_most_51 (po_ip.k fun r_14 hw => ?_)
          exact ux_iret C ⟨_, rfl, hw⟩ dX12_most_54
        · replace hw := hw.1 hc_16
          refine ux_iload_n C 0 rfl rfl dX12_most_45 ?_
          refine ux_goto C (tgt := 54) (by decide) dX12_most_46 ?_
          exact ux_iret C ⟨_, rfl, hw⟩ dX12_most_54
    · replace hw := hw.1 hc_18
      refine ux_bipush C (v := -2) (by decide) dX12_most_24 ?_
      exact ux_iret C ⟨_, rfl, hw⟩ dX12_most_26
set_option maxHeartbeats 2000000 in
set_option maxRecDepth 4000 in
theorem c_Model_take {l : Launch} {D : va_G} {G : Nat → Nat} {z N : Nat} (hN : 92 ≤ N) {a0 : ud_St} {x1 : Int32}  {Qf : Int32 → ud_St → Prop} (hw : w_Model_take a0 x1 Qf) : ud_M l D G z N yX12_take cX12_take 2 (some Jvm.ClassFile.FieldType.int) 7 [.ref (z + 71), .int x1] a0 (po_i Qf) := by
  unfold w_Model_take at hw
  refine ud_M_of hN (by decide) (Nat.le_of_ble_eq_true rfl) ?_
  intro p e s m args below meth c C
  have C : ud_C D G z N p s m args meth c cX12_take 2 RX12 (some Jvm.ClassFile.FieldType.int) := C
  show ud_X D G z N p l e (ud_rm 7 0 0) s m args below meth c 2 0 0 (ud_Q D G z N (po_i Qf) below args s) a0 0 [(0, .ref (z + 71)), (1, .int x1)] []
  refine ux_aload_n C 0 rfl rfl dX12_take_0 ?_
  refine ux_iconst C (v := 0) (by decide) dX12_take_1 ?_
  refine pf_12_77 C dX12_take_2 ?_
  refine ux_aload_n C 0 rfl rfl dX12_take_5 ?_
  refine cs_12_299 C  (c_Model_isTable hN  hw) (by decide) (by decide) (Nat.le_of_ble_eq_true rfl) dX12_take_6 (po_ip.k fun r_1 hw => ?_)
  refine ux_if_eq C (tgt := 16) (by decide) dX12_take_9 (fun hc_8 => ?_) (fun hc_8 => ?_)
  · replace hw := hw.1 hc_8
    refine ux_bipush C (v := -2) (by decide) dX12_take_16 ?_
    exact ux_iret C ⟨_, rfl, hw⟩ dX12_take_18
  · replace hw := hw.2 hc_8
    refine ux_iload_n C 1 rfl rfl dX12_take_12 ?_
    refine ux_if_ge C (tgt := 19) (by decide) dX12_take_13 (fun hc_7 => ?_) (fun hc_7 => ?_)
    · replace hw := hw.1 hc_7
      refine ux_aload_n C 0 rfl rfl dX12_take_19 ?_
      refine cs_12_319 C  (c_Model_all hN  hw) (by decide) (by decide) (Nat.le_of_ble_eq_true rfl) dX12_take_20 (po_v.k fun a_4 hw => ?_)
      refine ux_aload_n C 0 rfl rfl dX12_take_23 ?_
      refine ux_iload_n C 1 rfl rfl dX12_take_24 ?_
      refine cs_12_342 C  (c_Model_manyOf hN  hw) (by decide) (by decide) (Nat.le_of_ble_eq_true rfl) dX12_take_25 (po_ip.k fun r_5 hw => ?_)
      exact ux_iret C ⟨_, rfl, hw⟩ dX12_take_28
    · replace hw := hw.2 hc_7
      refine ux_bipush C (v := -2) (by decide) dX12_take_16 ?_
      exact ux_iret C ⟨_, rfl, hw⟩ dX12_take_18
set_option maxHeartbeats 2000000 in
set_option maxRecDepth 4000 in
theorem c_Model_sure {l : Launch} {D : va_G} {G : Nat → Nat} {z N : Nat} (hN : 92 ≤ N) {a0 : ud_St} {x1 : Int32} {x2 : Int32} {x3 : Int32}  {Qf : Int32 → ud_St → Prop} (hw : w_Model_sure a0 x1 x2 x3 Qf) : ud_M l D G z N yX12_sure cX12_sure 4 (some Jvm.ClassFile.FieldType.int) 7 [.ref (z + 71), .int x1, .int x2, .int x3] a0 (po_i Qf) := by
  unfold w_Model_sure at hw
  refine ud_M_of hN (by decide) (Nat.le_of_ble_eq_true rfl) ?_
  intro p e s m args below meth c C
  have C : ud_C D G z N p s m args meth c cX12_sure 4 RX12 (some Jvm.ClassFile.FieldType.int) := C
  show ud_X D G z N p l e (ud_rm 7 0 0) s m args below meth c 4 0 0 (ud_Q D G z N (po_i Qf) below args s) a0 0 [(0, .ref (z + 71)), (1, .int x1), (2, .int x2), (3, .int x3)] []
  refine ux_aload_n C 0 rfl rfl dX12_sure_0 ?_
  refine ux_iconst C (v := 0) (by decide) dX12_sure_1 ?_
  refine pf_12_77 C dX12_sure_2 ?_
  refine ux_aload_n C 0 rfl rfl dX12_sure_5 ?_
  refine ux_iload_n C 1 rfl rfl dX12_sure_6 ?_
  refine ux_iload_n C 2 rfl rfl dX12_sure_7 ?_
  refine cs_12_366 C  (c_Model_isCrowd hN  hw) (by decide) (by decide) (Nat.le_of_ble_eq_true rfl) dX12_sure_8 (po_ip.k fun r_1 hw => ?_)
  refine ux_if_eq C (tgt := 32) (by decide) dX12_sure_11 (fun hc_11 => ?_) (fun hc_11 => ?_)
  · replace hw := hw.1 hc_11
    refine ux_bipush C (v := -2) (by decide) dX12_sure_32 ?_
    exact ux_iret C ⟨_, rfl, hw⟩ dX12_sure_34
  · replace hw := hw.2 hc_11
    refine ux_iload_n C 3 rfl rfl dX12_sure_14 ?_
    refine ux_i2l C dX12_sure_15 ?_
    refine ux_lconst C (v := 0) (by decide) dX12_sure_16 ?_
    refine ux_aload_n C 0 rfl rfl dX12_sure_17 ?_
    refine gf_12_34 C dX12_sure_18 ?_
    refine ux_iconst C (v := 1) (by decide) dX12_sure_21 ?_
    obtain ⟨hi_10, hw⟩ := hw
    refine ux_iald C (uc_78 C.2.2.2.2.2) hi_10 dX12_sure_22 ?_
    refine ux_iconst C (v := 1) (by decide) dX12_sure_23 ?_
    refine ux_isub C dX12_sure_24 ?_
    refine ux_i2l C dX12_sure_25 ?_
    refine cs_12_82 C  (c_Model_in hN  hw) (by decide) (by decide) (Nat.le_of_ble_eq_true rfl) dX12_sure_26 (po_ip.k fun r_3 hw => ?_)
    refine ux_if_ne C (tgt := 35) (by decide) dX12_sure_29 (fun hc_9 => ?_) (fun hc_9 => ?_)
    · replace hw := hw.2 hc_9
      refine ux_aload_n C 0 rfl rfl dX12_sure_35 ?_
      refine ux_iload_n C 1 rfl rfl dX12_sure_36 ?_
      refine ux_iload_n C 2 rfl rfl dX12_sure_37 ?_
      refine cs_12_369 C  (c_Model_crowdsBehind hN  hw) (by decide) (by decide) (Nat.le_of_ble_eq_true rfl) dX12_sure_38 (po_v.k fun a_6 hw => ?_)
      refine ux_aload_n C 0 rfl rfl dX12_sure_41 ?_
      refine ux_iload_n C 3 rfl rfl dX12_sure_42 ?_
      refine cs_12_372 C  (c_Model_sureAt hN  hw) (by decide) (by decide) (Nat.le_of_ble_eq_true rfl) dX12_sure_43 (po_i.k fun r_7 a_8 hw => ?_)
      exact ux_iret C ⟨_, rfl, hw⟩ dX12_sure_46
    · replace hw := hw.1 hc_9
      refine ux_bipush C (v := -2) (by decide) dX12_sure_32 ?_
      exact ux_iret C ⟨_, rfl, hw⟩ dX12_sure_34
set_option maxHeartbeats 2000000 in
set_option maxRecDepth 4000 in
theorem c_Model_fewest {l : Launch} {D : va_G} {G : Nat → Nat} {z N : Nat} (hN : 92 ≤ N) {a0 : ud_St} {x1 : Int32} {x2 : Int32}  {Qf : Int32 → ud_St → Prop} (hw : w_Model_fewest a0 x1 x2 Qf) : ud_M l D G z N yX12_fewest cX12_fewest 4 (some Jvm.ClassFile.FieldType.int) 7 [.ref (z + 71), .int x1, .int x2] a0 (po_i Qf) := by
  unfold w_Model_fewest at hw
  refine ud_M_of hN (by decide) (Nat.le_of_ble_eq_true rfl) ?_
  intro p e s m args below meth c C
  have C : ud_C D G z N p s m args meth c cX12_fewest 4 RX12 (some Jvm.ClassFile.FieldType.int) := C
  show ud_X D G z N p l e (ud_rm 7 0 0) s m args below meth c 4 0 0 (ud_Q D G z N (po_i Qf) below args s) a0 0 [(0, .ref (z + 71)), (1, .int x1), (2, .int x2)] []
  refine ux_aload_n C 0 rfl rfl dX12_fewest_0 ?_
  refine ux_iconst C (v := 0) (by decide) dX12_fewest_1 ?_
  refine pf_12_77 C dX12_fewest_2 ?_
  refine ux_aload_n C 0 rfl rfl dX12_fewest_5 ?_
  refine ux_iload_n C 1 rfl rfl dX12_fewest_6 ?_
  refine ux_iconst C (v := 0) (by decide) dX12_fewest_7 ?_
  refine cs_12_366 C  (c_Model_isCrowd hN  hw) (by decide) (by decide) (Nat.le_of_ble_eq_true rfl) dX12_fewest_8 (po_ip.k fun r_1 hw => ?_)
  refine ux_if_eq C (tgt := 32) (by decide) dX12_fewest_11 (fun hc_19 => ?_) (fun hc_19 => ?_)
  · replace hw := hw.1 hc_19
    refine ux_bipush C (v := -2) (by decide) dX12_fewest_32 ?_
    exact ux_iret C ⟨_, rfl, hw⟩ dX12_fewest_34
  · replace hw := hw.2 hc_19
    refine ux_iload_n C 2 rfl rfl dX12_fewest_14 ?_
    refine ux_i2l C dX12_fewest_15 ?_
    refine ux_lconst C (v := 0) (by decide) dX12_fewest_16 ?_
    refine ux_aload_n C 0 rfl rfl dX12_fewest_17 ?_
    refine gf_12_34 C dX12_fewest_18 ?_
    refine ux_iconst C (v := 1) (by decide) dX12_fewest_21 ?_
    obtain ⟨hi_18, hw⟩ := hw
    refine ux_iald C (uc_78 C.2.2.2.2.2) hi_18 dX12_fewest_22 ?_
    refine ux_iconst C (v := 1) (by decide) dX12_fewest_23 ?_
    refine ux_isub C dX12_fewest_24 ?_
    refine ux_i2l C dX12_fewest_25 ?_
    refine cs_12_82 C  (c_Model_in hN  hw) (by decide) (by decide) (Nat.le_of_ble_eq_true rfl) dX12_fewest_26 (po_ip.k fun r_3 hw => ?_)
    refine ux_if_ne C (tgt := 35) (by decide) dX12_fewest_29 (fun hc_17 => ?_) (fun hc_17 => ?_)
    · replace hw := hw.2 hc_17
      refine ux_aload_n C 0 rfl rfl dX12_fewest_35 ?_
      refine ux_iload_n C 1 rfl rfl dX12_fewest_36 ?_
      refine ux_iconst C (v := 0) (by decide) dX12_fewest_37 ?_
      refine cs_12_369 C  (c_Model_crowdsBehind hN  hw) (by decide) (by decide) (Nat.le_of_ble_eq_true rfl) dX12_fewest_38 (po_v.k fun a_6 hw => ?_)
      refine ux_iconst C (v := 0) (by decide) dX12_fewest_41 ?_
      refine ux_istore_n C rfl (by decide) rfl dX12_fewest_42 ?_
      refine ux_pick [1, 3, 0] rfl ?_
      refine LW2.elim (P := fun (x3_9 : Int32) (a_10 : ud_St) => ud_X D G z N p l e (ud_rm 7 0 0) s m args below meth c 4 0 0 (ud_Q D G z N (po_i Qf) below args s) a_10 43 [(0, .ref (z + 71)), (2, .int x2), (3, .int x3_9)] []) hw ?_
      intro x3_9 a_10 K_7 hw ih_8
      refine ux_iload_n C 2 rfl rfl dX12_fewest_43 ?_
      refine ux_sipush C (v := 200) (by decide) dX12_fewest_44 ?_
      refine ux_icmp_gt C (tgt := 71) (by decide) dX12_fewest_47 (fun hc_16 => ?_) (fun hc_16 => ?_)
      · replace hw := hw.1 hc_16
        refine ux_iconst C (v := -1) (by decide) dX12_fewest_71 ?_
        exact ux_iret C ⟨_, rfl, hw⟩ dX12_fewest_72
      · replace hw := hw.2 hc_16
        refine ux_aload_n C 0 rfl rfl dX12_fewest_50 ?_
        refine ux_iload_n C 1 rfl rfl dX12_fewest_51 ?_
        refine cs_12_372 C  (c_Model_sureAt hN  hw) (by decide) (by decide) (Nat.le_of_ble_eq_true rfl) dX12_fewest_52 (po_i.k fun r_11 a_12 hw => ?_)
        refine ux_iconst C (v := -1) (by decide) dX12_fewest_55 ?_
        refine ux_icmp_eq C (tgt := 61) (by decide) dX12_fewest_56 (fun hc_15 => ?_) (fun hc_15 => ?_)
        · replace hw := hw.1 hc_15
          refine ux_aload_n C 0 rfl rfl dX12_fewest_61 ?_
          refine cs_12_363 C  (c_Model_goes hN  hw) (by decide) (by decide) (Nat.le_of_ble_eq_true rfl) dX12_fewest_62 (po_v.k fun a_14 hw => ?_)
          refine ux_iinc C 2 rfl rfl (by decide) rfl dX12_fewest_65 ?_
          refine ux_goto C (tgt := 43) (by decide) dX12_fewest_68 ?_
          exact ux_pick [1, 2, 0] rfl (ih_8 _ _ hw)
        · replace hw := hw.2 hc_15
          refine ux_iload_n C 2 rfl rfl dX12_fewest_59 ?_
          exact ux_iret C ⟨_, rfl, hw⟩ dX12_fewest_60
    · replace hw := hw.1 hc_17
      refine ux_bipush C (v := -2) (by decide) dX12_fewest_32 ?_
      exact ux_iret C ⟨_, rfl, hw⟩ dX12_fewest_34
set_option maxHeartbeats 2000000 in
set_option maxRecDepth 4000 in
theorem c_Model_left {l : Launch} {D : va_G} {G : Nat → Nat} {z N : Nat} (hN : 92 ≤ N) {a0 : ud_St} {x1 : Int32} {x2 : Int32}  {Qf : Int32 → ud_St → Prop} (hw : w_Model_left a0 x1 x2 Qf) : ud_M l D G z N yX12_left cX12_left 3 (some Jvm.ClassFile.FieldType.int) 7 [.ref (z + 71), .int x1, .int x2] a0 (po_i Qf) := by
  unfold w_Model_left at hw
  refine ud_M_of hN (by decide) (Nat.le_of_ble_eq_true rfl) ?_
  intro p e s m args below meth c C
  have C : ud_C D G z N p s m args meth c cX12_left 3 RX12 (some Jvm.ClassFile.FieldType.int) := C
  show ud_X D G z N p l e (ud_rm 7 0 0) s m args below meth c 3 0 0 (ud_Q D G z N (po_i Qf) below args s) a0 0 [(0, .ref (z + 71)), (1, .int x1), (2, .int x2)] []
  refine ux_aload_n C 0 rfl rfl dX12_left_0 ?_
  refine ux_iconst C (v := 0) (by decide) dX12_left_1 ?_
  refine pf_12_77 C dX12_left_2 ?_
  refine ux_aload_n C 0 rfl rfl dX12_left_5 ?_
  refine ux_iload_n C 1 rfl rfl dX12_left_6 ?_
  refine ux_iload_n C 2 rfl rfl dX12_left_7 ?_
  refine cs_12_366 C  (c_Model_isCrowd hN  hw) (by decide) (by decide) (Nat.le_of_ble_eq_true rfl) dX12_left_8 (po_ip.k fun r_1 hw => ?_)
  refine ux_if_ne C (tgt := 17) (by decide) dX12_left_11 (fun hc_7 => ?_) (fun hc_7 => ?_)
  · replace hw := hw.2 hc_7
    refine ux_aload_n C 0 rfl rfl dX12_left_17 ?_
    refine ux_iload_n C 1 rfl rfl dX12_left_18 ?_
    refine ux_iload_n C 2 rfl rfl dX12_left_19 ?_
    refine cs_12_369 C  (c_Model_crowdsBehind hN  hw) (by decide) (by decide) (Nat.le_of_ble_eq_true rfl) dX12_left_20 (po_v.k fun a_4 hw => ?_)
    refine ux_aload_n C 0 rfl rfl dX12_left_23 ?_
    refine cs_12_375 C  (c_Model_manyIn hN  hw) (by decide) (by decide) (Nat.le_of_ble_eq_true rfl) dX12_left_24 (po_ip.k fun r_5 hw => ?_)
    exact ux_iret C ⟨_, rfl, hw⟩ dX12_left_27
  · replace hw := hw.1 hc_7
    refine ux_bipush C (v := -2) (by decide) dX12_left_14 ?_
    exact ux_iret C ⟨_, rfl, hw⟩ dX12_left_16
set_option maxHeartbeats 2000000 in
set_option maxRecDepth 4000 in
theorem c_Model_rest {l : Launch} {D : va_G} {G : Nat → Nat} {z N : Nat} (hN : 92 ≤ N) {a0 : ud_St} {x1 : Int32} {x2 : Int32}  {Qf : Int32 → ud_St → Prop} (hw : w_Model_rest a0 x1 x2 Qf) : ud_M l D G z N yX12_rest cX12_rest 4 (some Jvm.ClassFile.FieldType.int) 7 [.ref (z + 71), .int x1, .int x2] a0 (po_i Qf) := by
  unfold w_Model_rest at hw
  refine ud_M_of hN (by decide) (Nat.le_of_ble_eq_true rfl) ?_
  intro p e s m args below meth c C
  have C : ud_C D G z N p s m args meth c cX12_rest 4 RX12 (some Jvm.ClassFile.FieldType.int) := C
  show ud_X D G z N p l e (ud_rm 7 0 0) s m args below meth c 4 0 0 (ud_Q D G z N (po_i Qf) below args s) a0 0 [(0, .ref (z + 71)), (1, .int x1), (2, .int x2)] []
  refine ux_aload_n C 0 rfl rfl dX12_rest_0 ?_
  refine ux_iconst C (v := 0) (by decide) dX12_rest_1 ?_
  refine pf_12_77 C dX12_rest_2 ?_
  refine ux_aload_n C 0 rfl rfl dX12_rest_5 ?_
  refine ux_iload_n C 1 rfl rfl dX12_rest_6 ?_
  refine ux_iload_n C 2 rfl rfl dX12_rest_7 ?_
  refine cs_12_366 C  (c_Model_isCrowd hN  hw) (by decide) (by decide) (Nat.le_of_ble_eq_true rfl) dX12_rest_8 (po_ip.k fun r_1 hw => ?_)
  refine ux_if_ne C (tgt := 17) (by decide) dX12_rest_11 (fun hc_15 => ?_) (fun hc_15 => ?_)
  · replace hw := hw.2 hc_15
    refine ux_aload_n C 0 rfl rfl dX12_rest_17 ?_
    refine ux_iload_n C 1 rfl rfl dX12_rest_18 ?_
    refine ux_iload_n C 2 rfl rfl dX12_rest_19 ?_
    refine cs_12_369 C  (c_Model_crowdsBehind hN  hw) (by decide) (by decide) (Nat.le_of_ble_eq_true rfl) dX12_rest_20 (po_v.k fun a_4 hw => ?_)
    refine ux_aload_n C 0 rfl rfl dX12_rest_23 ?_
    refine cs_12_375 C  (c_Model_manyIn hN  hw) (by decide) (by decide) (Nat.le_of_ble_eq_true rfl) dX12_rest_24 (po_ip.k fun r_5 hw => ?_)
    refine ux_if_ne C (tgt := 32) (by decide) dX12_rest_27 (fun hc_14 => ?_) (fun hc_14 => ?_)
    · replace hw := hw.2 hc_14
      refine ux_bipush C (v := 99) (by decide) dX12_rest_32 ?_
      refine ux_istore_n C rfl (by decide) rfl dX12_rest_34 ?_
      refine ux_pick [1, 0] rfl ?_
      refine LW1.elim (P := fun (x3_9 : Int32) => ud_X D G z N p l e (ud_rm 7 0 0) s m args below meth c 4 0 0 (ud_Q D G z N (po_i Qf) below args s) a_4 35 [(0, .ref (z + 71)), (3, .int x3_9)] []) hw ?_
      intro x3_9 K_7 hw ih_8
      refine ux_iload_n C 1 rfl rfl dX12_rest_35 ?_
      refine ux_iconst C (v := 2) (by decide) dX12_rest_36 ?_
      refine ux_icmp_lt C (tgt := 56) (by decide) dX12_rest_37 (fun hc_13 => ?_) (fun hc_13 => ?_)
      · replace hw := hw.1 hc_13
        refine ux_iconst C (v := -1) (by decide) dX12_rest_56 ?_
        exact ux_iret C ⟨_, rfl, hw⟩ dX12_rest_57
      · replace hw := hw.2 hc_13
        refine ux_aload_n C 0 rfl rfl dX12_rest_40 ?_
        refine ux_iload_n C 1 rfl rfl dX12_rest_41 ?_
        refine cs_12_378 C  (c_Model_isRest hN  hw) (by decide) (by decide) (Nat.le_of_ble_eq_true rfl) dX12_rest_42 (po_ip.k fun r_10 hw => ?_)
        refine ux_if_eq C (tgt := 50) (by decide) dX12_rest_45 (fun hc_12 => ?_) (fun hc_12 => ?_)
        · replace hw := hw.1 hc_12
          refine ux_iinc C 1 rfl rfl (by decide) rfl dX12_rest_50 ?_
          refine ux_goto C (tgt := 35) (by decide) dX12_rest_53 ?_
          exact ux_pick [1, 0] rfl (ih_8 _ hw)
        · replace hw := hw.2 hc_12
          refine ux_iload_n C 1 rfl rfl dX12_rest_48 ?_
          exact ux_iret C ⟨_, rfl, hw⟩ dX12_rest_49
    · replace hw := hw.1 hc_14
      refine ux_iconst C (v := -1) (by decide) dX12_rest_30 ?_
      exact ux_iret C ⟨_, rfl, hw⟩ dX12_rest_31
  · replace hw := hw.1 hc_15
    refine ux_bipush C (v := -2) (by decide) dX12_rest_14 ?_
    exact ux_iret C ⟨_, rfl, hw⟩ dX12_rest_16
set_option maxHeartbeats 2000000 in
set_option maxRecDepth 4000 in
theorem c_Model_out_j104 {D : va_G} {G : Nat → Nat} {z N : Nat} {p : Program} {l : Launch} {e : Env} {s : State} {m : MethodId} {args : Array Value} {below : List Frame} {meth : Method} {c : Code} (hN : 92 ≤ N) {a0 : ud_St} {x1 : Int32} {x2 : Int32} {x3 : Int32} {b_104 : ud_St} {y3_104 : Int32} {y4_104 : Int32} {y5_104 : Int32} {y6_104 : Int32} {y7_104 : Int32} {y8_104 : Int32} {K_7 : Int32 → Int32 → ud_St → Prop} {K_14 : Int32 → Int32 → Prop}  {Qf : Int32 → ud_St → Prop} (C : ud_C D G z N p s m args meth c cX12_out 9 RX12 (some Jvm.ClassFile.FieldType.int)) (ih_8 : ∀ (v0 : Int32) (v1 : Int32) (v2 : ud_St), K_7 v0 v1 v2 → ud_X D G z N p l e (ud_rm 7 0 0) s m args below meth c 9 0 0 (ud_Q D G z N (po_i Qf) below args s) v2 54 [(0, .ref (z + 71)), (3, .int y3_104), (4, .int v0), (5, .int v1)] []) (ih_15 : ∀ (v0 : Int32) (v1 : Int32), K_14 v0 v1 → ud_X D G z N p l e (ud_rm 7 0 0) s m args below meth c 9 0 0 (ud_Q D G z N (po_i Qf) below args s) b_104 87 [(0, .ref (z + 71)), (3, .int y3_104), (4, .int v0), (5, .int y5_104), (6, .int v1)] []) (hw : w_Model_out_j104 a0 x1 x2 x3 b_104 y3_104 y4_104 y5_104 y6_104 y7_104 y8_104 K_7 K_14 Qf) : ud_X D G z N p l e (ud_rm 7 0 0) s m args below meth c 9 0 0 (ud_Q D G z N (po_i Qf) below args s) b_104 104 [(0, .ref (z + 71)), (3, .int y3_104), (4, .int y4_104), (5, .int y5_104), (6, .int y6_104), (7, .int y7_104), (8, .int y8_104)] [] := by
  unfold w_Model_out_j104 at hw
  refine ux_pick [0, 1, 2, 3, 4, 5, 6] rfl ?_
  refine LW2.elim (P := fun (x7_20 : Int32) (x8_21 : Int32) => ud_X D G z N p l e (ud_rm 7 0 0) s m args below meth c 9 0 0 (ud_Q D G z N (po_i Qf) below args s) b_104 104 [(0, .ref (z + 71)), (3, .int y3_104), (4, .int y4_104), (5, .int y5_104), (6, .int y6_104), (7, .int x7_20), (8, .int x8_21)] []) hw ?_
  intro x7_20 x8_21 K_18 hw ih_19
  refine ux_iload C 6 rfl dX12_out_104 ?_
  refine ux_aload_n C 0 rfl rfl dX12_out_106 ?_
  refine gf_12_34 C dX12_out_107 ?_
  refine ux_iconst C (v := 1) (by decide) dX12_out_110 ?_
  obtain ⟨hi_28, hw⟩ := hw
  refine ux_iald C (uc_78 C.2.2.2.2.2) hi_28 dX12_out_111 ?_
  refine ux_icmp_ge C (tgt := 147) (by decide) dX12_out_112 (fun hc_27 => ?_) (fun hc_27 => ?_)
  · replace hw := hw.1 hc_27
    refine ux_iload C 5 rfl dX12_out_147 ?_
    refine ux_iload_n C 1 rfl rfl dX12_out_149 ?_
    refine ux_icmp_ne C (tgt := 167) (by decide) dX12_out_150 (fun hc_23 => ?_) (fun hc_23 => ?_)
    · replace hw := hw.2 hc_23
      refine ux_iinc C 4 rfl rfl (by decide) rfl dX12_out_167 ?_
      refine ux_goto C (tgt := 87) (by decide) dX12_out_170 ?_
      exact ux_pick [1, 2, 3, 4, 0] rfl (ih_15 _ _ hw)
    · replace hw := hw.1 hc_23
      refine ux_iload C 2 rfl dX12_out_153 ?_
      refine ux_iconst C (v := 1) (by decide) dX12_out_155 ?_
      refine ux_aload_n C 0 rfl rfl dX12_out_156 ?_
      refine gf_12_50 C dX12_out_157 ?_
      refine ux_iload C 4 rfl dX12_out_160 ?_
      obtain ⟨hi_22, hw⟩ := hw
      refine ux_iald C (uc_83 C.2.2.2.2.2) hi_22 dX12_out_162 ?_
      refine ux_ishl C dX12_out_163 ?_
      refine ux_ior C dX12_out_164 ?_
      refine ux_istore C (by decide) rfl dX12_out_165 ?_
      refine ux_iinc C 4 rfl rfl (by decide) rfl dX12_out_167 ?_
      refine ux_goto C (tgt := 87) (by decide) dX12_out_170 ?_
      exact ux_pick [2, 3, 1, 4, 0] rfl (ih_15 _ _ hw)
  · replace hw := hw.2 hc_27
    refine ux_iload C 6 rfl dX12_out_115 ?_
    refine ux_iload C 4 rfl dX12_out_117 ?_
    refine ux_icmp_eq C (tgt := 141) (by decide) dX12_out_119 (fun hc_26 => ?_) (fun hc_26 => ?_)
    · replace hw := hw.1 hc_26
      refine ux_iinc C 6 rfl rfl (by decide) rfl dX12_out_141 ?_
      refine ux_goto C (tgt := 104) (by decide) dX12_out_144 ?_
      exact ux_pick [1, 2, 3, 4, 5, 6, 0] rfl (ih_19 _ _ hw)
    · replace hw := hw.2 hc_26
      refine ux_iload C 5 rfl dX12_out_122 ?_
      refine ux_aload_n C 0 rfl rfl dX12_out_124 ?_
      refine gf_12_34 C dX12_out_125 ?_
      refine ux_iconst C (v := 0) (by decide) dX12_out_128 ?_
      obtain ⟨hi_25, hw⟩ := hw
      refine ux_iald C (uc_78 C.2.2.2.2.2) hi_25 dX12_out_129 ?_
      refine ux_imul C dX12_out_130 ?_
      refine ux_aload_n C 0 rfl rfl dX12_out_131 ?_
      refine gf_12_50 C dX12_out_132 ?_
      refine ux_iload C 6 rfl dX12_out_135 ?_
      obtain ⟨hi_24, hw⟩ := hw
      refine ux_iald C (uc_83 C.2.2.2.2.2) hi_24 dX12_out_137 ?_
      refine ux_iadd C dX12_out_138 ?_
      refine ux_istore C (by decide) rfl dX12_out_139 ?_
      refine ux_iinc C 6 rfl rfl (by decide) rfl dX12_out_141 ?_
      refine ux_goto C (tgt := 104) (by decide) dX12_out_144 ?_
      exact ux_pick [2, 3, 4, 5, 6, 1, 0] rfl (ih_19 _ _ hw)
set_option maxHeartbeats 2000000 in
set_option maxRecDepth 4000 in
theorem c_Model_out_j87 {D : va_G} {G : Nat → Nat} {z N : Nat} {p : Program} {l : Launch} {e : Env} {s : State} {m : MethodId} {args : Array Value} {below : List Frame} {meth : Method} {c : Code} (hN : 92 ≤ N) {a0 : ud_St} {x1 : Int32} {x2 : Int32} {x3 : Int32} {b_87 : ud_St} {y3_87 : Int32} {y4_87 : Int32} {y5_87 : Int32} {y6_87 : Int32} {K_7 : Int32 → Int32 → ud_St → Prop}  {Qf : Int32 → ud_St → Prop} (C : ud_C D G z N p s m args meth c cX12_out 9 RX12 (some Jvm.ClassFile.FieldType.int)) (ih_8 : ∀ (v0 : Int32) (v1 : Int32) (v2 : ud_St), K_7 v0 v1 v2 → ud_X D G z N p l e (ud_rm 7 0 0) s m args below meth c 9 0 0 (ud_Q D G z N (po_i Qf) below args s) v2 54 [(0, .ref (z + 71)), (3, .int y3_87), (4, .int v0), (5, .int v1)] []) (hw : w_Model_out_j87 a0 x1 x2 x3 b_87 y3_87 y4_87 y5_87 y6_87 K_7 Qf) : ud_X D G z N p l e (ud_rm 7 0 0) s m args below meth c 9 0 0 (ud_Q D G z N (po_i Qf) below args s) b_87 87 [(0, .ref (z + 71)), (3, .int y3_87), (4, .int y4_87), (5, .int y5_87), (6, .int y6_87)] [] := by
  unfold w_Model_out_j87 at hw
  refine ux_pick [0, 1, 2, 3, 4] rfl ?_
  refine LW2.elim (P := fun (x4_16 : Int32) (x6_17 : Int32) => ud_X D G z N p l e (ud_rm 7 0 0) s m args below meth c 9 0 0 (ud_Q D G z N (po_i Qf) below args s) b_87 87 [(0, .ref (z + 71)), (3, .int y3_87), (4, .int x4_16), (5, .int y5_87), (6, .int x6_17)] []) hw ?_
  intro x4_16 x6_17 K_14 hw ih_15
  refine ux_iload C 4 rfl dX12_out_87 ?_
  refine ux_aload_n C 0 rfl rfl dX12_out_89 ?_
  refine gf_12_34 C dX12_out_90 ?_
  refine ux_iconst C (v := 1) (by decide) dX12_out_93 ?_
  obtain ⟨hi_30, hw⟩ := hw
  refine ux_iald C (uc_78 C.2.2.2.2.2) hi_30 dX12_out_94 ?_
  refine ux_icmp_ge C (tgt := 173) (by decide) dX12_out_95 (fun hc_29 => ?_) (fun hc_29 => ?_)
  · replace hw := hw.1 hc_29
    refine ux_iinc C 3 rfl rfl (by decide) rfl dX12_out_173 ?_
    refine ux_goto C (tgt := 54) (by decide) dX12_out_176 ?_
    exact ux_pick [1, 2, 3, 0] rfl (ih_8 _ _ _ hw)
  · replace hw := hw.2 hc_29
    refine ux_iconst C (v := 0) (by decide) dX12_out_98 ?_
    refine ux_istore C (by decide) rfl dX12_out_99 ?_
    refine ux_iconst C (v := 0) (by decide) dX12_out_101 ?_
    refine ux_istore C (by decide) rfl dX12_out_102 ?_
    exact ux_pick [2, 3, 4, 5, 6, 1, 0] rfl (c_Model_out_j104 hN  C ih_8 ih_15 hw)
set_option maxHeartbeats 2000000 in
set_option maxRecDepth 4000 in
theorem c_Model_out_j54 {D : va_G} {G : Nat → Nat} {z N : Nat} {p : Program} {l : Launch} {e : Env} {s : State} {m : MethodId} {args : Array Value} {below : List Frame} {meth : Method} {c : Code} (hN : 92 ≤ N) {a0 : ud_St} {x1 : Int32} {x2 : Int32} {x3 : Int32} {b_54 : ud_St} {y3_54 : Int32} {y4_54 : Int32} {y5_54 : Int32}  {Qf : Int32 → ud_St → Prop} (C : ud_C D G z N p s m args meth c cX12_out 9 RX12 (some Jvm.ClassFile.FieldType.int))  (hw : w_Model_out_j54 a0 x1 x2 x3 b_54 y3_54 y4_54 y5_54 Qf) : ud_X D G z N p l e (ud_rm 7 0 0) s m args below meth c 9 0 0 (ud_Q D G z N (po_i Qf) below args s) b_54 54 [(0, .ref (z + 71)), (3, .int y3_54), (4, .int y4_54), (5, .int y5_54)] [] := by
  unfold w_Model_out_j54 at hw
  refine ux_pick [0, 1, 2, 3] rfl ?_
  refine LW3.elim (P := fun (x4_9 : Int32) (x5_10 : Int32) (a_11 : ud_St) => ud_X D G z N p l e (ud_rm 7 0 0) s m args below meth c 9 0 0 (ud_Q D G z N (po_i Qf) below args s) a_11 54 [(0, .ref (z + 71)), (3, .int y3_54), (4, .int x4_9), (5, .int x5_10)] []) hw ?_
  intro x4_9 x5_10 a_11 K_7 hw ih_8
  refine ux_iload C 3 rfl dX12_out_54 ?_
  refine ux_aload_n C 0 rfl rfl dX12_out_56 ?_
  refine gf_12_34 C dX12_out_57 ?_
  refine ux_iconst C (v := 2) (by decide) dX12_out_60 ?_
  obtain ⟨hi_34, hw⟩ := hw
  refine ux_iald C (uc_78 C.2.2.2.2.2) hi_34 dX12_out_61 ?_
  refine ux_icmp_ge C (tgt := 179) (by decide) dX12_out_62 (fun hc_33 => ?_) (fun hc_33 => ?_)
  · replace hw := hw.1 hc_33
    refine ux_iload C 2 rfl dX12_out_179 ?_
    exact ux_iret C ⟨_, rfl, hw⟩ dX12_out_181
  · replace hw := hw.2 hc_33
    refine ux_aload_n C 0 rfl rfl dX12_out_65 ?_
    refine gf_12_71 C dX12_out_66 ?_
    refine ux_iload C 3 rfl dX12_out_69 ?_
    obtain ⟨hi_32, hw⟩ := hw
    refine ux_zald C (uc_90 C.2.2.2.2.2) hi_32 dX12_out_71 ?_
    refine ux_if_ne C (tgt := 78) (by decide) dX12_out_72 (fun hc_31 => ?_) (fun hc_31 => ?_)
    · replace hw := hw.2 hc_31
      refine ux_aload_n C 0 rfl rfl dX12_out_78 ?_
      refine ux_iload C 3 rfl dX12_out_79 ?_
      refine cs_12_259 C  (c_Model_figures hN  hw) (by decide) (by decide) (Nat.le_of_ble_eq_true rfl) dX12_out_81 (po_v.k fun a_13 hw => ?_)
      refine ux_iconst C (v := 0) (by decide) dX12_out_84 ?_
      refine ux_istore C (by decide) rfl dX12_out_85 ?_
      exact ux_pick [1, 2, 3, 4, 0] rfl (c_Model_out_j87 hN  C ih_8 hw)
    · replace hw := hw.1 hc_31
      refine ux_goto C (tgt := 173) (by decide) dX12_out_75 ?_
      refine ux_iinc C 3 rfl rfl (by decide) rfl dX12_out_173 ?_
      refine ux_goto C (tgt := 54) (by decide) dX12_out_176 ?_
      exact ux_pick [1, 2, 3, 0] rfl (ih_8 _ _ _ hw)
set_option maxHeartbeats 2000000 in
set_option maxRecDepth 4000 in
theorem c_Model_out {l : Launch} {D : va_G} {G : Nat → Nat} {z N : Nat} (hN : 92 ≤ N) {a0 : ud_St} {x1 : Int32} {x2 : Int32} {x3 : Int32}  {Qf : Int32 → ud_St → Prop} (hw : w_Model_out a0 x1 x2 x3 Qf) : ud_M l D G z N yX12_out cX12_out 9 (some Jvm.ClassFile.FieldType.int) 7 [.ref (z + 71), .int x1, .int x2, .int x3] a0 (po_i Qf) := by
  unfold w_Model_out at hw
  refine ud_M_of hN (by decide) (Nat.le_of_ble_eq_true rfl) ?_
  intro p e s m args below meth c C
  have C : ud_C D G z N p s m args meth c cX12_out 9 RX12 (some Jvm.ClassFile.FieldType.int) := C
  show ud_X D G z N p l e (ud_rm 7 0 0) s m args below meth c 9 0 0 (ud_Q D G z N (po_i Qf) below args s) a0 0 [(0, .ref (z + 71)), (1, .int x1), (2, .int x2), (3, .int x3)] []
  refine ux_aload_n C 0 rfl rfl dX12_out_0 ?_
  refine ux_iconst C (v := 0) (by decide) dX12_out_1 ?_
  refine pf_12_77 C dX12_out_2 ?_
  refine ux_aload_n C 0 rfl rfl dX12_out_5 ?_
  refine ux_iload_n C 1 rfl rfl dX12_out_6 ?_
  refine ux_iload_n C 2 rfl rfl dX12_out_7 ?_
  refine cs_12_366 C  (c_Model_isCrowd hN  hw) (by decide) (by decide) (Nat.le_of_ble_eq_true rfl) dX12_out_8 (po_ip.k fun r_1 hw => ?_)
  refine ux_if_eq C (tgt := 39) (by decide) dX12_out_11 (fun hc_39 => ?_) (fun hc_39 => ?_)
  · replace hw := hw.1 hc_39
    refine ux_bipush C (v := -2) (by decide) dX12_out_39 ?_
    exact ux_iret C ⟨_, rfl, hw⟩ dX12_out_41
  · replace hw := hw.2 hc_39
    refine ux_iload_n C 3 rfl rfl dX12_out_14 ?_
    refine ux_i2l C dX12_out_15 ?_
    refine ux_lconst C (v := 0) (by decide) dX12_out_16 ?_
    refine ux_aload_n C 0 rfl rfl dX12_out_17 ?_
    refine gf_12_34 C dX12_out_18 ?_
    refine ux_iconst C (v := 2) (by decide) dX12_out_21 ?_
    obtain ⟨hi_38, hw⟩ := hw
    refine ux_iald C (uc_78 C.2.2.2.2.2) hi_38 dX12_out_22 ?_
    refine ux_aload_n C 0 rfl rfl dX12_out_23 ?_
    refine gf_12_34 C dX12_out_24 ?_
    refine ux_iconst C (v := 0) (by decide) dX12_out_27 ?_
    obtain ⟨hi_37, hw⟩ := hw
    refine ux_iald C (uc_78 C.2.2.2.2.2) hi_37 dX12_out_28 ?_
    obtain ⟨hc_36, hw⟩ := hw
    refine ux_idiv C hc_36 dX12_out_29 ?_
    refine ux_iconst C (v := 1) (by decide) dX12_out_30 ?_
    refine ux_isub C dX12_out_31 ?_
    refine ux_i2l C dX12_out_32 ?_
    refine cs_12_82 C  (c_Model_in hN  hw) (by decide) (by decide) (Nat.le_of_ble_eq_true rfl) dX12_out_33 (po_ip.k fun r_3 hw => ?_)
    refine ux_if_ne C (tgt := 42) (by decide) dX12_out_36 (fun hc_35 => ?_) (fun hc_35 => ?_)
    · replace hw := hw.2 hc_35
      refine ux_aload_n C 0 rfl rfl dX12_out_42 ?_
      refine ux_iload_n C 1 rfl rfl dX12_out_43 ?_
      refine ux_iload_n C 2 rfl rfl dX12_out_44 ?_
      refine cs_12_369 C  (c_Model_crowdsBehind hN  hw) (by decide) (by decide) (Nat.le_of_ble_eq_true rfl) dX12_out_45 (po_v.k fun a_6 hw => ?_)
      refine ux_iconst C (v := 0) (by decide) dX12_out_48 ?_
      refine ux_istore C (by decide) rfl dX12_out_49 ?_
      refine ux_iconst C (v := 0) (by decide) dX12_out_51 ?_
      refine ux_istore C (by decide) rfl dX12_out_52 ?_
      exact ux_pick [2, 5, 1, 0] rfl (c_Model_out_j54 hN  C  hw)
    · replace hw := hw.1 hc_35
      refine ux_bipush C (v := -2) (by decide) dX12_out_39 ?_
      exact ux_iret C ⟨_, rfl, hw⟩ dX12_out_41
set_option maxHeartbeats 2000000 in
set_option maxRecDepth 4000 in
theorem c_Model_evening_j223 {D : va_G} {G : Nat → Nat} {z N : Nat} {p : Program} {l : Launch} {e : Env} {s : State} {m : MethodId} {args : Array Value} {below : List Frame} {meth : Method} {c : Code} (hN : 92 ≤ N) {a0 : ud_St} {x1 : Int32} {x2 : Int32} {x3 : Int32} {b_223 : ud_St} {y2_223 : Int32} {y3_223 : Int32} {y4_223 : Int64} {y6_223 : Int32} {y8_223 : Int32} {y9_223 : Int32} {y10_223 : Int32} {y11_223 : Int32} {u0_223 : Int32} {K_15 : Int64 → Int32 → Int32 → Int32 → Int32 → Int32 → ud_St → Prop}  {Qf : Int32 → ud_St → Prop} (C : ud_C D G z N p s m args meth c cX12_evening 12 RX12 (some Jvm.ClassFile.FieldType.int)) (ih_16 : ∀ (v0 : Int64) (v1 : Int32) (v2 : Int32) (v3 : Int32) (v4 : Int32) (v5 : Int32) (v6 : ud_St), K_15 v0 v1 v2 v3 v4 v5 v6 → ud_X D G z N p l e (ud_rm 7 0 0) s m args below meth c 12 0 0 (ud_Q D G z N (po_i Qf) below args s) v6 102 [(0, .ref (z + 71)), (2, .int y2_223), (3, .int y3_223), (4, .long v0), (6, .int v1), (7, .int v2), (8, .int v3), (9, .int v4), (10, .int v5)] []) (hw : w_Model_evening_j223 a0 x1 x2 x3 b_223 y2_223 y3_223 y4_223 y6_223 y8_223 y9_223 y10_223 y11_223 u0_223 K_15 Qf) : ud_X D G z N p l e (ud_rm 7 0 0) s m args below meth c 12 0 0 (ud_Q D G z N (po_i Qf) below args s) b_223 223 [(0, .ref (z + 71)), (2, .int y2_223), (3, .int y3_223), (4, .long y4_223), (6, .int y6_223), (8, .int y8_223), (9, .int y9_223), (10, .int y10_223), (11, .int y11_223)] [.int u0_223] := by
  unfold w_Model_evening_j223 at hw
  refine ux_istore C (by decide) rfl dX12_evening_223 ?_
  refine ux_iload C 7 rfl dX12_evening_225 ?_
  refine ux_aload_n C 1 rfl rfl dX12_evening_227 ?_
  refine gf_12_62 C dX12_evening_228 ?_
  refine ux_iload C 9 rfl dX12_evening_231 ?_
  obtain ⟨hi_28, hw⟩ := hw
  refine ux_iald C (uc_87 C.2.2.2.2.2) hi_28 dX12_evening_233 ?_
  refine ux_iload C 6 rfl dX12_evening_234 ?_
  refine ux_icmp_ne C (tgt := 243) (by decide) dX12_evening_236 (fun hc_27 => ?_) (fun hc_27 => ?_)
  · replace hw := hw.2 hc_27
    refine ux_iconst C (v := 0) (by decide) dX12_evening_243 ?_
    refine ux_iadd C dX12_evening_244 ?_
    refine ux_istore C (by decide) rfl dX12_evening_245 ?_
    refine ux_iinc C 8 rfl rfl (by decide) rfl dX12_evening_247 ?_
    refine ux_goto C (tgt := 102) (by decide) dX12_evening_250 ?_
    exact ux_pick [3, 4, 5, 6, 7, 2, 8, 1, 0] rfl (ih_16 _ _ _ _ _ _ _ hw)
  · replace hw := hw.1 hc_27
    refine ux_iconst C (v := 1) (by decide) dX12_evening_239 ?_
    refine ux_goto C (tgt := 244) (by decide) dX12_evening_240 ?_
    refine ux_iadd C dX12_evening_244 ?_
    refine ux_istore C (by decide) rfl dX12_evening_245 ?_
    refine ux_iinc C 8 rfl rfl (by decide) rfl dX12_evening_247 ?_
    refine ux_goto C (tgt := 102) (by decide) dX12_evening_250 ?_
    exact ux_pick [3, 4, 5, 6, 7, 2, 8, 1, 0] rfl (ih_16 _ _ _ _ _ _ _ hw)
set_option maxHeartbeats 2000000 in
set_option maxRecDepth 4000 in
theorem c_Model_evening_j183 {D : va_G} {G : Nat → Nat} {z N : Nat} {p : Program} {l : Launch} {e : Env} {s : State} {m : MethodId} {args : Array Value} {below : List Frame} {meth : Method} {c : Code} (hN : 92 ≤ N) {a0 : ud_St} {x1 : Int32} {x2 : Int32} {x3 : Int32} {b_183 : ud_St} {y2_183 : Int32} {y3_183 : Int32} {y4_183 : Int64} {y7_183 : Int32} {y8_183 : Int32} {y9_183 : Int32} {y10_183 : Int32} {y11_183 : Int32} {u0_183 : Int32} {u1_183 : Int32} {K_15 : Int64 → Int32 → Int32 → Int32 → Int32 → Int32 → ud_St → Prop}  {Qf : Int32 → ud_St → Prop} (C : ud_C D G z N p s m args meth c cX12_evening 12 RX12 (some Jvm.ClassFile.FieldType.int)) (ih_16 : ∀ (v0 : Int64) (v1 : Int32) (v2 : Int32) (v3 : Int32) (v4 : Int32) (v5 : Int32) (v6 : ud_St), K_15 v0 v1 v2 v3 v4 v5 v6 → ud_X D G z N p l e (ud_rm 7 0 0) s m args below meth c 12 0 0 (ud_Q D G z N (po_i Qf) below args s) v6 102 [(0, .ref (z + 71)), (2, .int y2_183), (3, .int y3_183), (4, .long v0), (6, .int v1), (7, .int v2), (8, .int v3), (9, .int v4), (10, .int v5)] []) (hw : w_Model_evening_j183 a0 x1 x2 x3 b_183 y2_183 y3_183 y4_183 y7_183 y8_183 y9_183 y10_183 y11_183 u0_183 u1_183 K_15 Qf) : ud_X D G z N p l e (ud_rm 7 0 0) s m args below meth c 12 0 0 (ud_Q D G z N (po_i Qf) below args s) b_183 183 [(0, .ref (z + 71)), (2, .int y2_183), (3, .int y3_183), (4, .long y4_183), (7, .int y7_183), (8, .int y8_183), (9, .int y9_183), (10, .int y10_183), (11, .int y11_183)] [.int u0_183, .int u1_183] := by
  unfold w_Model_evening_j183 at hw
  refine ux_iadd C dX12_evening_183 ?_
  refine ux_istore C (by decide) rfl dX12_evening_184 ?_
  refine ux_aload_n C 1 rfl rfl dX12_evening_186 ?_
  refine gf_12_68 C dX12_evening_187 ?_
  refine ux_aload_n C 1 rfl rfl dX12_evening_190 ?_
  refine gf_12_62 C dX12_evening_191 ?_
  refine ux_iload C 9 rfl dX12_evening_194 ?_
  obtain ⟨hi_32, hw⟩ := hw
  refine ux_iald C (uc_87 C.2.2.2.2.2) hi_32 dX12_evening_196 ?_
  refine ux_iconst C (v := 1) (by decide) dX12_evening_197 ?_
  obtain ⟨hi_26, hw⟩ := hw
  refine ux_iast C (uc_89 C.2.2.2.2.2) hi_26 dX12_evening_198 ?_
  refine ux_aload_n C 1 rfl rfl dX12_evening_199 ?_
  refine gf_12_59 C dX12_evening_200 ?_
  refine ux_iload C 9 rfl dX12_evening_203 ?_
  obtain ⟨hi_31, hw⟩ := hw
  refine ux_iald C (uc_86 C.2.2.2.2.2) hi_31 dX12_evening_205 ?_
  refine ux_iload C 5 rfl dX12_evening_206 ?_
  refine ux_icmp_le C (tgt := 221) (by decide) dX12_evening_208 (fun hc_30 => ?_) (fun hc_30 => ?_)
  · replace hw := hw.1 hc_30
    refine ux_iload C 5 rfl dX12_evening_221 ?_
    exact ux_pick [1, 2, 3, 4, 0, 6, 7, 8, 9] rfl (c_Model_evening_j223 hN  C ih_16 hw)
  · replace hw := hw.2 hc_30
    refine ux_aload_n C 1 rfl rfl dX12_evening_211 ?_
    refine gf_12_59 C dX12_evening_212 ?_
    refine ux_iload C 9 rfl dX12_evening_215 ?_
    obtain ⟨hi_29, hw⟩ := hw
    refine ux_iald C (uc_86 C.2.2.2.2.2) hi_29 dX12_evening_217 ?_
    refine ux_goto C (tgt := 223) (by decide) dX12_evening_218 ?_
    exact ux_pick [1, 2, 3, 4, 0, 6, 7, 8, 9] rfl (c_Model_evening_j223 hN  C ih_16 hw)
set_option maxHeartbeats 2000000 in
set_option maxRecDepth 4000 in
theorem c_Model_evening_j159 {D : va_G} {G : Nat → Nat} {z N : Nat} {p : Program} {l : Launch} {e : Env} {s : State} {m : MethodId} {args : Array Value} {below : List Frame} {meth : Method} {c : Code} (hN : 92 ≤ N) {a0 : ud_St} {x1 : Int32} {x2 : Int32} {x3 : Int32} {b_159 : ud_St} {y2_159 : Int32} {y3_159 : Int32} {y4_159 : Int64} {y6_159 : Int32} {y7_159 : Int32} {y9_159 : Int32} {y10_159 : Int32} {y11_159 : Int32} {u0_159 : Int32} {K_15 : Int64 → Int32 → Int32 → Int32 → Int32 → Int32 → ud_St → Prop}  {Qf : Int32 → ud_St → Prop} (C : ud_C D G z N p s m args meth c cX12_evening 12 RX12 (some Jvm.ClassFile.FieldType.int)) (ih_16 : ∀ (v0 : Int64) (v1 : Int32) (v2 : Int32) (v3 : Int32) (v4 : Int32) (v5 : Int32) (v6 : ud_St), K_15 v0 v1 v2 v3 v4 v5 v6 → ud_X D G z N p l e (ud_rm 7 0 0) s m args below meth c 12 0 0 (ud_Q D G z N (po_i Qf) below args s) v6 102 [(0, .ref (z + 71)), (2, .int y2_159), (3, .int y3_159), (4, .long v0), (6, .int v1), (7, .int v2), (8, .int v3), (9, .int v4), (10, .int v5)] []) (hw : w_Model_evening_j159 a0 x1 x2 x3 b_159 y2_159 y3_159 y4_159 y6_159 y7_159 y9_159 y10_159 y11_159 u0_159 K_15 Qf) : ud_X D G z N p l e (ud_rm 7 0 0) s m args below meth c 12 0 0 (ud_Q D G z N (po_i Qf) below args s) b_159 159 [(0, .ref (z + 71)), (2, .int y2_159), (3, .int y3_159), (4, .long y4_159), (6, .int y6_159), (7, .int y7_159), (9, .int y9_159), (10, .int y10_159), (11, .int y11_159)] [.int u0_159] := by
  unfold w_Model_evening_j159 at hw
  refine ux_istore C (by decide) rfl dX12_evening_159 ?_
  refine ux_iload C 5 rfl dX12_evening_161 ?_
  refine ux_aload_n C 1 rfl rfl dX12_evening_163 ?_
  refine gf_12_68 C dX12_evening_164 ?_
  refine ux_aload_n C 1 rfl rfl dX12_evening_167 ?_
  refine gf_12_62 C dX12_evening_168 ?_
  refine ux_iload C 9 rfl dX12_evening_171 ?_
  obtain ⟨hi_35, hw⟩ := hw
  refine ux_iald C (uc_87 C.2.2.2.2.2) hi_35 dX12_evening_173 ?_
  obtain ⟨hi_34, hw⟩ := hw
  refine ux_iald C (uc_89 C.2.2.2.2.2) hi_34 dX12_evening_174 ?_
  refine ux_if_ne C (tgt := 182) (by decide) dX12_evening_175 (fun hc_33 => ?_) (fun hc_33 => ?_)
  · replace hw := hw.2 hc_33
    refine ux_iconst C (v := 0) (by decide) dX12_evening_182 ?_
    exact ux_pick [1, 2, 3, 4, 6, 0, 7, 8, 9] rfl (c_Model_evening_j183 hN  C ih_16 hw)
  · replace hw := hw.1 hc_33
    refine ux_iconst C (v := 1) (by decide) dX12_evening_178 ?_
    refine ux_goto C (tgt := 183) (by decide) dX12_evening_179 ?_
    exact ux_pick [1, 2, 3, 4, 6, 0, 7, 8, 9] rfl (c_Model_evening_j183 hN  C ih_16 hw)
set_option maxHeartbeats 2000000 in
set_option maxRecDepth 4000 in
theorem c_Model_evening_j102 {D : va_G} {G : Nat → Nat} {z N : Nat} {p : Program} {l : Launch} {e : Env} {s : State} {m : MethodId} {args : Array Value} {below : List Frame} {meth : Method} {c : Code} (hN : 92 ≤ N) {a0 : ud_St} {x1 : Int32} {x2 : Int32} {x3 : Int32} {b_102 : ud_St} {y2_102 : Int32} {y3_102 : Int32} {y4_102 : Int64} {y6_102 : Int32} {y7_102 : Int32} {y8_102 : Int32} {y9_102 : Int32} {y10_102 : Int32}  {Qf : Int32 → ud_St → Prop} (C : ud_C D G z N p s m args meth c cX12_evening 12 RX12 (some Jvm.ClassFile.FieldType.int))  (hw : w_Model_evening_j102 a0 x1 x2 x3 b_102 y2_102 y3_102 y4_102 y6_102 y7_102 y8_102 y9_102 y10_102 Qf) : ud_X D G z N p l e (ud_rm 7 0 0) s m args below meth c 12 0 0 (ud_Q D G z N (po_i Qf) below args s) b_102 102 [(0, .ref (z + 71)), (2, .int y2_102), (3, .int y3_102), (4, .long y4_102), (6, .int y6_102), (7, .int y7_102), (8, .int y8_102), (9, .int y9_102), (10, .int y10_102)] [] := by
  unfold w_Model_evening_j102 at hw
  refine ux_pick [0, 1, 2, 3, 4, 5, 6, 7, 8] rfl ?_
  refine LW7.elim (P := fun (x4_17 : Int64) (x6_18 : Int32) (x7_19 : Int32) (x8_20 : Int32) (x9_21 : Int32) (x10_22 : Int32) (a_23 : ud_St) => ud_X D G z N p l e (ud_rm 7 0 0) s m args below meth c 12 0 0 (ud_Q D G z N (po_i Qf) below args s) a_23 102 [(0, .ref (z + 71)), (2, .int y2_102), (3, .int y3_102), (4, .long x4_17), (6, .int x6_18), (7, .int x7_19), (8, .int x8_20), (9, .int x9_21), (10, .int x10_22)] []) hw ?_
  intro x4_17 x6_18 x7_19 x8_20 x9_21 x10_22 a_23 K_15 hw ih_16
  refine ux_iload C 8 rfl dX12_evening_102 ?_
  refine ux_iload_n C 1 rfl rfl dX12_evening_104 ?_
  refine ux_icmp_ge C (tgt := 253) (by decide) dX12_evening_105 (fun hc_40 => ?_) (fun hc_40 => ?_)
  · replace hw := hw.1 hc_40
    refine ux_iload_n C 2 rfl rfl dX12_evening_253 ?_
    refine ux_if_ne C (tgt := 262) (by decide) dX12_evening_254 (fun hc_25 => ?_) (fun hc_25 => ?_)
    · replace hw := hw.2 hc_25
      refine ux_iload_n C 2 rfl rfl dX12_evening_262 ?_
      refine ux_iconst C (v := 1) (by decide) dX12_evening_263 ?_
      refine ux_icmp_ne C (tgt := 272) (by decide) dX12_evening_264 (fun hc_24 => ?_) (fun hc_24 => ?_)
      · replace hw := hw.2 hc_24
        refine ux_iload C 7 rfl dX12_evening_272 ?_
        exact ux_iret C ⟨_, rfl, hw⟩ dX12_evening_274
      · replace hw := hw.1 hc_24
        refine ux_iload C 5 rfl dX12_evening_267 ?_
        refine ux_goto C (tgt := 274) (by decide) dX12_evening_269 ?_
        exact ux_iret C ⟨_, rfl, hw⟩ dX12_evening_274
    · replace hw := hw.1 hc_25
      refine ux_iload C 4 rfl dX12_evening_257 ?_
      refine ux_goto C (tgt := 274) (by decide) dX12_evening_259 ?_
      exact ux_iret C ⟨_, rfl, hw⟩ dX12_evening_274
  · replace hw := hw.2 hc_40
    refine ux_ldc2 C (v := 1103515245) mw_1863 dX12_evening_108 ?_
    refine ux_lload C 3 rfl dX12_evening_111 ?_
    refine ux_lmul C dX12_evening_113 ?_
    refine ux_ldc2 C (v := 12345) mw_1864 dX12_evening_114 ?_
    refine ux_ladd C dX12_evening_117 ?_
    refine ux_ldc2 C (v := 2147483648) mw_1865 dX12_evening_118 ?_
    refine ux_lrem C (by decide) dX12_evening_121 ?_
    refine ux_lstore C (by decide) rfl dX12_evening_122 ?_
    refine ux_lload C 0 rfl dX12_evening_124 ?_
    refine ux_ldc2 C (v := 65536) mw_1866 dX12_evening_126 ?_
    refine ux_ldiv C (by decide) dX12_evening_129 ?_
    refine ux_aload_n C 1 rfl rfl dX12_evening_130 ?_
    refine gf_12_34 C dX12_evening_131 ?_
    refine ux_iconst C (v := 2) (by decide) dX12_evening_134 ?_
    obtain ⟨hi_39, hw⟩ := hw
    refine ux_iald C (uc_78 C.2.2.2.2.2) hi_39 dX12_evening_135 ?_
    refine ux_i2l C dX12_evening_136 ?_
    obtain ⟨hc_38, hw⟩ := hw
    refine ux_lrem C hc_38 dX12_evening_137 ?_
    refine ux_l2i C dX12_evening_138 ?_
    refine ux_istore C (by decide) rfl dX12_evening_139 ?_
    refine ux_iload C 7 rfl dX12_evening_141 ?_
    refine ux_iconst C (v := -1) (by decide) dX12_evening_143 ?_
    refine ux_icmp_ne C (tgt := 157) (by decide) dX12_evening_144 (fun hc_37 => ?_) (fun hc_37 => ?_)
    · replace hw := hw.2 hc_37
      refine ux_iload C 7 rfl dX12_evening_157 ?_
      exact ux_pick [2, 3, 4, 1, 5, 6, 8, 9, 0] rfl (c_Model_evening_j159 hN  C ih_16 hw)
    · replace hw := hw.1 hc_37
      refine ux_aload_n C 2 rfl rfl dX12_evening_147 ?_
      refine gf_12_62 C dX12_evening_148 ?_
      refine ux_iload C 0 rfl dX12_evening_151 ?_
      obtain ⟨hi_36, hw⟩ := hw
      refine ux_iald C (uc_87 C.2.2.2.2.2) hi_36 dX12_evening_153 ?_
      refine ux_goto C (tgt := 159) (by decide) dX12_evening_154 ?_
      exact ux_pick [2, 3, 4, 1, 5, 6, 8, 9, 0] rfl (c_Model_evening_j159 hN  C ih_16 hw)
set_option maxHeartbeats 2000000 in
set_option maxRecDepth 4000 in
theorem c_Model_evening_j58 {D : va_G} {G : Nat → Nat} {z N : Nat} {p : Program} {l : Launch} {e : Env} {s : State} {m : MethodId} {args : Array Value} {below : List Frame} {meth : Method} {c : Code} (hN : 92 ≤ N) {a0 : ud_St} {x1 : Int32} {x2 : Int32} {x3 : Int32} {b_58 : ud_St} {y1_58 : Int32} {y2_58 : Int32} {y3_58 : Int32} {y4_58 : Int32}  {Qf : Int32 → ud_St → Prop} (C : ud_C D G z N p s m args meth c cX12_evening 12 RX12 (some Jvm.ClassFile.FieldType.int))  (hw : w_Model_evening_j58 a0 x1 x2 x3 b_58 y1_58 y2_58 y3_58 y4_58 Qf) : ud_X D G z N p l e (ud_rm 7 0 0) s m args below meth c 12 0 0 (ud_Q D G z N (po_i Qf) below args s) b_58 58 [(0, .ref (z + 71)), (1, .int y1_58), (2, .int y2_58), (3, .int y3_58), (4, .int y4_58)] [] := by
  unfold w_Model_evening_j58 at hw
  refine ux_pick [0, 1, 2, 3, 4] rfl ?_
  refine LW2.elim (P := fun (x4_13 : Int32) (a_14 : ud_St) => ud_X D G z N p l e (ud_rm 7 0 0) s m args below meth c 12 0 0 (ud_Q D G z N (po_i Qf) below args s) a_14 58 [(0, .ref (z + 71)), (1, .int y1_58), (2, .int y2_58), (3, .int y3_58), (4, .int x4_13)] []) hw ?_
  intro x4_13 a_14 K_11 hw ih_12
  refine ux_iload C 4 rfl dX12_evening_58 ?_
  refine ux_aload_n C 0 rfl rfl dX12_evening_60 ?_
  refine gf_12_34 C dX12_evening_61 ?_
  refine ux_iconst C (v := 2) (by decide) dX12_evening_64 ?_
  obtain ⟨hi_43, hw⟩ := hw
  refine ux_iald C (uc_78 C.2.2.2.2.2) hi_43 dX12_evening_65 ?_
  refine ux_icmp_ge C (tgt := 83) (by decide) dX12_evening_66 (fun hc_42 => ?_) (fun hc_42 => ?_)
  · replace hw := hw.1 hc_42
    refine ux_iload_n C 1 rfl rfl dX12_evening_83 ?_
    refine ux_i2l C dX12_evening_84 ?_
    refine ux_lstore C (by decide) rfl dX12_evening_85 ?_
    refine ux_iconst C (v := 0) (by decide) dX12_evening_87 ?_
    refine ux_istore C (by decide) rfl dX12_evening_88 ?_
    refine ux_iconst C (v := 0) (by decide) dX12_evening_90 ?_
    refine ux_istore C (by decide) rfl dX12_evening_91 ?_
    refine ux_iconst C (v := -1) (by decide) dX12_evening_93 ?_
    refine ux_istore C (by decide) rfl dX12_evening_94 ?_
    refine ux_iconst C (v := 0) (by decide) dX12_evening_96 ?_
    refine ux_istore C (by decide) rfl dX12_evening_97 ?_
    refine ux_iconst C (v := 0) (by decide) dX12_evening_99 ?_
    refine ux_istore C (by decide) rfl dX12_evening_100 ?_
    exact ux_pick [6, 8, 9, 5, 4, 3, 2, 1, 0] rfl (c_Model_evening_j102 hN  C  hw)
  · replace hw := hw.2 hc_42
    refine ux_aload_n C 0 rfl rfl dX12_evening_69 ?_
    refine gf_12_68 C dX12_evening_70 ?_
    refine ux_iload C 4 rfl dX12_evening_73 ?_
    refine ux_iconst C (v := 0) (by decide) dX12_evening_75 ?_
    obtain ⟨hi_41, hw⟩ := hw
    refine ux_iast C (uc_89 C.2.2.2.2.2) hi_41 dX12_evening_76 ?_
    refine ux_iinc C 4 rfl rfl (by decide) rfl dX12_evening_77 ?_
    refine ux_goto C (tgt := 58) (by decide) dX12_evening_80 ?_
    exact ux_pick [1, 2, 3, 4, 0] rfl (ih_12 _ _ hw)
set_option maxHeartbeats 2000000 in
set_option maxRecDepth 4000 in
theorem c_Model_evening {l : Launch} {D : va_G} {G : Nat → Nat} {z N : Nat} (hN : 92 ≤ N) {a0 : ud_St} {x1 : Int32} {x2 : Int32} {x3 : Int32}  {Qf : Int32 → ud_St → Prop} (hw : w_Model_evening a0 x1 x2 x3 Qf) : ud_M l D G z N yX12_evening cX12_evening 12 (some Jvm.ClassFile.FieldType.int) 7 [.ref (z + 71), .int x1, .int x2, .int x3] a0 (po_i Qf) := by
  unfold w_Model_evening at hw
  refine ud_M_of hN (by decide) (Nat.le_of_ble_eq_true rfl) ?_
  intro p e s m args below meth c C
  have C : ud_C D G z N p s m args meth c cX12_evening 12 RX12 (some Jvm.ClassFile.FieldType.int) := C
  show ud_X D G z N p l e (ud_rm 7 0 0) s m args below meth c 12 0 0 (ud_Q D G z N (po_i Qf) below args s) a0 0 [(0, .ref (z + 71)), (1, .int x1), (2, .int x2), (3, .int x3)] []
  refine ux_aload_n C 0 rfl rfl dX12_evening_0 ?_
  refine ux_iconst C (v := 0) (by decide) dX12_evening_1 ?_
  refine pf_12_77 C dX12_evening_2 ?_
  refine ux_aload_n C 0 rfl rfl dX12_evening_5 ?_
  refine cs_12_299 C  (c_Model_isTable hN  hw) (by decide) (by decide) (Nat.le_of_ble_eq_true rfl) dX12_evening_6 (po_ip.k fun r_1 hw => ?_)
  refine ux_if_eq C (tgt := 48) (by decide) dX12_evening_9 (fun hc_47 => ?_) (fun hc_47 => ?_)
  · replace hw := hw.1 hc_47
    refine ux_bipush C (v := -2) (by decide) dX12_evening_48 ?_
    exact ux_iret C ⟨_, rfl, hw⟩ dX12_evening_50
  · replace hw := hw.2 hc_47
    refine ux_iload_n C 1 rfl rfl dX12_evening_12 ?_
    refine ux_i2l C dX12_evening_13 ?_
    refine ux_lconst C (v := 0) (by decide) dX12_evening_14 ?_
    refine ux_ldc2 C (v := 2000000000) mw_1861 dX12_evening_15 ?_
    refine cs_12_82 C  (c_Model_in hN  hw) (by decide) (by decide) (Nat.le_of_ble_eq_true rfl) dX12_evening_18 (po_ip.k fun r_3 hw => ?_)
    refine ux_if_eq C (tgt := 48) (by decide) dX12_evening_21 (fun hc_46 => ?_) (fun hc_46 => ?_)
    · replace hw := hw.1 hc_46
      refine ux_bipush C (v := -2) (by decide) dX12_evening_48 ?_
      exact ux_iret C ⟨_, rfl, hw⟩ dX12_evening_50
    · replace hw := hw.2 hc_46
      refine ux_iload_n C 2 rfl rfl dX12_evening_24 ?_
      refine ux_i2l C dX12_evening_25 ?_
      refine ux_lconst C (v := 1) (by decide) dX12_evening_26 ?_
      refine ux_ldc2 C (v := 100) mw_1862 dX12_evening_27 ?_
      refine cs_12_82 C  (c_Model_in hN  hw) (by decide) (by decide) (Nat.le_of_ble_eq_true rfl) dX12_evening_30 (po_ip.k fun r_5 hw => ?_)
      refine ux_if_eq C (tgt := 48) (by decide) dX12_evening_33 (fun hc_45 => ?_) (fun hc_45 => ?_)
      · replace hw := hw.1 hc_45
        refine ux_bipush C (v := -2) (by decide) dX12_evening_48 ?_
        exact ux_iret C ⟨_, rfl, hw⟩ dX12_evening_50
      · replace hw := hw.2 hc_45
        refine ux_iload_n C 3 rfl rfl dX12_evening_36 ?_
        refine ux_i2l C dX12_evening_37 ?_
        refine ux_lconst C (v := 0) (by decide) dX12_evening_38 ?_
        refine ux_ldc2 C (v := 2) mw_1707 dX12_evening_39 ?_
        refine cs_12_82 C  (c_Model_in hN  hw) (by decide) (by decide) (Nat.le_of_ble_eq_true rfl) dX12_evening_42 (po_ip.k fun r_7 hw => ?_)
        refine ux_if_ne C (tgt := 51) (by decide) dX12_evening_45 (fun hc_44 => ?_) (fun hc_44 => ?_)
        · replace hw := hw.2 hc_44
          refine ux_aload_n C 0 rfl rfl dX12_evening_51 ?_
          refine cs_12_319 C  (c_Model_all hN  hw) (by decide) (by decide) (Nat.le_of_ble_eq_true rfl) dX12_evening_52 (po_v.k fun a_10 hw => ?_)
          refine ux_iconst C (v := 0) (by decide) dX12_evening_55 ?_
          refine ux_istore C (by decide) rfl dX12_evening_56 ?_
          exact ux_pick [1, 2, 3, 4, 0] rfl (c_Model_evening_j58 hN  C  hw)
        · replace hw := hw.1 hc_44
          refine ux_bipush C (v := -2) (by decide) dX12_evening_48 ?_
          exact ux_iret C ⟨_, rfl, hw⟩ dX12_evening_50
set_option maxHeartbeats 2000000 in
set_option maxRecDepth 4000 in
theorem c_Reader_readLine {l : Launch} {D : va_G} {G : Nat → Nat} {z N : Nat} (hN : 92 ≤ N) {a0 : ud_St}   {Qf : Int32 → ud_St → Prop} (hw : w_Reader_readLine a0  Qf) : ud_M l D G z N yX6_readLine cX6_readLine 2 (some Jvm.ClassFile.FieldType.boolean) 8 [.ref (z + 3), .ref (z + 15)] a0 (po_i Qf) := by
  unfold w_Reader_readLine at hw
  refine ud_M_of hN (by decide) (Nat.le_of_ble_eq_true rfl) ?_
  intro p e s m args below meth c C
  have C : ud_C D G z N p s m args meth c cX6_readLine 2 RX6 (some Jvm.ClassFile.FieldType.boolean) := C
  show ud_X D G z N p l e (ud_rm 8 0 0) s m args below meth c 2 0 0 (ud_Q D G z N (po_i Qf) below args s) a0 0 [(0, .ref (z + 3)), (1, .ref (z + 15))] []
  refine ux_aload_n C 1 rfl rfl dX6_readLine_0 ?_
  refine gf_6_44 C (uc_15 C.2.2.2.2.2) dX6_readLine_1 ?_
  refine ux_if_ne C (tgt := 13) (by decide) dX6_readLine_4 (fun hc_25 => ?_) (fun hc_25 => ?_)
  · replace hw := hw.2 hc_25
    refine ux_aload_n C 0 rfl rfl dX6_readLine_13 ?_
    refine ux_ldcS C 3 (by decide) rfl dX6_readLine_14 ?_
    refine cs_6_52 C  (c_Reader_isText hN  hw) (by decide) (by decide) (Nat.le_of_ble_eq_true rfl) dX6_readLine_16 (po_ip.k fun r_1 hw => ?_)
    refine ux_if_eq C (tgt := 28) (by decide) dX6_readLine_19 (fun hc_21 => ?_) (fun hc_21 => ?_)
    · replace hw := hw.1 hc_21
      refine ux_aload_n C 0 rfl rfl dX6_readLine_28 ?_
      refine ux_ldcS C 19 (by decide) rfl dX6_readLine_29 ?_
      refine cs_6_52 C  (c_Reader_isText hN  hw) (by decide) (by decide) (Nat.le_of_ble_eq_true rfl) dX6_readLine_31 (po_ip.k fun r_3 hw => ?_)
      refine ux_if_eq C (tgt := 43) (by decide) dX6_readLine_34 (fun hc_17 => ?_) (fun hc_17 => ?_)
      · replace hw := hw.1 hc_17
        refine ux_aload_n C 0 rfl rfl dX6_readLine_43 ?_
        refine ux_ldcS C 20 (by decide) rfl dX6_readLine_44 ?_
        refine cs_6_52 C  (c_Reader_isText hN  hw) (by decide) (by decide) (Nat.le_of_ble_eq_true rfl) dX6_readLine_46 (po_ip.k fun r_5 hw => ?_)
        refine ux_if_eq C (tgt := 60) (by decide) dX6_readLine_49 (fun hc_13 => ?_) (fun hc_13 => ?_)
        · replace hw := hw.1 hc_13
          refine ux_aload_n C 0 rfl rfl dX6_readLine_60 ?_
          refine ux_iconst C (v := 1) (by decide) dX6_readLine_61 ?_
          refine cs_6_69 C  (c_Reader_wrong hN  hw) (by decide) (by decide) (Nat.le_of_ble_eq_true rfl) dX6_readLine_62 (po_i.k fun r_7 a_8 hw => ?_)
          obtain ⟨hn_9, hw⟩ := hw
          exact ux_zret C (ud_narZ hn_9) ⟨_, rfl, hw⟩ dX6_readLine_65
        · replace hw := hw.2 hc_13
          refine ux_aload_n C 0 rfl rfl dX6_readLine_52 ?_
          refine ux_aload_n C 1 rfl rfl dX6_readLine_53 ?_
          refine cs_6_66 C  (c_Reader_readSlip hN  hw) (by decide) (by decide) (Nat.le_of_ble_eq_true rfl) dX6_readLine_54 (po_i.k fun r_10 a_11 hw => ?_)
          refine ux_goto C (tgt := 65) (by decide) dX6_readLine_57 ?_
          obtain ⟨hn_12, hw⟩ := hw
          exact ux_zret C (ud_narZ hn_12) ⟨_, rfl, hw⟩ dX6_readLine_65
      · replace hw := hw.2 hc_17
        refine ux_aload_n C 0 rfl rfl dX6_readLine_37 ?_
        refine ux_aload_n C 1 rfl rfl dX6_readLine_38 ?_
        refine cs_6_61 C  (c_Reader_readTold hN  hw) (by decide) (by decide) (Nat.le_of_ble_eq_true rfl) dX6_readLine_39 (po_i.k fun r_14 a_15 hw => ?_)
        obtain ⟨hn_16, hw⟩ := hw
        exact ux_zret C (ud_narZ hn_16) ⟨_, rfl, hw⟩ dX6_readLine_42
    · replace hw := hw.2 hc_21
      refine ux_aload_n C 0 rfl rfl dX6_readLine_22 ?_
      refine ux_aload_n C 1 rfl rfl dX6_readLine_23 ?_
      refine cs_6_56 C  (c_Reader_readDoing hN  hw) (by decide) (by decide) (Nat.le_of_ble_eq_true rfl) dX6_readLine_24 (po_i.k fun r_18 a_19 hw => ?_)
      obtain ⟨hn_20, hw⟩ := hw
      exact ux_zret C (ud_narZ hn_20) ⟨_, rfl, hw⟩ dX6_readLine_27
  · replace hw := hw.1 hc_25
    refine ux_aload_n C 0 rfl rfl dX6_readLine_7 ?_
    refine ux_aload_n C 1 rfl rfl dX6_readLine_8 ?_
    refine cs_6_47 C  (c_Reader_readBase hN  hw) (by decide) (by decide) (Nat.le_of_ble_eq_true rfl) dX6_readLine_9 (po_i.k fun r_22 a_23 hw => ?_)
    obtain ⟨hn_24, hw⟩ := hw
    exact ux_zret C (ud_narZ hn_24) ⟨_, rfl, hw⟩ dX6_readLine_12
set_option maxHeartbeats 2000000 in
set_option maxRecDepth 4000 in
theorem c_Reader_read {l : Launch} {D : va_G} {G : Nat → Nat} {z N : Nat} (hN : 92 ≤ N) {a0 : ud_St}   {Qf : Int32 → ud_St → Prop} (hw : w_Reader_read a0  Qf) : ud_M l D G z N yX6_read cX6_read 3 (some Jvm.ClassFile.FieldType.boolean) 9 [.ref (z + 3), .ref (z + 15)] a0 (po_i Qf) := by
  unfold w_Reader_read at hw
  refine ud_M_of hN (by decide) (Nat.le_of_ble_eq_true rfl) ?_
  intro p e s m args below meth c C
  have C : ud_C D G z N p s m args meth c cX6_read 3 RX6 (some Jvm.ClassFile.FieldType.boolean) := C
  show ud_X D G z N p l e (ud_rm 9 0 0) s m args below meth c 3 0 0 (ud_Q D G z N (po_i Qf) below args s) a0 0 [(0, .ref (z + 3)), (1, .ref (z + 15))] []
  refine ux_aload_n C 0 rfl rfl dX6_read_0 ?_
  refine ux_iconst C (v := 0) (by decide) dX6_read_1 ?_
  refine pf_6_19 C dX6_read_2 ?_
  refine ux_aload_n C 0 rfl rfl dX6_read_5 ?_
  refine ux_iconst C (v := -1) (by decide) dX6_read_6 ?_
  refine pf_6_9 C dX6_read_7 ?_
  refine ux_aload_n C 0 rfl rfl dX6_read_10 ?_
  refine ux_iconst C (v := 0) (by decide) dX6_read_11 ?_
  refine pf_6_22 C dX6_read_12 ?_
  refine ux_aload_n C 1 rfl rfl dX6_read_15 ?_
  refine cs_6_25 C  (c_Table_clear hN  hw) (by decide) (by decide) (Nat.le_of_ble_eq_true rfl) dX6_read_16 (po_v.k fun a_2 hw => ?_)
  refine ux_aload_n C 0 rfl rfl dX6_read_19 ?_
  refine cs_6_30 C  (c_Reader_advance hN  hw) (by decide) (by decide) (Nat.le_of_ble_eq_true rfl) dX6_read_20 (po_v.k fun a_4 hw => ?_)
  refine ux_iconst C (v := 0) (by decide) dX6_read_23 ?_
  refine ux_istore_n C rfl (by decide) rfl dX6_read_24 ?_
  refine ux_pick [1, 2, 0] rfl ?_
  refine LW2.elim (P := fun (x2_7 : Int32) (a_8 : ud_St) => ud_X D G z N p l e (ud_rm 9 0 0) s m args below meth c 3 0 0 (ud_Q D G z N (po_i Qf) below args s) a_8 25 [(0, .ref (z + 3)), (1, .ref (z + 15)), (2, .int x2_7)] []) hw ?_
  intro x2_7 a_8 K_5 hw ih_6
  refine ux_iload_n C 2 rfl rfl dX6_read_25 ?_
  refine ux_sipush C (v := 800) (by decide) dX6_read_26 ?_
  refine ux_icmp_gt C (tgt := 72) (by decide) dX6_read_29 (fun hc_16 => ?_) (fun hc_16 => ?_)
  · replace hw := hw.1 hc_16
    refine ux_iconst C (v := 1) (by decide) dX6_read_72 ?_
    exact ux_zret C rfl ⟨_, rfl, hw⟩ dX6_read_73
  · replace hw := hw.2 hc_16
    refine ux_aload_n C 0 rfl rfl dX6_read_32 ?_
    refine gf_6_33 C dX6_read_33 ?_
    refine ux_if_eq C (tgt := 72) (by decide) dX6_read_36 (fun hc_15 => ?_) (fun hc_15 => ?_)
    · replace hw := hw.1 hc_15
      refine ux_iconst C (v := 1) (by decide) dX6_read_72 ?_
      exact ux_zret C rfl ⟨_, rfl, hw⟩ dX6_read_73
    · replace hw := hw.2 hc_15
      refine ux_aload_n C 0 rfl rfl dX6_read_39 ?_
      refine ux_aload_n C 1 rfl rfl dX6_read_40 ?_
      refine cs_6_36 C  (c_Reader_readLine hN  hw) (by decide) (by decide) (Nat.le_of_ble_eq_true rfl) dX6_read_41 (po_i.k fun r_9 a_10 hw => ?_)
      refine ux_if_eq C (tgt := 54) (by decide) dX6_read_44 (fun hc_14 => ?_) (fun hc_14 => ?_)
      · replace hw := hw.1 hc_14
        refine ux_iconst C (v := 0) (by decide) dX6_read_54 ?_
        exact ux_zret C rfl ⟨_, rfl, hw⟩ dX6_read_55
      · replace hw := hw.2 hc_14
        refine ux_aload_n C 0 rfl rfl dX6_read_47 ?_
        refine cs_6_40 C  (c_Reader_readSign hN  hw) (by decide) (by decide) (Nat.le_of_ble_eq_true rfl) dX6_read_48 (po_i.k fun r_11 a_12 hw => ?_)
        refine ux_if_ne C (tgt := 56) (by decide) dX6_read_51 (fun hc_13 => ?_) (fun hc_13 => ?_)
        · replace hw := hw.2 hc_13
          refine ux_aload_n C 1 rfl rfl dX6_read_56 ?_
          refine ux_dup C rfl dX6_read_57 ?_
          refine gf_6_44 C (uc_15 C.2.2.2.2.2) dX6_read_58 ?_
          refine ux_iconst C (v := 1) (by decide) dX6_read_61 ?_
          refine ux_iadd C dX6_read_62 ?_
          refine pf_6_44 C (uc_15 C.2.2.2.2.2) dX6_read_63 ?_
          refine ux_iinc C 2 rfl rfl (by decide) rfl dX6_read_66 ?_
          refine ux_goto C (tgt := 25) (by decide) dX6_read_69 ?_
          exact ux_pick [1, 2, 0] rfl (ih_6 _ _ hw)
        · replace hw := hw.1 hc_13
          refine ux_iconst C (v := 0) (by decide) dX6_read_54 ?_
          exact ux_zret C rfl ⟨_, rfl, hw⟩ dX6_read_55
set_option maxHeartbeats 2000000 in
set_option maxRecDepth 4000 in
theorem c_UpAndDown_table {l : Launch} {D : va_G} {G : Nat → Nat} {z N : Nat} (hN : 92 ≤ N) {a0 : ud_St}   {Qf : Int32 → ud_St → Prop} (hw : w_UpAndDown_table a0  Qf) : ud_M l D G z N yX11_table cX11_table 2 (some Jvm.ClassFile.FieldType.int) 10 [.ref (z + 0)] a0 (po_i Qf) := by
  unfold w_UpAndDown_table at hw
  refine ud_M_of hN (by decide) (Nat.le_of_ble_eq_true rfl) ?_
  intro p e s m args below meth c C
  have C : ud_C D G z N p s m args meth c cX11_table 2 RX11 (some Jvm.ClassFile.FieldType.int) := C
  show ud_X D G z N p l e (ud_rm 10 0 0) s m args below meth c 2 0 0 (ud_Q D G z N (po_i Qf) below args s) a0 0 [(0, .ref (z + 0))] []
  refine ux_aload_n C 0 rfl rfl dX11_table_0 ?_
  refine gf_11_21 C dX11_table_1 ?_
  refine ux_aload_n C 0 rfl rfl dX11_table_4 ?_
  refine gf_11_32 C dX11_table_5 ?_
  refine cs_11_100 C  (c_Reader_read hN  hw) (by decide) (by decide) (Nat.le_of_ble_eq_true rfl) dX11_table_8 (po_i.k fun r_1 a_2 hw => ?_)
  refine ux_istore_n C rfl (by decide) rfl dX11_table_11 ?_
  refine ux_aload_n C 1 rfl rfl dX11_table_12 ?_
  refine gf_11_10 C dX11_table_13 ?_
  refine ux_iconst C (v := 0) (by decide) dX11_table_16 ?_
  refine pf_11_96 C dX11_table_17 ?_
  refine ux_iload_n C 0 rfl rfl dX11_table_20 ?_
  refine ux_if_ne C (tgt := 27) (by decide) dX11_table_21 (fun hc_7 => ?_) (fun hc_7 => ?_)
  · replace hw := hw.2 hc_7
    refine ux_aload_n C 1 rfl rfl dX11_table_27 ?_
    refine gf_11_28 C dX11_table_28 ?_
    refine ux_aload_n C 1 rfl rfl dX11_table_31 ?_
    refine gf_11_32 C dX11_table_32 ?_
    refine cs_11_104 C (uc_4 C.2.2.2.2.2) (c_Table_copy hN (uc_4 C.2.2.2.2.2) (uc_15 C.2.2.2.2.2) hw) (by decide) (by decide) (Nat.le_of_ble_eq_true rfl) dX11_table_35 (po_v.k fun a_4 hw => ?_)
    refine ux_aload_n C 1 rfl rfl dX11_table_38 ?_
    refine cs_11_108 C  (c_UpAndDown_begin hN  hw) (by decide) (by decide) (Nat.le_of_ble_eq_true rfl) dX11_table_39 (po_v.k fun a_6 hw => ?_)
    refine ux_aload_n C 1 rfl rfl dX11_table_42 ?_
    refine gf_11_28 C dX11_table_43 ?_
    refine gf_11_111 C (uc_4 C.2.2.2.2.2) dX11_table_46 ?_
    exact ux_iret C ⟨_, rfl, hw⟩ dX11_table_49
  · replace hw := hw.1 hc_7
    refine ux_bipush C (v := -4) (by decide) dX11_table_24 ?_
    exact ux_iret C ⟨_, rfl, hw⟩ dX11_table_26
