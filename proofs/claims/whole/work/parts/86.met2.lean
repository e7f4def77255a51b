/-! the methods meet what they ask -/
set_option maxHeartbeats 2000000 in
set_option maxRecDepth 4000 in
theorem c_Evening_withTheFirst {l : Launch} {D : va_G} {G : Nat → Nat} {z N : Nat} (hN : 92 ≤ N) {a0 : ud_St}   {Qf : Int32 → Prop} (hw : w_Evening_withTheFirst a0  Qf) : ud_M l D G z N yX3_withTheFirst cX3_withTheFirst 4 (some Jvm.ClassFile.FieldType.int) 3 [.ref (z + 59), .ref (z + 36)] a0 (po_ip a0 Qf) := by
  unfold w_Evening_withTheFirst at hw
  refine ud_M_of hN (by decide) (Nat.le_of_ble_eq_true rfl) ?_
  intro p e s m args below meth c C
  have C : ud_C D G z N p s m args meth c cX3_withTheFirst 4 RX3 (some Jvm.ClassFile.FieldType.int) := C
  show ud_X D G z N p l e (ud_rm 3 0 0) s m args below meth c 4 0 0 (ud_Q D G z N (po_ip a0 Qf) below args s) a0 0 [(0, .ref (z + 59)), (1, .ref (z + 36))] []
  refine ux_iconst C (v := 0) (by decide) dX3_withTheFirst_0 ?_
  refine ux_istore_n C rfl (by decide) rfl dX3_withTheFirst_1 ?_
  refine ux_iconst C (v := 0) (by decide) dX3_withTheFirst_2 ?_
  refine ux_istore_n C rfl (by decide) rfl dX3_withTheFirst_3 ?_
  refine ux_pick [2, 3, 1, 0] rfl ?_
  refine LW2.elim (P := fun (x2_3 : Int32) (x3_4 : Int32) => ud_X D G z N p l e (ud_rm 3 0 0) s m args below meth c 4 0 0 (ud_Q D G z N (po_ip a0 Qf) below args s) a0 4 [(0, .ref (z + 59)), (1, .ref (z + 36)), (2, .int x2_3), (3, .int x3_4)] []) hw ?_
  intro x2_3 x3_4 K_1 hw ih_2
  refine ux_iload_n C 3 rfl rfl dX3_withTheFirst_4 ?_
  refine ux_aload_n C 0 rfl rfl dX3_withTheFirst_5 ?_
  refine gf_3_15 C dX3_withTheFirst_6 ?_
  refine ux_icmp_ge C (tgt := 41) (by decide) dX3_withTheFirst_9 (fun hc_10 => ?_) (fun hc_10 => ?_)
  · replace hw := hw.1 hc_10
    refine ux_iload_n C 2 rfl rfl dX3_withTheFirst_41 ?_
    exact ux_iret C ⟨_, rfl, rfl, hw⟩ dX3_withTheFirst_42
  · replace hw := hw.2 hc_10
    refine ux_iload_n C 2 rfl rfl dX3_withTheFirst_12 ?_
    refine ux_aload_n C 0 rfl rfl dX3_withTheFirst_13 ?_
    refine ux_aload_n C 1 rfl rfl dX3_withTheFirst_14 ?_
    refine ux_iload_n C 3 rfl rfl dX3_withTheFirst_15 ?_
    refine cs_3_51 C  (c_Evening_homeAt hN  hw) (by decide) (by decide) (Nat.le_of_ble_eq_true rfl) dX3_withTheFirst_16 (po_ip.k fun r_5 hw => ?_)
    refine ux_aload_n C 0 rfl rfl dX3_withTheFirst_19 ?_
    refine ux_aload_n C 1 rfl rfl dX3_withTheFirst_20 ?_
    refine ux_iconst C (v := 0) (by decide) dX3_withTheFirst_21 ?_
    refine cs_3_51 C  (c_Evening_homeAt hN  hw) (by decide) (by decide) (Nat.le_of_ble_eq_true rfl) dX3_withTheFirst_22 (po_ip.k fun r_7 hw => ?_)
    refine ux_icmp_ne C (tgt := 32) (by decide) dX3_withTheFirst_25 (fun hc_9 => ?_) (fun hc_9 => ?_)
    · replace hw := hw.2 hc_9
      refine ux_iconst C (v := 0) (by decide) dX3_withTheFirst_32 ?_
      refine ux_iadd C dX3_withTheFirst_33 ?_
      refine ux_istore_n C rfl (by decide) rfl dX3_withTheFirst_34 ?_
      refine ux_iinc C 3 rfl rfl (by decide) rfl dX3_withTheFirst_35 ?_
      refine ux_goto C (tgt := 4) (by decide) dX3_withTheFirst_38 ?_
      exact ux_pick [2, 3, 1, 0] rfl (ih_2 _ _ hw)
    · replace hw := hw.1 hc_9
      refine ux_iconst C (v := 1) (by decide) dX3_withTheFirst_28 ?_
      refine ux_goto C (tgt := 33) (by decide) dX3_withTheFirst_29 ?_
      refine ux_iadd C dX3_withTheFirst_33 ?_
      refine ux_istore_n C rfl (by decide) rfl dX3_withTheFirst_34 ?_
      refine ux_iinc C 3 rfl rfl (by decide) rfl dX3_withTheFirst_35 ?_
      refine ux_goto C (tgt := 4) (by decide) dX3_withTheFirst_38 ?_
      exact ux_pick [2, 3, 1, 0] rfl (ih_2 _ _ hw)
set_option maxHeartbeats 2000000 in
set_option maxRecDepth 4000 in
theorem c_Figures_prepareOne {l : Launch} {D : va_G} {G : Nat → Nat} {z N : Nat} (hN : 92 ≤ N) {a0 : ud_St} {x1 : Int32}  {Qf : ud_St → Prop} (hw : w_Figures_prepareOne a0 x1 Qf) : ud_M l D G z N yX4_prepareOne cX4_prepareOne 7 (none : Option Jvm.ClassFile.FieldType) 3 [.ref (z + 26), .int x1] a0 (po_v Qf) := by
  unfold w_Figures_prepareOne at hw
  refine ud_M_of hN (by decide) (Nat.le_of_ble_eq_true rfl) ?_
  intro p e s m args below meth c C
  have C : ud_C D G z N p s m args meth c cX4_prepareOne 7 RX4 (none : Option Jvm.ClassFile.FieldType) := C
  show ud_X D G z N p l e (ud_rm 3 0 0) s m args below meth c 7 0 0 (ud_Q D G z N (po_v Qf) below args s) a0 0 [(0, .ref (z + 26)), (1, .int x1)] []
  refine ux_iconst C (v := 0) (by decide) dX4_prepareOne_0 ?_
  refine ux_istore_n C rfl (by decide) rfl dX4_prepareOne_1 ?_
  refine ux_iconst C (v := 0) (by decide) dX4_prepareOne_2 ?_
  refine ux_istore_n C rfl (by decide) rfl dX4_prepareOne_3 ?_
  refine ux_iconst C (v := 0) (by decide) dX4_prepareOne_4 ?_
  refine ux_istore C (by decide) rfl dX4_prepareOne_5 ?_
  refine ux_iconst C (v := 0) (by decide) dX4_prepareOne_7 ?_
  refine ux_istore C (by decide) rfl dX4_prepareOne_8 ?_
  refine ux_pick [4, 5, 3, 2, 1, 0] rfl ?_
  refine LW5.elim (P := fun (x2_3 : Int32) (x3_4 : Int32) (x4_5 : Int32) (x5_6 : Int32) (a_7 : ud_St) => ud_X D G z N p l e (ud_rm 3 0 0) s m args below meth c 7 0 0 (ud_Q D G z N (po_v Qf) below args s) a_7 10 [(0, .ref (z + 26)), (1, .int x1), (2, .int x2_3), (3, .int x3_4), (4, .int x4_5), (5, .int x5_6)] []) hw ?_
  intro x2_3 x3_4 x4_5 x5_6 a_7 K_1 hw ih_2
  refine ux_iload C 5 rfl dX4_prepareOne_10 ?_
  refine ux_aload_n C 0 rfl rfl dX4_prepareOne_12 ?_
  refine gf_4_43 C dX4_prepareOne_13 ?_
  refine ux_icmp_ge C (tgt := 71) (by decide) dX4_prepareOne_16 (fun hc_46 => ?_) (fun hc_46 => ?_)
  · replace hw := hw.1 hc_46
    refine ux_aload_n C 0 rfl rfl dX4_prepareOne_71 ?_
    refine gf_4_33 C dX4_prepareOne_72 ?_
    refine ux_iload_n C 1 rfl rfl dX4_prepareOne_75 ?_
    refine ux_iload_n C 2 rfl rfl dX4_prepareOne_76 ?_
    refine ux_aload_n C 0 rfl rfl dX4_prepareOne_77 ?_
    refine gf_4_46 C dX4_prepareOne_78 ?_
    refine cs_4_63 C  (c_Cells_over hN  hw) (by decide) (by decide) (Nat.le_of_ble_eq_true rfl) dX4_prepareOne_81 (po_ip.k fun r_8 hw => ?_)
    refine cs_4_49 C  (c_Cells_put hN (uc_34 C.2.2.2.2.2) hw) (by decide) (by decide) (Nat.le_of_ble_eq_true rfl) dX4_prepareOne_84 (po_v.k fun a_11 hw => ?_)
    refine ux_aload_n C 0 rfl rfl dX4_prepareOne_87 ?_
    refine gf_4_27 C dX4_prepareOne_88 ?_
    refine ux_iload_n C 1 rfl rfl dX4_prepareOne_91 ?_
    refine ux_iload_n C 3 rfl rfl dX4_prepareOne_92 ?_
    refine ux_aload_n C 0 rfl rfl dX4_prepareOne_93 ?_
    refine gf_4_46 C dX4_prepareOne_94 ?_
    refine cs_4_63 C  (c_Cells_over hN  hw) (by decide) (by decide) (Nat.le_of_ble_eq_true rfl) dX4_prepareOne_97 (po_ip.k fun r_12 hw => ?_)
    refine cs_4_49 C  (c_Cells_put hN (uc_32 C.2.2.2.2.2) hw) (by decide) (by decide) (Nat.le_of_ble_eq_true rfl) dX4_prepareOne_100 (po_v.k fun a_15 hw => ?_)
    refine ux_aload_n C 0 rfl rfl dX4_prepareOne_103 ?_
    refine gf_4_30 C dX4_prepareOne_104 ?_
    refine ux_iload_n C 1 rfl rfl dX4_prepareOne_107 ?_
    refine ux_iload C 4 rfl dX4_prepareOne_108 ?_
    refine ux_aload_n C 0 rfl rfl dX4_prepareOne_110 ?_
    refine gf_4_46 C dX4_prepareOne_111 ?_
    refine cs_4_63 C  (c_Cells_over hN  hw) (by decide) (by decide) (Nat.le_of_ble_eq_true rfl) dX4_prepareOne_114 (po_ip.k fun r_16 hw => ?_)
    refine cs_4_49 C  (c_Cells_put hN (uc_33 C.2.2.2.2.2) hw) (by decide) (by decide) (Nat.le_of_ble_eq_true rfl) dX4_prepareOne_117 (po_v.k fun a_19 hw => ?_)
    refine ux_aload_n C 0 rfl rfl dX4_prepareOne_120 ?_
    refine gf_4_24 C dX4_prepareOne_121 ?_
    refine ux_iload_n C 1 rfl rfl dX4_prepareOne_124 ?_
    refine ux_aload_n C 0 rfl rfl dX4_prepareOne_125 ?_
    refine cs_4_66 C  (c_Figures_splitFromLast hN  hw) (by decide) (by decide) (Nat.le_of_ble_eq_true rfl) dX4_prepareOne_126 (po_ip.k fun r_20 hw => ?_)
    refine cs_4_49 C  (c_Cells_put hN (uc_31 C.2.2.2.2.2) hw) (by decide) (by decide) (Nat.le_of_ble_eq_true rfl) dX4_prepareOne_129 (po_v.k fun a_23 hw => ?_)
    refine ux_aload_n C 0 rfl rfl dX4_prepareOne_132 ?_
    refine gf_4_36 C dX4_prepareOne_133 ?_
    refine ux_iload_n C 1 rfl rfl dX4_prepareOne_136 ?_
    refine ux_iload_n C 1 rfl rfl dX4_prepareOne_137 ?_
    refine ux_aload_n C 0 rfl rfl dX4_prepareOne_138 ?_
    refine ux_aload_n C 0 rfl rfl dX4_prepareOne_139 ?_
    refine gf_4_43 C dX4_prepareOne_140 ?_
    refine ux_iconst C (v := 1) (by decide) dX4_prepareOne_143 ?_
    refine ux_isub C dX4_prepareOne_144 ?_
    refine cs_4_70 C  (c_Figures_power hN  hw) (by decide) (by decide) (Nat.le_of_ble_eq_true rfl) dX4_prepareOne_145 (po_ip.k fun r_24 hw => ?_)
    refine cs_4_63 C  (c_Cells_over hN  hw) (by decide) (by decide) (Nat.le_of_ble_eq_true rfl) dX4_prepareOne_148 (po_ip.k fun r_26 hw => ?_)
    refine ux_aload_n C 0 rfl rfl dX4_prepareOne_151 ?_
    refine gf_4_39 C dX4_prepareOne_152 ?_
    refine ux_imul C dX4_prepareOne_155 ?_
    refine ux_aload_n C 0 rfl rfl dX4_prepareOne_156 ?_
    refine gf_4_15 C dX4_prepareOne_157 ?_
    refine ux_iconst C (v := 0) (by decide) dX4_prepareOne_160 ?_
    refine cs_4_74 C  (c_Cells_at hN (uc_28 C.2.2.2.2.2) hw) (by decide) (by decide) (Nat.le_of_ble_eq_true rfl) dX4_prepareOne_161 (po_ip.k fun r_28 hw => ?_)
    refine ux_iadd C dX4_prepareOne_164 ?_
    refine cs_4_49 C  (c_Cells_put hN (uc_35 C.2.2.2.2.2) hw) (by decide) (by decide) (Nat.le_of_ble_eq_true rfl) dX4_prepareOne_165 (po_v.k fun a_31 hw => ?_)
    refine ux_aload_n C 0 rfl rfl dX4_prepareOne_168 ?_
    refine cs_4_78 C  (c_Figures_sortSplit hN  hw) (by decide) (by decide) (Nat.le_of_ble_eq_true rfl) dX4_prepareOne_169 (po_v.k fun a_33 hw => ?_)
    refine ux_aload_n C 0 rfl rfl dX4_prepareOne_172 ?_
    refine gf_4_21 C dX4_prepareOne_173 ?_
    refine ux_iload_n C 1 rfl rfl dX4_prepareOne_176 ?_
    refine ux_aload_n C 0 rfl rfl dX4_prepareOne_177 ?_
    refine cs_4_81 C  (c_Figures_splitFromFirst hN  hw) (by decide) (by decide) (Nat.le_of_ble_eq_true rfl) dX4_prepareOne_178 (po_ip.k fun r_34 hw => ?_)
    refine cs_4_49 C  (c_Cells_put hN (uc_30 C.2.2.2.2.2) hw) (by decide) (by decide) (Nat.le_of_ble_eq_true rfl) dX4_prepareOne_181 (po_v.k fun a_37 hw => ?_)
    refine ux_aload_n C 0 rfl rfl dX4_prepareOne_184 ?_
    refine gf_4_18 C dX4_prepareOne_185 ?_
    refine ux_iload_n C 1 rfl rfl dX4_prepareOne_188 ?_
    refine ux_aload_n C 0 rfl rfl dX4_prepareOne_189 ?_
    refine cs_4_66 C  (c_Figures_splitFromLast hN  hw) (by decide) (by decide) (Nat.le_of_ble_eq_true rfl) dX4_prepareOne_190 (po_ip.k fun r_38 hw => ?_)
    refine cs_4_49 C  (c_Cells_put hN (uc_29 C.2.2.2.2.2) hw) (by decide) (by decide) (Nat.le_of_ble_eq_true rfl) dX4_prepareOne_193 (po_v.k fun a_41 hw => ?_)
    exact ux_vret C ⟨rfl, hw⟩ dX4_prepareOne_196
  · replace hw := hw.2 hc_46
    refine ux_aload_n C 0 rfl rfl dX4_prepareOne_19 ?_
    refine ux_iload_n C 1 rfl rfl dX4_prepareOne_20 ?_
    refine ux_iload C 5 rfl dX4_prepareOne_21 ?_
    refine cs_4_59 C  (c_Figures_figureOf hN  hw) (by decide) (by decide) (Nat.le_of_ble_eq_true rfl) dX4_prepareOne_23 (po_ip.k fun r_42 hw => ?_)
    refine ux_istore C (by decide) rfl dX4_prepareOne_26 ?_
    refine ux_aload_n C 1 rfl rfl dX4_prepareOne_28 ?_
    refine gf_4_15 C dX4_prepareOne_29 ?_
    refine ux_iload C 6 rfl dX4_prepareOne_32 ?_
    refine ux_iload C 0 rfl dX4_prepareOne_34 ?_
    refine cs_4_49 C  (c_Cells_put hN (uc_28 C.2.2.2.2.2) hw) (by decide) (by decide) (Nat.le_of_ble_eq_true rfl) dX4_prepareOne_36 (po_v.k fun a_45 hw => ?_)
    refine ux_iload_n C 3 rfl rfl dX4_prepareOne_39 ?_
    refine ux_iload C 0 rfl dX4_prepareOne_40 ?_
    refine ux_iadd C dX4_prepareOne_42 ?_
    refine ux_istore_n C rfl (by decide) rfl dX4_prepareOne_43 ?_
    refine ux_iload_n C 4 rfl rfl dX4_prepareOne_44 ?_
    refine ux_iload C 1 rfl dX4_prepareOne_45 ?_
    refine ux_iload C 1 rfl dX4_prepareOne_47 ?_
    refine ux_imul C dX4_prepareOne_49 ?_
    refine ux_iadd C dX4_prepareOne_50 ?_
    refine ux_istore_n C rfl (by decide) rfl dX4_prepareOne_51 ?_
    refine ux_iload C 5 rfl dX4_prepareOne_52 ?_
    refine ux_iload C 2 rfl dX4_prepareOne_54 ?_
    refine ux_iload C 2 rfl dX4_prepareOne_56 ?_
    refine ux_imul C dX4_prepareOne_58 ?_
    refine ux_iload C 2 rfl dX4_prepareOne_59 ?_
    refine ux_imul C dX4_prepareOne_61 ?_
    refine ux_iadd C dX4_prepareOne_62 ?_
    refine ux_istore C (by decide) rfl dX4_prepareOne_63 ?_
    refine ux_iinc C 6 rfl rfl (by decide) rfl dX4_prepareOne_65 ?_
    refine ux_goto C (tgt := 10) (by decide) dX4_prepareOne_68 ?_
    exact ux_pick [5, 6, 3, 2, 1, 0] rfl (ih_2 _ _ _ _ _ hw)
set_option maxHeartbeats 2000000 in
set_option maxRecDepth 4000 in
theorem c_Figures_allUnlike {l : Launch} {D : va_G} {G : Nat → Nat} {z N : Nat} (hN : 92 ≤ N) {a0 : ud_St} {x1 : Int32}  {Qf : Int32 → Prop} (hw : w_Figures_allUnlike a0 x1 Qf) : ud_M l D G z N yX4_allUnlike cX4_allUnlike 4 (some Jvm.ClassFile.FieldType.boolean) 3 [.ref (z + 26), .int x1] a0 (po_ip a0 Qf) := by
  unfold w_Figures_allUnlike at hw
  refine ud_M_of hN (by decide) (Nat.le_of_ble_eq_true rfl) ?_
  intro p e s m args below meth c C
  have C : ud_C D G z N p s m args meth c cX4_allUnlike 4 RX4 (some Jvm.ClassFile.FieldType.boolean) := C
  show ud_X D G z N p l e (ud_rm 3 0 0) s m args below meth c 4 0 0 (ud_Q D G z N (po_ip a0 Qf) below args s) a0 0 [(0, .ref (z + 26)), (1, .int x1)] []
  refine ux_aload_n C 0 rfl rfl dX4_allUnlike_0 ?_
  refine ux_iload_n C 1 rfl rfl dX4_allUnlike_1 ?_
  refine cs_4_95 C  (c_Figures_leastOfKind hN  hw) (by decide) (by decide) (Nat.le_of_ble_eq_true rfl) dX4_allUnlike_2 (po_ip.k fun r_1 hw => ?_)
  refine ux_istore_n C rfl (by decide) rfl dX4_allUnlike_5 ?_
  refine ux_iconst C (v := 1) (by decide) dX4_allUnlike_6 ?_
  refine ux_istore_n C rfl (by decide) rfl dX4_allUnlike_7 ?_
  refine ux_pick [2, 1, 0] rfl ?_
  refine LW1.elim (P := fun (x3_5 : Int32) => ud_X D G z N p l e (ud_rm 3 0 0) s m args below meth c 4 0 0 (ud_Q D G z N (po_ip a0 Qf) below args s) a0 8 [(0, .ref (z + 26)), (2, .int r_1), (3, .int x3_5)] []) hw ?_
  intro x3_5 K_3 hw ih_4
  refine ux_iload_n C 2 rfl rfl dX4_allUnlike_8 ?_
  refine ux_aload_n C 0 rfl rfl dX4_allUnlike_9 ?_
  refine gf_4_43 C dX4_allUnlike_10 ?_
  refine ux_icmp_ge C (tgt := 41) (by decide) dX4_allUnlike_13 (fun hc_11 => ?_) (fun hc_11 => ?_)
  · replace hw := hw.1 hc_11
    refine ux_iconst C (v := 1) (by decide) dX4_allUnlike_41 ?_
    exact ux_zret C rfl ⟨_, rfl, rfl, hw⟩ dX4_allUnlike_42
  · replace hw := hw.2 hc_11
    refine ux_aload_n C 0 rfl rfl dX4_allUnlike_16 ?_
    refine ux_iload_n C 1 rfl rfl dX4_allUnlike_17 ?_
    refine ux_iload_n C 2 rfl rfl dX4_allUnlike_18 ?_
    refine ux_iconst C (v := 1) (by decide) dX4_allUnlike_19 ?_
    refine ux_isub C dX4_allUnlike_20 ?_
    refine cs_4_59 C  (c_Figures_figureOf hN  hw) (by decide) (by decide) (Nat.le_of_ble_eq_true rfl) dX4_allUnlike_21 (po_ip.k fun r_6 hw => ?_)
    refine ux_aload_n C 0 rfl rfl dX4_allUnlike_24 ?_
    refine ux_iload_n C 1 rfl rfl dX4_allUnlike_25 ?_
    refine ux_iload_n C 2 rfl rfl dX4_allUnlike_26 ?_
    refine cs_4_59 C  (c_Figures_figureOf hN  hw) (by decide) (by decide) (Nat.le_of_ble_eq_true rfl) dX4_allUnlike_27 (po_ip.k fun r_8 hw => ?_)
    refine ux_icmp_ne C (tgt := 35) (by decide) dX4_allUnlike_30 (fun hc_10 => ?_) (fun hc_10 => ?_)
    · replace hw := hw.2 hc_10
      refine ux_iinc C 2 rfl rfl (by decide) rfl dX4_allUnlike_35 ?_
      refine ux_goto C (tgt := 8) (by decide) dX4_allUnlike_38 ?_
      exact ux_pick [1, 2, 0] rfl (ih_4 _ hw)
    · replace hw := hw.1 hc_10
      refine ux_iconst C (v := 0) (by decide) dX4_allUnlike_33 ?_
      exact ux_zret C rfl ⟨_, rfl, rfl, hw⟩ dX4_allUnlike_34
set_option maxHeartbeats 2000000 in
set_option maxRecDepth 4000 in
theorem c_Paths_nameRounds_j81 {D : va_G} {G : Nat → Nat} {z N : Nat} {p : Program} {l : Launch} {e : Env} {s : State} {m : MethodId} {args : Array Value} {below : List Frame} {meth : Method} {c : Code} (hN : 92 ≤ N) {a0 : ud_St} {b_81 : ud_St} {y1_81 : Int32} {y2_81 : Int32} {u0_81 : Int32} {u1_81 : Int32} {K_1 : Int32 → ud_St → Prop}  {Qf : ud_St → Prop} (C : ud_C D G z N p s m args meth c cX5_nameRounds 3 RX5 (none : Option Jvm.ClassFile.FieldType)) (ih_2 : ∀ (v0 : Int32) (v1 : ud_St), K_1 v0 v1 → ud_X D G z N p l e (ud_rm 3 0 0) s m args below meth c 3 0 0 (ud_Q D G z N (po_v Qf) below args s) v1 22 [(0, .ref (z + 36)), (1, .int v0)] []) (hw : w_Paths_nameRounds_j81 a0 b_81 y1_81 y2_81 u0_81 u1_81 K_1 Qf) : ud_X D G z N p l e (ud_rm 3 0 0) s m args below meth c 3 0 0 (ud_Q D G z N (po_v Qf) below args s) b_81 81 [(0, .ref (z + 36)), (1, .int y1_81), (2, .int y2_81)] [.int u0_81, .int u1_81, .ref (z + 36)] := by
  unfold w_Paths_nameRounds_j81 at hw
  refine ux_iadd C dX5_nameRounds_81 ?_
  refine pf_5_95 C dX5_nameRounds_82 ?_
  refine ux_iload_n C 2 rfl rfl dX5_nameRounds_85 ?_
  refine ux_aload_n C 0 rfl rfl dX5_nameRounds_86 ?_
  refine gf_5_98 C dX5_nameRounds_87 ?_
  refine ux_icmp_le C (tgt := 103) (by decide) dX5_nameRounds_90 (fun hc_11 => ?_) (fun hc_11 => ?_)
  · replace hw := hw.1 hc_11
    refine ux_iinc C 1 rfl rfl (by decide) rfl dX5_nameRounds_103 ?_
    refine ux_goto C (tgt := 22) (by decide) dX5_nameRounds_106 ?_
    exact ux_pick [1, 0] rfl (ih_2 _ _ hw)
  · replace hw := hw.2 hc_11
    refine ux_aload_n C 0 rfl rfl dX5_nameRounds_93 ?_
    refine ux_iload_n C 2 rfl rfl dX5_nameRounds_94 ?_
    refine pf_5_98 C dX5_nameRounds_95 ?_
    refine ux_aload_n C 0 rfl rfl dX5_nameRounds_98 ?_
    refine ux_iload_n C 1 rfl rfl dX5_nameRounds_99 ?_
    refine pf_5_101 C dX5_nameRounds_100 ?_
    refine ux_iinc C 1 rfl rfl (by decide) rfl dX5_nameRounds_103 ?_
    refine ux_goto C (tgt := 22) (by decide) dX5_nameRounds_106 ?_
    exact ux_pick [1, 0] rfl (ih_2 _ _ hw)
set_option maxHeartbeats 2000000 in
set_option maxRecDepth 4000 in
theorem c_Paths_nameRounds {l : Launch} {D : va_G} {G : Nat → Nat} {z N : Nat} (hN : 92 ≤ N) {a0 : ud_St}   {Qf : ud_St → Prop} (hw : w_Paths_nameRounds a0  Qf) : ud_M l D G z N yX5_nameRounds cX5_nameRounds 3 (none : Option Jvm.ClassFile.FieldType) 3 [.ref (z + 36)] a0 (po_v Qf) := by
  unfold w_Paths_nameRounds at hw
  refine ud_M_of hN (by decide) (Nat.le_of_ble_eq_true rfl) ?_
  intro p e s m args below meth c C
  have C : ud_C D G z N p s m args meth c cX5_nameRounds 3 RX5 (none : Option Jvm.ClassFile.FieldType) := C
  show ud_X D G z N p l e (ud_rm 3 0 0) s m args below meth c 3 0 0 (ud_Q D G z N (po_v Qf) below args s) a0 0 [(0, .ref (z + 36))] []
  refine ux_aload_n C 0 rfl rfl dX5_nameRounds_0 ?_
  refine ux_iconst C (v := 0) (by decide) dX5_nameRounds_1 ?_
  refine pf_5_92 C dX5_nameRounds_2 ?_
  refine ux_aload_n C 0 rfl rfl dX5_nameRounds_5 ?_
  refine ux_iconst C (v := 0) (by decide) dX5_nameRounds_6 ?_
  refine pf_5_95 C dX5_nameRounds_7 ?_
  refine ux_aload_n C 0 rfl rfl dX5_nameRounds_10 ?_
  refine ux_iconst C (v := 0) (by decide) dX5_nameRounds_11 ?_
  refine pf_5_98 C dX5_nameRounds_12 ?_
  refine ux_aload_n C 0 rfl rfl dX5_nameRounds_15 ?_
  refine ux_iconst C (v := -1) (by decide) dX5_nameRounds_16 ?_
  refine pf_5_101 C dX5_nameRounds_17 ?_
  refine ux_iconst C (v := 0) (by decide) dX5_nameRounds_20 ?_
  refine ux_istore_n C rfl (by decide) rfl dX5_nameRounds_21 ?_
  refine ux_pick [1, 0] rfl ?_
  refine LW2.elim (P := fun (x1_3 : Int32) (a_4 : ud_St) => ud_X D G z N p l e (ud_rm 3 0 0) s m args below meth c 3 0 0 (ud_Q D G z N (po_v Qf) below args s) a_4 22 [(0, .ref (z + 36)), (1, .int x1_3)] []) hw ?_
  intro x1_3 a_4 K_1 hw ih_2
  refine ux_iload_n C 1 rfl rfl dX5_nameRounds_22 ?_
  refine ux_aload_n C 0 rfl rfl dX5_nameRounds_23 ?_
  refine gf_5_53 C dX5_nameRounds_24 ?_
  refine ux_icmp_ge C (tgt := 109) (by decide) dX5_nameRounds_27 (fun hc_14 => ?_) (fun hc_14 => ?_)
  · replace hw := hw.1 hc_14
    exact ux_vret C ⟨rfl, hw⟩ dX5_nameRounds_109
  · replace hw := hw.2 hc_14
    refine ux_aload_n C 0 rfl rfl dX5_nameRounds_30 ?_
    refine gf_5_24 C dX5_nameRounds_31 ?_
    refine ux_iload_n C 1 rfl rfl dX5_nameRounds_34 ?_
    refine cs_5_88 C  (c_Cells_at hN (uc_41 C.2.2.2.2.2) hw) (by decide) (by decide) (Nat.le_of_ble_eq_true rfl) dX5_nameRounds_35 (po_ip.k fun r_5 hw => ?_)
    refine ux_if_le C (tgt := 103) (by decide) dX5_nameRounds_38 (fun hc_13 => ?_) (fun hc_13 => ?_)
    · replace hw := hw.1 hc_13
      refine ux_iinc C 1 rfl rfl (by decide) rfl dX5_nameRounds_103 ?_
      refine ux_goto C (tgt := 22) (by decide) dX5_nameRounds_106 ?_
      exact ux_pick [1, 0] rfl (ih_2 _ _ hw)
    · replace hw := hw.2 hc_13
      refine ux_aload_n C 0 rfl rfl dX5_nameRounds_41 ?_
      refine ux_iload_n C 1 rfl rfl dX5_nameRounds_42 ?_
      refine cs_5_104 C  (c_Paths_walkRound hN  hw) (by decide) (by decide) (Nat.le_of_ble_eq_true rfl) dX5_nameRounds_43 (po_i.k fun r_7 a_8 hw => ?_)
      refine ux_istore_n C rfl (by decide) rfl dX5_nameRounds_46 ?_
      refine ux_aload_n C 1 rfl rfl dX5_nameRounds_47 ?_
      refine gf_5_21 C dX5_nameRounds_48 ?_
      refine ux_aload_n C 1 rfl rfl dX5_nameRounds_51 ?_
      refine ux_dup C rfl dX5_nameRounds_52 ?_
      refine gf_5_92 C dX5_nameRounds_53 ?_
      refine ux_dup_x1 C rfl rfl dX5_nameRounds_56 ?_
      refine ux_iconst C (v := 1) (by decide) dX5_nameRounds_57 ?_
      refine ux_iadd C dX5_nameRounds_58 ?_
      refine pf_5_92 C dX5_nameRounds_59 ?_
      refine ux_iload_n C 2 rfl rfl dX5_nameRounds_62 ?_
      refine cs_5_63 C  (c_Cells_put hN (uc_40 C.2.2.2.2.2) hw) (by decide) (by decide) (Nat.le_of_ble_eq_true rfl) dX5_nameRounds_63 (po_v.k fun a_10 hw => ?_)
      refine ux_aload_n C 1 rfl rfl dX5_nameRounds_66 ?_
      refine ux_dup C rfl dX5_nameRounds_67 ?_
      refine gf_5_95 C dX5_nameRounds_68 ?_
      refine ux_iload_n C 0 rfl rfl dX5_nameRounds_71 ?_
      refine ux_iconst C (v := 1) (by decide) dX5_nameRounds_72 ?_
      refine ux_icmp_ne C (tgt := 80) (by decide) dX5_nameRounds_73 (fun hc_12 => ?_) (fun hc_12 => ?_)
      · replace hw := hw.2 hc_12
        refine ux_iconst C (v := 0) (by decide) dX5_nameRounds_80 ?_
        exact ux_pick [1, 2, 0] rfl (c_Paths_nameRounds_j81 hN  C ih_2 hw)
      · replace hw := hw.1 hc_12
        refine ux_iconst C (v := 1) (by decide) dX5_nameRounds_76 ?_
        refine ux_goto C (tgt := 81) (by decide) dX5_nameRounds_77 ?_
        exact ux_pick [1, 2, 0] rfl (c_Paths_nameRounds_j81 hN  C ih_2 hw)
set_option maxHeartbeats 2000000 in
set_option maxRecDepth 4000 in
theorem c_Paths_afterGoes {l : Launch} {D : va_G} {G : Nat → Nat} {z N : Nat} (hN : 92 ≤ N) {a0 : ud_St} {x1 : Int32} {x2 : Int32}  {Qf : Int32 → Prop} (hw : w_Paths_afterGoes a0 x1 x2 Qf) : ud_M l D G z N yX5_afterGoes cX5_afterGoes 6 (some Jvm.ClassFile.FieldType.int) 3 [.ref (z + 36), .int x1, .int x2] a0 (po_ip a0 Qf) := by
  unfold w_Paths_afterGoes at hw
  refine ud_M_of hN (by decide) (Nat.le_of_ble_eq_true rfl) ?_
  intro p e s m args below meth c C
  have C : ud_C D G z N p s m args meth c cX5_afterGoes 6 RX5 (some Jvm.ClassFile.FieldType.int) := C
  show ud_X D G z N p l e (ud_rm 3 0 0) s m args below meth c 6 0 0 (ud_Q D G z N (po_ip a0 Qf) below args s) a0 0 [(0, .ref (z + 36)), (1, .int x1), (2, .int x2)] []
  refine ux_iload_n C 2 rfl rfl dX5_afterGoes_0 ?_
  refine ux_istore_n C rfl (by decide) rfl dX5_afterGoes_1 ?_
  refine ux_iload_n C 3 rfl rfl dX5_afterGoes_2 ?_
  refine ux_aload_n C 1 rfl rfl dX5_afterGoes_3 ?_
  refine ux_iload_n C 2 rfl rfl dX5_afterGoes_4 ?_
  refine cs_5_110 C  (c_Paths_tailOf hN  hw) (by decide) (by decide) (Nat.le_of_ble_eq_true rfl) dX5_afterGoes_5 (po_ip.k fun r_1 hw => ?_)
  refine ux_icmp_le C (tgt := 37) (by decide) dX5_afterGoes_8 (fun hc_29 => ?_) (fun hc_29 => ?_)
  · replace hw := hw.1 hc_29
    refine ux_iload_n C 2 rfl rfl dX5_afterGoes_37 ?_
    refine ux_istore C (by decide) rfl dX5_afterGoes_38 ?_
    refine ux_iconst C (v := 0) (by decide) dX5_afterGoes_40 ?_
    refine ux_istore C (by decide) rfl dX5_afterGoes_41 ?_
    refine ux_pick [3, 2, 1, 0] rfl ?_
    refine LW2.elim (P := fun (x4_5 : Int32) (x5_6 : Int32) => ud_X D G z N p l e (ud_rm 3 0 0) s m args below meth c 6 0 0 (ud_Q D G z N (po_ip a0 Qf) below args s) a0 43 [(0, .ref (z + 36)), (3, .int x2), (4, .int x4_5), (5, .int x5_6)] []) hw ?_
    intro x4_5 x5_6 K_3 hw ih_4
    refine ux_iload C 3 rfl dX5_afterGoes_43 ?_
    refine ux_iload_n C 1 rfl rfl dX5_afterGoes_45 ?_
    refine ux_icmp_ge C (tgt := 72) (by decide) dX5_afterGoes_46 (fun hc_10 => ?_) (fun hc_10 => ?_)
    · replace hw := hw.1 hc_10
      refine ux_iload C 2 rfl dX5_afterGoes_72 ?_
      exact ux_iret C ⟨_, rfl, rfl, hw⟩ dX5_afterGoes_74
    · replace hw := hw.2 hc_10
      refine ux_iload C 3 rfl dX5_afterGoes_49 ?_
      refine ux_aload_n C 0 rfl rfl dX5_afterGoes_51 ?_
      refine gf_5_53 C dX5_afterGoes_52 ?_
      refine ux_icmp_ge C (tgt := 72) (by decide) dX5_afterGoes_55 (fun hc_9 => ?_) (fun hc_9 => ?_)
      · replace hw := hw.1 hc_9
        refine ux_iload C 2 rfl dX5_afterGoes_72 ?_
        exact ux_iret C ⟨_, rfl, rfl, hw⟩ dX5_afterGoes_74
      · replace hw := hw.2 hc_9
        refine ux_aload_n C 0 rfl rfl dX5_afterGoes_58 ?_
        refine ux_iload C 2 rfl dX5_afterGoes_59 ?_
        refine cs_5_80 C  (c_Paths_nextOf hN  hw) (by decide) (by decide) (Nat.le_of_ble_eq_true rfl) dX5_afterGoes_61 (po_ip.k fun r_7 hw => ?_)
        refine ux_istore C (by decide) rfl dX5_afterGoes_64 ?_
        refine ux_iinc C 3 rfl rfl (by decide) rfl dX5_afterGoes_66 ?_
        refine ux_goto C (tgt := 43) (by decide) dX5_afterGoes_69 ?_
        exact ux_pick [2, 3, 1, 0] rfl (ih_4 _ _ hw)
  · replace hw := hw.2 hc_29
    refine ux_aload_n C 1 rfl rfl dX5_afterGoes_11 ?_
    refine ux_iload_n C 2 rfl rfl dX5_afterGoes_12 ?_
    refine cs_5_110 C  (c_Paths_tailOf hN  hw) (by decide) (by decide) (Nat.le_of_ble_eq_true rfl) dX5_afterGoes_13 (po_ip.k fun r_11 hw => ?_)
    refine ux_iload_n C 3 rfl rfl dX5_afterGoes_16 ?_
    refine ux_aload_n C 1 rfl rfl dX5_afterGoes_17 ?_
    refine ux_iload_n C 2 rfl rfl dX5_afterGoes_18 ?_
    refine cs_5_110 C  (c_Paths_tailOf hN  hw) (by decide) (by decide) (Nat.le_of_ble_eq_true rfl) dX5_afterGoes_19 (po_ip.k fun r_13 hw => ?_)
    refine ux_isub C dX5_afterGoes_22 ?_
    refine ux_aload_n C 1 rfl rfl dX5_afterGoes_23 ?_
    refine ux_aload_n C 1 rfl rfl dX5_afterGoes_24 ?_
    refine ux_iload_n C 2 rfl rfl dX5_afterGoes_25 ?_
    refine cs_5_113 C  (c_Paths_homeOf hN  hw) (by decide) (by decide) (Nat.le_of_ble_eq_true rfl) dX5_afterGoes_26 (po_ip.k fun r_15 hw => ?_)
    refine cs_5_128 C  (c_Paths_lengthOf hN  hw) (by decide) (by decide) (Nat.le_of_ble_eq_true rfl) dX5_afterGoes_29 (po_ip.k fun r_17 hw => ?_)
    refine cs_5_131 C  (c_Cells_over hN  hw) (by decide) (by decide) (Nat.le_of_ble_eq_true rfl) dX5_afterGoes_32 (po_ip.k fun r_19 hw => ?_)
    refine ux_iadd C dX5_afterGoes_35 ?_
    refine ux_istore_n C rfl (by decide) rfl dX5_afterGoes_36 ?_
    refine ux_iload_n C 2 rfl rfl dX5_afterGoes_37 ?_
    refine ux_istore C (by decide) rfl dX5_afterGoes_38 ?_
    refine ux_iconst C (v := 0) (by decide) dX5_afterGoes_40 ?_
    refine ux_istore C (by decide) rfl dX5_afterGoes_41 ?_
    refine ux_pick [3, 2, 1, 0] rfl ?_
    refine LW2.elim (P := fun (x4_23 : Int32) (x5_24 : Int32) => ud_X D G z N p l e (ud_rm 3 0 0) s m args below meth c 6 0 0 (ud_Q D G z N (po_ip a0 Qf) below args s) a0 43 [(0, .ref (z + 36)), (3, .int (r_11 + r_19)), (4, .int x4_23), (5, .int x5_24)] []) hw ?_
    intro x4_23 x5_24 K_21 hw ih_22
    refine ux_iload C 3 rfl dX5_afterGoes_43 ?_
    refine ux_iload_n C 1 rfl rfl dX5_afterGoes_45 ?_
    refine ux_icmp_ge C (tgt := 72) (by decide) dX5_afterGoes_46 (fun hc_28 => ?_) (fun hc_28 => ?_)
    · replace hw := hw.1 hc_28
      refine ux_iload C 2 rfl dX5_afterGoes_72 ?_
      exact ux_iret C ⟨_, rfl, rfl, hw⟩ dX5_afterGoes_74
    · replace hw := hw.2 hc_28
      refine ux_iload C 3 rfl dX5_afterGoes_49 ?_
      refine ux_aload_n C 0 rfl rfl dX5_afterGoes_51 ?_
      refine gf_5_53 C dX5_afterGoes_52 ?_
      refine ux_icmp_ge C (tgt := 72) (by decide) dX5_afterGoes_55 (fun hc_27 => ?_) (fun hc_27 => ?_)
      · replace hw := hw.1 hc_27
        refine ux_iload C 2 rfl dX5_afterGoes_72 ?_
        exact ux_iret C ⟨_, rfl, rfl, hw⟩ dX5_afterGoes_74
      · replace hw := hw.2 hc_27
        refine ux_aload_n C 0 rfl rfl dX5_afterGoes_58 ?_
        refine ux_iload C 2 rfl dX5_afterGoes_59 ?_
        refine cs_5_80 C  (c_Paths_nextOf hN  hw) (by decide) (by decide) (Nat.le_of_ble_eq_true rfl) dX5_afterGoes_61 (po_ip.k fun r_25 hw => ?_)
        refine ux_istore C (by decide) rfl dX5_afterGoes_64 ?_
        refine ux_iinc C 3 rfl rfl (by decide) rfl dX5_afterGoes_66 ?_
        refine ux_goto C (tgt := 43) (by decide) dX5_afterGoes_69 ?_
        exact ux_pick [2, 3, 1, 0] rfl (ih_22 _ _ hw)
set_option maxHeartbeats 2000000 in
set_option maxRecDepth 4000 in
theorem c_Paths_countBack_j33 {D : va_G} {G : Nat → Nat} {z N : Nat} {p : Program} {l : Launch} {e : Env} {s : State} {m : MethodId} {args : Array Value} {below : List Frame} {meth : Method} {c : Code} (hN : 92 ≤ N) {a0 : ud_St} {x1 : Int32} {x2 : Int32} {b_33 : ud_St} {y1_33 : Int32} {y2_33 : Int32} {y3_33 : Int32} {y4_33 : Int32} {y5_33 : Int32} {y6_33 : Int32} {K_3 : Int32 → Int32 → Int32 → ud_St → Prop}  {Qf : Int32 → ud_St → Prop} (C : ud_C D G z N p s m args meth c cX5_countBack 7 RX5 (some Jvm.ClassFile.FieldType.int)) (ih_4 : ∀ (v0 : Int32) (v1 : Int32) (v2 : Int32) (v3 : ud_St), K_3 v0 v1 v2 v3 → ud_X D G z N p l e (ud_rm 3 0 0) s m args below meth c 7 0 0 (ud_Q D G z N (po_i Qf) below args s) v3 17 [(0, .ref (z + 36)), (1, .int y1_33), (2, .int y2_33), (3, .int v0), (4, .int v1), (5, .int v2)] []) (hw : w_Paths_countBack_j33 a0 x1 x2 b_33 y1_33 y2_33 y3_33 y4_33 y5_33 y6_33 K_3 Qf) : ud_X D G z N p l e (ud_rm 3 0 0) s m args below meth c 7 0 0 (ud_Q D G z N (po_i Qf) below args s) b_33 33 [(0, .ref (z + 36)), (1, .int y1_33), (2, .int y2_33), (3, .int y3_33), (4, .int y4_33), (5, .int y5_33), (6, .int y6_33)] [] := by
  unfold w_Paths_countBack_j33 at hw
  refine ux_pick [0, 1, 2, 3, 4, 5, 6] rfl ?_
  refine LW3.elim (P := fun (x3_11 : Int32) (x4_12 : Int32) (a_13 : ud_St) => ud_X D G z N p l e (ud_rm 3 0 0) s m args below meth c 7 0 0 (ud_Q D G z N (po_i Qf) below args s) a_13 33 [(0, .ref (z + 36)), (1, .int y1_33), (2, .int y2_33), (3, .int x3_11), (4, .int x4_12), (5, .int y5_33), (6, .int y6_33)] []) hw ?_
  intro x3_11 x4_12 a_13 K_9 hw ih_10
  refine ux_iload_n C 3 rfl rfl dX5_countBack_33 ?_
  refine ux_iload C 6 rfl dX5_countBack_34 ?_
  refine ux_icmp_ge C (tgt := 62) (by decide) dX5_countBack_36 (fun hc_18 => ?_) (fun hc_18 => ?_)
  · replace hw := hw.1 hc_18
    refine ux_iinc C 5 rfl rfl (by decide) rfl dX5_countBack_62 ?_
    refine ux_goto C (tgt := 17) (by decide) dX5_countBack_65 ?_
    exact ux_pick [1, 2, 3, 4, 5, 0] rfl (ih_4 _ _ _ _ hw)
  · replace hw := hw.2 hc_18
    refine ux_aload_n C 0 rfl rfl dX5_countBack_39 ?_
    refine ux_aload_n C 0 rfl rfl dX5_countBack_40 ?_
    refine gf_5_27 C dX5_countBack_41 ?_
    refine ux_iload_n C 3 rfl rfl dX5_countBack_44 ?_
    refine cs_5_88 C  (c_Cells_at hN (uc_42 C.2.2.2.2.2) hw) (by decide) (by decide) (Nat.le_of_ble_eq_true rfl) dX5_countBack_45 (po_ip.k fun r_14 hw => ?_)
    refine ux_iload_n C 1 rfl rfl dX5_countBack_48 ?_
    refine ux_iload C 4 rfl dX5_countBack_49 ?_
    refine cs_5_137 C  (c_Paths_queueInto hN  hw) (by decide) (by decide) (Nat.le_of_ble_eq_true rfl) dX5_countBack_51 (po_i.k fun r_16 a_17 hw => ?_)
    refine ux_istore C (by decide) rfl dX5_countBack_54 ?_
    refine ux_iinc C 4 rfl rfl (by decide) rfl dX5_countBack_56 ?_
    refine ux_goto C (tgt := 33) (by decide) dX5_countBack_59 ?_
    exact ux_pick [2, 3, 4, 0, 1, 5, 6] rfl (ih_10 _ _ _ hw)
set_option maxHeartbeats 2000000 in
set_option maxRecDepth 4000 in
theorem c_Paths_countBack_j17 {D : va_G} {G : Nat → Nat} {z N : Nat} {p : Program} {l : Launch} {e : Env} {s : State} {m : MethodId} {args : Array Value} {below : List Frame} {meth : Method} {c : Code} (hN : 92 ≤ N) {a0 : ud_St} {x1 : Int32} {x2 : Int32} {b_17 : ud_St} {y1_17 : Int32} {y2_17 : Int32} {y3_17 : Int32} {y4_17 : Int32} {y5_17 : Int32}  {Qf : Int32 → ud_St → Prop} (C : ud_C D G z N p s m args meth c cX5_countBack 7 RX5 (some Jvm.ClassFile.FieldType.int))  (hw : w_Paths_countBack_j17 a0 x1 x2 b_17 y1_17 y2_17 y3_17 y4_17 y5_17 Qf) : ud_X D G z N p l e (ud_rm 3 0 0) s m args below meth c 7 0 0 (ud_Q D G z N (po_i Qf) below args s) b_17 17 [(0, .ref (z + 36)), (1, .int y1_17), (2, .int y2_17), (3, .int y3_17), (4, .int y4_17), (5, .int y5_17)] [] := by
  unfold w_Paths_countBack_j17 at hw
  refine ux_pick [0, 1, 2, 3, 4, 5] rfl ?_
  refine LW4.elim (P := fun (x3_5 : Int32) (x4_6 : Int32) (x5_7 : Int32) (a_8 : ud_St) => ud_X D G z N p l e (ud_rm 3 0 0) s m args below meth c 7 0 0 (ud_Q D G z N (po_i Qf) below args s) a_8 17 [(0, .ref (z + 36)), (1, .int y1_17), (2, .int y2_17), (3, .int x3_5), (4, .int x4_6), (5, .int x5_7)] []) hw ?_
  intro x3_5 x4_6 x5_7 a_8 K_3 hw ih_4
  refine ux_iload C 5 rfl dX5_countBack_17 ?_
  refine ux_iload_n C 2 rfl rfl dX5_countBack_19 ?_
  refine ux_icmp_ge C (tgt := 68) (by decide) dX5_countBack_20 (fun hc_20 => ?_) (fun hc_20 => ?_)
  · replace hw := hw.1 hc_20
    refine ux_iload C 4 rfl dX5_countBack_68 ?_
    refine ux_iload_n C 3 rfl rfl dX5_countBack_70 ?_
    refine ux_isub C dX5_countBack_71 ?_
    exact ux_iret C ⟨_, rfl, hw⟩ dX5_countBack_72
  · replace hw := hw.2 hc_20
    refine ux_iload_n C 3 rfl rfl dX5_countBack_23 ?_
    refine ux_iload C 4 rfl dX5_countBack_24 ?_
    refine ux_icmp_ge C (tgt := 68) (by decide) dX5_countBack_26 (fun hc_19 => ?_) (fun hc_19 => ?_)
    · replace hw := hw.1 hc_19
      refine ux_iload C 4 rfl dX5_countBack_68 ?_
      refine ux_iload_n C 3 rfl rfl dX5_countBack_70 ?_
      refine ux_isub C dX5_countBack_71 ?_
      exact ux_iret C ⟨_, rfl, hw⟩ dX5_countBack_72
    · replace hw := hw.2 hc_19
      refine ux_iload C 4 rfl dX5_countBack_29 ?_
      refine ux_istore C (by decide) rfl dX5_countBack_31 ?_
      exact ux_pick [1, 2, 3, 4, 5, 6, 0] rfl (c_Paths_countBack_j33 hN  C ih_4 hw)
set_option maxHeartbeats 2000000 in
set_option maxRecDepth 4000 in
theorem c_Paths_countBack {l : Launch} {D : va_G} {G : Nat → Nat} {z N : Nat} (hN : 92 ≤ N) {a0 : ud_St} {x1 : Int32} {x2 : Int32}  {Qf : Int32 → ud_St → Prop} (hw : w_Paths_countBack a0 x1 x2 Qf) : ud_M l D G z N yX5_countBack cX5_countBack 7 (some Jvm.ClassFile.FieldType.int) 3 [.ref (z + 36), .int x1, .int x2] a0 (po_i Qf) := by
  unfold w_Paths_countBack at hw
  refine ud_M_of hN (by decide) (Nat.le_of_ble_eq_true rfl) ?_
  intro p e s m args below meth c C
  have C : ud_C D G z N p s m args meth c cX5_countBack 7 RX5 (some Jvm.ClassFile.FieldType.int) := C
  show ud_X D G z N p l e (ud_rm 3 0 0) s m args below meth c 7 0 0 (ud_Q D G z N (po_i Qf) below args s) a0 0 [(0, .ref (z + 36)), (1, .int x1), (2, .int x2)] []
  refine ux_aload_n C 0 rfl rfl dX5_countBack_0 ?_
  refine gf_5_27 C dX5_countBack_1 ?_
  refine ux_iconst C (v := 0) (by decide) dX5_countBack_4 ?_
  refine ux_iload_n C 1 rfl rfl dX5_countBack_5 ?_
  refine cs_5_63 C  (c_Cells_put hN (uc_42 C.2.2.2.2.2) hw) (by decide) (by decide) (Nat.le_of_ble_eq_true rfl) dX5_countBack_6 (po_v.k fun a_2 hw => ?_)
  refine ux_iconst C (v := 0) (by decide) dX5_countBack_9 ?_
  refine ux_istore_n C rfl (by decide) rfl dX5_countBack_10 ?_
  refine ux_iconst C (v := 1) (by decide) dX5_countBack_11 ?_
  refine ux_istore C (by decide) rfl dX5_countBack_12 ?_
  refine ux_iconst C (v := 0) (by decide) dX5_countBack_14 ?_
  refine ux_istore C (by decide) rfl dX5_countBack_15 ?_
  exact ux_pick [3, 4, 5, 2, 1, 0] rfl (c_Paths_countBack_j17 hN  C  hw)
set_option maxHeartbeats 2000000 in
set_option maxRecDepth 4000 in
theorem c_Reader_readTold {l : Launch} {D : va_G} {G : Nat → Nat} {z N : Nat} (hN : 92 ≤ N) {a0 : ud_St}   {Qf : Int32 → ud_St → Prop} (hw : w_Reader_readTold a0  Qf) : ud_M l D G z N yX6_readTold cX6_readTold 2 (some Jvm.ClassFile.FieldType.boolean) 3 [.ref (z + 3), .ref (z + 15)] a0 (po_i Qf) := by
  unfold w_Reader_readTold at hw
  refine ud_M_of hN (by decide) (Nat.le_of_ble_eq_true rfl) ?_
  intro p e s m args below meth c C
  have C : ud_C D G z N p s m args meth c cX6_readTold 2 RX6 (some Jvm.ClassFile.FieldType.boolean) := C
  show ud_X D G z N p l e (ud_rm 3 0 0) s m args below meth c 2 0 0 (ud_Q D G z N (po_i Qf) below args s) a0 0 [(0, .ref (z + 3)), (1, .ref (z + 15))] []
  refine ux_aload_n C 1 rfl rfl dX6_readTold_0 ?_
  refine gf_6_123 C (uc_15 C.2.2.2.2.2) dX6_readTold_1 ?_
  refine ux_bipush C (v := 20) (by decide) dX6_readTold_4 ?_
  refine ux_icmp_lt C (tgt := 15) (by decide) dX6_readTold_6 (fun hc_11 => ?_) (fun hc_11 => ?_)
  · replace hw := hw.1 hc_11
    refine ux_aload_n C 0 rfl rfl dX6_readTold_15 ?_
    refine cs_6_30 C  (c_Reader_advance hN  hw) (by decide) (by decide) (Nat.le_of_ble_eq_true rfl) dX6_readTold_16 (po_v.k fun a_2 hw => ?_)
    refine ux_aload_n C 0 rfl rfl dX6_readTold_19 ?_
    refine ux_iconst C (v := 0) (by decide) dX6_readTold_20 ?_
    refine ux_aload_n C 1 rfl rfl dX6_readTold_21 ?_
    refine gf_6_98 C (uc_15 C.2.2.2.2.2) dX6_readTold_22 ?_
    refine ux_iconst C (v := 1) (by decide) dX6_readTold_25 ?_
    refine ux_isub C dX6_readTold_26 ?_
    refine cs_6_80 C  (c_Reader_readBetween hN  hw) (by decide) (by decide) (Nat.le_of_ble_eq_true rfl) dX6_readTold_27 (po_i.k fun r_3 a_4 hw => ?_)
    refine ux_if_ne C (tgt := 35) (by decide) dX6_readTold_30 (fun hc_7 => ?_) (fun hc_7 => ?_)
    · replace hw := hw.2 hc_7
      refine ux_aload_n C 1 rfl rfl dX6_readTold_35 ?_
      refine ux_aload_n C 0 rfl rfl dX6_readTold_36 ?_
      refine gf_6_84 C dX6_readTold_37 ?_
      refine cs_6_126 C  (c_Table_tell hN  hw) (by decide) (by decide) (Nat.le_of_ble_eq_true rfl) dX6_readTold_40 (po_v.k fun a_6 hw => ?_)
      refine ux_iconst C (v := 1) (by decide) dX6_readTold_43 ?_
      exact ux_zret C rfl ⟨_, rfl, hw⟩ dX6_readTold_44
    · replace hw := hw.1 hc_7
      refine ux_iconst C (v := 0) (by decide) dX6_readTold_33 ?_
      exact ux_zret C rfl ⟨_, rfl, hw⟩ dX6_readTold_34
  · replace hw := hw.2 hc_11
    refine ux_aload_n C 0 rfl rfl dX6_readTold_9 ?_
    refine ux_iconst C (v := 3) (by decide) dX6_readTold_10 ?_
    refine cs_6_69 C  (c_Reader_wrong hN  hw) (by decide) (by decide) (Nat.le_of_ble_eq_true rfl) dX6_readTold_11 (po_i.k fun r_8 a_9 hw => ?_)
    obtain ⟨hn_10, hw⟩ := hw
    exact ux_zret C (ud_narZ hn_10) ⟨_, rfl, hw⟩ dX6_readTold_14
set_option maxHeartbeats 2000000 in
set_option maxRecDepth 4000 in
theorem c_Table_copy {l : Launch} {D : va_G} {G : Nat → Nat} {z N : Nat} (hN : 92 ≤ N) {a0 : ud_St} {k0 : Nat} {k1 : Nat} (hk0 : ud_isT N k0) (hk1 : ud_isT N k1) {Qf : ud_St → Prop} (hw : w_Table_copy a0 k0 k1 Qf) : ud_M l D G z N yX8_copy cX8_copy 3 (none : Option Jvm.ClassFile.FieldType) 3 [.ref (z + k0), .ref (z + k1)] a0 (po_v Qf) := by
  unfold w_Table_copy at hw
  refine ud_M_of hN (by decide) (Nat.le_of_ble_eq_true rfl) ?_
  intro p e s m args below meth c C
  have C : ud_C D G z N p s m args meth c cX8_copy 3 RX8 (none : Option Jvm.ClassFile.FieldType) := C
  show ud_X D G z N p l e (ud_rm 3 0 0) s m args below meth c 3 0 0 (ud_Q D G z N (po_v Qf) below args s) a0 0 [(0, .ref (z + k0)), (1, .ref (z + k1))] []
  refine ux_aload_n C 0 rfl rfl dX8_copy_0 ?_
  refine ux_aload_n C 1 rfl rfl dX8_copy_1 ?_
  refine gf_8_28 C hk1 dX8_copy_2 ?_
  refine pf_8_28 C hk0 dX8_copy_5 ?_
  refine ux_aload_n C 0 rfl rfl dX8_copy_8 ?_
  refine ux_aload_n C 1 rfl rfl dX8_copy_9 ?_
  refine gf_8_32 C hk1 dX8_copy_10 ?_
  refine pf_8_32 C hk0 dX8_copy_13 ?_
  refine ux_aload_n C 0 rfl rfl dX8_copy_16 ?_
  refine ux_aload_n C 1 rfl rfl dX8_copy_17 ?_
  refine gf_8_35 C hk1 dX8_copy_18 ?_
  refine pf_8_35 C hk0 dX8_copy_21 ?_
  refine ux_aload_n C 0 rfl rfl dX8_copy_24 ?_
  refine ux_aload_n C 1 rfl rfl dX8_copy_25 ?_
  refine gf_8_38 C hk1 dX8_copy_26 ?_
  refine pf_8_38 C hk0 dX8_copy_29 ?_
  refine ux_aload_n C 0 rfl rfl dX8_copy_32 ?_
  refine gf_8_12 C hk0 dX8_copy_33 ?_
  refine ux_aload_n C 1 rfl rfl dX8_copy_36 ?_
  refine gf_8_12 C hk1 dX8_copy_37 ?_
  refine cs_8_47 C hk0.2.1 (c_Words_copy hN hk0.2.1 hk1.2.1 hw) (by decide) (by decide) (Nat.le_of_ble_eq_true rfl) dX8_copy_40 (po_v.k fun a_2 hw => ?_)
  refine ux_aload_n C 0 rfl rfl dX8_copy_43 ?_
  refine gf_8_18 C hk0 dX8_copy_44 ?_
  refine ux_aload_n C 1 rfl rfl dX8_copy_47 ?_
  refine gf_8_18 C hk1 dX8_copy_48 ?_
  refine cs_8_47 C hk0.2.2.1 (c_Words_copy hN hk0.2.2.1 hk1.2.2.1 hw) (by decide) (by decide) (Nat.le_of_ble_eq_true rfl) dX8_copy_51 (po_v.k fun a_4 hw => ?_)
  refine ux_aload_n C 0 rfl rfl dX8_copy_54 ?_
  refine gf_8_21 C hk0 dX8_copy_55 ?_
  refine ux_aload_n C 1 rfl rfl dX8_copy_58 ?_
  refine gf_8_21 C hk1 dX8_copy_59 ?_
  refine cs_8_47 C hk0.2.2.2.1 (c_Words_copy hN hk0.2.2.2.1 hk1.2.2.2.1 hw) (by decide) (by decide) (Nat.le_of_ble_eq_true rfl) dX8_copy_62 (po_v.k fun a_6 hw => ?_)
  refine ux_aload_n C 0 rfl rfl dX8_copy_65 ?_
  refine ux_aload_n C 1 rfl rfl dX8_copy_66 ?_
  refine gf_8_44 C hk1 dX8_copy_67 ?_
  refine pf_8_44 C hk0 dX8_copy_70 ?_
  refine ux_iconst C (v := 0) (by decide) dX8_copy_73 ?_
  refine ux_istore_n C rfl (by decide) rfl dX8_copy_74 ?_
  refine ux_pick [1, 2, 0] rfl ?_
  refine LW2.elim (P := fun (x2_9 : Int32) (a_10 : ud_St) => ud_X D G z N p l e (ud_rm 3 0 0) s m args below meth c 3 0 0 (ud_Q D G z N (po_v Qf) below args s) a_10 75 [(0, .ref (z + k0)), (1, .ref (z + k1)), (2, .int x2_9)] []) hw ?_
  intro x2_9 a_10 K_7 hw ih_8
  refine ux_iload_n C 2 rfl rfl dX8_copy_75 ?_
  refine ux_aload_n C 0 rfl rfl dX8_copy_76 ?_
  refine gf_8_44 C hk0 dX8_copy_77 ?_
  refine ux_icmp_ge C (tgt := 105) (by decide) dX8_copy_80 (fun hc_15 => ?_) (fun hc_15 => ?_)
  · replace hw := hw.1 hc_15
    exact ux_vret C ⟨rfl, hw⟩ dX8_copy_105
  · replace hw := hw.2 hc_15
    refine ux_aload_n C 0 rfl rfl dX8_copy_83 ?_
    refine gf_8_24 C hk0 dX8_copy_84 ?_
    refine ux_iload_n C 2 rfl rfl dX8_copy_87 ?_
    refine ux_aload_n C 1 rfl rfl dX8_copy_88 ?_
    refine gf_8_24 C hk1 dX8_copy_89 ?_
    refine ux_iload_n C 2 rfl rfl dX8_copy_92 ?_
    refine cs_8_51 C  (c_Cells_at hN hk1.2.2.2.2 hw) (by decide) (by decide) (Nat.le_of_ble_eq_true rfl) dX8_copy_93 (po_ip.k fun r_11 hw => ?_)
    refine cs_8_57 C  (c_Cells_put hN hk0.2.2.2.2 hw) (by decide) (by decide) (Nat.le_of_ble_eq_true rfl) dX8_copy_96 (po_v.k fun a_14 hw => ?_)
    refine ux_iinc C 2 rfl rfl (by decide) rfl dX8_copy_99 ?_
    refine ux_goto C (tgt := 75) (by decide) dX8_copy_102 ?_
    exact ux_pick [1, 2, 0] rfl (ih_8 _ _ hw)
set_option maxHeartbeats 2000000 in
set_option maxRecDepth 4000 in
theorem c_UpAndDown_turn {l : Launch} {D : va_G} {G : Nat → Nat} {z N : Nat} (hN : 92 ≤ N) {a0 : ud_St} {x1 : Int32} {x2 : Int32} {x3 : Int32}  {Qf : Int32 → ud_St → Prop} (hw : w_UpAndDown_turn a0 x1 x2 x3 Qf) : ud_M l D G z N yX11_turn cX11_turn 4 (some Jvm.ClassFile.FieldType.int) 3 [.ref (z + 0), .int x1, .int x2, .int x3] a0 (po_i Qf) := by
  unfold w_UpAndDown_turn at hw
  refine ud_M_of hN (by decide) (Nat.le_of_ble_eq_true rfl) ?_
  intro p e s m args below meth c C
  have C : ud_C D G z N p s m args meth c cX11_turn 4 RX11 (some Jvm.ClassFile.FieldType.int) := C
  show ud_X D G z N p l e (ud_rm 3 0 0) s m args below meth c 4 0 0 (ud_Q D G z N (po_i Qf) below args s) a0 0 [(0, .ref (z + 0)), (1, .int x1), (2, .int x2), (3, .int x3)] []
  refine ux_aload_n C 0 rfl rfl dX11_turn_0 ?_
  refine ux_iload_n C 1 rfl rfl dX11_turn_1 ?_
  refine cs_11_120 C  (c_UpAndDown_isWord hN  hw) (by decide) (by decide) (Nat.le_of_ble_eq_true rfl) dX11_turn_2 (po_ip.k fun r_1 hw => ?_)
  refine ux_if_eq C (tgt := 34) (by decide) dX11_turn_5 (fun hc_16 => ?_) (fun hc_16 => ?_)
  · replace hw := hw.1 hc_16
    refine ux_bipush C (v := -2) (by decide) dX11_turn_34 ?_
    exact ux_iret C ⟨_, rfl, hw⟩ dX11_turn_36
  · replace hw := hw.2 hc_16
    refine ux_iload_n C 2 rfl rfl dX11_turn_8 ?_
    refine ux_if_lt C (tgt := 34) (by decide) dX11_turn_9 (fun hc_15 => ?_) (fun hc_15 => ?_)
    · replace hw := hw.1 hc_15
      refine ux_bipush C (v := -2) (by decide) dX11_turn_34 ?_
      exact ux_iret C ⟨_, rfl, hw⟩ dX11_turn_36
    · replace hw := hw.2 hc_15
      refine ux_iload_n C 2 rfl rfl dX11_turn_12 ?_
      refine ux_bipush C (v := 14) (by decide) dX11_turn_13 ?_
      refine ux_icmp_gt C (tgt := 34) (by decide) dX11_turn_15 (fun hc_14 => ?_) (fun hc_14 => ?_)
      · replace hw := hw.1 hc_14
        refine ux_bipush C (v := -2) (by decide) dX11_turn_34 ?_
        exact ux_iret C ⟨_, rfl, hw⟩ dX11_turn_36
      · replace hw := hw.2 hc_14
        refine ux_iload_n C 3 rfl rfl dX11_turn_18 ?_
        refine ux_if_lt C (tgt := 34) (by decide) dX11_turn_19 (fun hc_13 => ?_) (fun hc_13 => ?_)
        · replace hw := hw.1 hc_13
          refine ux_bipush C (v := -2) (by decide) dX11_turn_34 ?_
          exact ux_iret C ⟨_, rfl, hw⟩ dX11_turn_36
        · replace hw := hw.2 hc_13
          refine ux_iload_n C 3 rfl rfl dX11_turn_22 ?_
          refine ux_aload_n C 0 rfl rfl dX11_turn_23 ?_
          refine gf_11_28 C dX11_turn_24 ?_
          refine ux_iload_n C 2 rfl rfl dX11_turn_27 ?_
          refine cs_11_133 C (uc_4 C.2.2.2.2.2) (c_Table_mostOf hN (uc_4 C.2.2.2.2.2) hw) (by decide) (by decide) (Nat.le_of_ble_eq_true rfl) dX11_turn_28 (po_ip.k fun r_3 hw => ?_)
          refine ux_icmp_le C (tgt := 37) (by decide) dX11_turn_31 (fun hc_12 => ?_) (fun hc_12 => ?_)
          · replace hw := hw.1 hc_12
            refine ux_aload_n C 0 rfl rfl dX11_turn_37 ?_
            refine gf_11_28 C dX11_turn_38 ?_
            refine gf_11_123 C (uc_4 C.2.2.2.2.2) dX11_turn_41 ?_
            refine ux_iload_n C 1 rfl rfl dX11_turn_44 ?_
            refine ux_iload_n C 2 rfl rfl dX11_turn_45 ?_
            refine ux_iload_n C 3 rfl rfl dX11_turn_46 ?_
            refine cs_11_136 C (uc_5 C.2.2.2.2.2) (c_Words_is hN (uc_5 C.2.2.2.2.2) hw) (by decide) (by decide) (Nat.le_of_ble_eq_true rfl) dX11_turn_47 (po_ip.k fun r_5 hw => ?_)
            refine ux_if_eq C (tgt := 55) (by decide) dX11_turn_50 (fun hc_11 => ?_) (fun hc_11 => ?_)
            · replace hw := hw.1 hc_11
              refine ux_aload_n C 0 rfl rfl dX11_turn_55 ?_
              refine gf_11_28 C dX11_turn_56 ?_
              refine gf_11_123 C (uc_4 C.2.2.2.2.2) dX11_turn_59 ?_
              refine ux_iload_n C 1 rfl rfl dX11_turn_62 ?_
              refine ux_iload_n C 2 rfl rfl dX11_turn_63 ?_
              refine ux_iload_n C 3 rfl rfl dX11_turn_64 ?_
              refine cs_11_140 C (uc_5 C.2.2.2.2.2) (c_Words_change hN (uc_5 C.2.2.2.2.2) hw) (by decide) (by decide) (Nat.le_of_ble_eq_true rfl) dX11_turn_65 (po_v.k fun a_8 hw => ?_)
              refine ux_aload_n C 0 rfl rfl dX11_turn_68 ?_
              refine cs_11_144 C  (c_UpAndDown_forget hN  hw) (by decide) (by decide) (Nat.le_of_ble_eq_true rfl) dX11_turn_69 (po_v.k fun a_10 hw => ?_)
              refine ux_iconst C (v := 1) (by decide) dX11_turn_72 ?_
              exact ux_iret C ⟨_, rfl, hw⟩ dX11_turn_73
            · replace hw := hw.2 hc_11
              refine ux_iconst C (v := 0) (by decide) dX11_turn_53 ?_
              exact ux_iret C ⟨_, rfl, hw⟩ dX11_turn_54
          · replace hw := hw.2 hc_12
            refine ux_bipush C (v := -2) (by decide) dX11_turn_34 ?_
            exact ux_iret C ⟨_, rfl, hw⟩ dX11_turn_36
set_option maxHeartbeats 2000000 in
set_option maxRecDepth 4000 in
theorem c_UpAndDown_figure {l : Launch} {D : va_G} {G : Nat → Nat} {z N : Nat} (hN : 92 ≤ N) {a0 : ud_St} {x1 : Int32} {x2 : Int32}  {Qf : Int32 → Prop} (hw : w_UpAndDown_figure a0 x1 x2 Qf) : ud_M l D G z N yX11_figure cX11_figure 3 (some Jvm.ClassFile.FieldType.int) 3 [.ref (z + 0), .int x1, .int x2] a0 (po_ip a0 Qf) := by
  unfold w_UpAndDown_figure at hw
  refine ud_M_of hN (by decide) (Nat.le_of_ble_eq_true rfl) ?_
  intro p e s m args below meth c C
  have C : ud_C D G z N p s m args meth c cX11_figure 3 RX11 (some Jvm.ClassFile.FieldType.int) := C
  show ud_X D G z N p l e (ud_rm 3 0 0) s m args below meth c 3 0 0 (ud_Q D G z N (po_ip a0 Qf) below args s) a0 0 [(0, .ref (z + 0)), (1, .int x1), (2, .int x2)] []
  refine ux_aload_n C 0 rfl rfl dX11_figure_0 ?_
  refine ux_iload_n C 1 rfl rfl dX11_figure_1 ?_
  refine cs_11_154 C  (c_UpAndDown_isNumber hN  hw) (by decide) (by decide) (Nat.le_of_ble_eq_true rfl) dX11_figure_2 (po_ip.k fun r_1 hw => ?_)
  refine ux_if_eq C (tgt := 23) (by decide) dX11_figure_5 (fun hc_7 => ?_) (fun hc_7 => ?_)
  · replace hw := hw.1 hc_7
    refine ux_bipush C (v := -2) (by decide) dX11_figure_23 ?_
    exact ux_iret C ⟨_, rfl, rfl, hw⟩ dX11_figure_25
  · replace hw := hw.2 hc_7
    refine ux_iload_n C 2 rfl rfl dX11_figure_8 ?_
    refine ux_if_lt C (tgt := 23) (by decide) dX11_figure_9 (fun hc_6 => ?_) (fun hc_6 => ?_)
    · replace hw := hw.1 hc_6
      refine ux_bipush C (v := -2) (by decide) dX11_figure_23 ?_
      exact ux_iret C ⟨_, rfl, rfl, hw⟩ dX11_figure_25
    · replace hw := hw.2 hc_6
      refine ux_iload_n C 2 rfl rfl dX11_figure_12 ?_
      refine ux_aload_n C 0 rfl rfl dX11_figure_13 ?_
      refine gf_11_28 C dX11_figure_14 ?_
      refine gf_11_157 C (uc_4 C.2.2.2.2.2) dX11_figure_17 ?_
      refine ux_icmp_lt C (tgt := 26) (by decide) dX11_figure_20 (fun hc_5 => ?_) (fun hc_5 => ?_)
      · replace hw := hw.1 hc_5
        refine ux_aload_n C 0 rfl rfl dX11_figure_26 ?_
        refine gf_11_38 C dX11_figure_27 ?_
        refine ux_iload_n C 1 rfl rfl dX11_figure_30 ?_
        refine ux_iload_n C 2 rfl rfl dX11_figure_31 ?_
        refine cs_11_160 C  (c_Figures_figureOf hN  hw) (by decide) (by decide) (Nat.le_of_ble_eq_true rfl) dX11_figure_32 (po_ip.k fun r_3 hw => ?_)
        exact ux_iret C ⟨_, rfl, rfl, hw⟩ dX11_figure_35
      · replace hw := hw.2 hc_5
        refine ux_bipush C (v := -2) (by decide) dX11_figure_23 ?_
        exact ux_iret C ⟨_, rfl, rfl, hw⟩ dX11_figure_25
set_option maxHeartbeats 2000000 in
set_option maxRecDepth 4000 in
theorem c_UpAndDown_next {l : Launch} {D : va_G} {G : Nat → Nat} {z N : Nat} (hN : 92 ≤ N) {a0 : ud_St} {x1 : Int32}  {Qf : Int32 → Prop} (hw : w_UpAndDown_next a0 x1 Qf) : ud_M l D G z N yX11_next cX11_next 2 (some Jvm.ClassFile.FieldType.int) 3 [.ref (z + 0), .int x1] a0 (po_ip a0 Qf) := by
  unfold w_UpAndDown_next at hw
  refine ud_M_of hN (by decide) (Nat.le_of_ble_eq_true rfl) ?_
  intro p e s m args below meth c C
  have C : ud_C D G z N p s m args meth c cX11_next 2 RX11 (some Jvm.ClassFile.FieldType.int) := C
  show ud_X D G z N p l e (ud_rm 3 0 0) s m args below meth c 2 0 0 (ud_Q D G z N (po_ip a0 Qf) below args s) a0 0 [(0, .ref (z + 0)), (1, .int x1)] []
  refine ux_aload_n C 0 rfl rfl dX11_next_0 ?_
  refine ux_iload_n C 1 rfl rfl dX11_next_1 ?_
  refine cs_11_154 C  (c_UpAndDown_isNumber hN  hw) (by decide) (by decide) (Nat.le_of_ble_eq_true rfl) dX11_next_2 (po_ip.k fun r_1 hw => ?_)
  refine ux_if_ne C (tgt := 11) (by decide) dX11_next_5 (fun hc_5 => ?_) (fun hc_5 => ?_)
  · replace hw := hw.2 hc_5
    refine ux_aload_n C 0 rfl rfl dX11_next_11 ?_
    refine gf_11_28 C dX11_next_12 ?_
    refine gf_11_123 C (uc_4 C.2.2.2.2.2) dX11_next_15 ?_
    refine ux_aload_n C 0 rfl rfl dX11_next_18 ?_
    refine gf_11_38 C dX11_next_19 ?_
    refine ux_iload_n C 1 rfl rfl dX11_next_22 ?_
    refine ux_aload_n C 0 rfl rfl dX11_next_23 ?_
    refine gf_11_28 C dX11_next_24 ?_
    refine gf_11_123 C (uc_4 C.2.2.2.2.2) dX11_next_27 ?_
    refine gf_11_164 C (uc_5 C.2.2.2.2.2) dX11_next_30 ?_
    refine cs_11_165 C (uc_5 C.2.2.2.2.2) (c_Words_go hN (uc_5 C.2.2.2.2.2) hw) (by decide) (by decide) (Nat.le_of_ble_eq_true rfl) dX11_next_33 (po_ip.k fun r_3 hw => ?_)
    exact ux_iret C ⟨_, rfl, rfl, hw⟩ dX11_next_36
  · replace hw := hw.1 hc_5
    refine ux_bipush C (v := -2) (by decide) dX11_next_8 ?_
    exact ux_iret C ⟨_, rfl, rfl, hw⟩ dX11_next_10
set_option maxHeartbeats 2000000 in
set_option maxRecDepth 4000 in
theorem c_UpAndDown_through {l : Launch} {D : va_G} {G : Nat → Nat} {z N : Nat} (hN : 92 ≤ N) {a0 : ud_St} {x1 : Int32} {x2 : Int32}  {Qf : Int32 → Prop} (hw : w_UpAndDown_through a0 x1 x2 Qf) : ud_M l D G z N yX11_through cX11_through 3 (some Jvm.ClassFile.FieldType.int) 3 [.ref (z + 0), .int x1, .int x2] a0 (po_ip a0 Qf) := by
  unfold w_UpAndDown_through at hw
  refine ud_M_of hN (by decide) (Nat.le_of_ble_eq_true rfl) ?_
  intro p e s m args below meth c C
  have C : ud_C D G z N p s m args meth c cX11_through 3 RX11 (some Jvm.ClassFile.FieldType.int) := C
  show ud_X D G z N p l e (ud_rm 3 0 0) s m args below meth c 3 0 0 (ud_Q D G z N (po_ip a0 Qf) below args s) a0 0 [(0, .ref (z + 0)), (1, .int x1), (2, .int x2)] []
  refine ux_aload_n C 0 rfl rfl dX11_through_0 ?_
  refine ux_iload_n C 1 rfl rfl dX11_through_1 ?_
  refine cs_11_154 C  (c_UpAndDown_isNumber hN  hw) (by decide) (by decide) (Nat.le_of_ble_eq_true rfl) dX11_through_2 (po_ip.k fun r_1 hw => ?_)
  refine ux_if_eq C (tgt := 26) (by decide) dX11_through_5 (fun hc_7 => ?_) (fun hc_7 => ?_)
  · replace hw := hw.1 hc_7
    refine ux_bipush C (v := -2) (by decide) dX11_through_26 ?_
    exact ux_iret C ⟨_, rfl, rfl, hw⟩ dX11_through_28
  · replace hw := hw.2 hc_7
    refine ux_iload_n C 2 rfl rfl dX11_through_8 ?_
    refine ux_if_lt C (tgt := 26) (by decide) dX11_through_9 (fun hc_6 => ?_) (fun hc_6 => ?_)
    · replace hw := hw.1 hc_6
      refine ux_bipush C (v := -2) (by decide) dX11_through_26 ?_
      exact ux_iret C ⟨_, rfl, rfl, hw⟩ dX11_through_28
    · replace hw := hw.2 hc_6
      refine ux_iload_n C 2 rfl rfl dX11_through_12 ?_
      refine ux_aload_n C 0 rfl rfl dX11_through_13 ?_
      refine gf_11_28 C dX11_through_14 ?_
      refine gf_11_123 C (uc_4 C.2.2.2.2.2) dX11_through_17 ?_
      refine gf_11_164 C (uc_5 C.2.2.2.2.2) dX11_through_20 ?_
      refine ux_icmp_le C (tgt := 29) (by decide) dX11_through_23 (fun hc_5 => ?_) (fun hc_5 => ?_)
      · replace hw := hw.1 hc_5
        refine ux_aload_n C 0 rfl rfl dX11_through_29 ?_
        refine gf_11_28 C dX11_through_30 ?_
        refine gf_11_123 C (uc_4 C.2.2.2.2.2) dX11_through_33 ?_
        refine ux_aload_n C 0 rfl rfl dX11_through_36 ?_
        refine gf_11_38 C dX11_through_37 ?_
        refine ux_iload_n C 1 rfl rfl dX11_through_40 ?_
        refine ux_iload_n C 2 rfl rfl dX11_through_41 ?_
        refine cs_11_165 C (uc_5 C.2.2.2.2.2) (c_Words_go hN (uc_5 C.2.2.2.2.2) hw) (by decide) (by decide) (Nat.le_of_ble_eq_true rfl) dX11_through_42 (po_ip.k fun r_3 hw => ?_)
        exact ux_iret C ⟨_, rfl, rfl, hw⟩ dX11_through_45
      · replace hw := hw.2 hc_5
        refine ux_bipush C (v := -2) (by decide) dX11_through_26 ?_
        exact ux_iret C ⟨_, rfl, rfl, hw⟩ dX11_through_28
set_option maxHeartbeats 2000000 in
set_option maxRecDepth 4000 in
theorem c_UpAndDown_kinds {l : Launch} {D : va_G} {G : Nat → Nat} {z N : Nat} (hN : 92 ≤ N) {a0 : ud_St}   {Qf : Int32 → Prop} (hw : w_UpAndDown_kinds a0  Qf) : ud_M l D G z N yX11_kinds cX11_kinds 1 (some Jvm.ClassFile.FieldType.int) 3 [.ref (z + 0)] a0 (po_ip a0 Qf) := by
  unfold w_UpAndDown_kinds at hw
  refine ud_M_of hN (by decide) (Nat.le_of_ble_eq_true rfl) ?_
  intro p e s m args below meth c C
  have C : ud_C D G z N p s m args meth c cX11_kinds 1 RX11 (some Jvm.ClassFile.FieldType.int) := C
  show ud_X D G z N p l e (ud_rm 3 0 0) s m args below meth c 1 0 0 (ud_Q D G z N (po_ip a0 Qf) below args s) a0 0 [(0, .ref (z + 0))] []
  refine ux_aload_n C 0 rfl rfl dX11_kinds_0 ?_
  refine cs_11_147 C  (c_UpAndDown_hasTable hN  hw) (by decide) (by decide) (Nat.le_of_ble_eq_true rfl) dX11_kinds_1 (po_ip.k fun r_1 hw => ?_)
  refine ux_if_eq C (tgt := 17) (by decide) dX11_kinds_4 (fun hc_5 => ?_) (fun hc_5 => ?_)
  · replace hw := hw.1 hc_5
    refine ux_bipush C (v := -2) (by decide) dX11_kinds_17 ?_
    exact ux_iret C ⟨_, rfl, rfl, hw⟩ dX11_kinds_19
  · replace hw := hw.2 hc_5
    refine ux_aload_n C 0 rfl rfl dX11_kinds_7 ?_
    refine gf_11_38 C dX11_kinds_8 ?_
    refine cs_11_242 C  (c_Figures_countKinds hN  hw) (by decide) (by decide) (Nat.le_of_ble_eq_true rfl) dX11_kinds_11 (po_ip.k fun r_3 hw => ?_)
    refine ux_goto C (tgt := 19) (by decide) dX11_kinds_14 ?_
    exact ux_iret C ⟨_, rfl, rfl, hw⟩ dX11_kinds_19
set_option maxHeartbeats 2000000 in
set_option maxRecDepth 4000 in
theorem c_UpAndDown_kind {l : Launch} {D : va_G} {G : Nat → Nat} {z N : Nat} (hN : 92 ≤ N) {a0 : ud_St} {x1 : Int32} {x2 : Int32}  {Qf : Int32 → Prop} (hw : w_UpAndDown_kind a0 x1 x2 Qf) : ud_M l D G z N yX11_kind cX11_kind 3 (some Jvm.ClassFile.FieldType.int) 3 [.ref (z + 0), .int x1, .int x2] a0 (po_ip a0 Qf) := by
  unfold w_UpAndDown_kind at hw
  refine ud_M_of hN (by decide) (Nat.le_of_ble_eq_true rfl) ?_
  intro p e s m args below meth c C
  have C : ud_C D G z N p s m args meth c cX11_kind 3 RX11 (some Jvm.ClassFile.FieldType.int) := C
  show ud_X D G z N p l e (ud_rm 3 0 0) s m args below meth c 3 0 0 (ud_Q D G z N (po_ip a0 Qf) below args s) a0 0 [(0, .ref (z + 0)), (1, .int x1), (2, .int x2)] []
  refine ux_aload_n C 0 rfl rfl dX11_kind_0 ?_
  refine ux_iload_n C 1 rfl rfl dX11_kind_1 ?_
  refine cs_11_154 C  (c_UpAndDown_isNumber hN  hw) (by decide) (by decide) (Nat.le_of_ble_eq_true rfl) dX11_kind_2 (po_ip.k fun r_1 hw => ?_)
  refine ux_if_eq C (tgt := 17) (by decide) dX11_kind_5 (fun hc_10 => ?_) (fun hc_10 => ?_)
  · replace hw := hw.1 hc_10
    refine ux_bipush C (v := -2) (by decide) dX11_kind_17 ?_
    exact ux_iret C ⟨_, rfl, rfl, hw⟩ dX11_kind_19
  · replace hw := hw.2 hc_10
    refine ux_iload_n C 2 rfl rfl dX11_kind_8 ?_
    refine ux_if_lt C (tgt := 17) (by decide) dX11_kind_9 (fun hc_9 => ?_) (fun hc_9 => ?_)
    · replace hw := hw.1 hc_9
      refine ux_bipush C (v := -2) (by decide) dX11_kind_17 ?_
      exact ux_iret C ⟨_, rfl, rfl, hw⟩ dX11_kind_19
    · replace hw := hw.2 hc_9
      refine ux_iload_n C 2 rfl rfl dX11_kind_12 ?_
      refine ux_iconst C (v := 1) (by decide) dX11_kind_13 ?_
      refine ux_icmp_le C (tgt := 20) (by decide) dX11_kind_14 (fun hc_8 => ?_) (fun hc_8 => ?_)
      · replace hw := hw.1 hc_8
        refine ux_iload_n C 2 rfl rfl dX11_kind_20 ?_
        refine ux_if_ne C (tgt := 35) (by decide) dX11_kind_21 (fun hc_7 => ?_) (fun hc_7 => ?_)
        · replace hw := hw.2 hc_7
          refine ux_aload_n C 0 rfl rfl dX11_kind_35 ?_
          refine gf_11_38 C dX11_kind_36 ?_
          refine ux_iload_n C 1 rfl rfl dX11_kind_39 ?_
          refine cs_11_248 C  (c_Figures_countOfKind hN  hw) (by decide) (by decide) (Nat.le_of_ble_eq_true rfl) dX11_kind_40 (po_ip.k fun r_3 hw => ?_)
          exact ux_iret C ⟨_, rfl, rfl, hw⟩ dX11_kind_43
        · replace hw := hw.1 hc_7
          refine ux_aload_n C 0 rfl rfl dX11_kind_24 ?_
          refine gf_11_38 C dX11_kind_25 ?_
          refine ux_iload_n C 1 rfl rfl dX11_kind_28 ?_
          refine cs_11_245 C  (c_Figures_leastOfKind hN  hw) (by decide) (by decide) (Nat.le_of_ble_eq_true rfl) dX11_kind_29 (po_ip.k fun r_5 hw => ?_)
          refine ux_goto C (tgt := 43) (by decide) dX11_kind_32 ?_
          exact ux_iret C ⟨_, rfl, rfl, hw⟩ dX11_kind_43
      · replace hw := hw.2 hc_8
        refine ux_bipush C (v := -2) (by decide) dX11_kind_17 ?_
        exact ux_iret C ⟨_, rfl, rfl, hw⟩ dX11_kind_19
set_option maxHeartbeats 2000000 in
set_option maxRecDepth 4000 in
theorem c_UpAndDown_canSlip {l : Launch} {D : va_G} {G : Nat → Nat} {z N : Nat} (hN : 92 ≤ N) {a0 : ud_St} {x1 : Int32} {x2 : Int32}  {Qf : Int32 → Prop} (hw : w_UpAndDown_canSlip a0 x1 x2 Qf) : ud_M l D G z N yX11_canSlip cX11_canSlip 3 (some Jvm.ClassFile.FieldType.boolean) 3 [.ref (z + 0), .int x1, .int x2] a0 (po_ip a0 Qf) := by
  unfold w_UpAndDown_canSlip at hw
  refine ud_M_of hN (by decide) (Nat.le_of_ble_eq_true rfl) ?_
  intro p e s m args below meth c C
  have C : ud_C D G z N p s m args meth c cX11_canSlip 3 RX11 (some Jvm.ClassFile.FieldType.boolean) := C
  show ud_X D G z N p l e (ud_rm 3 0 0) s m args below meth c 3 0 0 (ud_Q D G z N (po_ip a0 Qf) below args s) a0 0 [(0, .ref (z + 0)), (1, .int x1), (2, .int x2)] []
  refine ux_aload_n C 0 rfl rfl dX11_canSlip_0 ?_
  refine gf_11_28 C dX11_canSlip_1 ?_
  refine gf_11_123 C (uc_4 C.2.2.2.2.2) dX11_canSlip_4 ?_
  refine ux_iload_n C 1 rfl rfl dX11_canSlip_7 ?_
  refine ux_aload_n C 0 rfl rfl dX11_canSlip_8 ?_
  refine gf_11_28 C dX11_canSlip_9 ?_
  refine gf_11_396 C (uc_4 C.2.2.2.2.2) dX11_canSlip_12 ?_
  refine ux_iload_n C 2 rfl rfl dX11_canSlip_15 ?_
  refine cs_11_126 C (uc_11 C.2.2.2.2.2) (c_Words_sort hN (uc_11 C.2.2.2.2.2) hw) (by decide) (by decide) (Nat.le_of_ble_eq_true rfl) dX11_canSlip_16 (po_ip.k fun r_1 hw => ?_)
  refine ux_aload_n C 0 rfl rfl dX11_canSlip_19 ?_
  refine gf_11_28 C dX11_canSlip_20 ?_
  refine gf_11_396 C (uc_4 C.2.2.2.2.2) dX11_canSlip_23 ?_
  refine ux_iload_n C 2 rfl rfl dX11_canSlip_26 ?_
  refine cs_11_130 C (uc_11 C.2.2.2.2.2) (c_Words_number hN (uc_11 C.2.2.2.2.2) hw) (by decide) (by decide) (Nat.le_of_ble_eq_true rfl) dX11_canSlip_27 (po_ip.k fun r_3 hw => ?_)
  refine cs_11_136 C (uc_5 C.2.2.2.2.2) (c_Words_is hN (uc_5 C.2.2.2.2.2) hw) (by decide) (by decide) (Nat.le_of_ble_eq_true rfl) dX11_canSlip_30 (po_ip.k fun r_5 hw => ?_)
  obtain ⟨hn_7, hw⟩ := hw
  exact ux_zret C (ud_narZ hn_7) ⟨_, rfl, rfl, hw⟩ dX11_canSlip_33
set_option maxHeartbeats 2000000 in
set_option maxRecDepth 4000 in
theorem c_UpAndDown_nextSlipped {l : Launch} {D : va_G} {G : Nat → Nat} {z N : Nat} (hN : 92 ≤ N) {a0 : ud_St} {x1 : Int32} {x2 : Int32} {x3 : Int32}  {Qf : Int32 → ud_St → Prop} (hw : w_UpAndDown_nextSlipped a0 x1 x2 x3 Qf) : ud_M l D G z N yX11_nextSlipped cX11_nextSlipped 4 (some Jvm.ClassFile.FieldType.int) 3 [.ref (z + 0), .int x1, .int x2, .int x3] a0 (po_i Qf) := by
  unfold w_UpAndDown_nextSlipped at hw
  refine ud_M_of hN (by decide) (Nat.le_of_ble_eq_true rfl) ?_
  intro p e s m args below meth c C
  have C : ud_C D G z N p s m args meth c cX11_nextSlipped 4 RX11 (some Jvm.ClassFile.FieldType.int) := C
  show ud_X D G z N p l e (ud_rm 3 0 0) s m args below meth c 4 0 0 (ud_Q D G z N (po_i Qf) below args s) a0 0 [(0, .ref (z + 0)), (1, .int x1), (2, .int x2), (3, .int x3)] []
  refine ux_aload_n C 0 rfl rfl dX11_nextSlipped_0 ?_
  refine gf_11_66 C dX11_nextSlipped_1 ?_
  refine ux_aload_n C 0 rfl rfl dX11_nextSlipped_4 ?_
  refine gf_11_28 C dX11_nextSlipped_5 ?_
  refine gf_11_123 C (uc_4 C.2.2.2.2.2) dX11_nextSlipped_8 ?_
  refine cs_11_399 C (uc_56 C.2.2.2.2.2) (c_Words_copy hN (uc_56 C.2.2.2.2.2) (uc_5 C.2.2.2.2.2) hw) (by decide) (by decide) (Nat.le_of_ble_eq_true rfl) dX11_nextSlipped_11 (po_v.k fun a_2 hw => ?_)
  refine ux_aload_n C 0 rfl rfl dX11_nextSlipped_14 ?_
  refine gf_11_66 C dX11_nextSlipped_15 ?_
  refine ux_iload_n C 2 rfl rfl dX11_nextSlipped_18 ?_
  refine ux_aload_n C 0 rfl rfl dX11_nextSlipped_19 ?_
  refine gf_11_28 C dX11_nextSlipped_20 ?_
  refine gf_11_283 C (uc_4 C.2.2.2.2.2) dX11_nextSlipped_23 ?_
  refine ux_iload_n C 3 rfl rfl dX11_nextSlipped_26 ?_
  refine cs_11_126 C (uc_8 C.2.2.2.2.2) (c_Words_sort hN (uc_8 C.2.2.2.2.2) hw) (by decide) (by decide) (Nat.le_of_ble_eq_true rfl) dX11_nextSlipped_27 (po_ip.k fun r_3 hw => ?_)
  refine ux_aload_n C 0 rfl rfl dX11_nextSlipped_30 ?_
  refine gf_11_28 C dX11_nextSlipped_31 ?_
  refine gf_11_283 C (uc_4 C.2.2.2.2.2) dX11_nextSlipped_34 ?_
  refine ux_iload_n C 3 rfl rfl dX11_nextSlipped_37 ?_
  refine cs_11_130 C (uc_8 C.2.2.2.2.2) (c_Words_number hN (uc_8 C.2.2.2.2.2) hw) (by decide) (by decide) (Nat.le_of_ble_eq_true rfl) dX11_nextSlipped_38 (po_ip.k fun r_5 hw => ?_)
  refine cs_11_140 C (uc_56 C.2.2.2.2.2) (c_Words_change hN (uc_56 C.2.2.2.2.2) hw) (by decide) (by decide) (Nat.le_of_ble_eq_true rfl) dX11_nextSlipped_41 (po_v.k fun a_8 hw => ?_)
  refine ux_aload_n C 0 rfl rfl dX11_nextSlipped_44 ?_
  refine gf_11_66 C dX11_nextSlipped_45 ?_
  refine ux_aload_n C 0 rfl rfl dX11_nextSlipped_48 ?_
  refine gf_11_38 C dX11_nextSlipped_49 ?_
  refine ux_iload_n C 1 rfl rfl dX11_nextSlipped_52 ?_
  refine ux_aload_n C 0 rfl rfl dX11_nextSlipped_53 ?_
  refine gf_11_66 C dX11_nextSlipped_54 ?_
  refine gf_11_164 C (uc_56 C.2.2.2.2.2) dX11_nextSlipped_57 ?_
  refine cs_11_165 C (uc_56 C.2.2.2.2.2) (c_Words_go hN (uc_56 C.2.2.2.2.2) hw) (by decide) (by decide) (Nat.le_of_ble_eq_true rfl) dX11_nextSlipped_60 (po_ip.k fun r_9 hw => ?_)
  exact ux_iret C ⟨_, rfl, hw⟩ dX11_nextSlipped_63
set_option maxHeartbeats 2000000 in
set_option maxRecDepth 4000 in
theorem c_UpAndDown_tryRows_j14 {D : va_G} {G : Nat → Nat} {z N : Nat} {p : Program} {l : Launch} {e : Env} {s : State} {m : MethodId} {args : Array Value} {below : List Frame} {meth : Method} {c : Code} (hN : 92 ≤ N) {a0 : ud_St} {x1 : Int32} {x2 : Int32} {b_14 : ud_St} {y1_14 : Int32} {y2_14 : Int32} {y3_14 : Int32} {y4_14 : Int32} {y5_14 : Int32} {K_1 : Int32 → Int32 → ud_St → Prop}  {Qf : Int32 → ud_St → Prop} (C : ud_C D G z N p s m args meth c cX11_tryRows 6 RX11 (some Jvm.ClassFile.FieldType.int)) (ih_2 : ∀ (v0 : Int32) (v1 : Int32) (v2 : ud_St), K_1 v0 v1 v2 → ud_X D G z N p l e (ud_rm 3 0 0) s m args below meth c 6 0 0 (ud_Q D G z N (po_i Qf) below args s) v2 5 [(0, .ref (z + 0)), (1, .int y1_14), (2, .int y2_14), (3, .int v0), (4, .int v1)] []) (hw : w_UpAndDown_tryRows_j14 a0 x1 x2 b_14 y1_14 y2_14 y3_14 y4_14 y5_14 K_1 Qf) : ud_X D G z N p l e (ud_rm 3 0 0) s m args below meth c 6 0 0 (ud_Q D G z N (po_i Qf) below args s) b_14 14 [(0, .ref (z + 0)), (1, .int y1_14), (2, .int y2_14), (3, .int y3_14), (4, .int y4_14), (5, .int y5_14)] [] := by
  unfold w_UpAndDown_tryRows_j14 at hw
  refine ux_pick [0, 1, 2, 3, 4, 5] rfl ?_
  refine LW2.elim (P := fun (x5_8 : Int32) (a_9 : ud_St) => ud_X D G z N p l e (ud_rm 3 0 0) s m args below meth c 6 0 0 (ud_Q D G z N (po_i Qf) below args s) a_9 14 [(0, .ref (z + 0)), (1, .int y1_14), (2, .int y2_14), (3, .int y3_14), (4, .int y4_14), (5, .int x5_8)] []) hw ?_
  intro x5_8 a_9 K_6 hw ih_7
  refine ux_iload C 5 rfl dX11_tryRows_14 ?_
  refine ux_iload_n C 3 rfl rfl dX11_tryRows_16 ?_
  refine ux_icmp_ge C (tgt := 58) (by decide) dX11_tryRows_17 (fun hc_15 => ?_) (fun hc_15 => ?_)
  · replace hw := hw.1 hc_15
    refine ux_iload_n C 3 rfl rfl dX11_tryRows_58 ?_
    refine ux_bipush C (v := 12) (by decide) dX11_tryRows_59 ?_
    refine ux_imul C dX11_tryRows_61 ?_
    refine ux_istore_n C rfl (by decide) rfl dX11_tryRows_62 ?_
    refine ux_iinc C 4 rfl rfl (by decide) rfl dX11_tryRows_63 ?_
    refine ux_goto C (tgt := 5) (by decide) dX11_tryRows_66 ?_
    exact ux_pick [2, 3, 4, 1, 0] rfl (ih_2 _ _ _ hw)
  · replace hw := hw.2 hc_15
    refine ux_aload_n C 0 rfl rfl dX11_tryRows_20 ?_
    refine gf_11_66 C dX11_tryRows_21 ?_
    refine ux_iload C 5 rfl dX11_tryRows_24 ?_
    refine ux_iload C 4 rfl dX11_tryRows_26 ?_
    refine cs_11_402 C (uc_56 C.2.2.2.2.2) (c_Words_spell hN (uc_56 C.2.2.2.2.2) hw) (by decide) (by decide) (Nat.le_of_ble_eq_true rfl) dX11_tryRows_28 (po_v.k fun a_11 hw => ?_)
    refine ux_aload_n C 0 rfl rfl dX11_tryRows_31 ?_
    refine gf_11_66 C dX11_tryRows_32 ?_
    refine ux_aload_n C 0 rfl rfl dX11_tryRows_35 ?_
    refine gf_11_38 C dX11_tryRows_36 ?_
    refine ux_iload_n C 1 rfl rfl dX11_tryRows_39 ?_
    refine ux_iload C 4 rfl dX11_tryRows_40 ?_
    refine cs_11_165 C (uc_56 C.2.2.2.2.2) (c_Words_go hN (uc_56 C.2.2.2.2.2) hw) (by decide) (by decide) (Nat.le_of_ble_eq_true rfl) dX11_tryRows_42 (po_ip.k fun r_12 hw => ?_)
    refine ux_iload_n C 2 rfl rfl dX11_tryRows_45 ?_
    refine ux_icmp_ne C (tgt := 52) (by decide) dX11_tryRows_46 (fun hc_14 => ?_) (fun hc_14 => ?_)
    · replace hw := hw.2 hc_14
      refine ux_iinc C 5 rfl rfl (by decide) rfl dX11_tryRows_52 ?_
      refine ux_goto C (tgt := 14) (by decide) dX11_tryRows_55 ?_
      exact ux_pick [1, 2, 3, 4, 5, 0] rfl (ih_7 _ _ hw)
    · replace hw := hw.1 hc_14
      refine ux_iload C 4 rfl dX11_tryRows_49 ?_
      exact ux_iret C ⟨_, rfl, hw⟩ dX11_tryRows_51
set_option maxHeartbeats 2000000 in
set_option maxRecDepth 4000 in
theorem c_UpAndDown_tryRows_j5 {D : va_G} {G : Nat → Nat} {z N : Nat} {p : Program} {l : Launch} {e : Env} {s : State} {m : MethodId} {args : Array Value} {below : List Frame} {meth : Method} {c : Code} (hN : 92 ≤ N) {a0 : ud_St} {x1 : Int32} {x2 : Int32} {b_5 : ud_St} {y1_5 : Int32} {y2_5 : Int32} {y3_5 : Int32} {y4_5 : Int32}  {Qf : Int32 → ud_St → Prop} (C : ud_C D G z N p s m args meth c cX11_tryRows 6 RX11 (some Jvm.ClassFile.FieldType.int))  (hw : w_UpAndDown_tryRows_j5 a0 x1 x2 b_5 y1_5 y2_5 y3_5 y4_5 Qf) : ud_X D G z N p l e (ud_rm 3 0 0) s m args below meth c 6 0 0 (ud_Q D G z N (po_i Qf) below args s) b_5 5 [(0, .ref (z + 0)), (1, .int y1_5), (2, .int y2_5), (3, .int y3_5), (4, .int y4_5)] [] := by
  unfold w_UpAndDown_tryRows_j5 at hw
  refine ux_pick [0, 1, 2, 3, 4] rfl ?_
  refine LW3.elim (P := fun (x3_3 : Int32) (x4_4 : Int32) (a_5 : ud_St) => ud_X D G z N p l e (ud_rm 3 0 0) s m args below meth c 6 0 0 (ud_Q D G z N (po_i Qf) below args s) a_5 5 [(0, .ref (z + 0)), (1, .int y1_5), (2, .int y2_5), (3, .int x3_3), (4, .int x4_4)] []) hw ?_
  intro x3_3 x4_4 a_5 K_1 hw ih_2
  refine ux_iload C 4 rfl dX11_tryRows_5 ?_
  refine ux_iconst C (v := 3) (by decide) dX11_tryRows_7 ?_
  refine ux_icmp_gt C (tgt := 69) (by decide) dX11_tryRows_8 (fun hc_16 => ?_) (fun hc_16 => ?_)
  · replace hw := hw.1 hc_16
    refine ux_iconst C (v := -1) (by decide) dX11_tryRows_69 ?_
    exact ux_iret C ⟨_, rfl, hw⟩ dX11_tryRows_70
  · replace hw := hw.2 hc_16
    refine ux_iconst C (v := 0) (by decide) dX11_tryRows_11 ?_
    refine ux_istore C (by decide) rfl dX11_tryRows_12 ?_
    exact ux_pick [1, 2, 3, 4, 5, 0] rfl (c_UpAndDown_tryRows_j14 hN  C ih_2 hw)
set_option maxHeartbeats 2000000 in
set_option maxRecDepth 4000 in
theorem c_UpAndDown_tryRows {l : Launch} {D : va_G} {G : Nat → Nat} {z N : Nat} (hN : 92 ≤ N) {a0 : ud_St} {x1 : Int32} {x2 : Int32}  {Qf : Int32 → ud_St → Prop} (hw : w_UpAndDown_tryRows a0 x1 x2 Qf) : ud_M l D G z N yX11_tryRows cX11_tryRows 6 (some Jvm.ClassFile.FieldType.int) 3 [.ref (z + 0), .int x1, .int x2] a0 (po_i Qf) := by
  unfold w_UpAndDown_tryRows at hw
  refine ud_M_of hN (by decide) (Nat.le_of_ble_eq_true rfl) ?_
  intro p e s m args below meth c C
  have C : ud_C D G z N p s m args meth c cX11_tryRows 6 RX11 (some Jvm.ClassFile.FieldType.int) := C
  show ud_X D G z N p l e (ud_rm 3 0 0) s m args below meth c 6 0 0 (ud_Q D G z N (po_i Qf) below args s) a0 0 [(0, .ref (z + 0)), (1, .int x1), (2, .int x2)] []
  refine ux_iconst C (v := 1) (by decide) dX11_tryRows_0 ?_
  refine ux_istore_n C rfl (by decide) rfl dX11_tryRows_1 ?_
  refine ux_iconst C (v := 0) (by decide) dX11_tryRows_2 ?_
  refine ux_istore C (by decide) rfl dX11_tryRows_3 ?_
  exact ux_pick [2, 3, 4, 1, 0] rfl (c_UpAndDown_tryRows_j5 hN  C  hw)
set_option maxHeartbeats 2000000 in
set_option maxRecDepth 4000 in
theorem c_UpAndDown_countRight_j54 {D : va_G} {G : Nat → Nat} {z N : Nat} {p : Program} {l : Launch} {e : Env} {s : State} {m : MethodId} {args : Array Value} {below : List Frame} {meth : Method} {c : Code} (hN : 92 ≤ N) {a0 : ud_St} {k1 : Nat} {y3_54 : Int32} {y4_54 : Int64} {K_1 : Int32 → Int32 → Prop} (hk1 : ud_isS N k1) {Qf : Int32 → Prop} (C : ud_C D G z N p s m args meth c cX11_countRight 6 RX11 (some Jvm.ClassFile.FieldType.int)) (ih_2 : ∀ (v0 : Int32) (v1 : Int32), K_1 v0 v1 → ud_X D G z N p l e (ud_rm 3 0 0) s m args below meth c 6 0 0 (ud_Q D G z N (po_ip a0 Qf) below args s) a0 4 [(0, .ref (z + 0)), (1, .ref (z + k1)), (2, .int v0), (3, .int v1)] []) (hw : w_UpAndDown_countRight_j54 a0 k1 y3_54 y4_54 K_1 Qf) : ud_X D G z N p l e (ud_rm 3 0 0) s m args below meth c 6 0 0 (ud_Q D G z N (po_ip a0 Qf) below args s) a0 54 [(0, .ref (z + 0)), (1, .ref (z + k1)), (3, .int y3_54), (4, .long y4_54)] [] := by
  unfold w_UpAndDown_countRight_j54 at hw
  refine ux_aload_n C 0 rfl rfl dX11_countRight_54 ?_
  refine gf_11_28 C dX11_countRight_55 ?_
  refine gf_11_123 C (uc_4 C.2.2.2.2.2) dX11_countRight_58 ?_
  refine ux_aload_n C 0 rfl rfl dX11_countRight_61 ?_
  refine gf_11_38 C dX11_countRight_62 ?_
  refine ux_lload C 3 rfl dX11_countRight_65 ?_
  refine ux_l2i C dX11_countRight_67 ?_
  refine ux_aload_n C 0 rfl rfl dX11_countRight_68 ?_
  refine gf_11_28 C dX11_countRight_69 ?_
  refine gf_11_123 C (uc_4 C.2.2.2.2.2) dX11_countRight_72 ?_
  refine gf_11_164 C (uc_5 C.2.2.2.2.2) dX11_countRight_75 ?_
  refine cs_11_165 C (uc_5 C.2.2.2.2.2) (c_Words_go hN (uc_5 C.2.2.2.2.2) hw) (by decide) (by decide) (Nat.le_of_ble_eq_true rfl) dX11_countRight_78 (po_ip.k fun r_7 hw => ?_)
  refine ux_istore_n C rfl (by decide) rfl dX11_countRight_81 ?_
  refine ux_iinc C 3 rfl rfl (by decide) rfl dX11_countRight_82 ?_
  refine ux_goto C (tgt := 4) (by decide) dX11_countRight_85 ?_
  exact ux_pick [2, 3, 1, 0] rfl (ih_2 _ _ hw)
set_option maxHeartbeats 2000000 in
set_option maxRecDepth 4000 in
theorem c_UpAndDown_countRight {l : Launch} {D : va_G} {G : Nat → Nat} {z N : Nat} (hN : 92 ≤ N) {a0 : ud_St} {k1 : Nat} (hk1 : ud_isS N k1) {Qf : Int32 → Prop} (hw : w_UpAndDown_countRight a0 k1 Qf) : ud_M l D G z N yX11_countRight cX11_countRight 6 (some Jvm.ClassFile.FieldType.int) 3 [.ref (z + 0), .ref (z + k1)] a0 (po_ip a0 Qf) := by
  unfold w_UpAndDown_countRight at hw
  refine ud_M_of hN (by decide) (Nat.le_of_ble_eq_true rfl) ?_
  intro p e s m args below meth c C
  have C : ud_C D G z N p s m args meth c cX11_countRight 6 RX11 (some Jvm.ClassFile.FieldType.int) := C
  show ud_X D G z N p l e (ud_rm 3 0 0) s m args below meth c 6 0 0 (ud_Q D G z N (po_ip a0 Qf) below args s) a0 0 [(0, .ref (z + 0)), (1, .ref (z + k1))] []
  refine ux_iconst C (v := -1) (by decide) dX11_countRight_0 ?_
  refine ux_istore_n C rfl (by decide) rfl dX11_countRight_1 ?_
  refine ux_iconst C (v := 0) (by decide) dX11_countRight_2 ?_
  refine ux_istore_n C rfl (by decide) rfl dX11_countRight_3 ?_
  refine ux_pick [2, 3, 1, 0] rfl ?_
  refine LW2.elim (P := fun (x2_3 : Int32) (x3_4 : Int32) => ud_X D G z N p l e (ud_rm 3 0 0) s m args below meth c 6 0 0 (ud_Q D G z N (po_ip a0 Qf) below args s) a0 4 [(0, .ref (z + 0)), (1, .ref (z + k1)), (2, .int x2_3), (3, .int x3_4)] []) hw ?_
  intro x2_3 x3_4 K_1 hw ih_2
  refine ux_iload_n C 3 rfl rfl dX11_countRight_4 ?_
  refine ux_aload_n C 1 rfl rfl dX11_countRight_5 ?_
  refine gf_11_405 C hk1 dX11_countRight_6 ?_
  refine ux_icmp_ge C (tgt := 88) (by decide) dX11_countRight_9 (fun hc_13 => ?_) (fun hc_13 => ?_)
  · replace hw := hw.1 hc_13
    refine ux_aload_n C 1 rfl rfl dX11_countRight_88 ?_
    refine gf_11_405 C hk1 dX11_countRight_89 ?_
    exact ux_iret C ⟨_, rfl, rfl, hw⟩ dX11_countRight_92
  · replace hw := hw.2 hc_13
    refine ux_aload_n C 1 rfl rfl dX11_countRight_12 ?_
    refine ux_iload_n C 3 rfl rfl dX11_countRight_13 ?_
    refine cs_11_406 C hk1 (c_Slot_get hN hk1 hw) (by decide) (by decide) (Nat.le_of_ble_eq_true rfl) dX11_countRight_14 (po_lp.k fun r_5 hw => ?_)
    refine ux_lstore C (by decide) rfl dX11_countRight_17 ?_
    refine ux_lload C 0 rfl dX11_countRight_19 ?_
    refine ux_lconst C (v := 0) (by decide) dX11_countRight_21 ?_
    refine ux_lcmp C dX11_countRight_22 ?_
    refine ux_if_lt C (tgt := 52) (by decide) dX11_countRight_23 (fun hc_12 => ?_) (fun hc_12 => ?_)
    · replace hw := hw.1 hc_12
      refine ux_iload_n C 4 rfl rfl dX11_countRight_52 ?_
      exact ux_iret C ⟨_, rfl, rfl, hw⟩ dX11_countRight_53
    · replace hw := hw.2 hc_12
      refine ux_lload C 0 rfl dX11_countRight_26 ?_
      refine ux_aload_n C 1 rfl rfl dX11_countRight_28 ?_
      refine gf_11_28 C dX11_countRight_29 ?_
      refine gf_11_151 C (uc_4 C.2.2.2.2.2) dX11_countRight_32 ?_
      refine ux_i2l C dX11_countRight_35 ?_
      refine ux_lcmp C dX11_countRight_36 ?_
      refine ux_if_ge C (tgt := 52) (by decide) dX11_countRight_37 (fun hc_11 => ?_) (fun hc_11 => ?_)
      · replace hw := hw.1 hc_11
        refine ux_iload_n C 4 rfl rfl dX11_countRight_52 ?_
        exact ux_iret C ⟨_, rfl, rfl, hw⟩ dX11_countRight_53
      · replace hw := hw.2 hc_11
        refine ux_iload_n C 4 rfl rfl dX11_countRight_40 ?_
        refine ux_if_le C (tgt := 54) (by decide) dX11_countRight_41 (fun hc_10 => ?_) (fun hc_10 => ?_)
        · replace hw := hw.1 hc_10
          exact ux_pick [1, 2, 4, 0] rfl (c_UpAndDown_countRight_j54 hN hk1 C ih_2 hw)
        · replace hw := hw.2 hc_10
          refine ux_lload C 0 rfl dX11_countRight_44 ?_
          refine ux_iload_n C 3 rfl rfl dX11_countRight_46 ?_
          refine ux_i2l C dX11_countRight_47 ?_
          refine ux_lcmp C dX11_countRight_48 ?_
          refine ux_if_eq C (tgt := 54) (by decide) dX11_countRight_49 (fun hc_9 => ?_) (fun hc_9 => ?_)
          · replace hw := hw.1 hc_9
            exact ux_pick [1, 2, 4, 0] rfl (c_UpAndDown_countRight_j54 hN hk1 C ih_2 hw)
          · replace hw := hw.2 hc_9
            refine ux_iload_n C 4 rfl rfl dX11_countRight_52 ?_
            exact ux_iret C ⟨_, rfl, rfl, hw⟩ dX11_countRight_53
set_option maxHeartbeats 2000000 in
set_option maxRecDepth 4000 in
theorem c_Model_asks {l : Launch} {D : va_G} {G : Nat → Nat} {z N : Nat} (hN : 92 ≤ N) {a0 : ud_St} {x1 : Int64}  {Qf : ud_St → Prop} (hw : w_Model_asks a0 x1 Qf) : ud_M l D G z N yX12_asks cX12_asks 3 (none : Option Jvm.ClassFile.FieldType) 3 [.ref (z + 71), .long x1] a0 (po_v Qf) := by
  unfold w_Model_asks at hw
  refine ud_M_of hN (by decide) (Nat.le_of_ble_eq_true rfl) ?_
  intro p e s m args below meth c C
  have C : ud_C D G z N p s m args meth c cX12_asks 3 RX12 (none : Option Jvm.ClassFile.FieldType) := C
  show ud_X D G z N p l e (ud_rm 3 0 0) s m args below meth c 3 0 0 (ud_Q D G z N (po_v Qf) below args s) a0 0 [(0, .ref (z + 71)), (1, .long x1)] []
  refine ux_aload_n C 0 rfl rfl dX12_asks_0 ?_
  refine ux_lload_n C 1 rfl rfl dX12_asks_1 ?_
  refine cs_12_142 C  (c_Model_takes hN  hw) (by decide) (by decide) (Nat.le_of_ble_eq_true rfl) dX12_asks_2 (po_i.k fun r_1 a_2 hw => ?_)
  refine ux_if_ne C (tgt := 13) (by decide) dX12_asks_5 (fun hc_5 => ?_) (fun hc_5 => ?_)
  · replace hw := hw.2 hc_5
    exact ux_vret C ⟨rfl, hw⟩ dX12_asks_13
  · replace hw := hw.1 hc_5
    refine ux_aload_n C 0 rfl rfl dX12_asks_8 ?_
    refine ux_iconst C (v := 1) (by decide) dX12_asks_9 ?_
    refine cs_12_145 C  (c_Model_fails hN  hw) (by decide) (by decide) (Nat.le_of_ble_eq_true rfl) dX12_asks_10 (po_v.k fun a_4 hw => ?_)
    exact ux_vret C ⟨rfl, hw⟩ dX12_asks_13
set_option maxHeartbeats 2000000 in
set_option maxRecDepth 4000 in
theorem c_Model_wordTo_j15 {D : va_G} {G : Nat → Nat} {z N : Nat} {p : Program} {l : Launch} {e : Env} {s : State} {m : MethodId} {args : Array Value} {below : List Frame} {meth : Method} {c : Code} (hN : 92 ≤ N) {a0 : ud_St} {k1 : Nat} {n1 : Nat} {x2 : Int32} {b_15 : ud_St} {y2_15 : Int32} {y3_15 : Int32} (hk1 : ud_isI N k1 n1) {Qf : ud_St → Prop} (C : ud_C D G z N p s m args meth c cX12_wordTo 4 RX12 (none : Option Jvm.ClassFile.FieldType))  (hw : w_Model_wordTo_j15 a0 k1 n1 x2 b_15 y2_15 y3_15 Qf) : ud_X D G z N p l e (ud_rm 3 0 0) s m args below meth c 4 0 0 (ud_Q D G z N (po_v Qf) below args s) b_15 15 [(0, .ref (z + 71)), (1, .ref (z + k1)), (2, .int y2_15), (3, .int y3_15)] [] := by
  unfold w_Model_wordTo_j15 at hw
  refine ux_aload_n C 0 rfl rfl dX12_wordTo_15 ?_
  refine gf_12_129 C dX12_wordTo_16 ?_
  refine ux_if_eq C (tgt := 23) (by decide) dX12_wordTo_19 (fun hc_17 => ?_) (fun hc_17 => ?_)
  · replace hw := hw.1 hc_17
    refine ux_aload_n C 0 rfl rfl dX12_wordTo_23 ?_
    refine cs_12_139 C  (c_Model_next hN  hw) (by decide) (by decide) (Nat.le_of_ble_eq_true rfl) dX12_wordTo_24 (po_v.k fun a_4 hw => ?_)
    refine ux_aload_n C 1 rfl rfl dX12_wordTo_27 ?_
    refine ux_iload_n C 2 rfl rfl dX12_wordTo_28 ?_
    refine ux_iload_n C 3 rfl rfl dX12_wordTo_29 ?_
    obtain ⟨hi_5, hw⟩ := hw
    refine ux_iast C hk1 hi_5 dX12_wordTo_30 ?_
    refine ux_aload_n C 1 rfl rfl dX12_wordTo_31 ?_
    refine ux_iload_n C 2 rfl rfl dX12_wordTo_32 ?_
    refine ux_iconst C (v := 1) (by decide) dX12_wordTo_33 ?_
    refine ux_iadd C dX12_wordTo_34 ?_
    refine ux_iload_n C 3 rfl rfl dX12_wordTo_35 ?_
    refine ux_bipush C (v := 14) (by decide) dX12_wordTo_36 ?_
    refine ux_icmp_ne C (tgt := 56) (by decide) dX12_wordTo_38 (fun hc_16 => ?_) (fun hc_16 => ?_)
    · replace hw := hw.2 hc_16
      refine ux_iload_n C 3 rfl rfl dX12_wordTo_56 ?_
      refine ux_bipush C (v := 12) (by decide) dX12_wordTo_57 ?_
      refine ux_icmp_lt C (tgt := 72) (by decide) dX12_wordTo_59 (fun hc_10 => ?_) (fun hc_10 => ?_)
      · replace hw := hw.1 hc_10
        refine ux_iconst C (v := -1) (by decide) dX12_wordTo_72 ?_
        obtain ⟨hi_6, hw⟩ := hw
        refine ux_iast C hk1 hi_6 dX12_wordTo_73 ?_
        exact ux_vret C ⟨rfl, hw⟩ dX12_wordTo_74
      · replace hw := hw.2 hc_10
        refine ux_aload_n C 0 rfl rfl dX12_wordTo_62 ?_
        refine ux_iconst C (v := 0) (by decide) dX12_wordTo_63 ?_
        refine ux_bipush C (v := 99) (by decide) dX12_wordTo_64 ?_
        refine cs_12_152 C  (c_Model_number hN  hw) (by decide) (by decide) (Nat.le_of_ble_eq_true rfl) dX12_wordTo_66 (po_i.k fun r_7 a_8 hw => ?_)
        refine ux_goto C (tgt := 73) (by decide) dX12_wordTo_69 ?_
        obtain ⟨hi_9, hw⟩ := hw
        refine ux_iast C hk1 hi_9 dX12_wordTo_73 ?_
        exact ux_vret C ⟨rfl, hw⟩ dX12_wordTo_74
    · replace hw := hw.1 hc_16
      refine ux_aload_n C 0 rfl rfl dX12_wordTo_41 ?_
      refine ux_iconst C (v := 0) (by decide) dX12_wordTo_42 ?_
      refine ux_aload_n C 0 rfl rfl dX12_wordTo_43 ?_
      refine ux_iconst C (v := 0) (by decide) dX12_wordTo_44 ?_
      refine cs_12_193 C  (c_Model_many hN  hw) (by decide) (by decide) (Nat.le_of_ble_eq_true rfl) dX12_wordTo_45 (po_ip.k fun r_11 hw => ?_)
      refine ux_iconst C (v := 1) (by decide) dX12_wordTo_48 ?_
      refine ux_isub C dX12_wordTo_49 ?_
      refine cs_12_152 C  (c_Model_number hN  hw) (by decide) (by decide) (Nat.le_of_ble_eq_true rfl) dX12_wordTo_50 (po_i.k fun r_13 a_14 hw => ?_)
      refine ux_goto C (tgt := 73) (by decide) dX12_wordTo_53 ?_
      obtain ⟨hi_15, hw⟩ := hw
      refine ux_iast C hk1 hi_15 dX12_wordTo_73 ?_
      exact ux_vret C ⟨rfl, hw⟩ dX12_wordTo_74
  · replace hw := hw.2 hc_17
    exact ux_vret C ⟨rfl, hw⟩ dX12_wordTo_22
set_option maxHeartbeats 2000000 in
set_option maxRecDepth 4000 in
theorem c_Model_wordTo {l : Launch} {D : va_G} {G : Nat → Nat} {z N : Nat} (hN : 92 ≤ N) {a0 : ud_St} {k1 : Nat} {n1 : Nat} {x2 : Int32} (hk1 : ud_isI N k1 n1) {Qf : ud_St → Prop} (hw : w_Model_wordTo a0 k1 n1 x2 Qf) : ud_M l D G z N yX12_wordTo cX12_wordTo 4 (none : Option Jvm.ClassFile.FieldType) 3 [.ref (z + 71), .ref (z + k1), .int x2] a0 (po_v Qf) := by
  unfold w_Model_wordTo at hw
  refine ud_M_of hN (by decide) (Nat.le_of_ble_eq_true rfl) ?_
  intro p e s m args below meth c C
  have C : ud_C D G z N p s m args meth c cX12_wordTo 4 RX12 (none : Option Jvm.ClassFile.FieldType) := C
  show ud_X D G z N p l e (ud_rm 3 0 0) s m args below meth c 4 0 0 (ud_Q D G z N (po_v Qf) below args s) a0 0 [(0, .ref (z + 71)), (1, .ref (z + k1)), (2, .int x2)] []
  refine ux_aload_n C 0 rfl rfl dX12_wordTo_0 ?_
  refine cs_12_189 C  (c_Model_sortHere hN  hw) (by decide) (by decide) (Nat.le_of_ble_eq_true rfl) dX12_wordTo_1 (po_ip.k fun r_1 hw => ?_)
  refine ux_istore_n C rfl (by decide) rfl dX12_wordTo_4 ?_
  refine ux_iload_n C 0 rfl rfl dX12_wordTo_5 ?_
  refine ux_iconst C (v := -1) (by decide) dX12_wordTo_6 ?_
  refine ux_icmp_ne C (tgt := 15) (by decide) dX12_wordTo_7 (fun hc_20 => ?_) (fun hc_20 => ?_)
  · replace hw := hw.2 hc_20
    exact ux_pick [1, 2, 3, 0] rfl (c_Model_wordTo_j15 hN hk1 C  hw)
  · replace hw := hw.1 hc_20
    refine ux_aload_n C 1 rfl rfl dX12_wordTo_10 ?_
    refine ux_iconst C (v := 1) (by decide) dX12_wordTo_11 ?_
    refine cs_12_145 C  (c_Model_fails hN  hw) (by decide) (by decide) (Nat.le_of_ble_eq_true rfl) dX12_wordTo_12 (po_v.k fun a_19 hw => ?_)
    exact ux_pick [1, 2, 3, 0] rfl (c_Model_wordTo_j15 hN hk1 C  hw)
set_option maxHeartbeats 2000000 in
set_option maxRecDepth 4000 in
theorem c_Model_does {l : Launch} {D : va_G} {G : Nat → Nat} {z N : Nat} (hN : 92 ≤ N) {a0 : ud_St} {x1 : Int32} {x2 : Int32} {x3 : Int32}  {Qf : Int32 → ud_St → Prop} (hw : w_Model_does a0 x1 x2 x3 Qf) : ud_M l D G z N yX12_does cX12_does 5 (some Jvm.ClassFile.FieldType.int) 3 [.ref (z + 71), .int x1, .int x2, .int x3] a0 (po_i Qf) := by
  unfold w_Model_does at hw
  refine ud_M_of hN (by decide) (Nat.le_of_ble_eq_true rfl) ?_
  intro p e s m args below meth c C
  have C : ud_C D G z N p s m args meth c cX12_does 5 RX12 (some Jvm.ClassFile.FieldType.int) := C
  show ud_X D G z N p l e (ud_rm 3 0 0) s m args below meth c 5 0 0 (ud_Q D G z N (po_i Qf) below args s) a0 0 [(0, .ref (z + 71)), (1, .int x1), (2, .int x2), (3, .int x3)] []
  refine ux_iload_n C 1 rfl rfl dX12_does_0 ?_
  refine ux_istore C (by decide) rfl dX12_does_1 ?_
  refine ux_iload_n C 3 rfl rfl dX12_does_3 ?_
  by_cases hx_5 : x2 = 0
  · replace hw := hw.1 hx_5
    refine ux_tableIn C (tgt := 76) (by rw [hx_5]; decide) (by rw [hx_5]; decide) (by rw [hx_5]; rfl) (by decide) dX12_does_4 ?_
    refine ux_aload_n C 1 rfl rfl dX12_does_76 ?_
    refine ux_iload_n C 2 rfl rfl dX12_does_77 ?_
    refine cs_12_265 C  (c_Model_down hN  hw) (by decide) (by decide) (Nat.le_of_ble_eq_true rfl) dX12_does_78 (po_i.k fun r_1 a_2 hw => ?_)
    refine ux_istore C (by decide) rfl dX12_does_81 ?_
    refine ux_goto C (tgt := 247) (by decide) dX12_does_83 ?_
    refine ux_iload C 0 rfl dX12_does_247 ?_
    refine ux_aload_n C 1 rfl rfl dX12_does_249 ?_
    refine gf_12_34 C dX12_does_250 ?_
    refine ux_iconst C (v := 2) (by decide) dX12_does_253 ?_
    obtain ⟨hi_4, hw⟩ := hw
    refine ux_iald C (uc_78 C.2.2.2.2.2) hi_4 dX12_does_254 ?_
    obtain ⟨hc_3, hw⟩ := hw
    refine ux_irem C hc_3 dX12_does_255 ?_
    exact ux_iret C ⟨_, rfl, hw⟩ dX12_does_256
  · replace hw := hw.2 hx_5
    by_cases hx_10 : x2 = 1
    · replace hw := hw.1 hx_10
      refine ux_tableIn C (tgt := 86) (by rw [hx_10]; decide) (by rw [hx_10]; decide) (by rw [hx_10]; rfl) (by decide) dX12_does_4 ?_
      refine ux_aload_n C 1 rfl rfl dX12_does_86 ?_
      refine ux_iload_n C 2 rfl rfl dX12_does_87 ?_
      refine cs_12_268 C  (c_Model_up hN  hw) (by decide) (by decide) (Nat.le_of_ble_eq_true rfl) dX12_does_88 (po_i.k fun r_6 a_7 hw => ?_)
      refine ux_istore C (by decide) rfl dX12_does_91 ?_
      refine ux_goto C (tgt := 247) (by decide) dX12_does_93 ?_
      refine ux_iload C 0 rfl dX12_does_247 ?_
      refine ux_aload_n C 1 rfl rfl dX12_does_249 ?_
      refine gf_12_34 C dX12_does_250 ?_
      refine ux_iconst C (v := 2) (by decide) dX12_does_253 ?_
      obtain ⟨hi_9, hw⟩ := hw
      refine ux_iald C (uc_78 C.2.2.2.2.2) hi_9 dX12_does_254 ?_
      obtain ⟨hc_8, hw⟩ := hw
      refine ux_irem C hc_8 dX12_does_255 ?_
      exact ux_iret C ⟨_, rfl, hw⟩ dX12_does_256
    · replace hw := hw.2 hx_10
      by_cases hx_15 : x2 = 2
      · replace hw := hw.1 hx_15
        refine ux_tableIn C (tgt := 96) (by rw [hx_15]; decide) (by rw [hx_15]; decide) (by rw [hx_15]; rfl) (by decide) dX12_does_4 ?_
        refine ux_aload_n C 1 rfl rfl dX12_does_96 ?_
        refine ux_iload_n C 2 rfl rfl dX12_does_97 ?_
        refine cs_12_271 C  (c_Model_turned hN  hw) (by decide) (by decide) (Nat.le_of_ble_eq_true rfl) dX12_does_98 (po_i.k fun r_11 a_12 hw => ?_)
        refine ux_istore C (by decide) rfl dX12_does_101 ?_
        refine ux_goto C (tgt := 247) (by decide) dX12_does_103 ?_
        refine ux_iload C 0 rfl dX12_does_247 ?_
        refine ux_aload_n C 1 rfl rfl dX12_does_249 ?_
        refine gf_12_34 C dX12_does_250 ?_
        refine ux_iconst C (v := 2) (by decide) dX12_does_253 ?_
        obtain ⟨hi_14, hw⟩ := hw
        refine ux_iald C (uc_78 C.2.2.2.2.2) hi_14 dX12_does_254 ?_
        obtain ⟨hc_13, hw⟩ := hw
        refine ux_irem C hc_13 dX12_does_255 ?_
        exact ux_iret C ⟨_, rfl, hw⟩ dX12_does_256
      · replace hw := hw.2 hx_15
        by_cases hx_18 : x2 = 3
        · replace hw := hw.1 hx_18
          refine ux_tableIn C (tgt := 106) (by rw [hx_18]; decide) (by rw [hx_18]; decide) (by rw [hx_18]; rfl) (by decide) dX12_does_4 ?_
          refine ux_aload_n C 1 rfl rfl dX12_does_106 ?_
          refine ux_iload_n C 2 rfl rfl dX12_does_107 ?_
          refine pf_12_274 C dX12_does_108 ?_
          refine ux_goto C (tgt := 247) (by decide) dX12_does_111 ?_
          refine ux_iload C 0 rfl dX12_does_247 ?_
          refine ux_aload_n C 1 rfl rfl dX12_does_249 ?_
          refine gf_12_34 C dX12_does_250 ?_
          refine ux_iconst C (v := 2) (by decide) dX12_does_253 ?_
          obtain ⟨hi_17, hw⟩ := hw
          refine ux_iald C (uc_78 C.2.2.2.2.2) hi_17 dX12_does_254 ?_
          obtain ⟨hc_16, hw⟩ := hw
          refine ux_irem C hc_16 dX12_does_255 ?_
          exact ux_iret C ⟨_, rfl, hw⟩ dX12_does_256
        · replace hw := hw.2 hx_18
          by_cases hx_21 : x2 = 4
          · replace hw := hw.1 hx_21
            refine ux_tableIn C (tgt := 114) (by rw [hx_21]; decide) (by rw [hx_21]; decide) (by rw [hx_21]; rfl) (by decide) dX12_does_4 ?_
            refine ux_aload_n C 1 rfl rfl dX12_does_114 ?_
            refine gf_12_274 C dX12_does_115 ?_
            refine ux_istore C (by decide) rfl dX12_does_118 ?_
            refine ux_goto C (tgt := 247) (by decide) dX12_does_120 ?_
            refine ux_iload C 0 rfl dX12_does_247 ?_
            refine ux_aload_n C 1 rfl rfl dX12_does_249 ?_
            refine gf_12_34 C dX12_does_250 ?_
            refine ux_iconst C (v := 2) (by decide) dX12_does_253 ?_
            obtain ⟨hi_20, hw⟩ := hw
            refine ux_iald C (uc_78 C.2.2.2.2.2) hi_20 dX12_does_254 ?_
            obtain ⟨hc_19, hw⟩ := hw
            refine ux_irem C hc_19 dX12_does_255 ?_
            exact ux_iret C ⟨_, rfl, hw⟩ dX12_does_256
          · replace hw := hw.2 hx_21
            by_cases hx_27 : x2 = 5
            · replace hw := hw.1 hx_27
              refine ux_tableIn C (tgt := 123) (by rw [hx_27]; decide) (by rw [hx_27]; decide) (by rw [hx_27]; rfl) (by decide) dX12_does_4 ?_
              refine ux_iload_n C 2 rfl rfl dX12_does_123 ?_
              refine ux_aload_n C 1 rfl rfl dX12_does_124 ?_
              refine gf_12_274 C dX12_does_125 ?_
              refine ux_icmp_le C (tgt := 140) (by decide) dX12_does_128 (fun hc_26 => ?_) (fun hc_26 => ?_)
              · replace hw := hw.1 hc_26
                refine ux_aload_n C 1 rfl rfl dX12_does_140 ?_
                refine gf_12_274 C dX12_does_141 ?_
                refine ux_iload_n C 2 rfl rfl dX12_does_144 ?_
                refine ux_isub C dX12_does_145 ?_
                refine ux_istore C (by decide) rfl dX12_does_146 ?_
                refine ux_goto C (tgt := 247) (by decide) dX12_does_148 ?_
                refine ux_iload C 0 rfl dX12_does_247 ?_
                refine ux_aload_n C 1 rfl rfl dX12_does_249 ?_
                refine gf_12_34 C dX12_does_250 ?_
                refine ux_iconst C (v := 2) (by decide) dX12_does_253 ?_
                obtain ⟨hi_23, hw⟩ := hw
                refine ux_iald C (uc_78 C.2.2.2.2.2) hi_23 dX12_does_254 ?_
                obtain ⟨hc_22, hw⟩ := hw
                refine ux_irem C hc_22 dX12_does_255 ?_
                exact ux_iret C ⟨_, rfl, hw⟩ dX12_does_256
              · replace hw := hw.2 hc_26
                refine ux_iload_n C 2 rfl rfl dX12_does_131 ?_
                refine ux_aload_n C 1 rfl rfl dX12_does_132 ?_
                refine gf_12_274 C dX12_does_133 ?_
                refine ux_isub C dX12_does_136 ?_
                refine ux_goto C (tgt := 146) (by decide) dX12_does_137 ?_
                refine ux_istore C (by decide) rfl dX12_does_146 ?_
                refine ux_goto C (tgt := 247) (by decide) dX12_does_148 ?_
                refine ux_iload C 0 rfl dX12_does_247 ?_
                refine ux_aload_n C 1 rfl rfl dX12_does_249 ?_
                refine gf_12_34 C dX12_does_250 ?_
                refine ux_iconst C (v := 2) (by decide) dX12_does_253 ?_
                obtain ⟨hi_25, hw⟩ := hw
                refine ux_iald C (uc_78 C.2.2.2.2.2) hi_25 dX12_does_254 ?_
                obtain ⟨hc_24, hw⟩ := hw
                refine ux_irem C hc_24 dX12_does_255 ?_
                exact ux_iret C ⟨_, rfl, hw⟩ dX12_does_256
            · replace hw := hw.2 hx_27
              by_cases hx_30 : x2 = 6
              · replace hw := hw.1 hx_30
                refine ux_tableIn C (tgt := 151) (by rw [hx_30]; decide) (by rw [hx_30]; decide) (by rw [hx_30]; rfl) (by decide) dX12_does_4 ?_
                refine ux_iload_n C 2 rfl rfl dX12_does_151 ?_
                refine ux_aload_n C 1 rfl rfl dX12_does_152 ?_
                refine gf_12_274 C dX12_does_153 ?_
                refine ux_iadd C dX12_does_156 ?_
                refine ux_istore C (by decide) rfl dX12_does_157 ?_
                refine ux_goto C (tgt := 247) (by decide) dX12_does_159 ?_
                refine ux_iload C 0 rfl dX12_does_247 ?_
                refine ux_aload_n C 1 rfl rfl dX12_does_249 ?_
                refine gf_12_34 C dX12_does_250 ?_
                refine ux_iconst C (v := 2) (by decide) dX12_does_253 ?_
                obtain ⟨hi_29, hw⟩ := hw
                refine ux_iald C (uc_78 C.2.2.2.2.2) hi_29 dX12_does_254 ?_
                obtain ⟨hc_28, hw⟩ := hw
                refine ux_irem C hc_28 dX12_does_255 ?_
                exact ux_iret C ⟨_, rfl, hw⟩ dX12_does_256
              · replace hw := hw.2 hx_30
                by_cases hx_35 : x2 = 7
                · replace hw := hw.1 hx_35
                  refine ux_tableIn C (tgt := 162) (by rw [hx_35]; decide) (by rw [hx_35]; decide) (by rw [hx_35]; rfl) (by decide) dX12_does_4 ?_
                  refine ux_aload_n C 1 rfl rfl dX12_does_162 ?_
                  refine ux_iload_n C 2 rfl rfl dX12_does_163 ?_
                  refine ux_iconst C (v := 2) (by decide) dX12_does_164 ?_
                  refine cs_12_277 C  (c_Model_powers hN  hw) (by decide) (by decide) (Nat.le_of_ble_eq_true rfl) dX12_does_165 (po_i.k fun r_31 a_32 hw => ?_)
                  refine ux_istore C (by decide) rfl dX12_does_168 ?_
                  refine ux_goto C (tgt := 247) (by decide) dX12_does_170 ?_
                  refine ux_iload C 0 rfl dX12_does_247 ?_
                  refine ux_aload_n C 1 rfl rfl dX12_does_249 ?_
                  refine gf_12_34 C dX12_does_250 ?_
                  refine ux_iconst C (v := 2) (by decide) dX12_does_253 ?_
                  obtain ⟨hi_34, hw⟩ := hw
                  refine ux_iald C (uc_78 C.2.2.2.2.2) hi_34 dX12_does_254 ?_
                  obtain ⟨hc_33, hw⟩ := hw
                  refine ux_irem C hc_33 dX12_does_255 ?_
                  exact ux_iret C ⟨_, rfl, hw⟩ dX12_does_256
                · replace hw := hw.2 hx_35
                  by_cases hx_40 : x2 = 8
                  · replace hw := hw.1 hx_40
                    refine ux_tableIn C (tgt := 173) (by rw [hx_40]; decide) (by rw [hx_40]; decide) (by rw [hx_40]; rfl) (by decide) dX12_does_4 ?_
                    refine ux_aload_n C 1 rfl rfl dX12_does_173 ?_
                    refine ux_iload_n C 2 rfl rfl dX12_does_174 ?_
                    refine ux_iconst C (v := 3) (by decide) dX12_does_175 ?_
                    refine cs_12_277 C  (c_Model_powers hN  hw) (by decide) (by decide) (Nat.le_of_ble_eq_true rfl) dX12_does_176 (po_i.k fun r_36 a_37 hw => ?_)
                    refine ux_istore C (by decide) rfl dX12_does_179 ?_
                    refine ux_goto C (tgt := 247) (by decide) dX12_does_181 ?_
                    refine ux_iload C 0 rfl dX12_does_247 ?_
                    refine ux_aload_n C 1 rfl rfl dX12_does_249 ?_
                    refine gf_12_34 C dX12_does_250 ?_
                    refine ux_iconst C (v := 2) (by decide) dX12_does_253 ?_
                    obtain ⟨hi_39, hw⟩ := hw
                    refine ux_iald C (uc_78 C.2.2.2.2.2) hi_39 dX12_does_254 ?_
                    obtain ⟨hc_38, hw⟩ := hw
                    refine ux_irem C hc_38 dX12_does_255 ?_
                    exact ux_iret C ⟨_, rfl, hw⟩ dX12_does_256
                  · replace hw := hw.2 hx_40
                    by_cases hx_45 : x2 = 9
                    · replace hw := hw.1 hx_45
                      refine ux_tableIn C (tgt := 184) (by rw [hx_45]; decide) (by rw [hx_45]; decide) (by rw [hx_45]; rfl) (by decide) dX12_does_4 ?_
                      refine ux_aload_n C 1 rfl rfl dX12_does_184 ?_
                      refine ux_iload_n C 2 rfl rfl dX12_does_185 ?_
                      refine ux_iconst C (v := 1) (by decide) dX12_does_186 ?_
                      refine cs_12_277 C  (c_Model_powers hN  hw) (by decide) (by decide) (Nat.le_of_ble_eq_true rfl) dX12_does_187 (po_i.k fun r_41 a_42 hw => ?_)
                      refine ux_istore C (by decide) rfl dX12_does_190 ?_
                      refine ux_goto C (tgt := 247) (by decide) dX12_does_192 ?_
                      refine ux_iload C 0 rfl dX12_does_247 ?_
                      refine ux_aload_n C 1 rfl rfl dX12_does_249 ?_
                      refine gf_12_34 C dX12_does_250 ?_
                      refine ux_iconst C (v := 2) (by decide) dX12_does_253 ?_
                      obtain ⟨hi_44, hw⟩ := hw
                      refine ux_iald C (uc_78 C.2.2.2.2.2) hi_44 dX12_does_254 ?_
                      obtain ⟨hc_43, hw⟩ := hw
                      refine ux_irem C hc_43 dX12_does_255 ?_
                      exact ux_iret C ⟨_, rfl, hw⟩ dX12_does_256
                    · replace hw := hw.2 hx_45
                      by_cases hx_51 : x2 = 10
                      · replace hw := hw.1 hx_51
                        refine ux_tableIn C (tgt := 195) (by rw [hx_51]; decide) (by rw [hx_51]; decide) (by rw [hx_51]; rfl) (by decide) dX12_does_4 ?_
                        refine ux_iload_n C 2 rfl rfl dX12_does_195 ?_
                        refine ux_iconst C (v := 2) (by decide) dX12_does_196 ?_
                        refine ux_irem C (by decide) dX12_does_197 ?_
                        refine ux_if_ne C (tgt := 207) (by decide) dX12_does_198 (fun hc_50 => ?_) (fun hc_50 => ?_)
                        · replace hw := hw.2 hc_50
                          refine ux_iload_n C 2 rfl rfl dX12_does_207 ?_
                          refine ux_istore C (by decide) rfl dX12_does_208 ?_
                          refine ux_goto C (tgt := 247) (by decide) dX12_does_210 ?_
                          refine ux_iload C 0 rfl dX12_does_247 ?_
                          refine ux_aload_n C 1 rfl rfl dX12_does_249 ?_
                          refine gf_12_34 C dX12_does_250 ?_
                          refine ux_iconst C (v := 2) (by decide) dX12_does_253 ?_
                          obtain ⟨hi_47, hw⟩ := hw
                          refine ux_iald C (uc_78 C.2.2.2.2.2) hi_47 dX12_does_254 ?_
                          obtain ⟨hc_46, hw⟩ := hw
                          refine ux_irem C hc_46 dX12_does_255 ?_
                          exact ux_iret C ⟨_, rfl, hw⟩ dX12_does_256
                        · replace hw := hw.1 hc_50
                          refine ux_iload_n C 2 rfl rfl dX12_does_201 ?_
                          refine ux_iconst C (v := 2) (by decide) dX12_does_202 ?_
                          refine ux_idiv C (by decide) dX12_does_203 ?_
                          refine ux_goto C (tgt := 208) (by decide) dX12_does_204 ?_
                          refine ux_istore C (by decide) rfl dX12_does_208 ?_
                          refine ux_goto C (tgt := 247) (by decide) dX12_does_210 ?_
                          refine ux_iload C 0 rfl dX12_does_247 ?_
                          refine ux_aload_n C 1 rfl rfl dX12_does_249 ?_
                          refine gf_12_34 C dX12_does_250 ?_
                          refine ux_iconst C (v := 2) (by decide) dX12_does_253 ?_
                          obtain ⟨hi_49, hw⟩ := hw
                          refine ux_iald C (uc_78 C.2.2.2.2.2) hi_49 dX12_does_254 ?_
                          obtain ⟨hc_48, hw⟩ := hw
                          refine ux_irem C hc_48 dX12_does_255 ?_
                          exact ux_iret C ⟨_, rfl, hw⟩ dX12_does_256
                      · replace hw := hw.2 hx_51
                        by_cases hx_56 : x2 = 11
                        · replace hw := hw.1 hx_56
                          refine ux_tableIn C (tgt := 213) (by rw [hx_56]; decide) (by rw [hx_56]; decide) (by rw [hx_56]; rfl) (by decide) dX12_does_4 ?_
                          refine ux_aload_n C 1 rfl rfl dX12_does_213 ?_
                          refine ux_iload_n C 2 rfl rfl dX12_does_214 ?_
                          refine cs_12_280 C  (c_Model_moved hN  hw) (by decide) (by decide) (Nat.le_of_ble_eq_true rfl) dX12_does_215 (po_i.k fun r_52 a_53 hw => ?_)
                          refine ux_istore C (by decide) rfl dX12_does_218 ?_
                          refine ux_goto C (tgt := 247) (by decide) dX12_does_220 ?_
                          refine ux_iload C 0 rfl dX12_does_247 ?_
                          refine ux_aload_n C 1 rfl rfl dX12_does_249 ?_
                          refine gf_12_34 C dX12_does_250 ?_
                          refine ux_iconst C (v := 2) (by decide) dX12_does_253 ?_
                          obtain ⟨hi_55, hw⟩ := hw
                          refine ux_iald C (uc_78 C.2.2.2.2.2) hi_55 dX12_does_254 ?_
                          obtain ⟨hc_54, hw⟩ := hw
                          refine ux_irem C hc_54 dX12_does_255 ?_
                          exact ux_iret C ⟨_, rfl, hw⟩ dX12_does_256
                        · replace hw := hw.2 hx_56
                          by_cases hx_59 : x2 = 12
                          · replace hw := hw.1 hx_59
                            refine ux_tableIn C (tgt := 223) (by rw [hx_59]; decide) (by rw [hx_59]; decide) (by rw [hx_59]; rfl) (by decide) dX12_does_4 ?_
                            refine ux_iload_n C 2 rfl rfl dX12_does_223 ?_
                            refine ux_iload_n C 4 rfl rfl dX12_does_224 ?_
                            refine ux_imul C dX12_does_225 ?_
                            refine ux_istore C (by decide) rfl dX12_does_226 ?_
                            refine ux_goto C (tgt := 247) (by decide) dX12_does_228 ?_
                            refine ux_iload C 0 rfl dX12_does_247 ?_
                            refine ux_aload_n C 1 rfl rfl dX12_does_249 ?_
                            refine gf_12_34 C dX12_does_250 ?_
                            refine ux_iconst C (v := 2) (by decide) dX12_does_253 ?_
                            obtain ⟨hi_58, hw⟩ := hw
                            refine ux_iald C (uc_78 C.2.2.2.2.2) hi_58 dX12_does_254 ?_
                            obtain ⟨hc_57, hw⟩ := hw
                            refine ux_irem C hc_57 dX12_does_255 ?_
                            exact ux_iret C ⟨_, rfl, hw⟩ dX12_does_256
                          · replace hw := hw.2 hx_59
                            by_cases hx_62 : x2 = 13
                            · replace hw := hw.1 hx_62
                              refine ux_tableIn C (tgt := 231) (by rw [hx_62]; decide) (by rw [hx_62]; decide) (by rw [hx_62]; rfl) (by decide) dX12_does_4 ?_
                              refine ux_iload_n C 2 rfl rfl dX12_does_231 ?_
                              refine ux_iload_n C 4 rfl rfl dX12_does_232 ?_
                              refine ux_iadd C dX12_does_233 ?_
                              refine ux_istore C (by decide) rfl dX12_does_234 ?_
                              refine ux_goto C (tgt := 247) (by decide) dX12_does_236 ?_
                              refine ux_iload C 0 rfl dX12_does_247 ?_
                              refine ux_aload_n C 1 rfl rfl dX12_does_249 ?_
                              refine gf_12_34 C dX12_does_250 ?_
                              refine ux_iconst C (v := 2) (by decide) dX12_does_253 ?_
                              obtain ⟨hi_61, hw⟩ := hw
                              refine ux_iald C (uc_78 C.2.2.2.2.2) hi_61 dX12_does_254 ?_
                              obtain ⟨hc_60, hw⟩ := hw
                              refine ux_irem C hc_60 dX12_does_255 ?_
                              exact ux_iret C ⟨_, rfl, hw⟩ dX12_does_256
                            · replace hw := hw.2 hx_62
                              have hx_5i : Int32.toInt x2 ≠ 0 := fun q => hx_5 (Int32.toInt_inj.mp (q.trans (by decide)))
                              have hx_10i : Int32.toInt x2 ≠ 1 := fun q => hx_10 (Int32.toInt_inj.mp (q.trans (by decide)))
                              have hx_15i : Int32.toInt x2 ≠ 2 := fun q => hx_15 (Int32.toInt_inj.mp (q.trans (by decide)))
                              have hx_18i : Int32.toInt x2 ≠ 3 := fun q => hx_18 (Int32.toInt_inj.mp (q.trans (by decide)))
                              have hx_21i : Int32.toInt x2 ≠ 4 := fun q => hx_21 (Int32.toInt_inj.mp (q.trans (by decide)))
                              have hx_27i : Int32.toInt x2 ≠ 5 := fun q => hx_27 (Int32.toInt_inj.mp (q.trans (by decide)))
                              have hx_30i : Int32.toInt x2 ≠ 6 := fun q => hx_30 (Int32.toInt_inj.mp (q.trans (by decide)))
                              have hx_35i : Int32.toInt x2 ≠ 7 := fun q => hx_35 (Int32.toInt_inj.mp (q.trans (by decide)))
                              have hx_40i : Int32.toInt x2 ≠ 8 := fun q => hx_40 (Int32.toInt_inj.mp (q.trans (by decide)))
                              have hx_45i : Int32.toInt x2 ≠ 9 := fun q => hx_45 (Int32.toInt_inj.mp (q.trans (by decide)))
                              have hx_51i : Int32.toInt x2 ≠ 10 := fun q => hx_51 (Int32.toInt_inj.mp (q.trans (by decide)))
                              have hx_56i : Int32.toInt x2 ≠ 11 := fun q => hx_56 (Int32.toInt_inj.mp (q.trans (by decide)))
                              have hx_59i : Int32.toInt x2 ≠ 12 := fun q => hx_59 (Int32.toInt_inj.mp (q.trans (by decide)))
                              have hx_62i : Int32.toInt x2 ≠ 13 := fun q => hx_62 (Int32.toInt_inj.mp (q.trans (by decide)))
                              refine ux_tableOut C (tgt := 239) (by omega) (by decide) dX12_does_4 ?_
                              refine ux_aload_n C 1 rfl rfl dX12_does_239 ?_
                              refine ux_iload_n C 2 rfl rfl dX12_does_240 ?_
                              refine ux_iload_n C 4 rfl rfl dX12_does_241 ?_
                              refine cs_12_282 C  (c_Model_leftOut hN  hw) (by decide) (by decide) (Nat.le_of_ble_eq_true rfl) dX12_does_242 (po_i.k fun r_63 a_64 hw => ?_)
                              refine ux_istore C (by decide) rfl dX12_does_245 ?_
                              refine ux_iload C 0 rfl dX12_does_247 ?_
                              refine ux_aload_n C 1 rfl rfl dX12_does_249 ?_
                              refine gf_12_34 C dX12_does_250 ?_
                              refine ux_iconst C (v := 2) (by decide) dX12_does_253 ?_
                              obtain ⟨hi_66, hw⟩ := hw
                              refine ux_iald C (uc_78 C.2.2.2.2.2) hi_66 dX12_does_254 ?_
                              obtain ⟨hc_65, hw⟩ := hw
                              refine ux_irem C hc_65 dX12_does_255 ?_
                              exact ux_iret C ⟨_, rfl, hw⟩ dX12_does_256
set_option maxHeartbeats 2000000 in
set_option maxRecDepth 4000 in
theorem c_Model_kinds {l : Launch} {D : va_G} {G : Nat → Nat} {z N : Nat} (hN : 92 ≤ N) {a0 : ud_St}   {Qf : Int32 → ud_St → Prop} (hw : w_Model_kinds a0  Qf) : ud_M l D G z N yX12_kinds cX12_kinds 3 (some Jvm.ClassFile.FieldType.int) 3 [.ref (z + 71)] a0 (po_i Qf) := by
  unfold w_Model_kinds at hw
  refine ud_M_of hN (by decide) (Nat.le_of_ble_eq_true rfl) ?_
  intro p e s m args below meth c C
  have C : ud_C D G z N p s m args meth c cX12_kinds 3 RX12 (some Jvm.ClassFile.FieldType.int) := C
  show ud_X D G z N p l e (ud_rm 3 0 0) s m args below meth c 3 0 0 (ud_Q D G z N (po_i Qf) below args s) a0 0 [(0, .ref (z + 71))] []
  refine ux_aload_n C 0 rfl rfl dX12_kinds_0 ?_
  refine ux_iconst C (v := 0) (by decide) dX12_kinds_1 ?_
  refine pf_12_77 C dX12_kinds_2 ?_
  refine ux_aload_n C 0 rfl rfl dX12_kinds_5 ?_
  refine cs_12_299 C  (c_Model_isTable hN  hw) (by decide) (by decide) (Nat.le_of_ble_eq_true rfl) dX12_kinds_6 (po_ip.k fun r_1 hw => ?_)
  refine ux_if_ne C (tgt := 15) (by decide) dX12_kinds_9 (fun hc_13 => ?_) (fun hc_13 => ?_)
  · replace hw := hw.2 hc_13
    refine ux_iconst C (v := 0) (by decide) dX12_kinds_15 ?_
    refine ux_istore_n C rfl (by decide) rfl dX12_kinds_16 ?_
    refine ux_iconst C (v := 0) (by decide) dX12_kinds_17 ?_
    refine ux_istore_n C rfl (by decide) rfl dX12_kinds_18 ?_
    refine ux_pick [2, 1, 0] rfl ?_
    refine LW3.elim (P := fun (x1_5 : Int32) (x2_6 : Int32) (a_7 : ud_St) => ud_X D G z N p l e (ud_rm 3 0 0) s m args below meth c 3 0 0 (ud_Q D G z N (po_i Qf) below args s) a_7 19 [(0, .ref (z + 71)), (1, .int x1_5), (2, .int x2_6)] []) hw ?_
    intro x1_5 x2_6 a_7 K_3 hw ih_4
    refine ux_iload_n C 2 rfl rfl dX12_kinds_19 ?_
    refine ux_aload_n C 0 rfl rfl dX12_kinds_20 ?_
    refine gf_12_34 C dX12_kinds_21 ?_
    refine ux_iconst C (v := 2) (by decide) dX12_kinds_24 ?_
    obtain ⟨hi_12, hw⟩ := hw
    refine ux_iald C (uc_78 C.2.2.2.2.2) hi_12 dX12_kinds_25 ?_
    refine ux_icmp_ge C (tgt := 52) (by decide) dX12_kinds_26 (fun hc_11 => ?_) (fun hc_11 => ?_)
    · replace hw := hw.1 hc_11
      refine ux_iload_n C 1 rfl rfl dX12_kinds_52 ?_
      exact ux_iret C ⟨_, rfl, hw⟩ dX12_kinds_53
    · replace hw := hw.2 hc_11
      refine ux_iload_n C 1 rfl rfl dX12_kinds_29 ?_
      refine ux_aload_n C 0 rfl rfl dX12_kinds_30 ?_
      refine ux_iload_n C 2 rfl rfl dX12_kinds_31 ?_
      refine cs_12_268 C  (c_Model_up hN  hw) (by decide) (by decide) (Nat.le_of_ble_eq_true rfl) dX12_kinds_32 (po_i.k fun r_8 a_9 hw => ?_)
      refine ux_iload_n C 2 rfl rfl dX12_kinds_35 ?_
      refine ux_icmp_ne C (tgt := 43) (by decide) dX12_kinds_36 (fun hc_10 => ?_) (fun hc_10 => ?_)
      · replace hw := hw.2 hc_10
        refine ux_iconst C (v := 0) (by decide) dX12_kinds_43 ?_
        refine ux_iadd C dX12_kinds_44 ?_
        refine ux_istore_n C rfl (by decide) rfl dX12_kinds_45 ?_
        refine ux_iinc C 2 rfl rfl (by decide) rfl dX12_kinds_46 ?_
        refine ux_goto C (tgt := 19) (by decide) dX12_kinds_49 ?_
        exact ux_pick [2, 1, 0] rfl (ih_4 _ _ _ hw)
      · replace hw := hw.1 hc_10
        refine ux_iconst C (v := 1) (by decide) dX12_kinds_39 ?_
        refine ux_goto C (tgt := 44) (by decide) dX12_kinds_40 ?_
        refine ux_iadd C dX12_kinds_44 ?_
        refine ux_istore_n C rfl (by decide) rfl dX12_kinds_45 ?_
        refine ux_iinc C 2 rfl rfl (by decide) rfl dX12_kinds_46 ?_
        refine ux_goto C (tgt := 19) (by decide) dX12_kinds_49 ?_
        exact ux_pick [2, 1, 0] rfl (ih_4 _ _ _ hw)
  · replace hw := hw.1 hc_13
    refine ux_bipush C (v := -2) (by decide) dX12_kinds_12 ?_
    exact ux_iret C ⟨_, rfl, hw⟩ dX12_kinds_14
set_option maxHeartbeats 2000000 in
set_option maxRecDepth 4000 in
theorem c_Model_kind {l : Launch} {D : va_G} {G : Nat → Nat} {z N : Nat} (hN : 92 ≤ N) {a0 : ud_St} {x1 : Int32} {x2 : Int32}  {Qf : Int32 → ud_St → Prop} (hw : w_Model_kind a0 x1 x2 Qf) : ud_M l D G z N yX12_kind cX12_kind 6 (some Jvm.ClassFile.FieldType.int) 3 [.ref (z + 71), .int x1, .int x2] a0 (po_i Qf) := by
  unfold w_Model_kind at hw
  refine ud_M_of hN (by decide) (Nat.le_of_ble_eq_true rfl) ?_
  intro p e s m args below meth c C
  have C : ud_C D G z N p s m args meth c cX12_kind 6 RX12 (some Jvm.ClassFile.FieldType.int) := C
  show ud_X D G z N p l e (ud_rm 3 0 0) s m args below meth c 6 0 0 (ud_Q D G z N (po_i Qf) below args s) a0 0 [(0, .ref (z + 71)), (1, .int x1), (2, .int x2)] []
  refine ux_aload_n C 0 rfl rfl dX12_kind_0 ?_
  refine ux_iconst C (v := 0) (by decide) dX12_kind_1 ?_
  refine pf_12_77 C dX12_kind_2 ?_
  refine ux_aload_n C 0 rfl rfl dX12_kind_5 ?_
  refine ux_iload_n C 1 rfl rfl dX12_kind_6 ?_
  refine ux_i2l C dX12_kind_7 ?_
  refine cs_12_302 C  (c_Model_isNumber hN  hw) (by decide) (by decide) (Nat.le_of_ble_eq_true rfl) dX12_kind_8 (po_ip.k fun r_1 hw => ?_)
  refine ux_if_eq C (tgt := 24) (by decide) dX12_kind_11 (fun hc_19 => ?_) (fun hc_19 => ?_)
  · replace hw := hw.1 hc_19
    refine ux_bipush C (v := -2) (by decide) dX12_kind_24 ?_
    exact ux_iret C ⟨_, rfl, hw⟩ dX12_kind_26
  · replace hw := hw.2 hc_19
    refine ux_iload_n C 2 rfl rfl dX12_kind_14 ?_
    refine ux_i2l C dX12_kind_15 ?_
    refine ux_lconst C (v := 0) (by decide) dX12_kind_16 ?_
    refine ux_lconst C (v := 1) (by decide) dX12_kind_17 ?_
    refine cs_12_82 C  (c_Model_in hN  hw) (by decide) (by decide) (Nat.le_of_ble_eq_true rfl) dX12_kind_18 (po_ip.k fun r_3 hw => ?_)
    refine ux_if_ne C (tgt := 27) (by decide) dX12_kind_21 (fun hc_18 => ?_) (fun hc_18 => ?_)
    · replace hw := hw.2 hc_18
      refine ux_aload_n C 0 rfl rfl dX12_kind_27 ?_
      refine ux_iload_n C 1 rfl rfl dX12_kind_28 ?_
      refine cs_12_268 C  (c_Model_up hN  hw) (by decide) (by decide) (Nat.le_of_ble_eq_true rfl) dX12_kind_29 (po_i.k fun r_5 a_6 hw => ?_)
      refine ux_istore_n C rfl (by decide) rfl dX12_kind_32 ?_
      refine ux_iload_n C 3 rfl rfl dX12_kind_33 ?_
      refine ux_if_ne C (tgt := 39) (by decide) dX12_kind_34 (fun hc_17 => ?_) (fun hc_17 => ?_)
      · replace hw := hw.2 hc_17
        refine ux_iconst C (v := 0) (by decide) dX12_kind_39 ?_
        refine ux_istore C (by decide) rfl dX12_kind_40 ?_
        refine ux_iconst C (v := 0) (by decide) dX12_kind_42 ?_
        refine ux_istore C (by decide) rfl dX12_kind_43 ?_
        refine ux_pick [3, 2, 1, 0] rfl ?_
        refine LW3.elim (P := fun (x4_9 : Int32) (x5_10 : Int32) (a_11 : ud_St) => ud_X D G z N p l e (ud_rm 3 0 0) s m args below meth c 6 0 0 (ud_Q D G z N (po_i Qf) below args s) a_11 45 [(0, .ref (z + 71)), (3, .int r_5), (4, .int x4_9), (5, .int x5_10)] []) hw ?_
        intro x4_9 x5_10 a_11 K_7 hw ih_8
        refine ux_iload C 3 rfl dX12_kind_45 ?_
        refine ux_aload_n C 0 rfl rfl dX12_kind_47 ?_
        refine gf_12_34 C dX12_kind_48 ?_
        refine ux_iconst C (v := 2) (by decide) dX12_kind_51 ?_
        obtain ⟨hi_16, hw⟩ := hw
        refine ux_iald C (uc_78 C.2.2.2.2.2) hi_16 dX12_kind_52 ?_
        refine ux_icmp_ge C (tgt := 82) (by decide) dX12_kind_53 (fun hc_15 => ?_) (fun hc_15 => ?_)
        · replace hw := hw.1 hc_15
          refine ux_iload C 2 rfl dX12_kind_82 ?_
          exact ux_iret C ⟨_, rfl, hw⟩ dX12_kind_84
        · replace hw := hw.2 hc_15
          refine ux_iload C 2 rfl dX12_kind_56 ?_
          refine ux_aload_n C 0 rfl rfl dX12_kind_58 ?_
          refine ux_iload C 3 rfl dX12_kind_59 ?_
          refine cs_12_268 C  (c_Model_up hN  hw) (by decide) (by decide) (Nat.le_of_ble_eq_true rfl) dX12_kind_61 (po_i.k fun r_12 a_13 hw => ?_)
          refine ux_iload_n C 1 rfl rfl dX12_kind_64 ?_
          refine ux_icmp_ne C (tgt := 72) (by decide) dX12_kind_65 (fun hc_14 => ?_) (fun hc_14 => ?_)
          · replace hw := hw.2 hc_14
            refine ux_iconst C (v := 0) (by decide) dX12_kind_72 ?_
            refine ux_iadd C dX12_kind_73 ?_
            refine ux_istore C (by decide) rfl dX12_kind_74 ?_
            refine ux_iinc C 3 rfl rfl (by decide) rfl dX12_kind_76 ?_
            refine ux_goto C (tgt := 45) (by decide) dX12_kind_79 ?_
            exact ux_pick [2, 3, 1, 0] rfl (ih_8 _ _ _ hw)
          · replace hw := hw.1 hc_14
            refine ux_iconst C (v := 1) (by decide) dX12_kind_68 ?_
            refine ux_goto C (tgt := 73) (by decide) dX12_kind_69 ?_
            refine ux_iadd C dX12_kind_73 ?_
            refine ux_istore C (by decide) rfl dX12_kind_74 ?_
            refine ux_iinc C 3 rfl rfl (by decide) rfl dX12_kind_76 ?_
            refine ux_goto C (tgt := 45) (by decide) dX12_kind_79 ?_
            exact ux_pick [2, 3, 1, 0] rfl (ih_8 _ _ _ hw)
      · replace hw := hw.1 hc_17
        refine ux_iload_n C 0 rfl rfl dX12_kind_37 ?_
        exact ux_iret C ⟨_, rfl, hw⟩ dX12_kind_38
    · replace hw := hw.1 hc_18
      refine ux_bipush C (v := -2) (by decide) dX12_kind_24 ?_
      exact ux_iret C ⟨_, rfl, hw⟩ dX12_kind_26
set_option maxHeartbeats 2000000 in
set_option maxRecDepth 4000 in
theorem c_Model_crowds {l : Launch} {D : va_G} {G : Nat → Nat} {z N : Nat} (hN : 92 ≤ N) {a0 : ud_St} {x1 : Int32}  {Qf : ud_St → Prop} (hw : w_Model_crowds a0 x1 Qf) : ud_M l D G z N yX12_crowds cX12_crowds 3 (none : Option Jvm.ClassFile.FieldType) 3 [.ref (z + 71), .int x1] a0 (po_v Qf) := by
  unfold w_Model_crowds at hw
  refine ud_M_of hN (by decide) (Nat.le_of_ble_eq_true rfl) ?_
  intro p e s m args below meth c C
  have C : ud_C D G z N p s m args meth c cX12_crowds 3 RX12 (none : Option Jvm.ClassFile.FieldType) := C
  show ud_X D G z N p l e (ud_rm 3 0 0) s m args below meth c 3 0 0 (ud_Q D G z N (po_v Qf) below args s) a0 0 [(0, .ref (z + 71)), (1, .int x1)] []
  refine ux_iconst C (v := 0) (by decide) dX12_crowds_0 ?_
  refine ux_istore_n C rfl (by decide) rfl dX12_crowds_1 ?_
  refine ux_pick [1, 2, 0] rfl ?_
  refine LW2.elim (P := fun (x2_3 : Int32) (a_4 : ud_St) => ud_X D G z N p l e (ud_rm 3 0 0) s m args below meth c 3 0 0 (ud_Q D G z N (po_v Qf) below args s) a_4 2 [(0, .ref (z + 71)), (1, .int x1), (2, .int x2_3)] []) hw ?_
  intro x2_3 a_4 K_1 hw ih_2
  refine ux_iload_n C 2 rfl rfl dX12_crowds_2 ?_
  refine ux_aload_n C 0 rfl rfl dX12_crowds_3 ?_
  refine gf_12_34 C dX12_crowds_4 ?_
  refine ux_iconst C (v := 2) (by decide) dX12_crowds_7 ?_
  obtain ⟨hi_9, hw⟩ := hw
  refine ux_iald C (uc_78 C.2.2.2.2.2) hi_9 dX12_crowds_8 ?_
  refine ux_icmp_ge C (tgt := 30) (by decide) dX12_crowds_9 (fun hc_8 => ?_) (fun hc_8 => ?_)
  · replace hw := hw.1 hc_8
    exact ux_vret C ⟨rfl, hw⟩ dX12_crowds_30
  · replace hw := hw.2 hc_8
    refine ux_aload_n C 0 rfl rfl dX12_crowds_12 ?_
    refine gf_12_71 C dX12_crowds_13 ?_
    refine ux_iload_n C 2 rfl rfl dX12_crowds_16 ?_
    refine ux_aload_n C 0 rfl rfl dX12_crowds_17 ?_
    refine ux_iload_n C 1 rfl rfl dX12_crowds_18 ?_
    refine ux_iload_n C 2 rfl rfl dX12_crowds_19 ?_
    refine cs_12_356 C  (c_Model_isOf hN  hw) (by decide) (by decide) (Nat.le_of_ble_eq_true rfl) dX12_crowds_20 (po_i.k fun r_5 a_6 hw => ?_)
    obtain ⟨hi_7, hw⟩ := hw
    refine ux_zast C (uc_90 C.2.2.2.2.2) hi_7 dX12_crowds_23 ?_
    refine ux_iinc C 2 rfl rfl (by decide) rfl dX12_crowds_24 ?_
    refine ux_goto C (tgt := 2) (by decide) dX12_crowds_27 ?_
    exact ux_pick [1, 2, 0] rfl (ih_2 _ _ hw)
set_option maxHeartbeats 2000000 in
set_option maxRecDepth 4000 in
theorem c_Crowd_isOf {l : Launch} {D : va_G} {G : Nat → Nat} {z N : Nat} (hN : 92 ≤ N) {a0 : ud_St} {x2 : Int32}  {Qf : Int32 → Prop} (hw : w_Crowd_isOf a0 x2 Qf) : ud_M l D G z N yX2_isOf cX2_isOf 3 (some Jvm.ClassFile.FieldType.boolean) 4 [.ref (z + 45), .ref (z + 26), .int x2] a0 (po_ip a0 Qf) := by
  unfold w_Crowd_isOf at hw
  refine ud_M_of hN (by decide) (Nat.le_of_ble_eq_true rfl) ?_
  intro p e s m args below meth c C
  have C : ud_C D G z N p s m args meth c cX2_isOf 3 RX2 (some Jvm.ClassFile.FieldType.boolean) := C
  show ud_X D G z N p l e (ud_rm 4 0 0) s m args below meth c 3 0 0 (ud_Q D G z N (po_ip a0 Qf) below args s) a0 0 [(0, .ref (z + 45)), (1, .ref (z + 26)), (2, .int x2)] []
  refine ux_aload_n C 0 rfl rfl dX2_isOf_0 ?_
  refine gf_2_18 C dX2_isOf_1 ?_
  refine ux_iconst C (v := 1) (by decide) dX2_isOf_4 ?_
  refine ux_icmp_ne C (tgt := 22) (by decide) dX2_isOf_5 (fun hc_8 => ?_) (fun hc_8 => ?_)
  · replace hw := hw.2 hc_8
    refine ux_aload_n C 0 rfl rfl dX2_isOf_22 ?_
    refine gf_2_18 C dX2_isOf_23 ?_
    refine ux_iconst C (v := 2) (by decide) dX2_isOf_26 ?_
    refine ux_icmp_ne C (tgt := 38) (by decide) dX2_isOf_27 (fun hc_4 => ?_) (fun hc_4 => ?_)
    · replace hw := hw.2 hc_4
      refine ux_iconst C (v := 1) (by decide) dX2_isOf_38 ?_
      refine ux_goto C (tgt := 43) (by decide) dX2_isOf_39 ?_
      exact ux_zret C rfl ⟨_, rfl, rfl, hw⟩ dX2_isOf_43
    · replace hw := hw.1 hc_4
      refine ux_aload_n C 1 rfl rfl dX2_isOf_30 ?_
      refine ux_iload_n C 2 rfl rfl dX2_isOf_31 ?_
      refine cs_2_66 C  (c_Figures_allUnlike hN  hw) (by decide) (by decide) (Nat.le_of_ble_eq_true rfl) dX2_isOf_32 (po_ip.k fun r_1 hw => ?_)
      refine ux_if_eq C (tgt := 42) (by decide) dX2_isOf_35 (fun hc_3 => ?_) (fun hc_3 => ?_)
      · replace hw := hw.1 hc_3
        refine ux_iconst C (v := 0) (by decide) dX2_isOf_42 ?_
        exact ux_zret C rfl ⟨_, rfl, rfl, hw⟩ dX2_isOf_43
      · replace hw := hw.2 hc_3
        refine ux_iconst C (v := 1) (by decide) dX2_isOf_38 ?_
        refine ux_goto C (tgt := 43) (by decide) dX2_isOf_39 ?_
        exact ux_zret C rfl ⟨_, rfl, rfl, hw⟩ dX2_isOf_43
  · replace hw := hw.1 hc_8
    refine ux_aload_n C 1 rfl rfl dX2_isOf_8 ?_
    refine ux_iload_n C 2 rfl rfl dX2_isOf_9 ?_
    refine cs_2_62 C  (c_Figures_allAlike hN  hw) (by decide) (by decide) (Nat.le_of_ble_eq_true rfl) dX2_isOf_10 (po_ip.k fun r_5 hw => ?_)
    refine ux_if_ne C (tgt := 20) (by decide) dX2_isOf_13 (fun hc_7 => ?_) (fun hc_7 => ?_)
    · replace hw := hw.2 hc_7
      refine ux_iconst C (v := 0) (by decide) dX2_isOf_20 ?_
      exact ux_zret C rfl ⟨_, rfl, rfl, hw⟩ dX2_isOf_21
    · replace hw := hw.1 hc_7
      refine ux_iconst C (v := 1) (by decide) dX2_isOf_16 ?_
      refine ux_goto C (tgt := 21) (by decide) dX2_isOf_17 ?_
      exact ux_zret C rfl ⟨_, rfl, rfl, hw⟩ dX2_isOf_21
set_option maxHeartbeats 2000000 in
set_option maxRecDepth 4000 in
theorem c_Evening_unlikeRounds {l : Launch} {D : va_G} {G : Nat → Nat} {z N : Nat} (hN : 92 ≤ N) {a0 : ud_St}   {Qf : Int32 → Prop} (hw : w_Evening_unlikeRounds a0  Qf) : ud_M l D G z N yX3_unlikeRounds cX3_unlikeRounds 4 (some Jvm.ClassFile.FieldType.int) 4 [.ref (z + 59), .ref (z + 36)] a0 (po_ip a0 Qf) := by
  unfold w_Evening_unlikeRounds at hw
  refine ud_M_of hN (by decide) (Nat.le_of_ble_eq_true rfl) ?_
  intro p e s m args below meth c C
  have C : ud_C D G z N p s m args meth c cX3_unlikeRounds 4 RX3 (some Jvm.ClassFile.FieldType.int) := C
  show ud_X D G z N p l e (ud_rm 4 0 0) s m args below meth c 4 0 0 (ud_Q D G z N (po_ip a0 Qf) below args s) a0 0 [(0, .ref (z + 59)), (1, .ref (z + 36))] []
  refine ux_iconst C (v := 0) (by decide) dX3_unlikeRounds_0 ?_
  refine ux_istore_n C rfl (by decide) rfl dX3_unlikeRounds_1 ?_
  refine ux_iconst C (v := 0) (by decide) dX3_unlikeRounds_2 ?_
  refine ux_istore_n C rfl (by decide) rfl dX3_unlikeRounds_3 ?_
  refine ux_pick [2, 3, 1, 0] rfl ?_
  refine LW2.elim (P := fun (x2_3 : Int32) (x3_4 : Int32) => ud_X D G z N p l e (ud_rm 4 0 0) s m args below meth c 4 0 0 (ud_Q D G z N (po_ip a0 Qf) below args s) a0 4 [(0, .ref (z + 59)), (1, .ref (z + 36)), (2, .int x2_3), (3, .int x3_4)] []) hw ?_
  intro x2_3 x3_4 K_1 hw ih_2
  refine ux_iload_n C 3 rfl rfl dX3_unlikeRounds_4 ?_
  refine ux_aload_n C 0 rfl rfl dX3_unlikeRounds_5 ?_
  refine gf_3_15 C dX3_unlikeRounds_6 ?_
  refine ux_icmp_ge C (tgt := 35) (by decide) dX3_unlikeRounds_9 (fun hc_8 => ?_) (fun hc_8 => ?_)
  · replace hw := hw.1 hc_8
    refine ux_iload_n C 2 rfl rfl dX3_unlikeRounds_35 ?_
    exact ux_iret C ⟨_, rfl, rfl, hw⟩ dX3_unlikeRounds_36
  · replace hw := hw.2 hc_8
    refine ux_iload_n C 2 rfl rfl dX3_unlikeRounds_12 ?_
    refine ux_aload_n C 0 rfl rfl dX3_unlikeRounds_13 ?_
    refine ux_aload_n C 1 rfl rfl dX3_unlikeRounds_14 ?_
    refine ux_iload_n C 3 rfl rfl dX3_unlikeRounds_15 ?_
    refine cs_3_47 C  (c_Evening_isFirstHome hN  hw) (by decide) (by decide) (Nat.le_of_ble_eq_true rfl) dX3_unlikeRounds_16 (po_ip.k fun r_5 hw => ?_)
    refine ux_if_eq C (tgt := 26) (by decide) dX3_unlikeRounds_19 (fun hc_7 => ?_) (fun hc_7 => ?_)
    · replace hw := hw.1 hc_7
      refine ux_iconst C (v := 0) (by decide) dX3_unlikeRounds_26 ?_
      refine ux_iadd C dX3_unlikeRounds_27 ?_
      refine ux_istore_n C rfl (by decide) rfl dX3_unlikeRounds_28 ?_
      refine ux_iinc C 3 rfl rfl (by decide) rfl dX3_unlikeRounds_29 ?_
      refine ux_goto C (tgt := 4) (by decide) dX3_unlikeRounds_32 ?_
      exact ux_pick [2, 3, 1, 0] rfl (ih_2 _ _ hw)
    · replace hw := hw.2 hc_7
      refine ux_iconst C (v := 1) (by decide) dX3_unlikeRounds_22 ?_
      refine ux_goto C (tgt := 27) (by decide) dX3_unlikeRounds_23 ?_
      refine ux_iadd C dX3_unlikeRounds_27 ?_
      refine ux_istore_n C rfl (by decide) rfl dX3_unlikeRounds_28 ?_
      refine ux_iinc C 3 rfl rfl (by decide) rfl dX3_unlikeRounds_29 ?_
      refine ux_goto C (tgt := 4) (by decide) dX3_unlikeRounds_32 ?_
      exact ux_pick [2, 3, 1, 0] rfl (ih_2 _ _ hw)
set_option maxHeartbeats 2000000 in
set_option maxRecDepth 4000 in
theorem c_Figures_prepare_j76 {D : va_G} {G : Nat → Nat} {z N : Nat} {p : Program} {l : Launch} {e : Env} {s : State} {m : MethodId} {args : Array Value} {below : List Frame} {meth : Method} {c : Code} (hN : 92 ≤ N) {a0 : ud_St} {x1 : Int32} {x2 : Int32} {x3 : Int32} {b_76 : ud_St} {y5_76 : Int32}  {Qf : ud_St → Prop} (C : ud_C D G z N p s m args meth c cX4_prepare 6 RX4 (none : Option Jvm.ClassFile.FieldType))  (hw : w_Figures_prepare_j76 a0 x1 x2 x3 b_76 y5_76 Qf) : ud_X D G z N p l e (ud_rm 4 0 0) s m args below meth c 6 0 0 (ud_Q D G z N (po_v Qf) below args s) b_76 76 [(0, .ref (z + 26)), (5, .int y5_76)] [] := by
  unfold w_Figures_prepare_j76 at hw
  refine ux_pick [0, 1] rfl ?_
  refine LW2.elim (P := fun (x5_8 : Int32) (a_9 : ud_St) => ud_X D G z N p l e (ud_rm 4 0 0) s m args below meth c 6 0 0 (ud_Q D G z N (po_v Qf) below args s) a_9 76 [(0, .ref (z + 26)), (5, .int x5_8)] []) hw ?_
  intro x5_8 a_9 K_6 hw ih_7
  refine ux_iload C 1 rfl dX4_prepare_76 ?_
  refine ux_aload_n C 0 rfl rfl dX4_prepare_78 ?_
  refine gf_4_46 C dX4_prepare_79 ?_
  refine ux_icmp_ge C (tgt := 97) (by decide) dX4_prepare_82 (fun hc_12 => ?_) (fun hc_12 => ?_)
  · replace hw := hw.1 hc_12
    exact ux_vret C ⟨rfl, hw⟩ dX4_prepare_97
  · replace hw := hw.2 hc_12
    refine ux_aload_n C 0 rfl rfl dX4_prepare_85 ?_
    refine ux_iload C 1 rfl dX4_prepare_86 ?_
    refine cs_4_55 C  (c_Figures_prepareOne hN  hw) (by decide) (by decide) (Nat.le_of_ble_eq_true rfl) dX4_prepare_88 (po_v.k fun a_11 hw => ?_)
    refine ux_iinc C 1 rfl rfl (by decide) rfl dX4_prepare_91 ?_
    refine ux_goto C (tgt := 76) (by decide) dX4_prepare_94 ?_
    exact ux_pick [1, 0] rfl (ih_7 _ _ hw)
set_option maxHeartbeats 2000000 in
set_option maxRecDepth 4000 in
theorem c_Figures_prepare_j38 {D : va_G} {G : Nat → Nat} {z N : Nat} {p : Program} {l : Launch} {e : Env} {s : State} {m : MethodId} {args : Array Value} {below : List Frame} {meth : Method} {c : Code} (hN : 92 ≤ N) {a0 : ud_St} {x1 : Int32} {x2 : Int32} {x3 : Int32} {b_38 : ud_St} {y4_38 : Int32} {y5_38 : Int32}  {Qf : ud_St → Prop} (C : ud_C D G z N p s m args meth c cX4_prepare 6 RX4 (none : Option Jvm.ClassFile.FieldType))  (hw : w_Figures_prepare_j38 a0 x1 x2 x3 b_38 y4_38 y5_38 Qf) : ud_X D G z N p l e (ud_rm 4 0 0) s m args below meth c 6 0 0 (ud_Q D G z N (po_v Qf) below args s) b_38 38 [(0, .ref (z + 26)), (4, .int y4_38), (5, .int y5_38)] [] := by
  unfold w_Figures_prepare_j38 at hw
  refine ux_pick [0, 1, 2] rfl ?_
  refine LW3.elim (P := fun (x4_3 : Int32) (x5_4 : Int32) (a_5 : ud_St) => ud_X D G z N p l e (ud_rm 4 0 0) s m args below meth c 6 0 0 (ud_Q D G z N (po_v Qf) below args s) a_5 38 [(0, .ref (z + 26)), (4, .int x4_3), (5, .int x5_4)] []) hw ?_
  intro x4_3 x5_4 a_5 K_1 hw ih_2
  refine ux_iload C 2 rfl dX4_prepare_38 ?_
  refine ux_aload_n C 0 rfl rfl dX4_prepare_40 ?_
  refine gf_4_43 C dX4_prepare_41 ?_
  refine ux_icmp_gt C (tgt := 73) (by decide) dX4_prepare_44 (fun hc_15 => ?_) (fun hc_15 => ?_)
  · replace hw := hw.1 hc_15
    refine ux_iconst C (v := 0) (by decide) dX4_prepare_73 ?_
    refine ux_istore C (by decide) rfl dX4_prepare_74 ?_
    exact ux_pick [1, 0] rfl (c_Figures_prepare_j76 hN  C  hw)
  · replace hw := hw.2 hc_15
    refine ux_aload_n C 0 rfl rfl dX4_prepare_47 ?_
    refine gf_4_9 C dX4_prepare_48 ?_
    refine ux_iload C 2 rfl dX4_prepare_51 ?_
    refine ux_iload C 1 rfl dX4_prepare_53 ?_
    refine cs_4_49 C  (c_Cells_put hN (uc_27 C.2.2.2.2.2) hw) (by decide) (by decide) (Nat.le_of_ble_eq_true rfl) dX4_prepare_55 (po_v.k fun a_14 hw => ?_)
    refine ux_iload C 1 rfl dX4_prepare_58 ?_
    refine ux_aload_n C 0 rfl rfl dX4_prepare_60 ?_
    refine gf_4_39 C dX4_prepare_61 ?_
    refine ux_imul C dX4_prepare_64 ?_
    refine ux_istore C (by decide) rfl dX4_prepare_65 ?_
    refine ux_iinc C 2 rfl rfl (by decide) rfl dX4_prepare_67 ?_
    refine ux_goto C (tgt := 38) (by decide) dX4_prepare_70 ?_
    exact ux_pick [2, 1, 0] rfl (ih_2 _ _ _ hw)
set_option maxHeartbeats 2000000 in
set_option maxRecDepth 4000 in
theorem c_Figures_prepare {l : Launch} {D : va_G} {G : Nat → Nat} {z N : Nat} (hN : 92 ≤ N) {a0 : ud_St} {x1 : Int32} {x2 : Int32} {x3 : Int32}  {Qf : ud_St → Prop} (hw : w_Figures_prepare a0 x1 x2 x3 Qf) : ud_M l D G z N yX4_prepare cX4_prepare 6 (none : Option Jvm.ClassFile.FieldType) 4 [.ref (z + 26), .int x1, .int x2, .int x3] a0 (po_v Qf) := by
  unfold w_Figures_prepare at hw
  refine ud_M_of hN (by decide) (Nat.le_of_ble_eq_true rfl) ?_
  intro p e s m args below meth c C
  have C : ud_C D G z N p s m args meth c cX4_prepare 6 RX4 (none : Option Jvm.ClassFile.FieldType) := C
  show ud_X D G z N p l e (ud_rm 4 0 0) s m args below meth c 6 0 0 (ud_Q D G z N (po_v Qf) below args s) a0 0 [(0, .ref (z + 26)), (1, .int x1), (2, .int x2), (3, .int x3)] []
  refine ux_aload_n C 0 rfl rfl dX4_prepare_0 ?_
  refine gf_4_39 C dX4_prepare_1 ?_
  refine ux_iload_n C 1 rfl rfl dX4_prepare_4 ?_
  refine ux_icmp_ne C (tgt := 17) (by decide) dX4_prepare_5 (fun hc_17 => ?_) (fun hc_17 => ?_)
  · replace hw := hw.2 hc_17
    refine ux_aload_n C 0 rfl rfl dX4_prepare_17 ?_
    refine ux_iload_n C 1 rfl rfl dX4_prepare_18 ?_
    refine pf_4_39 C dX4_prepare_19 ?_
    refine ux_aload_n C 0 rfl rfl dX4_prepare_22 ?_
    refine ux_iload_n C 2 rfl rfl dX4_prepare_23 ?_
    refine pf_4_43 C dX4_prepare_24 ?_
    refine ux_aload_n C 0 rfl rfl dX4_prepare_27 ?_
    refine ux_iload_n C 3 rfl rfl dX4_prepare_28 ?_
    refine pf_4_46 C dX4_prepare_29 ?_
    refine ux_iconst C (v := 1) (by decide) dX4_prepare_32 ?_
    refine ux_istore C (by decide) rfl dX4_prepare_33 ?_
    refine ux_iconst C (v := 0) (by decide) dX4_prepare_35 ?_
    refine ux_istore C (by decide) rfl dX4_prepare_36 ?_
    exact ux_pick [2, 1, 0] rfl (c_Figures_prepare_j38 hN  C  hw)
  · replace hw := hw.1 hc_17
    refine ux_aload_n C 0 rfl rfl dX4_prepare_8 ?_
    refine gf_4_43 C dX4_prepare_9 ?_
    refine ux_iload_n C 2 rfl rfl dX4_prepare_12 ?_
    refine ux_icmp_ne C (tgt := 17) (by decide) dX4_prepare_13 (fun hc_16 => ?_) (fun hc_16 => ?_)
    · replace hw := hw.2 hc_16
      refine ux_aload_n C 0 rfl rfl dX4_prepare_17 ?_
      refine ux_iload_n C 1 rfl rfl dX4_prepare_18 ?_
      refine pf_4_39 C dX4_prepare_19 ?_
      refine ux_aload_n C 0 rfl rfl dX4_prepare_22 ?_
      refine ux_iload_n C 2 rfl rfl dX4_prepare_23 ?_
      refine pf_4_43 C dX4_prepare_24 ?_
      refine ux_aload_n C 0 rfl rfl dX4_prepare_27 ?_
      refine ux_iload_n C 3 rfl rfl dX4_prepare_28 ?_
      refine pf_4_46 C dX4_prepare_29 ?_
      refine ux_iconst C (v := 1) (by decide) dX4_prepare_32 ?_
      refine ux_istore C (by decide) rfl dX4_prepare_33 ?_
      refine ux_iconst C (v := 0) (by decide) dX4_prepare_35 ?_
      refine ux_istore C (by decide) rfl dX4_prepare_36 ?_
      exact ux_pick [2, 1, 0] rfl (c_Figures_prepare_j38 hN  C  hw)
    · replace hw := hw.1 hc_16
      exact ux_vret C ⟨rfl, hw⟩ dX4_prepare_16
set_option maxHeartbeats 2000000 in
set_option maxRecDepth 4000 in
theorem c_Paths_lay {l : Launch} {D : va_G} {G : Nat → Nat} {z N : Nat} (hN : 92 ≤ N) {a0 : ud_St} {k2 : Nat} (hk2 : ud_isW N k2) {Qf : ud_St → Prop} (hw : w_Paths_lay a0 k2 Qf) : ud_M l D G z N yX5_lay cX5_lay 4 (none : Option Jvm.ClassFile.FieldType) 4 [.ref (z + 36), .ref (z + 26), .ref (z + k2)] a0 (po_v Qf) := by
  unfold w_Paths_lay at hw
  refine ud_M_of hN (by decide) (Nat.le_of_ble_eq_true rfl) ?_
  intro p e s m args below meth c C
  have C : ud_C D G z N p s m args meth c cX5_lay 4 RX5 (none : Option Jvm.ClassFile.FieldType) := C
  show ud_X D G z N p l e (ud_rm 4 0 0) s m args below meth c 4 0 0 (ud_Q D G z N (po_v Qf) below args s) a0 0 [(0, .ref (z + 36)), (1, .ref (z + 26)), (2, .ref (z + k2))] []
  refine ux_aload_n C 0 rfl rfl dX5_lay_0 ?_
  refine ux_iconst C (v := 0) (by decide) dX5_lay_1 ?_
  refine pf_5_36 C (Or.inl rfl) dX5_lay_2 ?_
  refine ux_aload_n C 0 rfl rfl dX5_lay_5 ?_
  refine ux_aload_n C 1 rfl rfl dX5_lay_6 ?_
  refine gf_5_47 C dX5_lay_7 ?_
  refine pf_5_53 C dX5_lay_10 ?_
  refine ux_iconst C (v := 0) (by decide) dX5_lay_13 ?_
  refine ux_istore_n C rfl (by decide) rfl dX5_lay_14 ?_
  refine ux_pick [1, 2, 3, 0] rfl ?_
  refine LW2.elim (P := fun (x3_3 : Int32) (a_4 : ud_St) => ud_X D G z N p l e (ud_rm 4 0 0) s m args below meth c 4 0 0 (ud_Q D G z N (po_v Qf) below args s) a_4 15 [(0, .ref (z + 36)), (1, .ref (z + 26)), (2, .ref (z + k2)), (3, .int x3_3)] []) hw ?_
  intro x3_3 a_4 K_1 hw ih_2
  refine ux_iload_n C 3 rfl rfl dX5_lay_15 ?_
  refine ux_aload_n C 0 rfl rfl dX5_lay_16 ?_
  refine gf_5_53 C dX5_lay_17 ?_
  refine ux_icmp_ge C (tgt := 47) (by decide) dX5_lay_20 (fun hc_15 => ?_) (fun hc_15 => ?_)
  · replace hw := hw.1 hc_15
    refine ux_aload_n C 0 rfl rfl dX5_lay_47 ?_
    refine cs_5_69 C  (c_Paths_peel hN  hw) (by decide) (by decide) (Nat.le_of_ble_eq_true rfl) dX5_lay_48 (po_i.k fun r_5 a_6 hw => ?_)
    refine ux_istore_n C rfl (by decide) rfl dX5_lay_51 ?_
    refine ux_aload_n C 1 rfl rfl dX5_lay_52 ?_
    refine cs_5_73 C  (c_Paths_nameRounds hN  hw) (by decide) (by decide) (Nat.le_of_ble_eq_true rfl) dX5_lay_53 (po_v.k fun a_8 hw => ?_)
    refine ux_aload_n C 1 rfl rfl dX5_lay_56 ?_
    refine ux_iload_n C 0 rfl rfl dX5_lay_57 ?_
    refine cs_5_76 C  (c_Paths_goBack hN  hw) (by decide) (by decide) (Nat.le_of_ble_eq_true rfl) dX5_lay_58 (po_v.k fun a_10 hw => ?_)
    exact ux_vret C ⟨rfl, hw⟩ dX5_lay_61
  · replace hw := hw.2 hc_15
    refine ux_aload_n C 0 rfl rfl dX5_lay_23 ?_
    refine gf_5_9 C dX5_lay_24 ?_
    refine ux_iload_n C 3 rfl rfl dX5_lay_27 ?_
    refine ux_aload_n C 2 rfl rfl dX5_lay_28 ?_
    refine ux_aload_n C 1 rfl rfl dX5_lay_29 ?_
    refine ux_iload_n C 3 rfl rfl dX5_lay_30 ?_
    refine ux_aload_n C 2 rfl rfl dX5_lay_31 ?_
    refine gf_5_54 C hk2 dX5_lay_32 ?_
    refine cs_5_59 C hk2 (c_Words_go hN hk2 hw) (by decide) (by decide) (Nat.le_of_ble_eq_true rfl) dX5_lay_35 (po_ip.k fun r_11 hw => ?_)
    refine cs_5_63 C  (c_Cells_put hN (uc_37 C.2.2.2.2.2) hw) (by decide) (by decide) (Nat.le_of_ble_eq_true rfl) dX5_lay_38 (po_v.k fun a_14 hw => ?_)
    refine ux_iinc C 3 rfl rfl (by decide) rfl dX5_lay_41 ?_
    refine ux_goto C (tgt := 15) (by decide) dX5_lay_44 ?_
    exact ux_pick [1, 2, 3, 0] rfl (ih_2 _ _ hw)
set_option maxHeartbeats 2000000 in
set_option maxRecDepth 4000 in
theorem c_Reader_isText {l : Launch} {D : va_G} {G : Nat → Nat} {z N : Nat} (hN : 92 ≤ N) {a0 : ud_St} {t1 : Nat}  {Qf : Int32 → Prop} (hw : w_Reader_isText a0 t1 Qf) : ud_M l D G z N yX6_isText cX6_isText 3 (some Jvm.ClassFile.FieldType.boolean) 4 [.ref (z + 3), .ref (G (10 + 2 * t1))] a0 (po_ip a0 Qf) := by
  unfold w_Reader_isText at hw
  refine ud_M_of hN (by decide) (Nat.le_of_ble_eq_true rfl) ?_
  intro p e s m args below meth c C
  have C : ud_C D G z N p s m args meth c cX6_isText 3 RX6 (some Jvm.ClassFile.FieldType.boolean) := C
  show ud_X D G z N p l e (ud_rm 4 0 0) s m args below meth c 3 0 0 (ud_Q D G z N (po_ip a0 Qf) below args s) a0 0 [(0, .ref (z + 3)), (1, .ref (G (10 + 2 * t1)))] []
  refine ux_aload_n C 0 rfl rfl dX6_isText_0 ?_
  refine gf_6_33 C dX6_isText_1 ?_
  refine ux_iconst C (v := 1) (by decide) dX6_isText_4 ?_
  refine ux_icmp_ne C (tgt := 24) (by decide) dX6_isText_5 (fun hc_12 => ?_) (fun hc_12 => ?_)
  · replace hw := hw.2 hc_12
    refine ux_iconst C (v := 0) (by decide) dX6_isText_24 ?_
    exact ux_zret C rfl ⟨_, rfl, rfl, hw⟩ dX6_isText_25
  · replace hw := hw.1 hc_12
    refine ux_aload_n C 0 rfl rfl dX6_isText_8 ?_
    refine gf_6_22 C dX6_isText_9 ?_
    refine ux_aload_n C 0 rfl rfl dX6_isText_12 ?_
    refine gf_6_141 C dX6_isText_13 ?_
    refine ux_isub C dX6_isText_16 ?_
    refine ux_aload_n C 1 rfl rfl dX6_isText_17 ?_
    refine cs_6_163 hw.1 C (c_String_length hN hw) (by decide) (by decide) (Nat.le_of_ble_eq_true rfl) dX6_isText_18 (po_ip.k fun r_1 hw => ?_)
    refine ux_icmp_eq C (tgt := 26) (by decide) dX6_isText_21 (fun hc_11 => ?_) (fun hc_11 => ?_)
    · replace hw := hw.1 hc_11
      refine ux_iconst C (v := 0) (by decide) dX6_isText_26 ?_
      refine ux_istore_n C rfl (by decide) rfl dX6_isText_27 ?_
      refine ux_pick [1, 2, 0] rfl ?_
      refine LW1.elim (P := fun (x2_4 : Int32) => ud_X D G z N p l e (ud_rm 4 0 0) s m args below meth c 3 0 0 (ud_Q D G z N (po_ip a0 Qf) below args s) a0 28 [(0, .ref (z + 3)), (1, .ref (G (10 + 2 * t1))), (2, .int x2_4)] []) hw ?_
      intro x2_4 K_2 hw ih_3
      refine ux_iload_n C 2 rfl rfl dX6_isText_28 ?_
      refine ux_aload_n C 1 rfl rfl dX6_isText_29 ?_
      refine cs_6_163 hw.1 C (c_String_length hN hw) (by decide) (by decide) (Nat.le_of_ble_eq_true rfl) dX6_isText_30 (po_ip.k fun r_5 hw => ?_)
      refine ux_icmp_ge C (tgt := 65) (by decide) dX6_isText_33 (fun hc_10 => ?_) (fun hc_10 => ?_)
      · replace hw := hw.1 hc_10
        refine ux_iconst C (v := 1) (by decide) dX6_isText_65 ?_
        exact ux_zret C rfl ⟨_, rfl, rfl, hw⟩ dX6_isText_66
      · replace hw := hw.2 hc_10
        refine ux_aload_n C 0 rfl rfl dX6_isText_36 ?_
        refine gf_6_15 C dX6_isText_37 ?_
        refine ux_aload_n C 0 rfl rfl dX6_isText_40 ?_
        refine gf_6_141 C dX6_isText_41 ?_
        refine ux_iload_n C 2 rfl rfl dX6_isText_44 ?_
        refine ux_iadd C dX6_isText_45 ?_
        refine cs_6_145 C  (c_Tape_byteAt hN  hw) (by decide) (by decide) (Nat.le_of_ble_eq_true rfl) dX6_isText_46 (po_ip.k fun r_6 hw => ?_)
        refine ux_aload_n C 1 rfl rfl dX6_isText_49 ?_
        refine ux_iload_n C 2 rfl rfl dX6_isText_50 ?_
        refine cs_6_167 hw.1 C (c_String_charAt hN hw) (by decide) (by decide) (Nat.le_of_ble_eq_true rfl) dX6_isText_51 (po_ip.k fun r_8 hw => ?_)
        refine ux_icmp_eq C (tgt := 59) (by decide) dX6_isText_54 (fun hc_9 => ?_) (fun hc_9 => ?_)
        · replace hw := hw.1 hc_9
          refine ux_iinc C 2 rfl rfl (by decide) rfl dX6_isText_59 ?_
          refine ux_goto C (tgt := 28) (by decide) dX6_isText_62 ?_
          exact ux_pick [1, 2, 0] rfl (ih_3 _ hw)
        · replace hw := hw.2 hc_9
          refine ux_iconst C (v := 0) (by decide) dX6_isText_57 ?_
          exact ux_zret C rfl ⟨_, rfl, rfl, hw⟩ dX6_isText_58
    · replace hw := hw.2 hc_11
      refine ux_iconst C (v := 0) (by decide) dX6_isText_24 ?_
      exact ux_zret C rfl ⟨_, rfl, rfl, hw⟩ dX6_isText_25
set_option maxHeartbeats 2000000 in
set_option maxRecDepth 4000 in
theorem c_UpAndDown_slip {l : Launch} {D : va_G} {G : Nat → Nat} {z N : Nat} (hN : 92 ≤ N) {a0 : ud_St} {x1 : Int32} {x2 : Int32} {x3 : Int32}  {Qf : Int32 → ud_St → Prop} (hw : w_UpAndDown_slip a0 x1 x2 x3 Qf) : ud_M l D G z N yX11_slip cX11_slip 4 (some Jvm.ClassFile.FieldType.int) 4 [.ref (z + 0), .int x1, .int x2, .int x3] a0 (po_i Qf) := by
  unfold w_UpAndDown_slip at hw
  refine ud_M_of hN (by decide) (Nat.le_of_ble_eq_true rfl) ?_
  intro p e s m args below meth c C
  have C : ud_C D G z N p s m args meth c cX11_slip 4 RX11 (some Jvm.ClassFile.FieldType.int) := C
  show ud_X D G z N p l e (ud_rm 4 0 0) s m args below meth c 4 0 0 (ud_Q D G z N (po_i Qf) below args s) a0 0 [(0, .ref (z + 0)), (1, .int x1), (2, .int x2), (3, .int x3)] []
  refine ux_aload_n C 0 rfl rfl dX11_slip_0 ?_
  refine ux_iload_n C 1 rfl rfl dX11_slip_1 ?_
  refine cs_11_154 C  (c_UpAndDown_isNumber hN  hw) (by decide) (by decide) (Nat.le_of_ble_eq_true rfl) dX11_slip_2 (po_ip.k fun r_1 hw => ?_)
  refine ux_if_eq C (tgt := 43) (by decide) dX11_slip_5 (fun hc_13 => ?_) (fun hc_13 => ?_)
  · replace hw := hw.1 hc_13
    refine ux_bipush C (v := -2) (by decide) dX11_slip_43 ?_
    exact ux_iret C ⟨_, rfl, hw⟩ dX11_slip_45
  · replace hw := hw.2 hc_13
    refine ux_aload_n C 0 rfl rfl dX11_slip_8 ?_
    refine ux_iload_n C 2 rfl rfl dX11_slip_9 ?_
    refine cs_11_120 C  (c_UpAndDown_isWord hN  hw) (by decide) (by decide) (Nat.le_of_ble_eq_true rfl) dX11_slip_10 (po_ip.k fun r_3 hw => ?_)
    refine ux_if_eq C (tgt := 43) (by decide) dX11_slip_13 (fun hc_12 => ?_) (fun hc_12 => ?_)
    · replace hw := hw.1 hc_12
      refine ux_bipush C (v := -2) (by decide) dX11_slip_43 ?_
      exact ux_iret C ⟨_, rfl, hw⟩ dX11_slip_45
    · replace hw := hw.2 hc_12
      refine ux_iload_n C 3 rfl rfl dX11_slip_16 ?_
      refine ux_if_lt C (tgt := 43) (by decide) dX11_slip_17 (fun hc_11 => ?_) (fun hc_11 => ?_)
      · replace hw := hw.1 hc_11
        refine ux_bipush C (v := -2) (by decide) dX11_slip_43 ?_
        exact ux_iret C ⟨_, rfl, hw⟩ dX11_slip_45
      · replace hw := hw.2 hc_11
        refine ux_iload_n C 3 rfl rfl dX11_slip_20 ?_
        refine ux_aload_n C 0 rfl rfl dX11_slip_21 ?_
        refine gf_11_28 C dX11_slip_22 ?_
        refine gf_11_283 C (uc_4 C.2.2.2.2.2) dX11_slip_25 ?_
        refine gf_11_164 C (uc_8 C.2.2.2.2.2) dX11_slip_28 ?_
        refine ux_icmp_ge C (tgt := 43) (by decide) dX11_slip_31 (fun hc_10 => ?_) (fun hc_10 => ?_)
        · replace hw := hw.1 hc_10
          refine ux_bipush C (v := -2) (by decide) dX11_slip_43 ?_
          exact ux_iret C ⟨_, rfl, hw⟩ dX11_slip_45
        · replace hw := hw.2 hc_10
          refine ux_aload_n C 0 rfl rfl dX11_slip_34 ?_
          refine ux_iload_n C 2 rfl rfl dX11_slip_35 ?_
          refine ux_iload_n C 3 rfl rfl dX11_slip_36 ?_
          refine cs_11_286 C  (c_UpAndDown_canSlip hN  hw) (by decide) (by decide) (Nat.le_of_ble_eq_true rfl) dX11_slip_37 (po_ip.k fun r_5 hw => ?_)
          refine ux_if_ne C (tgt := 46) (by decide) dX11_slip_40 (fun hc_9 => ?_) (fun hc_9 => ?_)
          · replace hw := hw.2 hc_9
            refine ux_aload_n C 0 rfl rfl dX11_slip_46 ?_
            refine ux_iload_n C 1 rfl rfl dX11_slip_47 ?_
            refine ux_iload_n C 2 rfl rfl dX11_slip_48 ?_
            refine ux_iload_n C 3 rfl rfl dX11_slip_49 ?_
            refine cs_11_290 C  (c_UpAndDown_nextSlipped hN  hw) (by decide) (by decide) (Nat.le_of_ble_eq_true rfl) dX11_slip_50 (po_i.k fun r_7 a_8 hw => ?_)
            exact ux_iret C ⟨_, rfl, hw⟩ dX11_slip_53
          · replace hw := hw.1 hc_9
            refine ux_bipush C (v := -2) (by decide) dX11_slip_43 ?_
            exact ux_iret C ⟨_, rfl, hw⟩ dX11_slip_45
set_option maxHeartbeats 2000000 in
set_option maxRecDepth 4000 in
theorem c_UpAndDown_find {l : Launch} {D : va_G} {G : Nat → Nat} {z N : Nat} (hN : 92 ≤ N) {a0 : ud_St} {x1 : Int32} {x2 : Int32}  {Qf : Int32 → ud_St → Prop} (hw : w_UpAndDown_find a0 x1 x2 Qf) : ud_M l D G z N yX11_find cX11_find 3 (some Jvm.ClassFile.FieldType.int) 4 [.ref (z + 0), .int x1, .int x2] a0 (po_i Qf) := by
  unfold w_UpAndDown_find at hw
  refine ud_M_of hN (by decide) (Nat.le_of_ble_eq_true rfl) ?_
  intro p e s m args below meth c C
  have C : ud_C D G z N p s m args meth c cX11_find 3 RX11 (some Jvm.ClassFile.FieldType.int) := C
  show ud_X D G z N p l e (ud_rm 4 0 0) s m args below meth c 3 0 0 (ud_Q D G z N (po_i Qf) below args s) a0 0 [(0, .ref (z + 0)), (1, .int x1), (2, .int x2)] []
  refine ux_aload_n C 0 rfl rfl dX11_find_0 ?_
  refine ux_iload_n C 1 rfl rfl dX11_find_1 ?_
  refine cs_11_154 C  (c_UpAndDown_isNumber hN  hw) (by decide) (by decide) (Nat.le_of_ble_eq_true rfl) dX11_find_2 (po_ip.k fun r_1 hw => ?_)
  refine ux_if_eq C (tgt := 16) (by decide) dX11_find_5 (fun hc_8 => ?_) (fun hc_8 => ?_)
  · replace hw := hw.1 hc_8
    refine ux_bipush C (v := -2) (by decide) dX11_find_16 ?_
    exact ux_iret C ⟨_, rfl, hw⟩ dX11_find_18
  · replace hw := hw.2 hc_8
    refine ux_aload_n C 0 rfl rfl dX11_find_8 ?_
    refine ux_iload_n C 2 rfl rfl dX11_find_9 ?_
    refine cs_11_154 C  (c_UpAndDown_isNumber hN  hw) (by decide) (by decide) (Nat.le_of_ble_eq_true rfl) dX11_find_10 (po_ip.k fun r_3 hw => ?_)
    refine ux_if_ne C (tgt := 19) (by decide) dX11_find_13 (fun hc_7 => ?_) (fun hc_7 => ?_)
    · replace hw := hw.2 hc_7
      refine ux_aload_n C 0 rfl rfl dX11_find_19 ?_
      refine ux_iload_n C 1 rfl rfl dX11_find_20 ?_
      refine ux_iload_n C 2 rfl rfl dX11_find_21 ?_
      refine cs_11_297 C  (c_UpAndDown_tryRows hN  hw) (by decide) (by decide) (Nat.le_of_ble_eq_true rfl) dX11_find_22 (po_i.k fun r_5 a_6 hw => ?_)
      exact ux_iret C ⟨_, rfl, hw⟩ dX11_find_25
    · replace hw := hw.1 hc_7
      refine ux_bipush C (v := -2) (by decide) dX11_find_16 ?_
      exact ux_iret C ⟨_, rfl, hw⟩ dX11_find_18
set_option maxHeartbeats 2000000 in
set_option maxRecDepth 4000 in
theorem c_UpAndDown_found {l : Launch} {D : va_G} {G : Nat → Nat} {z N : Nat} (hN : 92 ≤ N) {a0 : ud_St} {x1 : Int32} {x2 : Int32} {x3 : Int32}  {Qf : Int32 → ud_St → Prop} (hw : w_UpAndDown_found a0 x1 x2 x3 Qf) : ud_M l D G z N yX11_found cX11_found 5 (some Jvm.ClassFile.FieldType.int) 4 [.ref (z + 0), .int x1, .int x2, .int x3] a0 (po_i Qf) := by
  unfold w_UpAndDown_found at hw
  refine ud_M_of hN (by decide) (Nat.le_of_ble_eq_true rfl) ?_
  intro p e s m args below meth c C
  have C : ud_C D G z N p s m args meth c cX11_found 5 RX11 (some Jvm.ClassFile.FieldType.int) := C
  show ud_X D G z N p l e (ud_rm 4 0 0) s m args below meth c 5 0 0 (ud_Q D G z N (po_i Qf) below args s) a0 0 [(0, .ref (z + 0)), (1, .int x1), (2, .int x2), (3, .int x3)] []
  refine ux_aload_n C 0 rfl rfl dX11_found_0 ?_
  refine ux_iload_n C 1 rfl rfl dX11_found_1 ?_
  refine cs_11_154 C  (c_UpAndDown_isNumber hN  hw) (by decide) (by decide) (Nat.le_of_ble_eq_true rfl) dX11_found_2 (po_ip.k fun r_1 hw => ?_)
  refine ux_if_eq C (tgt := 16) (by decide) dX11_found_5 (fun hc_12 => ?_) (fun hc_12 => ?_)
  · replace hw := hw.1 hc_12
    refine ux_bipush C (v := -2) (by decide) dX11_found_16 ?_
    exact ux_iret C ⟨_, rfl, hw⟩ dX11_found_18
  · replace hw := hw.2 hc_12
    refine ux_aload_n C 0 rfl rfl dX11_found_8 ?_
    refine ux_iload_n C 2 rfl rfl dX11_found_9 ?_
    refine cs_11_154 C  (c_UpAndDown_isNumber hN  hw) (by decide) (by decide) (Nat.le_of_ble_eq_true rfl) dX11_found_10 (po_ip.k fun r_3 hw => ?_)
    refine ux_if_ne C (tgt := 19) (by decide) dX11_found_13 (fun hc_11 => ?_) (fun hc_11 => ?_)
    · replace hw := hw.2 hc_11
      refine ux_aload_n C 0 rfl rfl dX11_found_19 ?_
      refine ux_iload_n C 1 rfl rfl dX11_found_20 ?_
      refine ux_iload_n C 2 rfl rfl dX11_found_21 ?_
      refine cs_11_297 C  (c_UpAndDown_tryRows hN  hw) (by decide) (by decide) (Nat.le_of_ble_eq_true rfl) dX11_found_22 (po_i.k fun r_5 a_6 hw => ?_)
      refine ux_istore C (by decide) rfl dX11_found_25 ?_
      refine ux_iload_n C 4 rfl rfl dX11_found_27 ?_
      refine ux_if_lt C (tgt := 48) (by decide) dX11_found_28 (fun hc_10 => ?_) (fun hc_10 => ?_)
      · replace hw := hw.1 hc_10
        refine ux_iconst C (v := -1) (by decide) dX11_found_48 ?_
        exact ux_iret C ⟨_, rfl, hw⟩ dX11_found_49
      · replace hw := hw.2 hc_10
        refine ux_iload_n C 4 rfl rfl dX11_found_31 ?_
        refine ux_iload C 0 rfl dX11_found_32 ?_
        refine ux_icmp_ge C (tgt := 48) (by decide) dX11_found_34 (fun hc_9 => ?_) (fun hc_9 => ?_)
        · replace hw := hw.1 hc_9
          refine ux_iconst C (v := -1) (by decide) dX11_found_48 ?_
          exact ux_iret C ⟨_, rfl, hw⟩ dX11_found_49
        · replace hw := hw.2 hc_9
          refine ux_aload_n C 1 rfl rfl dX11_found_37 ?_
          refine gf_11_66 C dX11_found_38 ?_
          refine ux_iload_n C 4 rfl rfl dX11_found_41 ?_
          refine cs_11_126 C (uc_56 C.2.2.2.2.2) (c_Words_sort hN (uc_56 C.2.2.2.2.2) hw) (by decide) (by decide) (Nat.le_of_ble_eq_true rfl) dX11_found_42 (po_ip.k fun r_7 hw => ?_)
          refine ux_goto C (tgt := 49) (by decide) dX11_found_45 ?_
          exact ux_iret C ⟨_, rfl, hw⟩ dX11_found_49
    · replace hw := hw.1 hc_11
      refine ux_bipush C (v := -2) (by decide) dX11_found_16 ?_
      exact ux_iret C ⟨_, rfl, hw⟩ dX11_found_18
set_option maxHeartbeats 2000000 in
set_option maxRecDepth 4000 in
theorem c_UpAndDown_judge {l : Launch} {D : va_G} {G : Nat → Nat} {z N : Nat} (hN : 92 ≤ N) {a0 : ud_St} {x1 : Int32}  {Qf : Int32 → Prop} (hw : w_UpAndDown_judge a0 x1 Qf) : ud_M l D G z N yX11_judge cX11_judge 3 (some Jvm.ClassFile.FieldType.int) 4 [.ref (z + 0), .int x1] a0 (po_ip a0 Qf) := by
  unfold w_UpAndDown_judge at hw
  refine ud_M_of hN (by decide) (Nat.le_of_ble_eq_true rfl) ?_
  intro p e s m args below meth c C
  have C : ud_C D G z N p s m args meth c cX11_judge 3 RX11 (some Jvm.ClassFile.FieldType.int) := C
  show ud_X D G z N p l e (ud_rm 4 0 0) s m args below meth c 3 0 0 (ud_Q D G z N (po_ip a0 Qf) below args s) a0 0 [(0, .ref (z + 0)), (1, .int x1)] []
  refine ux_aload_n C 0 rfl rfl dX11_judge_0 ?_
  refine ux_iload_n C 1 rfl rfl dX11_judge_1 ?_
  refine cs_11_318 C  (c_UpAndDown_slotAt hN  hw) (by decide) (by decide) (Nat.le_of_ble_eq_true rfl) dX11_judge_2 (po_o.k fun r_1 hw => ?_)
  refine ux_astoreO_n C rfl (by decide) rfl dX11_judge_5 ?_
  refine ux_aloadO_n C 0 rfl rfl dX11_judge_6 ?_
  refine ux_ifnullO C (tgt := 17) (by decide) dX11_judge_7 (fun hq_4 => ?_) (fun q_3 hq_4 => ?_)
  · replace hw := hw.1 hq_4
    refine ux_bipush C (v := -2) (by decide) dX11_judge_17 ?_
    exact ux_iret C ⟨_, rfl, rfl, hw⟩ dX11_judge_19
  · obtain ⟨hs_5, hw⟩ := hw.2 q_3 hq_4
    try rw [hq_4]
    show ud_X D G z N p l e (ud_rm 4 0 0) s m args below meth c 3 0 0 (ud_Q D G z N (po_ip a0 Qf) below args s) a0 10 [(2, .ref (z + q_3)), (0, .ref (z + 0)), (1, .int x1)] []
    refine ux_aload_n C 1 rfl rfl dX11_judge_10 ?_
    refine cs_11_147 C  (c_UpAndDown_hasTable hN  hw) (by decide) (by decide) (Nat.le_of_ble_eq_true rfl) dX11_judge_11 (po_ip.k fun r_6 hw => ?_)
    refine ux_if_ne C (tgt := 20) (by decide) dX11_judge_14 (fun hc_11 => ?_) (fun hc_11 => ?_)
    · replace hw := hw.2 hc_11
      refine ux_aload_n C 0 rfl rfl dX11_judge_20 ?_
      refine gf_11_322 C (ud_slot_of C.2.2.2.2.2 hs_5) dX11_judge_21 ?_
      refine ux_if_eq C (tgt := 35) (by decide) dX11_judge_24 (fun hc_10 => ?_) (fun hc_10 => ?_)
      · replace hw := hw.1 hc_10
        refine ux_bipush C (v := -6) (by decide) dX11_judge_35 ?_
        exact ux_iret C ⟨_, rfl, rfl, hw⟩ dX11_judge_37
      · replace hw := hw.2 hc_10
        refine ux_aload_n C 1 rfl rfl dX11_judge_27 ?_
        refine ux_aload_n C 0 rfl rfl dX11_judge_28 ?_
        refine cs_11_325 C  (c_UpAndDown_countRight hN (ud_slot_of C.2.2.2.2.2 hs_5) hw) (by decide) (by decide) (Nat.le_of_ble_eq_true rfl) dX11_judge_29 (po_ip.k fun r_8 hw => ?_)
        refine ux_goto C (tgt := 37) (by decide) dX11_judge_32 ?_
        exact ux_iret C ⟨_, rfl, rfl, hw⟩ dX11_judge_37
    · replace hw := hw.1 hc_11
      refine ux_bipush C (v := -2) (by decide) dX11_judge_17 ?_
      exact ux_iret C ⟨_, rfl, rfl, hw⟩ dX11_judge_19
set_option maxHeartbeats 2000000 in
set_option maxRecDepth 4000 in
theorem c_UpAndDown_keep {l : Launch} {D : va_G} {G : Nat → Nat} {z N : Nat} (hN : 92 ≤ N) {a0 : ud_St} {x1 : Int32}  {Qf : Int32 → ud_St → Prop} (hw : w_UpAndDown_keep N a0 x1 Qf) : ud_M l D G z N yX11_keep cX11_keep 2 (some Jvm.ClassFile.FieldType.int) 4 [.ref (z + 0), .int x1] a0 (po_i Qf) := by
  unfold w_UpAndDown_keep at hw
  refine ud_M_of hN (by decide) (Nat.le_of_ble_eq_true rfl) ?_
  intro p e s m args below meth c C
  have C : ud_C D G z N p s m args meth c cX11_keep 2 RX11 (some Jvm.ClassFile.FieldType.int) := C
  show ud_X D G z N p l e (ud_rm 4 0 0) s m args below meth c 2 0 0 (ud_Q D G z N (po_i Qf) below args s) a0 0 [(0, .ref (z + 0)), (1, .int x1)] []
  refine ux_aload_n C 0 rfl rfl dX11_keep_0 ?_
  refine ux_iload_n C 1 rfl rfl dX11_keep_1 ?_
  refine cs_11_348 C  (c_UpAndDown_isImage hN  hw) (by decide) (by decide) (Nat.le_of_ble_eq_true rfl) dX11_keep_2 (po_ip.k fun r_1 hw => ?_)
  refine ux_if_ne C (tgt := 11) (by decide) dX11_keep_5 (fun hc_10 => ?_) (fun hc_10 => ?_)
  · replace hw := hw.2 hc_10
    refine ux_aload_n C 0 rfl rfl dX11_keep_11 ?_
    refine gf_11_84 C dX11_keep_12 ?_
    refine ux_iload_n C 1 rfl rfl dX11_keep_15 ?_
    obtain ⟨hi_3, hw⟩ := hw
    refine ux_aldT C hi_3 dX11_keep_16 ?_
    refine ux_ifnonnullO C (tgt := 33) (by decide) dX11_keep_17 (fun hq_5 => ?_) (fun q_4 hq_5 => ?_)
    · replace hw := hw.1 hq_5
      refine ux_aload_n C 0 rfl rfl dX11_keep_20 ?_
      refine gf_11_84 C dX11_keep_21 ?_
      refine ux_iload_n C 1 rfl rfl dX11_keep_24 ?_
      exact hw.elim
    · obtain ⟨hs_6, hw⟩ := hw.2 q_4 hq_5
      try rw [hq_5]
      show ud_X D G z N p l e (ud_rm 4 0 0) s m args below meth c 2 0 0 (ud_Q D G z N (po_i Qf) below args s) a0 33 [(0, .ref (z + 0)), (1, .int x1)] []
      refine ux_aload_n C 0 rfl rfl dX11_keep_33 ?_
      refine gf_11_84 C dX11_keep_34 ?_
      refine ux_iload_n C 1 rfl rfl dX11_keep_37 ?_
      obtain ⟨hi_7, hw⟩ := hw
      refine ux_aldT C hi_7 dX11_keep_38 ?_
      try rw [hq_5]
      show ud_X D G z N p l e (ud_rm 4 0 0) s m args below meth c 2 0 0 (ud_Q D G z N (po_i Qf) below args s) a0 39 [(0, .ref (z + 0)), (1, .int x1)] [.ref (z + q_4)]
      refine ux_aload_n C 0 rfl rfl dX11_keep_39 ?_
      refine gf_11_28 C dX11_keep_40 ?_
      refine cs_11_104 C hs_6 (c_Table_copy hN hs_6 (uc_4 C.2.2.2.2.2) hw) (by decide) (by decide) (Nat.le_of_ble_eq_true rfl) dX11_keep_43 (po_v.k fun a_9 hw => ?_)
      refine ux_iconst C (v := 0) (by decide) dX11_keep_46 ?_
      exact ux_iret C ⟨_, rfl, hw⟩ dX11_keep_47
  · replace hw := hw.1 hc_10
    refine ux_bipush C (v := -2) (by decide) dX11_keep_8 ?_
    exact ux_iret C ⟨_, rfl, hw⟩ dX11_keep_10
set_option maxHeartbeats 2000000 in
set_option maxRecDepth 4000 in
theorem c_UpAndDown_isSlipTo {l : Launch} {D : va_G} {G : Nat → Nat} {z N : Nat} (hN : 92 ≤ N) {a0 : ud_St} {x1 : Int32} {x2 : Int32} {x3 : Int32} {x4 : Int32}  {Qf : Int32 → ud_St → Prop} (hw : w_UpAndDown_isSlipTo a0 x1 x2 x3 x4 Qf) : ud_M l D G z N yX11_isSlipTo cX11_isSlipTo 5 (some Jvm.ClassFile.FieldType.boolean) 4 [.ref (z + 0), .int x1, .int x2, .int x3, .int x4] a0 (po_i Qf) := by
  unfold w_UpAndDown_isSlipTo at hw
  refine ud_M_of hN (by decide) (Nat.le_of_ble_eq_true rfl) ?_
  intro p e s m args below meth c C
  have C : ud_C D G z N p s m args meth c cX11_isSlipTo 5 RX11 (some Jvm.ClassFile.FieldType.boolean) := C
  show ud_X D G z N p l e (ud_rm 4 0 0) s m args below meth c 5 0 0 (ud_Q D G z N (po_i Qf) below args s) a0 0 [(0, .ref (z + 0)), (1, .int x1), (2, .int x2), (3, .int x3), (4, .int x4)] []
  refine ux_aload_n C 0 rfl rfl dX11_isSlipTo_0 ?_
  refine ux_iload_n C 3 rfl rfl dX11_isSlipTo_1 ?_
  refine ux_iload C 4 rfl dX11_isSlipTo_2 ?_
  refine cs_11_286 C  (c_UpAndDown_canSlip hN  hw) (by decide) (by decide) (Nat.le_of_ble_eq_true rfl) dX11_isSlipTo_4 (po_ip.k fun r_1 hw => ?_)
  refine ux_if_eq C (tgt := 26) (by decide) dX11_isSlipTo_7 (fun hc_6 => ?_) (fun hc_6 => ?_)
  · replace hw := hw.1 hc_6
    refine ux_iconst C (v := 0) (by decide) dX11_isSlipTo_26 ?_
    exact ux_zret C rfl ⟨_, rfl, hw⟩ dX11_isSlipTo_27
  · replace hw := hw.2 hc_6
    refine ux_aload_n C 0 rfl rfl dX11_isSlipTo_10 ?_
    refine ux_iload_n C 1 rfl rfl dX11_isSlipTo_11 ?_
    refine ux_iload_n C 3 rfl rfl dX11_isSlipTo_12 ?_
    refine ux_iload C 4 rfl dX11_isSlipTo_13 ?_
    refine cs_11_290 C  (c_UpAndDown_nextSlipped hN  hw) (by decide) (by decide) (Nat.le_of_ble_eq_true rfl) dX11_isSlipTo_15 (po_i.k fun r_3 a_4 hw => ?_)
    refine ux_iload_n C 2 rfl rfl dX11_isSlipTo_18 ?_
    refine ux_icmp_ne C (tgt := 26) (by decide) dX11_isSlipTo_19 (fun hc_5 => ?_) (fun hc_5 => ?_)
    · replace hw := hw.2 hc_5
      refine ux_iconst C (v := 0) (by decide) dX11_isSlipTo_26 ?_
      exact ux_zret C rfl ⟨_, rfl, hw⟩ dX11_isSlipTo_27
    · replace hw := hw.1 hc_5
      refine ux_iconst C (v := 1) (by decide) dX11_isSlipTo_22 ?_
      refine ux_goto C (tgt := 27) (by decide) dX11_isSlipTo_23 ?_
      exact ux_zret C rfl ⟨_, rfl, hw⟩ dX11_isSlipTo_27
set_option maxHeartbeats 2000000 in
set_option maxRecDepth 4000 in
theorem c_Model_number_ {l : Launch} {D : va_G} {G : Nat → Nat} {z N : Nat} (hN : 92 ≤ N) {a0 : ud_St} {x1 : Int64} {x3 : Int32} {x4 : Int32}  {Qf : Int32 → ud_St → Prop} (hw : w_Model_number_ a0 x1 x3 x4 Qf) : ud_M l D G z N yX12_number_ cX12_number_ 5 (some Jvm.ClassFile.FieldType.int) 4 [.ref (z + 71), .long x1, .int x3, .int x4] a0 (po_i Qf) := by
  unfold w_Model_number_ at hw
  refine ud_M_of hN (by decide) (Nat.le_of_ble_eq_true rfl) ?_
  intro p e s m args below meth c C
  have C : ud_C D G z N p s m args meth c cX12_number_ 5 RX12 (some Jvm.ClassFile.FieldType.int) := C
  show ud_X D G z N p l e (ud_rm 4 0 0) s m args below meth c 5 0 0 (ud_Q D G z N (po_i Qf) below args s) a0 0 [(0, .ref (z + 71)), (1, .long x1), (3, .int x3), (4, .int x4)] []
  refine ux_aload_n C 0 rfl rfl dX12_number__0 ?_
  refine ux_lload_n C 1 rfl rfl dX12_number__1 ?_
  refine cs_12_148 C  (c_Model_asks hN  hw) (by decide) (by decide) (Nat.le_of_ble_eq_true rfl) dX12_number__2 (po_v.k fun a_2 hw => ?_)
  refine ux_aload_n C 0 rfl rfl dX12_number__5 ?_
  refine ux_iload_n C 2 rfl rfl dX12_number__6 ?_
  refine ux_iload C 3 rfl dX12_number__7 ?_
  refine cs_12_152 C  (c_Model_number hN  hw) (by decide) (by decide) (Nat.le_of_ble_eq_true rfl) dX12_number__9 (po_i.k fun r_3 a_4 hw => ?_)
  exact ux_iret C ⟨_, rfl, hw⟩ dX12_number__12
set_option maxHeartbeats 2000000 in
set_option maxRecDepth 4000 in
theorem c_Model_doing_j108 {D : va_G} {G : Nat → Nat} {z N : Nat} {p : Program} {l : Launch} {e : Env} {s : State} {m : MethodId} {args : Array Value} {below : List Frame} {meth : Method} {c : Code} (hN : 92 ≤ N) {a0 : ud_St} {b_108 : ud_St} {K_3 : Int32 → ud_St → Prop}  {Qf : ud_St → Prop} (C : ud_C D G z N p s m args meth c cX12_doing 2 RX12 (none : Option Jvm.ClassFile.FieldType)) (ih_4 : ∀ (v0 : Int32) (v1 : ud_St), K_3 v0 v1 → ud_X D G z N p l e (ud_rm 4 0 0) s m args below meth c 2 0 0 (ud_Q D G z N (po_v Qf) below args s) v1 31 [(0, .ref (z + 71)), (1, .int v0)] []) (hw : w_Model_doing_j108 a0 b_108 K_3 Qf) : ud_X D G z N p l e (ud_rm 4 0 0) s m args below meth c 2 0 0 (ud_Q D G z N (po_v Qf) below args s) b_108 108 [(0, .ref (z + 71))] [] := by
  unfold w_Model_doing_j108 at hw
  refine ux_aload_n C 0 rfl rfl dX12_doing_108 ?_
  refine gf_12_118 C dX12_doing_109 ?_
  refine ux_iconst C (v := 1) (by decide) dX12_doing_112 ?_
  refine ux_icmp_ne C (tgt := 120) (by decide) dX12_doing_113 (fun hc_15 => ?_) (fun hc_15 => ?_)
  · replace hw := hw.2 hc_15
    refine ux_iconst C (v := 0) (by decide) dX12_doing_120 ?_
    refine ux_istore_n C rfl (by decide) rfl dX12_doing_121 ?_
    refine ux_goto C (tgt := 31) (by decide) dX12_doing_122 ?_
    exact ux_pick [1, 0] rfl (ih_4 _ _ hw)
  · replace hw := hw.1 hc_15
    refine ux_iconst C (v := 1) (by decide) dX12_doing_116 ?_
    refine ux_goto C (tgt := 121) (by decide) dX12_doing_117 ?_
    refine ux_istore_n C rfl (by decide) rfl dX12_doing_121 ?_
    refine ux_goto C (tgt := 31) (by decide) dX12_doing_122 ?_
    exact ux_pick [1, 0] rfl (ih_4 _ _ hw)
set_option maxHeartbeats 2000000 in
set_option maxRecDepth 4000 in
theorem c_Model_doing_j90 {D : va_G} {G : Nat → Nat} {z N : Nat} {p : Program} {l : Launch} {e : Env} {s : State} {m : MethodId} {args : Array Value} {below : List Frame} {meth : Method} {c : Code} (hN : 92 ≤ N) {a0 : ud_St} {b_90 : ud_St} {K_3 : Int32 → ud_St → Prop}  {Qf : ud_St → Prop} (C : ud_C D G z N p s m args meth c cX12_doing 2 RX12 (none : Option Jvm.ClassFile.FieldType)) (ih_4 : ∀ (v0 : Int32) (v1 : ud_St), K_3 v0 v1 → ud_X D G z N p l e (ud_rm 4 0 0) s m args below meth c 2 0 0 (ud_Q D G z N (po_v Qf) below args s) v1 31 [(0, .ref (z + 71)), (1, .int v0)] []) (hw : w_Model_doing_j90 a0 b_90 K_3 Qf) : ud_X D G z N p l e (ud_rm 4 0 0) s m args below meth c 2 0 0 (ud_Q D G z N (po_v Qf) below args s) b_90 90 [(0, .ref (z + 71))] [] := by
  unfold w_Model_doing_j90 at hw
  refine ux_aload_n C 0 rfl rfl dX12_doing_90 ?_
  refine cs_12_200 C  (c_Model_isGood hN  hw) (by decide) (by decide) (Nat.le_of_ble_eq_true rfl) dX12_doing_91 (po_ip.k fun r_13 hw => ?_)
  refine ux_if_eq C (tgt := 108) (by decide) dX12_doing_94 (fun hc_18 => ?_) (fun hc_18 => ?_)
  · replace hw := hw.1 hc_18
    exact ux_pick [0] rfl (c_Model_doing_j108 hN  C ih_4 hw)
  · replace hw := hw.2 hc_18
    refine ux_aload_n C 0 rfl rfl dX12_doing_97 ?_
    refine gf_12_34 C dX12_doing_98 ?_
    refine ux_bipush C (v := 27) (by decide) dX12_doing_101 ?_
    refine ux_dup2 C rfl rfl dX12_doing_103 ?_
    obtain ⟨hi_17, hw⟩ := hw
    refine ux_iald C (uc_78 C.2.2.2.2.2) hi_17 dX12_doing_104 ?_
    refine ux_iconst C (v := 1) (by decide) dX12_doing_105 ?_
    refine ux_iadd C dX12_doing_106 ?_
    obtain ⟨hi_16, hw⟩ := hw
    refine ux_iast C (uc_78 C.2.2.2.2.2) hi_16 dX12_doing_107 ?_
    exact ux_pick [0] rfl (c_Model_doing_j108 hN  C ih_4 hw)
set_option maxHeartbeats 2000000 in
set_option maxRecDepth 4000 in
theorem c_Model_doing_j65 {D : va_G} {G : Nat → Nat} {z N : Nat} {p : Program} {l : Launch} {e : Env} {s : State} {m : MethodId} {args : Array Value} {below : List Frame} {meth : Method} {c : Code} (hN : 92 ≤ N) {a0 : ud_St} {b_65 : ud_St} {K_3 : Int32 → ud_St → Prop}  {Qf : ud_St → Prop} (C : ud_C D G z N p s m args meth c cX12_doing 2 RX12 (none : Option Jvm.ClassFile.FieldType)) (ih_4 : ∀ (v0 : Int32) (v1 : ud_St), K_3 v0 v1 → ud_X D G z N p l e (ud_rm 4 0 0) s m args below meth c 2 0 0 (ud_Q D G z N (po_v Qf) below args s) v1 31 [(0, .ref (z + 71)), (1, .int v0)] []) (hw : w_Model_doing_j65 a0 b_65 K_3 Qf) : ud_X D G z N p l e (ud_rm 4 0 0) s m args below meth c 2 0 0 (ud_Q D G z N (po_v Qf) below args s) b_65 65 [(0, .ref (z + 71))] [] := by
  unfold w_Model_doing_j65 at hw
  refine ux_aload_n C 0 rfl rfl dX12_doing_65 ?_
  refine cs_12_200 C  (c_Model_isGood hN  hw) (by decide) (by decide) (Nat.le_of_ble_eq_true rfl) dX12_doing_66 (po_ip.k fun r_11 hw => ?_)
  refine ux_if_eq C (tgt := 90) (by decide) dX12_doing_69 (fun hc_23 => ?_) (fun hc_23 => ?_)
  · replace hw := hw.1 hc_23
    exact ux_pick [0] rfl (c_Model_doing_j90 hN  C ih_4 hw)
  · replace hw := hw.2 hc_23
    refine ux_aload_n C 0 rfl rfl dX12_doing_72 ?_
    refine ux_aload_n C 0 rfl rfl dX12_doing_73 ?_
    refine gf_12_37 C dX12_doing_74 ?_
    refine ux_iconst C (v := 2) (by decide) dX12_doing_77 ?_
    refine ux_bipush C (v := 48) (by decide) dX12_doing_78 ?_
    refine ux_aload_n C 0 rfl rfl dX12_doing_80 ?_
    refine ux_iconst C (v := 3) (by decide) dX12_doing_81 ?_
    refine cs_12_193 C  (c_Model_many hN  hw) (by decide) (by decide) (Nat.le_of_ble_eq_true rfl) dX12_doing_82 (po_ip.k fun r_19 hw => ?_)
    refine ux_iadd C dX12_doing_85 ?_
    refine ux_imul C dX12_doing_86 ?_
    refine cs_12_204 C  (c_Model_wordTo hN (uc_79 C.2.2.2.2.2) hw) (by decide) (by decide) (Nat.le_of_ble_eq_true rfl) dX12_doing_87 (po_v.k fun a_22 hw => ?_)
    exact ux_pick [0] rfl (c_Model_doing_j90 hN  C ih_4 hw)
set_option maxHeartbeats 2000000 in
set_option maxRecDepth 4000 in
theorem c_Model_doing_j12 {D : va_G} {G : Nat → Nat} {z N : Nat} {p : Program} {l : Launch} {e : Env} {s : State} {m : MethodId} {args : Array Value} {below : List Frame} {meth : Method} {c : Code} (hN : 92 ≤ N) {a0 : ud_St} {b_12 : ud_St}  {Qf : ud_St → Prop} (C : ud_C D G z N p s m args meth c cX12_doing 2 RX12 (none : Option Jvm.ClassFile.FieldType))  (hw : w_Model_doing_j12 a0 b_12 Qf) : ud_X D G z N p l e (ud_rm 4 0 0) s m args below meth c 2 0 0 (ud_Q D G z N (po_v Qf) below args s) b_12 12 [(0, .ref (z + 71))] [] := by
  unfold w_Model_doing_j12 at hw
  refine ux_aload_n C 0 rfl rfl dX12_doing_12 ?_
  refine gf_12_129 C dX12_doing_13 ?_
  refine ux_if_eq C (tgt := 20) (by decide) dX12_doing_16 (fun hc_32 => ?_) (fun hc_32 => ?_)
  · replace hw := hw.1 hc_32
    refine ux_aload_n C 0 rfl rfl dX12_doing_20 ?_
    refine cs_12_139 C  (c_Model_next hN  hw) (by decide) (by decide) (Nat.le_of_ble_eq_true rfl) dX12_doing_21 (po_v.k fun a_2 hw => ?_)
    refine ux_aload_n C 0 rfl rfl dX12_doing_24 ?_
    refine ux_iconst C (v := 1) (by decide) dX12_doing_25 ?_
    refine pf_12_196 C (Or.inr rfl) dX12_doing_26 ?_
    refine ux_iconst C (v := 1) (by decide) dX12_doing_29 ?_
    refine ux_istore_n C rfl (by decide) rfl dX12_doing_30 ?_
    refine ux_pick [1, 0] rfl ?_
    refine LW2.elim (P := fun (x1_5 : Int32) (a_6 : ud_St) => ud_X D G z N p l e (ud_rm 4 0 0) s m args below meth c 2 0 0 (ud_Q D G z N (po_v Qf) below args s) a_6 31 [(0, .ref (z + 71)), (1, .int x1_5)] []) hw ?_
    intro x1_5 a_6 K_3 hw ih_4
    refine ux_aload_n C 0 rfl rfl dX12_doing_31 ?_
    refine cs_12_200 C  (c_Model_isGood hN  hw) (by decide) (by decide) (Nat.le_of_ble_eq_true rfl) dX12_doing_32 (po_ip.k fun r_7 hw => ?_)
    refine ux_if_eq C (tgt := 125) (by decide) dX12_doing_35 (fun hc_31 => ?_) (fun hc_31 => ?_)
    · replace hw := hw.1 hc_31
      exact ux_vret C ⟨rfl, hw⟩ dX12_doing_125
    · replace hw := hw.2 hc_31
      refine ux_iload_n C 1 rfl rfl dX12_doing_38 ?_
      refine ux_if_eq C (tgt := 125) (by decide) dX12_doing_39 (fun hc_30 => ?_) (fun hc_30 => ?_)
      · replace hw := hw.1 hc_30
        exact ux_vret C ⟨rfl, hw⟩ dX12_doing_125
      · replace hw := hw.2 hc_30
        refine ux_aload_n C 0 rfl rfl dX12_doing_42 ?_
        refine ux_iconst C (v := 3) (by decide) dX12_doing_43 ?_
        refine cs_12_193 C  (c_Model_many hN  hw) (by decide) (by decide) (Nat.le_of_ble_eq_true rfl) dX12_doing_44 (po_ip.k fun r_9 hw => ?_)
        refine ux_bipush C (v := 12) (by decide) dX12_doing_47 ?_
        refine ux_icmp_ne C (tgt := 65) (by decide) dX12_doing_49 (fun hc_29 => ?_) (fun hc_29 => ?_)
        · replace hw := hw.2 hc_29
          exact ux_pick [0] rfl (c_Model_doing_j65 hN  C ih_4 hw)
        · replace hw := hw.1 hc_29
          refine ux_aload_n C 0 rfl rfl dX12_doing_52 ?_
          refine cs_12_189 C  (c_Model_sortHere hN  hw) (by decide) (by decide) (Nat.le_of_ble_eq_true rfl) dX12_doing_53 (po_ip.k fun r_24 hw => ?_)
          refine ux_iconst C (v := -1) (by decide) dX12_doing_56 ?_
          refine ux_icmp_eq C (tgt := 65) (by decide) dX12_doing_57 (fun hc_28 => ?_) (fun hc_28 => ?_)
          · replace hw := hw.1 hc_28
            exact ux_pick [0] rfl (c_Model_doing_j65 hN  C ih_4 hw)
          · replace hw := hw.2 hc_28
            refine ux_aload_n C 0 rfl rfl dX12_doing_60 ?_
            refine ux_iconst C (v := 3) (by decide) dX12_doing_61 ?_
            refine cs_12_145 C  (c_Model_fails hN  hw) (by decide) (by decide) (Nat.le_of_ble_eq_true rfl) dX12_doing_62 (po_v.k fun a_27 hw => ?_)
            exact ux_pick [0] rfl (c_Model_doing_j65 hN  C ih_4 hw)
  · replace hw := hw.2 hc_32
    exact ux_vret C ⟨rfl, hw⟩ dX12_doing_19
set_option maxHeartbeats 2000000 in
set_option maxRecDepth 4000 in
theorem c_Model_doing {l : Launch} {D : va_G} {G : Nat → Nat} {z N : Nat} (hN : 92 ≤ N) {a0 : ud_St}   {Qf : ud_St → Prop} (hw : w_Model_doing a0  Qf) : ud_M l D G z N yX12_doing cX12_doing 2 (none : Option Jvm.ClassFile.FieldType) 4 [.ref (z + 71)] a0 (po_v Qf) := by
  unfold w_Model_doing at hw
  refine ud_M_of hN (by decide) (Nat.le_of_ble_eq_true rfl) ?_
  intro p e s m args below meth c C
  have C : ud_C D G z N p s m args meth c cX12_doing 2 RX12 (none : Option Jvm.ClassFile.FieldType) := C
  show ud_X D G z N p l e (ud_rm 4 0 0) s m args below meth c 2 0 0 (ud_Q D G z N (po_v Qf) below args s) a0 0 [(0, .ref (z + 71))] []
  refine ux_aload_n C 0 rfl rfl dX12_doing_0 ?_
  refine gf_12_196 C dX12_doing_1 ?_
  refine ux_if_eq C (tgt := 12) (by decide) dX12_doing_4 (fun hc_35 => ?_) (fun hc_35 => ?_)
  · replace hw := hw.1 hc_35
    exact ux_pick [0] rfl (c_Model_doing_j12 hN  C  hw)
  · replace hw := hw.2 hc_35
    refine ux_aload_n C 0 rfl rfl dX12_doing_7 ?_
    refine ux_iconst C (v := 2) (by decide) dX12_doing_8 ?_
    refine cs_12_145 C  (c_Model_fails hN  hw) (by decide) (by decide) (Nat.le_of_ble_eq_true rfl) dX12_doing_9 (po_v.k fun a_34 hw => ?_)
    exact ux_pick [0] rfl (c_Model_doing_j12 hN  C  hw)
set_option maxHeartbeats 2000000 in
set_option maxRecDepth 4000 in
theorem c_Model_through0 {l : Launch} {D : va_G} {G : Nat → Nat} {z N : Nat} (hN : 92 ≤ N) {a0 : ud_St} {x1 : Int32} {x2 : Int32}  {Qf : Int32 → ud_St → Prop} (hw : w_Model_through0 a0 x1 x2 Qf) : ud_M l D G z N yX12_through0 cX12_through0 5 (some Jvm.ClassFile.FieldType.int) 4 [.ref (z + 71), .int x1, .int x2] a0 (po_i Qf) := by
  unfold w_Model_through0 at hw
  refine ud_M_of hN (by decide) (Nat.le_of_ble_eq_true rfl) ?_
  intro p e s m args below meth c C
  have C : ud_C D G z N p s m args meth c cX12_through0 5 RX12 (some Jvm.ClassFile.FieldType.int) := C
  show ud_X D G z N p l e (ud_rm 4 0 0) s m args below meth c 5 0 0 (ud_Q D G z N (po_i Qf) below args s) a0 0 [(0, .ref (z + 71)), (1, .int x1), (2, .int x2)] []
  refine ux_aload_n C 0 rfl rfl dX12_through0_0 ?_
  refine ux_iload_n C 1 rfl rfl dX12_through0_1 ?_
  refine pf_12_274 C dX12_through0_2 ?_
  refine ux_iload_n C 1 rfl rfl dX12_through0_5 ?_
  refine ux_istore_n C rfl (by decide) rfl dX12_through0_6 ?_
  refine ux_iconst C (v := 0) (by decide) dX12_through0_7 ?_
  refine ux_istore C (by decide) rfl dX12_through0_8 ?_
  refine ux_pick [2, 4, 1, 0] rfl ?_
  refine LW3.elim (P := fun (x3_3 : Int32) (x4_4 : Int32) (a_5 : ud_St) => ud_X D G z N p l e (ud_rm 4 0 0) s m args below meth c 5 0 0 (ud_Q D G z N (po_i Qf) below args s) a_5 10 [(0, .ref (z + 71)), (2, .int x2), (3, .int x3_3), (4, .int x4_4)] []) hw ?_
  intro x3_3 x4_4 a_5 K_1 hw ih_2
  refine ux_iload C 3 rfl dX12_through0_10 ?_
  refine ux_iload_n C 1 rfl rfl dX12_through0_12 ?_
  refine ux_icmp_ge C (tgt := 48) (by decide) dX12_through0_13 (fun hc_10 => ?_) (fun hc_10 => ?_)
  · replace hw := hw.1 hc_10
    refine ux_iload_n C 2 rfl rfl dX12_through0_48 ?_
    exact ux_iret C ⟨_, rfl, hw⟩ dX12_through0_49
  · replace hw := hw.2 hc_10
    refine ux_aload_n C 0 rfl rfl dX12_through0_16 ?_
    refine ux_iload_n C 2 rfl rfl dX12_through0_17 ?_
    refine ux_aload_n C 0 rfl rfl dX12_through0_18 ?_
    refine gf_12_37 C dX12_through0_19 ?_
    refine ux_iconst C (v := 2) (by decide) dX12_through0_22 ?_
    refine ux_iload C 3 rfl dX12_through0_23 ?_
    refine ux_imul C dX12_through0_25 ?_
    obtain ⟨hi_9, hw⟩ := hw
    refine ux_iald C (uc_79 C.2.2.2.2.2) hi_9 dX12_through0_26 ?_
    refine ux_aload_n C 0 rfl rfl dX12_through0_27 ?_
    refine gf_12_37 C dX12_through0_28 ?_
    refine ux_iconst C (v := 2) (by decide) dX12_through0_31 ?_
    refine ux_iload C 3 rfl dX12_through0_32 ?_
    refine ux_imul C dX12_through0_34 ?_
    refine ux_iconst C (v := 1) (by decide) dX12_through0_35 ?_
    refine ux_iadd C dX12_through0_36 ?_
    obtain ⟨hi_8, hw⟩ := hw
    refine ux_iald C (uc_79 C.2.2.2.2.2) hi_8 dX12_through0_37 ?_
    refine cs_12_285 C  (c_Model_does hN  hw) (by decide) (by decide) (Nat.le_of_ble_eq_true rfl) dX12_through0_38 (po_i.k fun r_6 a_7 hw => ?_)
    refine ux_istore_n C rfl (by decide) rfl dX12_through0_41 ?_
    refine ux_iinc C 3 rfl rfl (by decide) rfl dX12_through0_42 ?_
    refine ux_goto C (tgt := 10) (by decide) dX12_through0_45 ?_
    exact ux_pick [2, 3, 1, 0] rfl (ih_2 _ _ _ hw)
set_option maxHeartbeats 2000000 in
set_option maxRecDepth 4000 in
theorem c_Model_slipped {l : Launch} {D : va_G} {G : Nat → Nat} {z N : Nat} (hN : 92 ≤ N) {a0 : ud_St} {x1 : Int32} {x2 : Int32} {x3 : Int32}  {Qf : Int32 → ud_St → Prop} (hw : w_Model_slipped a0 x1 x2 x3 Qf) : ud_M l D G z N yX12_slipped cX12_slipped 6 (some Jvm.ClassFile.FieldType.int) 4 [.ref (z + 71), .int x1, .int x2, .int x3] a0 (po_i Qf) := by
  unfold w_Model_slipped at hw
  refine ud_M_of hN (by decide) (Nat.le_of_ble_eq_true rfl) ?_
  intro p e s m args below meth c C
  have C : ud_C D G z N p s m args meth c cX12_slipped 6 RX12 (some Jvm.ClassFile.FieldType.int) := C
  show ud_X D G z N p l e (ud_rm 4 0 0) s m args below meth c 6 0 0 (ud_Q D G z N (po_i Qf) below args s) a0 0 [(0, .ref (z + 71)), (1, .int x1), (2, .int x2), (3, .int x3)] []
  refine ux_aload_n C 0 rfl rfl dX12_slipped_0 ?_
  refine gf_12_37 C dX12_slipped_1 ?_
  refine ux_iconst C (v := 2) (by decide) dX12_slipped_4 ?_
  refine ux_iload_n C 2 rfl rfl dX12_slipped_5 ?_
  refine ux_imul C dX12_slipped_6 ?_
  obtain ⟨hi_22, hw⟩ := hw
  refine ux_iald C (uc_79 C.2.2.2.2.2) hi_22 dX12_slipped_7 ?_
  refine ux_aload_n C 0 rfl rfl dX12_slipped_8 ?_
  refine gf_12_40 C dX12_slipped_9 ?_
  refine ux_iconst C (v := 4) (by decide) dX12_slipped_12 ?_
  refine ux_iload_n C 3 rfl rfl dX12_slipped_13 ?_
  refine ux_imul C dX12_slipped_14 ?_
  refine ux_iconst C (v := 2) (by decide) dX12_slipped_15 ?_
  refine ux_iadd C dX12_slipped_16 ?_
  obtain ⟨hi_21, hw⟩ := hw
  refine ux_iald C (uc_80 C.2.2.2.2.2) hi_21 dX12_slipped_17 ?_
  refine ux_icmp_ne C (tgt := 44) (by decide) dX12_slipped_18 (fun hc_20 => ?_) (fun hc_20 => ?_)
  · replace hw := hw.2 hc_20
    refine ux_iconst C (v := -1) (by decide) dX12_slipped_44 ?_
    exact ux_iret C ⟨_, rfl, hw⟩ dX12_slipped_45
  · replace hw := hw.1 hc_20
    refine ux_aload_n C 0 rfl rfl dX12_slipped_21 ?_
    refine gf_12_37 C dX12_slipped_22 ?_
    refine ux_iconst C (v := 2) (by decide) dX12_slipped_25 ?_
    refine ux_iload_n C 2 rfl rfl dX12_slipped_26 ?_
    refine ux_imul C dX12_slipped_27 ?_
    refine ux_iconst C (v := 1) (by decide) dX12_slipped_28 ?_
    refine ux_iadd C dX12_slipped_29 ?_
    obtain ⟨hi_19, hw⟩ := hw
    refine ux_iald C (uc_79 C.2.2.2.2.2) hi_19 dX12_slipped_30 ?_
    refine ux_aload_n C 0 rfl rfl dX12_slipped_31 ?_
    refine gf_12_40 C dX12_slipped_32 ?_
    refine ux_iconst C (v := 4) (by decide) dX12_slipped_35 ?_
    refine ux_iload_n C 3 rfl rfl dX12_slipped_36 ?_
    refine ux_imul C dX12_slipped_37 ?_
    refine ux_iconst C (v := 3) (by decide) dX12_slipped_38 ?_
    refine ux_iadd C dX12_slipped_39 ?_
    obtain ⟨hi_18, hw⟩ := hw
    refine ux_iald C (uc_80 C.2.2.2.2.2) hi_18 dX12_slipped_40 ?_
    refine ux_icmp_eq C (tgt := 46) (by decide) dX12_slipped_41 (fun hc_17 => ?_) (fun hc_17 => ?_)
    · replace hw := hw.1 hc_17
      refine ux_aload_n C 0 rfl rfl dX12_slipped_46 ?_
      refine ux_iload_n C 1 rfl rfl dX12_slipped_47 ?_
      refine pf_12_274 C dX12_slipped_48 ?_
      refine ux_iload_n C 1 rfl rfl dX12_slipped_51 ?_
      refine ux_istore C (by decide) rfl dX12_slipped_52 ?_
      refine ux_iconst C (v := 0) (by decide) dX12_slipped_54 ?_
      refine ux_istore C (by decide) rfl dX12_slipped_55 ?_
      refine ux_pick [2, 4, 5, 1, 0] rfl ?_
      refine LW3.elim (P := fun (x4_3 : Int32) (x5_4 : Int32) (a_5 : ud_St) => ud_X D G z N p l e (ud_rm 4 0 0) s m args below meth c 6 0 0 (ud_Q D G z N (po_i Qf) below args s) a_5 57 [(0, .ref (z + 71)), (2, .int x2), (3, .int x3), (4, .int x4_3), (5, .int x5_4)] []) hw ?_
      intro x4_3 x5_4 a_5 K_1 hw ih_2
      refine ux_iload C 4 rfl dX12_slipped_57 ?_
      refine ux_aload_n C 0 rfl rfl dX12_slipped_59 ?_
      refine gf_12_34 C dX12_slipped_60 ?_
      refine ux_iconst C (v := 3) (by decide) dX12_slipped_63 ?_
      obtain ⟨hi_16, hw⟩ := hw
      refine ux_iald C (uc_78 C.2.2.2.2.2) hi_16 dX12_slipped_64 ?_
      refine ux_icmp_ge C (tgt := 135) (by decide) dX12_slipped_65 (fun hc_15 => ?_) (fun hc_15 => ?_)
      · replace hw := hw.1 hc_15
        refine ux_iload C 3 rfl dX12_slipped_135 ?_
        exact ux_iret C ⟨_, rfl, hw⟩ dX12_slipped_137
      · replace hw := hw.2 hc_15
        refine ux_iload C 4 rfl dX12_slipped_68 ?_
        refine ux_iload_n C 1 rfl rfl dX12_slipped_70 ?_
        refine ux_icmp_ne C (tgt := 101) (by decide) dX12_slipped_71 (fun hc_14 => ?_) (fun hc_14 => ?_)
        · replace hw := hw.2 hc_14
          refine ux_aload_n C 0 rfl rfl dX12_slipped_101 ?_
          refine ux_iload C 3 rfl dX12_slipped_102 ?_
          refine ux_aload_n C 0 rfl rfl dX12_slipped_104 ?_
          refine gf_12_37 C dX12_slipped_105 ?_
          refine ux_iconst C (v := 2) (by decide) dX12_slipped_108 ?_
          refine ux_iload C 4 rfl dX12_slipped_109 ?_
          refine ux_imul C dX12_slipped_111 ?_
          obtain ⟨hi_9, hw⟩ := hw
          refine ux_iald C (uc_79 C.2.2.2.2.2) hi_9 dX12_slipped_112 ?_
          refine ux_aload_n C 0 rfl rfl dX12_slipped_113 ?_
          refine gf_12_37 C dX12_slipped_114 ?_
          refine ux_iconst C (v := 2) (by decide) dX12_slipped_117 ?_
          refine ux_iload C 4 rfl dX12_slipped_118 ?_
          refine ux_imul C dX12_slipped_120 ?_
          refine ux_iconst C (v := 1) (by decide) dX12_slipped_121 ?_
          refine ux_iadd C dX12_slipped_122 ?_
          obtain ⟨hi_8, hw⟩ := hw
          refine ux_iald C (uc_79 C.2.2.2.2.2) hi_8 dX12_slipped_123 ?_
          refine cs_12_285 C  (c_Model_does hN  hw) (by decide) (by decide) (Nat.le_of_ble_eq_true rfl) dX12_slipped_124 (po_i.k fun r_6 a_7 hw => ?_)
          refine ux_istore C (by decide) rfl dX12_slipped_127 ?_
          refine ux_iinc C 4 rfl rfl (by decide) rfl dX12_slipped_129 ?_
          refine ux_goto C (tgt := 57) (by decide) dX12_slipped_132 ?_
          exact ux_pick [2, 3, 4, 1, 0] rfl (ih_2 _ _ _ hw)
        · replace hw := hw.1 hc_14
          refine ux_aload_n C 0 rfl rfl dX12_slipped_74 ?_
          refine ux_iload C 3 rfl dX12_slipped_75 ?_
          refine ux_aload_n C 0 rfl rfl dX12_slipped_77 ?_
          refine gf_12_40 C dX12_slipped_78 ?_
          refine ux_iconst C (v := 4) (by decide) dX12_slipped_81 ?_
          refine ux_iload_n C 2 rfl rfl dX12_slipped_82 ?_
          refine ux_imul C dX12_slipped_83 ?_
          obtain ⟨hi_13, hw⟩ := hw
          refine ux_iald C (uc_80 C.2.2.2.2.2) hi_13 dX12_slipped_84 ?_
          refine ux_aload_n C 0 rfl rfl dX12_slipped_85 ?_
          refine gf_12_40 C dX12_slipped_86 ?_
          refine ux_iconst C (v := 4) (by decide) dX12_slipped_89 ?_
          refine ux_iload_n C 2 rfl rfl dX12_slipped_90 ?_
          refine ux_imul C dX12_slipped_91 ?_
          refine ux_iconst C (v := 1) (by decide) dX12_slipped_92 ?_
          refine ux_iadd C dX12_slipped_93 ?_
          obtain ⟨hi_12, hw⟩ := hw
          refine ux_iald C (uc_80 C.2.2.2.2.2) hi_12 dX12_slipped_94 ?_
          refine cs_12_285 C  (c_Model_does hN  hw) (by decide) (by decide) (Nat.le_of_ble_eq_true rfl) dX12_slipped_95 (po_i.k fun r_10 a_11 hw => ?_)
          refine ux_goto C (tgt := 127) (by decide) dX12_slipped_98 ?_
          refine ux_istore C (by decide) rfl dX12_slipped_127 ?_
          refine ux_iinc C 4 rfl rfl (by decide) rfl dX12_slipped_129 ?_
          refine ux_goto C (tgt := 57) (by decide) dX12_slipped_132 ?_
          exact ux_pick [2, 3, 4, 1, 0] rfl (ih_2 _ _ _ hw)
    · replace hw := hw.2 hc_17
      refine ux_iconst C (v := -1) (by decide) dX12_slipped_44 ?_
      exact ux_iret C ⟨_, rfl, hw⟩ dX12_slipped_45
set_option maxHeartbeats 2000000 in
set_option maxRecDepth 4000 in
theorem c_Model_rowed_j39 {D : va_G} {G : Nat → Nat} {z N : Nat} {p : Program} {l : Launch} {e : Env} {s : State} {m : MethodId} {args : Array Value} {below : List Frame} {meth : Method} {c : Code} (hN : 92 ≤ N) {a0 : ud_St} {x1 : Int32} {x2 : Int32} {x3 : Int32} {b_39 : ud_St} {y2_39 : Int32} {y4_39 : Int32} {y5_39 : Int32} {y6_39 : Int32} {y7_39 : Int32}  {Qf : Int32 → ud_St → Prop} (C : ud_C D G z N p s m args meth c cX12_rowed 8 RX12 (some Jvm.ClassFile.FieldType.int))  (hw : w_Model_rowed_j39 a0 x1 x2 x3 b_39 y2_39 y4_39 y5_39 y6_39 y7_39 Qf) : ud_X D G z N p l e (ud_rm 4 0 0) s m args below meth c 8 0 0 (ud_Q D G z N (po_i Qf) below args s) b_39 39 [(0, .ref (z + 71)), (2, .int y2_39), (4, .int y4_39), (5, .int y5_39), (6, .int y6_39), (7, .int y7_39)] [] := by
  unfold w_Model_rowed_j39 at hw
  refine ux_pick [0, 1, 2, 3, 4, 5] rfl ?_
  refine LW5.elim (P := fun (x4_7 : Int32) (x5_8 : Int32) (x6_9 : Int32) (x7_10 : Int32) (a_11 : ud_St) => ud_X D G z N p l e (ud_rm 4 0 0) s m args below meth c 8 0 0 (ud_Q D G z N (po_i Qf) below args s) a_11 39 [(0, .ref (z + 71)), (2, .int y2_39), (4, .int x4_7), (5, .int x5_8), (6, .int x6_9), (7, .int x7_10)] []) hw ?_
  intro x4_7 x5_8 x6_9 x7_10 a_11 K_5 hw ih_6
  refine ux_iload C 5 rfl dX12_rowed_39 ?_
  refine ux_iload_n C 1 rfl rfl dX12_rowed_41 ?_
  refine ux_icmp_ge C (tgt := 79) (by decide) dX12_rowed_42 (fun hc_16 => ?_) (fun hc_16 => ?_)
  · replace hw := hw.1 hc_16
    refine ux_iload C 2 rfl dX12_rowed_79 ?_
    exact ux_iret C ⟨_, rfl, hw⟩ dX12_rowed_81
  · replace hw := hw.2 hc_16
    refine ux_aload_n C 0 rfl rfl dX12_rowed_45 ?_
    refine ux_iload C 2 rfl dX12_rowed_46 ?_
    refine ux_iload C 4 rfl dX12_rowed_48 ?_
    refine ux_iload C 3 rfl dX12_rowed_50 ?_
    obtain ⟨hc_15, hw⟩ := hw
    refine ux_idiv C hc_15 dX12_rowed_52 ?_
    refine ux_iconst C (v := -1) (by decide) dX12_rowed_53 ?_
    refine cs_12_285 C  (c_Model_does hN  hw) (by decide) (by decide) (Nat.le_of_ble_eq_true rfl) dX12_rowed_54 (po_i.k fun r_12 a_13 hw => ?_)
    refine ux_istore C (by decide) rfl dX12_rowed_57 ?_
    refine ux_iload C 4 rfl dX12_rowed_59 ?_
    refine ux_iload C 3 rfl dX12_rowed_61 ?_
    obtain ⟨hc_14, hw⟩ := hw
    refine ux_irem C hc_14 dX12_rowed_63 ?_
    refine ux_istore C (by decide) rfl dX12_rowed_64 ?_
    refine ux_iload C 4 rfl dX12_rowed_66 ?_
    refine ux_bipush C (v := 12) (by decide) dX12_rowed_68 ?_
    refine ux_idiv C (by decide) dX12_rowed_70 ?_
    refine ux_istore C (by decide) rfl dX12_rowed_71 ?_
    refine ux_iinc C 5 rfl rfl (by decide) rfl dX12_rowed_73 ?_
    refine ux_goto C (tgt := 39) (by decide) dX12_rowed_76 ?_
    exact ux_pick [4, 5, 3, 1, 2, 0] rfl (ih_6 _ _ _ _ _ hw)
set_option maxHeartbeats 2000000 in
set_option maxRecDepth 4000 in
theorem c_Model_rowed_j14 {D : va_G} {G : Nat → Nat} {z N : Nat} {p : Program} {l : Launch} {e : Env} {s : State} {m : MethodId} {args : Array Value} {below : List Frame} {meth : Method} {c : Code} (hN : 92 ≤ N) {a0 : ud_St} {x1 : Int32} {x2 : Int32} {x3 : Int32} {b_14 : ud_St} {y2_14 : Int32} {y3_14 : Int32} {y4_14 : Int32} {y5_14 : Int32} {y6_14 : Int32}  {Qf : Int32 → ud_St → Prop} (C : ud_C D G z N p s m args meth c cX12_rowed 8 RX12 (some Jvm.ClassFile.FieldType.int))  (hw : w_Model_rowed_j14 a0 x1 x2 x3 b_14 y2_14 y3_14 y4_14 y5_14 y6_14 Qf) : ud_X D G z N p l e (ud_rm 4 0 0) s m args below meth c 8 0 0 (ud_Q D G z N (po_i Qf) below args s) b_14 14 [(0, .ref (z + 71)), (2, .int y2_14), (3, .int y3_14), (4, .int y4_14), (5, .int y5_14), (6, .int y6_14)] [] := by
  unfold w_Model_rowed_j14 at hw
  refine ux_pick [0, 1, 2, 3, 4, 5] rfl ?_
  refine LW2.elim (P := fun (x5_3 : Int32) (x6_4 : Int32) => ud_X D G z N p l e (ud_rm 4 0 0) s m args below meth c 8 0 0 (ud_Q D G z N (po_i Qf) below args s) b_14 14 [(0, .ref (z + 71)), (2, .int y2_14), (3, .int y3_14), (4, .int y4_14), (5, .int x5_3), (6, .int x6_4)] []) hw ?_
  intro x5_3 x6_4 K_1 hw ih_2
  refine ux_iload C 5 rfl dX12_rowed_14 ?_
  refine ux_iload_n C 1 rfl rfl dX12_rowed_16 ?_
  refine ux_icmp_ge C (tgt := 33) (by decide) dX12_rowed_17 (fun hc_17 => ?_) (fun hc_17 => ?_)
  · replace hw := hw.1 hc_17
    refine ux_iload_n C 2 rfl rfl dX12_rowed_33 ?_
    refine ux_istore C (by decide) rfl dX12_rowed_34 ?_
    refine ux_iconst C (v := 0) (by decide) dX12_rowed_36 ?_
    refine ux_istore C (by decide) rfl dX12_rowed_37 ?_
    exact ux_pick [2, 3, 5, 6, 1, 0] rfl (c_Model_rowed_j39 hN  C  hw)
  · replace hw := hw.2 hc_17
    refine ux_iload C 4 rfl dX12_rowed_20 ?_
    refine ux_bipush C (v := 12) (by decide) dX12_rowed_22 ?_
    refine ux_imul C dX12_rowed_24 ?_
    refine ux_istore C (by decide) rfl dX12_rowed_25 ?_
    refine ux_iinc C 5 rfl rfl (by decide) rfl dX12_rowed_27 ?_
    refine ux_goto C (tgt := 14) (by decide) dX12_rowed_30 ?_
    exact ux_pick [2, 3, 4, 5, 1, 0] rfl (ih_2 _ _ hw)
set_option maxHeartbeats 2000000 in
set_option maxRecDepth 4000 in
theorem c_Model_rowed {l : Launch} {D : va_G} {G : Nat → Nat} {z N : Nat} (hN : 92 ≤ N) {a0 : ud_St} {x1 : Int32} {x2 : Int32} {x3 : Int32}  {Qf : Int32 → ud_St → Prop} (hw : w_Model_rowed a0 x1 x2 x3 Qf) : ud_M l D G z N yX12_rowed cX12_rowed 8 (some Jvm.ClassFile.FieldType.int) 4 [.ref (z + 71), .int x1, .int x2, .int x3] a0 (po_i Qf) := by
  unfold w_Model_rowed at hw
  refine ud_M_of hN (by decide) (Nat.le_of_ble_eq_true rfl) ?_
  intro p e s m args below meth c C
  have C : ud_C D G z N p s m args meth c cX12_rowed 8 RX12 (some Jvm.ClassFile.FieldType.int) := C
  show ud_X D G z N p l e (ud_rm 4 0 0) s m args below meth c 8 0 0 (ud_Q D G z N (po_i Qf) below args s) a0 0 [(0, .ref (z + 71)), (1, .int x1), (2, .int x2), (3, .int x3)] []
  refine ux_aload_n C 0 rfl rfl dX12_rowed_0 ?_
  refine ux_iload_n C 1 rfl rfl dX12_rowed_1 ?_
  refine pf_12_274 C dX12_rowed_2 ?_
  refine ux_iload_n C 1 rfl rfl dX12_rowed_5 ?_
  refine ux_istore C (by decide) rfl dX12_rowed_6 ?_
  refine ux_iconst C (v := 1) (by decide) dX12_rowed_8 ?_
  refine ux_istore C (by decide) rfl dX12_rowed_9 ?_
  refine ux_iconst C (v := 1) (by decide) dX12_rowed_11 ?_
  refine ux_istore C (by decide) rfl dX12_rowed_12 ?_
  exact ux_pick [3, 5, 6, 2, 1, 0] rfl (c_Model_rowed_j14 hN  C  hw)
set_option maxHeartbeats 2000000 in
set_option maxRecDepth 4000 in
theorem c_Contest_compete_j105 {D : va_G} {G : Nat → Nat} {z N : Nat} {p : Program} {l : Launch} {e : Env} {s : State} {m : MethodId} {args : Array Value} {below : List Frame} {meth : Method} {c : Code} (hN : 92 ≤ N) {a0 : ud_St} {x3 : Int32} {b_105 : ud_St} {y3_105 : Int32} {y4_105 : Int32} {y5_105 : Int32} {u0_105 : Int32} {K_5 : Int32 → ud_St → Prop}  {Qf : ud_St → Prop} (C : ud_C D G z N p s m args meth c cX1_compete 7 RX1 (none : Option Jvm.ClassFile.FieldType)) (ih_6 : ∀ (v0 : Int32) (v1 : ud_St), K_5 v0 v1 → ud_X D G z N p l e (ud_rm 5 0 0) s m args below meth c 7 0 0 (ud_Q D G z N (po_v Qf) below args s) v1 43 [(0, .ref (z + 48)), (1, .ref (z + 26)), (2, .ref (z + 36)), (3, .int y3_105), (4, .int y4_105), (5, .int v0)] []) (hw : w_Contest_compete_j105 a0 x3 b_105 y3_105 y4_105 y5_105 u0_105 K_5 Qf) : ud_X D G z N p l e (ud_rm 5 0 0) s m args below meth c 7 0 0 (ud_Q D G z N (po_v Qf) below args s) b_105 105 [(0, .ref (z + 48)), (1, .ref (z + 26)), (2, .ref (z + 36)), (3, .int y3_105), (4, .int y4_105), (5, .int y5_105)] [.int u0_105] := by
  unfold w_Contest_compete_j105 at hw
  refine ux_istore C (by decide) rfl dX1_compete_105 ?_
  refine ux_aload_n C 1 rfl rfl dX1_compete_107 ?_
  refine ux_iconst C (v := 3) (by decide) dX1_compete_108 ?_
  refine ux_iload_n C 4 rfl rfl dX1_compete_109 ?_
  refine ux_iconst C (v := 1) (by decide) dX1_compete_110 ?_
  refine ux_isub C dX1_compete_111 ?_
  refine ux_imul C dX1_compete_112 ?_
  refine ux_iconst C (v := 0) (by decide) dX1_compete_113 ?_
  refine ux_aload_n C 3 rfl rfl dX1_compete_114 ?_
  refine gf_1_68 C dX1_compete_115 ?_
  refine ux_iload C 0 rfl dX1_compete_118 ?_
  refine cs_1_71 C  (c_Contest_enter hN  hw) (by decide) (by decide) (Nat.le_of_ble_eq_true rfl) dX1_compete_120 (po_v.k fun a_18 hw => ?_)
  refine ux_aload_n C 1 rfl rfl dX1_compete_123 ?_
  refine ux_iconst C (v := 3) (by decide) dX1_compete_124 ?_
  refine ux_iload_n C 4 rfl rfl dX1_compete_125 ?_
  refine ux_iconst C (v := 1) (by decide) dX1_compete_126 ?_
  refine ux_isub C dX1_compete_127 ?_
  refine ux_imul C dX1_compete_128 ?_
  refine ux_iconst C (v := 1) (by decide) dX1_compete_129 ?_
  refine ux_aload_n C 3 rfl rfl dX1_compete_130 ?_
  refine gf_1_75 C dX1_compete_131 ?_
  refine ux_iload C 0 rfl dX1_compete_134 ?_
  refine cs_1_71 C  (c_Contest_enter hN  hw) (by decide) (by decide) (Nat.le_of_ble_eq_true rfl) dX1_compete_136 (po_v.k fun a_20 hw => ?_)
  refine ux_aload_n C 1 rfl rfl dX1_compete_139 ?_
  refine ux_iconst C (v := 3) (by decide) dX1_compete_140 ?_
  refine ux_iload_n C 4 rfl rfl dX1_compete_141 ?_
  refine ux_iconst C (v := 1) (by decide) dX1_compete_142 ?_
  refine ux_isub C dX1_compete_143 ?_
  refine ux_imul C dX1_compete_144 ?_
  refine ux_iconst C (v := 2) (by decide) dX1_compete_145 ?_
  refine ux_aload_n C 3 rfl rfl dX1_compete_146 ?_
  refine gf_1_78 C dX1_compete_147 ?_
  refine ux_iload C 0 rfl dX1_compete_150 ?_
  refine cs_1_71 C  (c_Contest_enter hN  hw) (by decide) (by decide) (Nat.le_of_ble_eq_true rfl) dX1_compete_152 (po_v.k fun a_22 hw => ?_)
  refine ux_iinc C 6 rfl rfl (by decide) rfl dX1_compete_155 ?_
  refine ux_goto C (tgt := 43) (by decide) dX1_compete_158 ?_
  exact ux_pick [2, 3, 4, 5, 6, 0] rfl (ih_6 _ _ hw)
set_option maxHeartbeats 2000000 in
set_option maxRecDepth 4000 in
theorem c_Contest_compete_j43 {D : va_G} {G : Nat → Nat} {z N : Nat} {p : Program} {l : Launch} {e : Env} {s : State} {m : MethodId} {args : Array Value} {below : List Frame} {meth : Method} {c : Code} (hN : 92 ≤ N) {a0 : ud_St} {x3 : Int32} {b_43 : ud_St} {y3_43 : Int32} {y4_43 : Int32} {y5_43 : Int32}  {Qf : ud_St → Prop} (C : ud_C D G z N p s m args meth c cX1_compete 7 RX1 (none : Option Jvm.ClassFile.FieldType))  (hw : w_Contest_compete_j43 a0 x3 b_43 y3_43 y4_43 y5_43 Qf) : ud_X D G z N p l e (ud_rm 5 0 0) s m args below meth c 7 0 0 (ud_Q D G z N (po_v Qf) below args s) b_43 43 [(0, .ref (z + 48)), (1, .ref (z + 26)), (2, .ref (z + 36)), (3, .int y3_43), (4, .int y4_43), (5, .int y5_43)] [] := by
  unfold w_Contest_compete_j43 at hw
  refine ux_pick [0, 1, 2, 3, 4, 5] rfl ?_
  refine LW2.elim (P := fun (x5_7 : Int32) (a_8 : ud_St) => ud_X D G z N p l e (ud_rm 5 0 0) s m args below meth c 7 0 0 (ud_Q D G z N (po_v Qf) below args s) a_8 43 [(0, .ref (z + 48)), (1, .ref (z + 26)), (2, .ref (z + 36)), (3, .int y3_43), (4, .int y4_43), (5, .int x5_7)] []) hw ?_
  intro x5_7 a_8 K_5 hw ih_6
  refine ux_iload C 5 rfl dX1_compete_43 ?_
  refine ux_iload C 4 rfl dX1_compete_45 ?_
  refine ux_icmp_ge C (tgt := 161) (by decide) dX1_compete_47 (fun hc_26 => ?_) (fun hc_26 => ?_)
  · replace hw := hw.1 hc_26
    exact ux_vret C ⟨rfl, hw⟩ dX1_compete_161
  · replace hw := hw.2 hc_26
    refine ux_aload_n C 0 rfl rfl dX1_compete_50 ?_
    refine gf_1_21 C dX1_compete_51 ?_
    refine ux_iload C 5 rfl dX1_compete_54 ?_
    refine ux_iload_n C 3 rfl rfl dX1_compete_56 ?_
    refine cs_1_54 C (uc_51 C.2.2.2.2.2) (c_Words_spell hN (uc_51 C.2.2.2.2.2) hw) (by decide) (by decide) (Nat.le_of_ble_eq_true rfl) dX1_compete_57 (po_v.k fun a_10 hw => ?_)
    refine ux_aload_n C 2 rfl rfl dX1_compete_60 ?_
    refine ux_aload_n C 1 rfl rfl dX1_compete_61 ?_
    refine ux_aload_n C 0 rfl rfl dX1_compete_62 ?_
    refine gf_1_21 C dX1_compete_63 ?_
    refine cs_1_58 C  (c_Paths_lay hN (uc_51 C.2.2.2.2.2) hw) (by decide) (by decide) (Nat.le_of_ble_eq_true rfl) dX1_compete_66 (po_v.k fun a_12 hw => ?_)
    refine ux_iload_n C 3 rfl rfl dX1_compete_69 ?_
    refine ux_iconst C (v := 1) (by decide) dX1_compete_70 ?_
    refine ux_icmp_ne C (tgt := 85) (by decide) dX1_compete_71 (fun hc_25 => ?_) (fun hc_25 => ?_)
    · replace hw := hw.2 hc_25
      refine ux_bipush C (v := 100) (by decide) dX1_compete_85 ?_
      refine ux_aload_n C 0 rfl rfl dX1_compete_87 ?_
      refine gf_1_21 C dX1_compete_88 ?_
      refine ux_iconst C (v := 0) (by decide) dX1_compete_91 ?_
      refine cs_1_64 C (uc_51 C.2.2.2.2.2) (c_Words_sort hN (uc_51 C.2.2.2.2.2) hw) (by decide) (by decide) (Nat.le_of_ble_eq_true rfl) dX1_compete_92 (po_ip.k fun r_13 hw => ?_)
      refine ux_imul C dX1_compete_95 ?_
      refine ux_aload_n C 0 rfl rfl dX1_compete_96 ?_
      refine gf_1_21 C dX1_compete_97 ?_
      refine ux_iconst C (v := 1) (by decide) dX1_compete_100 ?_
      refine cs_1_64 C (uc_51 C.2.2.2.2.2) (c_Words_sort hN (uc_51 C.2.2.2.2.2) hw) (by decide) (by decide) (Nat.le_of_ble_eq_true rfl) dX1_compete_101 (po_ip.k fun r_15 hw => ?_)
      refine ux_iadd C dX1_compete_104 ?_
      exact ux_pick [0, 1, 2, 3, 4, 5] rfl (c_Contest_compete_j105 hN  C ih_6 hw)
    · replace hw := hw.1 hc_25
      refine ux_aload_n C 0 rfl rfl dX1_compete_74 ?_
      refine gf_1_21 C dX1_compete_75 ?_
      refine ux_iconst C (v := 0) (by decide) dX1_compete_78 ?_
      refine cs_1_64 C (uc_51 C.2.2.2.2.2) (c_Words_sort hN (uc_51 C.2.2.2.2.2) hw) (by decide) (by decide) (Nat.le_of_ble_eq_true rfl) dX1_compete_79 (po_ip.k fun r_23 hw => ?_)
      refine ux_goto C (tgt := 105) (by decide) dX1_compete_82 ?_
      exact ux_pick [0, 1, 2, 3, 4, 5] rfl (c_Contest_compete_j105 hN  C ih_6 hw)
set_option maxHeartbeats 2000000 in
set_option maxRecDepth 4000 in
theorem c_Contest_compete_j3 {D : va_G} {G : Nat → Nat} {z N : Nat} {p : Program} {l : Launch} {e : Env} {s : State} {m : MethodId} {args : Array Value} {below : List Frame} {meth : Method} {c : Code} (hN : 92 ≤ N) {a0 : ud_St} {x3 : Int32} {b_3 : ud_St} {y3_3 : Int32} {y4_3 : Int32}  {Qf : ud_St → Prop} (C : ud_C D G z N p s m args meth c cX1_compete 7 RX1 (none : Option Jvm.ClassFile.FieldType))  (hw : w_Contest_compete_j3 a0 x3 b_3 y3_3 y4_3 Qf) : ud_X D G z N p l e (ud_rm 5 0 0) s m args below meth c 7 0 0 (ud_Q D G z N (po_v Qf) below args s) b_3 3 [(0, .ref (z + 48)), (1, .ref (z + 26)), (2, .ref (z + 36)), (3, .int y3_3), (4, .int y4_3)] [] := by
  unfold w_Contest_compete_j3 at hw
  refine ux_pick [0, 1, 2, 3, 4] rfl ?_
  refine LW2.elim (P := fun (x4_3 : Int32) (a_4 : ud_St) => ud_X D G z N p l e (ud_rm 5 0 0) s m args below meth c 7 0 0 (ud_Q D G z N (po_v Qf) below args s) a_4 3 [(0, .ref (z + 48)), (1, .ref (z + 26)), (2, .ref (z + 36)), (3, .int y3_3), (4, .int x4_3)] []) hw ?_
  intro x4_3 a_4 K_1 hw ih_2
  refine ux_iload C 4 rfl dX1_compete_3 ?_
  refine ux_iconst C (v := 3) (by decide) dX1_compete_5 ?_
  refine ux_icmp_ge C (tgt := 25) (by decide) dX1_compete_6 (fun hc_30 => ?_) (fun hc_30 => ?_)
  · replace hw := hw.1 hc_30
    refine ux_iload_n C 3 rfl rfl dX1_compete_25 ?_
    refine ux_iconst C (v := 1) (by decide) dX1_compete_26 ?_
    refine ux_icmp_ne C (tgt := 35) (by decide) dX1_compete_27 (fun hc_27 => ?_) (fun hc_27 => ?_)
    · replace hw := hw.2 hc_27
      refine ux_sipush C (v := 144) (by decide) dX1_compete_35 ?_
      refine ux_istore C (by decide) rfl dX1_compete_38 ?_
      refine ux_iconst C (v := 0) (by decide) dX1_compete_40 ?_
      refine ux_istore C (by decide) rfl dX1_compete_41 ?_
      exact ux_pick [2, 3, 4, 5, 1, 0] rfl (c_Contest_compete_j43 hN  C  hw)
    · replace hw := hw.1 hc_27
      refine ux_bipush C (v := 12) (by decide) dX1_compete_30 ?_
      refine ux_goto C (tgt := 38) (by decide) dX1_compete_32 ?_
      refine ux_istore C (by decide) rfl dX1_compete_38 ?_
      refine ux_iconst C (v := 0) (by decide) dX1_compete_40 ?_
      refine ux_istore C (by decide) rfl dX1_compete_41 ?_
      exact ux_pick [2, 3, 4, 5, 1, 0] rfl (c_Contest_compete_j43 hN  C  hw)
  · replace hw := hw.2 hc_30
    refine ux_aload_n C 0 rfl rfl dX1_compete_9 ?_
    refine gf_1_15 C dX1_compete_10 ?_
    refine ux_iload C 4 rfl dX1_compete_13 ?_
    refine ux_iconst C (v := -1) (by decide) dX1_compete_15 ?_
    refine cs_1_50 C  (c_Cells_put hN (uc_50 C.2.2.2.2.2) hw) (by decide) (by decide) (Nat.le_of_ble_eq_true rfl) dX1_compete_16 (po_v.k fun a_29 hw => ?_)
    refine ux_iinc C 4 rfl rfl (by decide) rfl dX1_compete_19 ?_
    refine ux_goto C (tgt := 3) (by decide) dX1_compete_22 ?_
    exact ux_pick [1, 2, 3, 4, 0] rfl (ih_2 _ _ hw)
set_option maxHeartbeats 2000000 in
set_option maxRecDepth 4000 in
theorem c_Contest_compete {l : Launch} {D : va_G} {G : Nat → Nat} {z N : Nat} (hN : 92 ≤ N) {a0 : ud_St} {x3 : Int32}  {Qf : ud_St → Prop} (hw : w_Contest_compete a0 x3 Qf) : ud_M l D G z N yX1_compete cX1_compete 7 (none : Option Jvm.ClassFile.FieldType) 5 [.ref (z + 48), .ref (z + 26), .ref (z + 36), .int x3] a0 (po_v Qf) := by
  unfold w_Contest_compete at hw
  refine ud_M_of hN (by decide) (Nat.le_of_ble_eq_true rfl) ?_
  intro p e s m args below meth c C
  have C : ud_C D G z N p s m args meth c cX1_compete 7 RX1 (none : Option Jvm.ClassFile.FieldType) := C
  show ud_X D G z N p l e (ud_rm 5 0 0) s m args below meth c 7 0 0 (ud_Q D G z N (po_v Qf) below args s) a0 0 [(0, .ref (z + 48)), (1, .ref (z + 26)), (2, .ref (z + 36)), (3, .int x3)] []
  refine ux_iconst C (v := 0) (by decide) dX1_compete_0 ?_
  refine ux_istore C (by decide) rfl dX1_compete_1 ?_
  exact ux_pick [1, 2, 3, 4, 0] rfl (c_Contest_compete_j3 hN  C  hw)
set_option maxHeartbeats 2000000 in
set_option maxRecDepth 4000 in
theorem c_Crowd_begin_j73 {D : va_G} {G : Nat → Nat} {z N : Nat} {p : Program} {l : Launch} {e : Env} {s : State} {m : MethodId} {args : Array Value} {below : List Frame} {meth : Method} {c : Code} (hN : 92 ≤ N) {a0 : ud_St} {x3 : Int32} {b_73 : ud_St} {y4_73 : Int32}  {Qf : ud_St → Prop} (C : ud_C D G z N p s m args meth c cX2_begin 5 RX2 (none : Option Jvm.ClassFile.FieldType))  (hw : w_Crowd_begin_j73 a0 x3 b_73 y4_73 Qf) : ud_X D G z N p l e (ud_rm 5 0 0) s m args below meth c 5 0 0 (ud_Q D G z N (po_v Qf) below args s) b_73 73 [(0, .ref (z + 45)), (1, .ref (z + 26)), (4, .int y4_73)] [] := by
  unfold w_Crowd_begin_j73 at hw
  refine ux_pick [0, 1, 2] rfl ?_
  refine LW2.elim (P := fun (x4_3 : Int32) (a_4 : ud_St) => ud_X D G z N p l e (ud_rm 5 0 0) s m args below meth c 5 0 0 (ud_Q D G z N (po_v Qf) below args s) a_4 73 [(0, .ref (z + 45)), (1, .ref (z + 26)), (4, .int x4_3)] []) hw ?_
  intro x4_3 a_4 K_1 hw ih_2
  refine ux_iload C 2 rfl dX2_begin_73 ?_
  refine ux_aload_n C 1 rfl rfl dX2_begin_75 ?_
  refine gf_2_53 C dX2_begin_76 ?_
  refine ux_icmp_ge C (tgt := 104) (by decide) dX2_begin_79 (fun hc_10 => ?_) (fun hc_10 => ?_)
  · replace hw := hw.1 hc_10
    exact ux_vret C ⟨rfl, hw⟩ dX2_begin_104
  · replace hw := hw.2 hc_10
    refine ux_aload_n C 0 rfl rfl dX2_begin_82 ?_
    refine ux_aload_n C 1 rfl rfl dX2_begin_83 ?_
    refine ux_iload C 2 rfl dX2_begin_84 ?_
    refine cs_2_58 C  (c_Crowd_isOf hN  hw) (by decide) (by decide) (Nat.le_of_ble_eq_true rfl) dX2_begin_86 (po_ip.k fun r_5 hw => ?_)
    refine ux_if_eq C (tgt := 98) (by decide) dX2_begin_89 (fun hc_9 => ?_) (fun hc_9 => ?_)
    · replace hw := hw.1 hc_9
      refine ux_iinc C 2 rfl rfl (by decide) rfl dX2_begin_98 ?_
      refine ux_goto C (tgt := 73) (by decide) dX2_begin_101 ?_
      exact ux_pick [1, 2, 0] rfl (ih_2 _ _ hw)
    · replace hw := hw.2 hc_9
      refine ux_aload_n C 0 rfl rfl dX2_begin_92 ?_
      refine ux_iload C 2 rfl dX2_begin_93 ?_
      refine cs_2_49 C  (c_Crowd_admit hN  hw) (by decide) (by decide) (Nat.le_of_ble_eq_true rfl) dX2_begin_95 (po_v.k fun a_8 hw => ?_)
      refine ux_iinc C 2 rfl rfl (by decide) rfl dX2_begin_98 ?_
      refine ux_goto C (tgt := 73) (by decide) dX2_begin_101 ?_
      exact ux_pick [1, 2, 0] rfl (ih_2 _ _ hw)
set_option maxHeartbeats 2000000 in
set_option maxRecDepth 4000 in
theorem c_Crowd_begin_j41 {D : va_G} {G : Nat → Nat} {z N : Nat} {p : Program} {l : Launch} {e : Env} {s : State} {m : MethodId} {args : Array Value} {below : List Frame} {meth : Method} {c : Code} (hN : 92 ≤ N) {a0 : ud_St} {x3 : Int32} {b_41 : ud_St} {y4_41 : Int32}  {Qf : ud_St → Prop} (C : ud_C D G z N p s m args meth c cX2_begin 5 RX2 (none : Option Jvm.ClassFile.FieldType))  (hw : w_Crowd_begin_j41 a0 x3 b_41 y4_41 Qf) : ud_X D G z N p l e (ud_rm 5 0 0) s m args below meth c 5 0 0 (ud_Q D G z N (po_v Qf) below args s) b_41 41 [(0, .ref (z + 45)), (2, .ref (z + 4)), (4, .int y4_41)] [] := by
  unfold w_Crowd_begin_j41 at hw
  refine ux_pick [0, 1, 2] rfl ?_
  refine LW2.elim (P := fun (x4_13 : Int32) (a_14 : ud_St) => ud_X D G z N p l e (ud_rm 5 0 0) s m args below meth c 5 0 0 (ud_Q D G z N (po_v Qf) below args s) a_14 41 [(0, .ref (z + 45)), (2, .ref (z + 4)), (4, .int x4_13)] []) hw ?_
  intro x4_13 a_14 K_11 hw ih_12
  refine ux_iload C 2 rfl dX2_begin_41 ?_
  refine ux_aload_n C 1 rfl rfl dX2_begin_43 ?_
  refine gf_2_35 C (uc_4 C.2.2.2.2.2) dX2_begin_44 ?_
  refine ux_icmp_ge C (tgt := 69) (by decide) dX2_begin_47 (fun hc_19 => ?_) (fun hc_19 => ?_)
  · replace hw := hw.1 hc_19
    exact ux_vret C ⟨rfl, hw⟩ dX2_begin_69
  · replace hw := hw.2 hc_19
    refine ux_aload_n C 0 rfl rfl dX2_begin_50 ?_
    refine ux_aload_n C 1 rfl rfl dX2_begin_51 ?_
    refine gf_2_40 C (uc_4 C.2.2.2.2.2) dX2_begin_52 ?_
    refine ux_iload C 2 rfl dX2_begin_55 ?_
    refine cs_2_43 C  (c_Cells_at hN (uc_14 C.2.2.2.2.2) hw) (by decide) (by decide) (Nat.le_of_ble_eq_true rfl) dX2_begin_57 (po_ip.k fun r_15 hw => ?_)
    refine cs_2_49 C  (c_Crowd_admit hN  hw) (by decide) (by decide) (Nat.le_of_ble_eq_true rfl) dX2_begin_60 (po_v.k fun a_18 hw => ?_)
    refine ux_iinc C 2 rfl rfl (by decide) rfl dX2_begin_63 ?_
    refine ux_goto C (tgt := 41) (by decide) dX2_begin_66 ?_
    exact ux_pick [1, 2, 0] rfl (ih_12 _ _ hw)
set_option maxHeartbeats 2000000 in
set_option maxRecDepth 4000 in
theorem c_Crowd_begin {l : Launch} {D : va_G} {G : Nat → Nat} {z N : Nat} (hN : 92 ≤ N) {a0 : ud_St} {x3 : Int32}  {Qf : ud_St → Prop} (hw : w_Crowd_begin a0 x3 Qf) : ud_M l D G z N yX2_begin cX2_begin 5 (none : Option Jvm.ClassFile.FieldType) 5 [.ref (z + 45), .ref (z + 26), .ref (z + 4), .int x3] a0 (po_v Qf) := by
  unfold w_Crowd_begin at hw
  refine ud_M_of hN (by decide) (Nat.le_of_ble_eq_true rfl) ?_
  intro p e s m args below meth c C
  have C : ud_C D G z N p s m args meth c cX2_begin 5 RX2 (none : Option Jvm.ClassFile.FieldType) := C
  show ud_X D G z N p l e (ud_rm 5 0 0) s m args below meth c 5 0 0 (ud_Q D G z N (po_v Qf) below args s) a0 0 [(0, .ref (z + 45)), (1, .ref (z + 26)), (2, .ref (z + 4)), (3, .int x3)] []
  refine ux_aload_n C 0 rfl rfl dX2_begin_0 ?_
  refine ux_iload_n C 3 rfl rfl dX2_begin_1 ?_
  refine pf_2_18 C dX2_begin_2 ?_
  refine ux_aload_n C 0 rfl rfl dX2_begin_5 ?_
  refine ux_iconst C (v := 0) (by decide) dX2_begin_6 ?_
  refine pf_2_22 C dX2_begin_7 ?_
  refine ux_aload_n C 0 rfl rfl dX2_begin_10 ?_
  refine ux_iconst C (v := 0) (by decide) dX2_begin_11 ?_
  refine pf_2_25 C dX2_begin_12 ?_
  refine ux_aload_n C 0 rfl rfl dX2_begin_15 ?_
  refine ux_iconst C (v := 0) (by decide) dX2_begin_16 ?_
  refine pf_2_28 C (Or.inl rfl) dX2_begin_17 ?_
  refine ux_aload_n C 0 rfl rfl dX2_begin_20 ?_
  refine ux_dup C rfl dX2_begin_21 ?_
  refine gf_2_32 C dX2_begin_22 ?_
  refine ux_iconst C (v := 1) (by decide) dX2_begin_25 ?_
  refine ux_iadd C dX2_begin_26 ?_
  refine pf_2_32 C dX2_begin_27 ?_
  refine ux_aload_n C 0 rfl rfl dX2_begin_30 ?_
  refine gf_2_18 C dX2_begin_31 ?_
  refine ux_iconst C (v := 3) (by decide) dX2_begin_34 ?_
  refine ux_icmp_ne C (tgt := 70) (by decide) dX2_begin_35 (fun hc_20 => ?_) (fun hc_20 => ?_)
  · replace hw := hw.2 hc_20
    refine ux_iconst C (v := 0) (by decide) dX2_begin_70 ?_
    refine ux_istore C (by decide) rfl dX2_begin_71 ?_
    exact ux_pick [1, 2, 0] rfl (c_Crowd_begin_j73 hN  C  hw)
  · replace hw := hw.1 hc_20
    refine ux_iconst C (v := 0) (by decide) dX2_begin_38 ?_
    refine ux_istore C (by decide) rfl dX2_begin_39 ?_
    exact ux_pick [1, 3, 0] rfl (c_Crowd_begin_j41 hN  C  hw)
set_option maxHeartbeats 2000000 in
set_option maxRecDepth 4000 in
theorem c_Paths_prepare {l : Launch} {D : va_G} {G : Nat → Nat} {z N : Nat} (hN : 92 ≤ N) {a0 : ud_St}   {Qf : ud_St → Prop} (hw : w_Paths_prepare a0  Qf) : ud_M l D G z N yX5_prepare cX5_prepare 3 (none : Option Jvm.ClassFile.FieldType) 5 [.ref (z + 36), .ref (z + 26), .ref (z + 5)] a0 (po_v Qf) := by
  unfold w_Paths_prepare at hw
  refine ud_M_of hN (by decide) (Nat.le_of_ble_eq_true rfl) ?_
  intro p e s m args below meth c C
  have C : ud_C D G z N p s m args meth c cX5_prepare 3 RX5 (none : Option Jvm.ClassFile.FieldType) := C
  show ud_X D G z N p l e (ud_rm 5 0 0) s m args below meth c 3 0 0 (ud_Q D G z N (po_v Qf) below args s) a0 0 [(0, .ref (z + 36)), (1, .ref (z + 26)), (2, .ref (z + 5))] []
  refine ux_aload_n C 0 rfl rfl dX5_prepare_0 ?_
  refine gf_5_36 C dX5_prepare_1 ?_
  refine ux_if_eq C (tgt := 8) (by decide) dX5_prepare_4 (fun hc_5 => ?_) (fun hc_5 => ?_)
  · replace hw := hw.1 hc_5
    refine ux_aload_n C 0 rfl rfl dX5_prepare_8 ?_
    refine ux_aload_n C 1 rfl rfl dX5_prepare_9 ?_
    refine ux_aload_n C 2 rfl rfl dX5_prepare_10 ?_
    refine cs_5_40 C  (c_Paths_lay hN (uc_5 C.2.2.2.2.2) hw) (by decide) (by decide) (Nat.le_of_ble_eq_true rfl) dX5_prepare_11 (po_v.k fun a_2 hw => ?_)
    refine ux_aload_n C 0 rfl rfl dX5_prepare_14 ?_
    refine cs_5_44 C  (c_Paths_listInto hN  hw) (by decide) (by decide) (Nat.le_of_ble_eq_true rfl) dX5_prepare_15 (po_v.k fun a_4 hw => ?_)
    refine ux_aload_n C 0 rfl rfl dX5_prepare_18 ?_
    refine ux_iconst C (v := 1) (by decide) dX5_prepare_19 ?_
    refine pf_5_36 C (Or.inr rfl) dX5_prepare_20 ?_
    exact ux_vret C ⟨rfl, hw⟩ dX5_prepare_23
  · replace hw := hw.2 hc_5
    exact ux_vret C ⟨rfl, hw⟩ dX5_prepare_7
set_option maxHeartbeats 2000000 in
set_option maxRecDepth 4000 in
theorem c_Reader_readText {l : Launch} {D : va_G} {G : Nat → Nat} {z N : Nat} (hN : 92 ≤ N) {a0 : ud_St} {t1 : Nat}  {Qf : Int32 → ud_St → Prop} (hw : w_Reader_readText a0 t1 Qf) : ud_M l D G z N yX6_readText cX6_readText 2 (some Jvm.ClassFile.FieldType.boolean) 5 [.ref (z + 3), .ref (G (10 + 2 * t1))] a0 (po_i Qf) := by
  unfold w_Reader_readText at hw
  refine ud_M_of hN (by decide) (Nat.le_of_ble_eq_true rfl) ?_
  intro p e s m args below meth c C
  have C : ud_C D G z N p s m args meth c cX6_readText 2 RX6 (some Jvm.ClassFile.FieldType.boolean) := C
  show ud_X D G z N p l e (ud_rm 5 0 0) s m args below meth c 2 0 0 (ud_Q D G z N (po_i Qf) below args s) a0 0 [(0, .ref (z + 3)), (1, .ref (G (10 + 2 * t1)))] []
  refine ux_aload_n C 0 rfl rfl dX6_readText_0 ?_
  refine ux_aload_n C 1 rfl rfl dX6_readText_1 ?_
  refine cs_6_52 C  (c_Reader_isText hN  hw) (by decide) (by decide) (Nat.le_of_ble_eq_true rfl) dX6_readText_2 (po_ip.k fun r_1 hw => ?_)
  refine ux_if_ne C (tgt := 14) (by decide) dX6_readText_5 (fun hc_8 => ?_) (fun hc_8 => ?_)
  · replace hw := hw.2 hc_8
    refine ux_aload_n C 0 rfl rfl dX6_readText_14 ?_
    refine cs_6_30 C  (c_Reader_advance hN  hw) (by decide) (by decide) (Nat.le_of_ble_eq_true rfl) dX6_readText_15 (po_v.k fun a_4 hw => ?_)
    refine ux_iconst C (v := 1) (by decide) dX6_readText_18 ?_
    exact ux_zret C rfl ⟨_, rfl, hw⟩ dX6_readText_19
  · replace hw := hw.1 hc_8
    refine ux_aload_n C 0 rfl rfl dX6_readText_8 ?_
    refine ux_iconst C (v := 1) (by decide) dX6_readText_9 ?_
    refine cs_6_69 C  (c_Reader_wrong hN  hw) (by decide) (by decide) (Nat.le_of_ble_eq_true rfl) dX6_readText_10 (po_i.k fun r_5 a_6 hw => ?_)
    obtain ⟨hn_7, hw⟩ := hw
    exact ux_zret C (ud_narZ hn_7) ⟨_, rfl, hw⟩ dX6_readText_13
set_option maxHeartbeats 2000000 in
set_option maxRecDepth 4000 in
theorem c_Reader_sortHere {l : Launch} {D : va_G} {G : Nat → Nat} {z N : Nat} (hN : 92 ≤ N) {a0 : ud_St}   {Qf : Int32 → Prop} (hw : w_Reader_sortHere a0  Qf) : ud_M l D G z N yX6_sortHere cX6_sortHere 2 (some Jvm.ClassFile.FieldType.int) 5 [.ref (z + 3)] a0 (po_ip a0 Qf) := by
  unfold w_Reader_sortHere at hw
  refine ud_M_of hN (by decide) (Nat.le_of_ble_eq_true rfl) ?_
  intro p e s m args below meth c C
  have C : ud_C D G z N p s m args meth c cX6_sortHere 2 RX6 (some Jvm.ClassFile.FieldType.int) := C
  show ud_X D G z N p l e (ud_rm 5 0 0) s m args below meth c 2 0 0 (ud_Q D G z N (po_ip a0 Qf) below args s) a0 0 [(0, .ref (z + 3))] []
  refine ux_iconst C (v := 0) (by decide) dX6_sortHere_0 ?_
  refine ux_istore_n C rfl (by decide) rfl dX6_sortHere_1 ?_
  refine ux_pick [1, 0] rfl ?_
  refine LW1.elim (P := fun (x1_3 : Int32) => ud_X D G z N p l e (ud_rm 5 0 0) s m args below meth c 2 0 0 (ud_Q D G z N (po_ip a0 Qf) below args s) a0 2 [(0, .ref (z + 3)), (1, .int x1_3)] []) hw ?_
  intro x1_3 K_1 hw ih_2
  refine ux_iload_n C 1 rfl rfl dX6_sortHere_2 ?_
  refine ux_bipush C (v := 14) (by decide) dX6_sortHere_3 ?_
  refine ux_icmp_gt C (tgt := 27) (by decide) dX6_sortHere_5 (fun hc_9 => ?_) (fun hc_9 => ?_)
  · replace hw := hw.1 hc_9
    refine ux_iconst C (v := -1) (by decide) dX6_sortHere_27 ?_
    exact ux_iret C ⟨_, rfl, rfl, hw⟩ dX6_sortHere_28
  · replace hw := hw.2 hc_9
    refine ux_aload_n C 0 rfl rfl dX6_sortHere_8 ?_
    refine ux_iload_n C 1 rfl rfl dX6_sortHere_9 ?_
    refine cs_6_171 C  (c_Reader_nameOf hN  hw) (by decide) (by decide) (Nat.le_of_ble_eq_true rfl) dX6_sortHere_10 (po_s.k fun r_4 hw => ?_)
    refine cs_6_52 C  (c_Reader_isText hN  hw) (by decide) (by decide) (Nat.le_of_ble_eq_true rfl) dX6_sortHere_13 (po_ip.k fun r_6 hw => ?_)
    refine ux_if_eq C (tgt := 21) (by decide) dX6_sortHere_16 (fun hc_8 => ?_) (fun hc_8 => ?_)
    · replace hw := hw.1 hc_8
      refine ux_iinc C 1 rfl rfl (by decide) rfl dX6_sortHere_21 ?_
      refine ux_goto C (tgt := 2) (by decide) dX6_sortHere_24 ?_
      exact ux_pick [1, 0] rfl (ih_2 _ hw)
    · replace hw := hw.2 hc_8
      refine ux_iload_n C 1 rfl rfl dX6_sortHere_19 ?_
      exact ux_iret C ⟨_, rfl, rfl, hw⟩ dX6_sortHere_20
set_option maxHeartbeats 2000000 in
set_option maxRecDepth 4000 in
theorem c_UpAndDown_fits_j42 {D : va_G} {G : Nat → Nat} {z N : Nat} {p : Program} {l : Launch} {e : Env} {s : State} {m : MethodId} {args : Array Value} {below : List Frame} {meth : Method} {c : Code} (hN : 92 ≤ N) {a0 : ud_St} {x1 : Int32} {x2 : Int32} {b_42 : ud_St} {y1_42 : Int32} {y2_42 : Int32} {y3_42 : Int32} {y4_42 : Int32} {y5_42 : Int32} {K_5 : Int32 → Int32 → ud_St → Prop}  {Qf : Int32 → ud_St → Prop} (C : ud_C D G z N p s m args meth c cX11_fits 6 RX11 (some Jvm.ClassFile.FieldType.int)) (ih_6 : ∀ (v0 : Int32) (v1 : Int32) (v2 : ud_St), K_5 v0 v1 v2 → ud_X D G z N p l e (ud_rm 5 0 0) s m args below meth c 6 0 0 (ud_Q D G z N (po_i Qf) below args s) v2 24 [(0, .ref (z + 0)), (1, .int y1_42), (2, .int y2_42), (3, .int v0), (4, .int v1)] []) (hw : w_UpAndDown_fits_j42 a0 x1 x2 b_42 y1_42 y2_42 y3_42 y4_42 y5_42 K_5 Qf) : ud_X D G z N p l e (ud_rm 5 0 0) s m args below meth c 6 0 0 (ud_Q D G z N (po_i Qf) below args s) b_42 42 [(0, .ref (z + 0)), (1, .int y1_42), (2, .int y2_42), (3, .int y3_42), (4, .int y4_42), (5, .int y5_42)] [] := by
  unfold w_UpAndDown_fits_j42 at hw
  refine ux_pick [0, 1, 2, 3, 4, 5] rfl ?_
  refine LW3.elim (P := fun (x3_12 : Int32) (x5_13 : Int32) (a_14 : ud_St) => ud_X D G z N p l e (ud_rm 5 0 0) s m args below meth c 6 0 0 (ud_Q D G z N (po_i Qf) below args s) a_14 42 [(0, .ref (z + 0)), (1, .int y1_42), (2, .int y2_42), (3, .int x3_12), (4, .int y4_42), (5, .int x5_13)] []) hw ?_
  intro x3_12 x5_13 a_14 K_10 hw ih_11
  refine ux_iload C 5 rfl dX11_fits_42 ?_
  refine ux_aload_n C 0 rfl rfl dX11_fits_44 ?_
  refine gf_11_28 C dX11_fits_45 ?_
  refine gf_11_283 C (uc_4 C.2.2.2.2.2) dX11_fits_48 ?_
  refine gf_11_164 C (uc_8 C.2.2.2.2.2) dX11_fits_51 ?_
  refine ux_icmp_ge C (tgt := 84) (by decide) dX11_fits_54 (fun hc_18 => ?_) (fun hc_18 => ?_)
  · replace hw := hw.1 hc_18
    refine ux_iinc C 4 rfl rfl (by decide) rfl dX11_fits_84 ?_
    refine ux_goto C (tgt := 24) (by decide) dX11_fits_87 ?_
    exact ux_pick [1, 2, 3, 4, 0] rfl (ih_6 _ _ _ hw)
  · replace hw := hw.2 hc_18
    refine ux_iload_n C 3 rfl rfl dX11_fits_57 ?_
    refine ux_aload_n C 0 rfl rfl dX11_fits_58 ?_
    refine ux_iload_n C 1 rfl rfl dX11_fits_59 ?_
    refine ux_iload_n C 2 rfl rfl dX11_fits_60 ?_
    refine ux_iload C 4 rfl dX11_fits_61 ?_
    refine ux_iload C 5 rfl dX11_fits_63 ?_
    refine cs_11_293 C  (c_UpAndDown_isSlipTo hN  hw) (by decide) (by decide) (Nat.le_of_ble_eq_true rfl) dX11_fits_65 (po_i.k fun r_15 a_16 hw => ?_)
    refine ux_if_eq C (tgt := 75) (by decide) dX11_fits_68 (fun hc_17 => ?_) (fun hc_17 => ?_)
    · replace hw := hw.1 hc_17
      refine ux_iconst C (v := 0) (by decide) dX11_fits_75 ?_
      refine ux_iadd C dX11_fits_76 ?_
      refine ux_istore_n C rfl (by decide) rfl dX11_fits_77 ?_
      refine ux_iinc C 5 rfl rfl (by decide) rfl dX11_fits_78 ?_
      refine ux_goto C (tgt := 42) (by decide) dX11_fits_81 ?_
      exact ux_pick [2, 3, 4, 1, 5, 0] rfl (ih_11 _ _ _ hw)
    · replace hw := hw.2 hc_17
      refine ux_iconst C (v := 1) (by decide) dX11_fits_71 ?_
      refine ux_goto C (tgt := 76) (by decide) dX11_fits_72 ?_
      refine ux_iadd C dX11_fits_76 ?_
      refine ux_istore_n C rfl (by decide) rfl dX11_fits_77 ?_
      refine ux_iinc C 5 rfl rfl (by decide) rfl dX11_fits_78 ?_
      refine ux_goto C (tgt := 42) (by decide) dX11_fits_81 ?_
      exact ux_pick [2, 3, 4, 1, 5, 0] rfl (ih_11 _ _ _ hw)
set_option maxHeartbeats 2000000 in
set_option maxRecDepth 4000 in
theorem c_UpAndDown_fits_j24 {D : va_G} {G : Nat → Nat} {z N : Nat} {p : Program} {l : Launch} {e : Env} {s : State} {m : MethodId} {args : Array Value} {below : List Frame} {meth : Method} {c : Code} (hN : 92 ≤ N) {a0 : ud_St} {x1 : Int32} {x2 : Int32} {b_24 : ud_St} {y1_24 : Int32} {y2_24 : Int32} {y3_24 : Int32} {y4_24 : Int32}  {Qf : Int32 → ud_St → Prop} (C : ud_C D G z N p s m args meth c cX11_fits 6 RX11 (some Jvm.ClassFile.FieldType.int))  (hw : w_UpAndDown_fits_j24 a0 x1 x2 b_24 y1_24 y2_24 y3_24 y4_24 Qf) : ud_X D G z N p l e (ud_rm 5 0 0) s m args below meth c 6 0 0 (ud_Q D G z N (po_i Qf) below args s) b_24 24 [(0, .ref (z + 0)), (1, .int y1_24), (2, .int y2_24), (3, .int y3_24), (4, .int y4_24)] [] := by
  unfold w_UpAndDown_fits_j24 at hw
  refine ux_pick [0, 1, 2, 3, 4] rfl ?_
  refine LW3.elim (P := fun (x3_7 : Int32) (x4_8 : Int32) (a_9 : ud_St) => ud_X D G z N p l e (ud_rm 5 0 0) s m args below meth c 6 0 0 (ud_Q D G z N (po_i Qf) below args s) a_9 24 [(0, .ref (z + 0)), (1, .int y1_24), (2, .int y2_24), (3, .int x3_7), (4, .int x4_8)] []) hw ?_
  intro x3_7 x4_8 a_9 K_5 hw ih_6
  refine ux_iload C 4 rfl dX11_fits_24 ?_
  refine ux_aload_n C 0 rfl rfl dX11_fits_26 ?_
  refine gf_11_28 C dX11_fits_27 ?_
  refine gf_11_123 C (uc_4 C.2.2.2.2.2) dX11_fits_30 ?_
  refine gf_11_164 C (uc_5 C.2.2.2.2.2) dX11_fits_33 ?_
  refine ux_icmp_ge C (tgt := 90) (by decide) dX11_fits_36 (fun hc_19 => ?_) (fun hc_19 => ?_)
  · replace hw := hw.1 hc_19
    refine ux_iload_n C 3 rfl rfl dX11_fits_90 ?_
    exact ux_iret C ⟨_, rfl, hw⟩ dX11_fits_91
  · replace hw := hw.2 hc_19
    refine ux_iconst C (v := 0) (by decide) dX11_fits_39 ?_
    refine ux_istore C (by decide) rfl dX11_fits_40 ?_
    exact ux_pick [1, 2, 3, 4, 5, 0] rfl (c_UpAndDown_fits_j42 hN  C ih_6 hw)
set_option maxHeartbeats 2000000 in
set_option maxRecDepth 4000 in
theorem c_UpAndDown_fits {l : Launch} {D : va_G} {G : Nat → Nat} {z N : Nat} (hN : 92 ≤ N) {a0 : ud_St} {x1 : Int32} {x2 : Int32}  {Qf : Int32 → ud_St → Prop} (hw : w_UpAndDown_fits a0 x1 x2 Qf) : ud_M l D G z N yX11_fits cX11_fits 6 (some Jvm.ClassFile.FieldType.int) 5 [.ref (z + 0), .int x1, .int x2] a0 (po_i Qf) := by
  unfold w_UpAndDown_fits at hw
  refine ud_M_of hN (by decide) (Nat.le_of_ble_eq_true rfl) ?_
  intro p e s m args below meth c C
  have C : ud_C D G z N p s m args meth c cX11_fits 6 RX11 (some Jvm.ClassFile.FieldType.int) := C
  show ud_X D G z N p l e (ud_rm 5 0 0) s m args below meth c 6 0 0 (ud_Q D G z N (po_i Qf) below args s) a0 0 [(0, .ref (z + 0)), (1, .int x1), (2, .int x2)] []
  refine ux_aload_n C 0 rfl rfl dX11_fits_0 ?_
  refine ux_iload_n C 1 rfl rfl dX11_fits_1 ?_
  refine cs_11_154 C  (c_UpAndDown_isNumber hN  hw) (by decide) (by decide) (Nat.le_of_ble_eq_true rfl) dX11_fits_2 (po_ip.k fun r_1 hw => ?_)
  refine ux_if_eq C (tgt := 16) (by decide) dX11_fits_5 (fun hc_21 => ?_) (fun hc_21 => ?_)
  · replace hw := hw.1 hc_21
    refine ux_bipush C (v := -2) (by decide) dX11_fits_16 ?_
    exact ux_iret C ⟨_, rfl, hw⟩ dX11_fits_18
  · replace hw := hw.2 hc_21
    refine ux_aload_n C 0 rfl rfl dX11_fits_8 ?_
    refine ux_iload_n C 2 rfl rfl dX11_fits_9 ?_
    refine cs_11_154 C  (c_UpAndDown_isNumber hN  hw) (by decide) (by decide) (Nat.le_of_ble_eq_true rfl) dX11_fits_10 (po_ip.k fun r_3 hw => ?_)
    refine ux_if_ne C (tgt := 19) (by decide) dX11_fits_13 (fun hc_20 => ?_) (fun hc_20 => ?_)
    · replace hw := hw.2 hc_20
      refine ux_iconst C (v := 0) (by decide) dX11_fits_19 ?_
      refine ux_istore_n C rfl (by decide) rfl dX11_fits_20 ?_
      refine ux_iconst C (v := 0) (by decide) dX11_fits_21 ?_
      refine ux_istore C (by decide) rfl dX11_fits_22 ?_
      exact ux_pick [2, 3, 4, 1, 0] rfl (c_UpAndDown_fits_j24 hN  C  hw)
    · replace hw := hw.1 hc_20
      refine ux_bipush C (v := -2) (by decide) dX11_fits_16 ?_
      exact ux_iret C ⟨_, rfl, hw⟩ dX11_fits_18
set_option maxHeartbeats 2000000 in
set_option maxRecDepth 4000 in
theorem c_UpAndDown_which_j38 {D : va_G} {G : Nat → Nat} {z N : Nat} {p : Program} {l : Launch} {e : Env} {s : State} {m : MethodId} {args : Array Value} {below : List Frame} {meth : Method} {c : Code} (hN : 92 ≤ N) {a0 : ud_St} {x1 : Int32} {x2 : Int32} {b_38 : ud_St} {y1_38 : Int32} {y2_38 : Int32} {y3_38 : Int32} {y4_38 : Int32} {K_5 : Int32 → ud_St → Prop}  {Qf : Int32 → ud_St → Prop} (C : ud_C D G z N p s m args meth c cX11_which 5 RX11 (some Jvm.ClassFile.FieldType.int)) (ih_6 : ∀ (v0 : Int32) (v1 : ud_St), K_5 v0 v1 → ud_X D G z N p l e (ud_rm 5 0 0) s m args below meth c 5 0 0 (ud_Q D G z N (po_i Qf) below args s) v1 21 [(0, .ref (z + 0)), (1, .int y1_38), (2, .int y2_38), (3, .int v0)] []) (hw : w_UpAndDown_which_j38 a0 x1 x2 b_38 y1_38 y2_38 y3_38 y4_38 K_5 Qf) : ud_X D G z N p l e (ud_rm 5 0 0) s m args below meth c 5 0 0 (ud_Q D G z N (po_i Qf) below args s) b_38 38 [(0, .ref (z + 0)), (1, .int y1_38), (2, .int y2_38), (3, .int y3_38), (4, .int y4_38)] [] := by
  unfold w_UpAndDown_which_j38 at hw
  refine ux_pick [0, 1, 2, 3, 4] rfl ?_
  refine LW2.elim (P := fun (x4_11 : Int32) (a_12 : ud_St) => ud_X D G z N p l e (ud_rm 5 0 0) s m args below meth c 5 0 0 (ud_Q D G z N (po_i Qf) below args s) a_12 38 [(0, .ref (z + 0)), (1, .int y1_38), (2, .int y2_38), (3, .int y3_38), (4, .int x4_11)] []) hw ?_
  intro x4_11 a_12 K_9 hw ih_10
  refine ux_iload C 4 rfl dX11_which_38 ?_
  refine ux_aload_n C 0 rfl rfl dX11_which_40 ?_
  refine gf_11_28 C dX11_which_41 ?_
  refine gf_11_283 C (uc_4 C.2.2.2.2.2) dX11_which_44 ?_
  refine gf_11_164 C (uc_8 C.2.2.2.2.2) dX11_which_47 ?_
  refine ux_icmp_ge C (tgt := 79) (by decide) dX11_which_50 (fun hc_16 => ?_) (fun hc_16 => ?_)
  · replace hw := hw.1 hc_16
    refine ux_iinc C 3 rfl rfl (by decide) rfl dX11_which_79 ?_
    refine ux_goto C (tgt := 21) (by decide) dX11_which_82 ?_
    exact ux_pick [1, 2, 3, 0] rfl (ih_6 _ _ hw)
  · replace hw := hw.2 hc_16
    refine ux_aload_n C 0 rfl rfl dX11_which_53 ?_
    refine ux_iload_n C 1 rfl rfl dX11_which_54 ?_
    refine ux_iload_n C 2 rfl rfl dX11_which_55 ?_
    refine ux_iload_n C 3 rfl rfl dX11_which_56 ?_
    refine ux_iload C 4 rfl dX11_which_57 ?_
    refine cs_11_293 C  (c_UpAndDown_isSlipTo hN  hw) (by decide) (by decide) (Nat.le_of_ble_eq_true rfl) dX11_which_59 (po_i.k fun r_13 a_14 hw => ?_)
    refine ux_if_eq C (tgt := 73) (by decide) dX11_which_62 (fun hc_15 => ?_) (fun hc_15 => ?_)
    · replace hw := hw.1 hc_15
      refine ux_iinc C 4 rfl rfl (by decide) rfl dX11_which_73 ?_
      refine ux_goto C (tgt := 38) (by decide) dX11_which_76 ?_
      exact ux_pick [1, 2, 3, 4, 0] rfl (ih_10 _ _ hw)
    · replace hw := hw.2 hc_15
      refine ux_bipush C (v := 10) (by decide) dX11_which_65 ?_
      refine ux_iload_n C 3 rfl rfl dX11_which_67 ?_
      refine ux_imul C dX11_which_68 ?_
      refine ux_iload C 4 rfl dX11_which_69 ?_
      refine ux_iadd C dX11_which_71 ?_
      exact ux_iret C ⟨_, rfl, hw⟩ dX11_which_72
set_option maxHeartbeats 2000000 in
set_option maxRecDepth 4000 in
theorem c_UpAndDown_which_j21 {D : va_G} {G : Nat → Nat} {z N : Nat} {p : Program} {l : Launch} {e : Env} {s : State} {m : MethodId} {args : Array Value} {below : List Frame} {meth : Method} {c : Code} (hN : 92 ≤ N) {a0 : ud_St} {x1 : Int32} {x2 : Int32} {b_21 : ud_St} {y1_21 : Int32} {y2_21 : Int32} {y3_21 : Int32}  {Qf : Int32 → ud_St → Prop} (C : ud_C D G z N p s m args meth c cX11_which 5 RX11 (some Jvm.ClassFile.FieldType.int))  (hw : w_UpAndDown_which_j21 a0 x1 x2 b_21 y1_21 y2_21 y3_21 Qf) : ud_X D G z N p l e (ud_rm 5 0 0) s m args below meth c 5 0 0 (ud_Q D G z N (po_i Qf) below args s) b_21 21 [(0, .ref (z + 0)), (1, .int y1_21), (2, .int y2_21), (3, .int y3_21)] [] := by
  unfold w_UpAndDown_which_j21 at hw
  refine ux_pick [0, 1, 2, 3] rfl ?_
  refine LW2.elim (P := fun (x3_7 : Int32) (a_8 : ud_St) => ud_X D G z N p l e (ud_rm 5 0 0) s m args below meth c 5 0 0 (ud_Q D G z N (po_i Qf) below args s) a_8 21 [(0, .ref (z + 0)), (1, .int y1_21), (2, .int y2_21), (3, .int x3_7)] []) hw ?_
  intro x3_7 a_8 K_5 hw ih_6
  refine ux_iload_n C 3 rfl rfl dX11_which_21 ?_
  refine ux_aload_n C 0 rfl rfl dX11_which_22 ?_
  refine gf_11_28 C dX11_which_23 ?_
  refine gf_11_123 C (uc_4 C.2.2.2.2.2) dX11_which_26 ?_
  refine gf_11_164 C (uc_5 C.2.2.2.2.2) dX11_which_29 ?_
  refine ux_icmp_ge C (tgt := 85) (by decide) dX11_which_32 (fun hc_17 => ?_) (fun hc_17 => ?_)
  · replace hw := hw.1 hc_17
    refine ux_iconst C (v := -1) (by decide) dX11_which_85 ?_
    exact ux_iret C ⟨_, rfl, hw⟩ dX11_which_86
  · replace hw := hw.2 hc_17
    refine ux_iconst C (v := 0) (by decide) dX11_which_35 ?_
    refine ux_istore C (by decide) rfl dX11_which_36 ?_
    exact ux_pick [1, 2, 3, 4, 0] rfl (c_UpAndDown_which_j38 hN  C ih_6 hw)
set_option maxHeartbeats 2000000 in
set_option maxRecDepth 4000 in
theorem c_UpAndDown_which {l : Launch} {D : va_G} {G : Nat → Nat} {z N : Nat} (hN : 92 ≤ N) {a0 : ud_St} {x1 : Int32} {x2 : Int32}  {Qf : Int32 → ud_St → Prop} (hw : w_UpAndDown_which a0 x1 x2 Qf) : ud_M l D G z N yX11_which cX11_which 5 (some Jvm.ClassFile.FieldType.int) 5 [.ref (z + 0), .int x1, .int x2] a0 (po_i Qf) := by
  unfold w_UpAndDown_which at hw
  refine ud_M_of hN (by decide) (Nat.le_of_ble_eq_true rfl) ?_
  intro p e s m args below meth c C
  have C : ud_C D G z N p s m args meth c cX11_which 5 RX11 (some Jvm.ClassFile.FieldType.int) := C
  show ud_X D G z N p l e (ud_rm 5 0 0) s m args below meth c 5 0 0 (ud_Q D G z N (po_i Qf) below args s) a0 0 [(0, .ref (z + 0)), (1, .int x1), (2, .int x2)] []
  refine ux_aload_n C 0 rfl rfl dX11_which_0 ?_
  refine ux_iload_n C 1 rfl rfl dX11_which_1 ?_
  refine cs_11_154 C  (c_UpAndDown_isNumber hN  hw) (by decide) (by decide) (Nat.le_of_ble_eq_true rfl) dX11_which_2 (po_ip.k fun r_1 hw => ?_)
  refine ux_if_eq C (tgt := 16) (by decide) dX11_which_5 (fun hc_19 => ?_) (fun hc_19 => ?_)
  · replace hw := hw.1 hc_19
    refine ux_bipush C (v := -2) (by decide) dX11_which_16 ?_
    exact ux_iret C ⟨_, rfl, hw⟩ dX11_which_18
  · replace hw := hw.2 hc_19
    refine ux_aload_n C 0 rfl rfl dX11_which_8 ?_
    refine ux_iload_n C 2 rfl rfl dX11_which_9 ?_
    refine cs_11_154 C  (c_UpAndDown_isNumber hN  hw) (by decide) (by decide) (Nat.le_of_ble_eq_true rfl) dX11_which_10 (po_ip.k fun r_3 hw => ?_)
    refine ux_if_ne C (tgt := 19) (by decide) dX11_which_13 (fun hc_18 => ?_) (fun hc_18 => ?_)
    · replace hw := hw.2 hc_18
      refine ux_iconst C (v := 0) (by decide) dX11_which_19 ?_
      refine ux_istore_n C rfl (by decide) rfl dX11_which_20 ?_
      exact ux_pick [1, 2, 3, 0] rfl (c_UpAndDown_which_j21 hN  C  hw)
    · replace hw := hw.1 hc_18
      refine ux_bipush C (v := -2) (by decide) dX11_which_16 ?_
      exact ux_iret C ⟨_, rfl, hw⟩ dX11_which_18
set_option maxHeartbeats 2000000 in
set_option maxRecDepth 4000 in
theorem c_UpAndDown_begin {l : Launch} {D : va_G} {G : Nat → Nat} {z N : Nat} (hN : 92 ≤ N) {a0 : ud_St}   {Qf : ud_St → Prop} (hw : w_UpAndDown_begin a0  Qf) : ud_M l D G z N yX11_begin cX11_begin 1 (none : Option Jvm.ClassFile.FieldType) 5 [.ref (z + 0)] a0 (po_v Qf) := by
  unfold w_UpAndDown_begin at hw
  refine ud_M_of hN (by decide) (Nat.le_of_ble_eq_true rfl) ?_
  intro p e s m args below meth c C
  have C : ud_C D G z N p s m args meth c cX11_begin 1 RX11 (none : Option Jvm.ClassFile.FieldType) := C
  show ud_X D G z N p l e (ud_rm 5 0 0) s m args below meth c 1 0 0 (ud_Q D G z N (po_v Qf) below args s) a0 0 [(0, .ref (z + 0))] []
  refine ux_aload_n C 0 rfl rfl dX11_begin_0 ?_
  refine gf_11_38 C dX11_begin_1 ?_
  refine ux_aload_n C 0 rfl rfl dX11_begin_4 ?_
  refine gf_11_28 C dX11_begin_5 ?_
  refine gf_11_329 C (uc_4 C.2.2.2.2.2) dX11_begin_8 ?_
  refine ux_aload_n C 0 rfl rfl dX11_begin_11 ?_
  refine gf_11_28 C dX11_begin_12 ?_
  refine gf_11_157 C (uc_4 C.2.2.2.2.2) dX11_begin_15 ?_
  refine ux_aload_n C 0 rfl rfl dX11_begin_18 ?_
  refine gf_11_28 C dX11_begin_19 ?_
  refine gf_11_151 C (uc_4 C.2.2.2.2.2) dX11_begin_22 ?_
  refine cs_11_374 C  (c_Figures_prepare hN  hw) (by decide) (by decide) (Nat.le_of_ble_eq_true rfl) dX11_begin_25 (po_v.k fun a_2 hw => ?_)
  refine ux_aload_n C 0 rfl rfl dX11_begin_28 ?_
  refine cs_11_144 C  (c_UpAndDown_forget hN  hw) (by decide) (by decide) (Nat.le_of_ble_eq_true rfl) dX11_begin_29 (po_v.k fun a_4 hw => ?_)
  exact ux_vret C ⟨rfl, hw⟩ dX11_begin_32
set_option maxHeartbeats 2000000 in
set_option maxRecDepth 4000 in
theorem c_Model_line_j127 {D : va_G} {G : Nat → Nat} {z N : Nat} {p : Program} {l : Launch} {e : Env} {s : State} {m : MethodId} {args : Array Value} {below : List Frame} {meth : Method} {c : Code} (hN : 92 ≤ N) {a0 : ud_St} {b_127 : ud_St} {y3_127 : Int32}  {Qf : ud_St → Prop} (C : ud_C D G z N p s m args meth c cX12_line 4 RX12 (none : Option Jvm.ClassFile.FieldType))  (hw : w_Model_line_j127 a0 b_127 y3_127 Qf) : ud_X D G z N p l e (ud_rm 5 0 0) s m args below meth c 4 0 0 (ud_Q D G z N (po_v Qf) below args s) b_127 127 [(0, .ref (z + 71)), (3, .int y3_127)] [] := by
  unfold w_Model_line_j127 at hw
  refine ux_aload_n C 0 rfl rfl dX12_line_127 ?_
  refine cs_12_200 C  (c_Model_isGood hN  hw) (by decide) (by decide) (Nat.le_of_ble_eq_true rfl) dX12_line_128 (po_ip.k fun r_24 hw => ?_)
  refine ux_if_eq C (tgt := 145) (by decide) dX12_line_131 (fun hc_32 => ?_) (fun hc_32 => ?_)
  · replace hw := hw.1 hc_32
    refine ux_aload_n C 0 rfl rfl dX12_line_145 ?_
    refine gf_12_34 C dX12_line_146 ?_
    refine ux_bipush C (v := 28) (by decide) dX12_line_149 ?_
    refine ux_dup2 C rfl rfl dX12_line_151 ?_
    obtain ⟨hi_27, hw⟩ := hw
    refine ux_iald C (uc_78 C.2.2.2.2.2) hi_27 dX12_line_152 ?_
    refine ux_iconst C (v := 1) (by decide) dX12_line_153 ?_
    refine ux_iadd C dX12_line_154 ?_
    obtain ⟨hi_26, hw⟩ := hw
    refine ux_iast C (uc_78 C.2.2.2.2.2) hi_26 dX12_line_155 ?_
    refine ux_goto C (tgt := 195) (by decide) dX12_line_156 ?_
    exact ux_vret C ⟨rfl, hw⟩ dX12_line_195
  · replace hw := hw.2 hc_32
    refine ux_aload_n C 0 rfl rfl dX12_line_134 ?_
    refine ux_aload_n C 0 rfl rfl dX12_line_135 ?_
    refine gf_12_40 C dX12_line_136 ?_
    refine ux_iload_n C 1 rfl rfl dX12_line_139 ?_
    refine ux_iconst C (v := 2) (by decide) dX12_line_140 ?_
    refine ux_iadd C dX12_line_141 ?_
    refine cs_12_204 C  (c_Model_wordTo hN (uc_80 C.2.2.2.2.2) hw) (by decide) (by decide) (Nat.le_of_ble_eq_true rfl) dX12_line_142 (po_v.k fun a_29 hw => ?_)
    refine ux_aload_n C 0 rfl rfl dX12_line_145 ?_
    refine gf_12_34 C dX12_line_146 ?_
    refine ux_bipush C (v := 28) (by decide) dX12_line_149 ?_
    refine ux_dup2 C rfl rfl dX12_line_151 ?_
    obtain ⟨hi_31, hw⟩ := hw
    refine ux_iald C (uc_78 C.2.2.2.2.2) hi_31 dX12_line_152 ?_
    refine ux_iconst C (v := 1) (by decide) dX12_line_153 ?_
    refine ux_iadd C dX12_line_154 ?_
    obtain ⟨hi_30, hw⟩ := hw
    refine ux_iast C (uc_78 C.2.2.2.2.2) hi_30 dX12_line_155 ?_
    refine ux_goto C (tgt := 195) (by decide) dX12_line_156 ?_
    exact ux_vret C ⟨rfl, hw⟩ dX12_line_195
set_option maxHeartbeats 2000000 in
set_option maxRecDepth 4000 in
theorem c_Model_line_j77 {D : va_G} {G : Nat → Nat} {z N : Nat} {p : Program} {l : Launch} {e : Env} {s : State} {m : MethodId} {args : Array Value} {below : List Frame} {meth : Method} {c : Code} (hN : 92 ≤ N) {a0 : ud_St} {b_77 : ud_St} {y1_77 : Int32}  {Qf : ud_St → Prop} (C : ud_C D G z N p s m args meth c cX12_line 4 RX12 (none : Option Jvm.ClassFile.FieldType))  (hw : w_Model_line_j77 a0 b_77 y1_77 Qf) : ud_X D G z N p l e (ud_rm 5 0 0) s m args below meth c 4 0 0 (ud_Q D G z N (po_v Qf) below args s) b_77 77 [(0, .ref (z + 71)), (1, .int y1_77)] [] := by
  unfold w_Model_line_j77 at hw
  refine ux_aload_n C 0 rfl rfl dX12_line_77 ?_
  refine gf_12_129 C dX12_line_78 ?_
  refine ux_if_eq C (tgt := 85) (by decide) dX12_line_81 (fun hc_37 => ?_) (fun hc_37 => ?_)
  · replace hw := hw.1 hc_37
    refine ux_aload_n C 0 rfl rfl dX12_line_85 ?_
    refine cs_12_139 C  (c_Model_next hN  hw) (by decide) (by decide) (Nat.le_of_ble_eq_true rfl) dX12_line_86 (po_v.k fun a_8 hw => ?_)
    refine ux_iload_n C 1 rfl rfl dX12_line_89 ?_
    refine ux_if_eq C (tgt := 159) (by decide) dX12_line_90 (fun hc_36 => ?_) (fun hc_36 => ?_)
    · replace hw := hw.1 hc_36
      refine ux_aload_n C 0 rfl rfl dX12_line_159 ?_
      refine gf_12_43 C dX12_line_160 ?_
      refine ux_bipush C (v := 80) (by decide) dX12_line_163 ?_
      refine ux_aload_n C 0 rfl rfl dX12_line_165 ?_
      refine ux_iconst C (v := 5) (by decide) dX12_line_166 ?_
      refine cs_12_193 C  (c_Model_many hN  hw) (by decide) (by decide) (Nat.le_of_ble_eq_true rfl) dX12_line_167 (po_ip.k fun r_9 hw => ?_)
      refine ux_iadd C dX12_line_170 ?_
      refine ux_aload_n C 0 rfl rfl dX12_line_171 ?_
      refine ux_iconst C (v := 0) (by decide) dX12_line_172 ?_
      refine ux_aload_n C 0 rfl rfl dX12_line_173 ?_
      refine ux_iconst C (v := 2) (by decide) dX12_line_174 ?_
      refine cs_12_193 C  (c_Model_many hN  hw) (by decide) (by decide) (Nat.le_of_ble_eq_true rfl) dX12_line_175 (po_ip.k fun r_11 hw => ?_)
      refine ux_iconst C (v := 1) (by decide) dX12_line_178 ?_
      refine ux_isub C dX12_line_179 ?_
      refine cs_12_152 C  (c_Model_number hN  hw) (by decide) (by decide) (Nat.le_of_ble_eq_true rfl) dX12_line_180 (po_i.k fun r_13 a_14 hw => ?_)
      obtain ⟨hi_15, hw⟩ := hw
      refine ux_iast C (uc_81 C.2.2.2.2.2) hi_15 dX12_line_183 ?_
      refine ux_aload_n C 0 rfl rfl dX12_line_184 ?_
      refine gf_12_34 C dX12_line_185 ?_
      refine ux_bipush C (v := 29) (by decide) dX12_line_188 ?_
      refine ux_dup2 C rfl rfl dX12_line_190 ?_
      obtain ⟨hi_17, hw⟩ := hw
      refine ux_iald C (uc_78 C.2.2.2.2.2) hi_17 dX12_line_191 ?_
      refine ux_iconst C (v := 1) (by decide) dX12_line_192 ?_
      refine ux_iadd C dX12_line_193 ?_
      obtain ⟨hi_16, hw⟩ := hw
      refine ux_iast C (uc_78 C.2.2.2.2.2) hi_16 dX12_line_194 ?_
      exact ux_vret C ⟨rfl, hw⟩ dX12_line_195
    · replace hw := hw.2 hc_36
      refine ux_iconst C (v := 4) (by decide) dX12_line_93 ?_
      refine ux_bipush C (v := 24) (by decide) dX12_line_94 ?_
      refine ux_aload_n C 0 rfl rfl dX12_line_96 ?_
      refine ux_iconst C (v := 4) (by decide) dX12_line_97 ?_
      refine cs_12_193 C  (c_Model_many hN  hw) (by decide) (by decide) (Nat.le_of_ble_eq_true rfl) dX12_line_98 (po_ip.k fun r_18 hw => ?_)
      refine ux_iadd C dX12_line_101 ?_
      refine ux_imul C dX12_line_102 ?_
      refine ux_istore_n C rfl (by decide) rfl dX12_line_103 ?_
      refine ux_aload_n C 1 rfl rfl dX12_line_104 ?_
      refine ux_aload_n C 1 rfl rfl dX12_line_105 ?_
      refine gf_12_40 C dX12_line_106 ?_
      refine ux_iload_n C 0 rfl rfl dX12_line_109 ?_
      refine cs_12_204 C  (c_Model_wordTo hN (uc_80 C.2.2.2.2.2) hw) (by decide) (by decide) (Nat.le_of_ble_eq_true rfl) dX12_line_110 (po_v.k fun a_21 hw => ?_)
      refine ux_aload_n C 1 rfl rfl dX12_line_113 ?_
      refine cs_12_200 C  (c_Model_isGood hN  hw) (by decide) (by decide) (Nat.le_of_ble_eq_true rfl) dX12_line_114 (po_ip.k fun r_22 hw => ?_)
      refine ux_if_eq C (tgt := 127) (by decide) dX12_line_117 (fun hc_35 => ?_) (fun hc_35 => ?_)
      · replace hw := hw.1 hc_35
        exact ux_pick [1, 0] rfl (c_Model_line_j127 hN  C  hw)
      · replace hw := hw.2 hc_35
        refine ux_aload_n C 1 rfl rfl dX12_line_120 ?_
        refine ux_ldc2 C (v := 4797) mw_1548 dX12_line_121 ?_
        refine cs_12_148 C  (c_Model_asks hN  hw) (by decide) (by decide) (Nat.le_of_ble_eq_true rfl) dX12_line_124 (po_v.k fun a_34 hw => ?_)
        exact ux_pick [1, 0] rfl (c_Model_line_j127 hN  C  hw)
  · replace hw := hw.2 hc_37
    exact ux_vret C ⟨rfl, hw⟩ dX12_line_84
set_option maxHeartbeats 2000000 in
set_option maxRecDepth 4000 in
theorem c_Model_line_j72 {D : va_G} {G : Nat → Nat} {z N : Nat} {p : Program} {l : Launch} {e : Env} {s : State} {m : MethodId} {args : Array Value} {below : List Frame} {meth : Method} {c : Code} (hN : 92 ≤ N) {a0 : ud_St} {b_72 : ud_St} {y1_72 : Int32}  {Qf : ud_St → Prop} (C : ud_C D G z N p s m args meth c cX12_line 4 RX12 (none : Option Jvm.ClassFile.FieldType))  (hw : w_Model_line_j72 a0 b_72 y1_72 Qf) : ud_X D G z N p l e (ud_rm 5 0 0) s m args below meth c 4 0 0 (ud_Q D G z N (po_v Qf) below args s) b_72 72 [(0, .ref (z + 71)), (1, .int y1_72)] [] := by
  unfold w_Model_line_j72 at hw
  refine ux_aload_n C 0 rfl rfl dX12_line_72 ?_
  refine ux_iconst C (v := 3) (by decide) dX12_line_73 ?_
  refine cs_12_145 C  (c_Model_fails hN  hw) (by decide) (by decide) (Nat.le_of_ble_eq_true rfl) dX12_line_74 (po_v.k fun a_41 hw => ?_)
  exact ux_pick [0, 1] rfl (c_Model_line_j77 hN  C  hw)
set_option maxHeartbeats 2000000 in
set_option maxRecDepth 4000 in
theorem c_Model_line_j58 {D : va_G} {G : Nat → Nat} {z N : Nat} {p : Program} {l : Launch} {e : Env} {s : State} {m : MethodId} {args : Array Value} {below : List Frame} {meth : Method} {c : Code} (hN : 92 ≤ N) {a0 : ud_St} {b_58 : ud_St} {y1_58 : Int32} {y2_58 : Int32}  {Qf : ud_St → Prop} (C : ud_C D G z N p s m args meth c cX12_line 4 RX12 (none : Option Jvm.ClassFile.FieldType))  (hw : w_Model_line_j58 a0 b_58 y1_58 y2_58 Qf) : ud_X D G z N p l e (ud_rm 5 0 0) s m args below meth c 4 0 0 (ud_Q D G z N (po_v Qf) below args s) b_58 58 [(0, .ref (z + 71)), (1, .int y1_58), (2, .int y2_58)] [] := by
  unfold w_Model_line_j58 at hw
  refine ux_iload_n C 2 rfl rfl dX12_line_58 ?_
  refine ux_if_eq C (tgt := 77) (by decide) dX12_line_59 (fun hc_43 => ?_) (fun hc_43 => ?_)
  · replace hw := hw.1 hc_43
    exact ux_pick [0, 1] rfl (c_Model_line_j77 hN  C  hw)
  · replace hw := hw.2 hc_43
    refine ux_aload_n C 0 rfl rfl dX12_line_62 ?_
    refine ux_iconst C (v := 5) (by decide) dX12_line_63 ?_
    refine cs_12_193 C  (c_Model_many hN  hw) (by decide) (by decide) (Nat.le_of_ble_eq_true rfl) dX12_line_64 (po_ip.k fun r_38 hw => ?_)
    refine ux_bipush C (v := 20) (by decide) dX12_line_67 ?_
    refine ux_icmp_ne C (tgt := 77) (by decide) dX12_line_69 (fun hc_42 => ?_) (fun hc_42 => ?_)
    · replace hw := hw.2 hc_42
      exact ux_pick [0, 1] rfl (c_Model_line_j77 hN  C  hw)
    · replace hw := hw.1 hc_42
      exact ux_pick [0, 1] rfl (c_Model_line_j72 hN  C  hw)
set_option maxHeartbeats 2000000 in
set_option maxRecDepth 4000 in
theorem c_Model_line_j44 {D : va_G} {G : Nat → Nat} {z N : Nat} {p : Program} {l : Launch} {e : Env} {s : State} {m : MethodId} {args : Array Value} {below : List Frame} {meth : Method} {c : Code} (hN : 92 ≤ N) {a0 : ud_St} {b_44 : ud_St} {y1_44 : Int32} {y2_44 : Int32}  {Qf : ud_St → Prop} (C : ud_C D G z N p s m args meth c cX12_line 4 RX12 (none : Option Jvm.ClassFile.FieldType))  (hw : w_Model_line_j44 a0 b_44 y1_44 y2_44 Qf) : ud_X D G z N p l e (ud_rm 5 0 0) s m args below meth c 4 0 0 (ud_Q D G z N (po_v Qf) below args s) b_44 44 [(0, .ref (z + 71)), (1, .int y1_44), (2, .int y2_44)] [] := by
  unfold w_Model_line_j44 at hw
  refine ux_iload_n C 1 rfl rfl dX12_line_44 ?_
  refine ux_if_eq C (tgt := 58) (by decide) dX12_line_45 (fun hc_47 => ?_) (fun hc_47 => ?_)
  · replace hw := hw.1 hc_47
    exact ux_pick [0, 1, 2] rfl (c_Model_line_j58 hN  C  hw)
  · replace hw := hw.2 hc_47
    refine ux_aload_n C 0 rfl rfl dX12_line_48 ?_
    refine ux_iconst C (v := 4) (by decide) dX12_line_49 ?_
    refine cs_12_193 C  (c_Model_many hN  hw) (by decide) (by decide) (Nat.le_of_ble_eq_true rfl) dX12_line_50 (po_ip.k fun r_44 hw => ?_)
    refine ux_bipush C (v := 6) (by decide) dX12_line_53 ?_
    refine ux_icmp_eq C (tgt := 72) (by decide) dX12_line_55 (fun hc_46 => ?_) (fun hc_46 => ?_)
    · replace hw := hw.1 hc_46
      exact ux_pick [0, 1] rfl (c_Model_line_j72 hN  C  hw)
    · replace hw := hw.2 hc_46
      exact ux_pick [0, 1, 2] rfl (c_Model_line_j58 hN  C  hw)
set_option maxHeartbeats 2000000 in
set_option maxRecDepth 4000 in
theorem c_Model_line {l : Launch} {D : va_G} {G : Nat → Nat} {z N : Nat} (hN : 92 ≤ N) {a0 : ud_St}   {Qf : ud_St → Prop} (hw : w_Model_line a0  Qf) : ud_M l D G z N yX12_line cX12_line 4 (none : Option Jvm.ClassFile.FieldType) 5 [.ref (z + 71)] a0 (po_v Qf) := by
  unfold w_Model_line at hw
  refine ud_M_of hN (by decide) (Nat.le_of_ble_eq_true rfl) ?_
  intro p e s m args below meth c C
  have C : ud_C D G z N p s m args meth c cX12_line 4 RX12 (none : Option Jvm.ClassFile.FieldType) := C
  show ud_X D G z N p l e (ud_rm 5 0 0) s m args below meth c 4 0 0 (ud_Q D G z N (po_v Qf) below args s) a0 0 [(0, .ref (z + 71))] []
  refine ux_aload_n C 0 rfl rfl dX12_line_0 ?_
  refine ux_ldc2 C (v := 382984) mw_1518 dX12_line_1 ?_
  refine cs_12_135 C  (c_Model_is hN  hw) (by decide) (by decide) (Nat.le_of_ble_eq_true rfl) dX12_line_4 (po_ip.k fun r_1 hw => ?_)
  refine ux_istore_n C rfl (by decide) rfl dX12_line_7 ?_
  refine ux_aload_n C 1 rfl rfl dX12_line_8 ?_
  refine ux_ldc2 C (v := 212302449) mw_1519 dX12_line_9 ?_
  refine cs_12_135 C  (c_Model_is hN  hw) (by decide) (by decide) (Nat.le_of_ble_eq_true rfl) dX12_line_12 (po_ip.k fun r_3 hw => ?_)
  refine ux_istore_n C rfl (by decide) rfl dX12_line_15 ?_
  refine ux_aload_n C 2 rfl rfl dX12_line_16 ?_
  refine ux_ldc2 C (v := 2427955) mw_1520 dX12_line_17 ?_
  refine cs_12_135 C  (c_Model_is hN  hw) (by decide) (by decide) (Nat.le_of_ble_eq_true rfl) dX12_line_20 (po_ip.k fun r_5 hw => ?_)
  refine ux_if_eq C (tgt := 31) (by decide) dX12_line_23 (fun hc_54 => ?_) (fun hc_54 => ?_)
  · replace hw := hw.1 hc_54
    refine ux_iload_n C 1 rfl rfl dX12_line_31 ?_
    refine ux_if_ne C (tgt := 44) (by decide) dX12_line_32 (fun hc_51 => ?_) (fun hc_51 => ?_)
    · replace hw := hw.2 hc_51
      exact ux_pick [2, 1, 0] rfl (c_Model_line_j44 hN  C  hw)
    · replace hw := hw.1 hc_51
      refine ux_iload_n C 0 rfl rfl dX12_line_35 ?_
      refine ux_if_ne C (tgt := 44) (by decide) dX12_line_36 (fun hc_50 => ?_) (fun hc_50 => ?_)
      · replace hw := hw.2 hc_50
        exact ux_pick [2, 1, 0] rfl (c_Model_line_j44 hN  C  hw)
      · replace hw := hw.1 hc_50
        refine ux_aload_n C 2 rfl rfl dX12_line_39 ?_
        refine ux_iconst C (v := 1) (by decide) dX12_line_40 ?_
        refine cs_12_145 C  (c_Model_fails hN  hw) (by decide) (by decide) (Nat.le_of_ble_eq_true rfl) dX12_line_41 (po_v.k fun a_49 hw => ?_)
        exact ux_pick [2, 1, 0] rfl (c_Model_line_j44 hN  C  hw)
  · replace hw := hw.2 hc_54
    refine ux_aload_n C 2 rfl rfl dX12_line_26 ?_
    refine cs_12_214 C  (c_Model_doing hN  hw) (by decide) (by decide) (Nat.le_of_ble_eq_true rfl) dX12_line_27 (po_v.k fun a_53 hw => ?_)
    exact ux_vret C ⟨rfl, hw⟩ dX12_line_30
set_option maxHeartbeats 2000000 in
set_option maxRecDepth 4000 in
theorem c_Model_first_j84 {D : va_G} {G : Nat → Nat} {z N : Nat} {p : Program} {l : Launch} {e : Env} {s : State} {m : MethodId} {args : Array Value} {below : List Frame} {meth : Method} {c : Code} (hN : 92 ≤ N) {a0 : ud_St} {b_84 : ud_St}  {Qf : ud_St → Prop} (C : ud_C D G z N p s m args meth c cX12_first 1 RX12 (none : Option Jvm.ClassFile.FieldType))  (hw : w_Model_first_j84 a0 b_84 Qf) : ud_X D G z N p l e (ud_rm 5 0 0) s m args below meth c 1 0 0 (ud_Q D G z N (po_v Qf) below args s) b_84 84 [(0, .ref (z + 71))] [] := by
  unfold w_Model_first_j84 at hw
  refine ux_aload_n C 0 rfl rfl dX12_first_84 ?_
  refine gf_12_34 C dX12_first_85 ?_
  refine ux_bipush C (v := 25) (by decide) dX12_first_88 ?_
  refine ux_aload_n C 0 rfl rfl dX12_first_90 ?_
  refine ux_iconst C (v := 1) (by decide) dX12_first_91 ?_
  refine ux_bipush C (v := 8) (by decide) dX12_first_92 ?_
  refine cs_12_152 C  (c_Model_number hN  hw) (by decide) (by decide) (Nat.le_of_ble_eq_true rfl) dX12_first_94 (po_i.k fun r_8 a_9 hw => ?_)
  obtain ⟨hi_10, hw⟩ := hw
  refine ux_iast C (uc_78 C.2.2.2.2.2) hi_10 dX12_first_97 ?_
  refine ux_aload_n C 0 rfl rfl dX12_first_98 ?_
  refine gf_12_34 C dX12_first_99 ?_
  refine ux_bipush C (v := 26) (by decide) dX12_first_102 ?_
  refine ux_aload_n C 0 rfl rfl dX12_first_104 ?_
  refine ux_iconst C (v := 0) (by decide) dX12_first_105 ?_
  refine cs_12_193 C  (c_Model_many hN  hw) (by decide) (by decide) (Nat.le_of_ble_eq_true rfl) dX12_first_106 (po_ip.k fun r_11 hw => ?_)
  refine ux_aload_n C 0 rfl rfl dX12_first_109 ?_
  refine ux_iconst C (v := 1) (by decide) dX12_first_110 ?_
  refine cs_12_193 C  (c_Model_many hN  hw) (by decide) (by decide) (Nat.le_of_ble_eq_true rfl) dX12_first_111 (po_ip.k fun r_13 hw => ?_)
  refine cs_12_230 C  (c_Model_power hN  hw) (by decide) (by decide) (Nat.le_of_ble_eq_true rfl) dX12_first_114 (po_ip.k fun r_15 hw => ?_)
  obtain ⟨hi_17, hw⟩ := hw
  refine ux_iast C (uc_78 C.2.2.2.2.2) hi_17 dX12_first_117 ?_
  exact ux_vret C ⟨rfl, hw⟩ dX12_first_118
set_option maxHeartbeats 2000000 in
set_option maxRecDepth 4000 in
theorem c_Model_first {l : Launch} {D : va_G} {G : Nat → Nat} {z N : Nat} (hN : 92 ≤ N) {a0 : ud_St}   {Qf : ud_St → Prop} (hw : w_Model_first a0  Qf) : ud_M l D G z N yX12_first cX12_first 1 (none : Option Jvm.ClassFile.FieldType) 5 [.ref (z + 71)] a0 (po_v Qf) := by
  unfold w_Model_first at hw
  refine ud_M_of hN (by decide) (Nat.le_of_ble_eq_true rfl) ?_
  intro p e s m args below meth c C
  have C : ud_C D G z N p s m args meth c cX12_first 1 RX12 (none : Option Jvm.ClassFile.FieldType) := C
  show ud_X D G z N p l e (ud_rm 5 0 0) s m args below meth c 1 0 0 (ud_Q D G z N (po_v Qf) below args s) a0 0 [(0, .ref (z + 71))] []
  refine ux_aload_n C 0 rfl rfl dX12_first_0 ?_
  refine ux_ldc2 C (v := 10650290) mw_1479 dX12_first_1 ?_
  refine cs_12_148 C  (c_Model_asks hN  hw) (by decide) (by decide) (Nat.le_of_ble_eq_true rfl) dX12_first_4 (po_v.k fun a_2 hw => ?_)
  refine ux_aload_n C 0 rfl rfl dX12_first_7 ?_
  refine gf_12_34 C dX12_first_8 ?_
  refine ux_bipush C (v := 24) (by decide) dX12_first_11 ?_
  refine ux_aload_n C 0 rfl rfl dX12_first_13 ?_
  refine ux_ldc2 C (v := 40613) mw_1496 dX12_first_14 ?_
  refine ux_iconst C (v := 2) (by decide) dX12_first_17 ?_
  refine ux_bipush C (v := 16) (by decide) dX12_first_18 ?_
  refine cs_12_223 C  (c_Model_number_ hN  hw) (by decide) (by decide) (Nat.le_of_ble_eq_true rfl) dX12_first_20 (po_i.k fun r_3 a_4 hw => ?_)
  obtain ⟨hi_5, hw⟩ := hw
  refine ux_iast C (uc_78 C.2.2.2.2.2) hi_5 dX12_first_23 ?_
  refine ux_aload_n C 0 rfl rfl dX12_first_24 ?_
  refine ux_ldc2 C (v := 247516) mw_1505 dX12_first_25 ?_
  refine cs_12_148 C  (c_Model_asks hN  hw) (by decide) (by decide) (Nat.le_of_ble_eq_true rfl) dX12_first_28 (po_v.k fun a_7 hw => ?_)
  refine ux_aload_n C 0 rfl rfl dX12_first_31 ?_
  refine gf_12_129 C dX12_first_32 ?_
  refine ux_if_ne C (tgt := 84) (by decide) dX12_first_35 (fun hc_29 => ?_) (fun hc_29 => ?_)
  · replace hw := hw.2 hc_29
    exact ux_pick [0] rfl (c_Model_first_j84 hN  C  hw)
  · replace hw := hw.1 hc_29
    refine ux_aload_n C 0 rfl rfl dX12_first_38 ?_
    refine gf_12_118 C dX12_first_39 ?_
    refine ux_iconst C (v := 2) (by decide) dX12_first_42 ?_
    refine ux_icmp_ne C (tgt := 84) (by decide) dX12_first_43 (fun hc_28 => ?_) (fun hc_28 => ?_)
    · replace hw := hw.2 hc_28
      exact ux_pick [0] rfl (c_Model_first_j84 hN  C  hw)
    · replace hw := hw.1 hc_28
      refine ux_aload_n C 0 rfl rfl dX12_first_46 ?_
      refine gf_12_111 C dX12_first_47 ?_
      refine ux_i2l C dX12_first_50 ?_
      refine ux_lconst C (v := 1) (by decide) dX12_first_51 ?_
      refine ux_ldc2 C (v := 8) mw_1506 dX12_first_52 ?_
      refine cs_12_82 C  (c_Model_in hN  hw) (by decide) (by decide) (Nat.le_of_ble_eq_true rfl) dX12_first_55 (po_ip.k fun r_18 hw => ?_)
      refine ux_if_eq C (tgt := 84) (by decide) dX12_first_58 (fun hc_27 => ?_) (fun hc_27 => ?_)
      · replace hw := hw.1 hc_27
        exact ux_pick [0] rfl (c_Model_first_j84 hN  C  hw)
      · replace hw := hw.2 hc_27
        refine ux_aload_n C 0 rfl rfl dX12_first_61 ?_
        refine ux_iconst C (v := 0) (by decide) dX12_first_62 ?_
        refine cs_12_193 C  (c_Model_many hN  hw) (by decide) (by decide) (Nat.le_of_ble_eq_true rfl) dX12_first_63 (po_ip.k fun r_20 hw => ?_)
        refine ux_aload_n C 0 rfl rfl dX12_first_66 ?_
        refine gf_12_111 C dX12_first_67 ?_
        refine cs_12_230 C  (c_Model_power hN  hw) (by decide) (by decide) (Nat.le_of_ble_eq_true rfl) dX12_first_70 (po_ip.k fun r_22 hw => ?_)
        refine ux_sipush C (v := 10000) (by decide) dX12_first_73 ?_
        refine ux_icmp_le C (tgt := 84) (by decide) dX12_first_76 (fun hc_26 => ?_) (fun hc_26 => ?_)
        · replace hw := hw.1 hc_26
          exact ux_pick [0] rfl (c_Model_first_j84 hN  C  hw)
        · replace hw := hw.2 hc_26
          refine ux_aload_n C 0 rfl rfl dX12_first_79 ?_
          refine ux_iconst C (v := 2) (by decide) dX12_first_80 ?_
          refine cs_12_145 C  (c_Model_fails hN  hw) (by decide) (by decide) (Nat.le_of_ble_eq_true rfl) dX12_first_81 (po_v.k fun a_25 hw => ?_)
          exact ux_pick [0] rfl (c_Model_first_j84 hN  C  hw)
set_option maxHeartbeats 2000000 in
set_option maxRecDepth 4000 in
theorem c_Model_lays {l : Launch} {D : va_G} {G : Nat → Nat} {z N : Nat} (hN : 92 ≤ N) {a0 : ud_St}   {Qf : ud_St → Prop} (hw : w_Model_lays a0  Qf) : ud_M l D G z N yX12_lays cX12_lays 2 (none : Option Jvm.ClassFile.FieldType) 5 [.ref (z + 71)] a0 (po_v Qf) := by
  unfold w_Model_lays at hw
  refine ud_M_of hN (by decide) (Nat.le_of_ble_eq_true rfl) ?_
  intro p e s m args below meth c C
  have C : ud_C D G z N p s m args meth c cX12_lays 2 RX12 (none : Option Jvm.ClassFile.FieldType) := C
  show ud_X D G z N p l e (ud_rm 5 0 0) s m args below meth c 2 0 0 (ud_Q D G z N (po_v Qf) below args s) a0 0 [(0, .ref (z + 71))] []
  refine ux_iconst C (v := 0) (by decide) dX12_lays_0 ?_
  refine ux_istore_n C rfl (by decide) rfl dX12_lays_1 ?_
  refine ux_pick [1, 0] rfl ?_
  refine LW2.elim (P := fun (x1_3 : Int32) (a_4 : ud_St) => ud_X D G z N p l e (ud_rm 5 0 0) s m args below meth c 2 0 0 (ud_Q D G z N (po_v Qf) below args s) a_4 2 [(0, .ref (z + 71)), (1, .int x1_3)] []) hw ?_
  intro x1_3 a_4 K_1 hw ih_2
  refine ux_iload_n C 1 rfl rfl dX12_lays_2 ?_
  refine ux_aload_n C 0 rfl rfl dX12_lays_3 ?_
  refine gf_12_34 C dX12_lays_4 ?_
  refine ux_iconst C (v := 2) (by decide) dX12_lays_7 ?_
  obtain ⟨hi_10, hw⟩ := hw
  refine ux_iald C (uc_78 C.2.2.2.2.2) hi_10 dX12_lays_8 ?_
  refine ux_icmp_ge C (tgt := 35) (by decide) dX12_lays_9 (fun hc_9 => ?_) (fun hc_9 => ?_)
  · replace hw := hw.1 hc_9
    exact ux_vret C ⟨rfl, hw⟩ dX12_lays_35
  · replace hw := hw.2 hc_9
    refine ux_aload_n C 0 rfl rfl dX12_lays_12 ?_
    refine gf_12_56 C dX12_lays_13 ?_
    refine ux_iload_n C 1 rfl rfl dX12_lays_16 ?_
    refine ux_aload_n C 0 rfl rfl dX12_lays_17 ?_
    refine ux_iload_n C 1 rfl rfl dX12_lays_18 ?_
    refine ux_aload_n C 0 rfl rfl dX12_lays_19 ?_
    refine gf_12_34 C dX12_lays_20 ?_
    refine ux_iconst C (v := 3) (by decide) dX12_lays_23 ?_
    obtain ⟨hi_8, hw⟩ := hw
    refine ux_iald C (uc_78 C.2.2.2.2.2) hi_8 dX12_lays_24 ?_
    refine cs_12_289 C  (c_Model_through0 hN  hw) (by decide) (by decide) (Nat.le_of_ble_eq_true rfl) dX12_lays_25 (po_i.k fun r_5 a_6 hw => ?_)
    obtain ⟨hi_7, hw⟩ := hw
    refine ux_iast C (uc_85 C.2.2.2.2.2) hi_7 dX12_lays_28 ?_
    refine ux_iinc C 1 rfl rfl (by decide) rfl dX12_lays_29 ?_
    refine ux_goto C (tgt := 2) (by decide) dX12_lays_32 ?_
    exact ux_pick [1, 0] rfl (ih_2 _ _ hw)
set_option maxHeartbeats 2000000 in
set_option maxRecDepth 4000 in
theorem c_Model_next_ {l : Launch} {D : va_G} {G : Nat → Nat} {z N : Nat} (hN : 92 ≤ N) {a0 : ud_St} {x1 : Int32}  {Qf : Int32 → ud_St → Prop} (hw : w_Model_next_ a0 x1 Qf) : ud_M l D G z N yX12_next_ cX12_next_ 2 (some Jvm.ClassFile.FieldType.int) 5 [.ref (z + 71), .int x1] a0 (po_i Qf) := by
  unfold w_Model_next_ at hw
  refine ud_M_of hN (by decide) (Nat.le_of_ble_eq_true rfl) ?_
  intro p e s m args below meth c C
  have C : ud_C D G z N p s m args meth c cX12_next_ 2 RX12 (some Jvm.ClassFile.FieldType.int) := C
  show ud_X D G z N p l e (ud_rm 5 0 0) s m args below meth c 2 0 0 (ud_Q D G z N (po_i Qf) below args s) a0 0 [(0, .ref (z + 71)), (1, .int x1)] []
  refine ux_aload_n C 0 rfl rfl dX12_next__0 ?_
  refine ux_iconst C (v := 0) (by decide) dX12_next__1 ?_
  refine pf_12_77 C dX12_next__2 ?_
  refine ux_aload_n C 0 rfl rfl dX12_next__5 ?_
  refine ux_iload_n C 1 rfl rfl dX12_next__6 ?_
  refine ux_i2l C dX12_next__7 ?_
  refine cs_12_302 C  (c_Model_isNumber hN  hw) (by decide) (by decide) (Nat.le_of_ble_eq_true rfl) dX12_next__8 (po_ip.k fun r_1 hw => ?_)
  refine ux_if_eq C (tgt := 28) (by decide) dX12_next__11 (fun hc_6 => ?_) (fun hc_6 => ?_)
  · replace hw := hw.1 hc_6
    refine ux_bipush C (v := -2) (by decide) dX12_next__28 ?_
    exact ux_iret C ⟨_, rfl, hw⟩ dX12_next__30
  · replace hw := hw.2 hc_6
    refine ux_aload_n C 0 rfl rfl dX12_next__14 ?_
    refine ux_iload_n C 1 rfl rfl dX12_next__15 ?_
    refine ux_aload_n C 0 rfl rfl dX12_next__16 ?_
    refine gf_12_34 C dX12_next__17 ?_
    refine ux_iconst C (v := 3) (by decide) dX12_next__20 ?_
    obtain ⟨hi_5, hw⟩ := hw
    refine ux_iald C (uc_78 C.2.2.2.2.2) hi_5 dX12_next__21 ?_
    refine cs_12_289 C  (c_Model_through0 hN  hw) (by decide) (by decide) (Nat.le_of_ble_eq_true rfl) dX12_next__22 (po_i.k fun r_3 a_4 hw => ?_)
    refine ux_goto C (tgt := 30) (by decide) dX12_next__25 ?_
    exact ux_iret C ⟨_, rfl, hw⟩ dX12_next__30
set_option maxHeartbeats 2000000 in
set_option maxRecDepth 4000 in
theorem c_Model_through {l : Launch} {D : va_G} {G : Nat → Nat} {z N : Nat} (hN : 92 ≤ N) {a0 : ud_St} {x1 : Int32} {x2 : Int32}  {Qf : Int32 → ud_St → Prop} (hw : w_Model_through a0 x1 x2 Qf) : ud_M l D G z N yX12_through cX12_through 3 (some Jvm.ClassFile.FieldType.int) 5 [.ref (z + 71), .int x1, .int x2] a0 (po_i Qf) := by
  unfold w_Model_through at hw
  refine ud_M_of hN (by decide) (Nat.le_of_ble_eq_true rfl) ?_
  intro p e s m args below meth c C
  have C : ud_C D G z N p s m args meth c cX12_through 3 RX12 (some Jvm.ClassFile.FieldType.int) := C
  show ud_X D G z N p l e (ud_rm 5 0 0) s m args below meth c 3 0 0 (ud_Q D G z N (po_i Qf) below args s) a0 0 [(0, .ref (z + 71)), (1, .int x1), (2, .int x2)] []
  refine ux_aload_n C 0 rfl rfl dX12_through_0 ?_
  refine ux_iconst C (v := 0) (by decide) dX12_through_1 ?_
  refine pf_12_77 C dX12_through_2 ?_
  refine ux_aload_n C 0 rfl rfl dX12_through_5 ?_
  refine ux_iload_n C 1 rfl rfl dX12_through_6 ?_
  refine ux_i2l C dX12_through_7 ?_
  refine cs_12_302 C  (c_Model_isNumber hN  hw) (by decide) (by decide) (Nat.le_of_ble_eq_true rfl) dX12_through_8 (po_ip.k fun r_1 hw => ?_)
  refine ux_if_eq C (tgt := 39) (by decide) dX12_through_11 (fun hc_9 => ?_) (fun hc_9 => ?_)
  · replace hw := hw.1 hc_9
    refine ux_bipush C (v := -2) (by decide) dX12_through_39 ?_
    exact ux_iret C ⟨_, rfl, hw⟩ dX12_through_41
  · replace hw := hw.2 hc_9
    refine ux_iload_n C 2 rfl rfl dX12_through_14 ?_
    refine ux_i2l C dX12_through_15 ?_
    refine ux_lconst C (v := 0) (by decide) dX12_through_16 ?_
    refine ux_aload_n C 0 rfl rfl dX12_through_17 ?_
    refine gf_12_34 C dX12_through_18 ?_
    refine ux_iconst C (v := 3) (by decide) dX12_through_21 ?_
    obtain ⟨hi_8, hw⟩ := hw
    refine ux_iald C (uc_78 C.2.2.2.2.2) hi_8 dX12_through_22 ?_
    refine ux_i2l C dX12_through_23 ?_
    refine cs_12_82 C  (c_Model_in hN  hw) (by decide) (by decide) (Nat.le_of_ble_eq_true rfl) dX12_through_24 (po_ip.k fun r_3 hw => ?_)
    refine ux_if_eq C (tgt := 39) (by decide) dX12_through_27 (fun hc_7 => ?_) (fun hc_7 => ?_)
    · replace hw := hw.1 hc_7
      refine ux_bipush C (v := -2) (by decide) dX12_through_39 ?_
      exact ux_iret C ⟨_, rfl, hw⟩ dX12_through_41
    · replace hw := hw.2 hc_7
      refine ux_aload_n C 0 rfl rfl dX12_through_30 ?_
      refine ux_iload_n C 1 rfl rfl dX12_through_31 ?_
      refine ux_iload_n C 2 rfl rfl dX12_through_32 ?_
      refine cs_12_289 C  (c_Model_through0 hN  hw) (by decide) (by decide) (Nat.le_of_ble_eq_true rfl) dX12_through_33 (po_i.k fun r_5 a_6 hw => ?_)
      refine ux_goto C (tgt := 41) (by decide) dX12_through_36 ?_
      exact ux_iret C ⟨_, rfl, hw⟩ dX12_through_41
set_option maxHeartbeats 2000000 in
set_option maxRecDepth 4000 in
theorem c_Model_slip {l : Launch} {D : va_G} {G : Nat → Nat} {z N : Nat} (hN : 92 ≤ N) {a0 : ud_St} {x1 : Int32} {x2 : Int32} {x3 : Int32}  {Qf : Int32 → ud_St → Prop} (hw : w_Model_slip a0 x1 x2 x3 Qf) : ud_M l D G z N yX12_slip cX12_slip 5 (some Jvm.ClassFile.FieldType.int) 5 [.ref (z + 71), .int x1, .int x2, .int x3] a0 (po_i Qf) := by
  unfold w_Model_slip at hw
  refine ud_M_of hN (by decide) (Nat.le_of_ble_eq_true rfl) ?_
  intro p e s m args below meth c C
  have C : ud_C D G z N p s m args meth c cX12_slip 5 RX12 (some Jvm.ClassFile.FieldType.int) := C
  show ud_X D G z N p l e (ud_rm 5 0 0) s m args below meth c 5 0 0 (ud_Q D G z N (po_i Qf) below args s) a0 0 [(0, .ref (z + 71)), (1, .int x1), (2, .int x2), (3, .int x3)] []
  refine ux_aload_n C 0 rfl rfl dX12_slip_0 ?_
  refine ux_iconst C (v := 0) (by decide) dX12_slip_1 ?_
  refine pf_12_77 C dX12_slip_2 ?_
  refine ux_aload_n C 0 rfl rfl dX12_slip_5 ?_
  refine ux_iload_n C 1 rfl rfl dX12_slip_6 ?_
  refine ux_i2l C dX12_slip_7 ?_
  refine cs_12_302 C  (c_Model_isNumber hN  hw) (by decide) (by decide) (Nat.le_of_ble_eq_true rfl) dX12_slip_8 (po_ip.k fun r_1 hw => ?_)
  refine ux_if_eq C (tgt := 40) (by decide) dX12_slip_11 (fun hc_13 => ?_) (fun hc_13 => ?_)
  · replace hw := hw.1 hc_13
    refine ux_bipush C (v := -2) (by decide) dX12_slip_40 ?_
    exact ux_iret C ⟨_, rfl, hw⟩ dX12_slip_42
  · replace hw := hw.2 hc_13
    refine ux_aload_n C 0 rfl rfl dX12_slip_14 ?_
    refine ux_iload_n C 2 rfl rfl dX12_slip_15 ?_
    refine cs_12_292 C  (c_Model_isWord hN  hw) (by decide) (by decide) (Nat.le_of_ble_eq_true rfl) dX12_slip_16 (po_ip.k fun r_3 hw => ?_)
    refine ux_if_eq C (tgt := 40) (by decide) dX12_slip_19 (fun hc_12 => ?_) (fun hc_12 => ?_)
    · replace hw := hw.1 hc_12
      refine ux_bipush C (v := -2) (by decide) dX12_slip_40 ?_
      exact ux_iret C ⟨_, rfl, hw⟩ dX12_slip_42
    · replace hw := hw.2 hc_12
      refine ux_iload_n C 3 rfl rfl dX12_slip_22 ?_
      refine ux_i2l C dX12_slip_23 ?_
      refine ux_lconst C (v := 0) (by decide) dX12_slip_24 ?_
      refine ux_aload_n C 0 rfl rfl dX12_slip_25 ?_
      refine gf_12_34 C dX12_slip_26 ?_
      refine ux_iconst C (v := 4) (by decide) dX12_slip_29 ?_
      obtain ⟨hi_11, hw⟩ := hw
      refine ux_iald C (uc_78 C.2.2.2.2.2) hi_11 dX12_slip_30 ?_
      refine ux_iconst C (v := 1) (by decide) dX12_slip_31 ?_
      refine ux_isub C dX12_slip_32 ?_
      refine ux_i2l C dX12_slip_33 ?_
      refine cs_12_82 C  (c_Model_in hN  hw) (by decide) (by decide) (Nat.le_of_ble_eq_true rfl) dX12_slip_34 (po_ip.k fun r_5 hw => ?_)
      refine ux_if_ne C (tgt := 43) (by decide) dX12_slip_37 (fun hc_10 => ?_) (fun hc_10 => ?_)
      · replace hw := hw.2 hc_10
        refine ux_aload_n C 0 rfl rfl dX12_slip_43 ?_
        refine ux_iload_n C 1 rfl rfl dX12_slip_44 ?_
        refine ux_iload_n C 2 rfl rfl dX12_slip_45 ?_
        refine ux_iload_n C 3 rfl rfl dX12_slip_46 ?_
        refine cs_12_381 C  (c_Model_slipped hN  hw) (by decide) (by decide) (Nat.le_of_ble_eq_true rfl) dX12_slip_47 (po_i.k fun r_7 a_8 hw => ?_)
        refine ux_istore C (by decide) rfl dX12_slip_50 ?_
        refine ux_iload C 0 rfl dX12_slip_52 ?_
        refine ux_iconst C (v := -1) (by decide) dX12_slip_54 ?_
        refine ux_icmp_ne C (tgt := 63) (by decide) dX12_slip_55 (fun hc_9 => ?_) (fun hc_9 => ?_)
        · replace hw := hw.2 hc_9
          refine ux_iload C 0 rfl dX12_slip_63 ?_
          exact ux_iret C ⟨_, rfl, hw⟩ dX12_slip_65
        · replace hw := hw.1 hc_9
          refine ux_bipush C (v := -2) (by decide) dX12_slip_58 ?_
          refine ux_goto C (tgt := 65) (by decide) dX12_slip_60 ?_
          exact ux_iret C ⟨_, rfl, hw⟩ dX12_slip_65
      · replace hw := hw.1 hc_10
        refine ux_bipush C (v := -2) (by decide) dX12_slip_40 ?_
        exact ux_iret C ⟨_, rfl, hw⟩ dX12_slip_42
set_option maxHeartbeats 2000000 in
set_option maxRecDepth 4000 in
theorem c_Model_fits_j45 {D : va_G} {G : Nat → Nat} {z N : Nat} {p : Program} {l : Launch} {e : Env} {s : State} {m : MethodId} {args : Array Value} {below : List Frame} {meth : Method} {c : Code} (hN : 92 ≤ N) {a0 : ud_St} {x1 : Int32} {x2 : Int32} {b_45 : ud_St} {y1_45 : Int32} {y2_45 : Int32} {y3_45 : Int32} {y4_45 : Int32} {y5_45 : Int32} {K_5 : Int32 → Int32 → ud_St → Prop}  {Qf : Int32 → ud_St → Prop} (C : ud_C D G z N p s m args meth c cX12_fits 6 RX12 (some Jvm.ClassFile.FieldType.int)) (ih_6 : ∀ (v0 : Int32) (v1 : Int32) (v2 : ud_St), K_5 v0 v1 v2 → ud_X D G z N p l e (ud_rm 5 0 0) s m args below meth c 6 0 0 (ud_Q D G z N (po_i Qf) below args s) v2 31 [(0, .ref (z + 71)), (1, .int y1_45), (2, .int y2_45), (3, .int v0), (4, .int v1)] []) (hw : w_Model_fits_j45 a0 x1 x2 b_45 y1_45 y2_45 y3_45 y4_45 y5_45 K_5 Qf) : ud_X D G z N p l e (ud_rm 5 0 0) s m args below meth c 6 0 0 (ud_Q D G z N (po_i Qf) below args s) b_45 45 [(0, .ref (z + 71)), (1, .int y1_45), (2, .int y2_45), (3, .int y3_45), (4, .int y4_45), (5, .int y5_45)] [] := by
  unfold w_Model_fits_j45 at hw
  refine ux_pick [0, 1, 2, 3, 4, 5] rfl ?_
  refine LW3.elim (P := fun (x3_12 : Int32) (x5_13 : Int32) (a_14 : ud_St) => ud_X D G z N p l e (ud_rm 5 0 0) s m args below meth c 6 0 0 (ud_Q D G z N (po_i Qf) below args s) a_14 45 [(0, .ref (z + 71)), (1, .int y1_45), (2, .int y2_45), (3, .int x3_12), (4, .int y4_45), (5, .int x5_13)] []) hw ?_
  intro x3_12 x5_13 a_14 K_10 hw ih_11
  refine ux_iload C 5 rfl dX12_fits_45 ?_
  refine ux_aload_n C 0 rfl rfl dX12_fits_47 ?_
  refine gf_12_34 C dX12_fits_48 ?_
  refine ux_iconst C (v := 4) (by decide) dX12_fits_51 ?_
  obtain ⟨hi_19, hw⟩ := hw
  refine ux_iald C (uc_78 C.2.2.2.2.2) hi_19 dX12_fits_52 ?_
  refine ux_icmp_ge C (tgt := 83) (by decide) dX12_fits_53 (fun hc_18 => ?_) (fun hc_18 => ?_)
  · replace hw := hw.1 hc_18
    refine ux_iinc C 4 rfl rfl (by decide) rfl dX12_fits_83 ?_
    refine ux_goto C (tgt := 31) (by decide) dX12_fits_86 ?_
    exact ux_pick [1, 2, 3, 4, 0] rfl (ih_6 _ _ _ hw)
  · replace hw := hw.2 hc_18
    refine ux_iload_n C 3 rfl rfl dX12_fits_56 ?_
    refine ux_aload_n C 0 rfl rfl dX12_fits_57 ?_
    refine ux_iload_n C 1 rfl rfl dX12_fits_58 ?_
    refine ux_iload C 4 rfl dX12_fits_59 ?_
    refine ux_iload C 5 rfl dX12_fits_61 ?_
    refine cs_12_381 C  (c_Model_slipped hN  hw) (by decide) (by decide) (Nat.le_of_ble_eq_true rfl) dX12_fits_63 (po_i.k fun r_15 a_16 hw => ?_)
    refine ux_iload_n C 2 rfl rfl dX12_fits_66 ?_
    refine ux_icmp_ne C (tgt := 74) (by decide) dX12_fits_67 (fun hc_17 => ?_) (fun hc_17 => ?_)
    · replace hw := hw.2 hc_17
      refine ux_iconst C (v := 0) (by decide) dX12_fits_74 ?_
      refine ux_iadd C dX12_fits_75 ?_
      refine ux_istore_n C rfl (by decide) rfl dX12_fits_76 ?_
      refine ux_iinc C 5 rfl rfl (by decide) rfl dX12_fits_77 ?_
      refine ux_goto C (tgt := 45) (by decide) dX12_fits_80 ?_
      exact ux_pick [2, 3, 4, 1, 5, 0] rfl (ih_11 _ _ _ hw)
    · replace hw := hw.1 hc_17
      refine ux_iconst C (v := 1) (by decide) dX12_fits_70 ?_
      refine ux_goto C (tgt := 75) (by decide) dX12_fits_71 ?_
      refine ux_iadd C dX12_fits_75 ?_
      refine ux_istore_n C rfl (by decide) rfl dX12_fits_76 ?_
      refine ux_iinc C 5 rfl rfl (by decide) rfl dX12_fits_77 ?_
      refine ux_goto C (tgt := 45) (by decide) dX12_fits_80 ?_
      exact ux_pick [2, 3, 4, 1, 5, 0] rfl (ih_11 _ _ _ hw)
set_option maxHeartbeats 2000000 in
set_option maxRecDepth 4000 in
theorem c_Model_fits_j31 {D : va_G} {G : Nat → Nat} {z N : Nat} {p : Program} {l : Launch} {e : Env} {s : State} {m : MethodId} {args : Array Value} {below : List Frame} {meth : Method} {c : Code} (hN : 92 ≤ N) {a0 : ud_St} {x1 : Int32} {x2 : Int32} {b_31 : ud_St} {y1_31 : Int32} {y2_31 : Int32} {y3_31 : Int32} {y4_31 : Int32}  {Qf : Int32 → ud_St → Prop} (C : ud_C D G z N p s m args meth c cX12_fits 6 RX12 (some Jvm.ClassFile.FieldType.int))  (hw : w_Model_fits_j31 a0 x1 x2 b_31 y1_31 y2_31 y3_31 y4_31 Qf) : ud_X D G z N p l e (ud_rm 5 0 0) s m args below meth c 6 0 0 (ud_Q D G z N (po_i Qf) below args s) b_31 31 [(0, .ref (z + 71)), (1, .int y1_31), (2, .int y2_31), (3, .int y3_31), (4, .int y4_31)] [] := by
  unfold w_Model_fits_j31 at hw
  refine ux_pick [0, 1, 2, 3, 4] rfl ?_
  refine LW3.elim (P := fun (x3_7 : Int32) (x4_8 : Int32) (a_9 : ud_St) => ud_X D G z N p l e (ud_rm 5 0 0) s m args below meth c 6 0 0 (ud_Q D G z N (po_i Qf) below args s) a_9 31 [(0, .ref (z + 71)), (1, .int y1_31), (2, .int y2_31), (3, .int x3_7), (4, .int x4_8)] []) hw ?_
  intro x3_7 x4_8 a_9 K_5 hw ih_6
  refine ux_iload C 4 rfl dX12_fits_31 ?_
  refine ux_aload_n C 0 rfl rfl dX12_fits_33 ?_
  refine gf_12_34 C dX12_fits_34 ?_
  refine ux_iconst C (v := 3) (by decide) dX12_fits_37 ?_
  obtain ⟨hi_21, hw⟩ := hw
  refine ux_iald C (uc_78 C.2.2.2.2.2) hi_21 dX12_fits_38 ?_
  refine ux_icmp_ge C (tgt := 89) (by decide) dX12_fits_39 (fun hc_20 => ?_) (fun hc_20 => ?_)
  · replace hw := hw.1 hc_20
    refine ux_iload_n C 3 rfl rfl dX12_fits_89 ?_
    exact ux_iret C ⟨_, rfl, hw⟩ dX12_fits_90
  · replace hw := hw.2 hc_20
    refine ux_iconst C (v := 0) (by decide) dX12_fits_42 ?_
    refine ux_istore C (by decide) rfl dX12_fits_43 ?_
    exact ux_pick [1, 2, 3, 4, 5, 0] rfl (c_Model_fits_j45 hN  C ih_6 hw)
set_option maxHeartbeats 2000000 in
set_option maxRecDepth 4000 in
theorem c_Model_fits {l : Launch} {D : va_G} {G : Nat → Nat} {z N : Nat} (hN : 92 ≤ N) {a0 : ud_St} {x1 : Int32} {x2 : Int32}  {Qf : Int32 → ud_St → Prop} (hw : w_Model_fits a0 x1 x2 Qf) : ud_M l D G z N yX12_fits cX12_fits 6 (some Jvm.ClassFile.FieldType.int) 5 [.ref (z + 71), .int x1, .int x2] a0 (po_i Qf) := by
  unfold w_Model_fits at hw
  refine ud_M_of hN (by decide) (Nat.le_of_ble_eq_true rfl) ?_
  intro p e s m args below meth c C
  have C : ud_C D G z N p s m args meth c cX12_fits 6 RX12 (some Jvm.ClassFile.FieldType.int) := C
  show ud_X D G z N p l e (ud_rm 5 0 0) s m args below meth c 6 0 0 (ud_Q D G z N (po_i Qf) below args s) a0 0 [(0, .ref (z + 71)), (1, .int x1), (2, .int x2)] []
  refine ux_aload_n C 0 rfl rfl dX12_fits_0 ?_
  refine ux_iconst C (v := 0) (by decide) dX12_fits_1 ?_
  refine pf_12_77 C dX12_fits_2 ?_
  refine ux_aload_n C 0 rfl rfl dX12_fits_5 ?_
  refine ux_iload_n C 1 rfl rfl dX12_fits_6 ?_
  refine ux_i2l C dX12_fits_7 ?_
  refine cs_12_302 C  (c_Model_isNumber hN  hw) (by decide) (by decide) (Nat.le_of_ble_eq_true rfl) dX12_fits_8 (po_ip.k fun r_1 hw => ?_)
  refine ux_if_eq C (tgt := 23) (by decide) dX12_fits_11 (fun hc_23 => ?_) (fun hc_23 => ?_)
  · replace hw := hw.1 hc_23
    refine ux_bipush C (v := -2) (by decide) dX12_fits_23 ?_
    exact ux_iret C ⟨_, rfl, hw⟩ dX12_fits_25
  · replace hw := hw.2 hc_23
    refine ux_aload_n C 0 rfl rfl dX12_fits_14 ?_
    refine ux_iload_n C 2 rfl rfl dX12_fits_15 ?_
    refine ux_i2l C dX12_fits_16 ?_
    refine cs_12_302 C  (c_Model_isNumber hN  hw) (by decide) (by decide) (Nat.le_of_ble_eq_true rfl) dX12_fits_17 (po_ip.k fun r_3 hw => ?_)
    refine ux_if_ne C (tgt := 26) (by decide) dX12_fits_20 (fun hc_22 => ?_) (fun hc_22 => ?_)
    · replace hw := hw.2 hc_22
      refine ux_iconst C (v := 0) (by decide) dX12_fits_26 ?_
      refine ux_istore_n C rfl (by decide) rfl dX12_fits_27 ?_
      refine ux_iconst C (v := 0) (by decide) dX12_fits_28 ?_
      refine ux_istore C (by decide) rfl dX12_fits_29 ?_
      exact ux_pick [2, 3, 4, 1, 0] rfl (c_Model_fits_j31 hN  C  hw)
    · replace hw := hw.1 hc_22
      refine ux_bipush C (v := -2) (by decide) dX12_fits_23 ?_
      exact ux_iret C ⟨_, rfl, hw⟩ dX12_fits_25
set_option maxHeartbeats 2000000 in
set_option maxRecDepth 4000 in
theorem c_Model_which_j41 {D : va_G} {G : Nat → Nat} {z N : Nat} {p : Program} {l : Launch} {e : Env} {s : State} {m : MethodId} {args : Array Value} {below : List Frame} {meth : Method} {c : Code} (hN : 92 ≤ N) {a0 : ud_St} {x1 : Int32} {x2 : Int32} {b_41 : ud_St} {y1_41 : Int32} {y2_41 : Int32} {y3_41 : Int32} {y4_41 : Int32} {K_5 : Int32 → ud_St → Prop}  {Qf : Int32 → ud_St → Prop} (C : ud_C D G z N p s m args meth c cX12_which 5 RX12 (some Jvm.ClassFile.FieldType.int)) (ih_6 : ∀ (v0 : Int32) (v1 : ud_St), K_5 v0 v1 → ud_X D G z N p l e (ud_rm 5 0 0) s m args below meth c 5 0 0 (ud_Q D G z N (po_i Qf) below args s) v1 28 [(0, .ref (z + 71)), (1, .int y1_41), (2, .int y2_41), (3, .int v0)] []) (hw : w_Model_which_j41 a0 x1 x2 b_41 y1_41 y2_41 y3_41 y4_41 K_5 Qf) : ud_X D G z N p l e (ud_rm 5 0 0) s m args below meth c 5 0 0 (ud_Q D G z N (po_i Qf) below args s) b_41 41 [(0, .ref (z + 71)), (1, .int y1_41), (2, .int y2_41), (3, .int y3_41), (4, .int y4_41)] [] := by
  unfold w_Model_which_j41 at hw
  refine ux_pick [0, 1, 2, 3, 4] rfl ?_
  refine LW2.elim (P := fun (x4_11 : Int32) (a_12 : ud_St) => ud_X D G z N p l e (ud_rm 5 0 0) s m args below meth c 5 0 0 (ud_Q D G z N (po_i Qf) below args s) a_12 41 [(0, .ref (z + 71)), (1, .int y1_41), (2, .int y2_41), (3, .int y3_41), (4, .int x4_11)] []) hw ?_
  intro x4_11 a_12 K_9 hw ih_10
  refine ux_iload C 4 rfl dX12_which_41 ?_
  refine ux_aload_n C 0 rfl rfl dX12_which_43 ?_
  refine gf_12_34 C dX12_which_44 ?_
  refine ux_iconst C (v := 4) (by decide) dX12_which_47 ?_
  obtain ⟨hi_17, hw⟩ := hw
  refine ux_iald C (uc_78 C.2.2.2.2.2) hi_17 dX12_which_48 ?_
  refine ux_icmp_ge C (tgt := 78) (by decide) dX12_which_49 (fun hc_16 => ?_) (fun hc_16 => ?_)
  · replace hw := hw.1 hc_16
    refine ux_iinc C 3 rfl rfl (by decide) rfl dX12_which_78 ?_
    refine ux_goto C (tgt := 28) (by decide) dX12_which_81 ?_
    exact ux_pick [1, 2, 3, 0] rfl (ih_6 _ _ hw)
  · replace hw := hw.2 hc_16
    refine ux_aload_n C 0 rfl rfl dX12_which_52 ?_
    refine ux_iload_n C 1 rfl rfl dX12_which_53 ?_
    refine ux_iload_n C 3 rfl rfl dX12_which_54 ?_
    refine ux_iload C 4 rfl dX12_which_55 ?_
    refine cs_12_381 C  (c_Model_slipped hN  hw) (by decide) (by decide) (Nat.le_of_ble_eq_true rfl) dX12_which_57 (po_i.k fun r_13 a_14 hw => ?_)
    refine ux_iload_n C 2 rfl rfl dX12_which_60 ?_
    refine ux_icmp_ne C (tgt := 72) (by decide) dX12_which_61 (fun hc_15 => ?_) (fun hc_15 => ?_)
    · replace hw := hw.2 hc_15
      refine ux_iinc C 4 rfl rfl (by decide) rfl dX12_which_72 ?_
      refine ux_goto C (tgt := 41) (by decide) dX12_which_75 ?_
      exact ux_pick [1, 2, 3, 4, 0] rfl (ih_10 _ _ hw)
    · replace hw := hw.1 hc_15
      refine ux_bipush C (v := 10) (by decide) dX12_which_64 ?_
      refine ux_iload_n C 3 rfl rfl dX12_which_66 ?_
      refine ux_imul C dX12_which_67 ?_
      refine ux_iload C 4 rfl dX12_which_68 ?_
      refine ux_iadd C dX12_which_70 ?_
      exact ux_iret C ⟨_, rfl, hw⟩ dX12_which_71
set_option maxHeartbeats 2000000 in
set_option maxRecDepth 4000 in
theorem c_Model_which_j28 {D : va_G} {G : Nat → Nat} {z N : Nat} {p : Program} {l : Launch} {e : Env} {s : State} {m : MethodId} {args : Array Value} {below : List Frame} {meth : Method} {c : Code} (hN : 92 ≤ N) {a0 : ud_St} {x1 : Int32} {x2 : Int32} {b_28 : ud_St} {y1_28 : Int32} {y2_28 : Int32} {y3_28 : Int32}  {Qf : Int32 → ud_St → Prop} (C : ud_C D G z N p s m args meth c cX12_which 5 RX12 (some Jvm.ClassFile.FieldType.int))  (hw : w_Model_which_j28 a0 x1 x2 b_28 y1_28 y2_28 y3_28 Qf) : ud_X D G z N p l e (ud_rm 5 0 0) s m args below meth c 5 0 0 (ud_Q D G z N (po_i Qf) below args s) b_28 28 [(0, .ref (z + 71)), (1, .int y1_28), (2, .int y2_28), (3, .int y3_28)] [] := by
  unfold w_Model_which_j28 at hw
  refine ux_pick [0, 1, 2, 3] rfl ?_
  refine LW2.elim (P := fun (x3_7 : Int32) (a_8 : ud_St) => ud_X D G z N p l e (ud_rm 5 0 0) s m args below meth c 5 0 0 (ud_Q D G z N (po_i Qf) below args s) a_8 28 [(0, .ref (z + 71)), (1, .int y1_28), (2, .int y2_28), (3, .int x3_7)] []) hw ?_
  intro x3_7 a_8 K_5 hw ih_6
  refine ux_iload_n C 3 rfl rfl dX12_which_28 ?_
  refine ux_aload_n C 0 rfl rfl dX12_which_29 ?_
  refine gf_12_34 C dX12_which_30 ?_
  refine ux_iconst C (v := 3) (by decide) dX12_which_33 ?_
  obtain ⟨hi_19, hw⟩ := hw
  refine ux_iald C (uc_78 C.2.2.2.2.2) hi_19 dX12_which_34 ?_
  refine ux_icmp_ge C (tgt := 84) (by decide) dX12_which_35 (fun hc_18 => ?_) (fun hc_18 => ?_)
  · replace hw := hw.1 hc_18
    refine ux_iconst C (v := -1) (by decide) dX12_which_84 ?_
    exact ux_iret C ⟨_, rfl, hw⟩ dX12_which_85
  · replace hw := hw.2 hc_18
    refine ux_iconst C (v := 0) (by decide) dX12_which_38 ?_
    refine ux_istore C (by decide) rfl dX12_which_39 ?_
    exact ux_pick [1, 2, 3, 4, 0] rfl (c_Model_which_j41 hN  C ih_6 hw)
set_option maxHeartbeats 2000000 in
set_option maxRecDepth 4000 in
theorem c_Model_which {l : Launch} {D : va_G} {G : Nat → Nat} {z N : Nat} (hN : 92 ≤ N) {a0 : ud_St} {x1 : Int32} {x2 : Int32}  {Qf : Int32 → ud_St → Prop} (hw : w_Model_which a0 x1 x2 Qf) : ud_M l D G z N yX12_which cX12_which 5 (some Jvm.ClassFile.FieldType.int) 5 [.ref (z + 71), .int x1, .int x2] a0 (po_i Qf) := by
  unfold w_Model_which at hw
  refine ud_M_of hN (by decide) (Nat.le_of_ble_eq_true rfl) ?_
  intro p e s m args below meth c C
  have C : ud_C D G z N p s m args meth c cX12_which 5 RX12 (some Jvm.ClassFile.FieldType.int) := C
  show ud_X D G z N p l e (ud_rm 5 0 0) s m args below meth c 5 0 0 (ud_Q D G z N (po_i Qf) below args s) a0 0 [(0, .ref (z + 71)), (1, .int x1), (2, .int x2)] []
  refine ux_aload_n C 0 rfl rfl dX12_which_0 ?_
  refine ux_iconst C (v := 0) (by decide) dX12_which_1 ?_
  refine pf_12_77 C dX12_which_2 ?_
  refine ux_aload_n C 0 rfl rfl dX12_which_5 ?_
  refine ux_iload_n C 1 rfl rfl dX12_which_6 ?_
  refine ux_i2l C dX12_which_7 ?_
  refine cs_12_302 C  (c_Model_isNumber hN  hw) (by decide) (by decide) (Nat.le_of_ble_eq_true rfl) dX12_which_8 (po_ip.k fun r_1 hw => ?_)
  refine ux_if_eq C (tgt := 23) (by decide) dX12_which_11 (fun hc_21 => ?_) (fun hc_21 => ?_)
  · replace hw := hw.1 hc_21
    refine ux_bipush C (v := -2) (by decide) dX12_which_23 ?_
    exact ux_iret C ⟨_, rfl, hw⟩ dX12_which_25
  · replace hw := hw.2 hc_21
    refine ux_aload_n C 0 rfl rfl dX12_which_14 ?_
    refine ux_iload_n C 2 rfl rfl dX12_which_15 ?_
    refine ux_i2l C dX12_which_16 ?_
    refine cs_12_302 C  (c_Model_isNumber hN  hw) (by decide) (by decide) (Nat.le_of_ble_eq_true rfl) dX12_which_17 (po_ip.k fun r_3 hw => ?_)
    refine ux_if_ne C (tgt := 26) (by decide) dX12_which_20 (fun hc_20 => ?_) (fun hc_20 => ?_)
    · replace hw := hw.2 hc_20
      refine ux_iconst C (v := 0) (by decide) dX12_which_26 ?_
      refine ux_istore_n C rfl (by decide) rfl dX12_which_27 ?_
      exact ux_pick [1, 2, 3, 0] rfl (c_Model_which_j28 hN  C  hw)
    · replace hw := hw.1 hc_20
      refine ux_bipush C (v := -2) (by decide) dX12_which_23 ?_
      exact ux_iret C ⟨_, rfl, hw⟩ dX12_which_25
set_option maxHeartbeats 2000000 in
set_option maxRecDepth 4000 in
theorem c_Model_finds_j20 {D : va_G} {G : Nat → Nat} {z N : Nat} {p : Program} {l : Launch} {e : Env} {s : State} {m : MethodId} {args : Array Value} {below : List Frame} {meth : Method} {c : Code} (hN : 92 ≤ N) {a0 : ud_St} {x1 : Int32} {x2 : Int32} {b_20 : ud_St} {y1_20 : Int32} {y2_20 : Int32} {y3_20 : Int32} {K_1 : Int32 → ud_St → Prop}  {Qf : ud_St → Prop} (C : ud_C D G z N p s m args meth c cX12_finds 4 RX12 (none : Option Jvm.ClassFile.FieldType)) (ih_2 : ∀ (v0 : Int32) (v1 : ud_St), K_1 v0 v1 → ud_X D G z N p l e (ud_rm 5 0 0) s m args below meth c 4 0 0 (ud_Q D G z N (po_v Qf) below args s) v1 7 [(0, .ref (z + 71)), (1, .int y1_20), (2, .int y2_20), (3, .int v0)] []) (hw : w_Model_finds_j20 a0 x1 x2 b_20 y1_20 y2_20 y3_20 K_1 Qf) : ud_X D G z N p l e (ud_rm 5 0 0) s m args below meth c 4 0 0 (ud_Q D G z N (po_v Qf) below args s) b_20 20 [(0, .ref (z + 71)), (1, .int y1_20), (2, .int y2_20), (3, .int y3_20)] [] := by
  unfold w_Model_finds_j20 at hw
  refine ux_pick [0, 1, 2, 3] rfl ?_
  refine LW1.elim (P := fun (a_7 : ud_St) => ud_X D G z N p l e (ud_rm 5 0 0) s m args below meth c 4 0 0 (ud_Q D G z N (po_v Qf) below args s) a_7 20 [(0, .ref (z + 71)), (1, .int y1_20), (2, .int y2_20), (3, .int y3_20)] []) hw ?_
  intro a_7 K_5 hw ih_6
  refine ux_aload_n C 0 rfl rfl dX12_finds_20 ?_
  refine gf_12_387 C dX12_finds_21 ?_
  refine ux_iload_n C 3 rfl rfl dX12_finds_24 ?_
  refine ux_icmp_ge C (tgt := 59) (by decide) dX12_finds_25 (fun hc_11 => ?_) (fun hc_11 => ?_)
  · replace hw := hw.1 hc_11
    refine ux_iload_n C 3 rfl rfl dX12_finds_59 ?_
    refine ux_bipush C (v := 12) (by decide) dX12_finds_60 ?_
    refine ux_imul C dX12_finds_62 ?_
    refine ux_istore_n C rfl (by decide) rfl dX12_finds_63 ?_
    refine ux_aload_n C 1 rfl rfl dX12_finds_64 ?_
    refine ux_dup C rfl dX12_finds_65 ?_
    refine gf_12_384 C dX12_finds_66 ?_
    refine ux_iconst C (v := 1) (by decide) dX12_finds_69 ?_
    refine ux_iadd C dX12_finds_70 ?_
    refine pf_12_384 C dX12_finds_71 ?_
    refine ux_goto C (tgt := 7) (by decide) dX12_finds_74 ?_
    exact ux_pick [1, 2, 3, 0] rfl (ih_2 _ _ hw)
  · replace hw := hw.2 hc_11
    refine ux_aload_n C 0 rfl rfl dX12_finds_28 ?_
    refine ux_iload_n C 1 rfl rfl dX12_finds_29 ?_
    refine ux_aload_n C 0 rfl rfl dX12_finds_30 ?_
    refine gf_12_384 C dX12_finds_31 ?_
    refine ux_aload_n C 0 rfl rfl dX12_finds_34 ?_
    refine gf_12_387 C dX12_finds_35 ?_
    refine cs_12_390 C  (c_Model_rowed hN  hw) (by decide) (by decide) (Nat.le_of_ble_eq_true rfl) dX12_finds_38 (po_i.k fun r_8 a_9 hw => ?_)
    refine ux_iload_n C 2 rfl rfl dX12_finds_41 ?_
    refine ux_icmp_ne C (tgt := 46) (by decide) dX12_finds_42 (fun hc_10 => ?_) (fun hc_10 => ?_)
    · replace hw := hw.2 hc_10
      refine ux_aload_n C 0 rfl rfl dX12_finds_46 ?_
      refine ux_dup C rfl dX12_finds_47 ?_
      refine gf_12_387 C dX12_finds_48 ?_
      refine ux_iconst C (v := 1) (by decide) dX12_finds_51 ?_
      refine ux_iadd C dX12_finds_52 ?_
      refine pf_12_387 C dX12_finds_53 ?_
      refine ux_goto C (tgt := 20) (by decide) dX12_finds_56 ?_
      exact ux_pick [0, 1, 2, 3] rfl (ih_6 _ hw)
    · replace hw := hw.1 hc_10
      exact ux_vret C ⟨rfl, hw⟩ dX12_finds_45
set_option maxHeartbeats 2000000 in
set_option maxRecDepth 4000 in
theorem c_Model_finds_j7 {D : va_G} {G : Nat → Nat} {z N : Nat} {p : Program} {l : Launch} {e : Env} {s : State} {m : MethodId} {args : Array Value} {below : List Frame} {meth : Method} {c : Code} (hN : 92 ≤ N) {a0 : ud_St} {x1 : Int32} {x2 : Int32} {b_7 : ud_St} {y1_7 : Int32} {y2_7 : Int32} {y3_7 : Int32}  {Qf : ud_St → Prop} (C : ud_C D G z N p s m args meth c cX12_finds 4 RX12 (none : Option Jvm.ClassFile.FieldType))  (hw : w_Model_finds_j7 a0 x1 x2 b_7 y1_7 y2_7 y3_7 Qf) : ud_X D G z N p l e (ud_rm 5 0 0) s m args below meth c 4 0 0 (ud_Q D G z N (po_v Qf) below args s) b_7 7 [(0, .ref (z + 71)), (1, .int y1_7), (2, .int y2_7), (3, .int y3_7)] [] := by
  unfold w_Model_finds_j7 at hw
  refine ux_pick [0, 1, 2, 3] rfl ?_
  refine LW2.elim (P := fun (x3_3 : Int32) (a_4 : ud_St) => ud_X D G z N p l e (ud_rm 5 0 0) s m args below meth c 4 0 0 (ud_Q D G z N (po_v Qf) below args s) a_4 7 [(0, .ref (z + 71)), (1, .int y1_7), (2, .int y2_7), (3, .int x3_3)] []) hw ?_
  intro x3_3 a_4 K_1 hw ih_2
  refine ux_aload_n C 0 rfl rfl dX12_finds_7 ?_
  refine gf_12_384 C dX12_finds_8 ?_
  refine ux_iconst C (v := 3) (by decide) dX12_finds_11 ?_
  refine ux_icmp_gt C (tgt := 77) (by decide) dX12_finds_12 (fun hc_12 => ?_) (fun hc_12 => ?_)
  · replace hw := hw.1 hc_12
    refine ux_aload_n C 0 rfl rfl dX12_finds_77 ?_
    refine ux_iconst C (v := -1) (by decide) dX12_finds_78 ?_
    refine pf_12_384 C dX12_finds_79 ?_
    exact ux_vret C ⟨rfl, hw⟩ dX12_finds_82
  · replace hw := hw.2 hc_12
    refine ux_aload_n C 0 rfl rfl dX12_finds_15 ?_
    refine ux_iconst C (v := 0) (by decide) dX12_finds_16 ?_
    refine pf_12_387 C dX12_finds_17 ?_
    exact ux_pick [0, 1, 2, 3] rfl (c_Model_finds_j20 hN  C ih_2 hw)
