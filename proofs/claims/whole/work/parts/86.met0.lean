/-! the methods meet what they ask -/
theorem ud_catI (x : Int32) : (Value.int x).category = 1 := rfl
theorem ud_catR (x : Nat) : (Value.ref x).category = 1 := rfl
theorem mw_nat : Cond.native arraycopyName ∈ ud_gw := ud_mem 1294 (by decide +kernel) (by decide +kernel)
theorem ud_catO (x : Option Nat) : (va_rf x).category = 1 := by cases x <;> rfl
set_option maxHeartbeats 2000000 in
set_option maxRecDepth 4000 in
theorem c_Cells_at {l : Launch} {D : va_G} {G : Nat → Nat} {z N : Nat} (hN : 92 ≤ N) {a0 : ud_St} {k0 : Nat} {n0 : Nat} {x1 : Int32} (hk0 : ud_isI N k0 n0) {Qf : Int32 → Prop} (hw : w_Cells_at a0 k0 n0 x1 Qf) : ud_M l D G z N yX0_at cX0_at 2 (some Jvm.ClassFile.FieldType.int) 0 [.ref (z + k0), .int x1] a0 (po_ip a0 Qf) := by
  unfold w_Cells_at at hw
  refine ud_M_of hN (by decide) (Nat.le_of_ble_eq_true rfl) ?_
  intro p e s m args below meth c C
  have C : ud_C D G z N p s m args meth c cX0_at 2 RX0 (some Jvm.ClassFile.FieldType.int) := C
  show ud_X D G z N p l e (ud_rm 0 0 0) s m args below meth c 2 0 0 (ud_Q D G z N (po_ip a0 Qf) below args s) a0 0 [(0, .ref (z + k0)), (1, .int x1)] []
  refine ux_iload_n C 1 rfl rfl dX0_at_0 ?_
  refine ux_if_lt C (tgt := 16) (by decide) dX0_at_1 (fun hc_3 => ?_) (fun hc_3 => ?_)
  · replace hw := hw.1 hc_3
    refine ux_iconst C (v := 0) (by decide) dX0_at_16 ?_
    exact ux_iret C ⟨_, rfl, rfl, hw⟩ dX0_at_17
  · replace hw := hw.2 hc_3
    refine ux_iload_n C 1 rfl rfl dX0_at_4 ?_
    refine ux_aload_n C 0 rfl rfl dX0_at_5 ?_
    refine ux_alenI C hk0 rfl dX0_at_6 ?_
    refine ux_icmp_ge C (tgt := 16) (by decide) dX0_at_7 (fun hc_2 => ?_) (fun hc_2 => ?_)
    · replace hw := hw.1 hc_2
      refine ux_iconst C (v := 0) (by decide) dX0_at_16 ?_
      exact ux_iret C ⟨_, rfl, rfl, hw⟩ dX0_at_17
    · replace hw := hw.2 hc_2
      refine ux_aload_n C 0 rfl rfl dX0_at_10 ?_
      refine ux_iload_n C 1 rfl rfl dX0_at_11 ?_
      obtain ⟨hi_1, hw⟩ := hw
      refine ux_iald C hk0 hi_1 dX0_at_12 ?_
      refine ux_goto C (tgt := 17) (by decide) dX0_at_13 ?_
      exact ux_iret C ⟨_, rfl, rfl, hw⟩ dX0_at_17
set_option maxHeartbeats 2000000 in
set_option maxRecDepth 4000 in
theorem c_Cells_put {l : Launch} {D : va_G} {G : Nat → Nat} {z N : Nat} (hN : 92 ≤ N) {a0 : ud_St} {k0 : Nat} {n0 : Nat} {x1 : Int32} {x2 : Int32} (hk0 : ud_isI N k0 n0) {Qf : ud_St → Prop} (hw : w_Cells_put a0 k0 n0 x1 x2 Qf) : ud_M l D G z N yX0_put cX0_put 3 (none : Option Jvm.ClassFile.FieldType) 0 [.ref (z + k0), .int x1, .int x2] a0 (po_v Qf) := by
  unfold w_Cells_put at hw
  refine ud_M_of hN (by decide) (Nat.le_of_ble_eq_true rfl) ?_
  intro p e s m args below meth c C
  have C : ud_C D G z N p s m args meth c cX0_put 3 RX0 (none : Option Jvm.ClassFile.FieldType) := C
  show ud_X D G z N p l e (ud_rm 0 0 0) s m args below meth c 3 0 0 (ud_Q D G z N (po_v Qf) below args s) a0 0 [(0, .ref (z + k0)), (1, .int x1), (2, .int x2)] []
  refine ux_iload_n C 1 rfl rfl dX0_put_0 ?_
  refine ux_if_lt C (tgt := 14) (by decide) dX0_put_1 (fun hc_3 => ?_) (fun hc_3 => ?_)
  · replace hw := hw.1 hc_3
    exact ux_vret C ⟨rfl, hw⟩ dX0_put_14
  · replace hw := hw.2 hc_3
    refine ux_iload_n C 1 rfl rfl dX0_put_4 ?_
    refine ux_aload_n C 0 rfl rfl dX0_put_5 ?_
    refine ux_alenI C hk0 rfl dX0_put_6 ?_
    refine ux_icmp_ge C (tgt := 14) (by decide) dX0_put_7 (fun hc_2 => ?_) (fun hc_2 => ?_)
    · replace hw := hw.1 hc_2
      exact ux_vret C ⟨rfl, hw⟩ dX0_put_14
    · replace hw := hw.2 hc_2
      refine ux_aload_n C 0 rfl rfl dX0_put_10 ?_
      refine ux_iload_n C 1 rfl rfl dX0_put_11 ?_
      refine ux_iload_n C 2 rfl rfl dX0_put_12 ?_
      obtain ⟨hi_1, hw⟩ := hw
      refine ux_iast C hk0 hi_1 dX0_put_13 ?_
      exact ux_vret C ⟨rfl, hw⟩ dX0_put_14
set_option maxHeartbeats 2000000 in
set_option maxRecDepth 4000 in
theorem c_Cells_part {l : Launch} {D : va_G} {G : Nat → Nat} {z N : Nat} (hN : 92 ≤ N) {a0 : ud_St} {x0 : Int32} {x1 : Int32}  {Qf : Int32 → Prop} (hw : w_Cells_part a0 x0 x1 Qf) : ud_M l D G z N yX0_part cX0_part 2 (some Jvm.ClassFile.FieldType.int) 0 [.int x0, .int x1] a0 (po_ip a0 Qf) := by
  unfold w_Cells_part at hw
  refine ud_M_of hN (by decide) (Nat.le_of_ble_eq_true rfl) ?_
  intro p e s m args below meth c C
  have C : ud_C D G z N p s m args meth c cX0_part 2 RX0 (some Jvm.ClassFile.FieldType.int) := C
  show ud_X D G z N p l e (ud_rm 0 0 0) s m args below meth c 2 0 0 (ud_Q D G z N (po_ip a0 Qf) below args s) a0 0 [(0, .int x0), (1, .int x1)] []
  refine ux_iload_n C 1 rfl rfl dX0_part_0 ?_
  refine ux_if_le C (tgt := 10) (by decide) dX0_part_1 (fun hc_2 => ?_) (fun hc_2 => ?_)
  · replace hw := hw.1 hc_2
    refine ux_iconst C (v := 0) (by decide) dX0_part_10 ?_
    exact ux_iret C ⟨_, rfl, rfl, hw⟩ dX0_part_11
  · replace hw := hw.2 hc_2
    refine ux_iload_n C 0 rfl rfl dX0_part_4 ?_
    refine ux_iload_n C 1 rfl rfl dX0_part_5 ?_
    obtain ⟨hc_1, hw⟩ := hw
    refine ux_idiv C hc_1 dX0_part_6 ?_
    refine ux_goto C (tgt := 11) (by decide) dX0_part_7 ?_
    exact ux_iret C ⟨_, rfl, rfl, hw⟩ dX0_part_11
set_option maxHeartbeats 2000000 in
set_option maxRecDepth 4000 in
theorem c_Cells_over {l : Launch} {D : va_G} {G : Nat → Nat} {z N : Nat} (hN : 92 ≤ N) {a0 : ud_St} {x0 : Int32} {x1 : Int32}  {Qf : Int32 → Prop} (hw : w_Cells_over a0 x0 x1 Qf) : ud_M l D G z N yX0_over cX0_over 2 (some Jvm.ClassFile.FieldType.int) 0 [.int x0, .int x1] a0 (po_ip a0 Qf) := by
  unfold w_Cells_over at hw
  refine ud_M_of hN (by decide) (Nat.le_of_ble_eq_true rfl) ?_
  intro p e s m args below meth c C
  have C : ud_C D G z N p s m args meth c cX0_over 2 RX0 (some Jvm.ClassFile.FieldType.int) := C
  show ud_X D G z N p l e (ud_rm 0 0 0) s m args below meth c 2 0 0 (ud_Q D G z N (po_ip a0 Qf) below args s) a0 0 [(0, .int x0), (1, .int x1)] []
  refine ux_iload_n C 1 rfl rfl dX0_over_0 ?_
  refine ux_if_le C (tgt := 10) (by decide) dX0_over_1 (fun hc_2 => ?_) (fun hc_2 => ?_)
  · replace hw := hw.1 hc_2
    refine ux_iconst C (v := 0) (by decide) dX0_over_10 ?_
    exact ux_iret C ⟨_, rfl, rfl, hw⟩ dX0_over_11
  · replace hw := hw.2 hc_2
    refine ux_iload_n C 0 rfl rfl dX0_over_4 ?_
    refine ux_iload_n C 1 rfl rfl dX0_over_5 ?_
    obtain ⟨hc_1, hw⟩ := hw
    refine ux_irem C hc_1 dX0_over_6 ?_
    refine ux_goto C (tgt := 11) (by decide) dX0_over_7 ?_
    exact ux_iret C ⟨_, rfl, rfl, hw⟩ dX0_over_11
set_option maxHeartbeats 2000000 in
set_option maxRecDepth 4000 in
theorem c_Figures_leaving {l : Launch} {D : va_G} {G : Nat → Nat} {z N : Nat} (hN : 92 ≤ N) {a0 : ud_St} {x1 : Int32} {x2 : Int32}  {Qf : Int32 → Prop} (hw : w_Figures_leaving a0 x1 x2 Qf) : ud_M l D G z N yX4_leaving cX4_leaving 8 (some Jvm.ClassFile.FieldType.int) 0 [.ref (z + 26), .int x1, .int x2] a0 (po_ip a0 Qf) := by
  unfold w_Figures_leaving at hw
  refine ud_M_of hN (by decide) (Nat.le_of_ble_eq_true rfl) ?_
  intro p e s m args below meth c C
  have C : ud_C D G z N p s m args meth c cX4_leaving 8 RX4 (some Jvm.ClassFile.FieldType.int) := C
  show ud_X D G z N p l e (ud_rm 0 0 0) s m args below meth c 8 0 0 (ud_Q D G z N (po_ip a0 Qf) below args s) a0 0 [(0, .ref (z + 26)), (1, .int x1), (2, .int x2)] []
  refine ux_aload_n C 0 rfl rfl dX4_leaving_0 ?_
  refine gf_4_39 C dX4_leaving_1 ?_
  refine ux_iconst C (v := 2) (by decide) dX4_leaving_4 ?_
  refine ux_icmp_ge C (tgt := 10) (by decide) dX4_leaving_5 (fun hc_12 => ?_) (fun hc_12 => ?_)
  · replace hw := hw.1 hc_12
    refine ux_iconst C (v := 0) (by decide) dX4_leaving_10 ?_
    refine ux_istore_n C rfl (by decide) rfl dX4_leaving_11 ?_
    refine ux_iconst C (v := 1) (by decide) dX4_leaving_12 ?_
    refine ux_istore C (by decide) rfl dX4_leaving_13 ?_
    refine ux_iload_n C 3 rfl rfl dX4_leaving_15 ?_
    refine ux_istore C (by decide) rfl dX4_leaving_16 ?_
    refine ux_iconst C (v := 0) (by decide) dX4_leaving_18 ?_
    refine ux_istore C (by decide) rfl dX4_leaving_19 ?_
    refine ux_pick [4, 6, 3, 2, 1, 0] rfl ?_
    refine LW4.elim (P := fun (x3_3 : Int32) (x4_4 : Int32) (x5_5 : Int32) (x6_6 : Int32) => ud_X D G z N p l e (ud_rm 0 0 0) s m args below meth c 8 0 0 (ud_Q D G z N (po_ip a0 Qf) below args s) a0 21 [(0, .ref (z + 26)), (2, .int x2), (3, .int x3_3), (4, .int x4_4), (5, .int x5_5), (6, .int x6_6)] []) hw ?_
    intro x3_3 x4_4 x5_5 x6_6 K_1 hw ih_2
    refine ux_iload C 5 rfl dX4_leaving_21 ?_
    refine ux_aload_n C 0 rfl rfl dX4_leaving_23 ?_
    refine gf_4_43 C dX4_leaving_24 ?_
    refine ux_icmp_ge C (tgt := 77) (by decide) dX4_leaving_27 (fun hc_11 => ?_) (fun hc_11 => ?_)
    · replace hw := hw.1 hc_11
      refine ux_iload_n C 2 rfl rfl dX4_leaving_77 ?_
      exact ux_iret C ⟨_, rfl, rfl, hw⟩ dX4_leaving_78
    · replace hw := hw.2 hc_11
      refine ux_iload C 4 rfl dX4_leaving_30 ?_
      refine ux_aload_n C 0 rfl rfl dX4_leaving_32 ?_
      refine gf_4_39 C dX4_leaving_33 ?_
      obtain ⟨hc_10, hw⟩ := hw
      refine ux_irem C hc_10 dX4_leaving_36 ?_
      refine ux_istore C (by decide) rfl dX4_leaving_37 ?_
      refine ux_iload C 0 rfl dX4_leaving_39 ?_
      refine ux_iload_n C 2 rfl rfl dX4_leaving_41 ?_
      refine ux_icmp_eq C (tgt := 62) (by decide) dX4_leaving_42 (fun hc_9 => ?_) (fun hc_9 => ?_)
      · replace hw := hw.1 hc_9
        refine ux_iload C 5 rfl dX4_leaving_62 ?_
        refine ux_aload_n C 1 rfl rfl dX4_leaving_64 ?_
        refine gf_4_39 C dX4_leaving_65 ?_
        obtain ⟨hc_7, hw⟩ := hw
        refine ux_idiv C hc_7 dX4_leaving_68 ?_
        refine ux_istore C (by decide) rfl dX4_leaving_69 ?_
        refine ux_iinc C 6 rfl rfl (by decide) rfl dX4_leaving_71 ?_
        refine ux_goto C (tgt := 21) (by decide) dX4_leaving_74 ?_
        exact ux_pick [3, 4, 5, 6, 1, 0] rfl (ih_2 _ _ _ _ hw)
      · replace hw := hw.2 hc_9
        refine ux_iload_n C 3 rfl rfl dX4_leaving_45 ?_
        refine ux_iload C 0 rfl dX4_leaving_46 ?_
        refine ux_iload C 4 rfl dX4_leaving_48 ?_
        refine ux_imul C dX4_leaving_50 ?_
        refine ux_iadd C dX4_leaving_51 ?_
        refine ux_istore_n C rfl (by decide) rfl dX4_leaving_52 ?_
        refine ux_iload C 4 rfl dX4_leaving_53 ?_
        refine ux_aload_n C 2 rfl rfl dX4_leaving_55 ?_
        refine gf_4_39 C dX4_leaving_56 ?_
        refine ux_imul C dX4_leaving_59 ?_
        refine ux_istore C (by decide) rfl dX4_leaving_60 ?_
        refine ux_iload C 5 rfl dX4_leaving_62 ?_
        refine ux_aload_n C 3 rfl rfl dX4_leaving_64 ?_
        refine gf_4_39 C dX4_leaving_65 ?_
        obtain ⟨hc_8, hw⟩ := hw
        refine ux_idiv C hc_8 dX4_leaving_68 ?_
        refine ux_istore C (by decide) rfl dX4_leaving_69 ?_
        refine ux_iinc C 6 rfl rfl (by decide) rfl dX4_leaving_71 ?_
        refine ux_goto C (tgt := 21) (by decide) dX4_leaving_74 ?_
        exact ux_pick [5, 6, 3, 2, 1, 0] rfl (ih_2 _ _ _ _ hw)
  · replace hw := hw.2 hc_12
    refine ux_iconst C (v := 0) (by decide) dX4_leaving_8 ?_
    exact ux_iret C ⟨_, rfl, rfl, hw⟩ dX4_leaving_9
set_option maxHeartbeats 2000000 in
set_option maxRecDepth 4000 in
theorem c_Reader_longest {l : Launch} {D : va_G} {G : Nat → Nat} {z N : Nat} (hN : 92 ≤ N) {a0 : ud_St} {x0 : Int32}  {Qf : Int32 → Prop} (hw : w_Reader_longest a0 x0 Qf) : ud_M l D G z N yX6_longest cX6_longest 3 (some Jvm.ClassFile.FieldType.int) 0 [.int x0] a0 (po_ip a0 Qf) := by
  unfold w_Reader_longest at hw
  refine ud_M_of hN (by decide) (Nat.le_of_ble_eq_true rfl) ?_
  intro p e s m args below meth c C
  have C : ud_C D G z N p s m args meth c cX6_longest 3 RX6 (some Jvm.ClassFile.FieldType.int) := C
  show ud_X D G z N p l e (ud_rm 0 0 0) s m args below meth c 3 0 0 (ud_Q D G z N (po_ip a0 Qf) below args s) a0 0 [(0, .int x0)] []
  refine ux_iconst C (v := 0) (by decide) dX6_longest_0 ?_
  refine ux_istore_n C rfl (by decide) rfl dX6_longest_1 ?_
  refine ux_iload_n C 1 rfl rfl dX6_longest_2 ?_
  refine ux_istore_n C rfl (by decide) rfl dX6_longest_3 ?_
  refine ux_pick [2, 1, 0] rfl ?_
  refine LW2.elim (P := fun (x1_3 : Int32) (x2_4 : Int32) => ud_X D G z N p l e (ud_rm 0 0 0) s m args below meth c 3 0 0 (ud_Q D G z N (po_ip a0 Qf) below args s) a0 4 [(0, .int x0), (1, .int x1_3), (2, .int x2_4)] []) hw ?_
  intro x1_3 x2_4 K_1 hw ih_2
  refine ux_iload_n C 1 rfl rfl dX6_longest_4 ?_
  refine ux_bipush C (v := 8) (by decide) dX6_longest_5 ?_
  refine ux_icmp_ge C (tgt := 27) (by decide) dX6_longest_7 (fun hc_6 => ?_) (fun hc_6 => ?_)
  · replace hw := hw.1 hc_6
    refine ux_iload_n C 1 rfl rfl dX6_longest_27 ?_
    exact ux_iret C ⟨_, rfl, rfl, hw⟩ dX6_longest_28
  · replace hw := hw.2 hc_6
    refine ux_iload_n C 2 rfl rfl dX6_longest_10 ?_
    refine ux_sipush C (v := 10000) (by decide) dX6_longest_11 ?_
    refine ux_icmp_gt C (tgt := 27) (by decide) dX6_longest_14 (fun hc_5 => ?_) (fun hc_5 => ?_)
    · replace hw := hw.1 hc_5
      refine ux_iload_n C 1 rfl rfl dX6_longest_27 ?_
      exact ux_iret C ⟨_, rfl, rfl, hw⟩ dX6_longest_28
    · replace hw := hw.2 hc_5
      refine ux_iinc C 1 rfl rfl (by decide) rfl dX6_longest_17 ?_
      refine ux_iload_n C 2 rfl rfl dX6_longest_20 ?_
      refine ux_iload_n C 1 rfl rfl dX6_longest_21 ?_
      refine ux_imul C dX6_longest_22 ?_
      refine ux_istore_n C rfl (by decide) rfl dX6_longest_23 ?_
      refine ux_goto C (tgt := 4) (by decide) dX6_longest_24 ?_
      exact ux_pick [2, 1, 0] rfl (ih_2 _ _ hw)
set_option maxHeartbeats 2000000 in
set_option maxRecDepth 4000 in
theorem c_Reader_wrong {l : Launch} {D : va_G} {G : Nat → Nat} {z N : Nat} (hN : 92 ≤ N) {a0 : ud_St} {x1 : Int32}  {Qf : Int32 → ud_St → Prop} (hw : w_Reader_wrong a0 x1 Qf) : ud_M l D G z N yX6_wrong cX6_wrong 2 (some Jvm.ClassFile.FieldType.boolean) 0 [.ref (z + 3), .int x1] a0 (po_i Qf) := by
  unfold w_Reader_wrong at hw
  refine ud_M_of hN (by decide) (Nat.le_of_ble_eq_true rfl) ?_
  intro p e s m args below meth c C
  have C : ud_C D G z N p s m args meth c cX6_wrong 2 RX6 (some Jvm.ClassFile.FieldType.boolean) := C
  show ud_X D G z N p l e (ud_rm 0 0 0) s m args below meth c 2 0 0 (ud_Q D G z N (po_i Qf) below args s) a0 0 [(0, .ref (z + 3)), (1, .int x1)] []
  refine ux_aload_n C 0 rfl rfl dX6_wrong_0 ?_
  refine ux_iload_n C 1 rfl rfl dX6_wrong_1 ?_
  refine pf_6_19 C dX6_wrong_2 ?_
  refine ux_aload_n C 0 rfl rfl dX6_wrong_5 ?_
  refine ux_aload_n C 0 rfl rfl dX6_wrong_6 ?_
  refine gf_6_141 C dX6_wrong_7 ?_
  refine pf_6_9 C dX6_wrong_10 ?_
  refine ux_iconst C (v := 0) (by decide) dX6_wrong_13 ?_
  exact ux_zret C rfl ⟨_, rfl, hw⟩ dX6_wrong_14
set_option maxHeartbeats 2000000 in
set_option maxRecDepth 4000 in
theorem c_Reader_isBlank {l : Launch} {D : va_G} {G : Nat → Nat} {z N : Nat} (hN : 92 ≤ N) {a0 : ud_St} {x0 : Int32}  {Qf : Int32 → Prop} (hw : w_Reader_isBlank a0 x0 Qf) : ud_M l D G z N yX6_isBlank cX6_isBlank 1 (some Jvm.ClassFile.FieldType.boolean) 0 [.int x0] a0 (po_ip a0 Qf) := by
  unfold w_Reader_isBlank at hw
  refine ud_M_of hN (by decide) (Nat.le_of_ble_eq_true rfl) ?_
  intro p e s m args below meth c C
  have C : ud_C D G z N p s m args meth c cX6_isBlank 1 RX6 (some Jvm.ClassFile.FieldType.boolean) := C
  show ud_X D G z N p l e (ud_rm 0 0 0) s m args below meth c 1 0 0 (ud_Q D G z N (po_ip a0 Qf) below args s) a0 0 [(0, .int x0)] []
  refine ux_iload_n C 0 rfl rfl dX6_isBlank_0 ?_
  refine ux_bipush C (v := 32) (by decide) dX6_isBlank_1 ?_
  refine ux_icmp_eq C (tgt := 12) (by decide) dX6_isBlank_3 (fun hc_2 => ?_) (fun hc_2 => ?_)
  · replace hw := hw.1 hc_2
    refine ux_iconst C (v := 1) (by decide) dX6_isBlank_12 ?_
    refine ux_goto C (tgt := 17) (by decide) dX6_isBlank_13 ?_
    exact ux_zret C rfl ⟨_, rfl, rfl, hw⟩ dX6_isBlank_17
  · replace hw := hw.2 hc_2
    refine ux_iload_n C 0 rfl rfl dX6_isBlank_6 ?_
    refine ux_bipush C (v := 10) (by decide) dX6_isBlank_7 ?_
    refine ux_icmp_ne C (tgt := 16) (by decide) dX6_isBlank_9 (fun hc_1 => ?_) (fun hc_1 => ?_)
    · replace hw := hw.2 hc_1
      refine ux_iconst C (v := 0) (by decide) dX6_isBlank_16 ?_
      exact ux_zret C rfl ⟨_, rfl, rfl, hw⟩ dX6_isBlank_17
    · replace hw := hw.1 hc_1
      refine ux_iconst C (v := 1) (by decide) dX6_isBlank_12 ?_
      refine ux_goto C (tgt := 17) (by decide) dX6_isBlank_13 ?_
      exact ux_zret C rfl ⟨_, rfl, rfl, hw⟩ dX6_isBlank_17
set_option maxHeartbeats 2000000 in
set_option maxRecDepth 4000 in
theorem c_Reader_tokenOf_j35 {D : va_G} {G : Nat → Nat} {z N : Nat} {p : Program} {l : Launch} {e : Env} {s : State} {m : MethodId} {args : Array Value} {below : List Frame} {meth : Method} {c : Code} (hN : 92 ≤ N) {a0 : ud_St} {x0 : Int32} {y0_35 : Int32}  {Qf : Int32 → Prop} (C : ud_C D G z N p s m args meth c cX6_tokenOf 1 RX6 (some Jvm.ClassFile.FieldType.int))  (hw : w_Reader_tokenOf_j35 a0 x0 y0_35 Qf) : ud_X D G z N p l e (ud_rm 0 0 0) s m args below meth c 1 0 0 (ud_Q D G z N (po_ip a0 Qf) below args s) a0 35 [(0, .int y0_35)] [] := by
  unfold w_Reader_tokenOf_j35 at hw
  refine ux_iload_n C 0 rfl rfl dX6_tokenOf_35 ?_
  refine ux_bipush C (v := 59) (by decide) dX6_tokenOf_36 ?_
  refine ux_icmp_ne C (tgt := 45) (by decide) dX6_tokenOf_38 (fun hc_1 => ?_) (fun hc_1 => ?_)
  · replace hw := hw.2 hc_1
    refine ux_iconst C (v := 4) (by decide) dX6_tokenOf_45 ?_
    exact ux_iret C ⟨_, rfl, rfl, hw⟩ dX6_tokenOf_46
  · replace hw := hw.1 hc_1
    refine ux_iconst C (v := 3) (by decide) dX6_tokenOf_41 ?_
    refine ux_goto C (tgt := 46) (by decide) dX6_tokenOf_42 ?_
    exact ux_iret C ⟨_, rfl, rfl, hw⟩ dX6_tokenOf_46
set_option maxHeartbeats 2000000 in
set_option maxRecDepth 4000 in
theorem c_Reader_tokenOf_j21 {D : va_G} {G : Nat → Nat} {z N : Nat} {p : Program} {l : Launch} {e : Env} {s : State} {m : MethodId} {args : Array Value} {below : List Frame} {meth : Method} {c : Code} (hN : 92 ≤ N) {a0 : ud_St} {x0 : Int32} {y0_21 : Int32}  {Qf : Int32 → Prop} (C : ud_C D G z N p s m args meth c cX6_tokenOf 1 RX6 (some Jvm.ClassFile.FieldType.int))  (hw : w_Reader_tokenOf_j21 a0 x0 y0_21 Qf) : ud_X D G z N p l e (ud_rm 0 0 0) s m args below meth c 1 0 0 (ud_Q D G z N (po_ip a0 Qf) below args s) a0 21 [(0, .int y0_21)] [] := by
  unfold w_Reader_tokenOf_j21 at hw
  refine ux_iload_n C 0 rfl rfl dX6_tokenOf_21 ?_
  refine ux_bipush C (v := 48) (by decide) dX6_tokenOf_22 ?_
  refine ux_icmp_lt C (tgt := 35) (by decide) dX6_tokenOf_24 (fun hc_3 => ?_) (fun hc_3 => ?_)
  · replace hw := hw.1 hc_3
    exact ux_pick [0] rfl (c_Reader_tokenOf_j35 hN  C  hw)
  · replace hw := hw.2 hc_3
    refine ux_iload_n C 0 rfl rfl dX6_tokenOf_27 ?_
    refine ux_bipush C (v := 57) (by decide) dX6_tokenOf_28 ?_
    refine ux_icmp_gt C (tgt := 35) (by decide) dX6_tokenOf_30 (fun hc_2 => ?_) (fun hc_2 => ?_)
    · replace hw := hw.1 hc_2
      exact ux_pick [0] rfl (c_Reader_tokenOf_j35 hN  C  hw)
    · replace hw := hw.2 hc_2
      refine ux_iconst C (v := 2) (by decide) dX6_tokenOf_33 ?_
      exact ux_iret C ⟨_, rfl, rfl, hw⟩ dX6_tokenOf_34
set_option maxHeartbeats 2000000 in
set_option maxRecDepth 4000 in
theorem c_Reader_tokenOf {l : Launch} {D : va_G} {G : Nat → Nat} {z N : Nat} (hN : 92 ≤ N) {a0 : ud_St} {x0 : Int32}  {Qf : Int32 → Prop} (hw : w_Reader_tokenOf a0 x0 Qf) : ud_M l D G z N yX6_tokenOf cX6_tokenOf 1 (some Jvm.ClassFile.FieldType.int) 0 [.int x0] a0 (po_ip a0 Qf) := by
  unfold w_Reader_tokenOf at hw
  refine ud_M_of hN (by decide) (Nat.le_of_ble_eq_true rfl) ?_
  intro p e s m args below meth c C
  have C : ud_C D G z N p s m args meth c cX6_tokenOf 1 RX6 (some Jvm.ClassFile.FieldType.int) := C
  show ud_X D G z N p l e (ud_rm 0 0 0) s m args below meth c 1 0 0 (ud_Q D G z N (po_ip a0 Qf) below args s) a0 0 [(0, .int x0)] []
  refine ux_iload_n C 0 rfl rfl dX6_tokenOf_0 ?_
  refine ux_iconst C (v := -1) (by decide) dX6_tokenOf_1 ?_
  refine ux_icmp_ne C (tgt := 7) (by decide) dX6_tokenOf_2 (fun hc_6 => ?_) (fun hc_6 => ?_)
  · replace hw := hw.2 hc_6
    refine ux_iload_n C 0 rfl rfl dX6_tokenOf_7 ?_
    refine ux_bipush C (v := 97) (by decide) dX6_tokenOf_8 ?_
    refine ux_icmp_lt C (tgt := 21) (by decide) dX6_tokenOf_10 (fun hc_5 => ?_) (fun hc_5 => ?_)
    · replace hw := hw.1 hc_5
      exact ux_pick [0] rfl (c_Reader_tokenOf_j21 hN  C  hw)
    · replace hw := hw.2 hc_5
      refine ux_iload_n C 0 rfl rfl dX6_tokenOf_13 ?_
      refine ux_bipush C (v := 122) (by decide) dX6_tokenOf_14 ?_
      refine ux_icmp_gt C (tgt := 21) (by decide) dX6_tokenOf_16 (fun hc_4 => ?_) (fun hc_4 => ?_)
      · replace hw := hw.1 hc_4
        exact ux_pick [0] rfl (c_Reader_tokenOf_j21 hN  C  hw)
      · replace hw := hw.2 hc_4
        refine ux_iconst C (v := 1) (by decide) dX6_tokenOf_19 ?_
        exact ux_iret C ⟨_, rfl, rfl, hw⟩ dX6_tokenOf_20
  · replace hw := hw.1 hc_6
    refine ux_iconst C (v := 0) (by decide) dX6_tokenOf_5 ?_
    exact ux_iret C ⟨_, rfl, rfl, hw⟩ dX6_tokenOf_6
set_option maxHeartbeats 2000000 in
set_option maxRecDepth 4000 in
theorem c_Reader_nameOf {l : Launch} {D : va_G} {G : Nat → Nat} {z N : Nat} (hN : 92 ≤ N) {a0 : ud_St} {x0 : Int32}  {Qf : Nat → Prop} (hw : w_Reader_nameOf a0 x0 Qf) : ud_M l D G z N yX6_nameOf cX6_nameOf 1 (some (Jvm.ClassFile.FieldType.object "java/lang/String")) 0 [.int x0] a0 (po_s G a0 Qf) := by
  unfold w_Reader_nameOf at hw
  refine ud_M_of hN (by decide) (Nat.le_of_ble_eq_true rfl) ?_
  intro p e s m args below meth c C
  have C : ud_C D G z N p s m args meth c cX6_nameOf 1 RX6 (some (Jvm.ClassFile.FieldType.object "java/lang/String")) := C
  show ud_X D G z N p l e (ud_rm 0 0 0) s m args below meth c 1 0 0 (ud_Q D G z N (po_s G a0 Qf) below args s) a0 0 [(0, .int x0)] []
  refine ux_iload_n C 0 rfl rfl dX6_nameOf_0 ?_
  by_cases hx_1 : x0 = 0
  · replace hw := hw.1 hx_1
    refine ux_tableIn C (tgt := 72) (by rw [hx_1]; decide) (by rw [hx_1]; decide) (by rw [hx_1]; rfl) (by decide) dX6_nameOf_1 ?_
    refine ux_ldcS C 4 (by decide) rfl dX6_nameOf_72 ?_
    exact ux_aret C (Or.inl ⟨_, rfl⟩) (Or.inr ⟨_, rfl⟩) ⟨_, rfl, rfl, hw⟩ dX6_nameOf_74
  · replace hw := hw.2 hx_1
    by_cases hx_2 : x0 = 1
    · replace hw := hw.1 hx_2
      refine ux_tableIn C (tgt := 75) (by rw [hx_2]; decide) (by rw [hx_2]; decide) (by rw [hx_2]; rfl) (by decide) dX6_nameOf_1 ?_
      refine ux_ldcS C 5 (by decide) rfl dX6_nameOf_75 ?_
      exact ux_aret C (Or.inl ⟨_, rfl⟩) (Or.inr ⟨_, rfl⟩) ⟨_, rfl, rfl, hw⟩ dX6_nameOf_77
    · replace hw := hw.2 hx_2
      by_cases hx_3 : x0 = 2
      · replace hw := hw.1 hx_3
        refine ux_tableIn C (tgt := 78) (by rw [hx_3]; decide) (by rw [hx_3]; decide) (by rw [hx_3]; rfl) (by decide) dX6_nameOf_1 ?_
        refine ux_ldcS C 6 (by decide) rfl dX6_nameOf_78 ?_
        exact ux_aret C (Or.inl ⟨_, rfl⟩) (Or.inr ⟨_, rfl⟩) ⟨_, rfl, rfl, hw⟩ dX6_nameOf_80
      · replace hw := hw.2 hx_3
        by_cases hx_4 : x0 = 3
        · replace hw := hw.1 hx_4
          refine ux_tableIn C (tgt := 81) (by rw [hx_4]; decide) (by rw [hx_4]; decide) (by rw [hx_4]; rfl) (by decide) dX6_nameOf_1 ?_
          refine ux_ldcS C 7 (by decide) rfl dX6_nameOf_81 ?_
          exact ux_aret C (Or.inl ⟨_, rfl⟩) (Or.inr ⟨_, rfl⟩) ⟨_, rfl, rfl, hw⟩ dX6_nameOf_83
        · replace hw := hw.2 hx_4
          by_cases hx_5 : x0 = 4
          · replace hw := hw.1 hx_5
            refine ux_tableIn C (tgt := 84) (by rw [hx_5]; decide) (by rw [hx_5]; decide) (by rw [hx_5]; rfl) (by decide) dX6_nameOf_1 ?_
            refine ux_ldcS C 8 (by decide) rfl dX6_nameOf_84 ?_
            exact ux_aret C (Or.inl ⟨_, rfl⟩) (Or.inr ⟨_, rfl⟩) ⟨_, rfl, rfl, hw⟩ dX6_nameOf_86
          · replace hw := hw.2 hx_5
            by_cases hx_6 : x0 = 5
            · replace hw := hw.1 hx_6
              refine ux_tableIn C (tgt := 87) (by rw [hx_6]; decide) (by rw [hx_6]; decide) (by rw [hx_6]; rfl) (by decide) dX6_nameOf_1 ?_
              refine ux_ldcS C 9 (by decide) rfl dX6_nameOf_87 ?_
              exact ux_aret C (Or.inl ⟨_, rfl⟩) (Or.inr ⟨_, rfl⟩) ⟨_, rfl, rfl, hw⟩ dX6_nameOf_89
            · replace hw := hw.2 hx_6
              by_cases hx_7 : x0 = 6
              · replace hw := hw.1 hx_7
                refine ux_tableIn C (tgt := 90) (by rw [hx_7]; decide) (by rw [hx_7]; decide) (by rw [hx_7]; rfl) (by decide) dX6_nameOf_1 ?_
                refine ux_ldcS C 10 (by decide) rfl dX6_nameOf_90 ?_
                exact ux_aret C (Or.inl ⟨_, rfl⟩) (Or.inr ⟨_, rfl⟩) ⟨_, rfl, rfl, hw⟩ dX6_nameOf_92
              · replace hw := hw.2 hx_7
                by_cases hx_8 : x0 = 7
                · replace hw := hw.1 hx_8
                  refine ux_tableIn C (tgt := 93) (by rw [hx_8]; decide) (by rw [hx_8]; decide) (by rw [hx_8]; rfl) (by decide) dX6_nameOf_1 ?_
                  refine ux_ldcS C 11 (by decide) rfl dX6_nameOf_93 ?_
                  exact ux_aret C (Or.inl ⟨_, rfl⟩) (Or.inr ⟨_, rfl⟩) ⟨_, rfl, rfl, hw⟩ dX6_nameOf_95
                · replace hw := hw.2 hx_8
                  by_cases hx_9 : x0 = 8
                  · replace hw := hw.1 hx_9
                    refine ux_tableIn C (tgt := 96) (by rw [hx_9]; decide) (by rw [hx_9]; decide) (by rw [hx_9]; rfl) (by decide) dX6_nameOf_1 ?_
                    refine ux_ldcS C 12 (by decide) rfl dX6_nameOf_96 ?_
                    exact ux_aret C (Or.inl ⟨_, rfl⟩) (Or.inr ⟨_, rfl⟩) ⟨_, rfl, rfl, hw⟩ dX6_nameOf_98
                  · replace hw := hw.2 hx_9
                    by_cases hx_10 : x0 = 9
                    · replace hw := hw.1 hx_10
                      refine ux_tableIn C (tgt := 99) (by rw [hx_10]; decide) (by rw [hx_10]; decide) (by rw [hx_10]; rfl) (by decide) dX6_nameOf_1 ?_
                      refine ux_ldcS C 13 (by decide) rfl dX6_nameOf_99 ?_
                      exact ux_aret C (Or.inl ⟨_, rfl⟩) (Or.inr ⟨_, rfl⟩) ⟨_, rfl, rfl, hw⟩ dX6_nameOf_101
                    · replace hw := hw.2 hx_10
                      by_cases hx_11 : x0 = 10
                      · replace hw := hw.1 hx_11
                        refine ux_tableIn C (tgt := 102) (by rw [hx_11]; decide) (by rw [hx_11]; decide) (by rw [hx_11]; rfl) (by decide) dX6_nameOf_1 ?_
                        refine ux_ldcS C 14 (by decide) rfl dX6_nameOf_102 ?_
                        exact ux_aret C (Or.inl ⟨_, rfl⟩) (Or.inr ⟨_, rfl⟩) ⟨_, rfl, rfl, hw⟩ dX6_nameOf_104
                      · replace hw := hw.2 hx_11
                        by_cases hx_12 : x0 = 11
                        · replace hw := hw.1 hx_12
                          refine ux_tableIn C (tgt := 105) (by rw [hx_12]; decide) (by rw [hx_12]; decide) (by rw [hx_12]; rfl) (by decide) dX6_nameOf_1 ?_
                          refine ux_ldcS C 15 (by decide) rfl dX6_nameOf_105 ?_
                          exact ux_aret C (Or.inl ⟨_, rfl⟩) (Or.inr ⟨_, rfl⟩) ⟨_, rfl, rfl, hw⟩ dX6_nameOf_107
                        · replace hw := hw.2 hx_12
                          by_cases hx_13 : x0 = 12
                          · replace hw := hw.1 hx_13
                            refine ux_tableIn C (tgt := 108) (by rw [hx_13]; decide) (by rw [hx_13]; decide) (by rw [hx_13]; rfl) (by decide) dX6_nameOf_1 ?_
                            refine ux_ldcS C 16 (by decide) rfl dX6_nameOf_108 ?_
                            exact ux_aret C (Or.inl ⟨_, rfl⟩) (Or.inr ⟨_, rfl⟩) ⟨_, rfl, rfl, hw⟩ dX6_nameOf_110
                          · replace hw := hw.2 hx_13
                            by_cases hx_14 : x0 = 13
                            · replace hw := hw.1 hx_14
                              refine ux_tableIn C (tgt := 111) (by rw [hx_14]; decide) (by rw [hx_14]; decide) (by rw [hx_14]; rfl) (by decide) dX6_nameOf_1 ?_
                              refine ux_ldcS C 17 (by decide) rfl dX6_nameOf_111 ?_
                              exact ux_aret C (Or.inl ⟨_, rfl⟩) (Or.inr ⟨_, rfl⟩) ⟨_, rfl, rfl, hw⟩ dX6_nameOf_113
                            · replace hw := hw.2 hx_14
                              have hx_1i : Int32.toInt x0 ≠ 0 := fun q => hx_1 (Int32.toInt_inj.mp (q.trans (by decide)))
                              have hx_2i : Int32.toInt x0 ≠ 1 := fun q => hx_2 (Int32.toInt_inj.mp (q.trans (by decide)))
                              have hx_3i : Int32.toInt x0 ≠ 2 := fun q => hx_3 (Int32.toInt_inj.mp (q.trans (by decide)))
                              have hx_4i : Int32.toInt x0 ≠ 3 := fun q => hx_4 (Int32.toInt_inj.mp (q.trans (by decide)))
                              have hx_5i : Int32.toInt x0 ≠ 4 := fun q => hx_5 (Int32.toInt_inj.mp (q.trans (by decide)))
                              have hx_6i : Int32.toInt x0 ≠ 5 := fun q => hx_6 (Int32.toInt_inj.mp (q.trans (by decide)))
                              have hx_7i : Int32.toInt x0 ≠ 6 := fun q => hx_7 (Int32.toInt_inj.mp (q.trans (by decide)))
                              have hx_8i : Int32.toInt x0 ≠ 7 := fun q => hx_8 (Int32.toInt_inj.mp (q.trans (by decide)))
                              have hx_9i : Int32.toInt x0 ≠ 8 := fun q => hx_9 (Int32.toInt_inj.mp (q.trans (by decide)))
                              have hx_10i : Int32.toInt x0 ≠ 9 := fun q => hx_10 (Int32.toInt_inj.mp (q.trans (by decide)))
                              have hx_11i : Int32.toInt x0 ≠ 10 := fun q => hx_11 (Int32.toInt_inj.mp (q.trans (by decide)))
                              have hx_12i : Int32.toInt x0 ≠ 11 := fun q => hx_12 (Int32.toInt_inj.mp (q.trans (by decide)))
                              have hx_13i : Int32.toInt x0 ≠ 12 := fun q => hx_13 (Int32.toInt_inj.mp (q.trans (by decide)))
                              have hx_14i : Int32.toInt x0 ≠ 13 := fun q => hx_14 (Int32.toInt_inj.mp (q.trans (by decide)))
                              refine ux_tableOut C (tgt := 114) (by omega) (by decide) dX6_nameOf_1 ?_
                              refine ux_ldcS C 18 (by decide) rfl dX6_nameOf_114 ?_
                              exact ux_aret C (Or.inl ⟨_, rfl⟩) (Or.inr ⟨_, rfl⟩) ⟨_, rfl, rfl, hw⟩ dX6_nameOf_116
set_option maxHeartbeats 2000000 in
set_option maxRecDepth 4000 in
theorem c_Slot_begin {l : Launch} {D : va_G} {G : Nat → Nat} {z N : Nat} (hN : 92 ≤ N) {a0 : ud_St} {k0 : Nat} {x1 : Int32} {x2 : Int32} (hk0 : ud_isS N k0) {Qf : ud_St → Prop} (hw : w_Slot_begin a0 k0 x1 x2 Qf) : ud_M l D G z N yX7_begin cX7_begin 4 (none : Option Jvm.ClassFile.FieldType) 0 [.ref (z + k0), .int x1, .int x2] a0 (po_v Qf) := by
  unfold w_Slot_begin at hw
  refine ud_M_of hN (by decide) (Nat.le_of_ble_eq_true rfl) ?_
  intro p e s m args below meth c C
  have C : ud_C D G z N p s m args meth c cX7_begin 4 RX7 (none : Option Jvm.ClassFile.FieldType) := C
  show ud_X D G z N p l e (ud_rm 0 0 0) s m args below meth c 4 0 0 (ud_Q D G z N (po_v Qf) below args s) a0 0 [(0, .ref (z + k0)), (1, .int x1), (2, .int x2)] []
  refine ux_aload_n C 0 rfl rfl dX7_begin_0 ?_
  refine ux_iconst C (v := 1) (by decide) dX7_begin_1 ?_
  refine pf_7_15 C hk0 (Or.inr rfl) dX7_begin_2 ?_
  refine ux_aload_n C 0 rfl rfl dX7_begin_5 ?_
  refine ux_iload_n C 1 rfl rfl dX7_begin_6 ?_
  refine pf_7_19 C hk0 dX7_begin_7 ?_
  refine ux_aload_n C 0 rfl rfl dX7_begin_10 ?_
  refine ux_iload_n C 2 rfl rfl dX7_begin_11 ?_
  refine pf_7_23 C hk0 dX7_begin_12 ?_
  refine ux_iconst C (v := 0) (by decide) dX7_begin_15 ?_
  refine ux_istore_n C rfl (by decide) rfl dX7_begin_16 ?_
  refine ux_pick [1, 0] rfl ?_
  refine LW2.elim (P := fun (x3_3 : Int32) (a_4 : ud_St) => ud_X D G z N p l e (ud_rm 0 0 0) s m args below meth c 4 0 0 (ud_Q D G z N (po_v Qf) below args s) a_4 17 [(0, .ref (z + k0)), (3, .int x3_3)] []) hw ?_
  intro x3_3 a_4 K_1 hw ih_2
  refine ux_iload_n C 1 rfl rfl dX7_begin_17 ?_
  refine ux_aload_n C 0 rfl rfl dX7_begin_18 ?_
  refine gf_7_9 C hk0 dX7_begin_19 ?_
  refine ux_alenJ C hk0.2 rfl dX7_begin_22 ?_
  refine ux_icmp_ge C (tgt := 39) (by decide) dX7_begin_23 (fun hc_6 => ?_) (fun hc_6 => ?_)
  · replace hw := hw.1 hc_6
    exact ux_vret C ⟨rfl, hw⟩ dX7_begin_39
  · replace hw := hw.2 hc_6
    refine ux_aload_n C 0 rfl rfl dX7_begin_26 ?_
    refine gf_7_9 C hk0 dX7_begin_27 ?_
    refine ux_iload_n C 1 rfl rfl dX7_begin_30 ?_
    refine ux_lconst C (v := 0) (by decide) dX7_begin_31 ?_
    obtain ⟨hi_5, hw⟩ := hw
    refine ux_last C hk0.2 hi_5 dX7_begin_32 ?_
    refine ux_iinc C 1 rfl rfl (by decide) rfl dX7_begin_33 ?_
    refine ux_goto C (tgt := 17) (by decide) dX7_begin_36 ?_
    exact ux_pick [1, 0] rfl (ih_2 _ _ hw)
set_option maxHeartbeats 2000000 in
set_option maxRecDepth 4000 in
theorem c_Slot_cut {l : Launch} {D : va_G} {G : Nat → Nat} {z N : Nat} (hN : 92 ≤ N) {a0 : ud_St} {k0 : Nat} {x1 : Int64} (hk0 : ud_isS N k0) {Qf : Int64 → Prop} (hw : w_Slot_cut a0 k0 x1 Qf) : ud_M l D G z N yX7_cut cX7_cut 3 (some Jvm.ClassFile.FieldType.long) 0 [.ref (z + k0), .long x1] a0 (po_lp a0 Qf) := by
  unfold w_Slot_cut at hw
  refine ud_M_of hN (by decide) (Nat.le_of_ble_eq_true rfl) ?_
  intro p e s m args below meth c C
  have C : ud_C D G z N p s m args meth c cX7_cut 3 RX7 (some Jvm.ClassFile.FieldType.long) := C
  show ud_X D G z N p l e (ud_rm 0 0 0) s m args below meth c 3 0 0 (ud_Q D G z N (po_lp a0 Qf) below args s) a0 0 [(0, .ref (z + k0)), (1, .long x1)] []
  refine ux_aload_n C 0 rfl rfl dX7_cut_0 ?_
  refine gf_7_19 C hk0 dX7_cut_1 ?_
  by_cases hx_1 : (a0.1 k0 2) = 0
  · replace hw := hw.1 hx_1
    refine ux_tableIn C (tgt := 32) (by rw [hx_1]; decide) (by rw [hx_1]; decide) (by rw [hx_1]; rfl) (by decide) dX7_cut_4 ?_
    refine ux_lload_n C 1 rfl rfl dX7_cut_32 ?_
    refine ux_l2i C dX7_cut_33 ?_
    refine ux_i2b C dX7_cut_34 ?_
    refine ux_i2l C dX7_cut_35 ?_
    exact ux_lret C ⟨_, rfl, rfl, hw⟩ dX7_cut_36
  · replace hw := hw.2 hx_1
    by_cases hx_2 : (a0.1 k0 2) = 1
    · replace hw := hw.1 hx_2
      refine ux_tableIn C (tgt := 37) (by rw [hx_2]; decide) (by rw [hx_2]; decide) (by rw [hx_2]; rfl) (by decide) dX7_cut_4 ?_
      refine ux_lload_n C 1 rfl rfl dX7_cut_37 ?_
      refine ux_l2i C dX7_cut_38 ?_
      refine ux_i2s C dX7_cut_39 ?_
      refine ux_i2l C dX7_cut_40 ?_
      exact ux_lret C ⟨_, rfl, rfl, hw⟩ dX7_cut_41
    · replace hw := hw.2 hx_2
      by_cases hx_3 : (a0.1 k0 2) = 2
      · replace hw := hw.1 hx_3
        refine ux_tableIn C (tgt := 42) (by rw [hx_3]; decide) (by rw [hx_3]; decide) (by rw [hx_3]; rfl) (by decide) dX7_cut_4 ?_
        refine ux_lload_n C 1 rfl rfl dX7_cut_42 ?_
        refine ux_l2i C dX7_cut_43 ?_
        refine ux_i2l C dX7_cut_44 ?_
        exact ux_lret C ⟨_, rfl, rfl, hw⟩ dX7_cut_45
      · replace hw := hw.2 hx_3
        have hx_1i : Int32.toInt (a0.1 k0 2) ≠ 0 := fun q => hx_1 (Int32.toInt_inj.mp (q.trans (by decide)))
        have hx_2i : Int32.toInt (a0.1 k0 2) ≠ 1 := fun q => hx_2 (Int32.toInt_inj.mp (q.trans (by decide)))
        have hx_3i : Int32.toInt (a0.1 k0 2) ≠ 2 := fun q => hx_3 (Int32.toInt_inj.mp (q.trans (by decide)))
        refine ux_tableOut C (tgt := 46) (by omega) (by decide) dX7_cut_4 ?_
        refine ux_lload_n C 1 rfl rfl dX7_cut_46 ?_
        exact ux_lret C ⟨_, rfl, rfl, hw⟩ dX7_cut_47
set_option maxHeartbeats 2000000 in
set_option maxRecDepth 4000 in
theorem c_Slot_get {l : Launch} {D : va_G} {G : Nat → Nat} {z N : Nat} (hN : 92 ≤ N) {a0 : ud_St} {k0 : Nat} {x1 : Int32} (hk0 : ud_isS N k0) {Qf : Int64 → Prop} (hw : w_Slot_get a0 k0 x1 Qf) : ud_M l D G z N yX7_get cX7_get 2 (some Jvm.ClassFile.FieldType.long) 0 [.ref (z + k0), .int x1] a0 (po_lp a0 Qf) := by
  unfold w_Slot_get at hw
  refine ud_M_of hN (by decide) (Nat.le_of_ble_eq_true rfl) ?_
  intro p e s m args below meth c C
  have C : ud_C D G z N p s m args meth c cX7_get 2 RX7 (some Jvm.ClassFile.FieldType.long) := C
  show ud_X D G z N p l e (ud_rm 0 0 0) s m args below meth c 2 0 0 (ud_Q D G z N (po_lp a0 Qf) below args s) a0 0 [(0, .ref (z + k0)), (1, .int x1)] []
  refine ux_iload_n C 1 rfl rfl dX7_get_0 ?_
  refine ux_if_lt C (tgt := 30) (by decide) dX7_get_1 (fun hc_4 => ?_) (fun hc_4 => ?_)
  · replace hw := hw.1 hc_4
    refine ux_lconst C (v := 0) (by decide) dX7_get_30 ?_
    exact ux_lret C ⟨_, rfl, rfl, hw⟩ dX7_get_31
  · replace hw := hw.2 hc_4
    refine ux_iload_n C 1 rfl rfl dX7_get_4 ?_
    refine ux_aload_n C 0 rfl rfl dX7_get_5 ?_
    refine gf_7_23 C hk0 dX7_get_6 ?_
    refine ux_icmp_ge C (tgt := 30) (by decide) dX7_get_9 (fun hc_3 => ?_) (fun hc_3 => ?_)
    · replace hw := hw.1 hc_3
      refine ux_lconst C (v := 0) (by decide) dX7_get_30 ?_
      exact ux_lret C ⟨_, rfl, rfl, hw⟩ dX7_get_31
    · replace hw := hw.2 hc_3
      refine ux_iload_n C 1 rfl rfl dX7_get_12 ?_
      refine ux_aload_n C 0 rfl rfl dX7_get_13 ?_
      refine gf_7_9 C hk0 dX7_get_14 ?_
      refine ux_alenJ C hk0.2 rfl dX7_get_17 ?_
      refine ux_icmp_ge C (tgt := 30) (by decide) dX7_get_18 (fun hc_2 => ?_) (fun hc_2 => ?_)
      · replace hw := hw.1 hc_2
        refine ux_lconst C (v := 0) (by decide) dX7_get_30 ?_
        exact ux_lret C ⟨_, rfl, rfl, hw⟩ dX7_get_31
      · replace hw := hw.2 hc_2
        refine ux_aload_n C 0 rfl rfl dX7_get_21 ?_
        refine gf_7_9 C hk0 dX7_get_22 ?_
        refine ux_iload_n C 1 rfl rfl dX7_get_25 ?_
        obtain ⟨hi_1, hw⟩ := hw
        refine ux_lald C hk0.2 hi_1 dX7_get_26 ?_
        refine ux_goto C (tgt := 31) (by decide) dX7_get_27 ?_
        exact ux_lret C ⟨_, rfl, rfl, hw⟩ dX7_get_31
set_option maxHeartbeats 2000000 in
set_option maxRecDepth 4000 in
theorem c_Slot_spans {l : Launch} {D : va_G} {G : Nat → Nat} {z N : Nat} (hN : 92 ≤ N) {a0 : ud_St} {k0 : Nat} {x1 : Int32} {x2 : Int32} (hk0 : ud_isS N k0) {Qf : Int32 → Prop} (hw : w_Slot_spans a0 k0 x1 x2 Qf) : ud_M l D G z N yX7_spans cX7_spans 3 (some Jvm.ClassFile.FieldType.boolean) 0 [.ref (z + k0), .int x1, .int x2] a0 (po_ip a0 Qf) := by
  unfold w_Slot_spans at hw
  refine ud_M_of hN (by decide) (Nat.le_of_ble_eq_true rfl) ?_
  intro p e s m args below meth c C
  have C : ud_C D G z N p s m args meth c cX7_spans 3 RX7 (some Jvm.ClassFile.FieldType.boolean) := C
  show ud_X D G z N p l e (ud_rm 0 0 0) s m args below meth c 3 0 0 (ud_Q D G z N (po_ip a0 Qf) below args s) a0 0 [(0, .ref (z + k0)), (1, .int x1), (2, .int x2)] []
  refine ux_iload_n C 1 rfl rfl dX7_spans_0 ?_
  refine ux_if_lt C (tgt := 30) (by decide) dX7_spans_1 (fun hc_4 => ?_) (fun hc_4 => ?_)
  · replace hw := hw.1 hc_4
    refine ux_iconst C (v := 0) (by decide) dX7_spans_30 ?_
    exact ux_zret C rfl ⟨_, rfl, rfl, hw⟩ dX7_spans_31
  · replace hw := hw.2 hc_4
    refine ux_iload_n C 2 rfl rfl dX7_spans_4 ?_
    refine ux_if_lt C (tgt := 30) (by decide) dX7_spans_5 (fun hc_3 => ?_) (fun hc_3 => ?_)
    · replace hw := hw.1 hc_3
      refine ux_iconst C (v := 0) (by decide) dX7_spans_30 ?_
      exact ux_zret C rfl ⟨_, rfl, rfl, hw⟩ dX7_spans_31
    · replace hw := hw.2 hc_3
      refine ux_iload_n C 1 rfl rfl dX7_spans_8 ?_
      refine ux_aload_n C 0 rfl rfl dX7_spans_9 ?_
      refine gf_7_23 C hk0 dX7_spans_10 ?_
      refine ux_icmp_gt C (tgt := 30) (by decide) dX7_spans_13 (fun hc_2 => ?_) (fun hc_2 => ?_)
      · replace hw := hw.1 hc_2
        refine ux_iconst C (v := 0) (by decide) dX7_spans_30 ?_
        exact ux_zret C rfl ⟨_, rfl, rfl, hw⟩ dX7_spans_31
      · replace hw := hw.2 hc_2
        refine ux_iload_n C 2 rfl rfl dX7_spans_16 ?_
        refine ux_aload_n C 0 rfl rfl dX7_spans_17 ?_
        refine gf_7_23 C hk0 dX7_spans_18 ?_
        refine ux_iload_n C 1 rfl rfl dX7_spans_21 ?_
        refine ux_isub C dX7_spans_22 ?_
        refine ux_icmp_gt C (tgt := 30) (by decide) dX7_spans_23 (fun hc_1 => ?_) (fun hc_1 => ?_)
        · replace hw := hw.1 hc_1
          refine ux_iconst C (v := 0) (by decide) dX7_spans_30 ?_
          exact ux_zret C rfl ⟨_, rfl, rfl, hw⟩ dX7_spans_31
        · replace hw := hw.2 hc_1
          refine ux_iconst C (v := 1) (by decide) dX7_spans_26 ?_
          refine ux_goto C (tgt := 31) (by decide) dX7_spans_27 ?_
          exact ux_zret C rfl ⟨_, rfl, rfl, hw⟩ dX7_spans_31
set_option maxHeartbeats 2000000 in
set_option maxRecDepth 4000 in
theorem c_Table_clear {l : Launch} {D : va_G} {G : Nat → Nat} {z N : Nat} (hN : 92 ≤ N) {a0 : ud_St}   {Qf : ud_St → Prop} (hw : w_Table_clear a0  Qf) : ud_M l D G z N yX8_clear cX8_clear 1 (none : Option Jvm.ClassFile.FieldType) 0 [.ref (z + 15)] a0 (po_v Qf) := by
  unfold w_Table_clear at hw
  refine ud_M_of hN (by decide) (Nat.le_of_ble_eq_true rfl) ?_
  intro p e s m args below meth c C
  have C : ud_C D G z N p s m args meth c cX8_clear 1 RX8 (none : Option Jvm.ClassFile.FieldType) := C
  show ud_X D G z N p l e (ud_rm 0 0 0) s m args below meth c 1 0 0 (ud_Q D G z N (po_v Qf) below args s) a0 0 [(0, .ref (z + 15))] []
  refine ux_aload_n C 0 rfl rfl dX8_clear_0 ?_
  refine ux_iconst C (v := 0) (by decide) dX8_clear_1 ?_
  refine pf_8_28 C (uc_15 C.2.2.2.2.2) dX8_clear_2 ?_
  refine ux_aload_n C 0 rfl rfl dX8_clear_5 ?_
  refine ux_iconst C (v := 0) (by decide) dX8_clear_6 ?_
  refine pf_8_32 C (uc_15 C.2.2.2.2.2) dX8_clear_7 ?_
  refine ux_aload_n C 0 rfl rfl dX8_clear_10 ?_
  refine ux_iconst C (v := 0) (by decide) dX8_clear_11 ?_
  refine pf_8_35 C (uc_15 C.2.2.2.2.2) dX8_clear_12 ?_
  refine ux_aload_n C 0 rfl rfl dX8_clear_15 ?_
  refine ux_iconst C (v := 0) (by decide) dX8_clear_16 ?_
  refine pf_8_38 C (uc_15 C.2.2.2.2.2) dX8_clear_17 ?_
  refine ux_aload_n C 0 rfl rfl dX8_clear_20 ?_
  refine gf_8_12 C (uc_15 C.2.2.2.2.2) dX8_clear_21 ?_
  refine ux_iconst C (v := 0) (by decide) dX8_clear_24 ?_
  refine pf_8_41 C (uc_16 C.2.2.2.2.2) dX8_clear_25 ?_
  refine ux_aload_n C 0 rfl rfl dX8_clear_28 ?_
  refine gf_8_18 C (uc_15 C.2.2.2.2.2) dX8_clear_29 ?_
  refine ux_iconst C (v := 0) (by decide) dX8_clear_32 ?_
  refine pf_8_41 C (uc_19 C.2.2.2.2.2) dX8_clear_33 ?_
  refine ux_aload_n C 0 rfl rfl dX8_clear_36 ?_
  refine gf_8_21 C (uc_15 C.2.2.2.2.2) dX8_clear_37 ?_
  refine ux_iconst C (v := 0) (by decide) dX8_clear_40 ?_
  refine pf_8_41 C (uc_22 C.2.2.2.2.2) dX8_clear_41 ?_
  refine ux_aload_n C 0 rfl rfl dX8_clear_44 ?_
  refine ux_iconst C (v := 0) (by decide) dX8_clear_45 ?_
  refine pf_8_44 C (uc_15 C.2.2.2.2.2) dX8_clear_46 ?_
  exact ux_vret C ⟨rfl, hw⟩ dX8_clear_49
set_option maxHeartbeats 2000000 in
set_option maxRecDepth 4000 in
theorem c_Table_mostOf {l : Launch} {D : va_G} {G : Nat → Nat} {z N : Nat} (hN : 92 ≤ N) {a0 : ud_St} {k0 : Nat} {x1 : Int32} (hk0 : ud_isT N k0) {Qf : Int32 → Prop} (hw : w_Table_mostOf a0 k0 x1 Qf) : ud_M l D G z N yX8_mostOf cX8_mostOf 2 (some Jvm.ClassFile.FieldType.int) 0 [.ref (z + k0), .int x1] a0 (po_ip a0 Qf) := by
  unfold w_Table_mostOf at hw
  refine ud_M_of hN (by decide) (Nat.le_of_ble_eq_true rfl) ?_
  intro p e s m args below meth c C
  have C : ud_C D G z N p s m args meth c cX8_mostOf 2 RX8 (some Jvm.ClassFile.FieldType.int) := C
  show ud_X D G z N p l e (ud_rm 0 0 0) s m args below meth c 2 0 0 (ud_Q D G z N (po_ip a0 Qf) below args s) a0 0 [(0, .ref (z + k0)), (1, .int x1)] []
  refine ux_iload_n C 1 rfl rfl dX8_mostOf_0 ?_
  refine ux_bipush C (v := 12) (by decide) dX8_mostOf_1 ?_
  refine ux_icmp_ge C (tgt := 8) (by decide) dX8_mostOf_3 (fun hc_2 => ?_) (fun hc_2 => ?_)
  · replace hw := hw.1 hc_2
    refine ux_iload_n C 1 rfl rfl dX8_mostOf_8 ?_
    refine ux_bipush C (v := 14) (by decide) dX8_mostOf_9 ?_
    refine ux_icmp_ne C (tgt := 23) (by decide) dX8_mostOf_11 (fun hc_1 => ?_) (fun hc_1 => ?_)
    · replace hw := hw.2 hc_1
      refine ux_bipush C (v := 99) (by decide) dX8_mostOf_23 ?_
      exact ux_iret C ⟨_, rfl, rfl, hw⟩ dX8_mostOf_25
    · replace hw := hw.1 hc_1
      refine ux_aload_n C 0 rfl rfl dX8_mostOf_14 ?_
      refine gf_8_28 C hk0 dX8_mostOf_15 ?_
      refine ux_iconst C (v := 1) (by decide) dX8_mostOf_18 ?_
      refine ux_isub C dX8_mostOf_19 ?_
      refine ux_goto C (tgt := 25) (by decide) dX8_mostOf_20 ?_
      exact ux_iret C ⟨_, rfl, rfl, hw⟩ dX8_mostOf_25
  · replace hw := hw.2 hc_2
    refine ux_iconst C (v := 0) (by decide) dX8_mostOf_6 ?_
    exact ux_iret C ⟨_, rfl, rfl, hw⟩ dX8_mostOf_7
set_option maxHeartbeats 2000000 in
set_option maxRecDepth 4000 in
theorem c_Tape_hasRoomFor {l : Launch} {D : va_G} {G : Nat → Nat} {z N : Nat} (hN : 92 ≤ N) {a0 : ud_St} {x1 : Int32}  {Qf : Int32 → Prop} (hw : w_Tape_hasRoomFor a0 x1 Qf) : ud_M l D G z N yX9_hasRoomFor cX9_hasRoomFor 2 (some Jvm.ClassFile.FieldType.boolean) 0 [.ref (z + 1), .int x1] a0 (po_ip a0 Qf) := by
  unfold w_Tape_hasRoomFor at hw
  refine ud_M_of hN (by decide) (Nat.le_of_ble_eq_true rfl) ?_
  intro p e s m args below meth c C
  have C : ud_C D G z N p s m args meth c cX9_hasRoomFor 2 RX9 (some Jvm.ClassFile.FieldType.boolean) := C
  show ud_X D G z N p l e (ud_rm 0 0 0) s m args below meth c 2 0 0 (ud_Q D G z N (po_ip a0 Qf) below args s) a0 0 [(0, .ref (z + 1)), (1, .int x1)] []
  refine ux_aload_n C 0 rfl rfl dX9_hasRoomFor_0 ?_
  refine gf_9_15 C dX9_hasRoomFor_1 ?_
  refine ux_iload_n C 1 rfl rfl dX9_hasRoomFor_4 ?_
  refine ux_iadd C dX9_hasRoomFor_5 ?_
  refine ux_sipush C (v := 800) (by decide) dX9_hasRoomFor_6 ?_
  refine ux_icmp_gt C (tgt := 16) (by decide) dX9_hasRoomFor_9 (fun hc_1 => ?_) (fun hc_1 => ?_)
  · replace hw := hw.1 hc_1
    refine ux_iconst C (v := 0) (by decide) dX9_hasRoomFor_16 ?_
    exact ux_zret C rfl ⟨_, rfl, rfl, hw⟩ dX9_hasRoomFor_17
  · replace hw := hw.2 hc_1
    refine ux_iconst C (v := 1) (by decide) dX9_hasRoomFor_12 ?_
    refine ux_goto C (tgt := 17) (by decide) dX9_hasRoomFor_13 ?_
    exact ux_zret C rfl ⟨_, rfl, rfl, hw⟩ dX9_hasRoomFor_17
set_option maxHeartbeats 2000000 in
set_option maxRecDepth 4000 in
theorem c_Tape_byteAt {l : Launch} {D : va_G} {G : Nat → Nat} {z N : Nat} (hN : 92 ≤ N) {a0 : ud_St} {x1 : Int32}  {Qf : Int32 → Prop} (hw : w_Tape_byteAt a0 x1 Qf) : ud_M l D G z N yX9_byteAt cX9_byteAt 2 (some Jvm.ClassFile.FieldType.int) 0 [.ref (z + 1), .int x1] a0 (po_ip a0 Qf) := by
  unfold w_Tape_byteAt at hw
  refine ud_M_of hN (by decide) (Nat.le_of_ble_eq_true rfl) ?_
  intro p e s m args below meth c C
  have C : ud_C D G z N p s m args meth c cX9_byteAt 2 RX9 (some Jvm.ClassFile.FieldType.int) := C
  show ud_X D G z N p l e (ud_rm 0 0 0) s m args below meth c 2 0 0 (ud_Q D G z N (po_ip a0 Qf) below args s) a0 0 [(0, .ref (z + 1)), (1, .int x1)] []
  refine ux_iload_n C 1 rfl rfl dX9_byteAt_0 ?_
  refine ux_if_lt C (tgt := 30) (by decide) dX9_byteAt_1 (fun hc_4 => ?_) (fun hc_4 => ?_)
  · replace hw := hw.1 hc_4
    refine ux_iconst C (v := -1) (by decide) dX9_byteAt_30 ?_
    exact ux_iret C ⟨_, rfl, rfl, hw⟩ dX9_byteAt_31
  · replace hw := hw.2 hc_4
    refine ux_iload_n C 1 rfl rfl dX9_byteAt_4 ?_
    refine ux_aload_n C 0 rfl rfl dX9_byteAt_5 ?_
    refine gf_9_15 C dX9_byteAt_6 ?_
    refine ux_icmp_ge C (tgt := 30) (by decide) dX9_byteAt_9 (fun hc_3 => ?_) (fun hc_3 => ?_)
    · replace hw := hw.1 hc_3
      refine ux_iconst C (v := -1) (by decide) dX9_byteAt_30 ?_
      exact ux_iret C ⟨_, rfl, rfl, hw⟩ dX9_byteAt_31
    · replace hw := hw.2 hc_3
      refine ux_iload_n C 1 rfl rfl dX9_byteAt_12 ?_
      refine ux_aload_n C 0 rfl rfl dX9_byteAt_13 ?_
      refine gf_9_9 C dX9_byteAt_14 ?_
      refine ux_alenI C (uc_2 C.2.2.2.2.2) rfl dX9_byteAt_17 ?_
      refine ux_icmp_ge C (tgt := 30) (by decide) dX9_byteAt_18 (fun hc_2 => ?_) (fun hc_2 => ?_)
      · replace hw := hw.1 hc_2
        refine ux_iconst C (v := -1) (by decide) dX9_byteAt_30 ?_
        exact ux_iret C ⟨_, rfl, rfl, hw⟩ dX9_byteAt_31
      · replace hw := hw.2 hc_2
        refine ux_aload_n C 0 rfl rfl dX9_byteAt_21 ?_
        refine gf_9_9 C dX9_byteAt_22 ?_
        refine ux_iload_n C 1 rfl rfl dX9_byteAt_25 ?_
        obtain ⟨hi_1, hw⟩ := hw
        refine ux_iald C (uc_2 C.2.2.2.2.2) hi_1 dX9_byteAt_26 ?_
        refine ux_goto C (tgt := 31) (by decide) dX9_byteAt_27 ?_
        exact ux_iret C ⟨_, rfl, rfl, hw⟩ dX9_byteAt_31
set_option maxHeartbeats 2000000 in
set_option maxRecDepth 4000 in
theorem c_UpAndDown_end {l : Launch} {D : va_G} {G : Nat → Nat} {z N : Nat} (hN : 92 ≤ N) {a0 : ud_St} {x1 : Int32}  {Qf : Int32 → ud_St → Prop} (hw : w_UpAndDown_end a0 x1 Qf) : ud_M l D G z N yX11_end cX11_end 2 (some Jvm.ClassFile.FieldType.int) 0 [.ref (z + 0), .int x1] a0 (po_i Qf) := by
  unfold w_UpAndDown_end at hw
  refine ud_M_of hN (by decide) (Nat.le_of_ble_eq_true rfl) ?_
  intro p e s m args below meth c C
  have C : ud_C D G z N p s m args meth c cX11_end 2 RX11 (some Jvm.ClassFile.FieldType.int) := C
  show ud_X D G z N p l e (ud_rm 0 0 0) s m args below meth c 2 0 0 (ud_Q D G z N (po_i Qf) below args s) a0 0 [(0, .ref (z + 0)), (1, .int x1)] []
  refine ux_iload_n C 1 rfl rfl dX11_end_0 ?_
  refine ux_if_lt C (tgt := 15) (by decide) dX11_end_1 (fun hc_2 => ?_) (fun hc_2 => ?_)
  · replace hw := hw.1 hc_2
    refine ux_iconst C (v := -1) (by decide) dX11_end_15 ?_
    exact ux_iret C ⟨_, rfl, hw⟩ dX11_end_16
  · replace hw := hw.2 hc_2
    refine ux_iload_n C 1 rfl rfl dX11_end_4 ?_
    refine ux_aload_n C 0 rfl rfl dX11_end_5 ?_
    refine gf_11_10 C dX11_end_6 ?_
    refine gf_11_96 C dX11_end_9 ?_
    refine ux_icmp_le C (tgt := 17) (by decide) dX11_end_12 (fun hc_1 => ?_) (fun hc_1 => ?_)
    · replace hw := hw.1 hc_1
      refine ux_aload_n C 0 rfl rfl dX11_end_17 ?_
      refine gf_11_10 C dX11_end_18 ?_
      refine ux_iload_n C 1 rfl rfl dX11_end_21 ?_
      refine pf_11_96 C dX11_end_22 ?_
      refine ux_iload_n C 1 rfl rfl dX11_end_25 ?_
      exact ux_iret C ⟨_, rfl, hw⟩ dX11_end_26
    · replace hw := hw.2 hc_1
      refine ux_iconst C (v := -1) (by decide) dX11_end_15 ?_
      exact ux_iret C ⟨_, rfl, hw⟩ dX11_end_16
set_option maxHeartbeats 2000000 in
set_option maxRecDepth 4000 in
theorem c_UpAndDown_fault {l : Launch} {D : va_G} {G : Nat → Nat} {z N : Nat} (hN : 92 ≤ N) {a0 : ud_St} {x1 : Int32}  {Qf : Int32 → Prop} (hw : w_UpAndDown_fault a0 x1 Qf) : ud_M l D G z N yX11_fault cX11_fault 2 (some Jvm.ClassFile.FieldType.int) 0 [.ref (z + 0), .int x1] a0 (po_ip a0 Qf) := by
  unfold w_UpAndDown_fault at hw
  refine ud_M_of hN (by decide) (Nat.le_of_ble_eq_true rfl) ?_
  intro p e s m args below meth c C
  have C : ud_C D G z N p s m args meth c cX11_fault 2 RX11 (some Jvm.ClassFile.FieldType.int) := C
  show ud_X D G z N p l e (ud_rm 0 0 0) s m args below meth c 2 0 0 (ud_Q D G z N (po_ip a0 Qf) below args s) a0 0 [(0, .ref (z + 0)), (1, .int x1)] []
  refine ux_iload_n C 1 rfl rfl dX11_fault_0 ?_
  refine ux_if_ne C (tgt := 12) (by decide) dX11_fault_1 (fun hc_2 => ?_) (fun hc_2 => ?_)
  · replace hw := hw.2 hc_2
    refine ux_iload_n C 1 rfl rfl dX11_fault_12 ?_
    refine ux_iconst C (v := 1) (by decide) dX11_fault_13 ?_
    refine ux_icmp_ne C (tgt := 27) (by decide) dX11_fault_14 (fun hc_1 => ?_) (fun hc_1 => ?_)
    · replace hw := hw.2 hc_1
      refine ux_iconst C (v := -1) (by decide) dX11_fault_27 ?_
      exact ux_iret C ⟨_, rfl, rfl, hw⟩ dX11_fault_28
    · replace hw := hw.1 hc_1
      refine ux_aload_n C 0 rfl rfl dX11_fault_17 ?_
      refine gf_11_21 C dX11_fault_18 ?_
      refine gf_11_117 C dX11_fault_21 ?_
      refine ux_goto C (tgt := 28) (by decide) dX11_fault_24 ?_
      exact ux_iret C ⟨_, rfl, rfl, hw⟩ dX11_fault_28
  · replace hw := hw.1 hc_2
    refine ux_aload_n C 0 rfl rfl dX11_fault_4 ?_
    refine gf_11_21 C dX11_fault_5 ?_
    refine gf_11_114 C dX11_fault_8 ?_
    exact ux_iret C ⟨_, rfl, rfl, hw⟩ dX11_fault_11
set_option maxHeartbeats 2000000 in
set_option maxRecDepth 4000 in
theorem c_UpAndDown_hasTable {l : Launch} {D : va_G} {G : Nat → Nat} {z N : Nat} (hN : 92 ≤ N) {a0 : ud_St}   {Qf : Int32 → Prop} (hw : w_UpAndDown_hasTable a0  Qf) : ud_M l D G z N yX11_hasTable cX11_hasTable 1 (some Jvm.ClassFile.FieldType.boolean) 0 [.ref (z + 0)] a0 (po_ip a0 Qf) := by
  unfold w_UpAndDown_hasTable at hw
  refine ud_M_of hN (by decide) (Nat.le_of_ble_eq_true rfl) ?_
  intro p e s m args below meth c C
  have C : ud_C D G z N p s m args meth c cX11_hasTable 1 RX11 (some Jvm.ClassFile.FieldType.boolean) := C
  show ud_X D G z N p l e (ud_rm 0 0 0) s m args below meth c 1 0 0 (ud_Q D G z N (po_ip a0 Qf) below args s) a0 0 [(0, .ref (z + 0))] []
  refine ux_aload_n C 0 rfl rfl dX11_hasTable_0 ?_
  refine gf_11_28 C dX11_hasTable_1 ?_
  refine gf_11_151 C (uc_4 C.2.2.2.2.2) dX11_hasTable_4 ?_
  refine ux_if_le C (tgt := 14) (by decide) dX11_hasTable_7 (fun hc_1 => ?_) (fun hc_1 => ?_)
  · replace hw := hw.1 hc_1
    refine ux_iconst C (v := 0) (by decide) dX11_hasTable_14 ?_
    exact ux_zret C rfl ⟨_, rfl, rfl, hw⟩ dX11_hasTable_15
  · replace hw := hw.2 hc_1
    refine ux_iconst C (v := 1) (by decide) dX11_hasTable_10 ?_
    refine ux_goto C (tgt := 15) (by decide) dX11_hasTable_11 ?_
    exact ux_zret C rfl ⟨_, rfl, rfl, hw⟩ dX11_hasTable_15
set_option maxHeartbeats 2000000 in
set_option maxRecDepth 4000 in
theorem c_UpAndDown_isNumber {l : Launch} {D : va_G} {G : Nat → Nat} {z N : Nat} (hN : 92 ≤ N) {a0 : ud_St} {x1 : Int32}  {Qf : Int32 → Prop} (hw : w_UpAndDown_isNumber a0 x1 Qf) : ud_M l D G z N yX11_isNumber cX11_isNumber 2 (some Jvm.ClassFile.FieldType.boolean) 0 [.ref (z + 0), .int x1] a0 (po_ip a0 Qf) := by
  unfold w_UpAndDown_isNumber at hw
  refine ud_M_of hN (by decide) (Nat.le_of_ble_eq_true rfl) ?_
  intro p e s m args below meth c C
  have C : ud_C D G z N p s m args meth c cX11_isNumber 2 RX11 (some Jvm.ClassFile.FieldType.boolean) := C
  show ud_X D G z N p l e (ud_rm 0 0 0) s m args below meth c 2 0 0 (ud_Q D G z N (po_ip a0 Qf) below args s) a0 0 [(0, .ref (z + 0)), (1, .int x1)] []
  refine ux_iload_n C 1 rfl rfl dX11_isNumber_0 ?_
  refine ux_if_lt C (tgt := 19) (by decide) dX11_isNumber_1 (fun hc_2 => ?_) (fun hc_2 => ?_)
  · replace hw := hw.1 hc_2
    refine ux_iconst C (v := 0) (by decide) dX11_isNumber_19 ?_
    exact ux_zret C rfl ⟨_, rfl, rfl, hw⟩ dX11_isNumber_20
  · replace hw := hw.2 hc_2
    refine ux_iload_n C 1 rfl rfl dX11_isNumber_4 ?_
    refine ux_aload_n C 0 rfl rfl dX11_isNumber_5 ?_
    refine gf_11_28 C dX11_isNumber_6 ?_
    refine gf_11_151 C (uc_4 C.2.2.2.2.2) dX11_isNumber_9 ?_
    refine ux_icmp_ge C (tgt := 19) (by decide) dX11_isNumber_12 (fun hc_1 => ?_) (fun hc_1 => ?_)
    · replace hw := hw.1 hc_1
      refine ux_iconst C (v := 0) (by decide) dX11_isNumber_19 ?_
      exact ux_zret C rfl ⟨_, rfl, rfl, hw⟩ dX11_isNumber_20
    · replace hw := hw.2 hc_1
      refine ux_iconst C (v := 1) (by decide) dX11_isNumber_15 ?_
      refine ux_goto C (tgt := 20) (by decide) dX11_isNumber_16 ?_
      exact ux_zret C rfl ⟨_, rfl, rfl, hw⟩ dX11_isNumber_20
set_option maxHeartbeats 2000000 in
set_option maxRecDepth 4000 in
theorem c_UpAndDown_isWord {l : Launch} {D : va_G} {G : Nat → Nat} {z N : Nat} (hN : 92 ≤ N) {a0 : ud_St} {x1 : Int32}  {Qf : Int32 → Prop} (hw : w_UpAndDown_isWord a0 x1 Qf) : ud_M l D G z N yX11_isWord cX11_isWord 2 (some Jvm.ClassFile.FieldType.boolean) 0 [.ref (z + 0), .int x1] a0 (po_ip a0 Qf) := by
  unfold w_UpAndDown_isWord at hw
  refine ud_M_of hN (by decide) (Nat.le_of_ble_eq_true rfl) ?_
  intro p e s m args below meth c C
  have C : ud_C D G z N p s m args meth c cX11_isWord 2 RX11 (some Jvm.ClassFile.FieldType.boolean) := C
  show ud_X D G z N p l e (ud_rm 0 0 0) s m args below meth c 2 0 0 (ud_Q D G z N (po_ip a0 Qf) below args s) a0 0 [(0, .ref (z + 0)), (1, .int x1)] []
  refine ux_iload_n C 1 rfl rfl dX11_isWord_0 ?_
  refine ux_if_lt C (tgt := 22) (by decide) dX11_isWord_1 (fun hc_2 => ?_) (fun hc_2 => ?_)
  · replace hw := hw.1 hc_2
    refine ux_iconst C (v := 0) (by decide) dX11_isWord_22 ?_
    exact ux_zret C rfl ⟨_, rfl, rfl, hw⟩ dX11_isWord_23
  · replace hw := hw.2 hc_2
    refine ux_iload_n C 1 rfl rfl dX11_isWord_4 ?_
    refine ux_aload_n C 0 rfl rfl dX11_isWord_5 ?_
    refine gf_11_28 C dX11_isWord_6 ?_
    refine gf_11_123 C (uc_4 C.2.2.2.2.2) dX11_isWord_9 ?_
    refine gf_11_164 C (uc_5 C.2.2.2.2.2) dX11_isWord_12 ?_
    refine ux_icmp_ge C (tgt := 22) (by decide) dX11_isWord_15 (fun hc_1 => ?_) (fun hc_1 => ?_)
    · replace hw := hw.1 hc_1
      refine ux_iconst C (v := 0) (by decide) dX11_isWord_22 ?_
      exact ux_zret C rfl ⟨_, rfl, rfl, hw⟩ dX11_isWord_23
    · replace hw := hw.2 hc_1
      refine ux_iconst C (v := 1) (by decide) dX11_isWord_18 ?_
      refine ux_goto C (tgt := 23) (by decide) dX11_isWord_19 ?_
      exact ux_zret C rfl ⟨_, rfl, rfl, hw⟩ dX11_isWord_23
set_option maxHeartbeats 2000000 in
set_option maxRecDepth 4000 in
theorem c_UpAndDown_isPlace {l : Launch} {D : va_G} {G : Nat → Nat} {z N : Nat} (hN : 92 ≤ N) {a0 : ud_St} {x1 : Int32}  {Qf : Int32 → Prop} (hw : w_UpAndDown_isPlace a0 x1 Qf) : ud_M l D G z N yX11_isPlace cX11_isPlace 2 (some Jvm.ClassFile.FieldType.boolean) 0 [.ref (z + 0), .int x1] a0 (po_ip a0 Qf) := by
  unfold w_UpAndDown_isPlace at hw
  refine ud_M_of hN (by decide) (Nat.le_of_ble_eq_true rfl) ?_
  intro p e s m args below meth c C
  have C : ud_C D G z N p s m args meth c cX11_isPlace 2 RX11 (some Jvm.ClassFile.FieldType.boolean) := C
  show ud_X D G z N p l e (ud_rm 0 0 0) s m args below meth c 2 0 0 (ud_Q D G z N (po_ip a0 Qf) below args s) a0 0 [(0, .ref (z + 0)), (1, .int x1)] []
  refine ux_iload_n C 1 rfl rfl dX11_isPlace_0 ?_
  refine ux_if_lt C (tgt := 19) (by decide) dX11_isPlace_1 (fun hc_2 => ?_) (fun hc_2 => ?_)
  · replace hw := hw.1 hc_2
    refine ux_iconst C (v := 0) (by decide) dX11_isPlace_19 ?_
    exact ux_zret C rfl ⟨_, rfl, rfl, hw⟩ dX11_isPlace_20
  · replace hw := hw.2 hc_2
    refine ux_iload_n C 1 rfl rfl dX11_isPlace_4 ?_
    refine ux_aload_n C 0 rfl rfl dX11_isPlace_5 ?_
    refine gf_11_28 C dX11_isPlace_6 ?_
    refine gf_11_157 C (uc_4 C.2.2.2.2.2) dX11_isPlace_9 ?_
    refine ux_icmp_ge C (tgt := 19) (by decide) dX11_isPlace_12 (fun hc_1 => ?_) (fun hc_1 => ?_)
    · replace hw := hw.1 hc_1
      refine ux_iconst C (v := 0) (by decide) dX11_isPlace_19 ?_
      exact ux_zret C rfl ⟨_, rfl, rfl, hw⟩ dX11_isPlace_20
    · replace hw := hw.2 hc_1
      refine ux_iconst C (v := 1) (by decide) dX11_isPlace_15 ?_
      refine ux_goto C (tgt := 20) (by decide) dX11_isPlace_16 ?_
      exact ux_zret C rfl ⟨_, rfl, rfl, hw⟩ dX11_isPlace_20
set_option maxHeartbeats 2000000 in
set_option maxRecDepth 4000 in
theorem c_UpAndDown_isBehind {l : Launch} {D : va_G} {G : Nat → Nat} {z N : Nat} (hN : 92 ≤ N) {a0 : ud_St} {x0 : Int32}  {Qf : Int32 → Prop} (hw : w_UpAndDown_isBehind a0 x0 Qf) : ud_M l D G z N yX11_isBehind cX11_isBehind 1 (some Jvm.ClassFile.FieldType.boolean) 0 [.int x0] a0 (po_ip a0 Qf) := by
  unfold w_UpAndDown_isBehind at hw
  refine ud_M_of hN (by decide) (Nat.le_of_ble_eq_true rfl) ?_
  intro p e s m args below meth c C
  have C : ud_C D G z N p s m args meth c cX11_isBehind 1 RX11 (some Jvm.ClassFile.FieldType.boolean) := C
  show ud_X D G z N p l e (ud_rm 0 0 0) s m args below meth c 1 0 0 (ud_Q D G z N (po_ip a0 Qf) below args s) a0 0 [(0, .int x0)] []
  refine ux_iload_n C 0 rfl rfl dX11_isBehind_0 ?_
  refine ux_if_lt C (tgt := 15) (by decide) dX11_isBehind_1 (fun hc_2 => ?_) (fun hc_2 => ?_)
  · replace hw := hw.1 hc_2
    refine ux_iconst C (v := 0) (by decide) dX11_isBehind_15 ?_
    exact ux_zret C rfl ⟨_, rfl, rfl, hw⟩ dX11_isBehind_16
  · replace hw := hw.2 hc_2
    refine ux_iload_n C 0 rfl rfl dX11_isBehind_4 ?_
    refine ux_sipush C (v := 200) (by decide) dX11_isBehind_5 ?_
    refine ux_icmp_gt C (tgt := 15) (by decide) dX11_isBehind_8 (fun hc_1 => ?_) (fun hc_1 => ?_)
    · replace hw := hw.1 hc_1
      refine ux_iconst C (v := 0) (by decide) dX11_isBehind_15 ?_
      exact ux_zret C rfl ⟨_, rfl, rfl, hw⟩ dX11_isBehind_16
    · replace hw := hw.2 hc_1
      refine ux_iconst C (v := 1) (by decide) dX11_isBehind_11 ?_
      refine ux_goto C (tgt := 16) (by decide) dX11_isBehind_12 ?_
      exact ux_zret C rfl ⟨_, rfl, rfl, hw⟩ dX11_isBehind_16
set_option maxHeartbeats 2000000 in
set_option maxRecDepth 4000 in
theorem c_UpAndDown_slotAt {l : Launch} {D : va_G} {G : Nat → Nat} {z N : Nat} (hN : 92 ≤ N) {a0 : ud_St} {x1 : Int32}  {Qf : Option Nat → Prop} (hw : w_UpAndDown_slotAt a0 x1 Qf) : ud_M l D G z N yX11_slotAt cX11_slotAt 2 (some (Jvm.ClassFile.FieldType.object "UpAndDown$Slot")) 0 [.ref (z + 0), .int x1] a0 (po_o z a0 Qf) := by
  unfold w_UpAndDown_slotAt at hw
  refine ud_M_of hN (by decide) (Nat.le_of_ble_eq_true rfl) ?_
  intro p e s m args below meth c C
  have C : ud_C D G z N p s m args meth c cX11_slotAt 2 RX11 (some (Jvm.ClassFile.FieldType.object "UpAndDown$Slot")) := C
  show ud_X D G z N p l e (ud_rm 0 0 0) s m args below meth c 2 0 0 (ud_Q D G z N (po_o z a0 Qf) below args s) a0 0 [(0, .ref (z + 0)), (1, .int x1)] []
  refine ux_iload_n C 1 rfl rfl dX11_slotAt_0 ?_
  refine ux_if_lt C (tgt := 22) (by decide) dX11_slotAt_1 (fun hc_3 => ?_) (fun hc_3 => ?_)
  · replace hw := hw.1 hc_3
    refine ux_null C dX11_slotAt_22 ?_
    exact ux_aret C (Or.inl ⟨_, rfl⟩) (Or.inl rfl) ⟨none, rfl, rfl, hw⟩ dX11_slotAt_23
  · replace hw := hw.2 hc_3
    refine ux_iload_n C 1 rfl rfl dX11_slotAt_4 ?_
    refine ux_aload_n C 0 rfl rfl dX11_slotAt_5 ?_
    refine gf_11_80 C dX11_slotAt_6 ?_
    refine ux_alenS C (v := 4) (by decide) dX11_slotAt_9 ?_
    refine ux_icmp_ge C (tgt := 22) (by decide) dX11_slotAt_10 (fun hc_2 => ?_) (fun hc_2 => ?_)
    · replace hw := hw.1 hc_2
      refine ux_null C dX11_slotAt_22 ?_
      exact ux_aret C (Or.inl ⟨_, rfl⟩) (Or.inl rfl) ⟨none, rfl, rfl, hw⟩ dX11_slotAt_23
    · replace hw := hw.2 hc_2
      refine ux_aload_n C 0 rfl rfl dX11_slotAt_13 ?_
      refine gf_11_80 C dX11_slotAt_14 ?_
      refine ux_iload_n C 1 rfl rfl dX11_slotAt_17 ?_
      obtain ⟨hi_1, hw⟩ := hw
      refine ux_aldS C hi_1 dX11_slotAt_18 ?_
      refine ux_goto C (tgt := 23) (by decide) dX11_slotAt_19 ?_
      exact ux_aret C (Or.inl ⟨_, rfl⟩) (Or.inr ⟨_, rfl⟩) ⟨_, rfl, rfl, hw⟩ dX11_slotAt_23
set_option maxHeartbeats 2000000 in
set_option maxRecDepth 4000 in
theorem c_UpAndDown_isImage {l : Launch} {D : va_G} {G : Nat → Nat} {z N : Nat} (hN : 92 ≤ N) {a0 : ud_St} {x1 : Int32}  {Qf : Int32 → Prop} (hw : w_UpAndDown_isImage a0 x1 Qf) : ud_M l D G z N yX11_isImage cX11_isImage 2 (some Jvm.ClassFile.FieldType.boolean) 0 [.ref (z + 0), .int x1] a0 (po_ip a0 Qf) := by
  unfold w_UpAndDown_isImage at hw
  refine ud_M_of hN (by decide) (Nat.le_of_ble_eq_true rfl) ?_
  intro p e s m args below meth c C
  have C : ud_C D G z N p s m args meth c cX11_isImage 2 RX11 (some Jvm.ClassFile.FieldType.boolean) := C
  show ud_X D G z N p l e (ud_rm 0 0 0) s m args below meth c 2 0 0 (ud_Q D G z N (po_ip a0 Qf) below args s) a0 0 [(0, .ref (z + 0)), (1, .int x1)] []
  refine ux_iload_n C 1 rfl rfl dX11_isImage_0 ?_
  refine ux_if_lt C (tgt := 17) (by decide) dX11_isImage_1 (fun hc_2 => ?_) (fun hc_2 => ?_)
  · replace hw := hw.1 hc_2
    refine ux_iconst C (v := 0) (by decide) dX11_isImage_17 ?_
    exact ux_zret C rfl ⟨_, rfl, rfl, hw⟩ dX11_isImage_18
  · replace hw := hw.2 hc_2
    refine ux_iload_n C 1 rfl rfl dX11_isImage_4 ?_
    refine ux_aload_n C 0 rfl rfl dX11_isImage_5 ?_
    refine gf_11_84 C dX11_isImage_6 ?_
    refine ux_alenT C (v := 3) (by decide) dX11_isImage_9 ?_
    refine ux_icmp_ge C (tgt := 17) (by decide) dX11_isImage_10 (fun hc_1 => ?_) (fun hc_1 => ?_)
    · replace hw := hw.1 hc_1
      refine ux_iconst C (v := 0) (by decide) dX11_isImage_17 ?_
      exact ux_zret C rfl ⟨_, rfl, rfl, hw⟩ dX11_isImage_18
    · replace hw := hw.2 hc_1
      refine ux_iconst C (v := 1) (by decide) dX11_isImage_13 ?_
      refine ux_goto C (tgt := 18) (by decide) dX11_isImage_14 ?_
      exact ux_zret C rfl ⟨_, rfl, rfl, hw⟩ dX11_isImage_18
set_option maxHeartbeats 2000000 in
set_option maxRecDepth 4000 in
theorem c_UpAndDown_forget {l : Launch} {D : va_G} {G : Nat → Nat} {z N : Nat} (hN : 92 ≤ N) {a0 : ud_St}   {Qf : ud_St → Prop} (hw : w_UpAndDown_forget a0  Qf) : ud_M l D G z N yX11_forget cX11_forget 1 (none : Option Jvm.ClassFile.FieldType) 0 [.ref (z + 0)] a0 (po_v Qf) := by
  unfold w_UpAndDown_forget at hw
  refine ud_M_of hN (by decide) (Nat.le_of_ble_eq_true rfl) ?_
  intro p e s m args below meth c C
  have C : ud_C D G z N p s m args meth c cX11_forget 1 RX11 (none : Option Jvm.ClassFile.FieldType) := C
  show ud_X D G z N p l e (ud_rm 0 0 0) s m args below meth c 1 0 0 (ud_Q D G z N (po_v Qf) below args s) a0 0 [(0, .ref (z + 0))] []
  refine ux_aload_n C 0 rfl rfl dX11_forget_0 ?_
  refine gf_11_45 C dX11_forget_1 ?_
  refine ux_iconst C (v := 0) (by decide) dX11_forget_4 ?_
  refine pf_11_377 C (Or.inl rfl) dX11_forget_5 ?_
  refine ux_aload_n C 0 rfl rfl dX11_forget_8 ?_
  refine gf_11_52 C dX11_forget_9 ?_
  refine ux_iconst C (v := -1) (by decide) dX11_forget_12 ?_
  refine pf_11_380 C dX11_forget_13 ?_
  exact ux_vret C ⟨rfl, hw⟩ dX11_forget_16
set_option maxHeartbeats 2000000 in
set_option maxRecDepth 4000 in
theorem c_UpAndDown_countSlots {l : Launch} {D : va_G} {G : Nat → Nat} {z N : Nat} (hN : 92 ≤ N) {a0 : ud_St}   {Qf : Int32 → Prop} (hw : w_UpAndDown_countSlots a0  Qf) : ud_M l D G z N yX11_countSlots cX11_countSlots 6 (some Jvm.ClassFile.FieldType.int) 0 [.ref (z + 0)] a0 (po_ip a0 Qf) := by
  unfold w_UpAndDown_countSlots at hw
  refine ud_M_of hN (by decide) (Nat.le_of_ble_eq_true rfl) ?_
  intro p e s m args below meth c C
  have C : ud_C D G z N p s m args meth c cX11_countSlots 6 RX11 (some Jvm.ClassFile.FieldType.int) := C
  show ud_X D G z N p l e (ud_rm 0 0 0) s m args below meth c 6 0 0 (ud_Q D G z N (po_ip a0 Qf) below args s) a0 0 [(0, .ref (z + 0))] []
  refine ux_iconst C (v := 0) (by decide) dX11_countSlots_0 ?_
  refine ux_istore_n C rfl (by decide) rfl dX11_countSlots_1 ?_
  refine ux_aload_n C 1 rfl rfl dX11_countSlots_2 ?_
  refine gf_11_80 C dX11_countSlots_3 ?_
  refine ux_astore_n C rfl (by decide) rfl dX11_countSlots_6 ?_
  refine ux_aload_n C 0 rfl rfl dX11_countSlots_7 ?_
  refine ux_alenS C (v := 4) (by decide) dX11_countSlots_8 ?_
  refine ux_istore_n C rfl (by decide) rfl dX11_countSlots_9 ?_
  refine ux_iconst C (v := 0) (by decide) dX11_countSlots_10 ?_
  refine ux_istore C (by decide) rfl dX11_countSlots_11 ?_
  refine ux_pick [3, 2, 1, 0] rfl ?_
  refine LW2.elim (P := fun (x1_3 : Int32) (x4_4 : Int32) => ud_X D G z N p l e (ud_rm 0 0 0) s m args below meth c 6 0 0 (ud_Q D G z N (po_ip a0 Qf) below args s) a0 13 [(1, .int x1_3), (2, .ref (z + 61)), (3, .int (4 : Int32)), (4, .int x4_4)] []) hw ?_
  intro x1_3 x4_4 K_1 hw ih_2
  refine ux_iload C 3 rfl dX11_countSlots_13 ?_
  refine ux_iload_n C 2 rfl rfl dX11_countSlots_15 ?_
  refine ux_icmp_ge C (tgt := 52) (by decide) dX11_countSlots_16 (fun hc_7 => ?_) (fun hc_7 => ?_)
  · replace hw := hw.1 hc_7
    refine ux_iload_n C 0 rfl rfl dX11_countSlots_52 ?_
    exact ux_iret C ⟨_, rfl, rfl, hw⟩ dX11_countSlots_53
  · replace hw := hw.2 hc_7
    refine ux_aload_n C 1 rfl rfl dX11_countSlots_19 ?_
    refine ux_iload C 3 rfl dX11_countSlots_20 ?_
    obtain ⟨hi_5, hw⟩ := hw
    refine ux_aldS C hi_5 dX11_countSlots_22 ?_
    refine ux_astore C (by decide) rfl dX11_countSlots_23 ?_
    refine ux_iload_n C 1 rfl rfl dX11_countSlots_25 ?_
    refine ux_aload C 0 rfl dX11_countSlots_26 ?_
    refine ux_ifnullR C dX11_countSlots_28 ?_
    refine ux_aload C 0 rfl dX11_countSlots_31 ?_
    refine gf_11_322 C (ud_slot C.2.2.2.2.2 hi_5) dX11_countSlots_33 ?_
    refine ux_if_eq C (tgt := 43) (by decide) dX11_countSlots_36 (fun hc_6 => ?_) (fun hc_6 => ?_)
    · replace hw := hw.1 hc_6
      refine ux_iconst C (v := 0) (by decide) dX11_countSlots_43 ?_
      refine ux_iadd C dX11_countSlots_44 ?_
      refine ux_istore_n C rfl (by decide) rfl dX11_countSlots_45 ?_
      refine ux_iinc C 4 rfl rfl (by decide) rfl dX11_countSlots_46 ?_
      refine ux_goto C (tgt := 13) (by decide) dX11_countSlots_49 ?_
      exact ux_pick [1, 3, 4, 0] rfl (ih_2 _ _ hw)
    · replace hw := hw.2 hc_6
      refine ux_iconst C (v := 1) (by decide) dX11_countSlots_39 ?_
      refine ux_goto C (tgt := 44) (by decide) dX11_countSlots_40 ?_
      refine ux_iadd C dX11_countSlots_44 ?_
      refine ux_istore_n C rfl (by decide) rfl dX11_countSlots_45 ?_
      refine ux_iinc C 4 rfl rfl (by decide) rfl dX11_countSlots_46 ?_
      refine ux_goto C (tgt := 13) (by decide) dX11_countSlots_49 ?_
      exact ux_pick [1, 3, 4, 0] rfl (ih_2 _ _ hw)
set_option maxHeartbeats 2000000 in
set_option maxRecDepth 4000 in
theorem c_Model_in {l : Launch} {D : va_G} {G : Nat → Nat} {z N : Nat} (hN : 92 ≤ N) {a0 : ud_St} {x0 : Int64} {x2 : Int64} {x4 : Int64}  {Qf : Int32 → Prop} (hw : w_Model_in a0 x0 x2 x4 Qf) : ud_M l D G z N yX12_in cX12_in 6 (some Jvm.ClassFile.FieldType.boolean) 0 [.long x0, .long x2, .long x4] a0 (po_ip a0 Qf) := by
  unfold w_Model_in at hw
  refine ud_M_of hN (by decide) (Nat.le_of_ble_eq_true rfl) ?_
  intro p e s m args below meth c C
  have C : ud_C D G z N p s m args meth c cX12_in 6 RX12 (some Jvm.ClassFile.FieldType.boolean) := C
  show ud_X D G z N p l e (ud_rm 0 0 0) s m args below meth c 6 0 0 (ud_Q D G z N (po_ip a0 Qf) below args s) a0 0 [(0, .long x0), (2, .long x2), (4, .long x4)] []
  refine ux_lload_n C 0 rfl rfl dX12_in_0 ?_
  refine ux_lload_n C 1 rfl rfl dX12_in_1 ?_
  refine ux_lcmp C dX12_in_2 ?_
  refine ux_if_lt C (tgt := 17) (by decide) dX12_in_3 (fun hc_2 => ?_) (fun hc_2 => ?_)
  · replace hw := hw.1 hc_2
    refine ux_iconst C (v := 0) (by decide) dX12_in_17 ?_
    exact ux_zret C rfl ⟨_, rfl, rfl, hw⟩ dX12_in_18
  · replace hw := hw.2 hc_2
    refine ux_lload_n C 0 rfl rfl dX12_in_6 ?_
    refine ux_lload C 2 rfl dX12_in_7 ?_
    refine ux_lcmp C dX12_in_9 ?_
    refine ux_if_gt C (tgt := 17) (by decide) dX12_in_10 (fun hc_1 => ?_) (fun hc_1 => ?_)
    · replace hw := hw.1 hc_1
      refine ux_iconst C (v := 0) (by decide) dX12_in_17 ?_
      exact ux_zret C rfl ⟨_, rfl, rfl, hw⟩ dX12_in_18
    · replace hw := hw.2 hc_1
      refine ux_iconst C (v := 1) (by decide) dX12_in_13 ?_
      refine ux_goto C (tgt := 18) (by decide) dX12_in_14 ?_
      exact ux_zret C rfl ⟨_, rfl, rfl, hw⟩ dX12_in_18
set_option maxHeartbeats 2000000 in
set_option maxRecDepth 4000 in
theorem c_Model_cut {l : Launch} {D : va_G} {G : Nat → Nat} {z N : Nat} (hN : 92 ≤ N) {a0 : ud_St} {x0 : Int64} {x2 : Int32}  {Qf : Int64 → Prop} (hw : w_Model_cut a0 x0 x2 Qf) : ud_M l D G z N yX12_cut cX12_cut 3 (some Jvm.ClassFile.FieldType.long) 0 [.long x0, .int x2] a0 (po_lp a0 Qf) := by
  unfold w_Model_cut at hw
  refine ud_M_of hN (by decide) (Nat.le_of_ble_eq_true rfl) ?_
  intro p e s m args below meth c C
  have C : ud_C D G z N p s m args meth c cX12_cut 3 RX12 (some Jvm.ClassFile.FieldType.long) := C
  show ud_X D G z N p l e (ud_rm 0 0 0) s m args below meth c 3 0 0 (ud_Q D G z N (po_lp a0 Qf) below args s) a0 0 [(0, .long x0), (2, .int x2)] []
  refine ux_iload_n C 1 rfl rfl dX12_cut_0 ?_
  refine ux_if_ne C (tgt := 11) (by decide) dX12_cut_1 (fun hc_3 => ?_) (fun hc_3 => ?_)
  · replace hw := hw.2 hc_3
    refine ux_iload_n C 1 rfl rfl dX12_cut_11 ?_
    refine ux_iconst C (v := 1) (by decide) dX12_cut_12 ?_
    refine ux_icmp_ne C (tgt := 23) (by decide) dX12_cut_13 (fun hc_2 => ?_) (fun hc_2 => ?_)
    · replace hw := hw.2 hc_2
      refine ux_iload_n C 1 rfl rfl dX12_cut_23 ?_
      refine ux_iconst C (v := 2) (by decide) dX12_cut_24 ?_
      refine ux_icmp_ne C (tgt := 34) (by decide) dX12_cut_25 (fun hc_1 => ?_) (fun hc_1 => ?_)
      · replace hw := hw.2 hc_1
        refine ux_lload_n C 0 rfl rfl dX12_cut_34 ?_
        exact ux_lret C ⟨_, rfl, rfl, hw⟩ dX12_cut_35
      · replace hw := hw.1 hc_1
        refine ux_lload_n C 0 rfl rfl dX12_cut_28 ?_
        refine ux_l2i C dX12_cut_29 ?_
        refine ux_i2l C dX12_cut_30 ?_
        refine ux_goto C (tgt := 35) (by decide) dX12_cut_31 ?_
        exact ux_lret C ⟨_, rfl, rfl, hw⟩ dX12_cut_35
    · replace hw := hw.1 hc_2
      refine ux_lload_n C 0 rfl rfl dX12_cut_16 ?_
      refine ux_l2i C dX12_cut_17 ?_
      refine ux_i2s C dX12_cut_18 ?_
      refine ux_i2l C dX12_cut_19 ?_
      refine ux_goto C (tgt := 35) (by decide) dX12_cut_20 ?_
      exact ux_lret C ⟨_, rfl, rfl, hw⟩ dX12_cut_35
  · replace hw := hw.1 hc_3
    refine ux_lload_n C 0 rfl rfl dX12_cut_4 ?_
    refine ux_l2i C dX12_cut_5 ?_
    refine ux_i2b C dX12_cut_6 ?_
    refine ux_i2l C dX12_cut_7 ?_
    refine ux_goto C (tgt := 35) (by decide) dX12_cut_8 ?_
    exact ux_lret C ⟨_, rfl, rfl, hw⟩ dX12_cut_35
set_option maxHeartbeats 2000000 in
set_option maxRecDepth 4000 in
theorem c_Model_four {l : Launch} {D : va_G} {G : Nat → Nat} {z N : Nat} (hN : 92 ≤ N) {a0 : ud_St} {x1 : Int32}  {Qf : ud_St → Prop} (hw : w_Model_four a0 x1 Qf) : ud_M l D G z N yX12_four cX12_four 3 (none : Option Jvm.ClassFile.FieldType) 0 [.ref (z + 71), .int x1] a0 (po_v Qf) := by
  unfold w_Model_four at hw
  refine ud_M_of hN (by decide) (Nat.le_of_ble_eq_true rfl) ?_
  intro p e s m args below meth c C
  have C : ud_C D G z N p s m args meth c cX12_four 3 RX12 (none : Option Jvm.ClassFile.FieldType) := C
  show ud_X D G z N p l e (ud_rm 0 0 0) s m args below meth c 3 0 0 (ud_Q D G z N (po_v Qf) below args s) a0 0 [(0, .ref (z + 71)), (1, .int x1)] []
  refine ux_bipush C (v := 24) (by decide) dX12_four_0 ?_
  refine ux_istore_n C rfl (by decide) rfl dX12_four_2 ?_
  refine ux_pick [1, 2, 0] rfl ?_
  refine LW2.elim (P := fun (x2_3 : Int32) (a_4 : ud_St) => ud_X D G z N p l e (ud_rm 0 0 0) s m args below meth c 3 0 0 (ud_Q D G z N (po_v Qf) below args s) a_4 3 [(0, .ref (z + 71)), (1, .int x1), (2, .int x2_3)] []) hw ?_
  intro x2_3 a_4 K_1 hw ih_2
  refine ux_iload_n C 2 rfl rfl dX12_four_3 ?_
  refine ux_if_lt C (tgt := 36) (by decide) dX12_four_4 (fun hc_6 => ?_) (fun hc_6 => ?_)
  · replace hw := hw.1 hc_6
    exact ux_vret C ⟨rfl, hw⟩ dX12_four_36
  · replace hw := hw.2 hc_6
    refine ux_aload_n C 0 rfl rfl dX12_four_7 ?_
    refine gf_12_23 C dX12_four_8 ?_
    refine ux_aload_n C 0 rfl rfl dX12_four_11 ?_
    refine gf_12_94 C dX12_four_12 ?_
    refine ux_iload_n C 1 rfl rfl dX12_four_15 ?_
    refine ux_iload_n C 2 rfl rfl dX12_four_16 ?_
    refine ux_ishr C dX12_four_17 ?_
    refine ux_i2b C dX12_four_18 ?_
    obtain ⟨hi_5, hw⟩ := hw
    refine ux_bast C (uc_76 C.2.2.2.2.2) hi_5 dX12_four_19 ?_
    refine ux_aload_n C 0 rfl rfl dX12_four_20 ?_
    refine ux_dup C rfl dX12_four_21 ?_
    refine gf_12_94 C dX12_four_22 ?_
    refine ux_iconst C (v := 1) (by decide) dX12_four_25 ?_
    refine ux_iadd C dX12_four_26 ?_
    refine pf_12_94 C dX12_four_27 ?_
    refine ux_iinc C 2 rfl rfl (by decide) rfl dX12_four_30 ?_
    refine ux_goto C (tgt := 3) (by decide) dX12_four_33 ?_
    exact ux_pick [1, 2, 0] rfl (ih_2 _ _ hw)
set_option maxHeartbeats 2000000 in
set_option maxRecDepth 4000 in
theorem c_Model_isByte {l : Launch} {D : va_G} {G : Nat → Nat} {z N : Nat} (hN : 92 ≤ N) {a0 : ud_St} {x1 : Int32} {x2 : Int32} {x3 : Int32}  {Qf : Int32 → Prop} (hw : w_Model_isByte a0 x1 x2 x3 Qf) : ud_M l D G z N yX12_isByte cX12_isByte 4 (some Jvm.ClassFile.FieldType.boolean) 0 [.ref (z + 71), .int x1, .int x2, .int x3] a0 (po_ip a0 Qf) := by
  unfold w_Model_isByte at hw
  refine ud_M_of hN (by decide) (Nat.le_of_ble_eq_true rfl) ?_
  intro p e s m args below meth c C
  have C : ud_C D G z N p s m args meth c cX12_isByte 4 RX12 (some Jvm.ClassFile.FieldType.boolean) := C
  show ud_X D G z N p l e (ud_rm 0 0 0) s m args below meth c 4 0 0 (ud_Q D G z N (po_ip a0 Qf) below args s) a0 0 [(0, .ref (z + 71)), (1, .int x1), (2, .int x2), (3, .int x3)] []
  refine ux_iload_n C 1 rfl rfl dX12_isByte_0 ?_
  refine ux_aload_n C 0 rfl rfl dX12_isByte_1 ?_
  refine gf_12_94 C dX12_isByte_2 ?_
  refine ux_icmp_ge C (tgt := 32) (by decide) dX12_isByte_5 (fun hc_5 => ?_) (fun hc_5 => ?_)
  · replace hw := hw.1 hc_5
    refine ux_iconst C (v := 0) (by decide) dX12_isByte_32 ?_
    exact ux_zret C rfl ⟨_, rfl, rfl, hw⟩ dX12_isByte_33
  · replace hw := hw.2 hc_5
    refine ux_aload_n C 0 rfl rfl dX12_isByte_8 ?_
    refine gf_12_23 C dX12_isByte_9 ?_
    refine ux_iload_n C 1 rfl rfl dX12_isByte_12 ?_
    obtain ⟨hi_4, hw⟩ := hw
    refine ux_bald C (uc_76 C.2.2.2.2.2) hi_4 dX12_isByte_13 ?_
    refine ux_iload_n C 2 rfl rfl dX12_isByte_14 ?_
    refine ux_icmp_lt C (tgt := 32) (by decide) dX12_isByte_15 (fun hc_3 => ?_) (fun hc_3 => ?_)
    · replace hw := hw.1 hc_3
      refine ux_iconst C (v := 0) (by decide) dX12_isByte_32 ?_
      exact ux_zret C rfl ⟨_, rfl, rfl, hw⟩ dX12_isByte_33
    · replace hw := hw.2 hc_3
      refine ux_aload_n C 0 rfl rfl dX12_isByte_18 ?_
      refine gf_12_23 C dX12_isByte_19 ?_
      refine ux_iload_n C 1 rfl rfl dX12_isByte_22 ?_
      obtain ⟨hi_2, hw⟩ := hw
      refine ux_bald C (uc_76 C.2.2.2.2.2) hi_2 dX12_isByte_23 ?_
      refine ux_iload_n C 3 rfl rfl dX12_isByte_24 ?_
      refine ux_icmp_gt C (tgt := 32) (by decide) dX12_isByte_25 (fun hc_1 => ?_) (fun hc_1 => ?_)
      · replace hw := hw.1 hc_1
        refine ux_iconst C (v := 0) (by decide) dX12_isByte_32 ?_
        exact ux_zret C rfl ⟨_, rfl, rfl, hw⟩ dX12_isByte_33
      · replace hw := hw.2 hc_1
        refine ux_iconst C (v := 1) (by decide) dX12_isByte_28 ?_
        refine ux_goto C (tgt := 33) (by decide) dX12_isByte_29 ?_
        exact ux_zret C rfl ⟨_, rfl, rfl, hw⟩ dX12_isByte_33
set_option maxHeartbeats 2000000 in
set_option maxRecDepth 4000 in
theorem c_Model_isGood {l : Launch} {D : va_G} {G : Nat → Nat} {z N : Nat} (hN : 92 ≤ N) {a0 : ud_St}   {Qf : Int32 → Prop} (hw : w_Model_isGood a0  Qf) : ud_M l D G z N yX12_isGood cX12_isGood 1 (some Jvm.ClassFile.FieldType.boolean) 0 [.ref (z + 71)] a0 (po_ip a0 Qf) := by
  unfold w_Model_isGood at hw
  refine ud_M_of hN (by decide) (Nat.le_of_ble_eq_true rfl) ?_
  intro p e s m args below meth c C
  have C : ud_C D G z N p s m args meth c cX12_isGood 1 RX12 (some Jvm.ClassFile.FieldType.boolean) := C
  show ud_X D G z N p l e (ud_rm 0 0 0) s m args below meth c 1 0 0 (ud_Q D G z N (po_ip a0 Qf) below args s) a0 0 [(0, .ref (z + 71))] []
  refine ux_aload_n C 0 rfl rfl dX12_isGood_0 ?_
  refine gf_12_129 C dX12_isGood_1 ?_
  refine ux_if_ne C (tgt := 11) (by decide) dX12_isGood_4 (fun hc_1 => ?_) (fun hc_1 => ?_)
  · replace hw := hw.2 hc_1
    refine ux_iconst C (v := 0) (by decide) dX12_isGood_11 ?_
    exact ux_zret C rfl ⟨_, rfl, rfl, hw⟩ dX12_isGood_12
  · replace hw := hw.1 hc_1
    refine ux_iconst C (v := 1) (by decide) dX12_isGood_7 ?_
    refine ux_goto C (tgt := 12) (by decide) dX12_isGood_8 ?_
    exact ux_zret C rfl ⟨_, rfl, rfl, hw⟩ dX12_isGood_12
set_option maxHeartbeats 2000000 in
set_option maxRecDepth 4000 in
theorem c_Model_fails {l : Launch} {D : va_G} {G : Nat → Nat} {z N : Nat} (hN : 92 ≤ N) {a0 : ud_St} {x1 : Int32}  {Qf : ud_St → Prop} (hw : w_Model_fails a0 x1 Qf) : ud_M l D G z N yX12_fails cX12_fails 2 (none : Option Jvm.ClassFile.FieldType) 0 [.ref (z + 71), .int x1] a0 (po_v Qf) := by
  unfold w_Model_fails at hw
  refine ud_M_of hN (by decide) (Nat.le_of_ble_eq_true rfl) ?_
  intro p e s m args below meth c C
  have C : ud_C D G z N p s m args meth c cX12_fails 2 RX12 (none : Option Jvm.ClassFile.FieldType) := C
  show ud_X D G z N p l e (ud_rm 0 0 0) s m args below meth c 2 0 0 (ud_Q D G z N (po_v Qf) below args s) a0 0 [(0, .ref (z + 71)), (1, .int x1)] []
  refine ux_aload_n C 0 rfl rfl dX12_fails_0 ?_
  refine gf_12_129 C dX12_fails_1 ?_
  refine ux_if_eq C (tgt := 8) (by decide) dX12_fails_4 (fun hc_1 => ?_) (fun hc_1 => ?_)
  · replace hw := hw.1 hc_1
    refine ux_aload_n C 0 rfl rfl dX12_fails_8 ?_
    refine ux_iload_n C 1 rfl rfl dX12_fails_9 ?_
    refine pf_12_129 C dX12_fails_10 ?_
    refine ux_aload_n C 0 rfl rfl dX12_fails_13 ?_
    refine ux_aload_n C 0 rfl rfl dX12_fails_14 ?_
    refine gf_12_108 C dX12_fails_15 ?_
    refine pf_12_132 C dX12_fails_18 ?_
    exact ux_vret C ⟨rfl, hw⟩ dX12_fails_21
  · replace hw := hw.2 hc_1
    exact ux_vret C ⟨rfl, hw⟩ dX12_fails_7
set_option maxHeartbeats 2000000 in
set_option maxRecDepth 4000 in
theorem c_Model_is {l : Launch} {D : va_G} {G : Nat → Nat} {z N : Nat} (hN : 92 ≤ N) {a0 : ud_St} {x1 : Int64}  {Qf : Int32 → Prop} (hw : w_Model_is a0 x1 Qf) : ud_M l D G z N yX12_is cX12_is 3 (some Jvm.ClassFile.FieldType.boolean) 0 [.ref (z + 71), .long x1] a0 (po_ip a0 Qf) := by
  unfold w_Model_is at hw
  refine ud_M_of hN (by decide) (Nat.le_of_ble_eq_true rfl) ?_
  intro p e s m args below meth c C
  have C : ud_C D G z N p s m args meth c cX12_is 3 RX12 (some Jvm.ClassFile.FieldType.boolean) := C
  show ud_X D G z N p l e (ud_rm 0 0 0) s m args below meth c 3 0 0 (ud_Q D G z N (po_ip a0 Qf) below args s) a0 0 [(0, .ref (z + 71)), (1, .long x1)] []
  refine ux_aload_n C 0 rfl rfl dX12_is_0 ?_
  refine gf_12_129 C dX12_is_1 ?_
  refine ux_if_ne C (tgt := 28) (by decide) dX12_is_4 (fun hc_3 => ?_) (fun hc_3 => ?_)
  · replace hw := hw.2 hc_3
    refine ux_iconst C (v := 0) (by decide) dX12_is_28 ?_
    exact ux_zret C rfl ⟨_, rfl, rfl, hw⟩ dX12_is_29
  · replace hw := hw.1 hc_3
    refine ux_aload_n C 0 rfl rfl dX12_is_7 ?_
    refine gf_12_118 C dX12_is_8 ?_
    refine ux_iconst C (v := 1) (by decide) dX12_is_11 ?_
    refine ux_icmp_ne C (tgt := 28) (by decide) dX12_is_12 (fun hc_2 => ?_) (fun hc_2 => ?_)
    · replace hw := hw.2 hc_2
      refine ux_iconst C (v := 0) (by decide) dX12_is_28 ?_
      exact ux_zret C rfl ⟨_, rfl, rfl, hw⟩ dX12_is_29
    · replace hw := hw.1 hc_2
      refine ux_aload_n C 0 rfl rfl dX12_is_15 ?_
      refine gf_12_114 C dX12_is_16 ?_
      refine ux_lload_n C 1 rfl rfl dX12_is_19 ?_
      refine ux_lcmp C dX12_is_20 ?_
      refine ux_if_ne C (tgt := 28) (by decide) dX12_is_21 (fun hc_1 => ?_) (fun hc_1 => ?_)
      · replace hw := hw.2 hc_1
        refine ux_iconst C (v := 0) (by decide) dX12_is_28 ?_
        exact ux_zret C rfl ⟨_, rfl, rfl, hw⟩ dX12_is_29
      · replace hw := hw.1 hc_1
        refine ux_iconst C (v := 1) (by decide) dX12_is_24 ?_
        refine ux_goto C (tgt := 29) (by decide) dX12_is_25 ?_
        exact ux_zret C rfl ⟨_, rfl, rfl, hw⟩ dX12_is_29
set_option maxHeartbeats 2000000 in
set_option maxRecDepth 4000 in
theorem c_Model_isOver {l : Launch} {D : va_G} {G : Nat → Nat} {z N : Nat} (hN : 92 ≤ N) {a0 : ud_St}   {Qf : ud_St → Prop} (hw : w_Model_isOver a0  Qf) : ud_M l D G z N yX12_isOver cX12_isOver 1 (none : Option Jvm.ClassFile.FieldType) 0 [.ref (z + 71)] a0 (po_v Qf) := by
  unfold w_Model_isOver at hw
  refine ud_M_of hN (by decide) (Nat.le_of_ble_eq_true rfl) ?_
  intro p e s m args below meth c C
  have C : ud_C D G z N p s m args meth c cX12_isOver 1 RX12 (none : Option Jvm.ClassFile.FieldType) := C
  show ud_X D G z N p l e (ud_rm 0 0 0) s m args below meth c 1 0 0 (ud_Q D G z N (po_v Qf) below args s) a0 0 [(0, .ref (z + 71))] []
  refine ux_aload_n C 0 rfl rfl dX12_isOver_0 ?_
  refine ux_iconst C (v := 0) (by decide) dX12_isOver_1 ?_
  refine pf_12_94 C dX12_isOver_2 ?_
  refine ux_aload_n C 0 rfl rfl dX12_isOver_5 ?_
  refine ux_aload_n C 0 rfl rfl dX12_isOver_6 ?_
  refine gf_12_129 C dX12_isOver_7 ?_
  refine pf_12_156 C dX12_isOver_10 ?_
  refine ux_aload_n C 0 rfl rfl dX12_isOver_13 ?_
  refine ux_aload_n C 0 rfl rfl dX12_isOver_14 ?_
  refine gf_12_129 C dX12_isOver_15 ?_
  refine ux_if_ne C (tgt := 25) (by decide) dX12_isOver_18 (fun hc_1 => ?_) (fun hc_1 => ?_)
  · replace hw := hw.2 hc_1
    refine ux_aload_n C 0 rfl rfl dX12_isOver_25 ?_
    refine gf_12_132 C dX12_isOver_26 ?_
    refine pf_12_27 C dX12_isOver_29 ?_
    exact ux_vret C ⟨rfl, hw⟩ dX12_isOver_32
  · replace hw := hw.1 hc_1
    refine ux_iconst C (v := -1) (by decide) dX12_isOver_21 ?_
    refine ux_goto C (tgt := 29) (by decide) dX12_isOver_22 ?_
    refine pf_12_27 C dX12_isOver_29 ?_
    exact ux_vret C ⟨rfl, hw⟩ dX12_isOver_32
set_option maxHeartbeats 2000000 in
set_option maxRecDepth 4000 in
theorem c_Model_fault {l : Launch} {D : va_G} {G : Nat → Nat} {z N : Nat} (hN : 92 ≤ N) {a0 : ud_St} {x1 : Int32}  {Qf : Int32 → ud_St → Prop} (hw : w_Model_fault a0 x1 Qf) : ud_M l D G z N yX12_fault cX12_fault 2 (some Jvm.ClassFile.FieldType.int) 0 [.ref (z + 71), .int x1] a0 (po_i Qf) := by
  unfold w_Model_fault at hw
  refine ud_M_of hN (by decide) (Nat.le_of_ble_eq_true rfl) ?_
  intro p e s m args below meth c C
  have C : ud_C D G z N p s m args meth c cX12_fault 2 RX12 (some Jvm.ClassFile.FieldType.int) := C
  show ud_X D G z N p l e (ud_rm 0 0 0) s m args below meth c 2 0 0 (ud_Q D G z N (po_i Qf) below args s) a0 0 [(0, .ref (z + 71)), (1, .int x1)] []
  refine ux_aload_n C 0 rfl rfl dX12_fault_0 ?_
  refine ux_iconst C (v := 0) (by decide) dX12_fault_1 ?_
  refine pf_12_77 C dX12_fault_2 ?_
  refine ux_iload_n C 1 rfl rfl dX12_fault_5 ?_
  refine ux_if_ne C (tgt := 16) (by decide) dX12_fault_6 (fun hc_2 => ?_) (fun hc_2 => ?_)
  · replace hw := hw.2 hc_2
    refine ux_iload_n C 1 rfl rfl dX12_fault_16 ?_
    refine ux_iconst C (v := 1) (by decide) dX12_fault_17 ?_
    refine ux_icmp_ne C (tgt := 28) (by decide) dX12_fault_18 (fun hc_1 => ?_) (fun hc_1 => ?_)
    · replace hw := hw.2 hc_1
      refine ux_iconst C (v := -1) (by decide) dX12_fault_28 ?_
      exact ux_iret C ⟨_, rfl, hw⟩ dX12_fault_29
    · replace hw := hw.1 hc_1
      refine ux_aload_n C 0 rfl rfl dX12_fault_21 ?_
      refine gf_12_27 C dX12_fault_22 ?_
      refine ux_goto C (tgt := 29) (by decide) dX12_fault_25 ?_
      exact ux_iret C ⟨_, rfl, hw⟩ dX12_fault_29
  · replace hw := hw.1 hc_2
    refine ux_aload_n C 0 rfl rfl dX12_fault_9 ?_
    refine gf_12_156 C dX12_fault_10 ?_
    refine ux_goto C (tgt := 29) (by decide) dX12_fault_13 ?_
    exact ux_iret C ⟨_, rfl, hw⟩ dX12_fault_29
set_option maxHeartbeats 2000000 in
set_option maxRecDepth 4000 in
theorem c_Model_many {l : Launch} {D : va_G} {G : Nat → Nat} {z N : Nat} (hN : 92 ≤ N) {a0 : ud_St} {x1 : Int32}  {Qf : Int32 → Prop} (hw : w_Model_many a0 x1 Qf) : ud_M l D G z N yX12_many cX12_many 2 (some Jvm.ClassFile.FieldType.int) 0 [.ref (z + 71), .int x1] a0 (po_ip a0 Qf) := by
  unfold w_Model_many at hw
  refine ud_M_of hN (by decide) (Nat.le_of_ble_eq_true rfl) ?_
  intro p e s m args below meth c C
  have C : ud_C D G z N p s m args meth c cX12_many 2 RX12 (some Jvm.ClassFile.FieldType.int) := C
  show ud_X D G z N p l e (ud_rm 0 0 0) s m args below meth c 2 0 0 (ud_Q D G z N (po_ip a0 Qf) below args s) a0 0 [(0, .ref (z + 71)), (1, .int x1)] []
  refine ux_aload_n C 0 rfl rfl dX12_many_0 ?_
  refine gf_12_34 C dX12_many_1 ?_
  refine ux_bipush C (v := 24) (by decide) dX12_many_4 ?_
  refine ux_iload_n C 1 rfl rfl dX12_many_6 ?_
  refine ux_iadd C dX12_many_7 ?_
  obtain ⟨hi_1, hw⟩ := hw
  refine ux_iald C (uc_78 C.2.2.2.2.2) hi_1 dX12_many_8 ?_
  exact ux_iret C ⟨_, rfl, rfl, hw⟩ dX12_many_9
set_option maxHeartbeats 2000000 in
set_option maxRecDepth 4000 in
theorem c_Model_power {l : Launch} {D : va_G} {G : Nat → Nat} {z N : Nat} (hN : 92 ≤ N) {a0 : ud_St} {x0 : Int32} {x1 : Int32}  {Qf : Int32 → Prop} (hw : w_Model_power a0 x0 x1 Qf) : ud_M l D G z N yX12_power cX12_power 4 (some Jvm.ClassFile.FieldType.int) 0 [.int x0, .int x1] a0 (po_ip a0 Qf) := by
  unfold w_Model_power at hw
  refine ud_M_of hN (by decide) (Nat.le_of_ble_eq_true rfl) ?_
  intro p e s m args below meth c C
  have C : ud_C D G z N p s m args meth c cX12_power 4 RX12 (some Jvm.ClassFile.FieldType.int) := C
  show ud_X D G z N p l e (ud_rm 0 0 0) s m args below meth c 4 0 0 (ud_Q D G z N (po_ip a0 Qf) below args s) a0 0 [(0, .int x0), (1, .int x1)] []
  refine ux_iconst C (v := 1) (by decide) dX12_power_0 ?_
  refine ux_istore_n C rfl (by decide) rfl dX12_power_1 ?_
  refine ux_iconst C (v := 0) (by decide) dX12_power_2 ?_
  refine ux_istore_n C rfl (by decide) rfl dX12_power_3 ?_
  refine ux_pick [2, 3, 1, 0] rfl ?_
  refine LW2.elim (P := fun (x2_3 : Int32) (x3_4 : Int32) => ud_X D G z N p l e (ud_rm 0 0 0) s m args below meth c 4 0 0 (ud_Q D G z N (po_ip a0 Qf) below args s) a0 4 [(0, .int x0), (1, .int x1), (2, .int x2_3), (3, .int x3_4)] []) hw ?_
  intro x2_3 x3_4 K_1 hw ih_2
  refine ux_iload_n C 3 rfl rfl dX12_power_4 ?_
  refine ux_iload_n C 1 rfl rfl dX12_power_5 ?_
  refine ux_icmp_ge C (tgt := 26) (by decide) dX12_power_6 (fun hc_6 => ?_) (fun hc_6 => ?_)
  · replace hw := hw.1 hc_6
    refine ux_iload_n C 2 rfl rfl dX12_power_26 ?_
    exact ux_iret C ⟨_, rfl, rfl, hw⟩ dX12_power_27
  · replace hw := hw.2 hc_6
    refine ux_iload_n C 2 rfl rfl dX12_power_9 ?_
    refine ux_sipush C (v := 10000) (by decide) dX12_power_10 ?_
    refine ux_icmp_gt C (tgt := 26) (by decide) dX12_power_13 (fun hc_5 => ?_) (fun hc_5 => ?_)
    · replace hw := hw.1 hc_5
      refine ux_iload_n C 2 rfl rfl dX12_power_26 ?_
      exact ux_iret C ⟨_, rfl, rfl, hw⟩ dX12_power_27
    · replace hw := hw.2 hc_5
      refine ux_iload_n C 2 rfl rfl dX12_power_16 ?_
      refine ux_iload_n C 0 rfl rfl dX12_power_17 ?_
      refine ux_imul C dX12_power_18 ?_
      refine ux_istore_n C rfl (by decide) rfl dX12_power_19 ?_
      refine ux_iinc C 3 rfl rfl (by decide) rfl dX12_power_20 ?_
      refine ux_goto C (tgt := 4) (by decide) dX12_power_23 ?_
      exact ux_pick [2, 3, 1, 0] rfl (ih_2 _ _ hw)
set_option maxHeartbeats 2000000 in
set_option maxRecDepth 4000 in
theorem c_Model_clears {l : Launch} {D : va_G} {G : Nat → Nat} {z N : Nat} (hN : 92 ≤ N) {a0 : ud_St}   {Qf : ud_St → Prop} (hw : w_Model_clears a0  Qf) : ud_M l D G z N yX12_clears cX12_clears 2 (none : Option Jvm.ClassFile.FieldType) 0 [.ref (z + 71)] a0 (po_v Qf) := by
  unfold w_Model_clears at hw
  refine ud_M_of hN (by decide) (Nat.le_of_ble_eq_true rfl) ?_
  intro p e s m args below meth c C
  have C : ud_C D G z N p s m args meth c cX12_clears 2 RX12 (none : Option Jvm.ClassFile.FieldType) := C
  show ud_X D G z N p l e (ud_rm 0 0 0) s m args below meth c 2 0 0 (ud_Q D G z N (po_v Qf) below args s) a0 0 [(0, .ref (z + 71))] []
  refine ux_aload_n C 0 rfl rfl dX12_clears_0 ?_
  refine gf_12_31 C dX12_clears_1 ?_
  refine ux_iconst C (v := 4) (by decide) dX12_clears_4 ?_
  refine ux_iconst C (v := 0) (by decide) dX12_clears_5 ?_
  obtain ⟨hi_1, hw⟩ := hw
  refine ux_iast C (uc_77 C.2.2.2.2.2) hi_1 dX12_clears_6 ?_
  refine ux_iconst C (v := 0) (by decide) dX12_clears_7 ?_
  refine ux_istore_n C rfl (by decide) rfl dX12_clears_8 ?_
  refine ux_pick [1, 0] rfl ?_
  refine LW2.elim (P := fun (x1_4 : Int32) (a_5 : ud_St) => ud_X D G z N p l e (ud_rm 0 0 0) s m args below meth c 2 0 0 (ud_Q D G z N (po_v Qf) below args s) a_5 9 [(0, .ref (z + 71)), (1, .int x1_4)] []) hw ?_
  intro x1_4 a_5 K_2 hw ih_3
  refine ux_iload_n C 1 rfl rfl dX12_clears_9 ?_
  refine ux_bipush C (v := 6) (by decide) dX12_clears_10 ?_
  refine ux_icmp_ge C (tgt := 31) (by decide) dX12_clears_12 (fun hc_7 => ?_) (fun hc_7 => ?_)
  · replace hw := hw.1 hc_7
    refine ux_aload_n C 0 rfl rfl dX12_clears_31 ?_
    refine ux_iconst C (v := 0) (by decide) dX12_clears_32 ?_
    refine pf_12_196 C (Or.inl rfl) dX12_clears_33 ?_
    exact ux_vret C ⟨rfl, hw⟩ dX12_clears_36
  · replace hw := hw.2 hc_7
    refine ux_aload_n C 0 rfl rfl dX12_clears_15 ?_
    refine gf_12_34 C dX12_clears_16 ?_
    refine ux_bipush C (v := 24) (by decide) dX12_clears_19 ?_
    refine ux_iload_n C 1 rfl rfl dX12_clears_21 ?_
    refine ux_iadd C dX12_clears_22 ?_
    refine ux_iconst C (v := 0) (by decide) dX12_clears_23 ?_
    obtain ⟨hi_6, hw⟩ := hw
    refine ux_iast C (uc_78 C.2.2.2.2.2) hi_6 dX12_clears_24 ?_
    refine ux_iinc C 1 rfl rfl (by decide) rfl dX12_clears_25 ?_
    refine ux_goto C (tgt := 9) (by decide) dX12_clears_28 ?_
    exact ux_pick [1, 0] rfl (ih_3 _ _ hw)
set_option maxHeartbeats 2000000 in
set_option maxRecDepth 4000 in
theorem c_Model_copyRow {l : Launch} {D : va_G} {G : Nat → Nat} {z N : Nat} (hN : 92 ≤ N) {a0 : ud_St} {k0 : Nat} {n0 : Nat} {x1 : Int32} {x2 : Int32} {x3 : Int32} (hk0 : ud_isI N k0 n0) {Qf : ud_St → Prop} (hw : w_Model_copyRow a0 k0 n0 x1 x2 x3 Qf) : ud_M l D G z N yX12_copyRow cX12_copyRow 5 (none : Option Jvm.ClassFile.FieldType) 0 [.ref (z + k0), .int x1, .int x2, .int x3] a0 (po_v Qf) := by
  unfold w_Model_copyRow at hw
  refine ud_M_of hN (by decide) (Nat.le_of_ble_eq_true rfl) ?_
  intro p e s m args below meth c C
  have C : ud_C D G z N p s m args meth c cX12_copyRow 5 RX12 (none : Option Jvm.ClassFile.FieldType) := C
  show ud_X D G z N p l e (ud_rm 0 0 0) s m args below meth c 5 0 0 (ud_Q D G z N (po_v Qf) below args s) a0 0 [(0, .ref (z + k0)), (1, .int x1), (2, .int x2), (3, .int x3)] []
  refine ux_iconst C (v := 0) (by decide) dX12_copyRow_0 ?_
  refine ux_istore C (by decide) rfl dX12_copyRow_1 ?_
  refine ux_pick [1, 2, 3, 4, 0] rfl ?_
  refine LW2.elim (P := fun (x4_3 : Int32) (a_4 : ud_St) => ud_X D G z N p l e (ud_rm 0 0 0) s m args below meth c 5 0 0 (ud_Q D G z N (po_v Qf) below args s) a_4 3 [(0, .ref (z + k0)), (1, .int x1), (2, .int x2), (3, .int x3), (4, .int x4_3)] []) hw ?_
  intro x4_3 a_4 K_1 hw ih_2
  refine ux_iload C 4 rfl dX12_copyRow_3 ?_
  refine ux_iload_n C 1 rfl rfl dX12_copyRow_5 ?_
  refine ux_icmp_ge C (tgt := 31) (by decide) dX12_copyRow_6 (fun hc_7 => ?_) (fun hc_7 => ?_)
  · replace hw := hw.1 hc_7
    exact ux_vret C ⟨rfl, hw⟩ dX12_copyRow_31
  · replace hw := hw.2 hc_7
    refine ux_aload_n C 0 rfl rfl dX12_copyRow_9 ?_
    refine ux_iload_n C 1 rfl rfl dX12_copyRow_10 ?_
    refine ux_iload_n C 3 rfl rfl dX12_copyRow_11 ?_
    refine ux_imul C dX12_copyRow_12 ?_
    refine ux_iload C 4 rfl dX12_copyRow_13 ?_
    refine ux_iadd C dX12_copyRow_15 ?_
    refine ux_aload_n C 0 rfl rfl dX12_copyRow_16 ?_
    refine ux_iload_n C 1 rfl rfl dX12_copyRow_17 ?_
    refine ux_iload_n C 2 rfl rfl dX12_copyRow_18 ?_
    refine ux_imul C dX12_copyRow_19 ?_
    refine ux_iload C 4 rfl dX12_copyRow_20 ?_
    refine ux_iadd C dX12_copyRow_22 ?_
    obtain ⟨hi_6, hw⟩ := hw
    refine ux_iald C hk0 hi_6 dX12_copyRow_23 ?_
    obtain ⟨hi_5, hw⟩ := hw
    refine ux_iast C hk0 hi_5 dX12_copyRow_24 ?_
    refine ux_iinc C 4 rfl rfl (by decide) rfl dX12_copyRow_25 ?_
    refine ux_goto C (tgt := 3) (by decide) dX12_copyRow_28 ?_
    exact ux_pick [1, 2, 3, 4, 0] rfl (ih_2 _ _ hw)
set_option maxHeartbeats 2000000 in
set_option maxRecDepth 4000 in
theorem c_Model_isTable {l : Launch} {D : va_G} {G : Nat → Nat} {z N : Nat} (hN : 92 ≤ N) {a0 : ud_St}   {Qf : Int32 → Prop} (hw : w_Model_isTable a0  Qf) : ud_M l D G z N yX12_isTable cX12_isTable 1 (some Jvm.ClassFile.FieldType.boolean) 0 [.ref (z + 71)] a0 (po_ip a0 Qf) := by
  unfold w_Model_isTable at hw
  refine ud_M_of hN (by decide) (Nat.le_of_ble_eq_true rfl) ?_
  intro p e s m args below meth c C
  have C : ud_C D G z N p s m args meth c cX12_isTable 1 RX12 (some Jvm.ClassFile.FieldType.boolean) := C
  show ud_X D G z N p l e (ud_rm 0 0 0) s m args below meth c 1 0 0 (ud_Q D G z N (po_ip a0 Qf) below args s) a0 0 [(0, .ref (z + 71))] []
  refine ux_aload_n C 0 rfl rfl dX12_isTable_0 ?_
  refine gf_12_31 C dX12_isTable_1 ?_
  refine ux_iconst C (v := 0) (by decide) dX12_isTable_4 ?_
  obtain ⟨hi_2, hw⟩ := hw
  refine ux_iald C (uc_77 C.2.2.2.2.2) hi_2 dX12_isTable_5 ?_
  refine ux_if_le C (tgt := 13) (by decide) dX12_isTable_6 (fun hc_1 => ?_) (fun hc_1 => ?_)
  · replace hw := hw.1 hc_1
    refine ux_iconst C (v := 0) (by decide) dX12_isTable_13 ?_
    exact ux_zret C rfl ⟨_, rfl, rfl, hw⟩ dX12_isTable_14
  · replace hw := hw.2 hc_1
    refine ux_iconst C (v := 1) (by decide) dX12_isTable_9 ?_
    refine ux_goto C (tgt := 14) (by decide) dX12_isTable_10 ?_
    exact ux_zret C rfl ⟨_, rfl, rfl, hw⟩ dX12_isTable_14
set_option maxHeartbeats 2000000 in
set_option maxRecDepth 4000 in
theorem c_Model_figures {l : Launch} {D : va_G} {G : Nat → Nat} {z N : Nat} (hN : 92 ≤ N) {a0 : ud_St} {x1 : Int32}  {Qf : ud_St → Prop} (hw : w_Model_figures a0 x1 Qf) : ud_M l D G z N yX12_figures cX12_figures 4 (none : Option Jvm.ClassFile.FieldType) 0 [.ref (z + 71), .int x1] a0 (po_v Qf) := by
  unfold w_Model_figures at hw
  refine ud_M_of hN (by decide) (Nat.le_of_ble_eq_true rfl) ?_
  intro p e s m args below meth c C
  have C : ud_C D G z N p s m args meth c cX12_figures 4 RX12 (none : Option Jvm.ClassFile.FieldType) := C
  show ud_X D G z N p l e (ud_rm 0 0 0) s m args below meth c 4 0 0 (ud_Q D G z N (po_v Qf) below args s) a0 0 [(0, .ref (z + 71)), (1, .int x1)] []
  refine ux_iload_n C 1 rfl rfl dX12_figures_0 ?_
  refine ux_istore_n C rfl (by decide) rfl dX12_figures_1 ?_
  refine ux_aload_n C 1 rfl rfl dX12_figures_2 ?_
  refine gf_12_34 C dX12_figures_3 ?_
  refine ux_iconst C (v := 1) (by decide) dX12_figures_6 ?_
  obtain ⟨hi_12, hw⟩ := hw
  refine ux_iald C (uc_78 C.2.2.2.2.2) hi_12 dX12_figures_7 ?_
  refine ux_iconst C (v := 1) (by decide) dX12_figures_8 ?_
  refine ux_isub C dX12_figures_9 ?_
  refine ux_istore_n C rfl (by decide) rfl dX12_figures_10 ?_
  refine ux_pick [2, 1, 0] rfl ?_
  refine LW3.elim (P := fun (x2_3 : Int32) (x3_4 : Int32) (a_5 : ud_St) => ud_X D G z N p l e (ud_rm 0 0 0) s m args below meth c 4 0 0 (ud_Q D G z N (po_v Qf) below args s) a_5 11 [(0, .ref (z + 71)), (2, .int x2_3), (3, .int x3_4)] []) hw ?_
  intro x2_3 x3_4 a_5 K_1 hw ih_2
  refine ux_iload_n C 2 rfl rfl dX12_figures_11 ?_
  refine ux_if_lt C (tgt := 44) (by decide) dX12_figures_12 (fun hc_11 => ?_) (fun hc_11 => ?_)
  · replace hw := hw.1 hc_11
    exact ux_vret C ⟨rfl, hw⟩ dX12_figures_44
  · replace hw := hw.2 hc_11
    refine ux_aload_n C 0 rfl rfl dX12_figures_15 ?_
    refine gf_12_50 C dX12_figures_16 ?_
    refine ux_iload_n C 2 rfl rfl dX12_figures_19 ?_
    refine ux_iload_n C 1 rfl rfl dX12_figures_20 ?_
    refine ux_aload_n C 0 rfl rfl dX12_figures_21 ?_
    refine gf_12_34 C dX12_figures_22 ?_
    refine ux_iconst C (v := 0) (by decide) dX12_figures_25 ?_
    obtain ⟨hi_10, hw⟩ := hw
    refine ux_iald C (uc_78 C.2.2.2.2.2) hi_10 dX12_figures_26 ?_
    obtain ⟨hc_9, hw⟩ := hw
    refine ux_irem C hc_9 dX12_figures_27 ?_
    obtain ⟨hi_6, hw⟩ := hw
    refine ux_iast C (uc_83 C.2.2.2.2.2) hi_6 dX12_figures_28 ?_
    refine ux_iload_n C 1 rfl rfl dX12_figures_29 ?_
    refine ux_aload_n C 0 rfl rfl dX12_figures_30 ?_
    refine gf_12_34 C dX12_figures_31 ?_
    refine ux_iconst C (v := 0) (by decide) dX12_figures_34 ?_
    obtain ⟨hi_8, hw⟩ := hw
    refine ux_iald C (uc_78 C.2.2.2.2.2) hi_8 dX12_figures_35 ?_
    obtain ⟨hc_7, hw⟩ := hw
    refine ux_idiv C hc_7 dX12_figures_36 ?_
    refine ux_istore_n C rfl (by decide) rfl dX12_figures_37 ?_
    refine ux_iinc C 2 rfl rfl (by decide) rfl dX12_figures_38 ?_
    refine ux_goto C (tgt := 11) (by decide) dX12_figures_41 ?_
    exact ux_pick [2, 1, 0] rfl (ih_2 _ _ _ hw)
set_option maxHeartbeats 2000000 in
set_option maxRecDepth 4000 in
theorem c_Model_laysRound_j38 {D : va_G} {G : Nat → Nat} {z N : Nat} {p : Program} {l : Launch} {e : Env} {s : State} {m : MethodId} {args : Array Value} {below : List Frame} {meth : Method} {c : Code} (hN : 92 ≤ N) {a0 : ud_St} {x1 : Int32} {b_38 : ud_St} {y1_38 : Int32} {y2_38 : Int32} {y3_38 : Int32} {y4_38 : Int32}  {Qf : ud_St → Prop} (C : ud_C D G z N p s m args meth c cX12_laysRound 5 RX12 (none : Option Jvm.ClassFile.FieldType))  (hw : w_Model_laysRound_j38 a0 x1 b_38 y1_38 y2_38 y3_38 y4_38 Qf) : ud_X D G z N p l e (ud_rm 0 0 0) s m args below meth c 5 0 0 (ud_Q D G z N (po_v Qf) below args s) b_38 38 [(0, .ref (z + 71)), (1, .int y1_38), (2, .int y2_38), (3, .int y3_38), (4, .int y4_38)] [] := by
  unfold w_Model_laysRound_j38 at hw
  refine ux_pick [0, 1, 2, 3, 4] rfl ?_
  refine LW2.elim (P := fun (x4_8 : Int32) (a_9 : ud_St) => ud_X D G z N p l e (ud_rm 0 0 0) s m args below meth c 5 0 0 (ud_Q D G z N (po_v Qf) below args s) a_9 38 [(0, .ref (z + 71)), (1, .int y1_38), (2, .int y2_38), (3, .int y3_38), (4, .int x4_8)] []) hw ?_
  intro x4_8 a_9 K_6 hw ih_7
  refine ux_aload_n C 0 rfl rfl dX12_laysRound_38 ?_
  refine gf_12_62 C dX12_laysRound_39 ?_
  refine ux_iload C 4 rfl dX12_laysRound_42 ?_
  refine ux_iload_n C 2 rfl rfl dX12_laysRound_44 ?_
  obtain ⟨hi_10, hw⟩ := hw
  refine ux_iast C (uc_87 C.2.2.2.2.2) hi_10 dX12_laysRound_45 ?_
  refine ux_aload_n C 0 rfl rfl dX12_laysRound_46 ?_
  refine gf_12_65 C dX12_laysRound_47 ?_
  refine ux_iload C 4 rfl dX12_laysRound_50 ?_
  refine ux_iload_n C 3 rfl rfl dX12_laysRound_52 ?_
  obtain ⟨hi_11, hw⟩ := hw
  refine ux_iast C (uc_88 C.2.2.2.2.2) hi_11 dX12_laysRound_53 ?_
  refine ux_aload_n C 0 rfl rfl dX12_laysRound_54 ?_
  refine gf_12_56 C dX12_laysRound_55 ?_
  refine ux_iload C 4 rfl dX12_laysRound_58 ?_
  obtain ⟨hi_13, hw⟩ := hw
  refine ux_iald C (uc_85 C.2.2.2.2.2) hi_13 dX12_laysRound_60 ?_
  refine ux_istore C (by decide) rfl dX12_laysRound_61 ?_
  refine ux_iload C 0 rfl dX12_laysRound_63 ?_
  refine ux_iload_n C 2 rfl rfl dX12_laysRound_65 ?_
  refine ux_icmp_ne C (tgt := 38) (by decide) dX12_laysRound_66 (fun hc_12 => ?_) (fun hc_12 => ?_)
  · replace hw := hw.2 hc_12
    exact ux_pick [1, 2, 3, 4, 0] rfl (ih_7 _ _ hw)
  · replace hw := hw.1 hc_12
    exact ux_vret C ⟨rfl, hw⟩ dX12_laysRound_69
set_option maxHeartbeats 2000000 in
set_option maxRecDepth 4000 in
theorem c_Model_laysRound_j19 {D : va_G} {G : Nat → Nat} {z N : Nat} {p : Program} {l : Launch} {e : Env} {s : State} {m : MethodId} {args : Array Value} {below : List Frame} {meth : Method} {c : Code} (hN : 92 ≤ N) {a0 : ud_St} {x1 : Int32} {b_19 : ud_St} {y1_19 : Int32} {y3_19 : Int32} {y4_19 : Int32} {u0_19 : Int32} {K_1 : Int32 → Int32 → Int32 → Prop}  {Qf : ud_St → Prop} (C : ud_C D G z N p s m args meth c cX12_laysRound 5 RX12 (none : Option Jvm.ClassFile.FieldType)) (ih_2 : ∀ (v0 : Int32) (v1 : Int32) (v2 : Int32), K_1 v0 v1 v2 → ud_X D G z N p l e (ud_rm 0 0 0) s m args below meth c 5 0 0 (ud_Q D G z N (po_v Qf) below args s) b_19 7 [(0, .ref (z + 71)), (1, .int y1_19), (2, .int v0), (3, .int v1), (4, .int v2)] []) (hw : w_Model_laysRound_j19 a0 x1 b_19 y1_19 y3_19 y4_19 u0_19 K_1 Qf) : ud_X D G z N p l e (ud_rm 0 0 0) s m args below meth c 5 0 0 (ud_Q D G z N (po_v Qf) below args s) b_19 19 [(0, .ref (z + 71)), (1, .int y1_19), (3, .int y3_19), (4, .int y4_19)] [.int u0_19] := by
  unfold w_Model_laysRound_j19 at hw
  refine ux_istore_n C rfl (by decide) rfl dX12_laysRound_19 ?_
  refine ux_iinc C 3 rfl rfl (by decide) rfl dX12_laysRound_20 ?_
  refine ux_aload_n C 2 rfl rfl dX12_laysRound_23 ?_
  refine gf_12_56 C dX12_laysRound_24 ?_
  refine ux_iload C 4 rfl dX12_laysRound_27 ?_
  obtain ⟨hi_15, hw⟩ := hw
  refine ux_iald C (uc_85 C.2.2.2.2.2) hi_15 dX12_laysRound_29 ?_
  refine ux_istore C (by decide) rfl dX12_laysRound_30 ?_
  refine ux_iload C 0 rfl dX12_laysRound_32 ?_
  refine ux_iload_n C 4 rfl rfl dX12_laysRound_34 ?_
  refine ux_icmp_ne C (tgt := 7) (by decide) dX12_laysRound_35 (fun hc_14 => ?_) (fun hc_14 => ?_)
  · replace hw := hw.2 hc_14
    exact ux_pick [3, 4, 2, 1, 0] rfl (ih_2 _ _ _ hw)
  · replace hw := hw.1 hc_14
    exact ux_pick [3, 4, 2, 1, 0] rfl (c_Model_laysRound_j38 hN  C  hw)
set_option maxHeartbeats 2000000 in
set_option maxRecDepth 4000 in
theorem c_Model_laysRound_j7 {D : va_G} {G : Nat → Nat} {z N : Nat} {p : Program} {l : Launch} {e : Env} {s : State} {m : MethodId} {args : Array Value} {below : List Frame} {meth : Method} {c : Code} (hN : 92 ≤ N) {a0 : ud_St} {x1 : Int32} {b_7 : ud_St} {y1_7 : Int32} {y2_7 : Int32} {y3_7 : Int32} {y4_7 : Int32}  {Qf : ud_St → Prop} (C : ud_C D G z N p s m args meth c cX12_laysRound 5 RX12 (none : Option Jvm.ClassFile.FieldType))  (hw : w_Model_laysRound_j7 a0 x1 b_7 y1_7 y2_7 y3_7 y4_7 Qf) : ud_X D G z N p l e (ud_rm 0 0 0) s m args below meth c 5 0 0 (ud_Q D G z N (po_v Qf) below args s) b_7 7 [(0, .ref (z + 71)), (1, .int y1_7), (2, .int y2_7), (3, .int y3_7), (4, .int y4_7)] [] := by
  unfold w_Model_laysRound_j7 at hw
  refine ux_pick [0, 1, 2, 3, 4] rfl ?_
  refine LW3.elim (P := fun (x2_3 : Int32) (x3_4 : Int32) (x4_5 : Int32) => ud_X D G z N p l e (ud_rm 0 0 0) s m args below meth c 5 0 0 (ud_Q D G z N (po_v Qf) below args s) b_7 7 [(0, .ref (z + 71)), (1, .int y1_7), (2, .int x2_3), (3, .int x3_4), (4, .int x4_5)] []) hw ?_
  intro x2_3 x3_4 x4_5 K_1 hw ih_2
  refine ux_iload C 4 rfl dX12_laysRound_7 ?_
  refine ux_iload_n C 2 rfl rfl dX12_laysRound_9 ?_
  refine ux_icmp_ge C (tgt := 18) (by decide) dX12_laysRound_10 (fun hc_16 => ?_) (fun hc_16 => ?_)
  · replace hw := hw.1 hc_16
    refine ux_iload_n C 2 rfl rfl dX12_laysRound_18 ?_
    exact ux_pick [0, 1, 3, 4] rfl (c_Model_laysRound_j19 hN  C ih_2 hw)
  · replace hw := hw.2 hc_16
    refine ux_iload C 4 rfl dX12_laysRound_13 ?_
    refine ux_goto C (tgt := 19) (by decide) dX12_laysRound_15 ?_
    exact ux_pick [0, 1, 3, 4] rfl (c_Model_laysRound_j19 hN  C ih_2 hw)
set_option maxHeartbeats 2000000 in
set_option maxRecDepth 4000 in
theorem c_Model_laysRound {l : Launch} {D : va_G} {G : Nat → Nat} {z N : Nat} (hN : 92 ≤ N) {a0 : ud_St} {x1 : Int32}  {Qf : ud_St → Prop} (hw : w_Model_laysRound a0 x1 Qf) : ud_M l D G z N yX12_laysRound cX12_laysRound 5 (none : Option Jvm.ClassFile.FieldType) 0 [.ref (z + 71), .int x1] a0 (po_v Qf) := by
  unfold w_Model_laysRound at hw
  refine ud_M_of hN (by decide) (Nat.le_of_ble_eq_true rfl) ?_
  intro p e s m args below meth c C
  have C : ud_C D G z N p s m args meth c cX12_laysRound 5 RX12 (none : Option Jvm.ClassFile.FieldType) := C
  show ud_X D G z N p l e (ud_rm 0 0 0) s m args below meth c 5 0 0 (ud_Q D G z N (po_v Qf) below args s) a0 0 [(0, .ref (z + 71)), (1, .int x1)] []
  refine ux_iload_n C 1 rfl rfl dX12_laysRound_0 ?_
  refine ux_istore_n C rfl (by decide) rfl dX12_laysRound_1 ?_
  refine ux_iconst C (v := 0) (by decide) dX12_laysRound_2 ?_
  refine ux_istore_n C rfl (by decide) rfl dX12_laysRound_3 ?_
  refine ux_iload_n C 3 rfl rfl dX12_laysRound_4 ?_
  refine ux_istore C (by decide) rfl dX12_laysRound_5 ?_
  exact ux_pick [3, 4, 2, 1, 0] rfl (c_Model_laysRound_j7 hN  C  hw)
set_option maxHeartbeats 2000000 in
set_option maxRecDepth 4000 in
theorem c_Model_behind {l : Launch} {D : va_G} {G : Nat → Nat} {z N : Nat} (hN : 92 ≤ N) {a0 : ud_St} {x1 : Int32} {x2 : Int32}  {Qf : Int32 → Prop} (hw : w_Model_behind a0 x1 x2 Qf) : ud_M l D G z N yX12_behind cX12_behind 5 (some Jvm.ClassFile.FieldType.int) 0 [.ref (z + 71), .int x1, .int x2] a0 (po_ip a0 Qf) := by
  unfold w_Model_behind at hw
  refine ud_M_of hN (by decide) (Nat.le_of_ble_eq_true rfl) ?_
  intro p e s m args below meth c C
  have C : ud_C D G z N p s m args meth c cX12_behind 5 RX12 (some Jvm.ClassFile.FieldType.int) := C
  show ud_X D G z N p l e (ud_rm 0 0 0) s m args below meth c 5 0 0 (ud_Q D G z N (po_ip a0 Qf) below args s) a0 0 [(0, .ref (z + 71)), (1, .int x1), (2, .int x2)] []
  refine ux_iload_n C 1 rfl rfl dX12_behind_0 ?_
  refine ux_istore_n C rfl (by decide) rfl dX12_behind_1 ?_
  refine ux_iconst C (v := 0) (by decide) dX12_behind_2 ?_
  refine ux_istore C (by decide) rfl dX12_behind_3 ?_
  refine ux_pick [2, 4, 1, 0] rfl ?_
  refine LW2.elim (P := fun (x3_3 : Int32) (x4_4 : Int32) => ud_X D G z N p l e (ud_rm 0 0 0) s m args below meth c 5 0 0 (ud_Q D G z N (po_ip a0 Qf) below args s) a0 5 [(0, .ref (z + 71)), (2, .int x2), (3, .int x3_3), (4, .int x4_4)] []) hw ?_
  intro x3_3 x4_4 K_1 hw ih_2
  refine ux_iload C 3 rfl dX12_behind_5 ?_
  refine ux_iload_n C 1 rfl rfl dX12_behind_7 ?_
  refine ux_icmp_ge C (tgt := 24) (by decide) dX12_behind_8 (fun hc_6 => ?_) (fun hc_6 => ?_)
  · replace hw := hw.1 hc_6
    refine ux_iload_n C 2 rfl rfl dX12_behind_24 ?_
    exact ux_iret C ⟨_, rfl, rfl, hw⟩ dX12_behind_25
  · replace hw := hw.2 hc_6
    refine ux_aload_n C 0 rfl rfl dX12_behind_11 ?_
    refine gf_12_56 C dX12_behind_12 ?_
    refine ux_iload_n C 2 rfl rfl dX12_behind_15 ?_
    obtain ⟨hi_5, hw⟩ := hw
    refine ux_iald C (uc_85 C.2.2.2.2.2) hi_5 dX12_behind_16 ?_
    refine ux_istore_n C rfl (by decide) rfl dX12_behind_17 ?_
    refine ux_iinc C 3 rfl rfl (by decide) rfl dX12_behind_18 ?_
    refine ux_goto C (tgt := 5) (by decide) dX12_behind_21 ?_
    exact ux_pick [2, 3, 1, 0] rfl (ih_2 _ _ hw)
set_option maxHeartbeats 2000000 in
set_option maxRecDepth 4000 in
theorem c_Model_isHome {l : Launch} {D : va_G} {G : Nat → Nat} {z N : Nat} (hN : 92 ≤ N) {a0 : ud_St} {x1 : Int32}  {Qf : Int32 → Prop} (hw : w_Model_isHome a0 x1 Qf) : ud_M l D G z N yX12_isHome cX12_isHome 2 (some Jvm.ClassFile.FieldType.boolean) 0 [.ref (z + 71), .int x1] a0 (po_ip a0 Qf) := by
  unfold w_Model_isHome at hw
  refine ud_M_of hN (by decide) (Nat.le_of_ble_eq_true rfl) ?_
  intro p e s m args below meth c C
  have C : ud_C D G z N p s m args meth c cX12_isHome 2 RX12 (some Jvm.ClassFile.FieldType.boolean) := C
  show ud_X D G z N p l e (ud_rm 0 0 0) s m args below meth c 2 0 0 (ud_Q D G z N (po_ip a0 Qf) below args s) a0 0 [(0, .ref (z + 71)), (1, .int x1)] []
  refine ux_aload_n C 0 rfl rfl dX12_isHome_0 ?_
  refine gf_12_62 C dX12_isHome_1 ?_
  refine ux_iload_n C 1 rfl rfl dX12_isHome_4 ?_
  obtain ⟨hi_2, hw⟩ := hw
  refine ux_iald C (uc_87 C.2.2.2.2.2) hi_2 dX12_isHome_5 ?_
  refine ux_iload_n C 1 rfl rfl dX12_isHome_6 ?_
  refine ux_icmp_ne C (tgt := 14) (by decide) dX12_isHome_7 (fun hc_1 => ?_) (fun hc_1 => ?_)
  · replace hw := hw.2 hc_1
    refine ux_iconst C (v := 0) (by decide) dX12_isHome_14 ?_
    exact ux_zret C rfl ⟨_, rfl, rfl, hw⟩ dX12_isHome_15
  · replace hw := hw.1 hc_1
    refine ux_iconst C (v := 1) (by decide) dX12_isHome_10 ?_
    refine ux_goto C (tgt := 15) (by decide) dX12_isHome_11 ?_
    exact ux_zret C rfl ⟨_, rfl, rfl, hw⟩ dX12_isHome_15
set_option maxHeartbeats 2000000 in
set_option maxRecDepth 4000 in
theorem c_Model_mostTail {l : Launch} {D : va_G} {G : Nat → Nat} {z N : Nat} (hN : 92 ≤ N) {a0 : ud_St}   {Qf : Int32 → Prop} (hw : w_Model_mostTail a0  Qf) : ud_M l D G z N yX12_mostTail cX12_mostTail 3 (some Jvm.ClassFile.FieldType.int) 0 [.ref (z + 71)] a0 (po_ip a0 Qf) := by
  unfold w_Model_mostTail at hw
  refine ud_M_of hN (by decide) (Nat.le_of_ble_eq_true rfl) ?_
  intro p e s m args below meth c C
  have C : ud_C D G z N p s m args meth c cX12_mostTail 3 RX12 (some Jvm.ClassFile.FieldType.int) := C
  show ud_X D G z N p l e (ud_rm 0 0 0) s m args below meth c 3 0 0 (ud_Q D G z N (po_ip a0 Qf) below args s) a0 0 [(0, .ref (z + 71))] []
  refine ux_iconst C (v := 0) (by decide) dX12_mostTail_0 ?_
  refine ux_istore_n C rfl (by decide) rfl dX12_mostTail_1 ?_
  refine ux_iconst C (v := 0) (by decide) dX12_mostTail_2 ?_
  refine ux_istore_n C rfl (by decide) rfl dX12_mostTail_3 ?_
  refine ux_pick [2, 1, 0] rfl ?_
  refine LW2.elim (P := fun (x1_3 : Int32) (x2_4 : Int32) => ud_X D G z N p l e (ud_rm 0 0 0) s m args below meth c 3 0 0 (ud_Q D G z N (po_ip a0 Qf) below args s) a0 4 [(0, .ref (z + 71)), (1, .int x1_3), (2, .int x2_4)] []) hw ?_
  intro x1_3 x2_4 K_1 hw ih_2
  refine ux_iload_n C 2 rfl rfl dX12_mostTail_4 ?_
  refine ux_aload_n C 0 rfl rfl dX12_mostTail_5 ?_
  refine gf_12_34 C dX12_mostTail_6 ?_
  refine ux_iconst C (v := 2) (by decide) dX12_mostTail_9 ?_
  obtain ⟨hi_9, hw⟩ := hw
  refine ux_iald C (uc_78 C.2.2.2.2.2) hi_9 dX12_mostTail_10 ?_
  refine ux_icmp_ge C (tgt := 41) (by decide) dX12_mostTail_11 (fun hc_8 => ?_) (fun hc_8 => ?_)
  · replace hw := hw.1 hc_8
    refine ux_iload_n C 1 rfl rfl dX12_mostTail_41 ?_
    exact ux_iret C ⟨_, rfl, rfl, hw⟩ dX12_mostTail_42
  · replace hw := hw.2 hc_8
    refine ux_aload_n C 0 rfl rfl dX12_mostTail_14 ?_
    refine gf_12_59 C dX12_mostTail_15 ?_
    refine ux_iload_n C 2 rfl rfl dX12_mostTail_18 ?_
    obtain ⟨hi_7, hw⟩ := hw
    refine ux_iald C (uc_86 C.2.2.2.2.2) hi_7 dX12_mostTail_19 ?_
    refine ux_iload_n C 1 rfl rfl dX12_mostTail_20 ?_
    refine ux_icmp_le C (tgt := 33) (by decide) dX12_mostTail_21 (fun hc_6 => ?_) (fun hc_6 => ?_)
    · replace hw := hw.1 hc_6
      refine ux_iload_n C 1 rfl rfl dX12_mostTail_33 ?_
      refine ux_istore_n C rfl (by decide) rfl dX12_mostTail_34 ?_
      refine ux_iinc C 2 rfl rfl (by decide) rfl dX12_mostTail_35 ?_
      refine ux_goto C (tgt := 4) (by decide) dX12_mostTail_38 ?_
      exact ux_pick [2, 1, 0] rfl (ih_2 _ _ hw)
    · replace hw := hw.2 hc_6
      refine ux_aload_n C 0 rfl rfl dX12_mostTail_24 ?_
      refine gf_12_59 C dX12_mostTail_25 ?_
      refine ux_iload_n C 2 rfl rfl dX12_mostTail_28 ?_
      obtain ⟨hi_5, hw⟩ := hw
      refine ux_iald C (uc_86 C.2.2.2.2.2) hi_5 dX12_mostTail_29 ?_
      refine ux_goto C (tgt := 34) (by decide) dX12_mostTail_30 ?_
      refine ux_istore_n C rfl (by decide) rfl dX12_mostTail_34 ?_
      refine ux_iinc C 2 rfl rfl (by decide) rfl dX12_mostTail_35 ?_
      refine ux_goto C (tgt := 4) (by decide) dX12_mostTail_38 ?_
      exact ux_pick [2, 1, 0] rfl (ih_2 _ _ hw)
set_option maxHeartbeats 2000000 in
set_option maxRecDepth 4000 in
theorem c_Model_manyOf {l : Launch} {D : va_G} {G : Nat → Nat} {z N : Nat} (hN : 92 ≤ N) {a0 : ud_St} {x1 : Int32}  {Qf : Int32 → Prop} (hw : w_Model_manyOf a0 x1 Qf) : ud_M l D G z N yX12_manyOf cX12_manyOf 4 (some Jvm.ClassFile.FieldType.int) 0 [.ref (z + 71), .int x1] a0 (po_ip a0 Qf) := by
  unfold w_Model_manyOf at hw
  refine ud_M_of hN (by decide) (Nat.le_of_ble_eq_true rfl) ?_
  intro p e s m args below meth c C
  have C : ud_C D G z N p s m args meth c cX12_manyOf 4 RX12 (some Jvm.ClassFile.FieldType.int) := C
  show ud_X D G z N p l e (ud_rm 0 0 0) s m args below meth c 4 0 0 (ud_Q D G z N (po_ip a0 Qf) below args s) a0 0 [(0, .ref (z + 71)), (1, .int x1)] []
  refine ux_iconst C (v := 0) (by decide) dX12_manyOf_0 ?_
  refine ux_istore_n C rfl (by decide) rfl dX12_manyOf_1 ?_
  refine ux_iconst C (v := 0) (by decide) dX12_manyOf_2 ?_
  refine ux_istore_n C rfl (by decide) rfl dX12_manyOf_3 ?_
  refine ux_pick [2, 3, 1, 0] rfl ?_
  refine LW2.elim (P := fun (x2_3 : Int32) (x3_4 : Int32) => ud_X D G z N p l e (ud_rm 0 0 0) s m args below meth c 4 0 0 (ud_Q D G z N (po_ip a0 Qf) below args s) a0 4 [(0, .ref (z + 71)), (1, .int x1), (2, .int x2_3), (3, .int x3_4)] []) hw ?_
  intro x2_3 x3_4 K_1 hw ih_2
  refine ux_iload_n C 3 rfl rfl dX12_manyOf_4 ?_
  refine ux_aload_n C 0 rfl rfl dX12_manyOf_5 ?_
  refine gf_12_34 C dX12_manyOf_6 ?_
  refine ux_iconst C (v := 2) (by decide) dX12_manyOf_9 ?_
  obtain ⟨hi_8, hw⟩ := hw
  refine ux_iald C (uc_78 C.2.2.2.2.2) hi_8 dX12_manyOf_10 ?_
  refine ux_icmp_ge C (tgt := 38) (by decide) dX12_manyOf_11 (fun hc_7 => ?_) (fun hc_7 => ?_)
  · replace hw := hw.1 hc_7
    refine ux_iload_n C 2 rfl rfl dX12_manyOf_38 ?_
    exact ux_iret C ⟨_, rfl, rfl, hw⟩ dX12_manyOf_39
  · replace hw := hw.2 hc_7
    refine ux_iload_n C 2 rfl rfl dX12_manyOf_14 ?_
    refine ux_aload_n C 0 rfl rfl dX12_manyOf_15 ?_
    refine gf_12_59 C dX12_manyOf_16 ?_
    refine ux_iload_n C 3 rfl rfl dX12_manyOf_19 ?_
    obtain ⟨hi_6, hw⟩ := hw
    refine ux_iald C (uc_86 C.2.2.2.2.2) hi_6 dX12_manyOf_20 ?_
    refine ux_iload_n C 1 rfl rfl dX12_manyOf_21 ?_
    refine ux_icmp_ne C (tgt := 29) (by decide) dX12_manyOf_22 (fun hc_5 => ?_) (fun hc_5 => ?_)
    · replace hw := hw.2 hc_5
      refine ux_iconst C (v := 0) (by decide) dX12_manyOf_29 ?_
      refine ux_iadd C dX12_manyOf_30 ?_
      refine ux_istore_n C rfl (by decide) rfl dX12_manyOf_31 ?_
      refine ux_iinc C 3 rfl rfl (by decide) rfl dX12_manyOf_32 ?_
      refine ux_goto C (tgt := 4) (by decide) dX12_manyOf_35 ?_
      exact ux_pick [2, 3, 1, 0] rfl (ih_2 _ _ hw)
    · replace hw := hw.1 hc_5
      refine ux_iconst C (v := 1) (by decide) dX12_manyOf_25 ?_
      refine ux_goto C (tgt := 30) (by decide) dX12_manyOf_26 ?_
      refine ux_iadd C dX12_manyOf_30 ?_
      refine ux_istore_n C rfl (by decide) rfl dX12_manyOf_31 ?_
      refine ux_iinc C 3 rfl rfl (by decide) rfl dX12_manyOf_32 ?_
      refine ux_goto C (tgt := 4) (by decide) dX12_manyOf_35 ?_
      exact ux_pick [2, 3, 1, 0] rfl (ih_2 _ _ hw)
set_option maxHeartbeats 2000000 in
set_option maxRecDepth 4000 in
theorem c_Model_fromOf {l : Launch} {D : va_G} {G : Nat → Nat} {z N : Nat} (hN : 92 ≤ N) {a0 : ud_St} {x1 : Int32} {x2 : Int32}  {Qf : Int32 → Prop} (hw : w_Model_fromOf a0 x1 x2 Qf) : ud_M l D G z N yX12_fromOf cX12_fromOf 5 (some Jvm.ClassFile.FieldType.int) 0 [.ref (z + 71), .int x1, .int x2] a0 (po_ip a0 Qf) := by
  unfold w_Model_fromOf at hw
  refine ud_M_of hN (by decide) (Nat.le_of_ble_eq_true rfl) ?_
  intro p e s m args below meth c C
  have C : ud_C D G z N p s m args meth c cX12_fromOf 5 RX12 (some Jvm.ClassFile.FieldType.int) := C
  show ud_X D G z N p l e (ud_rm 0 0 0) s m args below meth c 5 0 0 (ud_Q D G z N (po_ip a0 Qf) below args s) a0 0 [(0, .ref (z + 71)), (1, .int x1), (2, .int x2)] []
  refine ux_iconst C (v := 0) (by decide) dX12_fromOf_0 ?_
  refine ux_istore_n C rfl (by decide) rfl dX12_fromOf_1 ?_
  refine ux_iconst C (v := 0) (by decide) dX12_fromOf_2 ?_
  refine ux_istore C (by decide) rfl dX12_fromOf_3 ?_
  refine ux_pick [2, 3, 4, 1, 0] rfl ?_
  refine LW2.elim (P := fun (x3_3 : Int32) (x4_4 : Int32) => ud_X D G z N p l e (ud_rm 0 0 0) s m args below meth c 5 0 0 (ud_Q D G z N (po_ip a0 Qf) below args s) a0 5 [(0, .ref (z + 71)), (1, .int x1), (2, .int x2), (3, .int x3_3), (4, .int x4_4)] []) hw ?_
  intro x3_3 x4_4 K_1 hw ih_2
  refine ux_iload C 4 rfl dX12_fromOf_5 ?_
  refine ux_aload_n C 0 rfl rfl dX12_fromOf_7 ?_
  refine gf_12_34 C dX12_fromOf_8 ?_
  refine ux_iconst C (v := 2) (by decide) dX12_fromOf_11 ?_
  obtain ⟨hi_10, hw⟩ := hw
  refine ux_iald C (uc_78 C.2.2.2.2.2) hi_10 dX12_fromOf_12 ?_
  refine ux_icmp_ge C (tgt := 47) (by decide) dX12_fromOf_13 (fun hc_9 => ?_) (fun hc_9 => ?_)
  · replace hw := hw.1 hc_9
    refine ux_iload_n C 2 rfl rfl dX12_fromOf_47 ?_
    refine ux_iconst C (v := -1) (by decide) dX12_fromOf_48 ?_
    refine ux_icmp_ne C (tgt := 56) (by decide) dX12_fromOf_49 (fun hc_5 => ?_) (fun hc_5 => ?_)
    · replace hw := hw.2 hc_5
      refine ux_iconst C (v := -1) (by decide) dX12_fromOf_56 ?_
      exact ux_iret C ⟨_, rfl, rfl, hw⟩ dX12_fromOf_57
    · replace hw := hw.1 hc_5
      refine ux_iload_n C 3 rfl rfl dX12_fromOf_52 ?_
      refine ux_goto C (tgt := 57) (by decide) dX12_fromOf_53 ?_
      exact ux_iret C ⟨_, rfl, rfl, hw⟩ dX12_fromOf_57
  · replace hw := hw.2 hc_9
    refine ux_aload_n C 0 rfl rfl dX12_fromOf_16 ?_
    refine gf_12_56 C dX12_fromOf_17 ?_
    refine ux_iload C 4 rfl dX12_fromOf_20 ?_
    obtain ⟨hi_8, hw⟩ := hw
    refine ux_iald C (uc_85 C.2.2.2.2.2) hi_8 dX12_fromOf_22 ?_
    refine ux_iload_n C 1 rfl rfl dX12_fromOf_23 ?_
    refine ux_icmp_eq C (tgt := 30) (by decide) dX12_fromOf_24 (fun hc_7 => ?_) (fun hc_7 => ?_)
    · replace hw := hw.1 hc_7
      refine ux_iload_n C 3 rfl rfl dX12_fromOf_30 ?_
      refine ux_iload_n C 2 rfl rfl dX12_fromOf_31 ?_
      refine ux_icmp_ne C (tgt := 38) (by decide) dX12_fromOf_32 (fun hc_6 => ?_) (fun hc_6 => ?_)
      · replace hw := hw.2 hc_6
        refine ux_iinc C 3 rfl rfl (by decide) rfl dX12_fromOf_38 ?_
        refine ux_iinc C 4 rfl rfl (by decide) rfl dX12_fromOf_41 ?_
        refine ux_goto C (tgt := 5) (by decide) dX12_fromOf_44 ?_
        exact ux_pick [2, 3, 4, 1, 0] rfl (ih_2 _ _ hw)
      · replace hw := hw.1 hc_6
        refine ux_iload C 4 rfl dX12_fromOf_35 ?_
        exact ux_iret C ⟨_, rfl, rfl, hw⟩ dX12_fromOf_37
    · replace hw := hw.2 hc_7
      refine ux_goto C (tgt := 41) (by decide) dX12_fromOf_27 ?_
      refine ux_iinc C 4 rfl rfl (by decide) rfl dX12_fromOf_41 ?_
      refine ux_goto C (tgt := 5) (by decide) dX12_fromOf_44 ?_
      exact ux_pick [1, 2, 3, 4, 0] rfl (ih_2 _ _ hw)
set_option maxHeartbeats 2000000 in
set_option maxRecDepth 4000 in
theorem c_Model_gardenOf_j59 {D : va_G} {G : Nat → Nat} {z N : Nat} {p : Program} {l : Launch} {e : Env} {s : State} {m : MethodId} {args : Array Value} {below : List Frame} {meth : Method} {c : Code} (hN : 92 ≤ N) {a0 : ud_St} {x1 : Int32} {b_59 : ud_St} {y1_59 : Int32} {y2_59 : Int32} {y3_59 : Int32}  {Qf : Int32 → ud_St → Prop} (C : ud_C D G z N p s m args meth c cX12_gardenOf 4 RX12 (some Jvm.ClassFile.FieldType.int))  (hw : w_Model_gardenOf_j59 a0 x1 b_59 y1_59 y2_59 y3_59 Qf) : ud_X D G z N p l e (ud_rm 0 0 0) s m args below meth c 4 0 0 (ud_Q D G z N (po_i Qf) below args s) b_59 59 [(0, .ref (z + 71)), (1, .int y1_59), (2, .int y2_59), (3, .int y3_59)] [] := by
  unfold w_Model_gardenOf_j59 at hw
  refine ux_pick [0, 1, 2, 3] rfl ?_
  refine LW2.elim (P := fun (x2_11 : Int32) (x3_12 : Int32) => ud_X D G z N p l e (ud_rm 0 0 0) s m args below meth c 4 0 0 (ud_Q D G z N (po_i Qf) below args s) b_59 59 [(0, .ref (z + 71)), (1, .int y1_59), (2, .int x2_11), (3, .int x3_12)] []) hw ?_
  intro x2_11 x3_12 K_9 hw ih_10
  refine ux_iload_n C 3 rfl rfl dX12_gardenOf_59 ?_
  refine ux_aload_n C 0 rfl rfl dX12_gardenOf_60 ?_
  refine gf_12_34 C dX12_gardenOf_61 ?_
  refine ux_iconst C (v := 2) (by decide) dX12_gardenOf_64 ?_
  obtain ⟨hi_18, hw⟩ := hw
  refine ux_iald C (uc_78 C.2.2.2.2.2) hi_18 dX12_gardenOf_65 ?_
  refine ux_icmp_ge C (tgt := 98) (by decide) dX12_gardenOf_66 (fun hc_17 => ?_) (fun hc_17 => ?_)
  · replace hw := hw.1 hc_17
    refine ux_iload_n C 1 rfl rfl dX12_gardenOf_98 ?_
    refine ux_iconst C (v := -1) (by decide) dX12_gardenOf_99 ?_
    refine ux_icmp_ne C (tgt := 107) (by decide) dX12_gardenOf_100 (fun hc_13 => ?_) (fun hc_13 => ?_)
    · replace hw := hw.2 hc_13
      refine ux_iconst C (v := -1) (by decide) dX12_gardenOf_107 ?_
      exact ux_iret C ⟨_, rfl, hw⟩ dX12_gardenOf_108
    · replace hw := hw.1 hc_13
      refine ux_iload_n C 2 rfl rfl dX12_gardenOf_103 ?_
      refine ux_goto C (tgt := 108) (by decide) dX12_gardenOf_104 ?_
      exact ux_iret C ⟨_, rfl, hw⟩ dX12_gardenOf_108
  · replace hw := hw.2 hc_17
    refine ux_aload_n C 0 rfl rfl dX12_gardenOf_69 ?_
    refine gf_12_68 C dX12_gardenOf_70 ?_
    refine ux_iload_n C 3 rfl rfl dX12_gardenOf_73 ?_
    obtain ⟨hi_16, hw⟩ := hw
    refine ux_iald C (uc_89 C.2.2.2.2.2) hi_16 dX12_gardenOf_74 ?_
    refine ux_iconst C (v := 1) (by decide) dX12_gardenOf_75 ?_
    refine ux_icmp_ne C (tgt := 82) (by decide) dX12_gardenOf_76 (fun hc_15 => ?_) (fun hc_15 => ?_)
    · replace hw := hw.2 hc_15
      refine ux_iload_n C 2 rfl rfl dX12_gardenOf_82 ?_
      refine ux_iload_n C 1 rfl rfl dX12_gardenOf_83 ?_
      refine ux_icmp_ne C (tgt := 89) (by decide) dX12_gardenOf_84 (fun hc_14 => ?_) (fun hc_14 => ?_)
      · replace hw := hw.2 hc_14
        refine ux_iinc C 2 rfl rfl (by decide) rfl dX12_gardenOf_89 ?_
        refine ux_iinc C 3 rfl rfl (by decide) rfl dX12_gardenOf_92 ?_
        refine ux_goto C (tgt := 59) (by decide) dX12_gardenOf_95 ?_
        exact ux_pick [2, 3, 1, 0] rfl (ih_10 _ _ hw)
      · replace hw := hw.1 hc_14
        refine ux_iload_n C 3 rfl rfl dX12_gardenOf_87 ?_
        exact ux_iret C ⟨_, rfl, hw⟩ dX12_gardenOf_88
    · replace hw := hw.1 hc_15
      refine ux_goto C (tgt := 92) (by decide) dX12_gardenOf_79 ?_
      refine ux_iinc C 3 rfl rfl (by decide) rfl dX12_gardenOf_92 ?_
      refine ux_goto C (tgt := 59) (by decide) dX12_gardenOf_95 ?_
      exact ux_pick [1, 2, 3, 0] rfl (ih_10 _ _ hw)
set_option maxHeartbeats 2000000 in
set_option maxRecDepth 4000 in
theorem c_Model_gardenOf_j27 {D : va_G} {G : Nat → Nat} {z N : Nat} {p : Program} {l : Launch} {e : Env} {s : State} {m : MethodId} {args : Array Value} {below : List Frame} {meth : Method} {c : Code} (hN : 92 ≤ N) {a0 : ud_St} {x1 : Int32} {b_27 : ud_St} {y1_27 : Int32} {y2_27 : Int32}  {Qf : Int32 → ud_St → Prop} (C : ud_C D G z N p s m args meth c cX12_gardenOf 4 RX12 (some Jvm.ClassFile.FieldType.int))  (hw : w_Model_gardenOf_j27 a0 x1 b_27 y1_27 y2_27 Qf) : ud_X D G z N p l e (ud_rm 0 0 0) s m args below meth c 4 0 0 (ud_Q D G z N (po_i Qf) below args s) b_27 27 [(0, .ref (z + 71)), (1, .int y1_27), (2, .int y2_27)] [] := by
  unfold w_Model_gardenOf_j27 at hw
  refine ux_pick [0, 1, 2] rfl ?_
  refine LW2.elim (P := fun (x2_7 : Int32) (a_8 : ud_St) => ud_X D G z N p l e (ud_rm 0 0 0) s m args below meth c 4 0 0 (ud_Q D G z N (po_i Qf) below args s) a_8 27 [(0, .ref (z + 71)), (1, .int y1_27), (2, .int x2_7)] []) hw ?_
  intro x2_7 a_8 K_5 hw ih_6
  refine ux_iload_n C 2 rfl rfl dX12_gardenOf_27 ?_
  refine ux_aload_n C 0 rfl rfl dX12_gardenOf_28 ?_
  refine gf_12_34 C dX12_gardenOf_29 ?_
  refine ux_iconst C (v := 2) (by decide) dX12_gardenOf_32 ?_
  obtain ⟨hi_22, hw⟩ := hw
  refine ux_iald C (uc_78 C.2.2.2.2.2) hi_22 dX12_gardenOf_33 ?_
  refine ux_icmp_ge C (tgt := 55) (by decide) dX12_gardenOf_34 (fun hc_21 => ?_) (fun hc_21 => ?_)
  · replace hw := hw.1 hc_21
    refine ux_iconst C (v := 0) (by decide) dX12_gardenOf_55 ?_
    refine ux_istore_n C rfl (by decide) rfl dX12_gardenOf_56 ?_
    refine ux_iconst C (v := 0) (by decide) dX12_gardenOf_57 ?_
    refine ux_istore_n C rfl (by decide) rfl dX12_gardenOf_58 ?_
    exact ux_pick [2, 3, 1, 0] rfl (c_Model_gardenOf_j59 hN  C  hw)
  · replace hw := hw.2 hc_21
    refine ux_aload_n C 0 rfl rfl dX12_gardenOf_37 ?_
    refine gf_12_68 C dX12_gardenOf_38 ?_
    refine ux_aload_n C 0 rfl rfl dX12_gardenOf_41 ?_
    refine gf_12_56 C dX12_gardenOf_42 ?_
    refine ux_iload_n C 2 rfl rfl dX12_gardenOf_45 ?_
    obtain ⟨hi_20, hw⟩ := hw
    refine ux_iald C (uc_85 C.2.2.2.2.2) hi_20 dX12_gardenOf_46 ?_
    refine ux_iconst C (v := 1) (by decide) dX12_gardenOf_47 ?_
    obtain ⟨hi_19, hw⟩ := hw
    refine ux_iast C (uc_89 C.2.2.2.2.2) hi_19 dX12_gardenOf_48 ?_
    refine ux_iinc C 2 rfl rfl (by decide) rfl dX12_gardenOf_49 ?_
    refine ux_goto C (tgt := 27) (by decide) dX12_gardenOf_52 ?_
    exact ux_pick [1, 2, 0] rfl (ih_6 _ _ hw)
set_option maxHeartbeats 2000000 in
set_option maxRecDepth 4000 in
theorem c_Model_gardenOf_j2 {D : va_G} {G : Nat → Nat} {z N : Nat} {p : Program} {l : Launch} {e : Env} {s : State} {m : MethodId} {args : Array Value} {below : List Frame} {meth : Method} {c : Code} (hN : 92 ≤ N) {a0 : ud_St} {x1 : Int32} {b_2 : ud_St} {y1_2 : Int32} {y2_2 : Int32}  {Qf : Int32 → ud_St → Prop} (C : ud_C D G z N p s m args meth c cX12_gardenOf 4 RX12 (some Jvm.ClassFile.FieldType.int))  (hw : w_Model_gardenOf_j2 a0 x1 b_2 y1_2 y2_2 Qf) : ud_X D G z N p l e (ud_rm 0 0 0) s m args below meth c 4 0 0 (ud_Q D G z N (po_i Qf) below args s) b_2 2 [(0, .ref (z + 71)), (1, .int y1_2), (2, .int y2_2)] [] := by
  unfold w_Model_gardenOf_j2 at hw
  refine ux_pick [0, 1, 2] rfl ?_
  refine LW2.elim (P := fun (x2_3 : Int32) (a_4 : ud_St) => ud_X D G z N p l e (ud_rm 0 0 0) s m args below meth c 4 0 0 (ud_Q D G z N (po_i Qf) below args s) a_4 2 [(0, .ref (z + 71)), (1, .int y1_2), (2, .int x2_3)] []) hw ?_
  intro x2_3 a_4 K_1 hw ih_2
  refine ux_iload_n C 2 rfl rfl dX12_gardenOf_2 ?_
  refine ux_aload_n C 0 rfl rfl dX12_gardenOf_3 ?_
  refine gf_12_34 C dX12_gardenOf_4 ?_
  refine ux_iconst C (v := 2) (by decide) dX12_gardenOf_7 ?_
  obtain ⟨hi_25, hw⟩ := hw
  refine ux_iald C (uc_78 C.2.2.2.2.2) hi_25 dX12_gardenOf_8 ?_
  refine ux_icmp_ge C (tgt := 25) (by decide) dX12_gardenOf_9 (fun hc_24 => ?_) (fun hc_24 => ?_)
  · replace hw := hw.1 hc_24
    refine ux_iconst C (v := 0) (by decide) dX12_gardenOf_25 ?_
    refine ux_istore_n C rfl (by decide) rfl dX12_gardenOf_26 ?_
    exact ux_pick [1, 2, 0] rfl (c_Model_gardenOf_j27 hN  C  hw)
  · replace hw := hw.2 hc_24
    refine ux_aload_n C 0 rfl rfl dX12_gardenOf_12 ?_
    refine gf_12_68 C dX12_gardenOf_13 ?_
    refine ux_iload_n C 2 rfl rfl dX12_gardenOf_16 ?_
    refine ux_iconst C (v := 0) (by decide) dX12_gardenOf_17 ?_
    obtain ⟨hi_23, hw⟩ := hw
    refine ux_iast C (uc_89 C.2.2.2.2.2) hi_23 dX12_gardenOf_18 ?_
    refine ux_iinc C 2 rfl rfl (by decide) rfl dX12_gardenOf_19 ?_
    refine ux_goto C (tgt := 2) (by decide) dX12_gardenOf_22 ?_
    exact ux_pick [1, 2, 0] rfl (ih_2 _ _ hw)
set_option maxHeartbeats 2000000 in
set_option maxRecDepth 4000 in
theorem c_Model_gardenOf {l : Launch} {D : va_G} {G : Nat → Nat} {z N : Nat} (hN : 92 ≤ N) {a0 : ud_St} {x1 : Int32}  {Qf : Int32 → ud_St → Prop} (hw : w_Model_gardenOf a0 x1 Qf) : ud_M l D G z N yX12_gardenOf cX12_gardenOf 4 (some Jvm.ClassFile.FieldType.int) 0 [.ref (z + 71), .int x1] a0 (po_i Qf) := by
  unfold w_Model_gardenOf at hw
  refine ud_M_of hN (by decide) (Nat.le_of_ble_eq_true rfl) ?_
  intro p e s m args below meth c C
  have C : ud_C D G z N p s m args meth c cX12_gardenOf 4 RX12 (some Jvm.ClassFile.FieldType.int) := C
  show ud_X D G z N p l e (ud_rm 0 0 0) s m args below meth c 4 0 0 (ud_Q D G z N (po_i Qf) below args s) a0 0 [(0, .ref (z + 71)), (1, .int x1)] []
  refine ux_iconst C (v := 0) (by decide) dX12_gardenOf_0 ?_
  refine ux_istore_n C rfl (by decide) rfl dX12_gardenOf_1 ?_
  exact ux_pick [1, 2, 0] rfl (c_Model_gardenOf_j2 hN  C  hw)
set_option maxHeartbeats 2000000 in
set_option maxRecDepth 4000 in
theorem c_Model_isTold {l : Launch} {D : va_G} {G : Nat → Nat} {z N : Nat} (hN : 92 ≤ N) {a0 : ud_St} {x1 : Int32}  {Qf : Int32 → Prop} (hw : w_Model_isTold a0 x1 Qf) : ud_M l D G z N yX12_isTold cX12_isTold 3 (some Jvm.ClassFile.FieldType.boolean) 0 [.ref (z + 71), .int x1] a0 (po_ip a0 Qf) := by
  unfold w_Model_isTold at hw
  refine ud_M_of hN (by decide) (Nat.le_of_ble_eq_true rfl) ?_
  intro p e s m args below meth c C
  have C : ud_C D G z N p s m args meth c cX12_isTold 3 RX12 (some Jvm.ClassFile.FieldType.boolean) := C
  show ud_X D G z N p l e (ud_rm 0 0 0) s m args below meth c 3 0 0 (ud_Q D G z N (po_ip a0 Qf) below args s) a0 0 [(0, .ref (z + 71)), (1, .int x1)] []
  refine ux_iconst C (v := 0) (by decide) dX12_isTold_0 ?_
  refine ux_istore_n C rfl (by decide) rfl dX12_isTold_1 ?_
  refine ux_pick [1, 2, 0] rfl ?_
  refine LW1.elim (P := fun (x2_3 : Int32) => ud_X D G z N p l e (ud_rm 0 0 0) s m args below meth c 3 0 0 (ud_Q D G z N (po_ip a0 Qf) below args s) a0 2 [(0, .ref (z + 71)), (1, .int x1), (2, .int x2_3)] []) hw ?_
  intro x2_3 K_1 hw ih_2
  refine ux_iload_n C 2 rfl rfl dX12_isTold_2 ?_
  refine ux_aload_n C 0 rfl rfl dX12_isTold_3 ?_
  refine gf_12_34 C dX12_isTold_4 ?_
  refine ux_iconst C (v := 5) (by decide) dX12_isTold_7 ?_
  obtain ⟨hi_7, hw⟩ := hw
  refine ux_iald C (uc_78 C.2.2.2.2.2) hi_7 dX12_isTold_8 ?_
  refine ux_icmp_ge C (tgt := 30) (by decide) dX12_isTold_9 (fun hc_6 => ?_) (fun hc_6 => ?_)
  · replace hw := hw.1 hc_6
    refine ux_iconst C (v := 0) (by decide) dX12_isTold_30 ?_
    exact ux_zret C rfl ⟨_, rfl, rfl, hw⟩ dX12_isTold_31
  · replace hw := hw.2 hc_6
    refine ux_aload_n C 0 rfl rfl dX12_isTold_12 ?_
    refine gf_12_43 C dX12_isTold_13 ?_
    refine ux_iload_n C 2 rfl rfl dX12_isTold_16 ?_
    obtain ⟨hi_5, hw⟩ := hw
    refine ux_iald C (uc_81 C.2.2.2.2.2) hi_5 dX12_isTold_17 ?_
    refine ux_iload_n C 1 rfl rfl dX12_isTold_18 ?_
    refine ux_icmp_ne C (tgt := 24) (by decide) dX12_isTold_19 (fun hc_4 => ?_) (fun hc_4 => ?_)
    · replace hw := hw.2 hc_4
      refine ux_iinc C 2 rfl rfl (by decide) rfl dX12_isTold_24 ?_
      refine ux_goto C (tgt := 2) (by decide) dX12_isTold_27 ?_
      exact ux_pick [1, 2, 0] rfl (ih_2 _ hw)
    · replace hw := hw.1 hc_4
      refine ux_iconst C (v := 1) (by decide) dX12_isTold_22 ?_
      exact ux_zret C rfl ⟨_, rfl, rfl, hw⟩ dX12_isTold_23
set_option maxHeartbeats 2000000 in
set_option maxRecDepth 4000 in
theorem c_Model_goes_j66 {D : va_G} {G : Nat → Nat} {z N : Nat} {p : Program} {l : Launch} {e : Env} {s : State} {m : MethodId} {args : Array Value} {below : List Frame} {meth : Method} {c : Code} (hN : 92 ≤ N) {a0 : ud_St} {b_66 : ud_St} {y1_66 : Int32}  {Qf : ud_St → Prop} (C : ud_C D G z N p s m args meth c cX12_goes 2 RX12 (none : Option Jvm.ClassFile.FieldType))  (hw : w_Model_goes_j66 a0 b_66 y1_66 Qf) : ud_X D G z N p l e (ud_rm 0 0 0) s m args below meth c 2 0 0 (ud_Q D G z N (po_v Qf) below args s) b_66 66 [(0, .ref (z + 71)), (1, .int y1_66)] [] := by
  unfold w_Model_goes_j66 at hw
  refine ux_pick [0, 1] rfl ?_
  refine LW2.elim (P := fun (x1_11 : Int32) (a_12 : ud_St) => ud_X D G z N p l e (ud_rm 0 0 0) s m args below meth c 2 0 0 (ud_Q D G z N (po_v Qf) below args s) a_12 66 [(0, .ref (z + 71)), (1, .int x1_11)] []) hw ?_
  intro x1_11 a_12 K_9 hw ih_10
  refine ux_iload_n C 1 rfl rfl dX12_goes_66 ?_
  refine ux_aload_n C 0 rfl rfl dX12_goes_67 ?_
  refine gf_12_34 C dX12_goes_68 ?_
  refine ux_iconst C (v := 2) (by decide) dX12_goes_71 ?_
  obtain ⟨hi_16, hw⟩ := hw
  refine ux_iald C (uc_78 C.2.2.2.2.2) hi_16 dX12_goes_72 ?_
  refine ux_icmp_ge C (tgt := 94) (by decide) dX12_goes_73 (fun hc_15 => ?_) (fun hc_15 => ?_)
  · replace hw := hw.1 hc_15
    exact ux_vret C ⟨rfl, hw⟩ dX12_goes_94
  · replace hw := hw.2 hc_15
    refine ux_aload_n C 0 rfl rfl dX12_goes_76 ?_
    refine gf_12_71 C dX12_goes_77 ?_
    refine ux_iload_n C 1 rfl rfl dX12_goes_80 ?_
    refine ux_aload_n C 0 rfl rfl dX12_goes_81 ?_
    refine gf_12_74 C dX12_goes_82 ?_
    refine ux_iload_n C 1 rfl rfl dX12_goes_85 ?_
    obtain ⟨hi_14, hw⟩ := hw
    refine ux_zald C (uc_91 C.2.2.2.2.2) hi_14 dX12_goes_86 ?_
    obtain ⟨hi_13, hw⟩ := hw
    refine ux_zast C (uc_90 C.2.2.2.2.2) hi_13 dX12_goes_87 ?_
    refine ux_iinc C 1 rfl rfl (by decide) rfl dX12_goes_88 ?_
    refine ux_goto C (tgt := 66) (by decide) dX12_goes_91 ?_
    exact ux_pick [1, 0] rfl (ih_10 _ _ hw)
set_option maxHeartbeats 2000000 in
set_option maxRecDepth 4000 in
theorem c_Model_goes_j27 {D : va_G} {G : Nat → Nat} {z N : Nat} {p : Program} {l : Launch} {e : Env} {s : State} {m : MethodId} {args : Array Value} {below : List Frame} {meth : Method} {c : Code} (hN : 92 ≤ N) {a0 : ud_St} {b_27 : ud_St} {y1_27 : Int32}  {Qf : ud_St → Prop} (C : ud_C D G z N p s m args meth c cX12_goes 2 RX12 (none : Option Jvm.ClassFile.FieldType))  (hw : w_Model_goes_j27 a0 b_27 y1_27 Qf) : ud_X D G z N p l e (ud_rm 0 0 0) s m args below meth c 2 0 0 (ud_Q D G z N (po_v Qf) below args s) b_27 27 [(0, .ref (z + 71)), (1, .int y1_27)] [] := by
  unfold w_Model_goes_j27 at hw
  refine ux_pick [0, 1] rfl ?_
  refine LW2.elim (P := fun (x1_7 : Int32) (a_8 : ud_St) => ud_X D G z N p l e (ud_rm 0 0 0) s m args below meth c 2 0 0 (ud_Q D G z N (po_v Qf) below args s) a_8 27 [(0, .ref (z + 71)), (1, .int x1_7)] []) hw ?_
  intro x1_7 a_8 K_5 hw ih_6
  refine ux_iload_n C 1 rfl rfl dX12_goes_27 ?_
  refine ux_aload_n C 0 rfl rfl dX12_goes_28 ?_
  refine gf_12_34 C dX12_goes_29 ?_
  refine ux_iconst C (v := 2) (by decide) dX12_goes_32 ?_
  obtain ⟨hi_22, hw⟩ := hw
  refine ux_iald C (uc_78 C.2.2.2.2.2) hi_22 dX12_goes_33 ?_
  refine ux_icmp_ge C (tgt := 64) (by decide) dX12_goes_34 (fun hc_21 => ?_) (fun hc_21 => ?_)
  · replace hw := hw.1 hc_21
    refine ux_iconst C (v := 0) (by decide) dX12_goes_64 ?_
    refine ux_istore_n C rfl (by decide) rfl dX12_goes_65 ?_
    exact ux_pick [1, 0] rfl (c_Model_goes_j66 hN  C  hw)
  · replace hw := hw.2 hc_21
    refine ux_aload_n C 0 rfl rfl dX12_goes_37 ?_
    refine gf_12_71 C dX12_goes_38 ?_
    refine ux_iload_n C 1 rfl rfl dX12_goes_41 ?_
    obtain ⟨hi_20, hw⟩ := hw
    refine ux_zald C (uc_90 C.2.2.2.2.2) hi_20 dX12_goes_42 ?_
    refine ux_if_eq C (tgt := 58) (by decide) dX12_goes_43 (fun hc_19 => ?_) (fun hc_19 => ?_)
    · replace hw := hw.1 hc_19
      refine ux_iinc C 1 rfl rfl (by decide) rfl dX12_goes_58 ?_
      refine ux_goto C (tgt := 27) (by decide) dX12_goes_61 ?_
      exact ux_pick [1, 0] rfl (ih_6 _ _ hw)
    · replace hw := hw.2 hc_19
      refine ux_aload_n C 0 rfl rfl dX12_goes_46 ?_
      refine gf_12_74 C dX12_goes_47 ?_
      refine ux_aload_n C 0 rfl rfl dX12_goes_50 ?_
      refine gf_12_56 C dX12_goes_51 ?_
      refine ux_iload_n C 1 rfl rfl dX12_goes_54 ?_
      obtain ⟨hi_18, hw⟩ := hw
      refine ux_iald C (uc_85 C.2.2.2.2.2) hi_18 dX12_goes_55 ?_
      refine ux_iconst C (v := 1) (by decide) dX12_goes_56 ?_
      obtain ⟨hi_17, hw⟩ := hw
      refine ux_zast C (uc_91 C.2.2.2.2.2) hi_17 dX12_goes_57 ?_
      refine ux_iinc C 1 rfl rfl (by decide) rfl dX12_goes_58 ?_
      refine ux_goto C (tgt := 27) (by decide) dX12_goes_61 ?_
      exact ux_pick [1, 0] rfl (ih_6 _ _ hw)
set_option maxHeartbeats 2000000 in
set_option maxRecDepth 4000 in
theorem c_Model_goes_j2 {D : va_G} {G : Nat → Nat} {z N : Nat} {p : Program} {l : Launch} {e : Env} {s : State} {m : MethodId} {args : Array Value} {below : List Frame} {meth : Method} {c : Code} (hN : 92 ≤ N) {a0 : ud_St} {b_2 : ud_St} {y1_2 : Int32}  {Qf : ud_St → Prop} (C : ud_C D G z N p s m args meth c cX12_goes 2 RX12 (none : Option Jvm.ClassFile.FieldType))  (hw : w_Model_goes_j2 a0 b_2 y1_2 Qf) : ud_X D G z N p l e (ud_rm 0 0 0) s m args below meth c 2 0 0 (ud_Q D G z N (po_v Qf) below args s) b_2 2 [(0, .ref (z + 71)), (1, .int y1_2)] [] := by
  unfold w_Model_goes_j2 at hw
  refine ux_pick [0, 1] rfl ?_
  refine LW2.elim (P := fun (x1_3 : Int32) (a_4 : ud_St) => ud_X D G z N p l e (ud_rm 0 0 0) s m args below meth c 2 0 0 (ud_Q D G z N (po_v Qf) below args s) a_4 2 [(0, .ref (z + 71)), (1, .int x1_3)] []) hw ?_
  intro x1_3 a_4 K_1 hw ih_2
  refine ux_iload_n C 1 rfl rfl dX12_goes_2 ?_
  refine ux_aload_n C 0 rfl rfl dX12_goes_3 ?_
  refine gf_12_34 C dX12_goes_4 ?_
  refine ux_iconst C (v := 2) (by decide) dX12_goes_7 ?_
  obtain ⟨hi_25, hw⟩ := hw
  refine ux_iald C (uc_78 C.2.2.2.2.2) hi_25 dX12_goes_8 ?_
  refine ux_icmp_ge C (tgt := 25) (by decide) dX12_goes_9 (fun hc_24 => ?_) (fun hc_24 => ?_)
  · replace hw := hw.1 hc_24
    refine ux_iconst C (v := 0) (by decide) dX12_goes_25 ?_
    refine ux_istore_n C rfl (by decide) rfl dX12_goes_26 ?_
    exact ux_pick [1, 0] rfl (c_Model_goes_j27 hN  C  hw)
  · replace hw := hw.2 hc_24
    refine ux_aload_n C 0 rfl rfl dX12_goes_12 ?_
    refine gf_12_74 C dX12_goes_13 ?_
    refine ux_iload_n C 1 rfl rfl dX12_goes_16 ?_
    refine ux_iconst C (v := 0) (by decide) dX12_goes_17 ?_
    obtain ⟨hi_23, hw⟩ := hw
    refine ux_zast C (uc_91 C.2.2.2.2.2) hi_23 dX12_goes_18 ?_
    refine ux_iinc C 1 rfl rfl (by decide) rfl dX12_goes_19 ?_
    refine ux_goto C (tgt := 2) (by decide) dX12_goes_22 ?_
    exact ux_pick [1, 0] rfl (ih_2 _ _ hw)
set_option maxHeartbeats 2000000 in
set_option maxRecDepth 4000 in
theorem c_Model_goes {l : Launch} {D : va_G} {G : Nat → Nat} {z N : Nat} (hN : 92 ≤ N) {a0 : ud_St}   {Qf : ud_St → Prop} (hw : w_Model_goes a0  Qf) : ud_M l D G z N yX12_goes cX12_goes 2 (none : Option Jvm.ClassFile.FieldType) 0 [.ref (z + 71)] a0 (po_v Qf) := by
  unfold w_Model_goes at hw
  refine ud_M_of hN (by decide) (Nat.le_of_ble_eq_true rfl) ?_
  intro p e s m args below meth c C
  have C : ud_C D G z N p s m args meth c cX12_goes 2 RX12 (none : Option Jvm.ClassFile.FieldType) := C
  show ud_X D G z N p l e (ud_rm 0 0 0) s m args below meth c 2 0 0 (ud_Q D G z N (po_v Qf) below args s) a0 0 [(0, .ref (z + 71))] []
  refine ux_iconst C (v := 0) (by decide) dX12_goes_0 ?_
  refine ux_istore_n C rfl (by decide) rfl dX12_goes_1 ?_
  exact ux_pick [1, 0] rfl (c_Model_goes_j2 hN  C  hw)
set_option maxHeartbeats 2000000 in
set_option maxRecDepth 4000 in
theorem c_Model_manyIn {l : Launch} {D : va_G} {G : Nat → Nat} {z N : Nat} (hN : 92 ≤ N) {a0 : ud_St}   {Qf : Int32 → Prop} (hw : w_Model_manyIn a0  Qf) : ud_M l D G z N yX12_manyIn cX12_manyIn 3 (some Jvm.ClassFile.FieldType.int) 0 [.ref (z + 71)] a0 (po_ip a0 Qf) := by
  unfold w_Model_manyIn at hw
  refine ud_M_of hN (by decide) (Nat.le_of_ble_eq_true rfl) ?_
  intro p e s m args below meth c C
  have C : ud_C D G z N p s m args meth c cX12_manyIn 3 RX12 (some Jvm.ClassFile.FieldType.int) := C
  show ud_X D G z N p l e (ud_rm 0 0 0) s m args below meth c 3 0 0 (ud_Q D G z N (po_ip a0 Qf) below args s) a0 0 [(0, .ref (z + 71))] []
  refine ux_iconst C (v := 0) (by decide) dX12_manyIn_0 ?_
  refine ux_istore_n C rfl (by decide) rfl dX12_manyIn_1 ?_
  refine ux_iconst C (v := 0) (by decide) dX12_manyIn_2 ?_
  refine ux_istore_n C rfl (by decide) rfl dX12_manyIn_3 ?_
  refine ux_pick [2, 1, 0] rfl ?_
  refine LW2.elim (P := fun (x1_3 : Int32) (x2_4 : Int32) => ud_X D G z N p l e (ud_rm 0 0 0) s m args below meth c 3 0 0 (ud_Q D G z N (po_ip a0 Qf) below args s) a0 4 [(0, .ref (z + 71)), (1, .int x1_3), (2, .int x2_4)] []) hw ?_
  intro x1_3 x2_4 K_1 hw ih_2
  refine ux_iload_n C 2 rfl rfl dX12_manyIn_4 ?_
  refine ux_aload_n C 0 rfl rfl dX12_manyIn_5 ?_
  refine gf_12_34 C dX12_manyIn_6 ?_
  refine ux_iconst C (v := 2) (by decide) dX12_manyIn_9 ?_
  obtain ⟨hi_8, hw⟩ := hw
  refine ux_iald C (uc_78 C.2.2.2.2.2) hi_8 dX12_manyIn_10 ?_
  refine ux_icmp_ge C (tgt := 37) (by decide) dX12_manyIn_11 (fun hc_7 => ?_) (fun hc_7 => ?_)
  · replace hw := hw.1 hc_7
    refine ux_iload_n C 1 rfl rfl dX12_manyIn_37 ?_
    exact ux_iret C ⟨_, rfl, rfl, hw⟩ dX12_manyIn_38
  · replace hw := hw.2 hc_7
    refine ux_iload_n C 1 rfl rfl dX12_manyIn_14 ?_
    refine ux_aload_n C 0 rfl rfl dX12_manyIn_15 ?_
    refine gf_12_71 C dX12_manyIn_16 ?_
    refine ux_iload_n C 2 rfl rfl dX12_manyIn_19 ?_
    obtain ⟨hi_6, hw⟩ := hw
    refine ux_zald C (uc_90 C.2.2.2.2.2) hi_6 dX12_manyIn_20 ?_
    refine ux_if_eq C (tgt := 28) (by decide) dX12_manyIn_21 (fun hc_5 => ?_) (fun hc_5 => ?_)
    · replace hw := hw.1 hc_5
      refine ux_iconst C (v := 0) (by decide) dX12_manyIn_28 ?_
      refine ux_iadd C dX12_manyIn_29 ?_
      refine ux_istore_n C rfl (by decide) rfl dX12_manyIn_30 ?_
      refine ux_iinc C 2 rfl rfl (by decide) rfl dX12_manyIn_31 ?_
      refine ux_goto C (tgt := 4) (by decide) dX12_manyIn_34 ?_
      exact ux_pick [2, 1, 0] rfl (ih_2 _ _ hw)
    · replace hw := hw.2 hc_5
      refine ux_iconst C (v := 1) (by decide) dX12_manyIn_24 ?_
      refine ux_goto C (tgt := 29) (by decide) dX12_manyIn_25 ?_
      refine ux_iadd C dX12_manyIn_29 ?_
      refine ux_istore_n C rfl (by decide) rfl dX12_manyIn_30 ?_
      refine ux_iinc C 2 rfl rfl (by decide) rfl dX12_manyIn_31 ?_
      refine ux_goto C (tgt := 4) (by decide) dX12_manyIn_34 ?_
      exact ux_pick [2, 1, 0] rfl (ih_2 _ _ hw)
set_option maxHeartbeats 2000000 in
set_option maxRecDepth 4000 in
theorem c_Model_isRest {l : Launch} {D : va_G} {G : Nat → Nat} {z N : Nat} (hN : 92 ≤ N) {a0 : ud_St} {x1 : Int32}  {Qf : Int32 → Prop} (hw : w_Model_isRest a0 x1 Qf) : ud_M l D G z N yX12_isRest cX12_isRest 4 (some Jvm.ClassFile.FieldType.boolean) 0 [.ref (z + 71), .int x1] a0 (po_ip a0 Qf) := by
  unfold w_Model_isRest at hw
  refine ud_M_of hN (by decide) (Nat.le_of_ble_eq_true rfl) ?_
  intro p e s m args below meth c C
  have C : ud_C D G z N p s m args meth c cX12_isRest 4 RX12 (some Jvm.ClassFile.FieldType.boolean) := C
  show ud_X D G z N p l e (ud_rm 0 0 0) s m args below meth c 4 0 0 (ud_Q D G z N (po_ip a0 Qf) below args s) a0 0 [(0, .ref (z + 71)), (1, .int x1)] []
  refine ux_iconst C (v := -1) (by decide) dX12_isRest_0 ?_
  refine ux_istore_n C rfl (by decide) rfl dX12_isRest_1 ?_
  refine ux_iconst C (v := 0) (by decide) dX12_isRest_2 ?_
  refine ux_istore_n C rfl (by decide) rfl dX12_isRest_3 ?_
  refine ux_pick [2, 3, 1, 0] rfl ?_
  refine LW2.elim (P := fun (x2_3 : Int32) (x3_4 : Int32) => ud_X D G z N p l e (ud_rm 0 0 0) s m args below meth c 4 0 0 (ud_Q D G z N (po_ip a0 Qf) below args s) a0 4 [(0, .ref (z + 71)), (1, .int x1), (2, .int x2_3), (3, .int x3_4)] []) hw ?_
  intro x2_3 x3_4 K_1 hw ih_2
  refine ux_iload_n C 3 rfl rfl dX12_isRest_4 ?_
  refine ux_aload_n C 0 rfl rfl dX12_isRest_5 ?_
  refine gf_12_34 C dX12_isRest_6 ?_
  refine ux_iconst C (v := 2) (by decide) dX12_isRest_9 ?_
  obtain ⟨hi_13, hw⟩ := hw
  refine ux_iald C (uc_78 C.2.2.2.2.2) hi_13 dX12_isRest_10 ?_
  refine ux_icmp_ge C (tgt := 50) (by decide) dX12_isRest_11 (fun hc_12 => ?_) (fun hc_12 => ?_)
  · replace hw := hw.1 hc_12
    refine ux_iconst C (v := 1) (by decide) dX12_isRest_50 ?_
    exact ux_zret C rfl ⟨_, rfl, rfl, hw⟩ dX12_isRest_51
  · replace hw := hw.2 hc_12
    refine ux_aload_n C 0 rfl rfl dX12_isRest_14 ?_
    refine gf_12_71 C dX12_isRest_15 ?_
    refine ux_iload_n C 3 rfl rfl dX12_isRest_18 ?_
    obtain ⟨hi_11, hw⟩ := hw
    refine ux_zald C (uc_90 C.2.2.2.2.2) hi_11 dX12_isRest_19 ?_
    refine ux_if_ne C (tgt := 26) (by decide) dX12_isRest_20 (fun hc_10 => ?_) (fun hc_10 => ?_)
    · replace hw := hw.2 hc_10
      refine ux_iload_n C 2 rfl rfl dX12_isRest_26 ?_
      refine ux_iconst C (v := -1) (by decide) dX12_isRest_27 ?_
      refine ux_icmp_eq C (tgt := 40) (by decide) dX12_isRest_28 (fun hc_9 => ?_) (fun hc_9 => ?_)
      · replace hw := hw.1 hc_9
        refine ux_iload_n C 3 rfl rfl dX12_isRest_40 ?_
        refine ux_iload_n C 1 rfl rfl dX12_isRest_41 ?_
        obtain ⟨hc_5, hw⟩ := hw
        refine ux_irem C hc_5 dX12_isRest_42 ?_
        refine ux_istore_n C rfl (by decide) rfl dX12_isRest_43 ?_
        refine ux_iinc C 3 rfl rfl (by decide) rfl dX12_isRest_44 ?_
        refine ux_goto C (tgt := 4) (by decide) dX12_isRest_47 ?_
        exact ux_pick [2, 3, 1, 0] rfl (ih_2 _ _ hw)
      · replace hw := hw.2 hc_9
        refine ux_iload_n C 2 rfl rfl dX12_isRest_31 ?_
        refine ux_iload_n C 3 rfl rfl dX12_isRest_32 ?_
        refine ux_iload_n C 1 rfl rfl dX12_isRest_33 ?_
        obtain ⟨hc_8, hw⟩ := hw
        refine ux_irem C hc_8 dX12_isRest_34 ?_
        refine ux_icmp_eq C (tgt := 40) (by decide) dX12_isRest_35 (fun hc_7 => ?_) (fun hc_7 => ?_)
        · replace hw := hw.1 hc_7
          refine ux_iload_n C 3 rfl rfl dX12_isRest_40 ?_
          refine ux_iload_n C 1 rfl rfl dX12_isRest_41 ?_
          obtain ⟨hc_6, hw⟩ := hw
          refine ux_irem C hc_6 dX12_isRest_42 ?_
          refine ux_istore_n C rfl (by decide) rfl dX12_isRest_43 ?_
          refine ux_iinc C 3 rfl rfl (by decide) rfl dX12_isRest_44 ?_
          refine ux_goto C (tgt := 4) (by decide) dX12_isRest_47 ?_
          exact ux_pick [2, 3, 1, 0] rfl (ih_2 _ _ hw)
        · replace hw := hw.2 hc_7
          refine ux_iconst C (v := 0) (by decide) dX12_isRest_38 ?_
          exact ux_zret C rfl ⟨_, rfl, rfl, hw⟩ dX12_isRest_39
    · replace hw := hw.1 hc_10
      refine ux_goto C (tgt := 44) (by decide) dX12_isRest_23 ?_
      refine ux_iinc C 3 rfl rfl (by decide) rfl dX12_isRest_44 ?_
      refine ux_goto C (tgt := 4) (by decide) dX12_isRest_47 ?_
      exact ux_pick [1, 2, 3, 0] rfl (ih_2 _ _ hw)
set_option maxHeartbeats 2000000 in
set_option maxRecDepth 4000 in
theorem c_Model_count {l : Launch} {D : va_G} {G : Nat → Nat} {z N : Nat} (hN : 92 ≤ N) {a0 : ud_St} {x1 : Int32}  {Qf : Int32 → ud_St → Prop} (hw : w_Model_count a0 x1 Qf) : ud_M l D G z N yX12_count cX12_count 4 (some Jvm.ClassFile.FieldType.int) 0 [.ref (z + 71), .int x1] a0 (po_i Qf) := by
  unfold w_Model_count at hw
  refine ud_M_of hN (by decide) (Nat.le_of_ble_eq_true rfl) ?_
  intro p e s m args below meth c C
  have C : ud_C D G z N p s m args meth c cX12_count 4 RX12 (some Jvm.ClassFile.FieldType.int) := C
  show ud_X D G z N p l e (ud_rm 0 0 0) s m args below meth c 4 0 0 (ud_Q D G z N (po_i Qf) below args s) a0 0 [(0, .ref (z + 71)), (1, .int x1)] []
  refine ux_aload_n C 0 rfl rfl dX12_count_0 ?_
  refine ux_iconst C (v := 0) (by decide) dX12_count_1 ?_
  refine pf_12_77 C dX12_count_2 ?_
  refine ux_iconst C (v := 0) (by decide) dX12_count_5 ?_
  refine ux_istore_n C rfl (by decide) rfl dX12_count_6 ?_
  refine ux_iload_n C 2 rfl rfl dX12_count_7 ?_
  by_cases hx_2 : x1 = 0
  · replace hw := hw.1 hx_2
    refine ux_tableIn C (tgt := 56) (by rw [hx_2]; decide) (by rw [hx_2]; decide) (by rw [hx_2]; rfl) (by decide) dX12_count_8 ?_
    refine ux_aload_n C 1 rfl rfl dX12_count_56 ?_
    refine gf_12_34 C dX12_count_57 ?_
    refine ux_iconst C (v := 0) (by decide) dX12_count_60 ?_
    obtain ⟨hi_1, hw⟩ := hw
    refine ux_iald C (uc_78 C.2.2.2.2.2) hi_1 dX12_count_61 ?_
    exact ux_iret C ⟨_, rfl, hw⟩ dX12_count_62
  · replace hw := hw.2 hx_2
    by_cases hx_4 : x1 = 1
    · replace hw := hw.1 hx_4
      refine ux_tableIn C (tgt := 63) (by rw [hx_4]; decide) (by rw [hx_4]; decide) (by rw [hx_4]; rfl) (by decide) dX12_count_8 ?_
      refine ux_aload_n C 1 rfl rfl dX12_count_63 ?_
      refine gf_12_34 C dX12_count_64 ?_
      refine ux_iconst C (v := 1) (by decide) dX12_count_67 ?_
      obtain ⟨hi_3, hw⟩ := hw
      refine ux_iald C (uc_78 C.2.2.2.2.2) hi_3 dX12_count_68 ?_
      exact ux_iret C ⟨_, rfl, hw⟩ dX12_count_69
    · replace hw := hw.2 hx_4
      by_cases hx_6 : x1 = 2
      · replace hw := hw.1 hx_6
        refine ux_tableIn C (tgt := 70) (by rw [hx_6]; decide) (by rw [hx_6]; decide) (by rw [hx_6]; rfl) (by decide) dX12_count_8 ?_
        refine ux_aload_n C 1 rfl rfl dX12_count_70 ?_
        refine gf_12_34 C dX12_count_71 ?_
        refine ux_iconst C (v := 3) (by decide) dX12_count_74 ?_
        obtain ⟨hi_5, hw⟩ := hw
        refine ux_iald C (uc_78 C.2.2.2.2.2) hi_5 dX12_count_75 ?_
        exact ux_iret C ⟨_, rfl, hw⟩ dX12_count_76
      · replace hw := hw.2 hx_6
        by_cases hx_8 : x1 = 3
        · replace hw := hw.1 hx_8
          refine ux_tableIn C (tgt := 77) (by rw [hx_8]; decide) (by rw [hx_8]; decide) (by rw [hx_8]; rfl) (by decide) dX12_count_8 ?_
          refine ux_aload_n C 1 rfl rfl dX12_count_77 ?_
          refine gf_12_34 C dX12_count_78 ?_
          refine ux_iconst C (v := 4) (by decide) dX12_count_81 ?_
          obtain ⟨hi_7, hw⟩ := hw
          refine ux_iald C (uc_78 C.2.2.2.2.2) hi_7 dX12_count_82 ?_
          exact ux_iret C ⟨_, rfl, hw⟩ dX12_count_83
        · replace hw := hw.2 hx_8
          by_cases hx_10 : x1 = 4
          · replace hw := hw.1 hx_10
            refine ux_tableIn C (tgt := 84) (by rw [hx_10]; decide) (by rw [hx_10]; decide) (by rw [hx_10]; rfl) (by decide) dX12_count_8 ?_
            refine ux_aload_n C 1 rfl rfl dX12_count_84 ?_
            refine gf_12_34 C dX12_count_85 ?_
            refine ux_iconst C (v := 5) (by decide) dX12_count_88 ?_
            obtain ⟨hi_9, hw⟩ := hw
            refine ux_iald C (uc_78 C.2.2.2.2.2) hi_9 dX12_count_89 ?_
            exact ux_iret C ⟨_, rfl, hw⟩ dX12_count_90
          · replace hw := hw.2 hx_10
            by_cases hx_12 : x1 = 5
            · replace hw := hw.1 hx_12
              refine ux_tableIn C (tgt := 91) (by rw [hx_12]; decide) (by rw [hx_12]; decide) (by rw [hx_12]; rfl) (by decide) dX12_count_8 ?_
              refine ux_aload_n C 1 rfl rfl dX12_count_91 ?_
              refine gf_12_31 C dX12_count_92 ?_
              refine ux_iconst C (v := 0) (by decide) dX12_count_95 ?_
              obtain ⟨hi_11, hw⟩ := hw
              refine ux_iald C (uc_77 C.2.2.2.2.2) hi_11 dX12_count_96 ?_
              exact ux_iret C ⟨_, rfl, hw⟩ dX12_count_97
            · replace hw := hw.2 hx_12
              by_cases hx_13 : x1 = 6
              · replace hw := hw.1 hx_13
                refine ux_tableIn C (tgt := 98) (by rw [hx_13]; decide) (by rw [hx_13]; decide) (by rw [hx_13]; rfl) (by decide) dX12_count_8 ?_
                refine ux_aload_n C 1 rfl rfl dX12_count_98 ?_
                refine gf_12_94 C dX12_count_99 ?_
                exact ux_iret C ⟨_, rfl, hw⟩ dX12_count_102
              · replace hw := hw.2 hx_13
                by_cases hx_21 : x1 = 7
                · replace hw := hw.1 hx_21
                  refine ux_tableIn C (tgt := 103) (by rw [hx_21]; decide) (by rw [hx_21]; decide) (by rw [hx_21]; rfl) (by decide) dX12_count_8 ?_
                  refine ux_iconst C (v := 0) (by decide) dX12_count_103 ?_
                  refine ux_istore_n C rfl (by decide) rfl dX12_count_104 ?_
                  refine ux_pick [2, 1, 0] rfl ?_
                  refine LW2.elim (P := fun (x2_16 : Int32) (x3_17 : Int32) => ud_X D G z N p l e (ud_rm 0 0 0) s m args below meth c 4 0 0 (ud_Q D G z N (po_i Qf) below args s) (ud_sv a0 71 0 (0 : Int32)) 105 [(0, .ref (z + 71)), (2, .int x2_16), (3, .int x3_17)] []) hw ?_
                  intro x2_16 x3_17 K_14 hw ih_15
                  refine ux_iload_n C 2 rfl rfl dX12_count_105 ?_
                  refine ux_iconst C (v := 4) (by decide) dX12_count_106 ?_
                  refine ux_icmp_ge C (tgt := 134) (by decide) dX12_count_107 (fun hc_20 => ?_) (fun hc_20 => ?_)
                  · replace hw := hw.1 hc_20
                    refine ux_iload_n C 1 rfl rfl dX12_count_134 ?_
                    exact ux_iret C ⟨_, rfl, hw⟩ dX12_count_135
                  · replace hw := hw.2 hc_20
                    refine ux_iload_n C 1 rfl rfl dX12_count_110 ?_
                    refine ux_aload_n C 0 rfl rfl dX12_count_111 ?_
                    refine gf_12_7 C dX12_count_112 ?_
                    refine ux_iload_n C 2 rfl rfl dX12_count_115 ?_
                    obtain ⟨hi_19, hw⟩ := hw
                    refine ux_iald C (uc_72 C.2.2.2.2.2) hi_19 dX12_count_116 ?_
                    refine ux_iconst C (v := -1) (by decide) dX12_count_117 ?_
                    refine ux_icmp_ne C (tgt := 125) (by decide) dX12_count_118 (fun hc_18 => ?_) (fun hc_18 => ?_)
                    · replace hw := hw.2 hc_18
                      refine ux_iconst C (v := 1) (by decide) dX12_count_125 ?_
                      refine ux_iadd C dX12_count_126 ?_
                      refine ux_istore_n C rfl (by decide) rfl dX12_count_127 ?_
                      refine ux_iinc C 2 rfl rfl (by decide) rfl dX12_count_128 ?_
                      refine ux_goto C (tgt := 105) (by decide) dX12_count_131 ?_
                      exact ux_pick [2, 1, 0] rfl (ih_15 _ _ hw)
                    · replace hw := hw.1 hc_18
                      refine ux_iconst C (v := 0) (by decide) dX12_count_121 ?_
                      refine ux_goto C (tgt := 126) (by decide) dX12_count_122 ?_
                      refine ux_iadd C dX12_count_126 ?_
                      refine ux_istore_n C rfl (by decide) rfl dX12_count_127 ?_
                      refine ux_iinc C 2 rfl rfl (by decide) rfl dX12_count_128 ?_
                      refine ux_goto C (tgt := 105) (by decide) dX12_count_131 ?_
                      exact ux_pick [2, 1, 0] rfl (ih_15 _ _ hw)
                · replace hw := hw.2 hx_21
                  have hx_2i : Int32.toInt x1 ≠ 0 := fun q => hx_2 (Int32.toInt_inj.mp (q.trans (by decide)))
                  have hx_4i : Int32.toInt x1 ≠ 1 := fun q => hx_4 (Int32.toInt_inj.mp (q.trans (by decide)))
                  have hx_6i : Int32.toInt x1 ≠ 2 := fun q => hx_6 (Int32.toInt_inj.mp (q.trans (by decide)))
                  have hx_8i : Int32.toInt x1 ≠ 3 := fun q => hx_8 (Int32.toInt_inj.mp (q.trans (by decide)))
                  have hx_10i : Int32.toInt x1 ≠ 4 := fun q => hx_10 (Int32.toInt_inj.mp (q.trans (by decide)))
                  have hx_12i : Int32.toInt x1 ≠ 5 := fun q => hx_12 (Int32.toInt_inj.mp (q.trans (by decide)))
                  have hx_13i : Int32.toInt x1 ≠ 6 := fun q => hx_13 (Int32.toInt_inj.mp (q.trans (by decide)))
                  have hx_21i : Int32.toInt x1 ≠ 7 := fun q => hx_21 (Int32.toInt_inj.mp (q.trans (by decide)))
                  refine ux_tableOut C (tgt := 136) (by omega) (by decide) dX12_count_8 ?_
                  refine ux_iconst C (v := -1) (by decide) dX12_count_136 ?_
                  exact ux_iret C ⟨_, rfl, hw⟩ dX12_count_137
set_option maxHeartbeats 2000000 in
set_option maxRecDepth 4000 in
theorem c_Contest_enter {l : Launch} {D : va_G} {G : Nat → Nat} {z N : Nat} (hN : 92 ≤ N) {a0 : ud_St} {x1 : Int32} {x2 : Int32} {x3 : Int32} {x4 : Int32}  {Qf : ud_St → Prop} (hw : w_Contest_enter a0 x1 x2 x3 x4 Qf) : ud_M l D G z N yX1_enter cX1_enter 5 (none : Option Jvm.ClassFile.FieldType) 1 [.ref (z + 48), .int x1, .int x2, .int x3, .int x4] a0 (po_v Qf) := by
  unfold w_Contest_enter at hw
  refine ud_M_of hN (by decide) (Nat.le_of_ble_eq_true rfl) ?_
  intro p e s m args below meth c C
  have C : ud_C D G z N p s m args meth c cX1_enter 5 RX1 (none : Option Jvm.ClassFile.FieldType) := C
  show ud_X D G z N p l e (ud_rm 1 0 0) s m args below meth c 5 0 0 (ud_Q D G z N (po_v Qf) below args s) a0 0 [(0, .ref (z + 48)), (1, .int x1), (2, .int x2), (3, .int x3), (4, .int x4)] []
  refine ux_iload_n C 3 rfl rfl dX1_enter_0 ?_
  refine ux_aload_n C 0 rfl rfl dX1_enter_1 ?_
  refine gf_1_15 C dX1_enter_2 ?_
  refine ux_iload_n C 2 rfl rfl dX1_enter_5 ?_
  refine cs_1_31 C  (c_Cells_at hN (uc_50 C.2.2.2.2.2) hw) (by decide) (by decide) (Nat.le_of_ble_eq_true rfl) dX1_enter_6 (po_ip.k fun r_1 hw => ?_)
  refine ux_icmp_le C (tgt := 33) (by decide) dX1_enter_9 (fun hc_7 => ?_) (fun hc_7 => ?_)
  · replace hw := hw.1 hc_7
    exact ux_vret C ⟨rfl, hw⟩ dX1_enter_33
  · replace hw := hw.2 hc_7
    refine ux_aload_n C 0 rfl rfl dX1_enter_12 ?_
    refine gf_1_15 C dX1_enter_13 ?_
    refine ux_iload_n C 2 rfl rfl dX1_enter_16 ?_
    refine ux_iload_n C 3 rfl rfl dX1_enter_17 ?_
    refine cs_1_50 C  (c_Cells_put hN (uc_50 C.2.2.2.2.2) hw) (by decide) (by decide) (Nat.le_of_ble_eq_true rfl) dX1_enter_18 (po_v.k fun a_4 hw => ?_)
    refine ux_aload_n C 0 rfl rfl dX1_enter_21 ?_
    refine gf_1_9 C dX1_enter_22 ?_
    refine ux_iload_n C 1 rfl rfl dX1_enter_25 ?_
    refine ux_iload_n C 2 rfl rfl dX1_enter_26 ?_
    refine ux_iadd C dX1_enter_27 ?_
    refine ux_iload C 4 rfl dX1_enter_28 ?_
    refine cs_1_50 C  (c_Cells_put hN (uc_49 C.2.2.2.2.2) hw) (by decide) (by decide) (Nat.le_of_ble_eq_true rfl) dX1_enter_30 (po_v.k fun a_6 hw => ?_)
    exact ux_vret C ⟨rfl, hw⟩ dX1_enter_33
set_option maxHeartbeats 2000000 in
set_option maxRecDepth 4000 in
theorem c_Crowd_admit {l : Launch} {D : va_G} {G : Nat → Nat} {z N : Nat} (hN : 92 ≤ N) {a0 : ud_St} {x1 : Int32}  {Qf : ud_St → Prop} (hw : w_Crowd_admit a0 x1 Qf) : ud_M l D G z N yX2_admit cX2_admit 2 (none : Option Jvm.ClassFile.FieldType) 1 [.ref (z + 45), .int x1] a0 (po_v Qf) := by
  unfold w_Crowd_admit at hw
  refine ud_M_of hN (by decide) (Nat.le_of_ble_eq_true rfl) ?_
  intro p e s m args below meth c C
  have C : ud_C D G z N p s m args meth c cX2_admit 2 RX2 (none : Option Jvm.ClassFile.FieldType) := C
  show ud_X D G z N p l e (ud_rm 1 0 0) s m args below meth c 2 0 0 (ud_Q D G z N (po_v Qf) below args s) a0 0 [(0, .ref (z + 45)), (1, .int x1)] []
  refine ux_aload_n C 0 rfl rfl dX2_admit_0 ?_
  refine gf_2_15 C dX2_admit_1 ?_
  refine ux_iload_n C 1 rfl rfl dX2_admit_4 ?_
  refine cs_2_43 C  (c_Cells_at hN (uc_47 C.2.2.2.2.2) hw) (by decide) (by decide) (Nat.le_of_ble_eq_true rfl) dX2_admit_5 (po_ip.k fun r_1 hw => ?_)
  refine ux_aload_n C 0 rfl rfl dX2_admit_8 ?_
  refine gf_2_32 C dX2_admit_9 ?_
  refine ux_icmp_eq C (tgt := 46) (by decide) dX2_admit_12 (fun hc_7 => ?_) (fun hc_7 => ?_)
  · replace hw := hw.1 hc_7
    exact ux_vret C ⟨rfl, hw⟩ dX2_admit_46
  · replace hw := hw.2 hc_7
    refine ux_aload_n C 0 rfl rfl dX2_admit_15 ?_
    refine gf_2_15 C dX2_admit_16 ?_
    refine ux_iload_n C 1 rfl rfl dX2_admit_19 ?_
    refine ux_aload_n C 0 rfl rfl dX2_admit_20 ?_
    refine gf_2_32 C dX2_admit_21 ?_
    refine cs_2_69 C  (c_Cells_put hN (uc_47 C.2.2.2.2.2) hw) (by decide) (by decide) (Nat.le_of_ble_eq_true rfl) dX2_admit_24 (po_v.k fun a_4 hw => ?_)
    refine ux_aload_n C 0 rfl rfl dX2_admit_27 ?_
    refine gf_2_9 C dX2_admit_28 ?_
    refine ux_aload_n C 0 rfl rfl dX2_admit_31 ?_
    refine ux_dup C rfl dX2_admit_32 ?_
    refine gf_2_25 C dX2_admit_33 ?_
    refine ux_dup_x1 C rfl rfl dX2_admit_36 ?_
    refine ux_iconst C (v := 1) (by decide) dX2_admit_37 ?_
    refine ux_iadd C dX2_admit_38 ?_
    refine pf_2_25 C dX2_admit_39 ?_
    refine ux_iload_n C 1 rfl rfl dX2_admit_42 ?_
    refine cs_2_69 C  (c_Cells_put hN (uc_46 C.2.2.2.2.2) hw) (by decide) (by decide) (Nat.le_of_ble_eq_true rfl) dX2_admit_43 (po_v.k fun a_6 hw => ?_)
    exact ux_vret C ⟨rfl, hw⟩ dX2_admit_46
set_option maxHeartbeats 2000000 in
set_option maxRecDepth 4000 in
theorem c_Crowd_isOneRest {l : Launch} {D : va_G} {G : Nat → Nat} {z N : Nat} (hN : 92 ≤ N) {a0 : ud_St} {x1 : Int32}  {Qf : Int32 → Prop} (hw : w_Crowd_isOneRest a0 x1 Qf) : ud_M l D G z N yX2_isOneRest cX2_isOneRest 4 (some Jvm.ClassFile.FieldType.boolean) 1 [.ref (z + 45), .int x1] a0 (po_ip a0 Qf) := by
  unfold w_Crowd_isOneRest at hw
  refine ud_M_of hN (by decide) (Nat.le_of_ble_eq_true rfl) ?_
  intro p e s m args below meth c C
  have C : ud_C D G z N p s m args meth c cX2_isOneRest 4 RX2 (some Jvm.ClassFile.FieldType.boolean) := C
  show ud_X D G z N p l e (ud_rm 1 0 0) s m args below meth c 4 0 0 (ud_Q D G z N (po_ip a0 Qf) below args s) a0 0 [(0, .ref (z + 45)), (1, .int x1)] []
  refine ux_aload_n C 0 rfl rfl dX2_isOneRest_0 ?_
  refine gf_2_9 C dX2_isOneRest_1 ?_
  refine ux_iconst C (v := 0) (by decide) dX2_isOneRest_4 ?_
  refine cs_2_43 C  (c_Cells_at hN (uc_46 C.2.2.2.2.2) hw) (by decide) (by decide) (Nat.le_of_ble_eq_true rfl) dX2_isOneRest_5 (po_ip.k fun r_1 hw => ?_)
  refine ux_iload_n C 1 rfl rfl dX2_isOneRest_8 ?_
  refine cs_2_90 C  (c_Cells_over hN  hw) (by decide) (by decide) (Nat.le_of_ble_eq_true rfl) dX2_isOneRest_9 (po_ip.k fun r_3 hw => ?_)
  refine ux_istore_n C rfl (by decide) rfl dX2_isOneRest_12 ?_
  refine ux_iconst C (v := 1) (by decide) dX2_isOneRest_13 ?_
  refine ux_istore_n C rfl (by decide) rfl dX2_isOneRest_14 ?_
  refine ux_pick [2, 3, 1, 0] rfl ?_
  refine LW1.elim (P := fun (x3_7 : Int32) => ud_X D G z N p l e (ud_rm 1 0 0) s m args below meth c 4 0 0 (ud_Q D G z N (po_ip a0 Qf) below args s) a0 15 [(0, .ref (z + 45)), (1, .int x1), (2, .int r_3), (3, .int x3_7)] []) hw ?_
  intro x3_7 K_5 hw ih_6
  refine ux_iload_n C 3 rfl rfl dX2_isOneRest_15 ?_
  refine ux_aload_n C 0 rfl rfl dX2_isOneRest_16 ?_
  refine gf_2_25 C dX2_isOneRest_17 ?_
  refine ux_icmp_ge C (tgt := 47) (by decide) dX2_isOneRest_20 (fun hc_13 => ?_) (fun hc_13 => ?_)
  · replace hw := hw.1 hc_13
    refine ux_iconst C (v := 1) (by decide) dX2_isOneRest_47 ?_
    exact ux_zret C rfl ⟨_, rfl, rfl, hw⟩ dX2_isOneRest_48
  · replace hw := hw.2 hc_13
    refine ux_aload_n C 0 rfl rfl dX2_isOneRest_23 ?_
    refine gf_2_9 C dX2_isOneRest_24 ?_
    refine ux_iload_n C 3 rfl rfl dX2_isOneRest_27 ?_
    refine cs_2_43 C  (c_Cells_at hN (uc_46 C.2.2.2.2.2) hw) (by decide) (by decide) (Nat.le_of_ble_eq_true rfl) dX2_isOneRest_28 (po_ip.k fun r_8 hw => ?_)
    refine ux_iload_n C 1 rfl rfl dX2_isOneRest_31 ?_
    refine cs_2_90 C  (c_Cells_over hN  hw) (by decide) (by decide) (Nat.le_of_ble_eq_true rfl) dX2_isOneRest_32 (po_ip.k fun r_10 hw => ?_)
    refine ux_iload_n C 2 rfl rfl dX2_isOneRest_35 ?_
    refine ux_icmp_eq C (tgt := 41) (by decide) dX2_isOneRest_36 (fun hc_12 => ?_) (fun hc_12 => ?_)
    · replace hw := hw.1 hc_12
      refine ux_iinc C 3 rfl rfl (by decide) rfl dX2_isOneRest_41 ?_
      refine ux_goto C (tgt := 15) (by decide) dX2_isOneRest_44 ?_
      exact ux_pick [1, 2, 3, 0] rfl (ih_6 _ hw)
    · replace hw := hw.2 hc_12
      refine ux_iconst C (v := 0) (by decide) dX2_isOneRest_39 ?_
      exact ux_zret C rfl ⟨_, rfl, rfl, hw⟩ dX2_isOneRest_40
set_option maxHeartbeats 2000000 in
set_option maxRecDepth 4000 in
theorem c_Evening_draw {l : Launch} {D : va_G} {G : Nat → Nat} {z N : Nat} (hN : 92 ≤ N) {a0 : ud_St} {x1 : Int32} {x2 : Int32} {x3 : Int32}  {Qf : ud_St → Prop} (hw : w_Evening_draw a0 x1 x2 x3 Qf) : ud_M l D G z N yX3_draw cX3_draw 7 (none : Option Jvm.ClassFile.FieldType) 1 [.ref (z + 59), .int x1, .int x2, .int x3] a0 (po_v Qf) := by
  unfold w_Evening_draw at hw
  refine ud_M_of hN (by decide) (Nat.le_of_ble_eq_true rfl) ?_
  intro p e s m args below meth c C
  have C : ud_C D G z N p s m args meth c cX3_draw 7 RX3 (none : Option Jvm.ClassFile.FieldType) := C
  show ud_X D G z N p l e (ud_rm 1 0 0) s m args below meth c 7 0 0 (ud_Q D G z N (po_v Qf) below args s) a0 0 [(0, .ref (z + 59)), (1, .int x1), (2, .int x2), (3, .int x3)] []
  refine ux_iload_n C 1 rfl rfl dX3_draw_0 ?_
  refine ux_i2l C dX3_draw_1 ?_
  refine ux_lstore C (by decide) rfl dX3_draw_2 ?_
  refine ux_aload_n C 1 rfl rfl dX3_draw_4 ?_
  refine ux_iload_n C 3 rfl rfl dX3_draw_5 ?_
  refine pf_3_15 C dX3_draw_6 ?_
  refine ux_iconst C (v := 0) (by decide) dX3_draw_9 ?_
  refine ux_istore C (by decide) rfl dX3_draw_10 ?_
  refine ux_pick [2, 4, 5, 1, 0] rfl ?_
  refine LW3.elim (P := fun (x4_3 : Int64) (x6_4 : Int32) (a_5 : ud_St) => ud_X D G z N p l e (ud_rm 1 0 0) s m args below meth c 7 0 0 (ud_Q D G z N (po_v Qf) below args s) a_5 12 [(0, .ref (z + 59)), (2, .int x2), (3, .int x3), (4, .long x4_3), (6, .int x6_4)] []) hw ?_
  intro x4_3 x6_4 a_5 K_1 hw ih_2
  refine ux_iload C 4 rfl dX3_draw_12 ?_
  refine ux_iload_n C 1 rfl rfl dX3_draw_14 ?_
  refine ux_icmp_ge C (tgt := 60) (by decide) dX3_draw_15 (fun hc_10 => ?_) (fun hc_10 => ?_)
  · replace hw := hw.1 hc_10
    exact ux_vret C ⟨rfl, hw⟩ dX3_draw_60
  · replace hw := hw.2 hc_10
    refine ux_ldc2 C (v := 1103515245) mw_1193 dX3_draw_18 ?_
    refine ux_lload C 3 rfl dX3_draw_21 ?_
    refine ux_lmul C dX3_draw_23 ?_
    refine ux_ldc2 C (v := 12345) mw_1194 dX3_draw_24 ?_
    refine ux_ladd C dX3_draw_27 ?_
    refine ux_ldc2 C (v := 2147483648) mw_1195 dX3_draw_28 ?_
    refine ux_lrem C (by decide) dX3_draw_31 ?_
    refine ux_lstore C (by decide) rfl dX3_draw_32 ?_
    refine ux_aload_n C 1 rfl rfl dX3_draw_34 ?_
    refine gf_3_9 C dX3_draw_35 ?_
    refine ux_iload C 4 rfl dX3_draw_38 ?_
    refine ux_lload C 0 rfl dX3_draw_40 ?_
    refine ux_ldc2 C (v := 65536) mw_1196 dX3_draw_42 ?_
    refine ux_ldiv C (by decide) dX3_draw_45 ?_
    refine ux_l2i C dX3_draw_46 ?_
    refine ux_iload_n C 3 rfl rfl dX3_draw_47 ?_
    refine cs_3_27 C  (c_Cells_over hN  hw) (by decide) (by decide) (Nat.le_of_ble_eq_true rfl) dX3_draw_48 (po_ip.k fun r_6 hw => ?_)
    refine cs_3_33 C  (c_Cells_put hN (uc_60 C.2.2.2.2.2) hw) (by decide) (by decide) (Nat.le_of_ble_eq_true rfl) dX3_draw_51 (po_v.k fun a_9 hw => ?_)
    refine ux_iinc C 4 rfl rfl (by decide) rfl dX3_draw_54 ?_
    refine ux_goto C (tgt := 12) (by decide) dX3_draw_57 ?_
    exact ux_pick [2, 3, 4, 1, 0] rfl (ih_2 _ _ _ hw)
set_option maxHeartbeats 2000000 in
set_option maxRecDepth 4000 in
theorem c_Figures_splitFromFirst {l : Launch} {D : va_G} {G : Nat → Nat} {z N : Nat} (hN : 92 ≤ N) {a0 : ud_St}   {Qf : Int32 → Prop} (hw : w_Figures_splitFromFirst a0  Qf) : ud_M l D G z N yX4_splitFromFirst cX4_splitFromFirst 3 (some Jvm.ClassFile.FieldType.int) 1 [.ref (z + 26)] a0 (po_ip a0 Qf) := by
  unfold w_Figures_splitFromFirst at hw
  refine ud_M_of hN (by decide) (Nat.le_of_ble_eq_true rfl) ?_
  intro p e s m args below meth c C
  have C : ud_C D G z N p s m args meth c cX4_splitFromFirst 3 RX4 (some Jvm.ClassFile.FieldType.int) := C
  show ud_X D G z N p l e (ud_rm 1 0 0) s m args below meth c 3 0 0 (ud_Q D G z N (po_ip a0 Qf) below args s) a0 0 [(0, .ref (z + 26))] []
  refine ux_iconst C (v := 0) (by decide) dX4_splitFromFirst_0 ?_
  refine ux_istore_n C rfl (by decide) rfl dX4_splitFromFirst_1 ?_
  refine ux_iconst C (v := 0) (by decide) dX4_splitFromFirst_2 ?_
  refine ux_istore_n C rfl (by decide) rfl dX4_splitFromFirst_3 ?_
  refine ux_pick [2, 1, 0] rfl ?_
  refine LW2.elim (P := fun (x1_3 : Int32) (x2_4 : Int32) => ud_X D G z N p l e (ud_rm 1 0 0) s m args below meth c 3 0 0 (ud_Q D G z N (po_ip a0 Qf) below args s) a0 4 [(0, .ref (z + 26)), (1, .int x1_3), (2, .int x2_4)] []) hw ?_
  intro x1_3 x2_4 K_1 hw ih_2
  refine ux_iload_n C 2 rfl rfl dX4_splitFromFirst_4 ?_
  refine ux_aload_n C 0 rfl rfl dX4_splitFromFirst_5 ?_
  refine gf_4_43 C dX4_splitFromFirst_6 ?_
  refine ux_icmp_ge C (tgt := 34) (by decide) dX4_splitFromFirst_9 (fun hc_7 => ?_) (fun hc_7 => ?_)
  · replace hw := hw.1 hc_7
    refine ux_iload_n C 1 rfl rfl dX4_splitFromFirst_34 ?_
    exact ux_iret C ⟨_, rfl, rfl, hw⟩ dX4_splitFromFirst_35
  · replace hw := hw.2 hc_7
    refine ux_iload_n C 1 rfl rfl dX4_splitFromFirst_12 ?_
    refine ux_aload_n C 0 rfl rfl dX4_splitFromFirst_13 ?_
    refine gf_4_39 C dX4_splitFromFirst_14 ?_
    refine ux_imul C dX4_splitFromFirst_17 ?_
    refine ux_aload_n C 0 rfl rfl dX4_splitFromFirst_18 ?_
    refine gf_4_15 C dX4_splitFromFirst_19 ?_
    refine ux_iload_n C 2 rfl rfl dX4_splitFromFirst_22 ?_
    refine cs_4_74 C  (c_Cells_at hN (uc_28 C.2.2.2.2.2) hw) (by decide) (by decide) (Nat.le_of_ble_eq_true rfl) dX4_splitFromFirst_23 (po_ip.k fun r_5 hw => ?_)
    refine ux_iadd C dX4_splitFromFirst_26 ?_
    refine ux_istore_n C rfl (by decide) rfl dX4_splitFromFirst_27 ?_
    refine ux_iinc C 2 rfl rfl (by decide) rfl dX4_splitFromFirst_28 ?_
    refine ux_goto C (tgt := 4) (by decide) dX4_splitFromFirst_31 ?_
    exact ux_pick [2, 1, 0] rfl (ih_2 _ _ hw)
set_option maxHeartbeats 2000000 in
set_option maxRecDepth 4000 in
theorem c_Figures_splitFromLast {l : Launch} {D : va_G} {G : Nat → Nat} {z N : Nat} (hN : 92 ≤ N) {a0 : ud_St}   {Qf : Int32 → Prop} (hw : w_Figures_splitFromLast a0  Qf) : ud_M l D G z N yX4_splitFromLast cX4_splitFromLast 3 (some Jvm.ClassFile.FieldType.int) 1 [.ref (z + 26)] a0 (po_ip a0 Qf) := by
  unfold w_Figures_splitFromLast at hw
  refine ud_M_of hN (by decide) (Nat.le_of_ble_eq_true rfl) ?_
  intro p e s m args below meth c C
  have C : ud_C D G z N p s m args meth c cX4_splitFromLast 3 RX4 (some Jvm.ClassFile.FieldType.int) := C
  show ud_X D G z N p l e (ud_rm 1 0 0) s m args below meth c 3 0 0 (ud_Q D G z N (po_ip a0 Qf) below args s) a0 0 [(0, .ref (z + 26))] []
  refine ux_iconst C (v := 0) (by decide) dX4_splitFromLast_0 ?_
  refine ux_istore_n C rfl (by decide) rfl dX4_splitFromLast_1 ?_
  refine ux_aload_n C 1 rfl rfl dX4_splitFromLast_2 ?_
  refine gf_4_43 C dX4_splitFromLast_3 ?_
  refine ux_iconst C (v := 1) (by decide) dX4_splitFromLast_6 ?_
  refine ux_isub C dX4_splitFromLast_7 ?_
  refine ux_istore_n C rfl (by decide) rfl dX4_splitFromLast_8 ?_
  refine ux_pick [2, 1, 0] rfl ?_
  refine LW2.elim (P := fun (x1_3 : Int32) (x2_4 : Int32) => ud_X D G z N p l e (ud_rm 1 0 0) s m args below meth c 3 0 0 (ud_Q D G z N (po_ip a0 Qf) below args s) a0 9 [(0, .ref (z + 26)), (1, .int x1_3), (2, .int x2_4)] []) hw ?_
  intro x1_3 x2_4 K_1 hw ih_2
  refine ux_iload_n C 2 rfl rfl dX4_splitFromLast_9 ?_
  refine ux_if_lt C (tgt := 35) (by decide) dX4_splitFromLast_10 (fun hc_7 => ?_) (fun hc_7 => ?_)
  · replace hw := hw.1 hc_7
    refine ux_iload_n C 1 rfl rfl dX4_splitFromLast_35 ?_
    exact ux_iret C ⟨_, rfl, rfl, hw⟩ dX4_splitFromLast_36
  · replace hw := hw.2 hc_7
    refine ux_iload_n C 1 rfl rfl dX4_splitFromLast_13 ?_
    refine ux_aload_n C 0 rfl rfl dX4_splitFromLast_14 ?_
    refine gf_4_39 C dX4_splitFromLast_15 ?_
    refine ux_imul C dX4_splitFromLast_18 ?_
    refine ux_aload_n C 0 rfl rfl dX4_splitFromLast_19 ?_
    refine gf_4_15 C dX4_splitFromLast_20 ?_
    refine ux_iload_n C 2 rfl rfl dX4_splitFromLast_23 ?_
    refine cs_4_74 C  (c_Cells_at hN (uc_28 C.2.2.2.2.2) hw) (by decide) (by decide) (Nat.le_of_ble_eq_true rfl) dX4_splitFromLast_24 (po_ip.k fun r_5 hw => ?_)
    refine ux_iadd C dX4_splitFromLast_27 ?_
    refine ux_istore_n C rfl (by decide) rfl dX4_splitFromLast_28 ?_
    refine ux_iinc C 2 rfl rfl (by decide) rfl dX4_splitFromLast_29 ?_
    refine ux_goto C (tgt := 9) (by decide) dX4_splitFromLast_32 ?_
    exact ux_pick [2, 1, 0] rfl (ih_2 _ _ hw)
set_option maxHeartbeats 2000000 in
set_option maxRecDepth 4000 in
theorem c_Figures_sortSplit_j21 {D : va_G} {G : Nat → Nat} {z N : Nat} {p : Program} {l : Launch} {e : Env} {s : State} {m : MethodId} {args : Array Value} {below : List Frame} {meth : Method} {c : Code} (hN : 92 ≤ N) {a0 : ud_St} {b_21 : ud_St} {y1_21 : Int32} {y2_21 : Int32} {y3_21 : Int32} {K_1 : Int32 → ud_St → Prop}  {Qf : ud_St → Prop} (C : ud_C D G z N p s m args meth c cX4_sortSplit 4 RX4 (none : Option Jvm.ClassFile.FieldType)) (ih_2 : ∀ (v0 : Int32) (v1 : ud_St), K_1 v0 v1 → ud_X D G z N p l e (ud_rm 1 0 0) s m args below meth c 4 0 0 (ud_Q D G z N (po_v Qf) below args s) v1 2 [(0, .ref (z + 26)), (1, .int v0)] []) (hw : w_Figures_sortSplit_j21 a0 b_21 y1_21 y2_21 y3_21 K_1 Qf) : ud_X D G z N p l e (ud_rm 1 0 0) s m args below meth c 4 0 0 (ud_Q D G z N (po_v Qf) below args s) b_21 21 [(0, .ref (z + 26)), (1, .int y1_21), (2, .int y2_21), (3, .int y3_21)] [] := by
  unfold w_Figures_sortSplit_j21 at hw
  refine ux_pick [0, 1, 2, 3] rfl ?_
  refine LW2.elim (P := fun (x3_9 : Int32) (a_10 : ud_St) => ud_X D G z N p l e (ud_rm 1 0 0) s m args below meth c 4 0 0 (ud_Q D G z N (po_v Qf) below args s) a_10 21 [(0, .ref (z + 26)), (1, .int y1_21), (2, .int y2_21), (3, .int x3_9)] []) hw ?_
  intro x3_9 a_10 K_7 hw ih_8
  refine ux_iload_n C 3 rfl rfl dX4_sortSplit_21 ?_
  refine ux_if_le C (tgt := 63) (by decide) dX4_sortSplit_22 (fun hc_22 => ?_) (fun hc_22 => ?_)
  · replace hw := hw.1 hc_22
    refine ux_aload_n C 0 rfl rfl dX4_sortSplit_63 ?_
    refine gf_4_15 C dX4_sortSplit_64 ?_
    refine ux_iload_n C 3 rfl rfl dX4_sortSplit_67 ?_
    refine ux_iload_n C 2 rfl rfl dX4_sortSplit_68 ?_
    refine cs_4_49 C  (c_Cells_put hN (uc_28 C.2.2.2.2.2) hw) (by decide) (by decide) (Nat.le_of_ble_eq_true rfl) dX4_sortSplit_69 (po_v.k fun a_12 hw => ?_)
    refine ux_iinc C 1 rfl rfl (by decide) rfl dX4_sortSplit_72 ?_
    refine ux_goto C (tgt := 2) (by decide) dX4_sortSplit_75 ?_
    exact ux_pick [1, 0] rfl (ih_2 _ _ hw)
  · replace hw := hw.2 hc_22
    refine ux_aload_n C 0 rfl rfl dX4_sortSplit_25 ?_
    refine gf_4_15 C dX4_sortSplit_26 ?_
    refine ux_iload_n C 3 rfl rfl dX4_sortSplit_29 ?_
    refine ux_iconst C (v := 1) (by decide) dX4_sortSplit_30 ?_
    refine ux_isub C dX4_sortSplit_31 ?_
    refine cs_4_74 C  (c_Cells_at hN (uc_28 C.2.2.2.2.2) hw) (by decide) (by decide) (Nat.le_of_ble_eq_true rfl) dX4_sortSplit_32 (po_ip.k fun r_13 hw => ?_)
    refine ux_iload_n C 2 rfl rfl dX4_sortSplit_35 ?_
    refine ux_icmp_le C (tgt := 63) (by decide) dX4_sortSplit_36 (fun hc_21 => ?_) (fun hc_21 => ?_)
    · replace hw := hw.1 hc_21
      refine ux_aload_n C 0 rfl rfl dX4_sortSplit_63 ?_
      refine gf_4_15 C dX4_sortSplit_64 ?_
      refine ux_iload_n C 3 rfl rfl dX4_sortSplit_67 ?_
      refine ux_iload_n C 2 rfl rfl dX4_sortSplit_68 ?_
      refine cs_4_49 C  (c_Cells_put hN (uc_28 C.2.2.2.2.2) hw) (by decide) (by decide) (Nat.le_of_ble_eq_true rfl) dX4_sortSplit_69 (po_v.k fun a_16 hw => ?_)
      refine ux_iinc C 1 rfl rfl (by decide) rfl dX4_sortSplit_72 ?_
      refine ux_goto C (tgt := 2) (by decide) dX4_sortSplit_75 ?_
      exact ux_pick [1, 0] rfl (ih_2 _ _ hw)
    · replace hw := hw.2 hc_21
      refine ux_aload_n C 0 rfl rfl dX4_sortSplit_39 ?_
      refine gf_4_15 C dX4_sortSplit_40 ?_
      refine ux_iload_n C 3 rfl rfl dX4_sortSplit_43 ?_
      refine ux_aload_n C 0 rfl rfl dX4_sortSplit_44 ?_
      refine gf_4_15 C dX4_sortSplit_45 ?_
      refine ux_iload_n C 3 rfl rfl dX4_sortSplit_48 ?_
      refine ux_iconst C (v := 1) (by decide) dX4_sortSplit_49 ?_
      refine ux_isub C dX4_sortSplit_50 ?_
      refine cs_4_74 C  (c_Cells_at hN (uc_28 C.2.2.2.2.2) hw) (by decide) (by decide) (Nat.le_of_ble_eq_true rfl) dX4_sortSplit_51 (po_ip.k fun r_17 hw => ?_)
      refine cs_4_49 C  (c_Cells_put hN (uc_28 C.2.2.2.2.2) hw) (by decide) (by decide) (Nat.le_of_ble_eq_true rfl) dX4_sortSplit_54 (po_v.k fun a_20 hw => ?_)
      refine ux_iinc C 3 rfl rfl (by decide) rfl dX4_sortSplit_57 ?_
      refine ux_goto C (tgt := 21) (by decide) dX4_sortSplit_60 ?_
      exact ux_pick [1, 2, 3, 0] rfl (ih_8 _ _ hw)
set_option maxHeartbeats 2000000 in
set_option maxRecDepth 4000 in
theorem c_Figures_sortSplit_j2 {D : va_G} {G : Nat → Nat} {z N : Nat} {p : Program} {l : Launch} {e : Env} {s : State} {m : MethodId} {args : Array Value} {below : List Frame} {meth : Method} {c : Code} (hN : 92 ≤ N) {a0 : ud_St} {b_2 : ud_St} {y1_2 : Int32}  {Qf : ud_St → Prop} (C : ud_C D G z N p s m args meth c cX4_sortSplit 4 RX4 (none : Option Jvm.ClassFile.FieldType))  (hw : w_Figures_sortSplit_j2 a0 b_2 y1_2 Qf) : ud_X D G z N p l e (ud_rm 1 0 0) s m args below meth c 4 0 0 (ud_Q D G z N (po_v Qf) below args s) b_2 2 [(0, .ref (z + 26)), (1, .int y1_2)] [] := by
  unfold w_Figures_sortSplit_j2 at hw
  refine ux_pick [0, 1] rfl ?_
  refine LW2.elim (P := fun (x1_3 : Int32) (a_4 : ud_St) => ud_X D G z N p l e (ud_rm 1 0 0) s m args below meth c 4 0 0 (ud_Q D G z N (po_v Qf) below args s) a_4 2 [(0, .ref (z + 26)), (1, .int x1_3)] []) hw ?_
  intro x1_3 a_4 K_1 hw ih_2
  refine ux_iload_n C 1 rfl rfl dX4_sortSplit_2 ?_
  refine ux_aload_n C 0 rfl rfl dX4_sortSplit_3 ?_
  refine gf_4_43 C dX4_sortSplit_4 ?_
  refine ux_icmp_ge C (tgt := 78) (by decide) dX4_sortSplit_7 (fun hc_23 => ?_) (fun hc_23 => ?_)
  · replace hw := hw.1 hc_23
    exact ux_vret C ⟨rfl, hw⟩ dX4_sortSplit_78
  · replace hw := hw.2 hc_23
    refine ux_aload_n C 0 rfl rfl dX4_sortSplit_10 ?_
    refine gf_4_15 C dX4_sortSplit_11 ?_
    refine ux_iload_n C 1 rfl rfl dX4_sortSplit_14 ?_
    refine cs_4_74 C  (c_Cells_at hN (uc_28 C.2.2.2.2.2) hw) (by decide) (by decide) (Nat.le_of_ble_eq_true rfl) dX4_sortSplit_15 (po_ip.k fun r_5 hw => ?_)
    refine ux_istore_n C rfl (by decide) rfl dX4_sortSplit_18 ?_
    refine ux_iload_n C 2 rfl rfl dX4_sortSplit_19 ?_
    refine ux_istore_n C rfl (by decide) rfl dX4_sortSplit_20 ?_
    exact ux_pick [2, 3, 1, 0] rfl (c_Figures_sortSplit_j21 hN  C ih_2 hw)
set_option maxHeartbeats 2000000 in
set_option maxRecDepth 4000 in
theorem c_Figures_sortSplit {l : Launch} {D : va_G} {G : Nat → Nat} {z N : Nat} (hN : 92 ≤ N) {a0 : ud_St}   {Qf : ud_St → Prop} (hw : w_Figures_sortSplit a0  Qf) : ud_M l D G z N yX4_sortSplit cX4_sortSplit 4 (none : Option Jvm.ClassFile.FieldType) 1 [.ref (z + 26)] a0 (po_v Qf) := by
  unfold w_Figures_sortSplit at hw
  refine ud_M_of hN (by decide) (Nat.le_of_ble_eq_true rfl) ?_
  intro p e s m args below meth c C
  have C : ud_C D G z N p s m args meth c cX4_sortSplit 4 RX4 (none : Option Jvm.ClassFile.FieldType) := C
  show ud_X D G z N p l e (ud_rm 1 0 0) s m args below meth c 4 0 0 (ud_Q D G z N (po_v Qf) below args s) a0 0 [(0, .ref (z + 26))] []
  refine ux_iconst C (v := 1) (by decide) dX4_sortSplit_0 ?_
  refine ux_istore_n C rfl (by decide) rfl dX4_sortSplit_1 ?_
  exact ux_pick [1, 0] rfl (c_Figures_sortSplit_j2 hN  C  hw)
set_option maxHeartbeats 2000000 in
set_option maxRecDepth 4000 in
theorem c_Figures_power {l : Launch} {D : va_G} {G : Nat → Nat} {z N : Nat} (hN : 92 ≤ N) {a0 : ud_St} {x1 : Int32}  {Qf : Int32 → Prop} (hw : w_Figures_power a0 x1 Qf) : ud_M l D G z N yX4_power cX4_power 2 (some Jvm.ClassFile.FieldType.int) 1 [.ref (z + 26), .int x1] a0 (po_ip a0 Qf) := by
  unfold w_Figures_power at hw
  refine ud_M_of hN (by decide) (Nat.le_of_ble_eq_true rfl) ?_
  intro p e s m args below meth c C
  have C : ud_C D G z N p s m args meth c cX4_power 2 RX4 (some Jvm.ClassFile.FieldType.int) := C
  show ud_X D G z N p l e (ud_rm 1 0 0) s m args below meth c 2 0 0 (ud_Q D G z N (po_ip a0 Qf) below args s) a0 0 [(0, .ref (z + 26)), (1, .int x1)] []
  refine ux_aload_n C 0 rfl rfl dX4_power_0 ?_
  refine gf_4_9 C dX4_power_1 ?_
  refine ux_iload_n C 1 rfl rfl dX4_power_4 ?_
  refine cs_4_74 C  (c_Cells_at hN (uc_27 C.2.2.2.2.2) hw) (by decide) (by decide) (Nat.le_of_ble_eq_true rfl) dX4_power_5 (po_ip.k fun r_1 hw => ?_)
  exact ux_iret C ⟨_, rfl, rfl, hw⟩ dX4_power_8
set_option maxHeartbeats 2000000 in
set_option maxRecDepth 4000 in
theorem c_Figures_done {l : Launch} {D : va_G} {G : Nat → Nat} {z N : Nat} (hN : 92 ≤ N) {a0 : ud_St} {x1 : Int32} {x2 : Int32} {x3 : Int32} {x4 : Int32}  {Qf : Int32 → Prop} (hw : w_Figures_done a0 x1 x2 x3 x4 Qf) : ud_M l D G z N yX4_done cX4_done 5 (some Jvm.ClassFile.FieldType.int) 1 [.ref (z + 26), .int x1, .int x2, .int x3, .int x4] a0 (po_ip a0 Qf) := by
  unfold w_Figures_done at hw
  refine ud_M_of hN (by decide) (Nat.le_of_ble_eq_true rfl) ?_
  intro p e s m args below meth c C
  have C : ud_C D G z N p s m args meth c cX4_done 5 RX4 (some Jvm.ClassFile.FieldType.int) := C
  show ud_X D G z N p l e (ud_rm 1 0 0) s m args below meth c 5 0 0 (ud_Q D G z N (po_ip a0 Qf) below args s) a0 0 [(0, .ref (z + 26)), (1, .int x1), (2, .int x2), (3, .int x3), (4, .int x4)] []
  refine ux_iload_n C 1 rfl rfl dX4_done_0 ?_
  by_cases hx_3 : x1 = 0
  · replace hw := hw.1 hx_3
    refine ux_tableIn C (tgt := 72) (by rw [hx_3]; decide) (by rw [hx_3]; decide) (by rw [hx_3]; rfl) (by decide) dX4_done_1 ?_
    refine ux_aload_n C 0 rfl rfl dX4_done_72 ?_
    refine gf_4_18 C dX4_done_73 ?_
    refine ux_iload_n C 3 rfl rfl dX4_done_76 ?_
    refine cs_4_74 C  (c_Cells_at hN (uc_29 C.2.2.2.2.2) hw) (by decide) (by decide) (Nat.le_of_ble_eq_true rfl) dX4_done_77 (po_ip.k fun r_1 hw => ?_)
    exact ux_iret C ⟨_, rfl, rfl, hw⟩ dX4_done_80
  · replace hw := hw.2 hx_3
    by_cases hx_6 : x1 = 1
    · replace hw := hw.1 hx_6
      refine ux_tableIn C (tgt := 81) (by rw [hx_6]; decide) (by rw [hx_6]; decide) (by rw [hx_6]; rfl) (by decide) dX4_done_1 ?_
      refine ux_aload_n C 0 rfl rfl dX4_done_81 ?_
      refine gf_4_21 C dX4_done_82 ?_
      refine ux_iload_n C 3 rfl rfl dX4_done_85 ?_
      refine cs_4_74 C  (c_Cells_at hN (uc_30 C.2.2.2.2.2) hw) (by decide) (by decide) (Nat.le_of_ble_eq_true rfl) dX4_done_86 (po_ip.k fun r_4 hw => ?_)
      exact ux_iret C ⟨_, rfl, rfl, hw⟩ dX4_done_89
    · replace hw := hw.2 hx_6
      by_cases hx_9 : x1 = 2
      · replace hw := hw.1 hx_9
        refine ux_tableIn C (tgt := 90) (by rw [hx_9]; decide) (by rw [hx_9]; decide) (by rw [hx_9]; rfl) (by decide) dX4_done_1 ?_
        refine ux_aload_n C 0 rfl rfl dX4_done_90 ?_
        refine gf_4_24 C dX4_done_91 ?_
        refine ux_iload_n C 3 rfl rfl dX4_done_94 ?_
        refine cs_4_74 C  (c_Cells_at hN (uc_31 C.2.2.2.2.2) hw) (by decide) (by decide) (Nat.le_of_ble_eq_true rfl) dX4_done_95 (po_ip.k fun r_7 hw => ?_)
        exact ux_iret C ⟨_, rfl, rfl, hw⟩ dX4_done_98
      · replace hw := hw.2 hx_9
        by_cases hx_10 : x1 = 3
        · replace hw := hw.1 hx_10
          refine ux_tableIn C (tgt := 99) (by rw [hx_10]; decide) (by rw [hx_10]; decide) (by rw [hx_10]; rfl) (by decide) dX4_done_1 ?_
          refine ux_iload_n C 3 rfl rfl dX4_done_99 ?_
          exact ux_iret C ⟨_, rfl, rfl, hw⟩ dX4_done_100
        · replace hw := hw.2 hx_10
          by_cases hx_11 : x1 = 4
          · replace hw := hw.1 hx_11
            refine ux_tableIn C (tgt := 101) (by rw [hx_11]; decide) (by rw [hx_11]; decide) (by rw [hx_11]; rfl) (by decide) dX4_done_1 ?_
            refine ux_iload C 4 rfl dX4_done_101 ?_
            exact ux_iret C ⟨_, rfl, rfl, hw⟩ dX4_done_103
          · replace hw := hw.2 hx_11
            by_cases hx_12 : x1 = 5
            · replace hw := hw.1 hx_12
              refine ux_tableIn C (tgt := 104) (by rw [hx_12]; decide) (by rw [hx_12]; decide) (by rw [hx_12]; rfl) (by decide) dX4_done_1 ?_
              refine ux_iload_n C 3 rfl rfl dX4_done_104 ?_
              refine ux_iload C 4 rfl dX4_done_105 ?_
              refine ux_isub C dX4_done_107 ?_
              refine ux_mabs (y := 0) C mw_814 mw_815 mw_130 mw_816 (by decide) (Nat.le_of_ble_eq_true rfl) dX4_done_108 ?_
              exact ux_iret C ⟨_, rfl, rfl, hw⟩ dX4_done_111
            · replace hw := hw.2 hx_12
              by_cases hx_15 : x1 = 6
              · replace hw := hw.1 hx_15
                refine ux_tableIn C (tgt := 112) (by rw [hx_15]; decide) (by rw [hx_15]; decide) (by rw [hx_15]; rfl) (by decide) dX4_done_1 ?_
                refine ux_iload_n C 3 rfl rfl dX4_done_112 ?_
                refine ux_iload C 4 rfl dX4_done_113 ?_
                refine ux_iadd C dX4_done_115 ?_
                refine ux_aload_n C 0 rfl rfl dX4_done_116 ?_
                refine gf_4_46 C dX4_done_117 ?_
                refine cs_4_63 C  (c_Cells_over hN  hw) (by decide) (by decide) (Nat.le_of_ble_eq_true rfl) dX4_done_120 (po_ip.k fun r_13 hw => ?_)
                exact ux_iret C ⟨_, rfl, rfl, hw⟩ dX4_done_123
              · replace hw := hw.2 hx_15
                by_cases hx_18 : x1 = 7
                · replace hw := hw.1 hx_18
                  refine ux_tableIn C (tgt := 124) (by rw [hx_18]; decide) (by rw [hx_18]; decide) (by rw [hx_18]; rfl) (by decide) dX4_done_1 ?_
                  refine ux_aload_n C 0 rfl rfl dX4_done_124 ?_
                  refine gf_4_27 C dX4_done_125 ?_
                  refine ux_iload_n C 3 rfl rfl dX4_done_128 ?_
                  refine cs_4_74 C  (c_Cells_at hN (uc_32 C.2.2.2.2.2) hw) (by decide) (by decide) (Nat.le_of_ble_eq_true rfl) dX4_done_129 (po_ip.k fun r_16 hw => ?_)
                  exact ux_iret C ⟨_, rfl, rfl, hw⟩ dX4_done_132
                · replace hw := hw.2 hx_18
                  by_cases hx_21 : x1 = 8
                  · replace hw := hw.1 hx_21
                    refine ux_tableIn C (tgt := 133) (by rw [hx_21]; decide) (by rw [hx_21]; decide) (by rw [hx_21]; rfl) (by decide) dX4_done_1 ?_
                    refine ux_aload_n C 0 rfl rfl dX4_done_133 ?_
                    refine gf_4_30 C dX4_done_134 ?_
                    refine ux_iload_n C 3 rfl rfl dX4_done_137 ?_
                    refine cs_4_74 C  (c_Cells_at hN (uc_33 C.2.2.2.2.2) hw) (by decide) (by decide) (Nat.le_of_ble_eq_true rfl) dX4_done_138 (po_ip.k fun r_19 hw => ?_)
                    exact ux_iret C ⟨_, rfl, rfl, hw⟩ dX4_done_141
                  · replace hw := hw.2 hx_21
                    by_cases hx_24 : x1 = 9
                    · replace hw := hw.1 hx_24
                      refine ux_tableIn C (tgt := 142) (by rw [hx_24]; decide) (by rw [hx_24]; decide) (by rw [hx_24]; rfl) (by decide) dX4_done_1 ?_
                      refine ux_aload_n C 0 rfl rfl dX4_done_142 ?_
                      refine gf_4_33 C dX4_done_143 ?_
                      refine ux_iload_n C 3 rfl rfl dX4_done_146 ?_
                      refine cs_4_74 C  (c_Cells_at hN (uc_34 C.2.2.2.2.2) hw) (by decide) (by decide) (Nat.le_of_ble_eq_true rfl) dX4_done_147 (po_ip.k fun r_22 hw => ?_)
                      exact ux_iret C ⟨_, rfl, rfl, hw⟩ dX4_done_150
                    · replace hw := hw.2 hx_24
                      by_cases hx_26 : x1 = 10
                      · replace hw := hw.1 hx_26
                        refine ux_tableIn C (tgt := 151) (by rw [hx_26]; decide) (by rw [hx_26]; decide) (by rw [hx_26]; rfl) (by decide) dX4_done_1 ?_
                        refine ux_iload_n C 3 rfl rfl dX4_done_151 ?_
                        refine ux_iconst C (v := 2) (by decide) dX4_done_152 ?_
                        refine ux_irem C (by decide) dX4_done_153 ?_
                        refine ux_if_ne C (tgt := 163) (by decide) dX4_done_154 (fun hc_25 => ?_) (fun hc_25 => ?_)
                        · replace hw := hw.2 hc_25
                          refine ux_iload_n C 3 rfl rfl dX4_done_163 ?_
                          exact ux_iret C ⟨_, rfl, rfl, hw⟩ dX4_done_164
                        · replace hw := hw.1 hc_25
                          refine ux_iload_n C 3 rfl rfl dX4_done_157 ?_
                          refine ux_iconst C (v := 2) (by decide) dX4_done_158 ?_
                          refine ux_idiv C (by decide) dX4_done_159 ?_
                          refine ux_goto C (tgt := 164) (by decide) dX4_done_160 ?_
                          exact ux_iret C ⟨_, rfl, rfl, hw⟩ dX4_done_164
                      · replace hw := hw.2 hx_26
                        by_cases hx_29 : x1 = 11
                        · replace hw := hw.1 hx_29
                          refine ux_tableIn C (tgt := 165) (by rw [hx_29]; decide) (by rw [hx_29]; decide) (by rw [hx_29]; rfl) (by decide) dX4_done_1 ?_
                          refine ux_aload_n C 0 rfl rfl dX4_done_165 ?_
                          refine gf_4_36 C dX4_done_166 ?_
                          refine ux_iload_n C 3 rfl rfl dX4_done_169 ?_
                          refine cs_4_74 C  (c_Cells_at hN (uc_35 C.2.2.2.2.2) hw) (by decide) (by decide) (Nat.le_of_ble_eq_true rfl) dX4_done_170 (po_ip.k fun r_27 hw => ?_)
                          exact ux_iret C ⟨_, rfl, rfl, hw⟩ dX4_done_173
                        · replace hw := hw.2 hx_29
                          by_cases hx_32 : x1 = 12
                          · replace hw := hw.1 hx_32
                            refine ux_tableIn C (tgt := 174) (by rw [hx_32]; decide) (by rw [hx_32]; decide) (by rw [hx_32]; rfl) (by decide) dX4_done_1 ?_
                            refine ux_iload_n C 3 rfl rfl dX4_done_174 ?_
                            refine ux_iload_n C 2 rfl rfl dX4_done_175 ?_
                            refine ux_imul C dX4_done_176 ?_
                            refine ux_aload_n C 0 rfl rfl dX4_done_177 ?_
                            refine gf_4_46 C dX4_done_178 ?_
                            refine cs_4_63 C  (c_Cells_over hN  hw) (by decide) (by decide) (Nat.le_of_ble_eq_true rfl) dX4_done_181 (po_ip.k fun r_30 hw => ?_)
                            exact ux_iret C ⟨_, rfl, rfl, hw⟩ dX4_done_184
                          · replace hw := hw.2 hx_32
                            by_cases hx_35 : x1 = 13
                            · replace hw := hw.1 hx_35
                              refine ux_tableIn C (tgt := 185) (by rw [hx_35]; decide) (by rw [hx_35]; decide) (by rw [hx_35]; rfl) (by decide) dX4_done_1 ?_
                              refine ux_iload_n C 3 rfl rfl dX4_done_185 ?_
                              refine ux_iload_n C 2 rfl rfl dX4_done_186 ?_
                              refine ux_iadd C dX4_done_187 ?_
                              refine ux_aload_n C 0 rfl rfl dX4_done_188 ?_
                              refine gf_4_46 C dX4_done_189 ?_
                              refine cs_4_63 C  (c_Cells_over hN  hw) (by decide) (by decide) (Nat.le_of_ble_eq_true rfl) dX4_done_192 (po_ip.k fun r_33 hw => ?_)
                              exact ux_iret C ⟨_, rfl, rfl, hw⟩ dX4_done_195
                            · replace hw := hw.2 hx_35
                              have hx_3i : Int32.toInt x1 ≠ 0 := fun q => hx_3 (Int32.toInt_inj.mp (q.trans (by decide)))
                              have hx_6i : Int32.toInt x1 ≠ 1 := fun q => hx_6 (Int32.toInt_inj.mp (q.trans (by decide)))
                              have hx_9i : Int32.toInt x1 ≠ 2 := fun q => hx_9 (Int32.toInt_inj.mp (q.trans (by decide)))
                              have hx_10i : Int32.toInt x1 ≠ 3 := fun q => hx_10 (Int32.toInt_inj.mp (q.trans (by decide)))
                              have hx_11i : Int32.toInt x1 ≠ 4 := fun q => hx_11 (Int32.toInt_inj.mp (q.trans (by decide)))
                              have hx_12i : Int32.toInt x1 ≠ 5 := fun q => hx_12 (Int32.toInt_inj.mp (q.trans (by decide)))
                              have hx_15i : Int32.toInt x1 ≠ 6 := fun q => hx_15 (Int32.toInt_inj.mp (q.trans (by decide)))
                              have hx_18i : Int32.toInt x1 ≠ 7 := fun q => hx_18 (Int32.toInt_inj.mp (q.trans (by decide)))
                              have hx_21i : Int32.toInt x1 ≠ 8 := fun q => hx_21 (Int32.toInt_inj.mp (q.trans (by decide)))
                              have hx_24i : Int32.toInt x1 ≠ 9 := fun q => hx_24 (Int32.toInt_inj.mp (q.trans (by decide)))
                              have hx_26i : Int32.toInt x1 ≠ 10 := fun q => hx_26 (Int32.toInt_inj.mp (q.trans (by decide)))
                              have hx_29i : Int32.toInt x1 ≠ 11 := fun q => hx_29 (Int32.toInt_inj.mp (q.trans (by decide)))
                              have hx_32i : Int32.toInt x1 ≠ 12 := fun q => hx_32 (Int32.toInt_inj.mp (q.trans (by decide)))
                              have hx_35i : Int32.toInt x1 ≠ 13 := fun q => hx_35 (Int32.toInt_inj.mp (q.trans (by decide)))
                              refine ux_tableOut C (tgt := 196) (by omega) (by decide) dX4_done_1 ?_
                              refine ux_aload_n C 0 rfl rfl dX4_done_196 ?_
                              refine ux_iload_n C 3 rfl rfl dX4_done_197 ?_
                              refine ux_iload_n C 2 rfl rfl dX4_done_198 ?_
                              refine cs_4_92 C  (c_Figures_leaving hN  hw) (by decide) (by decide) (Nat.le_of_ble_eq_true rfl) dX4_done_199 (po_ip.k fun r_36 hw => ?_)
                              exact ux_iret C ⟨_, rfl, rfl, hw⟩ dX4_done_202
set_option maxHeartbeats 2000000 in
set_option maxRecDepth 4000 in
theorem c_Figures_leastOfKind {l : Launch} {D : va_G} {G : Nat → Nat} {z N : Nat} (hN : 92 ≤ N) {a0 : ud_St} {x1 : Int32}  {Qf : Int32 → Prop} (hw : w_Figures_leastOfKind a0 x1 Qf) : ud_M l D G z N yX4_leastOfKind cX4_leastOfKind 2 (some Jvm.ClassFile.FieldType.int) 1 [.ref (z + 26), .int x1] a0 (po_ip a0 Qf) := by
  unfold w_Figures_leastOfKind at hw
  refine ud_M_of hN (by decide) (Nat.le_of_ble_eq_true rfl) ?_
  intro p e s m args below meth c C
  have C : ud_C D G z N p s m args meth c cX4_leastOfKind 2 RX4 (some Jvm.ClassFile.FieldType.int) := C
  show ud_X D G z N p l e (ud_rm 1 0 0) s m args below meth c 2 0 0 (ud_Q D G z N (po_ip a0 Qf) below args s) a0 0 [(0, .ref (z + 26)), (1, .int x1)] []
  refine ux_aload_n C 0 rfl rfl dX4_leastOfKind_0 ?_
  refine gf_4_21 C dX4_leastOfKind_1 ?_
  refine ux_iload_n C 1 rfl rfl dX4_leastOfKind_4 ?_
  refine cs_4_74 C  (c_Cells_at hN (uc_30 C.2.2.2.2.2) hw) (by decide) (by decide) (Nat.le_of_ble_eq_true rfl) dX4_leastOfKind_5 (po_ip.k fun r_1 hw => ?_)
  exact ux_iret C ⟨_, rfl, rfl, hw⟩ dX4_leastOfKind_8
set_option maxHeartbeats 2000000 in
set_option maxRecDepth 4000 in
theorem c_Figures_allAlike {l : Launch} {D : va_G} {G : Nat → Nat} {z N : Nat} (hN : 92 ≤ N) {a0 : ud_St} {x1 : Int32}  {Qf : Int32 → Prop} (hw : w_Figures_allAlike a0 x1 Qf) : ud_M l D G z N yX4_allAlike cX4_allAlike 2 (some Jvm.ClassFile.FieldType.boolean) 1 [.ref (z + 26), .int x1] a0 (po_ip a0 Qf) := by
  unfold w_Figures_allAlike at hw
  refine ud_M_of hN (by decide) (Nat.le_of_ble_eq_true rfl) ?_
  intro p e s m args below meth c C
  have C : ud_C D G z N p s m args meth c cX4_allAlike 2 RX4 (some Jvm.ClassFile.FieldType.boolean) := C
  show ud_X D G z N p l e (ud_rm 1 0 0) s m args below meth c 2 0 0 (ud_Q D G z N (po_ip a0 Qf) below args s) a0 0 [(0, .ref (z + 26)), (1, .int x1)] []
  refine ux_aload_n C 0 rfl rfl dX4_allAlike_0 ?_
  refine gf_4_21 C dX4_allAlike_1 ?_
  refine ux_iload_n C 1 rfl rfl dX4_allAlike_4 ?_
  refine cs_4_74 C  (c_Cells_at hN (uc_30 C.2.2.2.2.2) hw) (by decide) (by decide) (Nat.le_of_ble_eq_true rfl) dX4_allAlike_5 (po_ip.k fun r_1 hw => ?_)
  refine ux_aload_n C 0 rfl rfl dX4_allAlike_8 ?_
  refine gf_4_18 C dX4_allAlike_9 ?_
  refine ux_iload_n C 1 rfl rfl dX4_allAlike_12 ?_
  refine cs_4_74 C  (c_Cells_at hN (uc_29 C.2.2.2.2.2) hw) (by decide) (by decide) (Nat.le_of_ble_eq_true rfl) dX4_allAlike_13 (po_ip.k fun r_3 hw => ?_)
  refine ux_icmp_ne C (tgt := 23) (by decide) dX4_allAlike_16 (fun hc_5 => ?_) (fun hc_5 => ?_)
  · replace hw := hw.2 hc_5
    refine ux_iconst C (v := 0) (by decide) dX4_allAlike_23 ?_
    exact ux_zret C rfl ⟨_, rfl, rfl, hw⟩ dX4_allAlike_24
  · replace hw := hw.1 hc_5
    refine ux_iconst C (v := 1) (by decide) dX4_allAlike_19 ?_
    refine ux_goto C (tgt := 24) (by decide) dX4_allAlike_20 ?_
    exact ux_zret C rfl ⟨_, rfl, rfl, hw⟩ dX4_allAlike_24
set_option maxHeartbeats 2000000 in
set_option maxRecDepth 4000 in
theorem c_Paths_waitMore {l : Launch} {D : va_G} {G : Nat → Nat} {z N : Nat} (hN : 92 ≤ N) {a0 : ud_St} {x1 : Int32} {x2 : Int32}  {Qf : ud_St → Prop} (hw : w_Paths_waitMore a0 x1 x2 Qf) : ud_M l D G z N yX5_waitMore cX5_waitMore 3 (none : Option Jvm.ClassFile.FieldType) 1 [.ref (z + 36), .int x1, .int x2] a0 (po_v Qf) := by
  unfold w_Paths_waitMore at hw
  refine ud_M_of hN (by decide) (Nat.le_of_ble_eq_true rfl) ?_
  intro p e s m args below meth c C
  have C : ud_C D G z N p s m args meth c cX5_waitMore 3 RX5 (none : Option Jvm.ClassFile.FieldType) := C
  show ud_X D G z N p l e (ud_rm 1 0 0) s m args below meth c 3 0 0 (ud_Q D G z N (po_v Qf) below args s) a0 0 [(0, .ref (z + 36)), (1, .int x1), (2, .int x2)] []
  refine ux_aload_n C 0 rfl rfl dX5_waitMore_0 ?_
  refine gf_5_24 C dX5_waitMore_1 ?_
  refine ux_iload_n C 1 rfl rfl dX5_waitMore_4 ?_
  refine ux_aload_n C 0 rfl rfl dX5_waitMore_5 ?_
  refine gf_5_24 C dX5_waitMore_6 ?_
  refine ux_iload_n C 1 rfl rfl dX5_waitMore_9 ?_
  refine cs_5_88 C  (c_Cells_at hN (uc_41 C.2.2.2.2.2) hw) (by decide) (by decide) (Nat.le_of_ble_eq_true rfl) dX5_waitMore_10 (po_ip.k fun r_1 hw => ?_)
  refine ux_iload_n C 2 rfl rfl dX5_waitMore_13 ?_
  refine ux_iadd C dX5_waitMore_14 ?_
  refine cs_5_63 C  (c_Cells_put hN (uc_41 C.2.2.2.2.2) hw) (by decide) (by decide) (Nat.le_of_ble_eq_true rfl) dX5_waitMore_15 (po_v.k fun a_4 hw => ?_)
  exact ux_vret C ⟨rfl, hw⟩ dX5_waitMore_18
set_option maxHeartbeats 2000000 in
set_option maxRecDepth 4000 in
theorem c_Paths_startMore {l : Launch} {D : va_G} {G : Nat → Nat} {z N : Nat} (hN : 92 ≤ N) {a0 : ud_St} {x1 : Int32} {x2 : Int32}  {Qf : ud_St → Prop} (hw : w_Paths_startMore a0 x1 x2 Qf) : ud_M l D G z N yX5_startMore cX5_startMore 3 (none : Option Jvm.ClassFile.FieldType) 1 [.ref (z + 36), .int x1, .int x2] a0 (po_v Qf) := by
  unfold w_Paths_startMore at hw
  refine ud_M_of hN (by decide) (Nat.le_of_ble_eq_true rfl) ?_
  intro p e s m args below meth c C
  have C : ud_C D G z N p s m args meth c cX5_startMore 3 RX5 (none : Option Jvm.ClassFile.FieldType) := C
  show ud_X D G z N p l e (ud_rm 1 0 0) s m args below meth c 3 0 0 (ud_Q D G z N (po_v Qf) below args s) a0 0 [(0, .ref (z + 36)), (1, .int x1), (2, .int x2)] []
  refine ux_aload_n C 0 rfl rfl dX5_startMore_0 ?_
  refine gf_5_30 C dX5_startMore_1 ?_
  refine ux_iload_n C 1 rfl rfl dX5_startMore_4 ?_
  refine ux_aload_n C 0 rfl rfl dX5_startMore_5 ?_
  refine gf_5_30 C dX5_startMore_6 ?_
  refine ux_iload_n C 1 rfl rfl dX5_startMore_9 ?_
  refine cs_5_88 C  (c_Cells_at hN (uc_43 C.2.2.2.2.2) hw) (by decide) (by decide) (Nat.le_of_ble_eq_true rfl) dX5_startMore_10 (po_ip.k fun r_1 hw => ?_)
  refine ux_iload_n C 2 rfl rfl dX5_startMore_13 ?_
  refine ux_iadd C dX5_startMore_14 ?_
  refine cs_5_63 C  (c_Cells_put hN (uc_43 C.2.2.2.2.2) hw) (by decide) (by decide) (Nat.le_of_ble_eq_true rfl) dX5_startMore_15 (po_v.k fun a_4 hw => ?_)
  exact ux_vret C ⟨rfl, hw⟩ dX5_startMore_18
set_option maxHeartbeats 2000000 in
set_option maxRecDepth 4000 in
theorem c_Paths_nextOf {l : Launch} {D : va_G} {G : Nat → Nat} {z N : Nat} (hN : 92 ≤ N) {a0 : ud_St} {x1 : Int32}  {Qf : Int32 → Prop} (hw : w_Paths_nextOf a0 x1 Qf) : ud_M l D G z N yX5_nextOf cX5_nextOf 2 (some Jvm.ClassFile.FieldType.int) 1 [.ref (z + 36), .int x1] a0 (po_ip a0 Qf) := by
  unfold w_Paths_nextOf at hw
  refine ud_M_of hN (by decide) (Nat.le_of_ble_eq_true rfl) ?_
  intro p e s m args below meth c C
  have C : ud_C D G z N p s m args meth c cX5_nextOf 2 RX5 (some Jvm.ClassFile.FieldType.int) := C
  show ud_X D G z N p l e (ud_rm 1 0 0) s m args below meth c 2 0 0 (ud_Q D G z N (po_ip a0 Qf) below args s) a0 0 [(0, .ref (z + 36)), (1, .int x1)] []
  refine ux_aload_n C 0 rfl rfl dX5_nextOf_0 ?_
  refine gf_5_9 C dX5_nextOf_1 ?_
  refine ux_iload_n C 1 rfl rfl dX5_nextOf_4 ?_
  refine cs_5_88 C  (c_Cells_at hN (uc_37 C.2.2.2.2.2) hw) (by decide) (by decide) (Nat.le_of_ble_eq_true rfl) dX5_nextOf_5 (po_ip.k fun r_1 hw => ?_)
  exact ux_iret C ⟨_, rfl, rfl, hw⟩ dX5_nextOf_8
set_option maxHeartbeats 2000000 in
set_option maxRecDepth 4000 in
theorem c_Paths_tailOf {l : Launch} {D : va_G} {G : Nat → Nat} {z N : Nat} (hN : 92 ≤ N) {a0 : ud_St} {x1 : Int32}  {Qf : Int32 → Prop} (hw : w_Paths_tailOf a0 x1 Qf) : ud_M l D G z N yX5_tailOf cX5_tailOf 2 (some Jvm.ClassFile.FieldType.int) 1 [.ref (z + 36), .int x1] a0 (po_ip a0 Qf) := by
  unfold w_Paths_tailOf at hw
  refine ud_M_of hN (by decide) (Nat.le_of_ble_eq_true rfl) ?_
  intro p e s m args below meth c C
  have C : ud_C D G z N p s m args meth c cX5_tailOf 2 RX5 (some Jvm.ClassFile.FieldType.int) := C
  show ud_X D G z N p l e (ud_rm 1 0 0) s m args below meth c 2 0 0 (ud_Q D G z N (po_ip a0 Qf) below args s) a0 0 [(0, .ref (z + 36)), (1, .int x1)] []
  refine ux_aload_n C 0 rfl rfl dX5_tailOf_0 ?_
  refine gf_5_15 C dX5_tailOf_1 ?_
  refine ux_iload_n C 1 rfl rfl dX5_tailOf_4 ?_
  refine cs_5_88 C  (c_Cells_at hN (uc_38 C.2.2.2.2.2) hw) (by decide) (by decide) (Nat.le_of_ble_eq_true rfl) dX5_tailOf_5 (po_ip.k fun r_1 hw => ?_)
  exact ux_iret C ⟨_, rfl, rfl, hw⟩ dX5_tailOf_8
set_option maxHeartbeats 2000000 in
set_option maxRecDepth 4000 in
theorem c_Paths_homeOf {l : Launch} {D : va_G} {G : Nat → Nat} {z N : Nat} (hN : 92 ≤ N) {a0 : ud_St} {x1 : Int32}  {Qf : Int32 → Prop} (hw : w_Paths_homeOf a0 x1 Qf) : ud_M l D G z N yX5_homeOf cX5_homeOf 2 (some Jvm.ClassFile.FieldType.int) 1 [.ref (z + 36), .int x1] a0 (po_ip a0 Qf) := by
  unfold w_Paths_homeOf at hw
  refine ud_M_of hN (by decide) (Nat.le_of_ble_eq_true rfl) ?_
  intro p e s m args below meth c C
  have C : ud_C D G z N p s m args meth c cX5_homeOf 2 RX5 (some Jvm.ClassFile.FieldType.int) := C
  show ud_X D G z N p l e (ud_rm 1 0 0) s m args below meth c 2 0 0 (ud_Q D G z N (po_ip a0 Qf) below args s) a0 0 [(0, .ref (z + 36)), (1, .int x1)] []
  refine ux_aload_n C 0 rfl rfl dX5_homeOf_0 ?_
  refine gf_5_18 C dX5_homeOf_1 ?_
  refine ux_iload_n C 1 rfl rfl dX5_homeOf_4 ?_
  refine cs_5_88 C  (c_Cells_at hN (uc_39 C.2.2.2.2.2) hw) (by decide) (by decide) (Nat.le_of_ble_eq_true rfl) dX5_homeOf_5 (po_ip.k fun r_1 hw => ?_)
  exact ux_iret C ⟨_, rfl, rfl, hw⟩ dX5_homeOf_8
set_option maxHeartbeats 2000000 in
set_option maxRecDepth 4000 in
theorem c_Paths_leastOf {l : Launch} {D : va_G} {G : Nat → Nat} {z N : Nat} (hN : 92 ≤ N) {a0 : ud_St} {x1 : Int32}  {Qf : Int32 → Prop} (hw : w_Paths_leastOf a0 x1 Qf) : ud_M l D G z N yX5_leastOf cX5_leastOf 2 (some Jvm.ClassFile.FieldType.int) 1 [.ref (z + 36), .int x1] a0 (po_ip a0 Qf) := by
  unfold w_Paths_leastOf at hw
  refine ud_M_of hN (by decide) (Nat.le_of_ble_eq_true rfl) ?_
  intro p e s m args below meth c C
  have C : ud_C D G z N p s m args meth c cX5_leastOf 2 RX5 (some Jvm.ClassFile.FieldType.int) := C
  show ud_X D G z N p l e (ud_rm 1 0 0) s m args below meth c 2 0 0 (ud_Q D G z N (po_ip a0 Qf) below args s) a0 0 [(0, .ref (z + 36)), (1, .int x1)] []
  refine ux_aload_n C 0 rfl rfl dX5_leastOf_0 ?_
  refine gf_5_21 C dX5_leastOf_1 ?_
  refine ux_iload_n C 1 rfl rfl dX5_leastOf_4 ?_
  refine cs_5_88 C  (c_Cells_at hN (uc_40 C.2.2.2.2.2) hw) (by decide) (by decide) (Nat.le_of_ble_eq_true rfl) dX5_leastOf_5 (po_ip.k fun r_1 hw => ?_)
  exact ux_iret C ⟨_, rfl, rfl, hw⟩ dX5_leastOf_8
set_option maxHeartbeats 2000000 in
set_option maxRecDepth 4000 in
theorem c_Paths_countInto {l : Launch} {D : va_G} {G : Nat → Nat} {z N : Nat} (hN : 92 ≤ N) {a0 : ud_St} {x1 : Int32}  {Qf : Int32 → Prop} (hw : w_Paths_countInto a0 x1 Qf) : ud_M l D G z N yX5_countInto cX5_countInto 2 (some Jvm.ClassFile.FieldType.int) 1 [.ref (z + 36), .int x1] a0 (po_ip a0 Qf) := by
  unfold w_Paths_countInto at hw
  refine ud_M_of hN (by decide) (Nat.le_of_ble_eq_true rfl) ?_
  intro p e s m args below meth c C
  have C : ud_C D G z N p s m args meth c cX5_countInto 2 RX5 (some Jvm.ClassFile.FieldType.int) := C
  show ud_X D G z N p l e (ud_rm 1 0 0) s m args below meth c 2 0 0 (ud_Q D G z N (po_ip a0 Qf) below args s) a0 0 [(0, .ref (z + 36)), (1, .int x1)] []
  refine ux_aload_n C 0 rfl rfl dX5_countInto_0 ?_
  refine gf_5_30 C dX5_countInto_1 ?_
  refine ux_iload_n C 1 rfl rfl dX5_countInto_4 ?_
  refine ux_iconst C (v := 1) (by decide) dX5_countInto_5 ?_
  refine ux_iadd C dX5_countInto_6 ?_
  refine cs_5_88 C  (c_Cells_at hN (uc_43 C.2.2.2.2.2) hw) (by decide) (by decide) (Nat.le_of_ble_eq_true rfl) dX5_countInto_7 (po_ip.k fun r_1 hw => ?_)
  refine ux_aload_n C 0 rfl rfl dX5_countInto_10 ?_
  refine gf_5_30 C dX5_countInto_11 ?_
  refine ux_iload_n C 1 rfl rfl dX5_countInto_14 ?_
  refine cs_5_88 C  (c_Cells_at hN (uc_43 C.2.2.2.2.2) hw) (by decide) (by decide) (Nat.le_of_ble_eq_true rfl) dX5_countInto_15 (po_ip.k fun r_3 hw => ?_)
  refine ux_isub C dX5_countInto_18 ?_
  exact ux_iret C ⟨_, rfl, rfl, hw⟩ dX5_countInto_19
set_option maxHeartbeats 2000000 in
set_option maxRecDepth 4000 in
theorem c_Paths_into {l : Launch} {D : va_G} {G : Nat → Nat} {z N : Nat} (hN : 92 ≤ N) {a0 : ud_St} {x1 : Int32} {x2 : Int32}  {Qf : Int32 → Prop} (hw : w_Paths_into a0 x1 x2 Qf) : ud_M l D G z N yX5_into cX5_into 3 (some Jvm.ClassFile.FieldType.int) 1 [.ref (z + 36), .int x1, .int x2] a0 (po_ip a0 Qf) := by
  unfold w_Paths_into at hw
  refine ud_M_of hN (by decide) (Nat.le_of_ble_eq_true rfl) ?_
  intro p e s m args below meth c C
  have C : ud_C D G z N p s m args meth c cX5_into 3 RX5 (some Jvm.ClassFile.FieldType.int) := C
  show ud_X D G z N p l e (ud_rm 1 0 0) s m args below meth c 3 0 0 (ud_Q D G z N (po_ip a0 Qf) below args s) a0 0 [(0, .ref (z + 36)), (1, .int x1), (2, .int x2)] []
  refine ux_aload_n C 0 rfl rfl dX5_into_0 ?_
  refine gf_5_33 C dX5_into_1 ?_
  refine ux_aload_n C 0 rfl rfl dX5_into_4 ?_
  refine gf_5_30 C dX5_into_5 ?_
  refine ux_iload_n C 1 rfl rfl dX5_into_8 ?_
  refine cs_5_88 C  (c_Cells_at hN (uc_43 C.2.2.2.2.2) hw) (by decide) (by decide) (Nat.le_of_ble_eq_true rfl) dX5_into_9 (po_ip.k fun r_1 hw => ?_)
  refine ux_iload_n C 2 rfl rfl dX5_into_12 ?_
  refine ux_iadd C dX5_into_13 ?_
  refine cs_5_88 C  (c_Cells_at hN (uc_44 C.2.2.2.2.2) hw) (by decide) (by decide) (Nat.le_of_ble_eq_true rfl) dX5_into_14 (po_ip.k fun r_3 hw => ?_)
  exact ux_iret C ⟨_, rfl, rfl, hw⟩ dX5_into_17
set_option maxHeartbeats 2000000 in
set_option maxRecDepth 4000 in
theorem c_Reader_advance_j107 {D : va_G} {G : Nat → Nat} {z N : Nat} {p : Program} {l : Launch} {e : Env} {s : State} {m : MethodId} {args : Array Value} {below : List Frame} {meth : Method} {c : Code} (hN : 92 ≤ N) {a0 : ud_St} {b_107 : ud_St}  {Qf : ud_St → Prop} (C : ud_C D G z N p s m args meth c cX6_advance 1 RX6 (none : Option Jvm.ClassFile.FieldType))  (hw : w_Reader_advance_j107 a0 b_107 Qf) : ud_X D G z N p l e (ud_rm 1 0 0) s m args below meth c 1 0 0 (ud_Q D G z N (po_v Qf) below args s) b_107 107 [(0, .ref (z + 3))] [] := by
  unfold w_Reader_advance_j107 at hw
  refine ux_pick [0] rfl ?_
  refine LW1.elim (P := fun (a_10 : ud_St) => ud_X D G z N p l e (ud_rm 1 0 0) s m args below meth c 1 0 0 (ud_Q D G z N (po_v Qf) below args s) a_10 107 [(0, .ref (z + 3))] []) hw ?_
  intro a_10 K_8 hw ih_9
  refine ux_aload_n C 0 rfl rfl dX6_advance_107 ?_
  refine gf_6_22 C dX6_advance_108 ?_
  refine ux_aload_n C 0 rfl rfl dX6_advance_111 ?_
  refine gf_6_15 C dX6_advance_112 ?_
  refine gf_6_156 C dX6_advance_115 ?_
  refine ux_icmp_ge C (tgt := 155) (by decide) dX6_advance_118 (fun hc_16 => ?_) (fun hc_16 => ?_)
  · replace hw := hw.1 hc_16
    exact ux_vret C ⟨rfl, hw⟩ dX6_advance_155
  · replace hw := hw.2 hc_16
    refine ux_aload_n C 0 rfl rfl dX6_advance_121 ?_
    refine gf_6_15 C dX6_advance_122 ?_
    refine ux_aload_n C 0 rfl rfl dX6_advance_125 ?_
    refine gf_6_22 C dX6_advance_126 ?_
    refine cs_6_145 C  (c_Tape_byteAt hN  hw) (by decide) (by decide) (Nat.le_of_ble_eq_true rfl) dX6_advance_129 (po_ip.k fun r_11 hw => ?_)
    refine cs_6_160 C  (c_Reader_tokenOf hN  hw) (by decide) (by decide) (Nat.le_of_ble_eq_true rfl) dX6_advance_132 (po_ip.k fun r_13 hw => ?_)
    refine ux_aload_n C 0 rfl rfl dX6_advance_135 ?_
    refine gf_6_33 C dX6_advance_136 ?_
    refine ux_icmp_ne C (tgt := 155) (by decide) dX6_advance_139 (fun hc_15 => ?_) (fun hc_15 => ?_)
    · replace hw := hw.2 hc_15
      exact ux_vret C ⟨rfl, hw⟩ dX6_advance_155
    · replace hw := hw.1 hc_15
      refine ux_aload_n C 0 rfl rfl dX6_advance_142 ?_
      refine ux_dup C rfl dX6_advance_143 ?_
      refine gf_6_22 C dX6_advance_144 ?_
      refine ux_iconst C (v := 1) (by decide) dX6_advance_147 ?_
      refine ux_iadd C dX6_advance_148 ?_
      refine pf_6_22 C dX6_advance_149 ?_
      refine ux_goto C (tgt := 107) (by decide) dX6_advance_152 ?_
      exact ux_pick [0] rfl (ih_9 _ hw)
set_option maxHeartbeats 2000000 in
set_option maxRecDepth 4000 in
theorem c_Reader_advance_j87 {D : va_G} {G : Nat → Nat} {z N : Nat} {p : Program} {l : Launch} {e : Env} {s : State} {m : MethodId} {args : Array Value} {below : List Frame} {meth : Method} {c : Code} (hN : 92 ≤ N) {a0 : ud_St} {b_87 : ud_St} {u0_87 : Int32} {u1_87 : Int32}  {Qf : ud_St → Prop} (C : ud_C D G z N p s m args meth c cX6_advance 1 RX6 (none : Option Jvm.ClassFile.FieldType))  (hw : w_Reader_advance_j87 a0 b_87 u0_87 u1_87 Qf) : ud_X D G z N p l e (ud_rm 1 0 0) s m args below meth c 1 0 0 (ud_Q D G z N (po_v Qf) below args s) b_87 87 [(0, .ref (z + 3))] [.int u0_87, .int u1_87, .ref (z + 3)] := by
  unfold w_Reader_advance_j87 at hw
  refine ux_iadd C dX6_advance_87 ?_
  refine pf_6_22 C dX6_advance_88 ?_
  refine ux_aload_n C 0 rfl rfl dX6_advance_91 ?_
  refine gf_6_33 C dX6_advance_92 ?_
  refine ux_iconst C (v := 1) (by decide) dX6_advance_95 ?_
  refine ux_icmp_eq C (tgt := 107) (by decide) dX6_advance_96 (fun hc_18 => ?_) (fun hc_18 => ?_)
  · replace hw := hw.1 hc_18
    exact ux_pick [0] rfl (c_Reader_advance_j107 hN  C  hw)
  · replace hw := hw.2 hc_18
    refine ux_aload_n C 0 rfl rfl dX6_advance_99 ?_
    refine gf_6_33 C dX6_advance_100 ?_
    refine ux_iconst C (v := 2) (by decide) dX6_advance_103 ?_
    refine ux_icmp_ne C (tgt := 155) (by decide) dX6_advance_104 (fun hc_17 => ?_) (fun hc_17 => ?_)
    · replace hw := hw.2 hc_17
      exact ux_vret C ⟨rfl, hw⟩ dX6_advance_155
    · replace hw := hw.1 hc_17
      exact ux_pick [0] rfl (c_Reader_advance_j107 hN  C  hw)
set_option maxHeartbeats 2000000 in
set_option maxRecDepth 4000 in
theorem c_Reader_advance_j52 {D : va_G} {G : Nat → Nat} {z N : Nat} {p : Program} {l : Launch} {e : Env} {s : State} {m : MethodId} {args : Array Value} {below : List Frame} {meth : Method} {c : Code} (hN : 92 ≤ N) {a0 : ud_St} {b_52 : ud_St}  {Qf : ud_St → Prop} (C : ud_C D G z N p s m args meth c cX6_advance 1 RX6 (none : Option Jvm.ClassFile.FieldType))  (hw : w_Reader_advance_j52 a0 b_52 Qf) : ud_X D G z N p l e (ud_rm 1 0 0) s m args below meth c 1 0 0 (ud_Q D G z N (po_v Qf) below args s) b_52 52 [(0, .ref (z + 3))] [] := by
  unfold w_Reader_advance_j52 at hw
  refine ux_aload_n C 0 rfl rfl dX6_advance_52 ?_
  refine ux_aload_n C 0 rfl rfl dX6_advance_53 ?_
  refine gf_6_15 C dX6_advance_54 ?_
  refine ux_aload_n C 0 rfl rfl dX6_advance_57 ?_
  refine gf_6_141 C dX6_advance_58 ?_
  refine cs_6_145 C  (c_Tape_byteAt hN  hw) (by decide) (by decide) (Nat.le_of_ble_eq_true rfl) dX6_advance_61 (po_ip.k fun r_4 hw => ?_)
  refine cs_6_160 C  (c_Reader_tokenOf hN  hw) (by decide) (by decide) (Nat.le_of_ble_eq_true rfl) dX6_advance_64 (po_ip.k fun r_6 hw => ?_)
  refine pf_6_33 C dX6_advance_67 ?_
  refine ux_aload_n C 0 rfl rfl dX6_advance_70 ?_
  refine ux_aload_n C 0 rfl rfl dX6_advance_71 ?_
  refine gf_6_141 C dX6_advance_72 ?_
  refine ux_aload_n C 0 rfl rfl dX6_advance_75 ?_
  refine gf_6_33 C dX6_advance_76 ?_
  refine ux_if_ne C (tgt := 86) (by decide) dX6_advance_79 (fun hc_19 => ?_) (fun hc_19 => ?_)
  · replace hw := hw.2 hc_19
    refine ux_iconst C (v := 1) (by decide) dX6_advance_86 ?_
    exact ux_pick [0] rfl (c_Reader_advance_j87 hN  C  hw)
  · replace hw := hw.1 hc_19
    refine ux_iconst C (v := 0) (by decide) dX6_advance_82 ?_
    refine ux_goto C (tgt := 87) (by decide) dX6_advance_83 ?_
    exact ux_pick [0] rfl (c_Reader_advance_j87 hN  C  hw)
set_option maxHeartbeats 2000000 in
set_option maxRecDepth 4000 in
theorem c_Reader_advance_j8 {D : va_G} {G : Nat → Nat} {z N : Nat} {p : Program} {l : Launch} {e : Env} {s : State} {m : MethodId} {args : Array Value} {below : List Frame} {meth : Method} {c : Code} (hN : 92 ≤ N) {a0 : ud_St} {b_8 : ud_St}  {Qf : ud_St → Prop} (C : ud_C D G z N p s m args meth c cX6_advance 1 RX6 (none : Option Jvm.ClassFile.FieldType))  (hw : w_Reader_advance_j8 a0 b_8 Qf) : ud_X D G z N p l e (ud_rm 1 0 0) s m args below meth c 1 0 0 (ud_Q D G z N (po_v Qf) below args s) b_8 8 [(0, .ref (z + 3))] [] := by
  unfold w_Reader_advance_j8 at hw
  refine ux_pick [0] rfl ?_
  refine LW1.elim (P := fun (a_3 : ud_St) => ud_X D G z N p l e (ud_rm 1 0 0) s m args below meth c 1 0 0 (ud_Q D G z N (po_v Qf) below args s) a_3 8 [(0, .ref (z + 3))] []) hw ?_
  intro a_3 K_1 hw ih_2
  refine ux_aload_n C 0 rfl rfl dX6_advance_8 ?_
  refine gf_6_141 C dX6_advance_9 ?_
  refine ux_aload_n C 0 rfl rfl dX6_advance_12 ?_
  refine gf_6_15 C dX6_advance_13 ?_
  refine gf_6_156 C dX6_advance_16 ?_
  refine ux_icmp_ge C (tgt := 52) (by decide) dX6_advance_19 (fun hc_25 => ?_) (fun hc_25 => ?_)
  · replace hw := hw.1 hc_25
    exact ux_pick [0] rfl (c_Reader_advance_j52 hN  C  hw)
  · replace hw := hw.2 hc_25
    refine ux_aload_n C 0 rfl rfl dX6_advance_22 ?_
    refine gf_6_15 C dX6_advance_23 ?_
    refine ux_aload_n C 0 rfl rfl dX6_advance_26 ?_
    refine gf_6_141 C dX6_advance_27 ?_
    refine cs_6_145 C  (c_Tape_byteAt hN  hw) (by decide) (by decide) (Nat.le_of_ble_eq_true rfl) dX6_advance_30 (po_ip.k fun r_20 hw => ?_)
    refine cs_6_157 C  (c_Reader_isBlank hN  hw) (by decide) (by decide) (Nat.le_of_ble_eq_true rfl) dX6_advance_33 (po_ip.k fun r_22 hw => ?_)
    refine ux_if_eq C (tgt := 52) (by decide) dX6_advance_36 (fun hc_24 => ?_) (fun hc_24 => ?_)
    · replace hw := hw.1 hc_24
      exact ux_pick [0] rfl (c_Reader_advance_j52 hN  C  hw)
    · replace hw := hw.2 hc_24
      refine ux_aload_n C 0 rfl rfl dX6_advance_39 ?_
      refine ux_dup C rfl dX6_advance_40 ?_
      refine gf_6_141 C dX6_advance_41 ?_
      refine ux_iconst C (v := 1) (by decide) dX6_advance_44 ?_
      refine ux_iadd C dX6_advance_45 ?_
      refine pf_6_141 C dX6_advance_46 ?_
      refine ux_goto C (tgt := 8) (by decide) dX6_advance_49 ?_
      exact ux_pick [0] rfl (ih_2 _ hw)
set_option maxHeartbeats 2000000 in
set_option maxRecDepth 4000 in
theorem c_Reader_advance {l : Launch} {D : va_G} {G : Nat → Nat} {z N : Nat} (hN : 92 ≤ N) {a0 : ud_St}   {Qf : ud_St → Prop} (hw : w_Reader_advance a0  Qf) : ud_M l D G z N yX6_advance cX6_advance 1 (none : Option Jvm.ClassFile.FieldType) 1 [.ref (z + 3)] a0 (po_v Qf) := by
  unfold w_Reader_advance at hw
  refine ud_M_of hN (by decide) (Nat.le_of_ble_eq_true rfl) ?_
  intro p e s m args below meth c C
  have C : ud_C D G z N p s m args meth c cX6_advance 1 RX6 (none : Option Jvm.ClassFile.FieldType) := C
  show ud_X D G z N p l e (ud_rm 1 0 0) s m args below meth c 1 0 0 (ud_Q D G z N (po_v Qf) below args s) a0 0 [(0, .ref (z + 3))] []
  refine ux_aload_n C 0 rfl rfl dX6_advance_0 ?_
  refine ux_aload_n C 0 rfl rfl dX6_advance_1 ?_
  refine gf_6_22 C dX6_advance_2 ?_
  refine pf_6_141 C dX6_advance_5 ?_
  exact ux_pick [0] rfl (c_Reader_advance_j8 hN  C  hw)
set_option maxHeartbeats 2000000 in
set_option maxRecDepth 4000 in
theorem c_Slot_put {l : Launch} {D : va_G} {G : Nat → Nat} {z N : Nat} (hN : 92 ≤ N) {a0 : ud_St} {k0 : Nat} {x1 : Int32} {x2 : Int64} (hk0 : ud_isS N k0) {Qf : Int32 → ud_St → Prop} (hw : w_Slot_put a0 k0 x1 x2 Qf) : ud_M l D G z N yX7_put cX7_put 4 (some Jvm.ClassFile.FieldType.boolean) 1 [.ref (z + k0), .int x1, .long x2] a0 (po_i Qf) := by
  unfold w_Slot_put at hw
  refine ud_M_of hN (by decide) (Nat.le_of_ble_eq_true rfl) ?_
  intro p e s m args below meth c C
  have C : ud_C D G z N p s m args meth c cX7_put 4 RX7 (some Jvm.ClassFile.FieldType.boolean) := C
  show ud_X D G z N p l e (ud_rm 1 0 0) s m args below meth c 4 0 0 (ud_Q D G z N (po_i Qf) below args s) a0 0 [(0, .ref (z + k0)), (1, .int x1), (2, .long x2)] []
  refine ux_iload_n C 1 rfl rfl dX7_put_0 ?_
  refine ux_if_lt C (tgt := 21) (by decide) dX7_put_1 (fun hc_6 => ?_) (fun hc_6 => ?_)
  · replace hw := hw.1 hc_6
    refine ux_iconst C (v := 0) (by decide) dX7_put_21 ?_
    exact ux_zret C rfl ⟨_, rfl, hw⟩ dX7_put_22
  · replace hw := hw.2 hc_6
    refine ux_iload_n C 1 rfl rfl dX7_put_4 ?_
    refine ux_aload_n C 0 rfl rfl dX7_put_5 ?_
    refine gf_7_23 C hk0 dX7_put_6 ?_
    refine ux_icmp_ge C (tgt := 21) (by decide) dX7_put_9 (fun hc_5 => ?_) (fun hc_5 => ?_)
    · replace hw := hw.1 hc_5
      refine ux_iconst C (v := 0) (by decide) dX7_put_21 ?_
      exact ux_zret C rfl ⟨_, rfl, hw⟩ dX7_put_22
    · replace hw := hw.2 hc_5
      refine ux_iload_n C 1 rfl rfl dX7_put_12 ?_
      refine ux_aload_n C 0 rfl rfl dX7_put_13 ?_
      refine gf_7_9 C hk0 dX7_put_14 ?_
      refine ux_alenJ C hk0.2 rfl dX7_put_17 ?_
      refine ux_icmp_lt C (tgt := 23) (by decide) dX7_put_18 (fun hc_4 => ?_) (fun hc_4 => ?_)
      · replace hw := hw.1 hc_4
        refine ux_aload_n C 0 rfl rfl dX7_put_23 ?_
        refine gf_7_9 C hk0 dX7_put_24 ?_
        refine ux_iload_n C 1 rfl rfl dX7_put_27 ?_
        refine ux_aload_n C 0 rfl rfl dX7_put_28 ?_
        refine ux_lload_n C 2 rfl rfl dX7_put_29 ?_
        refine cs_7_26 C hk0 (c_Slot_cut hN hk0 hw) (by decide) (by decide) (Nat.le_of_ble_eq_true rfl) dX7_put_30 (po_lp.k fun r_1 hw => ?_)
        obtain ⟨hi_3, hw⟩ := hw
        refine ux_last C hk0.2 hi_3 dX7_put_33 ?_
        refine ux_iconst C (v := 1) (by decide) dX7_put_34 ?_
        exact ux_zret C rfl ⟨_, rfl, hw⟩ dX7_put_35
      · replace hw := hw.2 hc_4
        refine ux_iconst C (v := 0) (by decide) dX7_put_21 ?_
        exact ux_zret C rfl ⟨_, rfl, hw⟩ dX7_put_22
set_option maxHeartbeats 2000000 in
set_option maxRecDepth 4000 in
theorem c_Table_tell {l : Launch} {D : va_G} {G : Nat → Nat} {z N : Nat} (hN : 92 ≤ N) {a0 : ud_St} {x1 : Int32}  {Qf : ud_St → Prop} (hw : w_Table_tell a0 x1 Qf) : ud_M l D G z N yX8_tell cX8_tell 2 (none : Option Jvm.ClassFile.FieldType) 1 [.ref (z + 15), .int x1] a0 (po_v Qf) := by
  unfold w_Table_tell at hw
  refine ud_M_of hN (by decide) (Nat.le_of_ble_eq_true rfl) ?_
  intro p e s m args below meth c C
  have C : ud_C D G z N p s m args meth c cX8_tell 2 RX8 (none : Option Jvm.ClassFile.FieldType) := C
  show ud_X D G z N p l e (ud_rm 1 0 0) s m args below meth c 2 0 0 (ud_Q D G z N (po_v Qf) below args s) a0 0 [(0, .ref (z + 15)), (1, .int x1)] []
  refine ux_aload_n C 0 rfl rfl dX8_tell_0 ?_
  refine gf_8_24 C (uc_15 C.2.2.2.2.2) dX8_tell_1 ?_
  refine ux_aload_n C 0 rfl rfl dX8_tell_4 ?_
  refine gf_8_44 C (uc_15 C.2.2.2.2.2) dX8_tell_5 ?_
  refine ux_iload_n C 1 rfl rfl dX8_tell_8 ?_
  refine cs_8_57 C  (c_Cells_put hN (uc_25 C.2.2.2.2.2) hw) (by decide) (by decide) (Nat.le_of_ble_eq_true rfl) dX8_tell_9 (po_v.k fun a_2 hw => ?_)
  refine ux_aload_n C 0 rfl rfl dX8_tell_12 ?_
  refine ux_dup C rfl dX8_tell_13 ?_
  refine gf_8_44 C (uc_15 C.2.2.2.2.2) dX8_tell_14 ?_
  refine ux_iconst C (v := 1) (by decide) dX8_tell_17 ?_
  refine ux_iadd C dX8_tell_18 ?_
  refine pf_8_44 C (uc_15 C.2.2.2.2.2) dX8_tell_19 ?_
  exact ux_vret C ⟨rfl, hw⟩ dX8_tell_22
set_option maxHeartbeats 2000000 in
set_option maxRecDepth 4000 in
theorem c_Tape_push {l : Launch} {D : va_G} {G : Nat → Nat} {z N : Nat} (hN : 92 ≤ N) {a0 : ud_St} {x1 : Int32}  {Qf : ud_St → Prop} (hw : w_Tape_push a0 x1 Qf) : ud_M l D G z N yX9_push cX9_push 3 (none : Option Jvm.ClassFile.FieldType) 1 [.ref (z + 1), .int x1] a0 (po_v Qf) := by
  unfold w_Tape_push at hw
  refine ud_M_of hN (by decide) (Nat.le_of_ble_eq_true rfl) ?_
  intro p e s m args below meth c C
  have C : ud_C D G z N p s m args meth c cX9_push 3 RX9 (none : Option Jvm.ClassFile.FieldType) := C
  show ud_X D G z N p l e (ud_rm 1 0 0) s m args below meth c 3 0 0 (ud_Q D G z N (po_v Qf) below args s) a0 0 [(0, .ref (z + 1)), (1, .int x1)] []
  refine ux_bipush C (v := 24) (by decide) dX9_push_0 ?_
  refine ux_istore_n C rfl (by decide) rfl dX9_push_2 ?_
  refine ux_pick [1, 2, 0] rfl ?_
  refine LW2.elim (P := fun (x2_3 : Int32) (a_4 : ud_St) => ud_X D G z N p l e (ud_rm 1 0 0) s m args below meth c 3 0 0 (ud_Q D G z N (po_v Qf) below args s) a_4 3 [(0, .ref (z + 1)), (1, .int x1), (2, .int x2_3)] []) hw ?_
  intro x2_3 a_4 K_1 hw ih_2
  refine ux_iload_n C 2 rfl rfl dX9_push_3 ?_
  refine ux_if_lt C (tgt := 41) (by decide) dX9_push_4 (fun hc_7 => ?_) (fun hc_7 => ?_)
  · replace hw := hw.1 hc_7
    exact ux_vret C ⟨rfl, hw⟩ dX9_push_41
  · replace hw := hw.2 hc_7
    refine ux_aload_n C 0 rfl rfl dX9_push_7 ?_
    refine gf_9_9 C dX9_push_8 ?_
    refine ux_aload_n C 0 rfl rfl dX9_push_11 ?_
    refine gf_9_15 C dX9_push_12 ?_
    refine ux_iload_n C 1 rfl rfl dX9_push_15 ?_
    refine ux_iload_n C 2 rfl rfl dX9_push_16 ?_
    refine ux_iushr C rfl dX9_push_17 ?_
    refine ux_sipush C (v := 255) (by decide) dX9_push_18 ?_
    refine ux_iand C dX9_push_21 ?_
    refine cs_9_19 C  (c_Cells_put hN (uc_2 C.2.2.2.2.2) hw) (by decide) (by decide) (Nat.le_of_ble_eq_true rfl) dX9_push_22 (po_v.k fun a_6 hw => ?_)
    refine ux_aload_n C 0 rfl rfl dX9_push_25 ?_
    refine ux_dup C rfl dX9_push_26 ?_
    refine gf_9_15 C dX9_push_27 ?_
    refine ux_iconst C (v := 1) (by decide) dX9_push_30 ?_
    refine ux_iadd C dX9_push_31 ?_
    refine pf_9_15 C dX9_push_32 ?_
    refine ux_iinc C 2 rfl rfl (by decide) rfl dX9_push_35 ?_
    refine ux_goto C (tgt := 3) (by decide) dX9_push_38 ?_
    exact ux_pick [1, 2, 0] rfl (ih_2 _ _ hw)
set_option maxHeartbeats 2000000 in
set_option maxRecDepth 4000 in
theorem c_Words_change {l : Launch} {D : va_G} {G : Nat → Nat} {z N : Nat} (hN : 92 ≤ N) {a0 : ud_St} {k0 : Nat} {x1 : Int32} {x2 : Int32} {x3 : Int32} (hk0 : ud_isW N k0) {Qf : ud_St → Prop} (hw : w_Words_change a0 k0 x1 x2 x3 Qf) : ud_M l D G z N yX10_change cX10_change 4 (none : Option Jvm.ClassFile.FieldType) 1 [.ref (z + k0), .int x1, .int x2, .int x3] a0 (po_v Qf) := by
  unfold w_Words_change at hw
  refine ud_M_of hN (by decide) (Nat.le_of_ble_eq_true rfl) ?_
  intro p e s m args below meth c C
  have C : ud_C D G z N p s m args meth c cX10_change 4 RX10 (none : Option Jvm.ClassFile.FieldType) := C
  show ud_X D G z N p l e (ud_rm 1 0 0) s m args below meth c 4 0 0 (ud_Q D G z N (po_v Qf) below args s) a0 0 [(0, .ref (z + k0)), (1, .int x1), (2, .int x2), (3, .int x3)] []
  refine ux_aload_n C 0 rfl rfl dX10_change_0 ?_
  refine gf_10_9 C hk0 dX10_change_1 ?_
  refine ux_iload_n C 1 rfl rfl dX10_change_4 ?_
  refine ux_iload_n C 2 rfl rfl dX10_change_5 ?_
  refine cs_10_26 C  (c_Cells_put hN hk0.2.1 hw) (by decide) (by decide) (Nat.le_of_ble_eq_true rfl) dX10_change_6 (po_v.k fun a_2 hw => ?_)
  refine ux_aload_n C 0 rfl rfl dX10_change_9 ?_
  refine gf_10_15 C hk0 dX10_change_10 ?_
  refine ux_iload_n C 1 rfl rfl dX10_change_13 ?_
  refine ux_iload_n C 3 rfl rfl dX10_change_14 ?_
  refine cs_10_26 C  (c_Cells_put hN hk0.2.2 hw) (by decide) (by decide) (Nat.le_of_ble_eq_true rfl) dX10_change_15 (po_v.k fun a_4 hw => ?_)
  exact ux_vret C ⟨rfl, hw⟩ dX10_change_18
set_option maxHeartbeats 2000000 in
set_option maxRecDepth 4000 in
theorem c_Words_sort {l : Launch} {D : va_G} {G : Nat → Nat} {z N : Nat} (hN : 92 ≤ N) {a0 : ud_St} {k0 : Nat} {x1 : Int32} (hk0 : ud_isW N k0) {Qf : Int32 → Prop} (hw : w_Words_sort a0 k0 x1 Qf) : ud_M l D G z N yX10_sort cX10_sort 2 (some Jvm.ClassFile.FieldType.int) 1 [.ref (z + k0), .int x1] a0 (po_ip a0 Qf) := by
  unfold w_Words_sort at hw
  refine ud_M_of hN (by decide) (Nat.le_of_ble_eq_true rfl) ?_
  intro p e s m args below meth c C
  have C : ud_C D G z N p s m args meth c cX10_sort 2 RX10 (some Jvm.ClassFile.FieldType.int) := C
  show ud_X D G z N p l e (ud_rm 1 0 0) s m args below meth c 2 0 0 (ud_Q D G z N (po_ip a0 Qf) below args s) a0 0 [(0, .ref (z + k0)), (1, .int x1)] []
  refine ux_aload_n C 0 rfl rfl dX10_sort_0 ?_
  refine gf_10_9 C hk0 dX10_sort_1 ?_
  refine ux_iload_n C 1 rfl rfl dX10_sort_4 ?_
  refine cs_10_32 C  (c_Cells_at hN hk0.2.1 hw) (by decide) (by decide) (Nat.le_of_ble_eq_true rfl) dX10_sort_5 (po_ip.k fun r_1 hw => ?_)
  exact ux_iret C ⟨_, rfl, rfl, hw⟩ dX10_sort_8
set_option maxHeartbeats 2000000 in
set_option maxRecDepth 4000 in
theorem c_Words_number {l : Launch} {D : va_G} {G : Nat → Nat} {z N : Nat} (hN : 92 ≤ N) {a0 : ud_St} {k0 : Nat} {x1 : Int32} (hk0 : ud_isW N k0) {Qf : Int32 → Prop} (hw : w_Words_number a0 k0 x1 Qf) : ud_M l D G z N yX10_number cX10_number 2 (some Jvm.ClassFile.FieldType.int) 1 [.ref (z + k0), .int x1] a0 (po_ip a0 Qf) := by
  unfold w_Words_number at hw
  refine ud_M_of hN (by decide) (Nat.le_of_ble_eq_true rfl) ?_
  intro p e s m args below meth c C
  have C : ud_C D G z N p s m args meth c cX10_number 2 RX10 (some Jvm.ClassFile.FieldType.int) := C
  show ud_X D G z N p l e (ud_rm 1 0 0) s m args below meth c 2 0 0 (ud_Q D G z N (po_ip a0 Qf) below args s) a0 0 [(0, .ref (z + k0)), (1, .int x1)] []
  refine ux_aload_n C 0 rfl rfl dX10_number_0 ?_
  refine gf_10_15 C hk0 dX10_number_1 ?_
  refine ux_iload_n C 1 rfl rfl dX10_number_4 ?_
  refine cs_10_32 C  (c_Cells_at hN hk0.2.2 hw) (by decide) (by decide) (Nat.le_of_ble_eq_true rfl) dX10_number_5 (po_ip.k fun r_1 hw => ?_)
  exact ux_iret C ⟨_, rfl, rfl, hw⟩ dX10_number_8
set_option maxHeartbeats 2000000 in
set_option maxRecDepth 4000 in
theorem c_UpAndDown_size {l : Launch} {D : va_G} {G : Nat → Nat} {z N : Nat} (hN : 92 ≤ N) {a0 : ud_St}   {Qf : Int32 → Prop} (hw : w_UpAndDown_size a0  Qf) : ud_M l D G z N yX11_size cX11_size 1 (some Jvm.ClassFile.FieldType.int) 1 [.ref (z + 0)] a0 (po_ip a0 Qf) := by
  unfold w_UpAndDown_size at hw
  refine ud_M_of hN (by decide) (Nat.le_of_ble_eq_true rfl) ?_
  intro p e s m args below meth c C
  have C : ud_C D G z N p s m args meth c cX11_size 1 RX11 (some Jvm.ClassFile.FieldType.int) := C
  show ud_X D G z N p l e (ud_rm 1 0 0) s m args below meth c 1 0 0 (ud_Q D G z N (po_ip a0 Qf) below args s) a0 0 [(0, .ref (z + 0))] []
  refine ux_aload_n C 0 rfl rfl dX11_size_0 ?_
  refine cs_11_147 C  (c_UpAndDown_hasTable hN  hw) (by decide) (by decide) (Nat.le_of_ble_eq_true rfl) dX11_size_1 (po_ip.k fun r_1 hw => ?_)
  refine ux_if_eq C (tgt := 17) (by decide) dX11_size_4 (fun hc_3 => ?_) (fun hc_3 => ?_)
  · replace hw := hw.1 hc_3
    refine ux_bipush C (v := -2) (by decide) dX11_size_17 ?_
    exact ux_iret C ⟨_, rfl, rfl, hw⟩ dX11_size_19
  · replace hw := hw.2 hc_3
    refine ux_aload_n C 0 rfl rfl dX11_size_7 ?_
    refine gf_11_28 C dX11_size_8 ?_
    refine gf_11_151 C (uc_4 C.2.2.2.2.2) dX11_size_11 ?_
    refine ux_goto C (tgt := 19) (by decide) dX11_size_14 ?_
    exact ux_iret C ⟨_, rfl, rfl, hw⟩ dX11_size_19
set_option maxHeartbeats 2000000 in
set_option maxRecDepth 4000 in
theorem c_UpAndDown_count {l : Launch} {D : va_G} {G : Nat → Nat} {z N : Nat} (hN : 92 ≤ N) {a0 : ud_St} {x1 : Int32}  {Qf : Int32 → Prop} (hw : w_UpAndDown_count a0 x1 Qf) : ud_M l D G z N yX11_count cX11_count 2 (some Jvm.ClassFile.FieldType.int) 1 [.ref (z + 0), .int x1] a0 (po_ip a0 Qf) := by
  unfold w_UpAndDown_count at hw
  refine ud_M_of hN (by decide) (Nat.le_of_ble_eq_true rfl) ?_
  intro p e s m args below meth c C
  have C : ud_C D G z N p s m args meth c cX11_count 2 RX11 (some Jvm.ClassFile.FieldType.int) := C
  show ud_X D G z N p l e (ud_rm 1 0 0) s m args below meth c 2 0 0 (ud_Q D G z N (po_ip a0 Qf) below args s) a0 0 [(0, .ref (z + 0)), (1, .int x1)] []
  refine ux_iload_n C 1 rfl rfl dX11_count_0 ?_
  by_cases hx_1 : x1 = 0
  · replace hw := hw.1 hx_1
    refine ux_tableIn C (tgt := 48) (by rw [hx_1]; decide) (by rw [hx_1]; decide) (by rw [hx_1]; rfl) (by decide) dX11_count_1 ?_
    refine ux_aload_n C 0 rfl rfl dX11_count_48 ?_
    refine gf_11_28 C dX11_count_49 ?_
    refine gf_11_329 C (uc_4 C.2.2.2.2.2) dX11_count_52 ?_
    exact ux_iret C ⟨_, rfl, rfl, hw⟩ dX11_count_55
  · replace hw := hw.2 hx_1
    by_cases hx_2 : x1 = 1
    · replace hw := hw.1 hx_2
      refine ux_tableIn C (tgt := 56) (by rw [hx_2]; decide) (by rw [hx_2]; decide) (by rw [hx_2]; rfl) (by decide) dX11_count_1 ?_
      refine ux_aload_n C 0 rfl rfl dX11_count_56 ?_
      refine gf_11_28 C dX11_count_57 ?_
      refine gf_11_157 C (uc_4 C.2.2.2.2.2) dX11_count_60 ?_
      exact ux_iret C ⟨_, rfl, rfl, hw⟩ dX11_count_63
    · replace hw := hw.2 hx_2
      by_cases hx_3 : x1 = 2
      · replace hw := hw.1 hx_3
        refine ux_tableIn C (tgt := 64) (by rw [hx_3]; decide) (by rw [hx_3]; decide) (by rw [hx_3]; rfl) (by decide) dX11_count_1 ?_
        refine ux_aload_n C 0 rfl rfl dX11_count_64 ?_
        refine gf_11_28 C dX11_count_65 ?_
        refine gf_11_123 C (uc_4 C.2.2.2.2.2) dX11_count_68 ?_
        refine gf_11_164 C (uc_5 C.2.2.2.2.2) dX11_count_71 ?_
        exact ux_iret C ⟨_, rfl, rfl, hw⟩ dX11_count_74
      · replace hw := hw.2 hx_3
        by_cases hx_4 : x1 = 3
        · replace hw := hw.1 hx_4
          refine ux_tableIn C (tgt := 75) (by rw [hx_4]; decide) (by rw [hx_4]; decide) (by rw [hx_4]; rfl) (by decide) dX11_count_1 ?_
          refine ux_aload_n C 0 rfl rfl dX11_count_75 ?_
          refine gf_11_28 C dX11_count_76 ?_
          refine gf_11_283 C (uc_4 C.2.2.2.2.2) dX11_count_79 ?_
          refine gf_11_164 C (uc_8 C.2.2.2.2.2) dX11_count_82 ?_
          exact ux_iret C ⟨_, rfl, rfl, hw⟩ dX11_count_85
        · replace hw := hw.2 hx_4
          by_cases hx_5 : x1 = 4
          · replace hw := hw.1 hx_5
            refine ux_tableIn C (tgt := 86) (by rw [hx_5]; decide) (by rw [hx_5]; decide) (by rw [hx_5]; rfl) (by decide) dX11_count_1 ?_
            refine ux_aload_n C 0 rfl rfl dX11_count_86 ?_
            refine gf_11_28 C dX11_count_87 ?_
            refine gf_11_332 C (uc_4 C.2.2.2.2.2) dX11_count_90 ?_
            exact ux_iret C ⟨_, rfl, rfl, hw⟩ dX11_count_93
          · replace hw := hw.2 hx_5
            by_cases hx_6 : x1 = 5
            · replace hw := hw.1 hx_6
              refine ux_tableIn C (tgt := 94) (by rw [hx_6]; decide) (by rw [hx_6]; decide) (by rw [hx_6]; rfl) (by decide) dX11_count_1 ?_
              refine ux_aload_n C 0 rfl rfl dX11_count_94 ?_
              refine gf_11_28 C dX11_count_95 ?_
              refine gf_11_111 C (uc_4 C.2.2.2.2.2) dX11_count_98 ?_
              exact ux_iret C ⟨_, rfl, rfl, hw⟩ dX11_count_101
            · replace hw := hw.2 hx_6
              by_cases hx_7 : x1 = 6
              · replace hw := hw.1 hx_7
                refine ux_tableIn C (tgt := 102) (by rw [hx_7]; decide) (by rw [hx_7]; decide) (by rw [hx_7]; rfl) (by decide) dX11_count_1 ?_
                refine ux_aload_n C 0 rfl rfl dX11_count_102 ?_
                refine gf_11_10 C dX11_count_103 ?_
                refine gf_11_96 C dX11_count_106 ?_
                exact ux_iret C ⟨_, rfl, rfl, hw⟩ dX11_count_109
              · replace hw := hw.2 hx_7
                by_cases hx_10 : x1 = 7
                · replace hw := hw.1 hx_10
                  refine ux_tableIn C (tgt := 110) (by rw [hx_10]; decide) (by rw [hx_10]; decide) (by rw [hx_10]; rfl) (by decide) dX11_count_1 ?_
                  refine ux_aload_n C 0 rfl rfl dX11_count_110 ?_
                  refine cs_11_335 C  (c_UpAndDown_countSlots hN  hw) (by decide) (by decide) (Nat.le_of_ble_eq_true rfl) dX11_count_111 (po_ip.k fun r_8 hw => ?_)
                  exact ux_iret C ⟨_, rfl, rfl, hw⟩ dX11_count_114
                · replace hw := hw.2 hx_10
                  have hx_1i : Int32.toInt x1 ≠ 0 := fun q => hx_1 (Int32.toInt_inj.mp (q.trans (by decide)))
                  have hx_2i : Int32.toInt x1 ≠ 1 := fun q => hx_2 (Int32.toInt_inj.mp (q.trans (by decide)))
                  have hx_3i : Int32.toInt x1 ≠ 2 := fun q => hx_3 (Int32.toInt_inj.mp (q.trans (by decide)))
                  have hx_4i : Int32.toInt x1 ≠ 3 := fun q => hx_4 (Int32.toInt_inj.mp (q.trans (by decide)))
                  have hx_5i : Int32.toInt x1 ≠ 4 := fun q => hx_5 (Int32.toInt_inj.mp (q.trans (by decide)))
                  have hx_6i : Int32.toInt x1 ≠ 5 := fun q => hx_6 (Int32.toInt_inj.mp (q.trans (by decide)))
                  have hx_7i : Int32.toInt x1 ≠ 6 := fun q => hx_7 (Int32.toInt_inj.mp (q.trans (by decide)))
                  have hx_10i : Int32.toInt x1 ≠ 7 := fun q => hx_10 (Int32.toInt_inj.mp (q.trans (by decide)))
                  refine ux_tableOut C (tgt := 115) (by omega) (by decide) dX11_count_1 ?_
                  refine ux_iconst C (v := -1) (by decide) dX11_count_115 ?_
                  exact ux_iret C ⟨_, rfl, rfl, hw⟩ dX11_count_116
set_option maxHeartbeats 2000000 in
set_option maxRecDepth 4000 in
theorem c_UpAndDown_told {l : Launch} {D : va_G} {G : Nat → Nat} {z N : Nat} (hN : 92 ≤ N) {a0 : ud_St} {x1 : Int32}  {Qf : Int32 → Prop} (hw : w_UpAndDown_told a0 x1 Qf) : ud_M l D G z N yX11_told cX11_told 2 (some Jvm.ClassFile.FieldType.int) 1 [.ref (z + 0), .int x1] a0 (po_ip a0 Qf) := by
  unfold w_UpAndDown_told at hw
  refine ud_M_of hN (by decide) (Nat.le_of_ble_eq_true rfl) ?_
  intro p e s m args below meth c C
  have C : ud_C D G z N p s m args meth c cX11_told 2 RX11 (some Jvm.ClassFile.FieldType.int) := C
  show ud_X D G z N p l e (ud_rm 1 0 0) s m args below meth c 2 0 0 (ud_Q D G z N (po_ip a0 Qf) below args s) a0 0 [(0, .ref (z + 0)), (1, .int x1)] []
  refine ux_iload_n C 1 rfl rfl dX11_told_0 ?_
  refine ux_if_lt C (tgt := 29) (by decide) dX11_told_1 (fun hc_4 => ?_) (fun hc_4 => ?_)
  · replace hw := hw.1 hc_4
    refine ux_iconst C (v := -1) (by decide) dX11_told_29 ?_
    exact ux_iret C ⟨_, rfl, rfl, hw⟩ dX11_told_30
  · replace hw := hw.2 hc_4
    refine ux_iload_n C 1 rfl rfl dX11_told_4 ?_
    refine ux_aload_n C 0 rfl rfl dX11_told_5 ?_
    refine gf_11_28 C dX11_told_6 ?_
    refine gf_11_332 C (uc_4 C.2.2.2.2.2) dX11_told_9 ?_
    refine ux_icmp_ge C (tgt := 29) (by decide) dX11_told_12 (fun hc_3 => ?_) (fun hc_3 => ?_)
    · replace hw := hw.1 hc_3
      refine ux_iconst C (v := -1) (by decide) dX11_told_29 ?_
      exact ux_iret C ⟨_, rfl, rfl, hw⟩ dX11_told_30
    · replace hw := hw.2 hc_3
      refine ux_aload_n C 0 rfl rfl dX11_told_15 ?_
      refine gf_11_28 C dX11_told_16 ?_
      refine gf_11_338 C (uc_4 C.2.2.2.2.2) dX11_told_19 ?_
      refine ux_iload_n C 1 rfl rfl dX11_told_22 ?_
      refine cs_11_342 C  (c_Cells_at hN (uc_14 C.2.2.2.2.2) hw) (by decide) (by decide) (Nat.le_of_ble_eq_true rfl) dX11_told_23 (po_ip.k fun r_1 hw => ?_)
      refine ux_goto C (tgt := 30) (by decide) dX11_told_26 ?_
      exact ux_iret C ⟨_, rfl, rfl, hw⟩ dX11_told_30
set_option maxHeartbeats 2000000 in
set_option maxRecDepth 4000 in
theorem c_UpAndDown_row {l : Launch} {D : va_G} {G : Nat → Nat} {z N : Nat} (hN : 92 ≤ N) {a0 : ud_St} {x1 : Int32} {x2 : Int32} {x3 : Int32}  {Qf : Int32 → ud_St → Prop} (hw : w_UpAndDown_row a0 x1 x2 x3 Qf) : ud_M l D G z N yX11_row cX11_row 5 (some Jvm.ClassFile.FieldType.int) 1 [.ref (z + 0), .int x1, .int x2, .int x3] a0 (po_i Qf) := by
  unfold w_UpAndDown_row at hw
  refine ud_M_of hN (by decide) (Nat.le_of_ble_eq_true rfl) ?_
  intro p e s m args below meth c C
  have C : ud_C D G z N p s m args meth c cX11_row 5 RX11 (some Jvm.ClassFile.FieldType.int) := C
  show ud_X D G z N p l e (ud_rm 1 0 0) s m args below meth c 5 0 0 (ud_Q D G z N (po_i Qf) below args s) a0 0 [(0, .ref (z + 0)), (1, .int x1), (2, .int x2), (3, .int x3)] []
  refine ux_aload_n C 0 rfl rfl dX11_row_0 ?_
  refine ux_iload_n C 1 rfl rfl dX11_row_1 ?_
  refine cs_11_318 C  (c_UpAndDown_slotAt hN  hw) (by decide) (by decide) (Nat.le_of_ble_eq_true rfl) dX11_row_2 (po_o.k fun r_1 hw => ?_)
  refine ux_astoreO C (by decide) rfl dX11_row_5 ?_
  refine ux_aloadO C 0 rfl dX11_row_7 ?_
  refine ux_ifnullO C (tgt := 27) (by decide) dX11_row_9 (fun hq_4 => ?_) (fun q_3 hq_4 => ?_)
  · replace hw := hw.1 hq_4
    refine ux_bipush C (v := -2) (by decide) dX11_row_27 ?_
    exact ux_iret C ⟨_, rfl, hw⟩ dX11_row_29
  · obtain ⟨hs_5, hw⟩ := hw.2 q_3 hq_4
    try rw [hq_4]
    show ud_X D G z N p l e (ud_rm 1 0 0) s m args below meth c 5 0 0 (ud_Q D G z N (po_i Qf) below args s) a0 12 [(4, .ref (z + q_3)), (0, .ref (z + 0)), (1, .int x1), (2, .int x2), (3, .int x3)] []
    refine ux_iload_n C 3 rfl rfl dX11_row_12 ?_
    refine ux_if_lt C (tgt := 27) (by decide) dX11_row_13 (fun hc_11 => ?_) (fun hc_11 => ?_)
    · replace hw := hw.1 hc_11
      refine ux_bipush C (v := -2) (by decide) dX11_row_27 ?_
      exact ux_iret C ⟨_, rfl, hw⟩ dX11_row_29
    · replace hw := hw.2 hc_11
      refine ux_iload_n C 3 rfl rfl dX11_row_16 ?_
      refine ux_iconst C (v := 3) (by decide) dX11_row_17 ?_
      refine ux_icmp_gt C (tgt := 27) (by decide) dX11_row_18 (fun hc_10 => ?_) (fun hc_10 => ?_)
      · replace hw := hw.1 hc_10
        refine ux_bipush C (v := -2) (by decide) dX11_row_27 ?_
        exact ux_iret C ⟨_, rfl, hw⟩ dX11_row_29
      · replace hw := hw.2 hc_10
        refine ux_iload_n C 4 rfl rfl dX11_row_21 ?_
        refine ux_bipush C (v := 60) (by decide) dX11_row_22 ?_
        refine ux_icmp_le C (tgt := 30) (by decide) dX11_row_24 (fun hc_9 => ?_) (fun hc_9 => ?_)
        · replace hw := hw.1 hc_9
          refine ux_iload_n C 4 rfl rfl dX11_row_30 ?_
          refine ux_if_ge C (tgt := 37) (by decide) dX11_row_31 (fun hc_8 => ?_) (fun hc_8 => ?_)
          · replace hw := hw.1 hc_8
            refine ux_aload C 0 rfl dX11_row_37 ?_
            refine ux_iload_n C 3 rfl rfl dX11_row_39 ?_
            refine ux_iload_n C 4 rfl rfl dX11_row_40 ?_
            refine cs_11_351 C (ud_slot_of C.2.2.2.2.2 hs_5) (c_Slot_begin hN (ud_slot_of C.2.2.2.2.2 hs_5) hw) (by decide) (by decide) (Nat.le_of_ble_eq_true rfl) dX11_row_41 (po_v.k fun a_7 hw => ?_)
            refine ux_iconst C (v := 0) (by decide) dX11_row_44 ?_
            exact ux_iret C ⟨_, rfl, hw⟩ dX11_row_45
          · replace hw := hw.2 hc_8
            refine ux_bipush C (v := -3) (by decide) dX11_row_34 ?_
            exact ux_iret C ⟨_, rfl, hw⟩ dX11_row_36
        · replace hw := hw.2 hc_9
          refine ux_bipush C (v := -2) (by decide) dX11_row_27 ?_
          exact ux_iret C ⟨_, rfl, hw⟩ dX11_row_29
set_option maxHeartbeats 2000000 in
set_option maxRecDepth 4000 in
theorem c_UpAndDown_paste {l : Launch} {D : va_G} {G : Nat → Nat} {z N : Nat} (hN : 92 ≤ N) {a0 : ud_St} {x1 : Int32} {x2 : Int32} {x3 : Int32} {x4 : Int32} {x5 : Int32}  {Qf : Int32 → ud_St → Prop} (hw : w_UpAndDown_paste a0 x1 x2 x3 x4 x5 Qf) : ud_M l D G z N yX11_paste cX11_paste 8 (some Jvm.ClassFile.FieldType.int) 1 [.ref (z + 0), .int x1, .int x2, .int x3, .int x4, .int x5] a0 (po_i Qf) := by
  unfold w_UpAndDown_paste at hw
  refine ud_M_of hN (by decide) (Nat.le_of_ble_eq_true rfl) ?_
  intro p e s m args below meth c C
  have C : ud_C D G z N p s m args meth c cX11_paste 8 RX11 (some Jvm.ClassFile.FieldType.int) := C
  show ud_X D G z N p l e (ud_rm 1 0 0) s m args below meth c 8 0 0 (ud_Q D G z N (po_i Qf) below args s) a0 0 [(0, .ref (z + 0)), (1, .int x1), (2, .int x2), (3, .int x3), (4, .int x4), (5, .int x5)] []
  refine ux_aload_n C 0 rfl rfl dX11_paste_0 ?_
  refine ux_iload_n C 1 rfl rfl dX11_paste_1 ?_
  refine cs_11_318 C  (c_UpAndDown_slotAt hN  hw) (by decide) (by decide) (Nat.le_of_ble_eq_true rfl) dX11_paste_2 (po_o.k fun r_1 hw => ?_)
  refine ux_astoreO C (by decide) rfl dX11_paste_5 ?_
  refine ux_aload_n C 1 rfl rfl dX11_paste_7 ?_
  refine ux_iload_n C 4 rfl rfl dX11_paste_8 ?_
  refine cs_11_318 C  (c_UpAndDown_slotAt hN  hw) (by decide) (by decide) (Nat.le_of_ble_eq_true rfl) dX11_paste_9 (po_o.k fun r_3 hw => ?_)
  refine ux_astoreO C (by decide) (lv' := [(7, va_rf (Option.map (fun q => z + q) r_3)), (6, va_rf (Option.map (fun q => z + q) r_1)), (0, .ref (z + 0)), (1, .int x1), (2, .int x2), (3, .int x3), (4, .int x4), (5, .int x5)]) (by simp [ud_catO, ud_catI, ud_catR]) dX11_paste_12 ?_
  refine ux_aloadO C 1 rfl dX11_paste_14 ?_
  refine ux_ifnullO C (tgt := 24) (by decide) dX11_paste_16 (fun hq_6 => ?_) (fun q_5 hq_6 => ?_)
  · replace hw := hw.1 hq_6
    refine ux_bipush C (v := -2) (by decide) dX11_paste_24 ?_
    exact ux_iret C ⟨_, rfl, hw⟩ dX11_paste_26
  · obtain ⟨hs_7, hw⟩ := hw.2 q_5 hq_6
    try rw [hq_6]
    show ud_X D G z N p l e (ud_rm 1 0 0) s m args below meth c 8 0 0 (ud_Q D G z N (po_i Qf) below args s) a0 19 [(7, va_rf (Option.map (fun q => z + q) r_3)), (6, .ref (z + q_5)), (0, .ref (z + 0)), (1, .int x1), (2, .int x2), (3, .int x3), (4, .int x4), (5, .int x5)] []
    refine ux_aloadO C 0 rfl dX11_paste_19 ?_
    refine ux_ifnonnullO C (tgt := 27) (by decide) dX11_paste_21 (fun hq_9 => ?_) (fun q_8 hq_9 => ?_)
    · replace hw := hw.1 hq_9
      refine ux_bipush C (v := -2) (by decide) dX11_paste_24 ?_
      exact ux_iret C ⟨_, rfl, hw⟩ dX11_paste_26
    · obtain ⟨hs_10, hw⟩ := hw.2 q_8 hq_9
      try rw [hq_9]
      show ud_X D G z N p l e (ud_rm 1 0 0) s m args below meth c 8 0 0 (ud_Q D G z N (po_i Qf) below args s) a0 27 [(7, .ref (z + q_8)), (6, .ref (z + q_5)), (0, .ref (z + 0)), (1, .int x1), (2, .int x2), (3, .int x3), (4, .int x4), (5, .int x5)] []
      refine ux_aload C 1 rfl dX11_paste_27 ?_
      refine gf_11_322 C (ud_slot_of C.2.2.2.2.2 hs_7) dX11_paste_29 ?_
      refine ux_if_eq C (tgt := 43) (by decide) dX11_paste_32 (fun hc_20 => ?_) (fun hc_20 => ?_)
      · replace hw := hw.1 hc_20
        refine ux_bipush C (v := -6) (by decide) dX11_paste_43 ?_
        exact ux_iret C ⟨_, rfl, hw⟩ dX11_paste_45
      · replace hw := hw.2 hc_20
        refine ux_aload C 0 rfl dX11_paste_35 ?_
        refine gf_11_322 C (ud_slot_of C.2.2.2.2.2 hs_10) dX11_paste_37 ?_
        refine ux_if_ne C (tgt := 46) (by decide) dX11_paste_40 (fun hc_19 => ?_) (fun hc_19 => ?_)
        · replace hw := hw.2 hc_19
          refine ux_aload C 1 rfl dX11_paste_46 ?_
          refine gf_11_358 C (ud_slot_of C.2.2.2.2.2 hs_7) dX11_paste_48 ?_
          refine ux_aload C 0 rfl dX11_paste_51 ?_
          refine gf_11_358 C (ud_slot_of C.2.2.2.2.2 hs_10) dX11_paste_53 ?_
          refine ux_icmp_eq C (tgt := 62) (by decide) dX11_paste_56 (fun hc_18 => ?_) (fun hc_18 => ?_)
          · replace hw := hw.1 hc_18
            refine ux_aload C 1 rfl dX11_paste_62 ?_
            refine ux_iload_n C 4 rfl rfl dX11_paste_64 ?_
            refine ux_iload C 7 rfl dX11_paste_65 ?_
            refine cs_11_361 C (ud_slot_of C.2.2.2.2.2 hs_7) (c_Slot_spans hN (ud_slot_of C.2.2.2.2.2 hs_7) hw) (by decide) (by decide) (Nat.le_of_ble_eq_true rfl) dX11_paste_67 (po_ip.k fun r_11 hw => ?_)
            refine ux_if_eq C (tgt := 85) (by decide) dX11_paste_70 (fun hc_17 => ?_) (fun hc_17 => ?_)
            · replace hw := hw.1 hc_17
              refine ux_bipush C (v := -7) (by decide) dX11_paste_85 ?_
              exact ux_iret C ⟨_, rfl, hw⟩ dX11_paste_87
            · replace hw := hw.2 hc_17
              refine ux_aload C 0 rfl dX11_paste_73 ?_
              refine ux_iload C 6 rfl dX11_paste_75 ?_
              refine ux_iload C 7 rfl dX11_paste_77 ?_
              refine cs_11_361 C (ud_slot_of C.2.2.2.2.2 hs_10) (c_Slot_spans hN (ud_slot_of C.2.2.2.2.2 hs_10) hw) (by decide) (by decide) (Nat.le_of_ble_eq_true rfl) dX11_paste_79 (po_ip.k fun r_13 hw => ?_)
              refine ux_if_ne C (tgt := 88) (by decide) dX11_paste_82 (fun hc_16 => ?_) (fun hc_16 => ?_)
              · replace hw := hw.2 hc_16
                refine ux_aload C 1 rfl dX11_paste_88 ?_
                refine gf_11_364 C (ud_slot_of C.2.2.2.2.2 hs_7) dX11_paste_90 ?_
                refine ux_iload_n C 4 rfl rfl dX11_paste_93 ?_
                refine ux_aload C 0 rfl dX11_paste_94 ?_
                refine gf_11_364 C (ud_slot_of C.2.2.2.2.2 hs_10) dX11_paste_96 ?_
                refine ux_iload C 6 rfl dX11_paste_99 ?_
                refine ux_iload C 7 rfl dX11_paste_101 ?_
                obtain ⟨hx_15, hw⟩ := hw
                refine ux_copyl C mw_1292 (ud_slot_of C.2.2.2.2.2 hs_7).2 (ud_slot_of C.2.2.2.2.2 hs_10).2 hx_15 (by decide) (Nat.le_of_ble_eq_true rfl) dX11_paste_103 mw_nat mw_1293 mw_131 ?_
                refine ux_iconst C (v := 0) (by decide) dX11_paste_106 ?_
                exact ux_iret C ⟨_, rfl, hw⟩ dX11_paste_107
              · replace hw := hw.1 hc_16
                refine ux_bipush C (v := -7) (by decide) dX11_paste_85 ?_
                exact ux_iret C ⟨_, rfl, hw⟩ dX11_paste_87
          · replace hw := hw.2 hc_18
            refine ux_bipush C (v := -8) (by decide) dX11_paste_59 ?_
            exact ux_iret C ⟨_, rfl, hw⟩ dX11_paste_61
        · replace hw := hw.1 hc_19
          refine ux_bipush C (v := -6) (by decide) dX11_paste_43 ?_
          exact ux_iret C ⟨_, rfl, hw⟩ dX11_paste_45
set_option maxHeartbeats 2000000 in
set_option maxRecDepth 4000 in
theorem c_UpAndDown_isCrowd {l : Launch} {D : va_G} {G : Nat → Nat} {z N : Nat} (hN : 92 ≤ N) {a0 : ud_St} {x1 : Int32}  {Qf : Int32 → Prop} (hw : w_UpAndDown_isCrowd a0 x1 Qf) : ud_M l D G z N yX11_isCrowd cX11_isCrowd 2 (some Jvm.ClassFile.FieldType.boolean) 1 [.ref (z + 0), .int x1] a0 (po_ip a0 Qf) := by
  unfold w_UpAndDown_isCrowd at hw
  refine ud_M_of hN (by decide) (Nat.le_of_ble_eq_true rfl) ?_
  intro p e s m args below meth c C
  have C : ud_C D G z N p s m args meth c cX11_isCrowd 2 RX11 (some Jvm.ClassFile.FieldType.boolean) := C
  show ud_X D G z N p l e (ud_rm 1 0 0) s m args below meth c 2 0 0 (ud_Q D G z N (po_ip a0 Qf) below args s) a0 0 [(0, .ref (z + 0)), (1, .int x1)] []
  refine ux_aload_n C 0 rfl rfl dX11_isCrowd_0 ?_
  refine cs_11_147 C  (c_UpAndDown_hasTable hN  hw) (by decide) (by decide) (Nat.le_of_ble_eq_true rfl) dX11_isCrowd_1 (po_ip.k fun r_1 hw => ?_)
  refine ux_if_eq C (tgt := 20) (by decide) dX11_isCrowd_4 (fun hc_5 => ?_) (fun hc_5 => ?_)
  · replace hw := hw.1 hc_5
    refine ux_iconst C (v := 0) (by decide) dX11_isCrowd_20 ?_
    exact ux_zret C rfl ⟨_, rfl, rfl, hw⟩ dX11_isCrowd_21
  · replace hw := hw.2 hc_5
    refine ux_iload_n C 1 rfl rfl dX11_isCrowd_7 ?_
    refine ux_if_lt C (tgt := 20) (by decide) dX11_isCrowd_8 (fun hc_4 => ?_) (fun hc_4 => ?_)
    · replace hw := hw.1 hc_4
      refine ux_iconst C (v := 0) (by decide) dX11_isCrowd_20 ?_
      exact ux_zret C rfl ⟨_, rfl, rfl, hw⟩ dX11_isCrowd_21
    · replace hw := hw.2 hc_4
      refine ux_iload_n C 1 rfl rfl dX11_isCrowd_11 ?_
      refine ux_iconst C (v := 3) (by decide) dX11_isCrowd_12 ?_
      refine ux_icmp_gt C (tgt := 20) (by decide) dX11_isCrowd_13 (fun hc_3 => ?_) (fun hc_3 => ?_)
      · replace hw := hw.1 hc_3
        refine ux_iconst C (v := 0) (by decide) dX11_isCrowd_20 ?_
        exact ux_zret C rfl ⟨_, rfl, rfl, hw⟩ dX11_isCrowd_21
      · replace hw := hw.2 hc_3
        refine ux_iconst C (v := 1) (by decide) dX11_isCrowd_16 ?_
        refine ux_goto C (tgt := 21) (by decide) dX11_isCrowd_17 ?_
        exact ux_zret C rfl ⟨_, rfl, rfl, hw⟩ dX11_isCrowd_21
set_option maxHeartbeats 2000000 in
set_option maxRecDepth 4000 in
theorem c_Model_isSlot {l : Launch} {D : va_G} {G : Nat → Nat} {z N : Nat} (hN : 92 ≤ N) {a0 : ud_St} {x0 : Int32}  {Qf : Int32 → Prop} (hw : w_Model_isSlot a0 x0 Qf) : ud_M l D G z N yX12_isSlot cX12_isSlot 1 (some Jvm.ClassFile.FieldType.boolean) 1 [.int x0] a0 (po_ip a0 Qf) := by
  unfold w_Model_isSlot at hw
  refine ud_M_of hN (by decide) (Nat.le_of_ble_eq_true rfl) ?_
  intro p e s m args below meth c C
  have C : ud_C D G z N p s m args meth c cX12_isSlot 1 RX12 (some Jvm.ClassFile.FieldType.boolean) := C
  show ud_X D G z N p l e (ud_rm 1 0 0) s m args below meth c 1 0 0 (ud_Q D G z N (po_ip a0 Qf) below args s) a0 0 [(0, .int x0)] []
  refine ux_iload_n C 0 rfl rfl dX12_isSlot_0 ?_
  refine ux_i2l C dX12_isSlot_1 ?_
  refine ux_lconst C (v := 0) (by decide) dX12_isSlot_2 ?_
  refine ux_ldc2 C (v := 3) mw_1415 dX12_isSlot_3 ?_
  refine cs_12_82 C  (c_Model_in hN  hw) (by decide) (by decide) (Nat.le_of_ble_eq_true rfl) dX12_isSlot_6 (po_ip.k fun r_1 hw => ?_)
  obtain ⟨hn_3, hw⟩ := hw
  exact ux_zret C (ud_narZ hn_3) ⟨_, rfl, rfl, hw⟩ dX12_isSlot_9
set_option maxHeartbeats 2000000 in
set_option maxRecDepth 4000 in
theorem c_Model_feed {l : Launch} {D : va_G} {G : Nat → Nat} {z N : Nat} (hN : 92 ≤ N) {a0 : ud_St} {x1 : Int32} {x2 : Int32} {x3 : Int32} {x4 : Int32} {x5 : Int32}  {Qf : Int32 → ud_St → Prop} (hw : w_Model_feed a0 x1 x2 x3 x4 x5 Qf) : ud_M l D G z N yX12_feed cX12_feed 6 (some Jvm.ClassFile.FieldType.int) 1 [.ref (z + 71), .int x1, .int x2, .int x3, .int x4, .int x5] a0 (po_i Qf) := by
  unfold w_Model_feed at hw
  refine ud_M_of hN (by decide) (Nat.le_of_ble_eq_true rfl) ?_
  intro p e s m args below meth c C
  have C : ud_C D G z N p s m args meth c cX12_feed 6 RX12 (some Jvm.ClassFile.FieldType.int) := C
  show ud_X D G z N p l e (ud_rm 1 0 0) s m args below meth c 6 0 0 (ud_Q D G z N (po_i Qf) below args s) a0 0 [(0, .ref (z + 71)), (1, .int x1), (2, .int x2), (3, .int x3), (4, .int x4), (5, .int x5)] []
  refine ux_aload_n C 0 rfl rfl dX12_feed_0 ?_
  refine ux_iconst C (v := 0) (by decide) dX12_feed_1 ?_
  refine pf_12_77 C dX12_feed_2 ?_
  refine ux_aload_n C 0 rfl rfl dX12_feed_5 ?_
  refine gf_12_94 C dX12_feed_6 ?_
  refine ux_bipush C (v := 20) (by decide) dX12_feed_9 ?_
  refine ux_iadd C dX12_feed_11 ?_
  refine ux_sipush C (v := 800) (by decide) dX12_feed_12 ?_
  refine ux_icmp_le C (tgt := 20) (by decide) dX12_feed_15 (fun hc_11 => ?_) (fun hc_11 => ?_)
  · replace hw := hw.1 hc_11
    refine ux_aload_n C 0 rfl rfl dX12_feed_20 ?_
    refine ux_iload_n C 1 rfl rfl dX12_feed_21 ?_
    refine cs_12_97 C  (c_Model_four hN  hw) (by decide) (by decide) (Nat.le_of_ble_eq_true rfl) dX12_feed_22 (po_v.k fun a_2 hw => ?_)
    refine ux_aload_n C 0 rfl rfl dX12_feed_25 ?_
    refine ux_iload_n C 2 rfl rfl dX12_feed_26 ?_
    refine cs_12_97 C  (c_Model_four hN  hw) (by decide) (by decide) (Nat.le_of_ble_eq_true rfl) dX12_feed_27 (po_v.k fun a_4 hw => ?_)
    refine ux_aload_n C 0 rfl rfl dX12_feed_30 ?_
    refine ux_iload_n C 3 rfl rfl dX12_feed_31 ?_
    refine cs_12_97 C  (c_Model_four hN  hw) (by decide) (by decide) (Nat.le_of_ble_eq_true rfl) dX12_feed_32 (po_v.k fun a_6 hw => ?_)
    refine ux_aload_n C 0 rfl rfl dX12_feed_35 ?_
    refine ux_iload C 4 rfl dX12_feed_36 ?_
    refine cs_12_97 C  (c_Model_four hN  hw) (by decide) (by decide) (Nat.le_of_ble_eq_true rfl) dX12_feed_38 (po_v.k fun a_8 hw => ?_)
    refine ux_aload_n C 0 rfl rfl dX12_feed_41 ?_
    refine ux_iload C 5 rfl dX12_feed_42 ?_
    refine cs_12_97 C  (c_Model_four hN  hw) (by decide) (by decide) (Nat.le_of_ble_eq_true rfl) dX12_feed_44 (po_v.k fun a_10 hw => ?_)
    refine ux_aload_n C 0 rfl rfl dX12_feed_47 ?_
    refine gf_12_94 C dX12_feed_48 ?_
    exact ux_iret C ⟨_, rfl, hw⟩ dX12_feed_51
  · replace hw := hw.2 hc_11
    refine ux_iconst C (v := -1) (by decide) dX12_feed_18 ?_
    exact ux_iret C ⟨_, rfl, hw⟩ dX12_feed_19
set_option maxHeartbeats 2000000 in
set_option maxRecDepth 4000 in
theorem c_Model_end {l : Launch} {D : va_G} {G : Nat → Nat} {z N : Nat} (hN : 92 ≤ N) {a0 : ud_St} {x1 : Int32}  {Qf : Int32 → ud_St → Prop} (hw : w_Model_end a0 x1 Qf) : ud_M l D G z N yX12_end cX12_end 2 (some Jvm.ClassFile.FieldType.int) 1 [.ref (z + 71), .int x1] a0 (po_i Qf) := by
  unfold w_Model_end at hw
  refine ud_M_of hN (by decide) (Nat.le_of_ble_eq_true rfl) ?_
  intro p e s m args below meth c C
  have C : ud_C D G z N p s m args meth c cX12_end 2 RX12 (some Jvm.ClassFile.FieldType.int) := C
  show ud_X D G z N p l e (ud_rm 1 0 0) s m args below meth c 2 0 0 (ud_Q D G z N (po_i Qf) below args s) a0 0 [(0, .ref (z + 71)), (1, .int x1)] []
  refine ux_aload_n C 0 rfl rfl dX12_end_0 ?_
  refine ux_iconst C (v := 0) (by decide) dX12_end_1 ?_
  refine pf_12_77 C dX12_end_2 ?_
  refine ux_iload_n C 1 rfl rfl dX12_end_5 ?_
  refine ux_i2l C dX12_end_6 ?_
  refine ux_lconst C (v := 0) (by decide) dX12_end_7 ?_
  refine ux_aload_n C 0 rfl rfl dX12_end_8 ?_
  refine gf_12_94 C dX12_end_9 ?_
  refine ux_i2l C dX12_end_12 ?_
  refine cs_12_82 C  (c_Model_in hN  hw) (by decide) (by decide) (Nat.le_of_ble_eq_true rfl) dX12_end_13 (po_ip.k fun r_1 hw => ?_)
  refine ux_if_ne C (tgt := 21) (by decide) dX12_end_16 (fun hc_3 => ?_) (fun hc_3 => ?_)
  · replace hw := hw.2 hc_3
    refine ux_aload_n C 0 rfl rfl dX12_end_21 ?_
    refine ux_iload_n C 1 rfl rfl dX12_end_22 ?_
    refine pf_12_94 C dX12_end_23 ?_
    refine ux_iload_n C 1 rfl rfl dX12_end_26 ?_
    exact ux_iret C ⟨_, rfl, hw⟩ dX12_end_27
  · replace hw := hw.1 hc_3
    refine ux_iconst C (v := -1) (by decide) dX12_end_19 ?_
    exact ux_iret C ⟨_, rfl, hw⟩ dX12_end_20
set_option maxHeartbeats 2000000 in
set_option maxRecDepth 4000 in
theorem c_Model_next_j208 {D : va_G} {G : Nat → Nat} {z N : Nat} {p : Program} {l : Launch} {e : Env} {s : State} {m : MethodId} {args : Array Value} {below : List Frame} {meth : Method} {c : Code} (hN : 92 ≤ N) {a0 : ud_St} {b_208 : ud_St}  {Qf : ud_St → Prop} (C : ud_C D G z N p s m args meth c cX12_next 2 RX12 (none : Option Jvm.ClassFile.FieldType))  (hw : w_Model_next_j208 a0 b_208 Qf) : ud_X D G z N p l e (ud_rm 1 0 0) s m args below meth c 2 0 0 (ud_Q D G z N (po_v Qf) below args s) b_208 208 [(0, .ref (z + 71))] [] := by
  unfold w_Model_next_j208 at hw
  refine ux_pick [0] rfl ?_
  refine LW1.elim (P := fun (a_16 : ud_St) => ud_X D G z N p l e (ud_rm 1 0 0) s m args below meth c 2 0 0 (ud_Q D G z N (po_v Qf) below args s) a_16 208 [(0, .ref (z + 71))] []) hw ?_
  intro a_16 K_14 hw ih_15
  refine ux_aload_n C 0 rfl rfl dX12_next_208 ?_
  refine ux_aload_n C 0 rfl rfl dX12_next_209 ?_
  refine gf_12_101 C dX12_next_210 ?_
  refine ux_bipush C (v := 48) (by decide) dX12_next_213 ?_
  refine ux_bipush C (v := 57) (by decide) dX12_next_215 ?_
  refine cs_12_104 C  (c_Model_isByte hN  hw) (by decide) (by decide) (Nat.le_of_ble_eq_true rfl) dX12_next_217 (po_ip.k fun r_17 hw => ?_)
  refine ux_if_eq C (tgt := 307) (by decide) dX12_next_220 (fun hc_21 => ?_) (fun hc_21 => ?_)
  · replace hw := hw.1 hc_21
    exact ux_vret C ⟨rfl, hw⟩ dX12_next_307
  · replace hw := hw.2 hc_21
    refine ux_aload_n C 0 rfl rfl dX12_next_223 ?_
    refine ux_aload_n C 0 rfl rfl dX12_next_224 ?_
    refine gf_12_111 C dX12_next_225 ?_
    refine ux_ldc C (v := 100000) mw_1469 dX12_next_228 ?_
    refine ux_icmp_le C (tgt := 238) (by decide) dX12_next_230 (fun hc_20 => ?_) (fun hc_20 => ?_)
    · replace hw := hw.1 hc_20
      refine ux_bipush C (v := 10) (by decide) dX12_next_238 ?_
      refine ux_aload_n C 0 rfl rfl dX12_next_240 ?_
      refine gf_12_111 C dX12_next_241 ?_
      refine ux_imul C dX12_next_244 ?_
      refine ux_aload_n C 0 rfl rfl dX12_next_245 ?_
      refine gf_12_23 C dX12_next_246 ?_
      refine ux_aload_n C 0 rfl rfl dX12_next_249 ?_
      refine gf_12_101 C dX12_next_250 ?_
      obtain ⟨hi_19, hw⟩ := hw
      refine ux_bald C (uc_76 C.2.2.2.2.2) hi_19 dX12_next_253 ?_
      refine ux_iadd C dX12_next_254 ?_
      refine ux_bipush C (v := 48) (by decide) dX12_next_255 ?_
      refine ux_isub C dX12_next_257 ?_
      refine pf_12_111 C dX12_next_258 ?_
      refine ux_aload_n C 0 rfl rfl dX12_next_261 ?_
      refine ux_dup C rfl dX12_next_262 ?_
      refine gf_12_101 C dX12_next_263 ?_
      refine ux_iconst C (v := 1) (by decide) dX12_next_266 ?_
      refine ux_iadd C dX12_next_267 ?_
      refine pf_12_101 C dX12_next_268 ?_
      refine ux_goto C (tgt := 208) (by decide) dX12_next_271 ?_
      exact ux_pick [0] rfl (ih_15 _ hw)
    · replace hw := hw.2 hc_20
      refine ux_ldc C (v := 1000000) mw_1470 dX12_next_233 ?_
      refine ux_goto C (tgt := 258) (by decide) dX12_next_235 ?_
      refine pf_12_111 C dX12_next_258 ?_
      refine ux_aload_n C 0 rfl rfl dX12_next_261 ?_
      refine ux_dup C rfl dX12_next_262 ?_
      refine gf_12_101 C dX12_next_263 ?_
      refine ux_iconst C (v := 1) (by decide) dX12_next_266 ?_
      refine ux_iadd C dX12_next_267 ?_
      refine pf_12_101 C dX12_next_268 ?_
      refine ux_goto C (tgt := 208) (by decide) dX12_next_271 ?_
      exact ux_pick [0] rfl (ih_15 _ hw)
set_option maxHeartbeats 2000000 in
set_option maxRecDepth 4000 in
theorem c_Model_next_j153 {D : va_G} {G : Nat → Nat} {z N : Nat} {p : Program} {l : Launch} {e : Env} {s : State} {m : MethodId} {args : Array Value} {below : List Frame} {meth : Method} {c : Code} (hN : 92 ≤ N) {a0 : ud_St} {b_153 : ud_St} {y1_153 : Int32} {u0_153 : Int64} {K_23 : Int32 → ud_St → Prop}  {Qf : ud_St → Prop} (C : ud_C D G z N p s m args meth c cX12_next 2 RX12 (none : Option Jvm.ClassFile.FieldType)) (ih_24 : ∀ (v0 : Int32) (v1 : ud_St), K_23 v0 v1 → ud_X D G z N p l e (ud_rm 1 0 0) s m args below meth c 2 0 0 (ud_Q D G z N (po_v Qf) below args s) v1 102 [(0, .ref (z + 71)), (1, .int v0)] []) (hw : w_Model_next_j153 a0 b_153 y1_153 u0_153 K_23 Qf) : ud_X D G z N p l e (ud_rm 1 0 0) s m args below meth c 2 0 0 (ud_Q D G z N (po_v Qf) below args s) b_153 153 [(0, .ref (z + 71)), (1, .int y1_153)] [.long u0_153, .ref (z + 71)] := by
  unfold w_Model_next_j153 at hw
  refine pf_12_114 C dX12_next_153 ?_
  refine ux_iload_n C 1 rfl rfl dX12_next_156 ?_
  refine ux_bipush C (v := 11) (by decide) dX12_next_157 ?_
  refine ux_icmp_le C (tgt := 169) (by decide) dX12_next_159 (fun hc_29 => ?_) (fun hc_29 => ?_)
  · replace hw := hw.1 hc_29
    refine ux_aload_n C 0 rfl rfl dX12_next_169 ?_
    refine ux_dup C rfl dX12_next_170 ?_
    refine gf_12_101 C dX12_next_171 ?_
    refine ux_iconst C (v := 1) (by decide) dX12_next_174 ?_
    refine ux_iadd C dX12_next_175 ?_
    refine pf_12_101 C dX12_next_176 ?_
    refine ux_iinc C 1 rfl rfl (by decide) rfl dX12_next_179 ?_
    refine ux_goto C (tgt := 102) (by decide) dX12_next_182 ?_
    exact ux_pick [1, 0] rfl (ih_24 _ _ hw)
  · replace hw := hw.2 hc_29
    refine ux_aload_n C 0 rfl rfl dX12_next_162 ?_
    refine ux_ldc2 C (v := -1) mw_1466 dX12_next_163 ?_
    refine pf_12_114 C dX12_next_166 ?_
    refine ux_aload_n C 0 rfl rfl dX12_next_169 ?_
    refine ux_dup C rfl dX12_next_170 ?_
    refine gf_12_101 C dX12_next_171 ?_
    refine ux_iconst C (v := 1) (by decide) dX12_next_174 ?_
    refine ux_iadd C dX12_next_175 ?_
    refine pf_12_101 C dX12_next_176 ?_
    refine ux_iinc C 1 rfl rfl (by decide) rfl dX12_next_179 ?_
    refine ux_goto C (tgt := 102) (by decide) dX12_next_182 ?_
    exact ux_pick [1, 0] rfl (ih_24 _ _ hw)
set_option maxHeartbeats 2000000 in
set_option maxRecDepth 4000 in
theorem c_Model_next_j102 {D : va_G} {G : Nat → Nat} {z N : Nat} {p : Program} {l : Launch} {e : Env} {s : State} {m : MethodId} {args : Array Value} {below : List Frame} {meth : Method} {c : Code} (hN : 92 ≤ N) {a0 : ud_St} {b_102 : ud_St} {y1_102 : Int32}  {Qf : ud_St → Prop} (C : ud_C D G z N p s m args meth c cX12_next 2 RX12 (none : Option Jvm.ClassFile.FieldType))  (hw : w_Model_next_j102 a0 b_102 y1_102 Qf) : ud_X D G z N p l e (ud_rm 1 0 0) s m args below meth c 2 0 0 (ud_Q D G z N (po_v Qf) below args s) b_102 102 [(0, .ref (z + 71)), (1, .int y1_102)] [] := by
  unfold w_Model_next_j102 at hw
  refine ux_pick [0, 1] rfl ?_
  refine LW2.elim (P := fun (x1_25 : Int32) (a_26 : ud_St) => ud_X D G z N p l e (ud_rm 1 0 0) s m args below meth c 2 0 0 (ud_Q D G z N (po_v Qf) below args s) a_26 102 [(0, .ref (z + 71)), (1, .int x1_25)] []) hw ?_
  intro x1_25 a_26 K_23 hw ih_24
  refine ux_aload_n C 0 rfl rfl dX12_next_102 ?_
  refine ux_aload_n C 0 rfl rfl dX12_next_103 ?_
  refine gf_12_101 C dX12_next_104 ?_
  refine ux_bipush C (v := 97) (by decide) dX12_next_107 ?_
  refine ux_bipush C (v := 122) (by decide) dX12_next_109 ?_
  refine cs_12_104 C  (c_Model_isByte hN  hw) (by decide) (by decide) (Nat.le_of_ble_eq_true rfl) dX12_next_111 (po_ip.k fun r_27 hw => ?_)
  refine ux_if_eq C (tgt := 185) (by decide) dX12_next_114 (fun hc_32 => ?_) (fun hc_32 => ?_)
  · replace hw := hw.1 hc_32
    refine ux_goto C (tgt := 307) (by decide) dX12_next_185 ?_
    exact ux_vret C ⟨rfl, hw⟩ dX12_next_307
  · replace hw := hw.2 hc_32
    refine ux_aload_n C 0 rfl rfl dX12_next_117 ?_
    refine ux_iload_n C 1 rfl rfl dX12_next_118 ?_
    refine ux_bipush C (v := 11) (by decide) dX12_next_119 ?_
    refine ux_icmp_le C (tgt := 130) (by decide) dX12_next_121 (fun hc_31 => ?_) (fun hc_31 => ?_)
    · replace hw := hw.1 hc_31
      refine ux_ldc2 C (v := 27) mw_1467 dX12_next_130 ?_
      refine ux_aload_n C 0 rfl rfl dX12_next_133 ?_
      refine gf_12_114 C dX12_next_134 ?_
      refine ux_lmul C dX12_next_137 ?_
      refine ux_aload_n C 0 rfl rfl dX12_next_138 ?_
      refine gf_12_23 C dX12_next_139 ?_
      refine ux_aload_n C 0 rfl rfl dX12_next_142 ?_
      refine gf_12_101 C dX12_next_143 ?_
      obtain ⟨hi_30, hw⟩ := hw
      refine ux_bald C (uc_76 C.2.2.2.2.2) hi_30 dX12_next_146 ?_
      refine ux_i2l C dX12_next_147 ?_
      refine ux_ladd C dX12_next_148 ?_
      refine ux_ldc2 C (v := 96) mw_1468 dX12_next_149 ?_
      refine ux_lsub C dX12_next_152 ?_
      exact ux_pick [0, 1] rfl (c_Model_next_j153 hN  C ih_24 hw)
    · replace hw := hw.2 hc_31
      refine ux_ldc2 C (v := -1) mw_1466 dX12_next_124 ?_
      refine ux_goto C (tgt := 153) (by decide) dX12_next_127 ?_
      exact ux_pick [0, 1] rfl (c_Model_next_j153 hN  C ih_24 hw)
set_option maxHeartbeats 2000000 in
set_option maxRecDepth 4000 in
theorem c_Model_next {l : Launch} {D : va_G} {G : Nat → Nat} {z N : Nat} (hN : 92 ≤ N) {a0 : ud_St}   {Qf : ud_St → Prop} (hw : w_Model_next a0  Qf) : ud_M l D G z N yX12_next cX12_next 2 (none : Option Jvm.ClassFile.FieldType) 1 [.ref (z + 71)] a0 (po_v Qf) := by
  unfold w_Model_next at hw
  refine ud_M_of hN (by decide) (Nat.le_of_ble_eq_true rfl) ?_
  intro p e s m args below meth c C
  have C : ud_C D G z N p s m args meth c cX12_next 2 RX12 (none : Option Jvm.ClassFile.FieldType) := C
  show ud_X D G z N p l e (ud_rm 1 0 0) s m args below meth c 2 0 0 (ud_Q D G z N (po_v Qf) below args s) a0 0 [(0, .ref (z + 71))] []
  refine ux_pick [0] rfl ?_
  refine LW1.elim (P := fun (a_3 : ud_St) => ud_X D G z N p l e (ud_rm 1 0 0) s m args below meth c 2 0 0 (ud_Q D G z N (po_v Qf) below args s) a_3 0 [(0, .ref (z + 71))] []) hw ?_
  intro a_3 K_1 hw ih_2
  refine ux_aload_n C 0 rfl rfl dX12_next_0 ?_
  refine ux_aload_n C 0 rfl rfl dX12_next_1 ?_
  refine gf_12_101 C dX12_next_2 ?_
  refine ux_bipush C (v := 32) (by decide) dX12_next_5 ?_
  refine ux_bipush C (v := 32) (by decide) dX12_next_7 ?_
  refine cs_12_104 C  (c_Model_isByte hN  hw) (by decide) (by decide) (Nat.le_of_ble_eq_true rfl) dX12_next_9 (po_ip.k fun r_4 hw => ?_)
  refine ux_if_ne C (tgt := 30) (by decide) dX12_next_12 (fun hc_36 => ?_) (fun hc_36 => ?_)
  · replace hw := hw.2 hc_36
    refine ux_aload_n C 0 rfl rfl dX12_next_30 ?_
    refine ux_dup C rfl dX12_next_31 ?_
    refine gf_12_101 C dX12_next_32 ?_
    refine ux_iconst C (v := 1) (by decide) dX12_next_35 ?_
    refine ux_iadd C dX12_next_36 ?_
    refine pf_12_101 C dX12_next_37 ?_
    refine ux_goto C (tgt := 0) (by decide) dX12_next_40 ?_
    exact ux_pick [0] rfl (ih_2 _ hw)
  · replace hw := hw.1 hc_36
    refine ux_aload_n C 0 rfl rfl dX12_next_15 ?_
    refine ux_aload_n C 0 rfl rfl dX12_next_16 ?_
    refine gf_12_101 C dX12_next_17 ?_
    refine ux_bipush C (v := 10) (by decide) dX12_next_20 ?_
    refine ux_bipush C (v := 10) (by decide) dX12_next_22 ?_
    refine cs_12_104 C  (c_Model_isByte hN  hw) (by decide) (by decide) (Nat.le_of_ble_eq_true rfl) dX12_next_24 (po_ip.k fun r_6 hw => ?_)
    refine ux_if_eq C (tgt := 43) (by decide) dX12_next_27 (fun hc_35 => ?_) (fun hc_35 => ?_)
    · replace hw := hw.1 hc_35
      refine ux_aload_n C 0 rfl rfl dX12_next_43 ?_
      refine ux_aload_n C 0 rfl rfl dX12_next_44 ?_
      refine gf_12_101 C dX12_next_45 ?_
      refine pf_12_108 C dX12_next_48 ?_
      refine ux_aload_n C 0 rfl rfl dX12_next_51 ?_
      refine ux_iconst C (v := 0) (by decide) dX12_next_52 ?_
      refine pf_12_111 C dX12_next_53 ?_
      refine ux_aload_n C 0 rfl rfl dX12_next_56 ?_
      refine ux_lconst C (v := 0) (by decide) dX12_next_57 ?_
      refine pf_12_114 C dX12_next_58 ?_
      refine ux_aload_n C 0 rfl rfl dX12_next_61 ?_
      refine gf_12_101 C dX12_next_62 ?_
      refine ux_aload_n C 0 rfl rfl dX12_next_65 ?_
      refine gf_12_94 C dX12_next_66 ?_
      refine ux_icmp_ne C (tgt := 80) (by decide) dX12_next_69 (fun hc_34 => ?_) (fun hc_34 => ?_)
      · replace hw := hw.2 hc_34
        refine ux_aload_n C 0 rfl rfl dX12_next_80 ?_
        refine ux_aload_n C 0 rfl rfl dX12_next_81 ?_
        refine gf_12_101 C dX12_next_82 ?_
        refine ux_bipush C (v := 97) (by decide) dX12_next_85 ?_
        refine ux_bipush C (v := 122) (by decide) dX12_next_87 ?_
        refine cs_12_104 C  (c_Model_isByte hN  hw) (by decide) (by decide) (Nat.le_of_ble_eq_true rfl) dX12_next_89 (po_ip.k fun r_8 hw => ?_)
        refine ux_if_eq C (tgt := 188) (by decide) dX12_next_92 (fun hc_33 => ?_) (fun hc_33 => ?_)
        · replace hw := hw.1 hc_33
          refine ux_aload_n C 0 rfl rfl dX12_next_188 ?_
          refine ux_aload_n C 0 rfl rfl dX12_next_189 ?_
          refine gf_12_101 C dX12_next_190 ?_
          refine ux_bipush C (v := 48) (by decide) dX12_next_193 ?_
          refine ux_bipush C (v := 57) (by decide) dX12_next_195 ?_
          refine cs_12_104 C  (c_Model_isByte hN  hw) (by decide) (by decide) (Nat.le_of_ble_eq_true rfl) dX12_next_197 (po_ip.k fun r_10 hw => ?_)
          refine ux_if_eq C (tgt := 274) (by decide) dX12_next_200 (fun hc_22 => ?_) (fun hc_22 => ?_)
          · replace hw := hw.1 hc_22
            refine ux_aload_n C 0 rfl rfl dX12_next_274 ?_
            refine ux_aload_n C 0 rfl rfl dX12_next_275 ?_
            refine gf_12_23 C dX12_next_276 ?_
            refine ux_aload_n C 0 rfl rfl dX12_next_279 ?_
            refine gf_12_101 C dX12_next_280 ?_
            obtain ⟨hi_13, hw⟩ := hw
            refine ux_bald C (uc_76 C.2.2.2.2.2) hi_13 dX12_next_283 ?_
            refine ux_bipush C (v := 59) (by decide) dX12_next_284 ?_
            refine ux_icmp_ne C (tgt := 293) (by decide) dX12_next_286 (fun hc_12 => ?_) (fun hc_12 => ?_)
            · replace hw := hw.2 hc_12
              refine ux_iconst C (v := 4) (by decide) dX12_next_293 ?_
              refine pf_12_118 C dX12_next_294 ?_
              refine ux_aload_n C 0 rfl rfl dX12_next_297 ?_
              refine ux_dup C rfl dX12_next_298 ?_
              refine gf_12_101 C dX12_next_299 ?_
              refine ux_iconst C (v := 1) (by decide) dX12_next_302 ?_
              refine ux_iadd C dX12_next_303 ?_
              refine pf_12_101 C dX12_next_304 ?_
              exact ux_vret C ⟨rfl, hw⟩ dX12_next_307
            · replace hw := hw.1 hc_12
              refine ux_iconst C (v := 3) (by decide) dX12_next_289 ?_
              refine ux_goto C (tgt := 294) (by decide) dX12_next_290 ?_
              refine pf_12_118 C dX12_next_294 ?_
              refine ux_aload_n C 0 rfl rfl dX12_next_297 ?_
              refine ux_dup C rfl dX12_next_298 ?_
              refine gf_12_101 C dX12_next_299 ?_
              refine ux_iconst C (v := 1) (by decide) dX12_next_302 ?_
              refine ux_iadd C dX12_next_303 ?_
              refine pf_12_101 C dX12_next_304 ?_
              exact ux_vret C ⟨rfl, hw⟩ dX12_next_307
          · replace hw := hw.2 hc_22
            refine ux_aload_n C 0 rfl rfl dX12_next_203 ?_
            refine ux_iconst C (v := 2) (by decide) dX12_next_204 ?_
            refine pf_12_118 C dX12_next_205 ?_
            exact ux_pick [0] rfl (c_Model_next_j208 hN  C  hw)
        · replace hw := hw.2 hc_33
          refine ux_aload_n C 0 rfl rfl dX12_next_95 ?_
          refine ux_iconst C (v := 1) (by decide) dX12_next_96 ?_
          refine pf_12_118 C dX12_next_97 ?_
          refine ux_iconst C (v := 0) (by decide) dX12_next_100 ?_
          refine ux_istore_n C rfl (by decide) rfl dX12_next_101 ?_
          exact ux_pick [1, 0] rfl (c_Model_next_j102 hN  C  hw)
      · replace hw := hw.1 hc_34
        refine ux_aload_n C 0 rfl rfl dX12_next_72 ?_
        refine ux_iconst C (v := 0) (by decide) dX12_next_73 ?_
        refine pf_12_118 C dX12_next_74 ?_
        refine ux_goto C (tgt := 307) (by decide) dX12_next_77 ?_
        exact ux_vret C ⟨rfl, hw⟩ dX12_next_307
    · replace hw := hw.2 hc_35
      refine ux_aload_n C 0 rfl rfl dX12_next_30 ?_
      refine ux_dup C rfl dX12_next_31 ?_
      refine gf_12_101 C dX12_next_32 ?_
      refine ux_iconst C (v := 1) (by decide) dX12_next_35 ?_
      refine ux_iadd C dX12_next_36 ?_
      refine pf_12_101 C dX12_next_37 ?_
      refine ux_goto C (tgt := 0) (by decide) dX12_next_40 ?_
      exact ux_pick [0] rfl (ih_2 _ hw)
set_option maxHeartbeats 2000000 in
set_option maxRecDepth 4000 in
theorem c_Model_sortHere {l : Launch} {D : va_G} {G : Nat → Nat} {z N : Nat} (hN : 92 ≤ N) {a0 : ud_St}   {Qf : Int32 → Prop} (hw : w_Model_sortHere a0  Qf) : ud_M l D G z N yX12_sortHere cX12_sortHere 1 (some Jvm.ClassFile.FieldType.int) 1 [.ref (z + 71)] a0 (po_ip a0 Qf) := by
  unfold w_Model_sortHere at hw
  refine ud_M_of hN (by decide) (Nat.le_of_ble_eq_true rfl) ?_
  intro p e s m args below meth c C
  have C : ud_C D G z N p s m args meth c cX12_sortHere 1 RX12 (some Jvm.ClassFile.FieldType.int) := C
  show ud_X D G z N p l e (ud_rm 1 0 0) s m args below meth c 1 0 0 (ud_Q D G z N (po_ip a0 Qf) below args s) a0 0 [(0, .ref (z + 71))] []
  refine ux_aload_n C 0 rfl rfl dX12_sortHere_0 ?_
  refine ux_ldc2 C (v := 90302) mw_1529 dX12_sortHere_1 ?_
  refine cs_12_135 C  (c_Model_is hN  hw) (by decide) (by decide) (Nat.le_of_ble_eq_true rfl) dX12_sortHere_4 (po_ip.k fun r_1 hw => ?_)
  refine ux_if_eq C (tgt := 14) (by decide) dX12_sortHere_7 (fun hc_45 => ?_) (fun hc_45 => ?_)
  · replace hw := hw.1 hc_45
    refine ux_aload_n C 0 rfl rfl dX12_sortHere_14 ?_
    refine ux_ldc2 C (v := 583) mw_1530 dX12_sortHere_15 ?_
    refine cs_12_135 C  (c_Model_is hN  hw) (by decide) (by decide) (Nat.le_of_ble_eq_true rfl) dX12_sortHere_18 (po_ip.k fun r_3 hw => ?_)
    refine ux_if_eq C (tgt := 28) (by decide) dX12_sortHere_21 (fun hc_44 => ?_) (fun hc_44 => ?_)
    · replace hw := hw.1 hc_44
      refine ux_aload_n C 0 rfl rfl dX12_sortHere_28 ?_
      refine ux_ldc2 C (v := 409469) mw_1531 dX12_sortHere_29 ?_
      refine cs_12_135 C  (c_Model_is hN  hw) (by decide) (by decide) (Nat.le_of_ble_eq_true rfl) dX12_sortHere_32 (po_ip.k fun r_5 hw => ?_)
      refine ux_if_eq C (tgt := 42) (by decide) dX12_sortHere_35 (fun hc_43 => ?_) (fun hc_43 => ?_)
      · replace hw := hw.1 hc_43
        refine ux_aload_n C 0 rfl rfl dX12_sortHere_42 ?_
        refine ux_ldc2 C (v := 220309) mw_1532 dX12_sortHere_43 ?_
        refine cs_12_135 C  (c_Model_is hN  hw) (by decide) (by decide) (Nat.le_of_ble_eq_true rfl) dX12_sortHere_46 (po_ip.k fun r_7 hw => ?_)
        refine ux_if_eq C (tgt := 56) (by decide) dX12_sortHere_49 (fun hc_42 => ?_) (fun hc_42 => ?_)
        · replace hw := hw.1 hc_42
          refine ux_aload_n C 0 rfl rfl dX12_sortHere_56 ?_
          refine ux_ldc2 C (v := 40187) mw_1533 dX12_sortHere_57 ?_
          refine cs_12_135 C  (c_Model_is hN  hw) (by decide) (by decide) (Nat.le_of_ble_eq_true rfl) dX12_sortHere_60 (po_ip.k fun r_9 hw => ?_)
          refine ux_if_eq C (tgt := 70) (by decide) dX12_sortHere_63 (fun hc_41 => ?_) (fun hc_41 => ?_)
          · replace hw := hw.1 hc_41
            refine ux_aload_n C 0 rfl rfl dX12_sortHere_70 ?_
            refine ux_ldc2 C (v := 240373) mw_1534 dX12_sortHere_71 ?_
            refine cs_12_135 C  (c_Model_is hN  hw) (by decide) (by decide) (Nat.le_of_ble_eq_true rfl) dX12_sortHere_74 (po_ip.k fun r_11 hw => ?_)
            refine ux_if_eq C (tgt := 84) (by decide) dX12_sortHere_77 (fun hc_40 => ?_) (fun hc_40 => ?_)
            · replace hw := hw.1 hc_40
              refine ux_aload_n C 0 rfl rfl dX12_sortHere_84 ?_
              refine ux_ldc2 C (v := 841) mw_1535 dX12_sortHere_85 ?_
              refine cs_12_135 C  (c_Model_is hN  hw) (by decide) (by decide) (Nat.le_of_ble_eq_true rfl) dX12_sortHere_88 (po_ip.k fun r_13 hw => ?_)
              refine ux_if_eq C (tgt := 99) (by decide) dX12_sortHere_91 (fun hc_39 => ?_) (fun hc_39 => ?_)
              · replace hw := hw.1 hc_39
                refine ux_aload_n C 0 rfl rfl dX12_sortHere_99 ?_
                refine ux_ldc2 C (v := 282078293) mw_1536 dX12_sortHere_100 ?_
                refine cs_12_135 C  (c_Model_is hN  hw) (by decide) (by decide) (Nat.le_of_ble_eq_true rfl) dX12_sortHere_103 (po_ip.k fun r_15 hw => ?_)
                refine ux_if_eq C (tgt := 114) (by decide) dX12_sortHere_106 (fun hc_38 => ?_) (fun hc_38 => ?_)
                · replace hw := hw.1 hc_38
                  refine ux_aload_n C 0 rfl rfl dX12_sortHere_114 ?_
                  refine ux_ldc2 C (v := 74417) mw_1537 dX12_sortHere_115 ?_
                  refine cs_12_135 C  (c_Model_is hN  hw) (by decide) (by decide) (Nat.le_of_ble_eq_true rfl) dX12_sortHere_118 (po_ip.k fun r_17 hw => ?_)
                  refine ux_if_eq C (tgt := 129) (by decide) dX12_sortHere_121 (fun hc_37 => ?_) (fun hc_37 => ?_)
                  · replace hw := hw.1 hc_37
                    refine ux_aload_n C 0 rfl rfl dX12_sortHere_129 ?_
                    refine ux_ldc2 C (v := 14431) mw_1538 dX12_sortHere_130 ?_
                    refine cs_12_135 C  (c_Model_is hN  hw) (by decide) (by decide) (Nat.le_of_ble_eq_true rfl) dX12_sortHere_133 (po_ip.k fun r_19 hw => ?_)
                    refine ux_if_eq C (tgt := 144) (by decide) dX12_sortHere_136 (fun hc_36 => ?_) (fun hc_36 => ?_)
                    · replace hw := hw.1 hc_36
                      refine ux_aload_n C 0 rfl rfl dX12_sortHere_144 ?_
                      refine ux_ldc2 C (v := 158523) mw_1539 dX12_sortHere_145 ?_
                      refine cs_12_135 C  (c_Model_is hN  hw) (by decide) (by decide) (Nat.le_of_ble_eq_true rfl) dX12_sortHere_148 (po_ip.k fun r_21 hw => ?_)
                      refine ux_if_eq C (tgt := 159) (by decide) dX12_sortHere_151 (fun hc_35 => ?_) (fun hc_35 => ?_)
                      · replace hw := hw.1 hc_35
                        refine ux_aload_n C 0 rfl rfl dX12_sortHere_159 ?_
                        refine ux_ldc2 C (v := 3379448) mw_1540 dX12_sortHere_160 ?_
                        refine cs_12_135 C  (c_Model_is hN  hw) (by decide) (by decide) (Nat.le_of_ble_eq_true rfl) dX12_sortHere_163 (po_ip.k fun r_23 hw => ?_)
                        refine ux_if_eq C (tgt := 174) (by decide) dX12_sortHere_166 (fun hc_34 => ?_) (fun hc_34 => ?_)
                        · replace hw := hw.1 hc_34
                          refine ux_aload_n C 0 rfl rfl dX12_sortHere_174 ?_
                          refine ux_ldc2 C (v := 10815598) mw_1541 dX12_sortHere_175 ?_
                          refine cs_12_135 C  (c_Model_is hN  hw) (by decide) (by decide) (Nat.le_of_ble_eq_true rfl) dX12_sortHere_178 (po_ip.k fun r_25 hw => ?_)
                          refine ux_if_eq C (tgt := 189) (by decide) dX12_sortHere_181 (fun hc_33 => ?_) (fun hc_33 => ?_)
                          · replace hw := hw.1 hc_33
                            refine ux_aload_n C 0 rfl rfl dX12_sortHere_189 ?_
                            refine ux_ldc2 C (v := 324262) mw_1542 dX12_sortHere_190 ?_
                            refine cs_12_135 C  (c_Model_is hN  hw) (by decide) (by decide) (Nat.le_of_ble_eq_true rfl) dX12_sortHere_193 (po_ip.k fun r_27 hw => ?_)
                            refine ux_if_eq C (tgt := 204) (by decide) dX12_sortHere_196 (fun hc_32 => ?_) (fun hc_32 => ?_)
                            · replace hw := hw.1 hc_32
                              refine ux_aload_n C 0 rfl rfl dX12_sortHere_204 ?_
                              refine ux_ldc2 C (v := 11522) mw_1543 dX12_sortHere_205 ?_
                              refine cs_12_135 C  (c_Model_is hN  hw) (by decide) (by decide) (Nat.le_of_ble_eq_true rfl) dX12_sortHere_208 (po_ip.k fun r_29 hw => ?_)
                              refine ux_if_eq C (tgt := 219) (by decide) dX12_sortHere_211 (fun hc_31 => ?_) (fun hc_31 => ?_)
                              · replace hw := hw.1 hc_31
                                refine ux_iconst C (v := -1) (by decide) dX12_sortHere_219 ?_
                                exact ux_iret C ⟨_, rfl, rfl, hw⟩ dX12_sortHere_220
                              · replace hw := hw.2 hc_31
                                refine ux_bipush C (v := 14) (by decide) dX12_sortHere_214 ?_
                                refine ux_goto C (tgt := 220) (by decide) dX12_sortHere_216 ?_
                                exact ux_iret C ⟨_, rfl, rfl, hw⟩ dX12_sortHere_220
                            · replace hw := hw.2 hc_32
                              refine ux_bipush C (v := 13) (by decide) dX12_sortHere_199 ?_
                              refine ux_goto C (tgt := 220) (by decide) dX12_sortHere_201 ?_
                              exact ux_iret C ⟨_, rfl, rfl, hw⟩ dX12_sortHere_220
                          · replace hw := hw.2 hc_33
                            refine ux_bipush C (v := 12) (by decide) dX12_sortHere_184 ?_
                            refine ux_goto C (tgt := 220) (by decide) dX12_sortHere_186 ?_
                            exact ux_iret C ⟨_, rfl, rfl, hw⟩ dX12_sortHere_220
                        · replace hw := hw.2 hc_34
                          refine ux_bipush C (v := 11) (by decide) dX12_sortHere_169 ?_
                          refine ux_goto C (tgt := 220) (by decide) dX12_sortHere_171 ?_
                          exact ux_iret C ⟨_, rfl, rfl, hw⟩ dX12_sortHere_220
                      · replace hw := hw.2 hc_35
                        refine ux_bipush C (v := 10) (by decide) dX12_sortHere_154 ?_
                        refine ux_goto C (tgt := 220) (by decide) dX12_sortHere_156 ?_
                        exact ux_iret C ⟨_, rfl, rfl, hw⟩ dX12_sortHere_220
                    · replace hw := hw.2 hc_36
                      refine ux_bipush C (v := 9) (by decide) dX12_sortHere_139 ?_
                      refine ux_goto C (tgt := 220) (by decide) dX12_sortHere_141 ?_
                      exact ux_iret C ⟨_, rfl, rfl, hw⟩ dX12_sortHere_220
                  · replace hw := hw.2 hc_37
                    refine ux_bipush C (v := 8) (by decide) dX12_sortHere_124 ?_
                    refine ux_goto C (tgt := 220) (by decide) dX12_sortHere_126 ?_
                    exact ux_iret C ⟨_, rfl, rfl, hw⟩ dX12_sortHere_220
                · replace hw := hw.2 hc_38
                  refine ux_bipush C (v := 7) (by decide) dX12_sortHere_109 ?_
                  refine ux_goto C (tgt := 220) (by decide) dX12_sortHere_111 ?_
                  exact ux_iret C ⟨_, rfl, rfl, hw⟩ dX12_sortHere_220
              · replace hw := hw.2 hc_39
                refine ux_bipush C (v := 6) (by decide) dX12_sortHere_94 ?_
                refine ux_goto C (tgt := 220) (by decide) dX12_sortHere_96 ?_
                exact ux_iret C ⟨_, rfl, rfl, hw⟩ dX12_sortHere_220
            · replace hw := hw.2 hc_40
              refine ux_iconst C (v := 5) (by decide) dX12_sortHere_80 ?_
              refine ux_goto C (tgt := 220) (by decide) dX12_sortHere_81 ?_
              exact ux_iret C ⟨_, rfl, rfl, hw⟩ dX12_sortHere_220
          · replace hw := hw.2 hc_41
            refine ux_iconst C (v := 4) (by decide) dX12_sortHere_66 ?_
            refine ux_goto C (tgt := 220) (by decide) dX12_sortHere_67 ?_
            exact ux_iret C ⟨_, rfl, rfl, hw⟩ dX12_sortHere_220
        · replace hw := hw.2 hc_42
          refine ux_iconst C (v := 3) (by decide) dX12_sortHere_52 ?_
          refine ux_goto C (tgt := 220) (by decide) dX12_sortHere_53 ?_
          exact ux_iret C ⟨_, rfl, rfl, hw⟩ dX12_sortHere_220
      · replace hw := hw.2 hc_43
        refine ux_iconst C (v := 2) (by decide) dX12_sortHere_38 ?_
        refine ux_goto C (tgt := 220) (by decide) dX12_sortHere_39 ?_
        exact ux_iret C ⟨_, rfl, rfl, hw⟩ dX12_sortHere_220
    · replace hw := hw.2 hc_44
      refine ux_iconst C (v := 1) (by decide) dX12_sortHere_24 ?_
      refine ux_goto C (tgt := 220) (by decide) dX12_sortHere_25 ?_
      exact ux_iret C ⟨_, rfl, rfl, hw⟩ dX12_sortHere_220
  · replace hw := hw.2 hc_45
    refine ux_iconst C (v := 0) (by decide) dX12_sortHere_10 ?_
    refine ux_goto C (tgt := 220) (by decide) dX12_sortHere_11 ?_
    exact ux_iret C ⟨_, rfl, rfl, hw⟩ dX12_sortHere_220
