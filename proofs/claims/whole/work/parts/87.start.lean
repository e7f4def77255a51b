/-! THE CLAIM OUT OF ONE WALK OF THE LAW'S BODY. Your part is whole_start (and what it stands on); all else here is the same for every law, but numbers. -/
def R_law : String := "UpAndDownLaw"
def lw_P (b : Addr) (xs : List Int32) (args : Array Value) (s : State) : Prop := args = #[.ref b] ∧ s.IntsAt b xs ∧ xs.length ≤ 3072 ∧ (Jvm.Cond.and given_1 narrow_1).before args s = true
def lw_Q (_ : Array Value) (s : State) (o : Outcome) (t : State) : Prop := o = .returned (some (.int 1)) ∧ Framed s o t [] 600000 7302250
def lw_Z (below : List Frame) (a : Array Value) (s : State) : State → Prop := fun t => ∃ o, t.status = .running ∧ Ended t below o ∧ lw_Q a s o t
/-- the law's own end, with 1 on the stack, nothing written that was there before, its room as the claim has it -/
theorem lw_ret {p : Program} {l : Launch} {e : Env} {s : State} {m : MethodId} {below : List Frame} {meth : Method} {c : Code} {b : Nat} (hx : p.tables.exec = Jvm.exec) (hb : c.code = code) (hr : meth.sig.returnType = ret) (hlocks : meth.locks = false) {pc : Nat} {H : Heap} {ls : Array Slot} (hdg : decode code pc = .ok (.ireturn, 1)) : W p l e room_1 s m #[Value.ref b] below meth c H [] 600000 7302250 (lw_Z below #[Value.ref b] s) (F0 m pc ls [.int 1]) := by
  intro T hT X
  obtain ⟨fs, hret, hrun, hended, hW, hframe⟩ := X.leave (v := some (.int 1)) (hlocks := hlocks) (fun h => by rw [hr] at h; cases h)
  have hmeth' : T.vm.method? m = some meth := X.method'
  refine ⟨T.setFrames fs, ?_, .returned (some (.int 1)), hrun, hended, rfl, ⟨_, rfl⟩, hW, hframe⟩
  jvm_step X.here [X.here.top, hx, hb, hdg, hmeth', hr, ret, narrow_b1]
  (try refine ⟨rfl, ?_⟩); (try refine ⟨rfl, ?_⟩)
  first | (intro acts; rw [hret _ acts rfl rfl rfl]) | rw [hret _ _ rfl rfl rfl]
  exact Steps.refl _
/-- what holds at the law's entry: the machine, the code, the tables' words (any of lw_tbl by 'hts w (by decide +kernel)'), the script of L ints xs at the cell b, what the Statement gives of the start (any of its parts by flat_of_before) -/
def lw_At (p : Program) (s : State) (m : MethodId) (meth : Method) (c : Code) (b L : Nat) (xs : Nat → Int32) : Prop :=
  p.tables.exec = Jvm.exec ∧ c.code = code ∧ meth.sig.returnType = ret ∧ c.maxLocals = 4 ∧ s.vm.findClass R_law = some m.cls ∧ (∀ w ∈ lw_tbl, w.before #[Value.ref b] s = true) ∧ va_X b L xs s s.heap ∧ b < s.heap.size ∧ meth.locks = false ∧ (Jvm.Cond.and given_1 narrow_1).before #[Value.ref b] s = true

theorem ud_m1 : ∀ i, i < 22 → Cond.exactly (.string RX6 (ud_kix.getD i 0)) "java/lang/String" ∈ flatC (Jvm.Cond.and given_1 narrow_1) := by decide +kernel
theorem ud_m2 : ∀ i, i < 22 → Cond.eq (.field (.string RX6 (ud_kix.getD i 0)) "java/lang/String" "coder" "B") (.int 0) ∈ flatC (Jvm.Cond.and given_1 narrow_1) := by decide +kernel
theorem ud_m3 : ∀ i, i < 22 → Cond.arrayOf (.field (.string RX6 (ud_kix.getD i 0)) "java/lang/String" "value" "[B") .byte ∈ flatC (Jvm.Cond.and given_1 narrow_1) := by decide +kernel
theorem ud_m4 : ∀ i, i < 22 → Cond.eq (.length (.field (.string RX6 (ud_kix.getD i 0)) "java/lang/String" "value" "[B")) (.int (Int32.ofNat (ud_len.getD i 0))) ∈ flatC (Jvm.Cond.and given_1 narrow_1) := by decide +kernel
theorem ud_m5 : ∀ i, i < 22 → ∀ j, j < ud_len.getD i 0 → Cond.eq (.elem (.field (.string RX6 (ud_kix.getD i 0)) "java/lang/String" "value" "[B") (.int (Int32.ofNat j))) (.int ((ud_byt.getD i []).getD j 0)) ∈ flatC (Jvm.Cond.and given_1 narrow_1) := by decide +kernel
theorem ud_m6_0 : ∀ j, j < 22 → 0 < j → Cond.not (Cond.eq (.string RX6 (ud_kix.getD 0 0)) (.string RX6 (ud_kix.getD j 0))) ∈ flatC (Jvm.Cond.and given_1 narrow_1) ∨ Cond.not (Cond.eq (.string RX6 (ud_kix.getD j 0)) (.string RX6 (ud_kix.getD 0 0))) ∈ flatC (Jvm.Cond.and given_1 narrow_1) := by decide +kernel
theorem ud_m6_1 : ∀ j, j < 22 → 1 < j → Cond.not (Cond.eq (.string RX6 (ud_kix.getD 1 0)) (.string RX6 (ud_kix.getD j 0))) ∈ flatC (Jvm.Cond.and given_1 narrow_1) ∨ Cond.not (Cond.eq (.string RX6 (ud_kix.getD j 0)) (.string RX6 (ud_kix.getD 1 0))) ∈ flatC (Jvm.Cond.and given_1 narrow_1) := by decide +kernel
theorem ud_m6_2 : ∀ j, j < 22 → 2 < j → Cond.not (Cond.eq (.string RX6 (ud_kix.getD 2 0)) (.string RX6 (ud_kix.getD j 0))) ∈ flatC (Jvm.Cond.and given_1 narrow_1) ∨ Cond.not (Cond.eq (.string RX6 (ud_kix.getD j 0)) (.string RX6 (ud_kix.getD 2 0))) ∈ flatC (Jvm.Cond.and given_1 narrow_1) := by decide +kernel
theorem ud_m6_3 : ∀ j, j < 22 → 3 < j → Cond.not (Cond.eq (.string RX6 (ud_kix.getD 3 0)) (.string RX6 (ud_kix.getD j 0))) ∈ flatC (Jvm.Cond.and given_1 narrow_1) ∨ Cond.not (Cond.eq (.string RX6 (ud_kix.getD j 0)) (.string RX6 (ud_kix.getD 3 0))) ∈ flatC (Jvm.Cond.and given_1 narrow_1) := by decide +kernel
theorem ud_m6_4 : ∀ j, j < 22 → 4 < j → Cond.not (Cond.eq (.string RX6 (ud_kix.getD 4 0)) (.string RX6 (ud_kix.getD j 0))) ∈ flatC (Jvm.Cond.and given_1 narrow_1) ∨ Cond.not (Cond.eq (.string RX6 (ud_kix.getD j 0)) (.string RX6 (ud_kix.getD 4 0))) ∈ flatC (Jvm.Cond.and given_1 narrow_1) := by decide +kernel
theorem ud_m6_5 : ∀ j, j < 22 → 5 < j → Cond.not (Cond.eq (.string RX6 (ud_kix.getD 5 0)) (.string RX6 (ud_kix.getD j 0))) ∈ flatC (Jvm.Cond.and given_1 narrow_1) ∨ Cond.not (Cond.eq (.string RX6 (ud_kix.getD j 0)) (.string RX6 (ud_kix.getD 5 0))) ∈ flatC (Jvm.Cond.and given_1 narrow_1) := by decide +kernel
theorem ud_m6_6 : ∀ j, j < 22 → 6 < j → Cond.not (Cond.eq (.string RX6 (ud_kix.getD 6 0)) (.string RX6 (ud_kix.getD j 0))) ∈ flatC (Jvm.Cond.and given_1 narrow_1) ∨ Cond.not (Cond.eq (.string RX6 (ud_kix.getD j 0)) (.string RX6 (ud_kix.getD 6 0))) ∈ flatC (Jvm.Cond.and given_1 narrow_1) := by decide +kernel
theorem ud_m6_7 : ∀ j, j < 22 → 7 < j → Cond.not (Cond.eq (.string RX6 (ud_kix.getD 7 0)) (.string RX6 (ud_kix.getD j 0))) ∈ flatC (Jvm.Cond.and given_1 narrow_1) ∨ Cond.not (Cond.eq (.string RX6 (ud_kix.getD j 0)) (.string RX6 (ud_kix.getD 7 0))) ∈ flatC (Jvm.Cond.and given_1 narrow_1) := by decide +kernel
theorem ud_m6_8 : ∀ j, j < 22 → 8 < j → Cond.not (Cond.eq (.string RX6 (ud_kix.getD 8 0)) (.string RX6 (ud_kix.getD j 0))) ∈ flatC (Jvm.Cond.and given_1 narrow_1) ∨ Cond.not (Cond.eq (.string RX6 (ud_kix.getD j 0)) (.string RX6 (ud_kix.getD 8 0))) ∈ flatC (Jvm.Cond.and given_1 narrow_1) := by decide +kernel
theorem ud_m6_9 : ∀ j, j < 22 → 9 < j → Cond.not (Cond.eq (.string RX6 (ud_kix.getD 9 0)) (.string RX6 (ud_kix.getD j 0))) ∈ flatC (Jvm.Cond.and given_1 narrow_1) ∨ Cond.not (Cond.eq (.string RX6 (ud_kix.getD j 0)) (.string RX6 (ud_kix.getD 9 0))) ∈ flatC (Jvm.Cond.and given_1 narrow_1) := by decide +kernel
theorem ud_m6_10 : ∀ j, j < 22 → 10 < j → Cond.not (Cond.eq (.string RX6 (ud_kix.getD 10 0)) (.string RX6 (ud_kix.getD j 0))) ∈ flatC (Jvm.Cond.and given_1 narrow_1) ∨ Cond.not (Cond.eq (.string RX6 (ud_kix.getD j 0)) (.string RX6 (ud_kix.getD 10 0))) ∈ flatC (Jvm.Cond.and given_1 narrow_1) := by decide +kernel
theorem ud_m6_11 : ∀ j, j < 22 → 11 < j → Cond.not (Cond.eq (.string RX6 (ud_kix.getD 11 0)) (.string RX6 (ud_kix.getD j 0))) ∈ flatC (Jvm.Cond.and given_1 narrow_1) ∨ Cond.not (Cond.eq (.string RX6 (ud_kix.getD j 0)) (.string RX6 (ud_kix.getD 11 0))) ∈ flatC (Jvm.Cond.and given_1 narrow_1) := by decide +kernel
theorem ud_m6_12 : ∀ j, j < 22 → 12 < j → Cond.not (Cond.eq (.string RX6 (ud_kix.getD 12 0)) (.string RX6 (ud_kix.getD j 0))) ∈ flatC (Jvm.Cond.and given_1 narrow_1) ∨ Cond.not (Cond.eq (.string RX6 (ud_kix.getD j 0)) (.string RX6 (ud_kix.getD 12 0))) ∈ flatC (Jvm.Cond.and given_1 narrow_1) := by decide +kernel
theorem ud_m6_13 : ∀ j, j < 22 → 13 < j → Cond.not (Cond.eq (.string RX6 (ud_kix.getD 13 0)) (.string RX6 (ud_kix.getD j 0))) ∈ flatC (Jvm.Cond.and given_1 narrow_1) ∨ Cond.not (Cond.eq (.string RX6 (ud_kix.getD j 0)) (.string RX6 (ud_kix.getD 13 0))) ∈ flatC (Jvm.Cond.and given_1 narrow_1) := by decide +kernel
theorem ud_m6_14 : ∀ j, j < 22 → 14 < j → Cond.not (Cond.eq (.string RX6 (ud_kix.getD 14 0)) (.string RX6 (ud_kix.getD j 0))) ∈ flatC (Jvm.Cond.and given_1 narrow_1) ∨ Cond.not (Cond.eq (.string RX6 (ud_kix.getD j 0)) (.string RX6 (ud_kix.getD 14 0))) ∈ flatC (Jvm.Cond.and given_1 narrow_1) := by decide +kernel
theorem ud_m6_15 : ∀ j, j < 22 → 15 < j → Cond.not (Cond.eq (.string RX6 (ud_kix.getD 15 0)) (.string RX6 (ud_kix.getD j 0))) ∈ flatC (Jvm.Cond.and given_1 narrow_1) ∨ Cond.not (Cond.eq (.string RX6 (ud_kix.getD j 0)) (.string RX6 (ud_kix.getD 15 0))) ∈ flatC (Jvm.Cond.and given_1 narrow_1) := by decide +kernel
theorem ud_m6_16 : ∀ j, j < 22 → 16 < j → Cond.not (Cond.eq (.string RX6 (ud_kix.getD 16 0)) (.string RX6 (ud_kix.getD j 0))) ∈ flatC (Jvm.Cond.and given_1 narrow_1) ∨ Cond.not (Cond.eq (.string RX6 (ud_kix.getD j 0)) (.string RX6 (ud_kix.getD 16 0))) ∈ flatC (Jvm.Cond.and given_1 narrow_1) := by decide +kernel
theorem ud_m6_17 : ∀ j, j < 22 → 17 < j → Cond.not (Cond.eq (.string RX6 (ud_kix.getD 17 0)) (.string RX6 (ud_kix.getD j 0))) ∈ flatC (Jvm.Cond.and given_1 narrow_1) ∨ Cond.not (Cond.eq (.string RX6 (ud_kix.getD j 0)) (.string RX6 (ud_kix.getD 17 0))) ∈ flatC (Jvm.Cond.and given_1 narrow_1) := by decide +kernel
theorem ud_m6_18 : ∀ j, j < 22 → 18 < j → Cond.not (Cond.eq (.string RX6 (ud_kix.getD 18 0)) (.string RX6 (ud_kix.getD j 0))) ∈ flatC (Jvm.Cond.and given_1 narrow_1) ∨ Cond.not (Cond.eq (.string RX6 (ud_kix.getD j 0)) (.string RX6 (ud_kix.getD 18 0))) ∈ flatC (Jvm.Cond.and given_1 narrow_1) := by decide +kernel
theorem ud_m6_19 : ∀ j, j < 22 → 19 < j → Cond.not (Cond.eq (.string RX6 (ud_kix.getD 19 0)) (.string RX6 (ud_kix.getD j 0))) ∈ flatC (Jvm.Cond.and given_1 narrow_1) ∨ Cond.not (Cond.eq (.string RX6 (ud_kix.getD j 0)) (.string RX6 (ud_kix.getD 19 0))) ∈ flatC (Jvm.Cond.and given_1 narrow_1) := by decide +kernel
theorem ud_m6_20 : ∀ j, j < 22 → 20 < j → Cond.not (Cond.eq (.string RX6 (ud_kix.getD 20 0)) (.string RX6 (ud_kix.getD j 0))) ∈ flatC (Jvm.Cond.and given_1 narrow_1) ∨ Cond.not (Cond.eq (.string RX6 (ud_kix.getD j 0)) (.string RX6 (ud_kix.getD 20 0))) ∈ flatC (Jvm.Cond.and given_1 narrow_1) := by decide +kernel
theorem ud_m6_21 : ∀ j, j < 22 → 21 < j → Cond.not (Cond.eq (.string RX6 (ud_kix.getD 21 0)) (.string RX6 (ud_kix.getD j 0))) ∈ flatC (Jvm.Cond.and given_1 narrow_1) ∨ Cond.not (Cond.eq (.string RX6 (ud_kix.getD j 0)) (.string RX6 (ud_kix.getD 21 0))) ∈ flatC (Jvm.Cond.and given_1 narrow_1) := by decide +kernel
theorem ud_m6a : ∀ i, i < 22 → ∀ j, j < 22 → i < j → Cond.not (Cond.eq (.string RX6 (ud_kix.getD i 0)) (.string RX6 (ud_kix.getD j 0))) ∈ flatC (Jvm.Cond.and given_1 narrow_1) ∨ Cond.not (Cond.eq (.string RX6 (ud_kix.getD j 0)) (.string RX6 (ud_kix.getD i 0))) ∈ flatC (Jvm.Cond.and given_1 narrow_1) := fun i hi => match i, hi with
  | 0, _ => ud_m6_0
  | 1, _ => ud_m6_1
  | 2, _ => ud_m6_2
  | 3, _ => ud_m6_3
  | 4, _ => ud_m6_4
  | 5, _ => ud_m6_5
  | 6, _ => ud_m6_6
  | 7, _ => ud_m6_7
  | 8, _ => ud_m6_8
  | 9, _ => ud_m6_9
  | 10, _ => ud_m6_10
  | 11, _ => ud_m6_11
  | 12, _ => ud_m6_12
  | 13, _ => ud_m6_13
  | 14, _ => ud_m6_14
  | 15, _ => ud_m6_15
  | 16, _ => ud_m6_16
  | 17, _ => ud_m6_17
  | 18, _ => ud_m6_18
  | 19, _ => ud_m6_19
  | 20, _ => ud_m6_20
  | 21, _ => ud_m6_21
  | q + 22, h => absurd h (by omega)
theorem ud_m6 (i : Nat) (hi : i < 22) (j : Nat) (hj : j < 22) (hn : i ≠ j) : Cond.not (Cond.eq (.string RX6 (ud_kix.getD i 0)) (.string RX6 (ud_kix.getD j 0))) ∈ flatC (Jvm.Cond.and given_1 narrow_1) ∨ Cond.not (Cond.eq (.string RX6 (ud_kix.getD j 0)) (.string RX6 (ud_kix.getD i 0))) ∈ flatC (Jvm.Cond.and given_1 narrow_1) := by
  rcases Nat.lt_or_gt_of_ne hn with h | h
  · exact ud_m6a i hi j hj h
  · exact (ud_m6a j hj i hi h).symm
theorem ud_m7 : ∀ i, i < 22 → Cond.stringRef RX6 (ud_kix.getD i 0) (ud_ktx.getD i "") ∈ lw_tbl := by decide +kernel
theorem ud_m8 : Cond.eq (.static "java/lang/String" "COMPACT_STRINGS" "Z") (.int 1) ∈ flatC (Jvm.Cond.and given_1 narrow_1) := by decide +kernel
theorem ud_m9 : Cond.isRef (.static "jdk/internal/util/Preconditions" "SIOOBE_FORMATTER" "Ljava/util/function/BiFunction;") ∈ flatC (Jvm.Cond.and given_1 narrow_1) := by decide +kernel
theorem ud_mA : Cond.arrayOver (.object RX8) ∈ lw_tbl := List.mem_of_getElem? (i := 467) (by decide +kernel)
theorem ud_mB : Cond.arrayOver (.object RX7) ∈ lw_tbl := List.mem_of_getElem? (i := 443) (by decide +kernel)
theorem ud_mC : Cond.laysStatic "java/lang/String" "COMPACT_STRINGS" "Z" ∈ lw_tbl := List.mem_of_getElem? (i := 576) (by decide +kernel)
theorem ud_mD : Cond.laysStatic "jdk/internal/util/Preconditions" "SIOOBE_FORMATTER" "Ljava/util/function/BiFunction;" ∈ lw_tbl := List.mem_of_getElem? (i := 592) (by decide +kernel)
def ud_Gf (a0 a1 a2 a3 a4 a5 : Nat) (adK adV : Nat → Nat) : Nat → Nat := fun i => if i < 10 then [a0, a1, a2, a3, a4, a5].getD i 0 else if (i - 10) % 2 = 0 then adK ((i - 10) / 2) else adV ((i - 10) / 2)
theorem ud_Gf_K (a0 a1 a2 a3 a4 a5 : Nat) (adK adV : Nat → Nat) : (fun i => ud_Gf a0 a1 a2 a3 a4 a5 adK adV (10 + 2 * i)) = adK := by
  funext i
  unfold ud_Gf
  rw [if_neg (by omega), if_pos (by omega), show (10 + 2 * i - 10) / 2 = i by omega]
theorem ud_Gf_V (a0 a1 a2 a3 a4 a5 : Nat) (adK adV : Nat → Nat) : (fun i => ud_Gf a0 a1 a2 a3 a4 a5 adK adV (11 + 2 * i)) = adV := by
  funext i
  unfold ud_Gf
  rw [if_neg (by omega), if_neg (by omega), show (11 + 2 * i - 10) / 2 = i by omega]
set_option maxHeartbeats 4000000 in
theorem ud_ctx {p : Program} {s : State} {m : MethodId} {meth : Method} {c : Code} {b L : Nat} {xs : Nat → Int32} (C0 : lw_At p s m meth c b L xs) : ∃ (D : va_G) (G : Nat → Nat), va_K D vwCl (ud_ty G) s ∧ ud_Str G s.heap.size s s.heap ∧ va_AO RX8 s ∧ va_AO RX7 s := by
  obtain ⟨hx, hb, hr, hml, hown, hts, hX, hbl, hlocks, hgv⟩ := C0
  have hs := flat_of_before _ hgv
  obtain ⟨c1, i1, k1⟩ := u_known (C := RX1) (T := TX1) (N := 5) (n := 5) hts (fun w hw => (List.mem_filter.mp (mu_1 w hw)).1) (hts _ (List.mem_filter.mp mw_404).1)
  obtain ⟨c2, i2, k2⟩ := u_known (C := RX2) (T := TX2) (N := 7) (n := 7) hts (fun w hw => (List.mem_filter.mp (mu_2 w hw)).1) (hts _ (List.mem_filter.mp mw_372).1)
  obtain ⟨c3, i3, k3⟩ := u_known (C := RX3) (T := TX3) (N := 2) (n := 2) hts (fun w hw => (List.mem_filter.mp (mu_3 w hw)).1) (hts _ (List.mem_filter.mp mw_430).1)
  obtain ⟨c4, i4, k4⟩ := u_known (C := RX4) (T := TX4) (N := 12) (n := 12) hts (fun w hw => (List.mem_filter.mp (mu_4 w hw)).1) (hts _ (List.mem_filter.mp mw_263).1)
  obtain ⟨c5, i5, k5⟩ := u_known (C := RX5) (T := TX5) (N := 15) (n := 15) hts (fun w hw => (List.mem_filter.mp (mu_5 w hw)).1) (hts _ (List.mem_filter.mp mw_311).1)
  obtain ⟨c6, i6, k6⟩ := u_known (C := RX6) (T := TX6) (N := 8) (n := 8) hts (fun w hw => (List.mem_filter.mp (mu_6 w hw)).1) (hts _ (List.mem_filter.mp mw_157).1)
  obtain ⟨c7, i7, k7⟩ := u_known (C := RX7) (T := TX7) (N := 4) (n := 4) hts (fun w hw => (List.mem_filter.mp (mu_7 w hw)).1) (hts _ (List.mem_filter.mp mw_444).1)
  obtain ⟨c8, i8, k8⟩ := u_known (C := RX8) (T := TX8) (N := 9) (n := 9) hts (fun w hw => (List.mem_filter.mp (mu_8 w hw)).1) (hts _ (List.mem_filter.mp mw_190).1)
  obtain ⟨c9, i9, k9⟩ := u_known (C := RX9) (T := TX9) (N := 2) (n := 2) hts (fun w hw => (List.mem_filter.mp (mu_9 w hw)).1) (hts _ (List.mem_filter.mp mw_141).1)
  obtain ⟨c10, i10, k10⟩ := u_known (C := RX10) (T := TX10) (N := 3) (n := 3) hts (fun w hw => (List.mem_filter.mp (mu_10 w hw)).1) (hts _ (List.mem_filter.mp mw_196).1)
  obtain ⟨c11, i11, k11⟩ := u_known (C := RX11) (T := TX11) (N := 12) (n := 12) hts (fun w hw => (List.mem_filter.mp (mu_11 w hw)).1) (hts _ (List.mem_filter.mp mw_133).1)
  obtain ⟨c12, i12, k12⟩ := u_known (C := RX12) (T := TX12) (N := 35) (n := 35) hts (fun w hw => (List.mem_filter.mp (mu_12 w hw)).1) (hts _ (List.mem_filter.mp mw_1296).1)
  obtain ⟨a0, ka0, cp0, f0, g0, h0⟩ := Cond.arrayClass_spec (hts _ (List.mem_filter.mp mw_155).1)
  obtain ⟨a1, ka1, cp1, f1, g1, h1⟩ := Cond.arrayClass_spec (hts _ (List.mem_filter.mp mw_466).1)
  obtain ⟨a2, ka2, cp2, f2, g2, h2⟩ := Cond.arrayClass_spec (hts _ (List.mem_filter.mp mw_760).1)
  obtain ⟨a3, ka3, cp3, f3, g3, h3⟩ := Cond.arrayClass_spec (hts _ (List.mem_filter.mp mw_1407).1)
  have hO4 : va_AO RX8 s := va_AO.of (hts _ ud_mA)
  have hO5 : va_AO RX7 s := va_AO.of (hts _ ud_mB)
  obtain ⟨cp4, a4, ka4, e4, -, g4, h4, f4⟩ := Cond.arrayOver_spec hO4
  obtain ⟨cp5, a5, ka5, e5, -, g5, h5, f5⟩ := Cond.arrayOver_spec hO5
  have hA : ∀ a : Nat, a < s.heap.size → ¬ (fun q : Nat => s.heap.size ≤ q) a := fun a h => Nat.not_le.mpr h
  have hlen : ∀ i, i < 22 → ud_len.getD i 0 < 2 ^ 31 := by decide
  obtain ⟨adK, adV, hS, hR⟩ := vk_Sof (N := 22) (tm := fun i => .string RX6 (ud_kix.getD i 0)) (len := ud_len) (byt := ud_byt) (A := fun q : Nat => s.heap.size ≤ q) hlen (fun i hi => hs _ (ud_m1 i hi)) (fun i hi => hs _ (ud_m2 i hi)) (fun i hi => hs _ (ud_m3 i hi)) (fun i hi => hs _ (ud_m4 i hi)) (fun i hi j hj => hs _ (ud_m5 i hi j hj)) (fun i j hi hj hn => (ud_m6 i hi j hj hn).imp (hs _) (hs _)) hA
  refine ⟨(fun k => [c1, c2, c3, c4, c5, c6, c7, c8, c9, c10, c11, c12].getD k 0, fun k => [i1, i2, i3, i4, i5, i6, i7, i8, i9, i10, i11, i12].getD k (fun _ => 0)), ud_Gf a0 a1 a2 a3 a4 a5 adK adV, ⟨fun k q hq => ?_, fun k q hq => ?_⟩, ⟨?_, fun i hi => ?_, ?_, ?_⟩, hO4, hO5⟩
  · match k, hq with
    | 0, hq => cases hq; exact k1
    | 1, hq => cases hq; exact k2
    | 2, hq => cases hq; exact k3
    | 3, hq => cases hq; exact k4
    | 4, hq => cases hq; exact k5
    | 5, hq => cases hq; exact k6
    | 6, hq => cases hq; exact k7
    | 7, hq => cases hq; exact k8
    | 8, hq => cases hq; exact k9
    | 9, hq => cases hq; exact k10
    | 10, hq => cases hq; exact k11
    | 11, hq => cases hq; exact k12
    | q + 12, hq => simp [vwCl] at hq
  · match k, hq with
    | 0, hq => cases hq; exact ⟨fun n z => ⟨fun k h => (by cases h), ka0, g0, cp0, h0⟩, f0⟩
    | 1, hq => cases hq; exact ⟨fun n z => ⟨fun k h => (by cases h), ka1, g1, cp1, h1⟩, f1⟩
    | 2, hq => cases hq; exact ⟨fun n z => ⟨fun k h => (by cases h), ka2, g2, cp2, h2⟩, f2⟩
    | 3, hq => cases hq; exact ⟨fun n z => ⟨fun k h => (by cases h), ka3, g3, cp3, h3⟩, f3⟩
    | 4, hq => cases hq; exact ⟨fun n z => ⟨fun k h => (by cases h), ka4, g4, cp4, h4⟩, ka4, cp4, g4, h4, e4, f4⟩
    | 5, hq => cases hq; exact ⟨fun n z => ⟨fun k h => (by cases h), ka5, g5, cp5, h5⟩, ka5, cp5, g5, h5, e5, f5⟩
    | q + 6, hq => simp [ud_ty] at hq
  · rw [ud_Gf_K, ud_Gf_V]
    exact hS
  · have hG : ud_Gf a0 a1 a2 a3 a4 a5 adK adV (10 + 2 * i) = adK i := congrFun (ud_Gf_K a0 a1 a2 a3 a4 a5 adK adV) i
    rw [hG]
    exact vk_R.of (hts _ (ud_m7 i hi)) (hR i hi)
  · exact va_Zof (hts _ ud_mC) (hts _ (List.mem_filter.mp mw_126).1) (va_eqi (hs _ ud_m8)) hA
  · exact va_Zqof (hts _ ud_mD) (hts _ (List.mem_filter.mp mw_128).1) (hs _ ud_m9) hA
