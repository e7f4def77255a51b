/-! making: a list of cells from z on that grows -/
def ud_Z : Nat → List va_E → va_W
  | _, [] => []
  | z, e :: t => (z, e) :: ud_Z (z + 1) t
theorem ud_Z_len : ∀ (E : List va_E) (z : Nat), (ud_Z z E).length = E.length
  | [], _ => rfl
  | _ :: t, z => by simp [ud_Z, ud_Z_len t (z + 1)]
theorem ud_Z_at : ∀ (E : List va_E) (z k : Nat) (e : va_E), E[k]? = some e → (ud_Z z E)[k]? = some (z + k, e)
  | [], _, _, _, h => by simp at h
  | a :: t, z, 0, e, h => by
    simp at h
    subst h
    rfl
  | a :: t, z, k + 1, e, h => by
    have h' : t[k]? = some e := by simpa using h
    have := ud_Z_at t (z + 1) k e h'
    simpa [ud_Z, Nat.add_assoc, Nat.add_comm 1 k] using this
theorem ud_Z_app : ∀ (E : List va_E) (z : Nat) (e : va_E), ud_Z z (E ++ [e]) = ud_Z z E ++ [(z + E.length, e)]
  | [], _, _ => rfl
  | a :: t, z, e => by
    have := ud_Z_app t (z + 1) e
    simp only [List.cons_append, ud_Z, this, List.length_cons]
    rw [show z + 1 + t.length = z + (t.length + 1) by omega]
theorem ud_Z_set : ∀ (E : List va_E) (z k : Nat) (e : va_E), (ud_Z z E).set k (z + k, e) = ud_Z z (E.set k e)
  | [], _, _, _ => rfl
  | a :: t, z, 0, e => rfl
  | a :: t, z, k + 1, e => by
    have := ud_Z_set t (z + 1) k e
    simp only [ud_Z, List.set_cons_succ]
    rw [← this, show z + 1 + k = z + (k + 1) by omega]
theorem ud_Z_lt {E : List va_E} {z k : Nat} {q : Nat × va_E} (h : (ud_Z z E)[k]? = some q) : k < E.length ∧ q.1 = z + k := by
  have hk : k < E.length := by
    have := (List.getElem?_eq_some_iff.mp h).1
    rwa [ud_Z_len] at this
  have h1 := ud_Z_at E z k _ (List.getElem?_eq_getElem hk)
  rw [h] at h1
  exact ⟨hk, by rw [Option.some.inj h1]⟩
theorem ud_Z_D {z : Nat} {E : List va_E} : va_D (fun q : Nat => z ≤ q) (ud_Z z E) := by
  refine ⟨fun i j p q hi hj hpq => ?_, fun k q hk => ?_⟩
  · have h1 := (ud_Z_lt hi).2
    have h2 := (ud_Z_lt hj).2
    omega
  · have := (ud_Z_lt hk).2
    show z ≤ q.1
    omega
def ud_CY (D : va_G) (G : Nat → Nat) (z : Nat) (p : Program) (s : State) (m : MethodId) (args : Array Value) (meth : Method) (c : Code) (cc : ByteArray) (nL : Nat) (own : String) : Prop :=
  CallFix p m c cc nL s args ud_gw own ∧ va_K D vwCl (ud_ty G) s ∧ meth.locks = false ∧ z ≤ s.heap.size ∧ (va_AO RX8 s ∧ va_AO RX7 s)
def ud_Y (D : va_G) (z : Nat) (p : Program) (l : Launch) (e : Env) (R : Room) (s : State) (m : MethodId) (args : Array Value) (below : List Frame) (meth : Method) (c : Code) (nL cs ss : Nat) (Q : State → Prop) (E : List va_E) (pc : Nat) (lv : List (Nat × Value)) (st : List Value) : Prop :=
  ∀ (H : Heap) (locs : List Loc) (ls : Array Slot), va_P D vwCl (ud_Z z E) H → H.size = z + E.length → va_S (fun q : Nat => z ≤ q) s.heap H locs → lv_has ls nL lv → W p l e R s m args below meth c H locs cs ss Q (F0 m pc ls st)
def ud_PY (D : va_G) (G : Nat → Nat) (z : Nat) (av : List Value) (E : List va_E) : Array Value → State → Prop := va_Pc av (fun U => va_P D vwCl (ud_Z z E) U.heap ∧ U.heap.size = z + E.length ∧ va_K D vwCl (ud_ty G) U ∧ va_AO RX8 U ∧ va_AO RX7 U)
def ud_QY (D : va_G) (z : Nat) (E : List va_E) : Array Value → State → Outcome → State → Prop := fun _ st oc t => (oc = .returned none ∧ va_P D vwCl (ud_Z z E) t.heap ∧ t.heap.size = z + E.length) ∧ va_F (fun q : Nat => z ≤ q) st t
def ud_MY (l : Launch) (D : va_G) (G : Nat → Nat) (z : Nat) (y : MethodName) (cc : ByteArray) (maxL : Nat) (lev mc ms : Nat) (av : List Value) (E E' : List va_E) : Prop :=
  Met l y (ud_ws y cc maxL none) (ud_rm lev mc ms) (ud_PY D G z av E) (ud_QY D z E') mc ms (fun q : Nat => z ≤ q)
theorem ud_blindY {D : va_G} {G : Nat → Nat} {z : Nat} {av : List Value} {E : List va_E} : FrameBlind (ud_PY D G z av E) := by
  intro a0 U g mk hq
  obtain ⟨h1, h2, h3, h4, h5, h6⟩ := hq
  exact ⟨h1, h2, h3, va_K.moved (u := U) (U := U.calling g mk a0) (Vm.Alike.refl U.vm) h4, va_AO.moved (u := U) (U := U.calling g mk a0) (Vm.Alike.refl U.vm) h5, va_AO.moved (u := U) (U := U.calling g mk a0) (Vm.Alike.refl U.vm) h6⟩
section UY
variable {D : va_G} {G : Nat → Nat} {z : Nat} {p : Program} {l : Launch} {e : Env} {R : Room} {s : State} {m : MethodId} {args : Array Value} {below : List Frame} {meth : Method} {c : Code} {cc : ByteArray} {nL cs ss : Nat} {own : String} {Q : State → Prop} {E E' : List va_E} {pc : Nat} {lv lv' : List (Nat × Value)} {st : List Value}
theorem ud_MY_of {y : MethodName} {maxL lev mc ms : Nat} {av : List Value} (hy : plainName y.cls = true) (hle : (lg_sl av).length ≤ maxL) (hE : 0 < E.length)
    (body : ∀ (p : Program) (e : Env) (s : State) (m : MethodId) (args : Array Value) (below : List Frame) (meth : Method) (c : Code), ud_CY D G z p s m args meth c cc maxL y.cls → meth.sig.returnType = none → (y.name = "<init>" → meth.name = "<init>") → ud_Y D z p l e (ud_rm lev mc ms) s m args below meth c maxL 0 0 (MQ below (ud_QY D z E') args s mc ms (fun q : Nat => z ≤ q)) E 0 (lv_args 0 av) []) : ud_MY l D G z y cc maxL lev mc ms av E E' := by
  refine Met.ofW (cc := cc) (maxL := maxL) (ret := none) hy rfl ?_
  intro p e s m args below meth c s₁ B hml hv
  obtain ⟨rfl, hP, hz, hK, hO1, hO2⟩ := hv
  have C : ud_CY D G z p s m av.toArray meth c cc maxL y.cls := ⟨⟨B.exec, B.bytes, hml, findClass_of_methodNamed B.named, fun w hw => atoms_spec (ws := ud_ws y cc maxL none) B.pre w (List.mem_cons_of_mem _ hw)⟩, hK, B.notSynchronized, by omega, hO1, hO2⟩
  have hl := lv_entry av (n := maxL) hle
  rw [lg_entry_eq]
  exact body p e s m av.toArray below meth c C B.returns (fun h => (name_of_methodNamed B.named B.method).1.trans h) s.heap [] _ hP hz va_S.rf hl
theorem uy_iconst (C : ud_CY D G z p s m args meth c cc nL own) {n : Int} {v : Int32} (hv : Int32.ofInt n = v) (hd : decode cc pc = .ok (.iconst n, 1)) (k : ud_Y D z p l e R s m args below meth c nL cs ss Q E (pc + 1) lv (.int v :: st)) : ud_Y D z p l e R s m args below meth c nL cs ss Q E pc lv st := fun H locs ls h1 h0 h2 h3 => lv_iconst C.1.1 C.1.2.1 hd hv (k H locs ls h1 h0 h2 h3)
theorem uy_bipush (C : ud_CY D G z p s m args meth c cc nL own) {n : Int} {v : Int32} (hv : (Int8.ofInt n).toInt32 = v) (hd : decode cc pc = .ok (.bipush n, 2)) (k : ud_Y D z p l e R s m args below meth c nL cs ss Q E (pc + 2) lv (.int v :: st)) : ud_Y D z p l e R s m args below meth c nL cs ss Q E pc lv st := fun H locs ls h1 h0 h2 h3 => lv_bipush C.1.1 C.1.2.1 hd hv (k H locs ls h1 h0 h2 h3)
theorem uy_sipush (C : ud_CY D G z p s m args meth c cc nL own) {n : Int} {v : Int32} (hv : (Int16.ofInt n).toInt32 = v) (hd : decode cc pc = .ok (.sipush n, 3)) (k : ud_Y D z p l e R s m args below meth c nL cs ss Q E (pc + 3) lv (.int v :: st)) : ud_Y D z p l e R s m args below meth c nL cs ss Q E pc lv st := fun H locs ls h1 h0 h2 h3 => lv_sipush C.1.1 C.1.2.1 hd hv (k H locs ls h1 h0 h2 h3)
theorem uy_aload_n (C : ud_CY D G z p s m args meth c cc nL own) (j : Nat) {i : Nat} {k0 : Fin 4} {x : Nat} (hi : (k0 : Nat) = i) (hj : lv[j]? = some (i, .ref x)) (hd : decode cc pc = .ok (.aload_n k0, 1)) (k : ud_Y D z p l e R s m args below meth c nL cs ss Q E (pc + 1) lv (.ref x :: st)) : ud_Y D z p l e R s m args below meth c nL cs ss Q E pc lv st := fun H locs ls h1 h0 h2 h3 => lv_aload_n C.1.1 C.1.2.1 hd hi (lv_at h3 j hj) (k H locs ls h1 h0 h2 h3)
theorem uy_iload_n (C : ud_CY D G z p s m args meth c cc nL own) (j : Nat) {i : Nat} {k0 : Fin 4} {x : Int32} (hi : (k0 : Nat) = i) (hj : lv[j]? = some (i, .int x)) (hd : decode cc pc = .ok (.iload_n k0, 1)) (k : ud_Y D z p l e R s m args below meth c nL cs ss Q E (pc + 1) lv (.int x :: st)) : ud_Y D z p l e R s m args below meth c nL cs ss Q E pc lv st := fun H locs ls h1 h0 h2 h3 => lv_iload_n C.1.1 C.1.2.1 hd hi (lv_at h3 j hj) (k H locs ls h1 h0 h2 h3)
theorem uy_dup (C : ud_CY D G z p s m args meth c cc nL own) {v : Value} (hv : v.category = 1) (hd : decode cc pc = .ok (.dup, 1)) (k : ud_Y D z p l e R s m args below meth c nL cs ss Q E (pc + 1) lv (v :: v :: st)) : ud_Y D z p l e R s m args below meth c nL cs ss Q E pc lv (v :: st) := fun H locs ls h1 h0 h2 h3 => lv_dup C.1.1 C.1.2.1 hd hv (k H locs ls h1 h0 h2 h3)
theorem uy_astore_n (C : ud_CY D G z p s m args meth c cc nL own) {i : Nat} {x : Nat} {k0 : Fin 4} (hi : (k0 : Nat) = i) (hn : i < nL) (hl : (i, Value.ref x) :: lv.filter (fun q => !(q.1 == i) && !(q.1 + 1 == i && q.2.category == 2)) = lv') (hd : decode cc pc = .ok (.astore_n k0, 1)) (k : ud_Y D z p l e R s m args below meth c nL cs ss Q E (pc + 1) lv' st) : ud_Y D z p l e R s m args below meth c nL cs ss Q E pc lv (.ref x :: st) := fun H locs ls h1 h0 h2 h3 => lv_astore_n C.1.1 C.1.2.1 hd hi h3 hn hl (fun ls h3 => (k H locs ls h1 h0 h2 h3))
theorem uy_istore_n (C : ud_CY D G z p s m args meth c cc nL own) {i : Nat} {x : Int32} {k0 : Fin 4} (hi : (k0 : Nat) = i) (hn : i < nL) (hl : (i, Value.int x) :: lv.filter (fun q => !(q.1 == i) && !(q.1 + 1 == i && q.2.category == 2)) = lv') (hd : decode cc pc = .ok (.istore_n k0, 1)) (k : ud_Y D z p l e R s m args below meth c nL cs ss Q E (pc + 1) lv' st) : ud_Y D z p l e R s m args below meth c nL cs ss Q E pc lv (.int x :: st) := fun H locs ls h1 h0 h2 h3 => lv_istore_n C.1.1 C.1.2.1 hd hi h3 hn hl (fun ls h3 => (k H locs ls h1 h0 h2 h3))
theorem uy_iinc (C : ud_CY D G z p s m args meth c cc nL own) (j : Nat) {i : Nat} {n : Int} {x v : Int32} (hj : lv[j]? = some (i, .int x)) (hv : x + Int32.ofInt n = v) (hn : i < nL) (hl : (i, Value.int v) :: lv.filter (fun q => !(q.1 == i) && !(q.1 + 1 == i && q.2.category == 2)) = lv') (hd : decode cc pc = .ok (.iinc i n, 3)) (k : ud_Y D z p l e R s m args below meth c nL cs ss Q E (pc + 3) lv' st) : ud_Y D z p l e R s m args below meth c nL cs ss Q E pc lv st := fun H locs ls h1 h0 h2 h3 => lv_iinc C.1.1 C.1.2.1 hd h3 hj hv hn hl (fun ls h3 => (k H locs ls h1 h0 h2 h3))
theorem uy_goto (C : ud_CY D G z p s m args meth c cc nL own) {off : Int} {tgt : Nat} (ht : (pc : Int) + off = (tgt : Int)) (hd : decode cc pc = .ok (.goto off, 3)) (k : ud_Y D z p l e R s m args below meth c nL cs ss Q E tgt lv st) : ud_Y D z p l e R s m args below meth c nL cs ss Q E pc lv st := fun H locs ls h1 h0 h2 h3 => lv_goto C.1.1 C.1.2.1 hd ht (k H locs ls h1 h0 h2 h3)
theorem uy_icmp_ge (C : ud_CY D G z p s m args meth c cc nL own) {x y : Int32} {off : Int} {tgt : Nat} (ht : (pc : Int) + off = (tgt : Int)) (hd : decode cc pc = .ok (.if_icmp .ge off, 3)) (kt : y ≤ x → ud_Y D z p l e R s m args below meth c nL cs ss Q E tgt lv st) (kf : ¬ y ≤ x → ud_Y D z p l e R s m args below meth c nL cs ss Q E (pc + 3) lv st) : ud_Y D z p l e R s m args below meth c nL cs ss Q E pc lv (.int y :: .int x :: st) := fun H locs ls h1 h0 h2 h3 => lv_icmp_ge C.1.1 C.1.2.1 hd ht (fun q => kt q H locs ls h1 h0 h2 h3) (fun q => kf q H locs ls h1 h0 h2 h3)
theorem uy_pick (ks : List Nat) (hl : lv_pick lv ks = lv') (k : ud_Y D z p l e R s m args below meth c nL cs ss Q E pc lv' st) : ud_Y D z p l e R s m args below meth c nL cs ss Q E pc lv st := fun H locs ls h1 h0 h2 h3 => k H locs ls h1 h0 h2 (lv_sub h3 ks hl)
theorem uy_new (C : ud_CY D G z p s m args meth c cc nL own) {ci Nf idx : Nat} {Cn : String} {T : u_T} {fs : List Value} (ty : Nat → FieldType) (hty : ∀ k, k < Nf → parseFieldDescriptor (T k).2.2.1 = some (ty k)) (hin : ∀ w ∈ u_ws Cn T Nf, w ∈ ud_gw) (hcl : Cond.classLink own idx Cn ∈ ud_gw) (hinst : Cond.instantiable Cn Nf ∈ ud_gw) (hini : Cond.initialized Cn ∈ ud_gw) (hc : vwCl[ci]? = some (Cn, T, Nf)) (hfs : ∀ j, j < Nf → defaultValue (ty j) = vp_V fs j) (hcells : cs + 1 ≤ R.cells) (hslots : ss + Nf ≤ R.slots) (hd : decode cc pc = .ok (.new idx, 3)) (k : ud_Y D z p l e R s m args below meth c nL (cs + 1) (ss + Nf) Q (E ++ [.inr (ci, fs)]) (pc + 3) lv (.ref (z + E.length) :: st)) : ud_Y D z p l e R s m args below meth c nL cs ss Q E pc lv st := by
  intro H locs ls h1 h0 h2 h3
  have hKn := C.2.1.1 ci _ hc
  refine W.newcK C.1.1 C.1.2.1 C.1.2.2.2.1 (C.1.2.2.2.2 _ hcl) (C.1.2.2.2.2 _ hinst) (C.1.2.2.2.2 _ hini) rfl hd hcells hslots hKn.2.1 rfl fun H1 kC hkC e1 z1 o1 => ?_
  have hk : ∀ (k : Nat) (x : Nat × va_E), (ud_Z z E)[k]? = some x → H1[x.1]? = H[x.1]? := fun k x hx => o1 x.1 ((h1 k x hx).lt)
  rw [show (Value.ref H.size : Value) = .ref (z + E.length) by rw [h0]]
  refine k H1 locs ls ?_ (by rw [z1, h0]; simp; omega) ⟨Nat.le_trans h2.1 (by omega), fun x q1 q2 => (o1 x (Nat.lt_of_lt_of_le q1 h2.1)).trans (h2.2.1 x q1 q2), h2.2.2⟩ h3
  rw [ud_Z_app]
  refine (h1.kept hk).app (fun k x hx => ?_)
  have hz : k < 1 := (List.getElem?_eq_some_iff.mp hx).1
  rw [show k = 0 by omega] at hx
  cases hx
  refine ⟨_, hc, ?_⟩
  show t_OB (z + E.length) _ _ _ H1 _
  rw [← h0]
  exact (u_born ty C.1.2.2.2.2 hin hKn hkC e1 hty).to hfs
theorem uy_newa (C : ud_CY D G z p s m args meth c cc nL own) {atype : ArrayType} (harr : Cond.arrayClass (newarray.typeOf atype) ∈ ud_gw) {ty : FieldType} (hty : newarray.typeOf atype = ty) {g0 : Nat} (hG : (G g0, ty) ∈ ud_ty G) {n : Int32} {N' : Nat} {a0 : vp_A} (ha : ∀ cA : ClassId, vp_cell cA a0 = arrV cA N' (fun _ => defaultValue ty)) (hn : ¬ n < 0) (hN : n.toNatClampNeg = N') (hbytes : N' * componentBytes ty ≤ 536870912) (hcells : cs + 1 ≤ R.cells) (hslots : ss + N' ≤ R.slots) (hd : decode cc pc = .ok (.newarray atype, 2)) (k : ud_Y D z p l e R s m args below meth c nL (cs + 1) (ss + N') Q (E ++ [.inl (G g0, a0)]) (pc + 2) lv (.ref (z + E.length) :: st)) : ud_Y D z p l e R s m args below meth c nL cs ss Q E pc lv (.int n :: st) := by
  intro H locs ls h1 h0 h2 h3
  subst hty
  obtain ⟨t0, ht0⟩ := List.getElem?_of_mem hG
  refine va_newaK C.1.1 C.1.2.1 (C.1.2.2.2.2 _ harr) rfl hd rfl hn hN hbytes hcells hslots rfl fun H1 cA e1 z1 o1 hAr hNm => ?_
  have hk : ∀ (k : Nat) (x : Nat × va_E), (ud_Z z E)[k]? = some x → H1[x.1]? = H[x.1]? := fun k x hx => o1 x.1 ((h1 k x hx).lt)
  have hg : G g0 = cA := by
    have q := (C.2.1.2 t0 _ ht0).2
    have q2 : s.vm.findClass ("[" ++ (newarray.typeOf atype).toString) = some (G g0) := by
      cases atype <;> exact q
    exact Option.some.inj (q2.symm.trans hNm)
  rw [show (Value.ref H.size : Value) = .ref (z + E.length) by rw [h0]]
  refine k H1 locs ls ?_ (by rw [z1, h0]; simp; omega) ⟨Nat.le_trans h2.1 (by omega), fun x q1 q2 => (o1 x (Nat.lt_of_lt_of_le q1 h2.1)).trans (h2.2.1 x q1 q2), h2.2.2⟩ h3
  rw [ud_Z_app]
  refine (h1.kept hk).app (fun k x hx => ?_)
  have hz : k < 1 := (List.getElem?_eq_some_iff.mp hx).1
  rw [show k = 0 by omega] at hx
  cases hx
  show H1[z + E.length]? = some (vp_cell _ _)
  rw [ha, ← h0, hg]
  exact e1
theorem uy_newq (C : ud_CY D G z p s m args meth c cc nL own) {idx : Nat} {Cn : String} (hcl : Cond.classLink own idx Cn ∈ ud_gw) (hover : va_AO Cn s) {g0 t0 : Nat} (hG : (ud_ty G)[t0]? = some (G g0, .object Cn)) {n : Int32} {N' : Nat} (hn : ¬ n < 0) (hN : n.toNatClampNeg = N') (hbytes : N' * 4 ≤ 536870912) (hcells : cs + 1 ≤ R.cells) (hslots : ss + N' ≤ R.slots) (hd : decode cc pc = .ok (.anewarray idx, 3)) (k : ud_Y D z p l e R s m args below meth c nL (cs + 1) (ss + N') Q (E ++ [.inl (G g0, N', .inr (.inr (.inr (.inr (fun _ => none)))))]) (pc + 3) lv (.ref (z + E.length) :: st)) : ud_Y D z p l e R s m args below meth c nL cs ss Q E pc lv (.int n :: st) := by
  intro H locs ls h1 h0 h2 h3
  subst hN
  refine W.anew C.1.1 C.1.2.1 C.1.2.2.2.1 (C.1.2.2.2.2 _ hcl) (va_AO.use hover) rfl hd rfl hn hbytes hcells hslots fun cA kA comp f1 f2 f3 f4 => ?_
  have hg : G g0 = cA := by
    obtain ⟨kA', comp', q1, q2, q3, q4⟩ := (C.2.1.2 t0 _ hG).2
    exact Option.some.inj (q4.symm.trans f1)
  generalize hH1 : H.push ({ cls := cA, slots := Array.replicate n.toNatClampNeg .null, vm := .none } : Cell) = H1
  have z1 : H1.size = H.size + 1 := by rw [← hH1, Array.size_push]
  have e1 : H1[H.size]? = some (arrV cA n.toNatClampNeg (fun _ => .null)) := by rw [← hH1, Array.getElem?_push_size, ← arrV_new]
  have o1 : ∀ q : Nat, q < H.size → H1[q]? = H[q]? := fun q hq => by rw [← hH1, Array.getElem?_push, if_neg (Nat.ne_of_lt hq)]
  have hk : ∀ (k : Nat) (x : Nat × va_E), (ud_Z z E)[k]? = some x → H1[x.1]? = H[x.1]? := fun k x hx => o1 x.1 ((h1 k x hx).lt)
  rw [show (Value.ref H.size : Value) = .ref (z + E.length) by rw [h0]]
  refine k H1 locs ls ?_ (by rw [z1, h0]; simp; omega) ⟨Nat.le_trans h2.1 (by omega), fun x q1 q2 => (o1 x (Nat.lt_of_lt_of_le q1 h2.1)).trans (h2.2.1 x q1 q2), h2.2.2⟩ h3
  rw [ud_Z_app]
  refine (h1.kept hk).app (fun k x hx => ?_)
  have hz : k < 1 := (List.getElem?_eq_some_iff.mp hx).1
  rw [show k = 0 by omega] at hx
  cases hx
  show H1[z + E.length]? = some (vp_cell _ _)
  rw [← h0, hg]
  exact e1
theorem uy_astq (C : ud_CY D G z p s m args meth c cc nL own) {q0 qk ci t0 g0 : Nat} {r : vw_C} {n : Nat} {vs : List Value} {f : Nat → Option Nat} (ha : E[q0]? = some (.inl (G g0, n, .inr (.inr (.inr (.inr f)))))) (ht : (ud_ty G)[t0]? = some (G g0, .object r.1)) (hv : E[qk]? = some (.inr (ci, vs))) (hc : vwCl[ci]? = some r) {i : Int32} (hin : vp_in i n) (hE : E.set q0 (.inl (G g0, n, .inr (.inr (.inr (.inr (va_up f i.toNatClampNeg (some (z + qk)))))))) = E') (hd : decode cc pc = .ok (.aastore, 1)) (k : ud_Y D z p l e R s m args below meth c nL cs ss Q E' (pc + 1) lv st) : ud_Y D z p l e R s m args below meth c nL cs ss Q E pc lv (.ref (z + qk) :: .int i :: .ref (z + q0) :: st) := by
  intro H locs ls h1 h0 h2 h3
  have hlt : i.toNatClampNeg < n := Nat.not_le.mp fun q => hin (Or.inr q)
  have hi0 : ¬ i < 0 := fun q => hin (Or.inl q)
  have hv' := ud_Z_at E z qk _ hv
  have ha' := ud_Z_at E z q0 _ ha
  obtain ⟨r', hr', cellV, g1, g2, g3, -⟩ := h1 qk _ hv'
  have hcls := (C.2.1.1 ci r hc).2
  obtain ⟨kA, comp, k1, k2, k3, -⟩ := (C.2.1.2 t0 _ ht).2
  have hcomp : comp = D.1 ci := Option.some.inj (k3.symm.trans hcls.1)
  subst hcomp
  obtain ⟨kC, hkC, -⟩ := hcls.2
  refine W.aast C.1.1 C.1.2.1 (h1 q0 _ ha') (fun q h => by cases h) (fun h => by cases h) k1 k2 rfl hkC ⟨hi0, by show _ < (arrV _ _ _).slots.size; rw [arrV_size]; exact hlt⟩ g1 (fun q h => by rw [g3] at h; cases h) (by rw [g2]; exact hkC) (by rw [g2]; exact va_assign hcls) rfl rfl hd fun H1 e z1 oq => ?_
  subst hE
  refine k H1 _ ls ?_ (by rw [z1, h0]; simp) (h2.put z1 oq (by show z ≤ z + q0; omega)) h3
  rw [← ud_Z_set]
  refine h1.set ud_Z_D ha' ?_ oq
  show H1[z + q0]? = some (vp_cell _ _)
  rw [e]
  rw [vp_cell_q, vp_cell_q, arrV_store]
  congr 2
  funext q
  by_cases hq : q = i.toNatClampNeg
  · subst hq
    simp [updV, va_up, va_rf]
  · simp [updV, va_up, hq]
theorem uy_putF (C : ud_CY D G z p s m args meth c cc nL own) {k0 ci Nf idx : Nat} {fs : List Value} {Cn : String} {T : u_T} {ty0 : Nat → FieldType} (he : E[k0]? = some (.inr (ci, fs))) (hc : vwCl[ci]? = some (Cn, T, Nf)) (hin : ∀ w ∈ u_ws Cn T Nf, w ∈ ud_gw) (hty : ∀ k, k < Nf → parseFieldDescriptor (T k).2.2.1 = some (ty0 k)) (hnm : ∀ a, a < Nf → ∀ b, b < Nf → a ≠ b → (T a).2.1 ≠ (T b).2.1) (j : Nat) (hj : j < Nf) (hlink : Cond.fieldLink own idx (T j).1 (T j).2.1 (T j).2.2.1 ∈ ud_gw) (hdecl : (T j).1 = own) (hfin : (T j).2.2.2 = true) (hin2 : meth.name = "<init>") {v : Value} {ty : FieldType} (hpd : parseFieldDescriptor (T j).2.2.1 = some ty) (hn : narrow ty v = v) (hfit : fits ty v = true) (hlen : j < fs.length) (hE : E.set k0 (.inr (ci, fs.set j v)) = E') (hd : decode cc pc = .ok (.putfield idx, 3)) (k : ud_Y D z p l e R s m args below meth c nL cs ss Q E' (pc + 3) lv st) : ud_Y D z p l e R s m args below meth c nL cs ss Q E pc lv (v :: .ref (z + k0) :: st) := by
  intro H locs ls h1 h0 h2 h3
  have he' := ud_Z_at E z k0 _ he
  have hts := C.1.2.2.2.2
  have hap := va_apart (own := own) hts hin ty0 hty hnm C.2.1 hc
  obtain ⟨r, h1', cell, q1, q2, q3, q4⟩ := h1 k0 _ he'
  have hr : r = (Cn, T, Nf) := Option.some.inj (h1'.symm.trans hc)
  subst hr
  obtain ⟨hS, hfc, kC, hkC, hkind⟩ := C.2.1.1 ci _ hc
  obtain ⟨cf, kf, fi, f, hi, hsl⟩ := hS j hj
  have hlay := hts _ (hin _ (u_in_lay hj))
  unfold u_lay at hlay
  have hst := (u_facts hfc hkC (u_lays hts hin hj) hi).1
  rw [if_pos hfin] at hlay
  have hcf : m.cls = cf := by
    obtain ⟨_, _, c', _, _, _, -, -, hf', -, -, -, hown2, -⟩ := Cond.laysFinal_spec hlay
    have e1 : c' = cf := by have := hi.symm.trans hf'; simp at this; exact this.1.symm
    rw [hdecl] at hown2
    rw [← e1]; exact Option.some.inj (C.1.2.2.2.1.symm.trans hown2)
  have h6 := u_fits hfc hkC hkind (Or.inr hlay) hi hpd hn hfit
  refine W.putFinK C.1.1 C.1.2.1 C.1.2.2.2.1 (hts _ hlink) hi hst hcf hin2 (by rw [q2]; exact h6) q1 q3 (by rw [hsl]; exact k2_hasslot (q4 j hj)) rfl rfl hd fun H' e1 e2 e3 => ?_
  rw [hsl] at e1 ⊢
  subst hE
  refine k H' _ ls ?_ (by rw [e2, h0]; simp) (h2.put e2 e3 (by show z ≤ z + k0; omega)) h3
  rw [← ud_Z_set]
  exact h1.set ud_Z_D he' ⟨_, hc, t_OB.to (V := updV (vp_V fs) j v) ⟨_, e1, q2, q3, t_set q4 hap hj v⟩ (fun i _ => vp_updV_set hlen v i)⟩ e3
theorem uy_put (C : ud_CY D G z p s m args meth c cc nL own) {k0 ci Nf idx : Nat} {fs : List Value} {Cn : String} {T : u_T} {ty0 : Nat → FieldType} (he : E[k0]? = some (.inr (ci, fs))) (hc : vwCl[ci]? = some (Cn, T, Nf)) (hin : ∀ w ∈ u_ws Cn T Nf, w ∈ ud_gw) (hty : ∀ k, k < Nf → parseFieldDescriptor (T k).2.2.1 = some (ty0 k)) (hnm : ∀ a, a < Nf → ∀ b, b < Nf → a ≠ b → (T a).2.1 ≠ (T b).2.1) (j : Nat) (hj : j < Nf) (hlink : Cond.fieldLink own idx (T j).1 (T j).2.1 (T j).2.2.1 ∈ ud_gw) (hfin : (T j).2.2.2 = false) {v : Value} {ty : FieldType} (hpd : parseFieldDescriptor (T j).2.2.1 = some ty) (hn : narrow ty v = v) (hfit : fits ty v = true) (hlen : j < fs.length) (hE : E.set k0 (.inr (ci, fs.set j v)) = E') (hd : decode cc pc = .ok (.putfield idx, 3)) (k : ud_Y D z p l e R s m args below meth c nL cs ss Q E' (pc + 3) lv st) : ud_Y D z p l e R s m args below meth c nL cs ss Q E pc lv (v :: .ref (z + k0) :: st) := by
  intro H locs ls h1 h0 h2 h3
  have he' := ud_Z_at E z k0 _ he
  have hts := C.1.2.2.2.2
  have hap := va_apart (own := own) hts hin ty0 hty hnm C.2.1 hc
  obtain ⟨r, h1', cell, q1, q2, q3, q4⟩ := h1 k0 _ he'
  have hr : r = (Cn, T, Nf) := Option.some.inj (h1'.symm.trans hc)
  subst hr
  obtain ⟨hS, hfc, kC, hkC, hkind⟩ := C.2.1.1 ci _ hc
  obtain ⟨cf, kf, fi, f, hi, hsl⟩ := hS j hj
  have hlay := hts _ (hin _ (u_in_lay hj))
  unfold u_lay at hlay
  have hst := (u_facts hfc hkC (u_lays hts hin hj) hi).1
  rw [if_neg (by rw [hfin]; decide)] at hlay
  have h6 := u_store hfc hkC hkind hlay hi hpd hn hfit
  refine W.putK C.1.1 C.1.2.1 (f := f) ⟨C.1.2.2.2.1, hts _ hlink, ⟨_, _, _, hi⟩, hst⟩ (by rw [q2]; exact h6) q1 q3 (by rw [hsl]; exact k2_hasslot (q4 j hj)) rfl rfl hd fun H' e1 e2 e3 => ?_
  rw [hsl] at e1 ⊢
  subst hE
  refine k H' _ ls ?_ (by rw [e2, h0]; simp) (h2.put e2 e3 (by show z ≤ z + k0; omega)) h3
  rw [← ud_Z_set]
  exact h1.set ud_Z_D he' ⟨_, hc, t_OB.to (V := updV (vp_V fs) j v) ⟨_, e1, q2, q3, t_set q4 hap hj v⟩ (fun i _ => vp_updV_set hlen v i)⟩ e3

theorem ud_at {E0 L : List va_E} {k : Nat} (hk : E0.length = k) (d : Nat) {x : va_E} (h : L[d]? = some x) : (E0 ++ L)[k + d]? = some x := by
  rw [List.getElem?_append_right (by omega), hk, Nat.add_sub_cancel_left]
  exact h
theorem ud_st {E0 L : List va_E} {k : Nat} (hk : E0.length = k) (d : Nat) {x : va_E} : (E0 ++ L).set (k + d) x = E0 ++ L.set d x := by
  rw [List.set_append_right _ _ (by omega), hk, Nat.add_sub_cancel_left]
theorem ud_ln {E0 L : List va_E} {k n : Nat} (hk : E0.length = k) (h : L.length = n) : (E0 ++ L).length = k + n := by rw [List.length_append, hk, h]
theorem uy_get (C : ud_CY D G z p s m args meth c cc nL own) {k0 ci Nf idx : Nat} {fs : List Value} {Cn : String} {T : u_T} (he : E[k0]? = some (.inr (ci, fs))) (hc : vwCl[ci]? = some (Cn, T, Nf)) (hin : ∀ w ∈ u_ws Cn T Nf, w ∈ ud_gw) (j : Nat) (hj : j < Nf) (hlink : Cond.fieldLink own idx (T j).1 (T j).2.1 (T j).2.2.1 ∈ ud_gw) {v : Value} (hv : fs[j]? = some v) (hd : decode cc pc = .ok (.getfield idx, 3)) (kk : ud_Y D z p l e R s m args below meth c nL cs ss Q E (pc + 3) lv (v :: st)) : ud_Y D z p l e R s m args below meth c nL cs ss Q E pc lv (.ref (z + k0) :: st) := fun H locs ls h1 h0 h2 h3 =>
  va_get C.1.1 C.1.2.1 C.1.2.2.2.2 hin C.1.2.2.2.1 C.2.1 h1 k0 (ud_Z_at E z k0 _ he) hc j hj (C.1.2.2.2.2 _ hlink) (fun _ h => h) hv hd (kk H locs ls h1 h0 h2 h3)
theorem uy_iast (C : ud_CY D G z p s m args meth c cc nL own) {k0 n : Nat} {f : Nat → Int32} (he : E[k0]? = some (.inl (G 0, n, .inl f))) {i x : Int32} (hin : vp_in i n) (hE : E.set k0 (.inl (G 0, n, .inl (upd f i.toNatClampNeg x))) = E') (hd : decode cc pc = .ok (.iastore, 1)) (k : ud_Y D z p l e R s m args below meth c nL cs ss Q E' (pc + 1) lv st) : ud_Y D z p l e R s m args below meth c nL cs ss Q E pc lv (.int x :: .int i :: .ref (z + k0) :: st) := by
  intro H locs ls h1 h0 h2 h3
  have ha' := ud_Z_at E z k0 _ he
  refine W.iast C.1.1 C.1.2.1 (h1 k0 _ ha') ((C.2.1.2 0 _ rfl).1 n (fun j => .int (f j))) (fun q => by cases q) (by show ¬ (i < 0 ∨ (arrV _ _ _).slots.size ≤ _); rw [arrV_size]; exact hin) rfl rfl hd fun H1 e z1 oq => ?_
  subst hE
  refine k H1 _ ls ?_ (by rw [z1, h0]; simp) (h2.put z1 oq (by show z ≤ z + k0; omega)) h3
  rw [← ud_Z_set]
  refine h1.set ud_Z_D ha' ?_ oq
  show H1[z + k0]? = some (vp_cell _ _)
  rw [e]
  rw [vp_cell_i, vp_cell_i, arrV_store]
  congr 2
  funext q
  by_cases hq : q = i.toNatClampNeg
  · subst hq
    simp [updV, upd]
  · simp [updV, upd, hq]
theorem uy_newL (C : ud_CY D G z p s m args meth c cc nL own) {ci Nf idx L : Nat} {Cn : String} {T : u_T} {fs : List Value} (ty : Nat → FieldType) (hty : ∀ k, k < Nf → parseFieldDescriptor (T k).2.2.1 = some (ty k)) (hin : ∀ w ∈ u_ws Cn T Nf, w ∈ ud_gw) (hcl : Cond.classLink own idx Cn ∈ ud_gw) (hinst : Cond.instantiable Cn Nf ∈ ud_gw) (hini : Cond.initialized Cn ∈ ud_gw) (hc : vwCl[ci]? = some (Cn, T, Nf)) (hfs : ∀ j, j < Nf → defaultValue (ty j) = vp_V fs j) (hcells : cs + 1 ≤ R.cells) (hslots : ss + Nf ≤ R.slots) (hL : E.length = L) (hE : E ++ [.inr (ci, fs)] = E') (hd : decode cc pc = .ok (.new idx, 3)) (k : ud_Y D z p l e R s m args below meth c nL (cs + 1) (ss + Nf) Q E' (pc + 3) lv (.ref (z + L) :: st)) : ud_Y D z p l e R s m args below meth c nL cs ss Q E pc lv st := by
  subst hE
  subst hL
  exact uy_new C ty hty hin hcl hinst hini hc hfs hcells hslots hd k
theorem uy_newaL (C : ud_CY D G z p s m args meth c cc nL own) {atype : ArrayType} (harr : Cond.arrayClass (newarray.typeOf atype) ∈ ud_gw) {ty : FieldType} (hty : newarray.typeOf atype = ty) {g0 L : Nat} (hG : (G g0, ty) ∈ ud_ty G) {n : Int32} {N' : Nat} {a0 : vp_A} (ha : ∀ cA : ClassId, vp_cell cA a0 = arrV cA N' (fun _ => defaultValue ty)) (hn : ¬ n < 0) (hN : n.toNatClampNeg = N') (hbytes : N' * componentBytes ty ≤ 536870912) (hcells : cs + 1 ≤ R.cells) (hslots : ss + N' ≤ R.slots) (hL : E.length = L) (hE : E ++ [.inl (G g0, a0)] = E') (hd : decode cc pc = .ok (.newarray atype, 2)) (k : ud_Y D z p l e R s m args below meth c nL (cs + 1) (ss + N') Q E' (pc + 2) lv (.ref (z + L) :: st)) : ud_Y D z p l e R s m args below meth c nL cs ss Q E pc lv (.int n :: st) := by
  subst hE
  subst hL
  exact uy_newa C harr hty hG ha hn hN hbytes hcells hslots hd k
theorem uy_newqL (C : ud_CY D G z p s m args meth c cc nL own) {idx L : Nat} {Cn : String} (hcl : Cond.classLink own idx Cn ∈ ud_gw) (hover : va_AO Cn s) {g0 t0 : Nat} (hG : (ud_ty G)[t0]? = some (G g0, .object Cn)) {n : Int32} {N' : Nat} (hn : ¬ n < 0) (hN : n.toNatClampNeg = N') (hbytes : N' * 4 ≤ 536870912) (hcells : cs + 1 ≤ R.cells) (hslots : ss + N' ≤ R.slots) (hL : E.length = L) (hE : E ++ [.inl (G g0, N', .inr (.inr (.inr (.inr (fun _ => none)))))] = E') (hd : decode cc pc = .ok (.anewarray idx, 3)) (k : ud_Y D z p l e R s m args below meth c nL (cs + 1) (ss + N') Q E' (pc + 3) lv (.ref (z + L) :: st)) : ud_Y D z p l e R s m args below meth c nL cs ss Q E pc lv (.int n :: st) := by
  subst hE
  subst hL
  exact uy_newq C hcl hover hG hn hN hbytes hcells hslots hd k
theorem uy_ret (C : ud_CY D G z p s m args meth c cc nL own) (hr : meth.sig.returnType = none) {mc ms : Nat} (h1c : cs ≤ mc) (h1s : ss ≤ ms) (hd : decode cc pc = .ok (.return_, 1)) : ud_Y D z p l e R s m args below meth c nL cs ss (MQ below (ud_QY D z E) args s mc ms (fun q : Nat => z ≤ q)) E pc lv [] := fun H locs ls h1 h0 h2 h3 =>
  W.widen h1c h1s (W.vret C.1.1 C.1.2.1 hr (fun t ht hW => ⟨⟨rfl, by rw [ht]; exact h1, by rw [ht]; exact h0⟩, h2.F ht⟩) h2.2.2 hd C.2.2.1)
theorem uy_obj (C : ud_CY D G z p s m args meth c cc nL own) {k idx : Nat} (hlink : Cond.methodLink own idx objectInit ∈ ud_gw) (hinst : Cond.instanceMethod objectInit ∈ ud_gw) (hcode : Cond.code objectInit ⟨#[0xb1]⟩ 1 none ∈ ud_gw) (hfr : 1 ≤ R.frames) (hlo : (st.map fun v => v.category).sum + 12 ≤ R.locals) (hd : decode cc pc = .ok (.invokespecial idx, 3)) (kk : ud_Y D z p l e R s m args below meth c nL cs ss Q E (pc + 3) lv st) : ud_Y D z p l e R s m args below meth c nL cs ss Q E pc lv (.ref k :: st) := fun H locs ls h1 h0 h2 h3 =>
  W.objInit C.1.1 C.1.2.1 C.1.2.2.2.1 (C.1.2.2.2.2 _ hlink) (C.1.2.2.2.2 _ hinst) (C.1.2.2.2.2 _ hcode) rfl (by rw [C.1.2.2.1]; exact h3.1) rfl hd hfr (by show 2 * 0 + _ + 12 ≤ _; omega) (kk H locs ls h1 h0 h2 h3)
theorem uy_call (C : ud_CY D G z p s m args meth c cc nL own) {y : MethodName} {bytes : ByteArray} {maxL lev idx n b mc ms : Nat} {As rest : List Value} (hM : ud_MY l D G z y bytes maxL lev mc ms (.ref b :: As) E E') (hname : y.name = "<init>")
    (hlink : Cond.methodLink own idx y ∈ ud_gw) (hinst : Cond.instanceMethod y ∈ ud_gw) (hini : Cond.initialized y.cls ∈ ud_gw) (hcode : Cond.code y bytes maxL none ∈ ud_gw)
    (hy : y.cls ≠ "java/lang/invoke/MethodHandle" ∧ y.cls ≠ "java/lang/invoke/VarHandle" ∧ (parseMethodDescriptor y.desc).map (fun d => d.parameters.length) = some n) (hn : As.length = n) (hR : lev + 1 ≤ R.frames ∧ 8 + (maxL + 11) + 37 * lev ≤ R.locals) (hcs : cs + mc ≤ R.cells ∧ ss + ms ≤ R.slots) (hst : st = As.reverse ++ .ref b :: rest) (h8 : (rest.map fun v => v.category).sum ≤ 8) (hd : decode cc pc = .ok (.invokespecial idx, 3))
    (kk : ud_Y D z p l e R s m args below meth c nL (cs + mc) (ss + ms) Q E' (pc + 3) lv rest) : ud_Y D z p l e R s m args below meth c nL cs ss Q E pc lv st := by
  intro H locs ls h1 h0 h2 h3
  subst hst
  have ht := C.1.2.2.2.2
  have cb : CallB R s args own idx y bytes maxL none (ud_ws y bytes maxL none) (ud_rm lev mc ms) mc ms n := callB_of n ht (ud_goodws hcode) rfl rfl rfl (ht _ hini) (ht _ hlink) hy hR
  have hr := va_runI (e := e) (below := below) (meth := meth) (locs := locs) C.1 hM ⟨cb, hname, ht _ hinst⟩ ⟨ud_blindY, fun U hU hW => ⟨rfl, by rw [hU]; exact h1, by rw [hU]; exact h0, va_K.moved hW.alike C.2.1, va_AO.moved hW.alike C.2.2.2.2.1, va_AO.moved hW.alike C.2.2.2.2.2⟩⟩ (g := F0 m pc ls (As.reverse ++ .ref b :: rest)) (rest := rest) rfl hn h3.1 rfl (lv_room h8) hd hcs
  intro T hT Yy
  obtain ⟨v, st₀, t, T', L, g0, Y', hL, e1, e2, ⟨⟨hv, hb, hbz⟩, hz, hk⟩, go⟩ := hr T hT Yy
  cases hv
  rw [g0] at hz hk
  obtain ⟨t2, a1, b1⟩ := kk T'.heap (locs ++ L) ls (by rw [e1]; exact hb) (by rw [e1]; exact hbz)
    ⟨Nat.le_trans h2.1 (by rw [e1]; exact hz), fun q q1 q2 => by rw [e1, hk q (Nat.lt_of_lt_of_le q1 h2.1) q2]; exact h2.2.1 q q1 q2, fun q hq => by
      rcases List.mem_append.mp hq with h | h
      · exact h2.2.2 q h
      · exact hL q h⟩ h3 T' rfl Y'
  exact ⟨t2, go t2 a1, b1⟩
end UY
