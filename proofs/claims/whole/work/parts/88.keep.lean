/-! keep with a new image; the law, over what each pair of calls owes (the steps) -/
theorem ud_ZW {G : Nat → Nat} {z N : Nat} {a : ud_St} : ud_Z z ((List.range N).map (ud_e G z a)) = ud_W G z N a := by
  apply List.ext_getElem?
  intro i
  by_cases hi : i < N
  · rw [ud_W_at hi]
    exact ud_Z_at _ _ _ _ (by simp [hi])
  · rw [List.getElem?_eq_none (by rw [ud_Z_len]; simp; omega), List.getElem?_eq_none (by simp [ud_W]; omega)]
/-- a fresh image: its cells at N .., image i is it -/
theorem ud_lower {D : va_G} {G : Nat → Nat} {z N : Nat} {a : ud_St} {H : Heap} (hN : 0 < N) (h : va_P D vwCl (ud_W G z N a) H) : z + N ≤ H.size := by
  have h1 := (h (N - 1) _ (ud_W_at (by omega))).lt
  have h2 : z + (N - 1) < H.size := h1
  omega
def ud_newT (G : Nat → Nat) (z N : Nat) : List va_E := [.inr (7, [.int 0, .int 0, .int 0, .int 0, .ref (z + (N + 1)), .ref (z + (N + 4)), .ref (z + (N + 7)), .ref (z + (N + 10)), .int 0]), .inr (9, [.ref (z + (N + 2)), .ref (z + (N + 3)), .int 0]), .inl (G 0, 12, .inl (fun _ => 0)), .inl (G 0, 12, .inl (fun _ => 0)), .inr (9, [.ref (z + (N + 5)), .ref (z + (N + 6)), .int 0]), .inl (G 0, 12, .inl (fun _ => 0)), .inl (G 0, 12, .inl (fun _ => 0)), .inr (9, [.ref (z + (N + 8)), .ref (z + (N + 9)), .int 0]), .inl (G 0, 12, .inl (fun _ => 0)), .inl (G 0, 12, .inl (fun _ => 0)), .inl (G 0, 20, .inl (fun _ => 0))]
def ud_E70 (G : Nat → Nat) (z : Nat) (a : ud_St) : va_E := .inl (G 4, 3, .inr (.inr (.inr (.inr (fun i => (a.2.2 70 i).map (fun q => z + q))))))
theorem ud_grow {G : Nat → Nat} {z N : Nat} {a : ud_St} (i : Nat) (hN : 92 ≤ N) (hm : (N - 92) % 11 = 0) : ((List.range N).map (ud_e G z a) ++ ud_newT G z N).set 70 (.inl (G 4, 3, .inr (.inr (.inr (.inr (va_up (fun j => (a.2.2 70 j).map (fun q => z + q)) i (some (z + N)))))))) = (List.range (N + 11)).map (ud_e G z (ud_fr a N i)) := by
  apply List.ext_getElem?
  intro k
  have hl : (ud_newT G z N).length = 11 := rfl
  by_cases hk : k < N
  · by_cases h7 : k = 70
    · subst h7
      rw [List.getElem?_set_self (by simp; omega)]
      simp only [List.getElem?_map, List.getElem?_range (show 70 < N + 11 by omega), Option.map_some]
      show _ = some (ud_E70 G z (ud_fr a N i))
      unfold ud_E70
      congr 8
      funext j
      simp only [va_up, ud_fr, true_and]
      by_cases hj : j = i
      · simp [hj]
      · simp [hj]
    · rw [List.getElem?_set_ne (Ne.symm h7), List.getElem?_append_left (by simpa using hk)]
      simp only [List.getElem?_map, List.getElem?_range hk, List.getElem?_range (show k < N + 11 by omega), Option.map_some]
      have h1 : (ud_fr a N i).1 k = a.1 k := by funext j; simp [ud_fr, Nat.not_le.mpr hk]
      have h2 : (ud_fr a N i).2.2 k = a.2.2 k := by funext j; simp [ud_fr, h7]
      simp only [ud_e, h1, h2]
      rfl
  · by_cases hk2 : k < N + 11
    · obtain ⟨d, rfl⟩ : ∃ d, k = N + d := ⟨k - N, by omega⟩
      have hd : d < 11 := by omega
      rw [List.getElem?_set_ne (by omega), List.getElem?_append_right (by simp)]
      simp only [List.length_map, List.length_range, Nat.add_sub_cancel_left, List.getElem?_map, List.getElem?_range hk2, Option.map_some]
      have h1 : (ud_fr a N i).1 (N + d) = fun _ => 0 := by funext j; simp [ud_fr]
      have hq : (N + d - 92) % 11 = d := by omega
      simp only [ud_e, ud_E, if_neg (show ¬ N + d < 92 by omega), h1, hq]
      match d, hd with
      | 0, _ => rfl
      | 1, _ => rfl
      | 2, _ => rfl
      | 3, _ => rfl
      | 4, _ => rfl
      | 5, _ => rfl
      | 6, _ => rfl
      | 7, _ => rfl
      | 8, _ => rfl
      | 9, _ => rfl
      | 10, _ => rfl
      | d + 11, h => exact absurd h (by omega)
    · rw [List.getElem?_eq_none (by simp [hl]; omega), List.getElem?_eq_none (by simp; omega)]
def ud_PK (D : va_G) (G : Nat → Nat) (z N : Nat) (av : List Value) (a : ud_St) : Array Value → State → Prop := va_Pc av (fun U => (va_P D vwCl (ud_W G z N a) U.heap ∧ va_K D vwCl (ud_ty G) U ∧ ud_Str G z U U.heap) ∧ U.heap.size = z + N ∧ va_AO RX8 U ∧ va_AO RX7 U)
def ud_QK (D : va_G) (G : Nat → Nat) (z N : Nat) (Qf : ud_St → Prop) : Array Value → State → Outcome → State → Prop := fun _ st oc t => (∃ a : ud_St, oc = .returned (some (.int 0)) ∧ Qf a ∧ va_P D vwCl (ud_W G z (N + 11) a) t.heap) ∧ va_F (fun q : Nat => z ≤ q) st t
theorem ud_blindK {D : va_G} {G : Nat → Nat} {z N : Nat} {av : List Value} {a : ud_St} : FrameBlind (ud_PK D G z N av a) := by
  intro a0 U g mk hq
  obtain ⟨h1, ⟨h2, h3, h4⟩, h5, h6, h7⟩ := hq
  have h := ud_blind (D := D) (G := G) (z := z) (N := N) (av := av) (a := a) a0 U g mk ⟨h1, h2, h3, h4⟩
  exact ⟨h.1, h.2, h5, va_AO.moved (u := U) (U := U.calling g mk a0) (Vm.Alike.refl U.vm) h6, va_AO.moved (u := U) (U := U.calling g mk a0) (Vm.Alike.refl U.vm) h7⟩
set_option maxHeartbeats 4000000 in
theorem c_keep1 {l : Launch} {D : va_G} {G : Nat → Nat} {z N : Nat} {a : ud_St} {x1 : Int32} {Qf : ud_St → Prop} (hN : 92 ≤ N) (hm : (N - 92) % 11 = 0) (hi : vp_in x1 3) (hn : a.2.2 70 x1.toNatClampNeg = none) (hw : w_Table_copy (ud_fr a N x1.toNatClampNeg) N 4 Qf) : Met l yX11_keep (ud_ws yX11_keep cX11_keep 2 (some .int)) (ud_rm 4 11 110) (ud_PK D G z N [.ref (z + 0), .int x1] a) (ud_QK D G z N Qf) 11 110 (fun q : Nat => z ≤ q) := by
  refine Met.ofW (cc := cX11_keep) (maxL := 2) (ret := some .int) (by decide) rfl ?_
  intro p e s m args below meth c s₁ B hml hv
  obtain ⟨rfl, ⟨hP, hK, hT⟩, hz, hO1, hO2⟩ := hv
  have CF : CallFix p m c cX11_keep 2 s [Value.ref (z + 0), Value.int x1].toArray ud_gw RX11 := ⟨B.exec, B.bytes, hml, findClass_of_methodNamed B.named, fun w hw => atoms_spec (ws := ud_ws yX11_keep cX11_keep 2 (some .int)) B.pre w (List.mem_cons_of_mem _ hw)⟩
  have C : ud_C D G z N p s m [Value.ref (z + 0), Value.int x1].toArray meth c cX11_keep 2 RX11 (some .int) := ⟨CF, hK, hT, B.returns, B.notSynchronized, hN⟩
  have C' : ud_C D G z (N + 11) p s m [Value.ref (z + 0), Value.int x1].toArray meth c cX11_keep 2 RX11 (some .int) := ⟨CF, hK, hT, B.returns, B.notSynchronized, by omega⟩
  have CY : ud_CY D G z p s m [Value.ref (z + 0), Value.int x1].toArray meth c cX11_keep 2 RX11 := ⟨CF, hK, B.notSynchronized, by omega, hO1, hO2⟩
  have hl := lv_entry [Value.ref (z + 0), Value.int x1] (n := 2) (Nat.le_of_ble_eq_true rfl)
  rw [lg_entry_eq]
  have key : ud_X D G z N p l e (ud_rm 4 11 110) s m [Value.ref (z + 0), Value.int x1].toArray below meth c 2 0 0 (MQ below (ud_QK D G z N Qf) [Value.ref (z + 0), Value.int x1].toArray s 11 110 (fun q : Nat => z ≤ q)) a 0 [(0, .ref (z + 0)), (1, .int x1)] [] := by
    refine ux_aload_n C 0 rfl rfl dX11_keep_0 ?_
    refine ux_iload_n C 1 rfl rfl dX11_keep_1 ?_
    have him : w_UpAndDown_isImage a x1 (fun r => r = 1) := by
      have h0 : ¬ x1 < 0 := fun q => hi (Or.inl q)
      have h3 : ¬ (3 : Int32) ≤ x1 := by
        obtain ⟨j, hj, rfl⟩ := vp_in_of hi (by decide)
        exact nI_ge hj (by decide)
      unfold w_UpAndDown_isImage
      exact ⟨fun h => absurd h h0, fun _ => ⟨fun h => absurd h h3, fun _ => rfl⟩⟩
    refine cs_11_348 C (c_UpAndDown_isImage hN him) (by decide) (by decide) (Nat.le_of_ble_eq_true rfl) dX11_keep_2 (po_ip.k fun r hr => ?_)
    subst hr
    refine ux_if_ne C (tgt := 11) (by decide) dX11_keep_5 (fun _ => ?_) (fun h => absurd h (by decide))
    refine ux_aload_n C 0 rfl rfl dX11_keep_11 ?_
    refine gf_11_84 C dX11_keep_12 ?_
    refine ux_iload_n C 1 rfl rfl dX11_keep_15 ?_
    refine ux_aldT C hi dX11_keep_16 ?_
    refine ux_ifnonnullO C (tgt := 33) (by decide) dX11_keep_17 (fun _ => ?_) (fun q hq => by rw [hn] at hq; cases hq)
    refine ux_aload_n C 0 rfl rfl dX11_keep_20 ?_
    refine gf_11_84 C dX11_keep_21 ?_
    refine ux_iload_n C 1 rfl rfl dX11_keep_24 ?_
    have tail : ud_X D G z (N + 11) p l e (ud_rm 4 11 110) s m [Value.ref (z + 0), Value.int x1].toArray below meth c 2 11 110 (MQ below (ud_QK D G z N Qf) [Value.ref (z + 0), Value.int x1].toArray s 11 110 (fun q : Nat => z ≤ q)) (ud_fr a N x1.toNatClampNeg) 33 [(0, .ref (z + 0)), (1, .int x1)] [] := by
      have hN' : 92 ≤ N + 11 := by omega
      refine ux_aload_n C' 0 rfl rfl dX11_keep_33 ?_
      refine gf_11_84 C' dX11_keep_34 ?_
      refine ux_iload_n C' 1 rfl rfl dX11_keep_37 ?_
      refine ux_aldT C' hi dX11_keep_38 ?_
      have he : (ud_fr a N x1.toNatClampNeg).2.2 70 x1.toNatClampNeg = some N := by simp [ud_fr]
      rw [he]
      show ud_X D G z (N + 11) p l e (ud_rm 4 11 110) s m [Value.ref (z + 0), Value.int x1].toArray below meth c 2 11 110 _ (ud_fr a N x1.toNatClampNeg) 39 [(0, .ref (z + 0)), (1, .int x1)] [.ref (z + N)]
      refine ux_aload_n C' 0 rfl rfl dX11_keep_39 ?_
      refine gf_11_28 C' dX11_keep_40 ?_
      have hTN : ud_isT (N + 11) N := by
        have hq : ∀ d, d < 11 → (N + d - 92) % 11 = d := fun d hd => by omega
        have en : ∀ d, d < 11 → ∀ G z (a : ud_St), ud_e G z a (N + d) = (ud_J G z (N + d) (a.1 (N + d))).getD d (.inr (0, [])) := fun d hd G z a => by
          simp only [ud_e, ud_E, if_neg (show ¬ N + d < 92 by omega), hq d hd]
        have w : ∀ d, d = 1 ∨ d = 4 ∨ d = 7 → ud_isW (N + 11) (N + d) := by
          intro d hd
          refine ⟨⟨by omega, fun G z a => ?_⟩, ⟨by omega, fun G z a => ?_⟩, ⟨by omega, fun G z a => ?_⟩⟩
          · rw [en d (by omega)]; rcases hd with rfl | rfl | rfl <;> rfl
          · rw [Nat.add_assoc, en (d + 1) (by omega)]; rcases hd with rfl | rfl | rfl <;> rfl
          · rw [Nat.add_assoc, en (d + 2) (by omega)]; rcases hd with rfl | rfl | rfl <;> rfl
        exact ⟨⟨by omega, fun G z a => en 0 (by omega) G z a⟩, w 1 (Or.inl rfl), w 4 (Or.inr (Or.inl rfl)), w 7 (Or.inr (Or.inr rfl)), by omega, fun G z a => en 10 (by omega) G z a⟩
      refine ux_callV (n := 1) (As := [.ref (z + 4)]) C' (c_Table_copy hN' hTN (uc_4 hN') hw) hTN.1.1 (hTN.1.2 _ _ _) rfl mw_696 mw_697 mw_698 mw_116 mw_699 ⟨by decide, by decide, by decide +kernel⟩ rfl ⟨by decide, by decide⟩ ⟨by decide, by decide⟩ rfl (Nat.le_of_ble_eq_true rfl) dX11_keep_43 (po_v.k fun a1 hq => ?_)
      refine ux_iconst C' (v := 0) (by decide) dX11_keep_46 ?_
      intro H locs ls h1 h2 h3
      exact W.iret C'.1.1 C'.1.2.1 C'.2.2.2.1 (fun t ht hW => ⟨⟨a1, rfl, hq, by rw [ht]; exact h1⟩, h2.F ht⟩) h2.2.2 dX11_keep_47 C'.2.2.2.2.1
    intro H locs ls h1 h2 h3
    refine ud_sz h2 (fun hsz => ?_)
    have hY : ud_Y D z p l e (ud_rm 4 11 110) s m [Value.ref (z + 0), Value.int x1].toArray below meth c 2 0 0 (MQ below (ud_QK D G z N Qf) [Value.ref (z + 0), Value.int x1].toArray s 11 110 (fun q : Nat => z ≤ q)) ((List.range N).map (ud_e G z a)) 25 [(0, .ref (z + 0)), (1, .int x1)] [.int x1, .ref (z + 70)] := by
      have hkE : ((List.range N).map (ud_e G z a)).length = N := by simp
      refine uy_newL (L := N) (E' := (List.range N).map (ud_e G z a) ++ [.inr (7, df_Table)]) CY tyX8 tyX8_ok mu_8 mw_189 mw_190 mw_116 rfl dq_Table (Nat.le_of_ble_eq_true rfl) (Nat.le_of_ble_eq_true rfl) hkE rfl dX11_keep_25 ?_
      refine uy_dup CY rfl dX11_keep_28 ?_
      refine uy_call (n := 0) (As := []) (E' := (List.range N).map (ud_e G z a) ++ ud_newT G z N) CY (c_Table_init (l := l) (D := D) (G := G) (z := z) (E0 := (List.range N).map (ud_e G z a)) (k := N) hkE) rfl mw_191 mw_192 mw_116 mw_193 ⟨by decide, by decide, by decide +kernel⟩ rfl ⟨Nat.le_of_ble_eq_true rfl, Nat.le_of_ble_eq_true rfl⟩ ⟨Nat.le_of_ble_eq_true rfl, Nat.le_of_ble_eq_true rfl⟩ rfl (Nat.le_of_ble_eq_true rfl) dX11_keep_29 ?_
      refine uy_astq (E' := (List.range (N + 11)).map (ud_e G z (ud_fr a N x1.toNatClampNeg))) (q0 := 70) (qk := N) (r := (RX8, TX8, 9)) (f := fun j => (a.2.2 70 j).map (fun q => z + q)) (n := 3) (g0 := 4) CY ?_ (t0 := 4) rfl (ud_at hkE 0 rfl) rfl hi (ud_grow _ hN hm) dX11_keep_32 ?_
      · rw [List.getElem?_append_left (by simp; omega)]
        simp only [List.getElem?_map, List.getElem?_range (show 70 < N by omega), Option.map_some]
        rfl
      · intro H locs ls h1 h0 h2 h3
        rw [ud_ZW] at h1
        exact tail H locs ls h1 h2 h3
    exact hY H locs ls (by rw [ud_ZW]; exact h1) (by rw [hsz, hz]; simp) h2 h3
  exact key s.heap [] _ hP va_S.rf hl
