/-! table: the model's doing, told, slip; all lines -/
theorem mP_w {a b : ud_St} {t : TD} {s v : Nat} (h : mP a t) (e1 : b.1 79 (96 + 2 * t 0 3) = nI s) (e2 : b.1 79 (96 + 2 * t 0 3 + 1) = enc s v) (e3 : b.1 78 27 = nI (t 0 3 + 1)) (e : ∀ k j, 77 ≤ k → k ≤ 81 → ¬ (k = 79 ∧ (j = 96 + 2 * t 0 3 ∨ j = 96 + 2 * t 0 3 + 1)) → ¬ (k = 78 ∧ j = 27) → b.1 k j = a.1 k j) : mP b (tw t s v) := by
  obtain ⟨h1, h2, h3, h4, h5, h6, h7, h8, h9, h10⟩ := h
  refine ⟨(e _ _ (by omega) (by omega) (by omega) (by omega)).trans h1, (e _ _ (by omega) (by omega) (by omega) (by omega)).trans h2, (e _ _ (by omega) (by omega) (by omega) (by omega)).trans h3, (e _ _ (by omega) (by omega) (by omega) (by omega)).trans h4, e3, (e _ _ (by omega) (by omega) (by omega) (by omega)).trans h6, (e _ _ (by omega) (by omega) (by omega) (by omega)).trans h7, fun i hi => ?_, fun i hi => ?_, fun i hi => (e _ _ (by omega) (by omega) (by omega) (by omega)).trans (h10 i hi)⟩
  · have hi' : i < t 0 3 + 1 := hi
    by_cases q : i = t 0 3
    · subst q
      simp [tw]
      exact ⟨e1, e2⟩
    · have := h8 i (by omega)
      rw [e _ _ (by omega) (by omega) (by omega) (by omega), e _ _ (by omega) (by omega) (by omega) (by omega)]
      simp [tw, q, this]
  · obtain ⟨q1, q2, q3, q4⟩ := h9 i hi
    exact ⟨(e _ _ (by omega) (by omega) (by omega) (by omega)).trans q1, (e _ _ (by omega) (by omega) (by omega) (by omega)).trans q2, (e _ _ (by omega) (by omega) (by omega) (by omega)).trans q3, (e _ _ (by omega) (by omega) (by omega) (by omega)).trans q4⟩
theorem srtH_k {f : Nat → Nat} {R : TK} (h : R.1 ≠ 1) : srtH f R = 15 := srtH_no (fun j _ => isW_f (fun w => h w.1))
theorem m_doing {a0 a : ud_St} {f : Nat → Nat} {c : Nat} {R : TK} {t : TD} {Q : ud_St → Prop} (h : mat a0 a f c R) (hp : mP a t) (hk : kOK t) (h21 : (a.1 71 21 = 0 ∧ t 0 3 = 0) ∨ (a.1 71 21 = 1 ∧ 0 < t 0 3)) (h1 : ∀ R' t', lnD f c R t = .ok (R', t') → ∀ a', a'.1 71 21 = 1 → mat a0 a' f c R' → mP a' t' → 0 < t' 0 3 → Q a') (h0 : ∀ e, lnD f c R t = .error e → ∀ a', mbad a0 a' e → Q a') (h2 : ∀ R' : TK, lnD f c R t = .error (1, R'.2.1) → R'.1 ≠ 3 → ∀ a', mat a0 a' f c R' → Q a') : w_Model_doing a Q := by
  have hk3 := hk.2.2.2.2.2.1
  unfold w_Model_doing
  rcases h21 with ⟨w21, w3⟩ | ⟨w21, w3⟩
  · rw [w21]
    refine ⟨fun _ => ?_, fun z => absurd rfl z⟩
    have eD : lnD f c R t = doL f c 13 0 (tokF f c R.2.2) t := by unfold lnD; rw [if_pos w3]
    unfold w_Model_doing_j12
    refine ⟨fun _ => m_nx h (fun a1 hf1 hx1 => ?_), fun z => absurd h.2.2.2.2 z⟩
    refine LW2.up 14 (fun k x b => (x = 1 ∧ ∃ Ri ti, lnD f c R t = doL f c (13 - k) k Ri ti ∧ ti 0 3 = k ∧ mat a0 b f c Ri ∧ mP b ti ∧ kOK ti ∧ b.1 71 21 = 1 ∧ (0 < k → Ri.1 = 1)) ∨ (∃ e, lnD f c R t = .error e ∧ mbad a0 b e) ∨ (x = 0 ∧ 0 < k ∧ ∃ Ri ti, lnD f c R t = doL f c (13 - k) k Ri ti ∧ ti 0 3 = k ∧ mat a0 b f c Ri ∧ mP b ti ∧ kOK ti ∧ b.1 71 21 = 1 ∧ Ri.1 ≠ 1)) (Or.inl ⟨rfl, tokF f c R.2.2, t, eD, w3, mat_sv hx1 (by unfold Pmr; omega) (by omega), mP_c hp (fun k j _ _ => by rw [us_1, if_neg (by omega)]; exact hf1.1 k j (by unfold Pnx; omega)), hk, by rw [us_1, if_pos ⟨rfl, rfl⟩], fun q => by omega⟩) ?_ ?_
    · rintro k x b hkN hI K hK
      rcases hI with ⟨rfl, Ri, ti, hd, hi3, hx, hpi, hki, hb21, hmr⟩ | ⟨e, he, hbad⟩ | ⟨rfl, hk0, Ri, ti, hd, hi3, hx, hpi, hki, hb21, hR1⟩
      · have hki3 := hki.2.2.2.2.2.1
        rw [show 13 - k = (12 - k) + 1 by omega] at hd
        refine m_isGood (fun _ => t1 (t1 (m_many (j := 3) (by omega) ?_))) (fun z => absurd hx.2.2.2.2 z)
        show (b.1 78 27 = 12 → _) ∧ (¬ b.1 78 27 = 12 → _)
        rw [hpi.2.2.2.2.1]
        -- what is said of one word
        have hd' : lnD f c R t = if 0 < k ∧ Ri.1 = 3 then .ok (Ri, ti) else if k = 12 ∧ srtH f Ri ≠ 15 then .error (3, Ri.2.1) else
          match wrd f c Ri (ti 0 0) with
          | .error e => .error e
          | .ok (s, v, R') => doL f c (12 - k) (k + 1) R' (tw ti s v) := hd
        have bad : ∀ d e, lnD f c R t = .error e → mbad a0 d e → w_Model_doing_j65 a d K Q := fun d e he hbd => by
          unfold w_Model_doing_j65
          refine m_isGood (fun z => absurd z (mbad_n hbd)) (fun _ => t0 ?_)
          unfold w_Model_doing_j90
          refine m_isGood (fun z => absurd z (mbad_n hbd)) (fun _ => t0 ?_)
          unfold w_Model_doing_j108
          exact ⟨fun _ => hK _ _ (Or.inr (Or.inl ⟨e, he, hbd⟩)), fun _ => hK _ _ (Or.inr (Or.inl ⟨e, he, hbd⟩))⟩
        have j65 : ¬ (0 < k ∧ Ri.1 = 3) → (k < 12 ∨ srtH f Ri = 15) → w_Model_doing_j65 a b K Q := fun n1 n2 => by
          rw [if_neg n1, if_neg (by omega)] at hd'
          unfold w_Model_doing_j65
          refine m_isGood (fun _ => t1 (m_many (j := 3) (by omega) ?_)) (fun z => absurd hx.2.2.2.2 z)
          show w_Model_wordTo b 79 120 (2 * (48 + b.1 78 27)) _
          rw [hpi.2.2.2.2.1, show (48 : Int32) + nI (ti 0 3) = nI (48 + ti 0 3) from nI_add 48 _, show (2 : Int32) * nI (48 + ti 0 3) = nI (2 * (48 + ti 0 3)) from ui_mul 2 _, show 2 * (48 + ti 0 3) = 96 + 2 * ti 0 3 by omega]
          by_cases h12 : k < 12
          · refine m_wordTo hx (Or.inl rfl) (by omega) (by omega) hpi.2.1 (by have := hki.1; omega) hki.2.1 (fun s v R' e hwk d hfd d1 d2 hxd => ?_) (fun e he d hxd => ?_)
            · rw [e] at hd'
              unfold w_Model_doing_j90
              have e27 : d.1 78 27 = nI (ti 0 3) := (hfd.1 78 27 (by unfold Pwd Pnx; omega)).trans hpi.2.2.2.2.1
              refine m_isGood (fun _ => t1 ⟨vp_in_nI (n := 27) (by omega) (by omega), vp_in_nI (n := 27) (by omega) (by omega), ?_⟩) (fun z => absurd hxd.2.2.2.2 z)
              rw [tN27, e27, nI_1]
              have hx2 := mat_sv (k := 78) (j := 27) (v := nI (ti 0 3 + 1)) hxd (by unfold Pmr; omega) (by omega)
              have hp2 : mP (ud_sv d 78 27 (nI (ti 0 3 + 1))) (tw ti s v) := mP_w hpi (by rw [us_1, if_neg (by omega)]; exact d1) (by rw [us_1, if_neg (by omega)]; exact d2) (by rw [us_1, if_pos ⟨rfl, rfl⟩]) (fun k j q1 q2 q3 q4 => by rw [us_1, if_neg q4]; exact hfd.1 k j (by unfold Pwd Pnx; omega))
              have hk2 := kOK_w hki (by omega) hwk
              have e21 : (ud_sv d 78 27 (nI (ti 0 3 + 1))).1 71 21 = 1 := by rw [us_1, if_neg (by omega), hfd.1 71 21 (by unfold Pwd Pnx; omega)]; exact hb21
              have e8 := hx2.2.2.1.1
              have e4 := hx2.2.2.2.1.2.2.2.1
              have hd2 : lnD f c R t = doL f c (13 - (k + 1)) (k + 1) R' (tw ti s v) := by rw [show 13 - (k + 1) = 12 - k by omega]; exact hd'
              unfold w_Model_doing_j108
              rw [e8]
              refine ⟨fun z => hK _ _ (Or.inl ⟨rfl, R', tw ti s v, hd2, by show ti 0 3 + 1 = k + 1; omega, hx2, hp2, hk2, e21, fun _ => (nI_eq (b := 1) (by omega) (by omega)).mp z⟩), fun z => hK _ _ (Or.inr (Or.inr ⟨rfl, by omega, R', tw ti s v, hd2, by show ti 0 3 + 1 = k + 1; omega, hx2, hp2, hk2, e21, fun q => z (by rw [q]; rfl)⟩))⟩
            · rw [he] at hd'
              unfold w_Model_doing_j90
              refine m_isGood (fun z => absurd z (mbad_n hxd)) (fun _ => t0 ?_)
              unfold w_Model_doing_j108
              exact ⟨fun _ => hK _ _ (Or.inr (Or.inl ⟨e, hd', hxd⟩)), fun _ => hK _ _ (Or.inr (Or.inl ⟨e, hd', hxd⟩))⟩
          · have hs : srtH f Ri = 15 := n2.resolve_left h12
            rw [wrd_15 hs] at hd'
            unfold w_Model_wordTo
            refine m_sortHere hx (fun w => by omega) (fun _ => ⟨fun _ => m_fails (s := 1) hx (by omega) (by omega) (fun d hxd => ?_), fun z => absurd rfl z⟩)
            unfold w_Model_wordTo_j15
            refine ⟨fun z => absurd z (mbad_n hxd), fun _ => ?_⟩
            unfold w_Model_doing_j90
            refine m_isGood (fun z => absurd z (mbad_n hxd)) (fun _ => t0 ?_)
            unfold w_Model_doing_j108
            exact ⟨fun _ => hK _ _ (Or.inr (Or.inl ⟨_, hd', hxd⟩)), fun _ => hK _ _ (Or.inr (Or.inl ⟨_, hd', hxd⟩))⟩
        have n1 : ¬ (0 < k ∧ Ri.1 = 3) := fun w => by have := hmr w.1; omega
        refine ⟨fun z => ?_, fun z => j65 n1 (Or.inl ?_)⟩
        · have e12 := (nI_eq (b := 12) (by omega) (by omega)).mp z
          have hs15 := srtH_le f Ri
          refine m_sortHere hx (fun w => ⟨fun q => absurd q (ui_ne1 (by omega)), fun _ => m_fails (s := 3) hx (by omega) (by omega) (fun d hxd => bad d _ ?_ hxd)⟩) (fun w => ⟨fun _ => j65 n1 (Or.inr w), fun q => absurd rfl q⟩)
          rw [hd', if_neg n1, if_pos ⟨by omega, by omega⟩]
        · have : ¬ ti 0 3 = 12 := fun e => z (by rw [e]; rfl)
          omega
      · exact m_isGood (fun z => absurd z (mbad_n hbad)) (fun _ => t0 (h0 e he b hbad))
      · have hki3 := hki.2.2.2.2.2.1
        refine m_isGood (fun _ => t1 (t0 ?_)) (fun z => absurd hx.2.2.2.2 z)
        rw [show 13 - k = (12 - k) + 1 by omega] at hd
        have hd' : lnD f c R t = if 0 < k ∧ Ri.1 = 3 then .ok (Ri, ti) else if k = 12 ∧ srtH f Ri ≠ 15 then .error (3, Ri.2.1) else
          match wrd f c Ri (ti 0 0) with
          | .error e => .error e
          | .ok (s, v, R') => doL f c (12 - k) (k + 1) R' (tw ti s v) := hd
        by_cases n1 : Ri.1 = 3
        · rw [if_pos ⟨hk0, n1⟩] at hd'
          exact h1 _ _ hd' b hb21 hx hpi (by omega)
        · have hs := srtH_k (f := f) hR1
          rw [if_neg (fun w => n1 w.2), if_neg (fun w => w.2 hs), wrd_15 hs] at hd'
          exact h2 Ri hd' n1 b hx
    · rintro x b hI K
      rcases hI with ⟨rfl, Ri, ti, hd, hi3, hx, hpi, hki, hb21, hmr⟩ | ⟨e, he, hbad⟩ | ⟨rfl, hk0, Ri, ti, hd, hi3, hx, hpi, hki, hb21, hR1⟩
      · have := hki.2.2.2.2.2.1; omega
      · exact m_isGood (fun z => absurd z (mbad_n hbad)) (fun _ => t0 (h0 e he b hbad))
      · have := hki.2.2.2.2.2.1; omega
  · rw [w21]
    have eD : lnD f c R t = .error (2, R.2.1) := by unfold lnD; rw [if_neg (by omega)]
    refine ⟨fun z => absurd z (by decide), fun _ => m_fails (s := 2) h (by omega) (by omega) (fun a' hx => ?_)⟩
    unfold w_Model_doing_j12
    exact ⟨fun z => absurd z (mbad_n hx), fun _ => h0 _ eD a' hx⟩
