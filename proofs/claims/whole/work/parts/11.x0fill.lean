set_option maxHeartbeats 4000000 in
set_option maxRecDepth 100000 in
/-- fillForward() -/
theorem c_X0_fillForward (l : Launch) (dC : Nat → ClassId) (dI : Nat → Nat → Nat) (kk : Nat → ClassId) (ad : Nat → Nat) (sz : Nat) (nn ll : Nat) (sg : Nat → Nat) (S : Nat → UInt64) (M E : Nat → Nat → UInt64) (I : Nat → Nat → Int32) (F : Nat → Nat → UInt64) (J : Nat → Nat → Int64) (h1 : 1 ≤ nn) (h6 : nn ≤ 6) (h12 : ll ≤ 12) (hrw : xRw ll sg I) (hw : xWt S M E F) (hwt : wts S M E) : Met l yX0_fillForward wsX0_fillForward ({ frames := 1, cells := 0, slots := 0, locals := 30 }) (pW dC dI kk [.ref (ad 0)] (wX kk ad (nI nn) (nI ll) (I) (F) (J)) sz) (va_Qv (fun (G : Nat → Nat → UInt64) => (∀ q, q < 22 ∨ 34 ≤ q → G q = F q) ∧ ∀ t j, t < ll → j < nn → G (22 + t) j = fw nn sg S M E t j) (fun (G : Nat → Nat → UInt64) t => bW dC dI kk (va_A (wX kk ad (nI nn) (nI ll) (I) (F) (J)) sz) (wX kk ad (nI nn) (nI ll) I G J) t) (va_A (wX kk ad (nI nn) (nI ll) (I) (F) (J)) sz)) 0 0 (va_A (wX kk ad (nI nn) (nI ll) (I) (F) (J)) sz) := by
  refine Met.ofW (cc := cX0_fillForward) (maxL := 5) (ret := none) (by decide) rfl ?_
  intro p e s m args below meth c s₁ B hml hv
  obtain ⟨rfl, hsz, hP, hK, hD0⟩ := hv
  have hx := B.exec
  have hb := B.bytes
  have hr := B.returns
  have hts := atoms_spec (ws := wsX0_fillForward) B.pre
  have hown : s.vm.findClass RX0 = some m.cls := findClass_of_methodNamed B.named
  have hlocks := B.notSynchronized
  have kf13 := hts (.fieldLink RX0 13 "PathOdds" "rowLength" "I") (by decide +kernel)
  have kf7 := hts (.fieldLink RX0 7 "PathOdds" "stateCount" "I") (by decide +kernel)
  have kf20 := hts (.fieldLink RX0 20 "PathOdds" "startWeights" "[D") (by decide +kernel)
  have kf32 := hts (.fieldLink RX0 32 "PathOdds" "forwardTable" "[[D") (by decide +kernel)
  have hin : ∀ w ∈ u_ws RX0 TX0 11, w ∈ wsX0_fillForward := by decide +kernel
  have hl := lv_entry ([.ref (ad 0)]) (n := 5) (Nat.le_of_ble_eq_true rfl)
  rw [lg_entry_eq]
  generalize (lg_sl ([.ref (ad 0)]) ++ List.replicate (5 - (lg_sl ([.ref (ad 0)])).length) Slot.unset).toArray = ls at hl ⊢
  have hl : lv_has ls 5 [(0, .ref (ad 0))] := hl
  subst hsz
  have hD := hD0.self (sz := s.heap.size)
  generalize hAe : va_A (wX kk ad (nI nn) (nI ll) (I) (F) (J)) s.heap.size = A at hD ⊢
  have hA : ∀ q : Nat, s.heap.size ≤ q → A q := fun q h => by rw [← hAe]; exact Or.inr h
  have hS : va_S A s.heap s.heap [] := va_S.rf
  have hkc : 0 + 0 ≤ 0 := Nat.le_refl 0
  have hks : 0 + 0 ≤ 0 := Nat.le_refl 0
  refine lv_iconst (v := nI (0)) hx hb dX0_fillForward_0 (by decide) ?_
  refine lv_istore_n (lv' := [(1, .int (nI (0))), (0, .ref (ad 0))]) hx hb dX0_fillForward_1 rfl hl (by decide) rfl (fun ls hl => ?_)
  refine q_loop (head := 2) (ll) (fun t H locs ls => ∃ (F1 : Nat → Nat → UInt64), (tb (fun u => 22 + u) ll nn (fw nn sg S M E) F t 0 F1) ∧ va_P (dC, dI) vwCl (wX kk ad (nI nn) (nI ll) (I) (F1) (J)) H ∧ va_D A (wX kk ad (nI nn) (nI ll) (I) (F1) (J)) ∧ va_S A s.heap H locs ∧ lv_has ls 5 [(1, .int (nI (t))), (0, .ref (ad 0))]) ?_ ?_ (0) (by omega) ⟨_, tb_0, hP, hD, hS, lv_sub hl [0, 1] rfl⟩
  · rintro t H locs ls ht ⟨F1, hf, hP, hD, hS, hl⟩ ih
    refine lv_iload_n hx hb dX0_fillForward_2 rfl (lv_at hl 0 rfl) ?_
    refine lv_aload_n hx hb dX0_fillForward_3 rfl (lv_at hl 1 rfl) ?_
    refine x_get hx hb hts hin hown hK hP 1 (by decide) (v := .int (nI ll)) rfl kf13 dX0_fillForward_4 ?_
    refine q_gen (tgt := 68) hx hb (by omega) (by omega) (by omega) dX0_fillForward_7 (by decide) ?_
    refine lv_iconst (v := nI (0)) hx hb dX0_fillForward_10 (by decide) ?_
    refine lv_istore_n (lv' := [(2, .int (nI (0))), (1, .int (nI (t))), (0, .ref (ad 0))]) hx hb dX0_fillForward_11 rfl hl (by decide) rfl (fun ls hl => ?_)
    refine q_loop (head := 12) (nn) (fun k H locs ls => ∃ (F2 : Nat → Nat → UInt64), (tb (fun u => 22 + u) ll nn (fw nn sg S M E) F t k F2) ∧ va_P (dC, dI) vwCl (wX kk ad (nI nn) (nI ll) (I) (F2) (J)) H ∧ va_D A (wX kk ad (nI nn) (nI ll) (I) (F2) (J)) ∧ va_S A s.heap H locs ∧ lv_has ls 5 [(2, .int (nI (k))), (1, .int (nI (t))), (0, .ref (ad 0))]) ?_ ?_ (0) (by omega) ⟨_, hf, hP, hD, hS, lv_sub hl [0, 1, 2] rfl⟩
    · rintro k H locs ls hk ⟨F2, hf2, hP, hD, hS, hl⟩ ih2
      have hw2 : xWt S M E F2 := xWt_keep hw (fun q hq => hf2.1 q (fun u _ => by show q ≠ 22 + u; omega))
      have eE : F2 (16 + k) (sg t) = E k (sg t) := hw2.2.2 k (sg t) (by omega) (hrw t ht).2
      refine lv_iload_n hx hb dX0_fillForward_12 rfl (lv_at hl 0 rfl) ?_
      refine lv_aload_n hx hb dX0_fillForward_13 rfl (lv_at hl 2 rfl) ?_
      refine x_get hx hb hts hin hown hK hP 0 (by decide) (v := .int (nI nn)) rfl kf7 dX0_fillForward_14 ?_
      refine q_gen (tgt := 62) hx hb (by omega) (by omega) (by omega) dX0_fillForward_17 (by decide) ?_
      refine lv_iload_n hx hb dX0_fillForward_20 rfl (lv_at hl 1 rfl) ?_
      rcases Nat.eq_zero_or_pos t with e0 | e0
      · refine q_ifnen (tgt := 33) hx hb (e0) (by omega) dX0_fillForward_21 (by decide) ?_
        refine lv_aload_n hx hb dX0_fillForward_24 rfl (lv_at hl 2 rfl) ?_
        refine x_get hx hb hts hin hown hK hP 3 (by decide) (v := .ref (ad 2)) rfl kf20 dX0_fillForward_25 ?_
        refine lv_iload_n hx hb dX0_fillForward_28 rfl (lv_at hl 0 rfl) ?_
        refine x_dl (k := 2) (i := k) 6 hx hb hK hP (by omega) (xC_s rfl) (by omega) (by decide) dX0_fillForward_29 ?_
        refine lv_goto (tgt := 39) hx hb dX0_fillForward_30 (by decide) ?_
        refine lv_dstore_n (lv' := [(3, .double (F2 (2) (k))), (2, .int (nI (k))), (1, .int (nI (t))), (0, .ref (ad 0))]) hx hb dX0_fillForward_39 rfl hl (by decide) rfl (fun ls hl => ?_)
        refine lv_aload_n hx hb dX0_fillForward_40 rfl (lv_at hl 3 rfl) ?_
        refine x_get hx hb hts hin hown hK hP 6 (by decide) (v := .ref (ad 5)) rfl kf32 dX0_fillForward_41 ?_
        refine lv_iload_n hx hb dX0_fillForward_44 rfl (lv_at hl 2 rfl) ?_
        refine x_al (o := 5) (b := 22) (N := 12) (i := t) 3 hx hb hK hP (by decide) rfl rfl (by omega) (by decide) dX0_fillForward_45 ?_
        refine lv_iload_n hx hb dX0_fillForward_46 rfl (lv_at hl 1 rfl) ?_
        refine lv_dload_n hx hb dX0_fillForward_47 rfl (lv_at hl 0 rfl) ?_
        refine lv_aload_n hx hb dX0_fillForward_48 rfl (lv_at hl 3 rfl) ?_
        refine lv_iload_n hx hb dX0_fillForward_49 rfl (lv_at hl 2 rfl) ?_
        refine lv_iload_n hx hb dX0_fillForward_50 rfl (lv_at hl 1 rfl) ?_
        refine vp_callSd (W.runV (As := [.int (nI (t)), .int (nI (k))]) (rest := [.double (F2 (2) (k)), .int (nI (k)), .ref (ad (22 + (t)))]) ⟨hx, hb, hml, hown, hts⟩ (c_X0_weightShown l dC dI kk ad _ _ I F2 J (t) k (sg (t)) (by omega) (by omega) (hrw (t) (by omega)).2 (hrw (t) (by omega)).1) (cwV 2 hts gX0_fillForward_X0_weightShown rfl rfl rfl (by decide +kernel) ⟨Nat.le_of_ble_eq_true rfl, Nat.le_of_ble_eq_true rfl⟩) ⟨pR_blind, va_recv hK hP (ci := 0) (q0 := 0) rfl wX_0, pR_pre hK hP⟩ rfl rfl hl.1 rfl (lv_room (Nat.le_of_ble_eq_true rfl)) dX0_fillForward_51 ⟨hkc, hks⟩) (fun r1 e1 => ?_)
        subst e1
        have hv : FP.dmul (F2 (2) (k)) (F2 (16 + k) (sg t)) = fw nn sg S M E t k := by
          subst e0
          rw [hw2.1 k (by omega), eE, fw_0]
        have hdb := fw_dB hwt h6 t (by omega) (fun u hu => (hrw u (by omega)).2) k hk
        refine lv_dmul hx hb dX0_fillForward_54 (dB_n (by rw [hv]; exact hdb)) ?_
        refine x_ds (k := (22 + (t))) (i := k) (v := FP.dmul (F2 (2) (k)) (F2 (16 + k) (sg t))) 6 hx hb hK hP hD hS (by omega) (fun _ => xC_dT (by omega) (by omega)) (by omega) (by decide) dX0_fillForward_55 (fun H locs hP hD hS => ?_)
        refine lv_iinc (v := nI ((k) + 1)) (lv' := [(2, .int (nI ((k) + 1))), (3, .double (F2 (2) (k))), (1, .int (nI (t))), (0, .ref (ad 0))]) hx hb dX0_fillForward_56 hl (k := 1) rfl (q_inc _) (by decide) rfl (fun ls hl => ?_)
        refine lv_goto (tgt := 12) hx hb dX0_fillForward_59 (by decide) ?_
        exact ih2 _ _ _ ⟨_, tb_put hf2 ht (fun a b _ _ h => by have h : 22 + a = 22 + b := h; omega) hv, hP, hD, hS, lv_sub hl [0, 2, 3] rfl⟩
      · obtain ⟨u, rfl⟩ : ∃ u, t = u + 1 := ⟨t - 1, by omega⟩
        refine q_ifney (tgt := 33) hx hb (by omega) (by omega) dX0_fillForward_21 (by decide) ?_
        refine lv_aload_n hx hb dX0_fillForward_33 rfl (lv_at hl 2 rfl) ?_
        refine lv_iload_n hx hb dX0_fillForward_34 rfl (lv_at hl 1 rfl) ?_
        refine lv_iload_n hx hb dX0_fillForward_35 rfl (lv_at hl 0 rfl) ?_
        have hF2 : ∀ i, i < nn → dB (16 * u + 2) (F2 (22 + u) i) := fun i hi => by
          have e9 : F2 (22 + u) i = fw nn sg S M E u i := hf2.2.1 u i (by omega) hi
          rw [e9]
          exact fw_dB hwt h6 u (by omega) (fun v hv => (hrw v (by omega)).2) i hi
        have hM2 : ∀ i, i < nn → dB 0 (F2 (10 + i) k) := fun i hi => by
          rw [hw2.2.1 i k (by omega) (by omega)]
          exact hwt.2.1 i k (by omega) (by omega)
        refine vp_callSd (W.runV (As := [.int (nI ((u + 1))), .int (nI (k))]) (rest := []) ⟨hx, hb, hml, hown, hts⟩ (c_X0_sumInto l dC dI kk ad nn ll I F2 J u k (16 * u + 2) (by omega) (by omega) h1 h6 (by omega) hF2 hM2) (cwV 2 hts gX0_fillForward_X0_sumInto rfl rfl rfl (by decide +kernel) ⟨Nat.le_of_ble_eq_true rfl, Nat.le_of_ble_eq_true rfl⟩) ⟨pR_blind, va_recv hK hP (ci := 0) (q0 := 0) rfl wX_0, pR_pre hK hP⟩ rfl rfl hl.1 rfl (lv_room (Nat.le_of_ble_eq_true rfl)) dX0_fillForward_36 ⟨hkc, hks⟩) (fun r0 e0s => ?_)
        subst e0s
        refine lv_dstore_n (lv' := [(3, .double (sumTo (fun i => FP.dmul (F2 (22 + u) i) (F2 (10 + i) k)) nn)), (2, .int (nI (k))), (1, .int (nI ((u + 1)))), (0, .ref (ad 0))]) hx hb dX0_fillForward_39 rfl hl (by decide) rfl (fun ls hl => ?_)
        refine lv_aload_n hx hb dX0_fillForward_40 rfl (lv_at hl 3 rfl) ?_
        refine x_get hx hb hts hin hown hK hP 6 (by decide) (v := .ref (ad 5)) rfl kf32 dX0_fillForward_41 ?_
        refine lv_iload_n hx hb dX0_fillForward_44 rfl (lv_at hl 2 rfl) ?_
        refine x_al (o := 5) (b := 22) (N := 12) (i := (u + 1)) 3 hx hb hK hP (by decide) rfl rfl (by omega) (by decide) dX0_fillForward_45 ?_
        refine lv_iload_n hx hb dX0_fillForward_46 rfl (lv_at hl 1 rfl) ?_
        refine lv_dload_n hx hb dX0_fillForward_47 rfl (lv_at hl 0 rfl) ?_
        refine lv_aload_n hx hb dX0_fillForward_48 rfl (lv_at hl 3 rfl) ?_
        refine lv_iload_n hx hb dX0_fillForward_49 rfl (lv_at hl 2 rfl) ?_
        refine lv_iload_n hx hb dX0_fillForward_50 rfl (lv_at hl 1 rfl) ?_
        refine vp_callSd (W.runV (As := [.int (nI ((u + 1))), .int (nI (k))]) (rest := [.double (sumTo (fun i => FP.dmul (F2 (22 + u) i) (F2 (10 + i) k)) nn), .int (nI (k)), .ref (ad (22 + ((u + 1))))]) ⟨hx, hb, hml, hown, hts⟩ (c_X0_weightShown l dC dI kk ad _ _ I F2 J (u + 1) k (sg (u + 1)) (by omega) (by omega) (hrw (u + 1) (by omega)).2 (hrw (u + 1) (by omega)).1) (cwV 2 hts gX0_fillForward_X0_weightShown rfl rfl rfl (by decide +kernel) ⟨Nat.le_of_ble_eq_true rfl, Nat.le_of_ble_eq_true rfl⟩) ⟨pR_blind, va_recv hK hP (ci := 0) (q0 := 0) rfl wX_0, pR_pre hK hP⟩ rfl rfl hl.1 rfl (lv_room (Nat.le_of_ble_eq_true rfl)) dX0_fillForward_51 ⟨hkc, hks⟩) (fun r1 e1 => ?_)
        subst e1
        have hv : FP.dmul (sumTo (fun i => FP.dmul (F2 (22 + u) i) (F2 (10 + i) k)) nn) (F2 (16 + k) (sg (u + 1))) = fw nn sg S M E (u + 1) k := by
          rw [eE, fw_1]
          refine congrArg (fun z => FP.dmul z (E k (sg (u + 1)))) (sumTo_congr nn (fun i hi => ?_))
          show FP.dmul (F2 (22 + u) i) (F2 (10 + i) k) = FP.dmul (fw nn sg S M E u i) (M i k)
          have e9 : F2 (22 + u) i = fw nn sg S M E u i := hf2.2.1 u i (by omega) hi
          rw [hw2.2.1 i k (by omega) (by omega), e9]
        have hdb := fw_dB hwt h6 (u + 1) (by omega) (fun v hv => (hrw v (by omega)).2) k hk
        refine lv_dmul hx hb dX0_fillForward_54 (dB_n (by rw [hv]; exact hdb)) ?_
        refine x_ds (k := (22 + ((u + 1)))) (i := k) (v := FP.dmul (sumTo (fun i => FP.dmul (F2 (22 + u) i) (F2 (10 + i) k)) nn) (F2 (16 + k) (sg (u + 1)))) 6 hx hb hK hP hD hS (by omega) (fun _ => xC_dT (by omega) (by omega)) (by omega) (by decide) dX0_fillForward_55 (fun H locs hP hD hS => ?_)
        refine lv_iinc (v := nI ((k) + 1)) (lv' := [(2, .int (nI ((k) + 1))), (3, .double (sumTo (fun i => FP.dmul (F2 (22 + u) i) (F2 (10 + i) k)) nn)), (1, .int (nI ((u + 1)))), (0, .ref (ad 0))]) hx hb dX0_fillForward_56 hl (k := 1) rfl (q_inc _) (by decide) rfl (fun ls hl => ?_)
        refine lv_goto (tgt := 12) hx hb dX0_fillForward_59 (by decide) ?_
        exact ih2 _ _ _ ⟨_, tb_put hf2 ht (fun a b _ _ h => by have h : 22 + a = 22 + b := h; omega) hv, hP, hD, hS, lv_sub hl [0, 2, 3] rfl⟩
    · rintro H locs ls ⟨F2, hf2, hP, hD, hS, hl⟩
      refine lv_iload_n hx hb dX0_fillForward_12 rfl (lv_at hl 0 rfl) ?_
      refine lv_aload_n hx hb dX0_fillForward_13 rfl (lv_at hl 2 rfl) ?_
      refine x_get hx hb hts hin hown hK hP 0 (by decide) (v := .int (nI nn)) rfl kf7 dX0_fillForward_14 ?_
      refine q_gey (tgt := 62) hx hb (by omega) (by omega) (by omega) dX0_fillForward_17 (by decide) ?_
      refine lv_iinc (v := nI ((t) + 1)) (lv' := [(1, .int (nI ((t) + 1))), (2, .int (nI ((nn)))), (0, .ref (ad 0))]) hx hb dX0_fillForward_62 hl (k := 1) rfl (q_inc _) (by decide) rfl (fun ls hl => ?_)
      refine lv_goto (tgt := 2) hx hb dX0_fillForward_65 (by decide) ?_
      exact ih _ _ _ ⟨_, tb_next hf2, hP, hD, hS, lv_sub hl [0, 2] rfl⟩
  · rintro H locs ls ⟨F1, hf, hP, hD, hS, hl⟩
    refine lv_iload_n hx hb dX0_fillForward_2 rfl (lv_at hl 0 rfl) ?_
    refine lv_aload_n hx hb dX0_fillForward_3 rfl (lv_at hl 1 rfl) ?_
    refine x_get hx hb hts hin hown hK hP 1 (by decide) (v := .int (nI ll)) rfl kf13 dX0_fillForward_4 ?_
    refine q_gey (tgt := 68) hx hb (by omega) (by omega) (by omega) dX0_fillForward_7 (by decide) ?_
    exact W.vret hx hb hr (fun t ht hW => ⟨⟨_, rfl, ⟨fun q hq => hf.1 q (fun u hu => by show q ≠ 22 + u; omega), fun t j ht hj => hf.2.1 t j ht hj⟩, by rw [ht]; exact hP, va_K.moved hW.alike hK, hD⟩, hS.F ht⟩) hS.2.2 dX0_fillForward_68

set_option maxHeartbeats 4000000 in
set_option maxRecDepth 100000 in
/-- fillBackward() -/
theorem c_X0_fillBackward (l : Launch) (dC : Nat → ClassId) (dI : Nat → Nat → Nat) (kk : Nat → ClassId) (ad : Nat → Nat) (sz : Nat) (nn ll : Nat) (sg : Nat → Nat) (S : Nat → UInt64) (M E : Nat → Nat → UInt64) (I : Nat → Nat → Int32) (F : Nat → Nat → UInt64) (J : Nat → Nat → Int64) (h1 : 1 ≤ nn) (h6 : nn ≤ 6) (h12 : ll ≤ 12) (hrw : xRw ll sg I) (hw : xWt S M E F) (hwt : wts S M E) : Met l yX0_fillBackward wsX0_fillBackward ({ frames := 2, cells := 0, slots := 0, locals := 60 }) (pW dC dI kk [.ref (ad 0)] (wX kk ad (nI nn) (nI ll) (I) (F) (J)) sz) (va_Qv (fun (G : Nat → Nat → UInt64) => (∀ q, q < 34 ∨ 46 ≤ q → G q = F q) ∧ ∀ t j, t < ll → j < nn → G (34 + (ll - 1 - t)) j = bw nn sg M E (ll - 1) t j) (fun (G : Nat → Nat → UInt64) t => bW dC dI kk (va_A (wX kk ad (nI nn) (nI ll) (I) (F) (J)) sz) (wX kk ad (nI nn) (nI ll) I G J) t) (va_A (wX kk ad (nI nn) (nI ll) (I) (F) (J)) sz)) 0 0 (va_A (wX kk ad (nI nn) (nI ll) (I) (F) (J)) sz) := by
  refine Met.ofW (cc := cX0_fillBackward) (maxL := 3) (ret := none) (by decide) rfl ?_
  intro p e s m args below meth c s₁ B hml hv
  obtain ⟨rfl, hsz, hP, hK, hD0⟩ := hv
  have hx := B.exec
  have hb := B.bytes
  have hr := B.returns
  have hts := atoms_spec (ws := wsX0_fillBackward) B.pre
  have hown : s.vm.findClass RX0 = some m.cls := findClass_of_methodNamed B.named
  have hlocks := B.notSynchronized
  have kf13 := hts (.fieldLink RX0 13 "PathOdds" "rowLength" "I") (by decide +kernel)
  have kf7 := hts (.fieldLink RX0 7 "PathOdds" "stateCount" "I") (by decide +kernel)
  have kf35 := hts (.fieldLink RX0 35 "PathOdds" "backwardTable" "[[D") (by decide +kernel)
  have hin : ∀ w ∈ u_ws RX0 TX0 11, w ∈ wsX0_fillBackward := by decide +kernel
  have hl := lv_entry ([.ref (ad 0)]) (n := 3) (Nat.le_of_ble_eq_true rfl)
  rw [lg_entry_eq]
  generalize (lg_sl ([.ref (ad 0)]) ++ List.replicate (3 - (lg_sl ([.ref (ad 0)])).length) Slot.unset).toArray = ls at hl ⊢
  have hl : lv_has ls 3 [(0, .ref (ad 0))] := hl
  subst hsz
  have hD := hD0.self (sz := s.heap.size)
  generalize hAe : va_A (wX kk ad (nI nn) (nI ll) (I) (F) (J)) s.heap.size = A at hD ⊢
  have hA : ∀ q : Nat, s.heap.size ≤ q → A q := fun q h => by rw [← hAe]; exact Or.inr h
  have hS : va_S A s.heap s.heap [] := va_S.rf
  have hkc : 0 + 0 ≤ 0 := Nat.le_refl 0
  have hks : 0 + 0 ≤ 0 := Nat.le_refl 0
  refine lv_aload_n hx hb dX0_fillBackward_0 rfl (lv_at hl 0 rfl) ?_
  refine x_get hx hb hts hin hown hK hP 1 (by decide) (v := .int (nI ll)) rfl kf13 dX0_fillBackward_1 ?_
  refine lv_iconst (v := nI (1)) hx hb dX0_fillBackward_4 (by decide) ?_
  refine lv_isub hx hb dX0_fillBackward_5 ?_
  refine q_top (y := dn (ll)) (q_dl _) ?_
  refine lv_istore_n (lv' := [(1, .int (dn (ll))), (0, .ref (ad 0))]) hx hb dX0_fillBackward_6 rfl hl (by decide) rfl (fun ls hl => ?_)
  refine q_loop (head := 7) (ll) (fun u H locs ls => ∃ (F1 : Nat → Nat → UInt64), (tb (fun u => 34 + (ll - 1 - u)) ll nn (bw nn sg M E (ll - 1)) F u 0 F1) ∧ va_P (dC, dI) vwCl (wX kk ad (nI nn) (nI ll) (I) (F1) (J)) H ∧ va_D A (wX kk ad (nI nn) (nI ll) (I) (F1) (J)) ∧ va_S A s.heap H locs ∧ lv_has ls 3 [(1, .int (dn (ll - u))), (0, .ref (ad 0))]) ?_ ?_ (0) (by omega) ⟨_, tb_0, hP, hD, hS, lv_sub hl [0, 1] rfl⟩
  · rintro u H locs ls hu ⟨F1, hf, hP, hD, hS, hl⟩ ih
    have e0 : dn (ll - u) = nI (ll - 1 - u) := dn_s (by omega)
    rw [e0] at hl
    refine lv_iload_n hx hb dX0_fillBackward_7 rfl (lv_at hl 0 rfl) ?_
    refine q_ifltn (tgt := 61) hx hb (rfl) (by omega) dX0_fillBackward_8 (by decide) ?_
    refine lv_iconst (v := nI (0)) hx hb dX0_fillBackward_11 (by decide) ?_
    refine lv_istore_n (lv' := [(2, .int (nI (0))), (1, .int (nI (ll - 1 - u))), (0, .ref (ad 0))]) hx hb dX0_fillBackward_12 rfl hl (by decide) rfl (fun ls hl => ?_)
    refine q_loop (head := 13) (nn) (fun k H locs ls => ∃ (F2 : Nat → Nat → UInt64), (tb (fun u => 34 + (ll - 1 - u)) ll nn (bw nn sg M E (ll - 1)) F u k F2) ∧ va_P (dC, dI) vwCl (wX kk ad (nI nn) (nI ll) (I) (F2) (J)) H ∧ va_D A (wX kk ad (nI nn) (nI ll) (I) (F2) (J)) ∧ va_S A s.heap H locs ∧ lv_has ls 3 [(2, .int (nI (k))), (1, .int (nI (ll - 1 - u))), (0, .ref (ad 0))]) ?_ ?_ (0) (by omega) ⟨_, hf, hP, hD, hS, lv_sub hl [0, 1, 2] rfl⟩
    · rintro k H locs ls hk ⟨F2, hf2, hP, hD, hS, hl⟩ ih2
      have hw2 : xWt S M E F2 := xWt_keep hw (fun q hq => hf2.1 q (fun u _ => by show q ≠ 34 + (ll - 1 - u); omega))
      rcases Nat.eq_zero_or_pos u with eu | eu
      · refine lv_iload_n hx hb dX0_fillBackward_13 rfl (lv_at hl 0 rfl) ?_
        refine lv_aload_n hx hb dX0_fillBackward_14 rfl (lv_at hl 2 rfl) ?_
        refine x_get hx hb hts hin hown hK hP 0 (by decide) (v := .int (nI nn)) rfl kf7 dX0_fillBackward_15 ?_
        refine q_gen (tgt := 55) hx hb (by omega) (by omega) (by omega) dX0_fillBackward_18 (by decide) ?_
        refine lv_aload_n hx hb dX0_fillBackward_21 rfl (lv_at hl 2 rfl) ?_
        refine x_get hx hb hts hin hown hK hP 7 (by decide) (v := .ref (ad 6)) rfl kf35 dX0_fillBackward_22 ?_
        refine lv_iload_n hx hb dX0_fillBackward_25 rfl (lv_at hl 1 rfl) ?_
        refine x_al (o := 6) (b := 34) (N := 12) (i := ll - 1 - u) 3 hx hb hK hP (by decide) rfl rfl (by omega) (by decide) dX0_fillBackward_26 ?_
        refine lv_iload_n hx hb dX0_fillBackward_27 rfl (lv_at hl 0 rfl) ?_
        refine lv_iload_n hx hb dX0_fillBackward_28 rfl (lv_at hl 1 rfl) ?_
        refine lv_aload_n hx hb dX0_fillBackward_29 rfl (lv_at hl 2 rfl) ?_
        refine x_get hx hb hts hin hown hK hP 1 (by decide) (v := .int (nI ll)) rfl kf13 dX0_fillBackward_30 ?_
        refine lv_iconst (v := nI (1)) hx hb dX0_fillBackward_33 (by decide) ?_
        refine lv_isub hx hb dX0_fillBackward_34 ?_
        refine q_top (y := nI (ll - 1)) (q_sub (by omega)) ?_
        refine q_nen (tgt := 42) hx hb (by omega) (by omega) (by omega) dX0_fillBackward_35 (by decide) ?_
        refine lv_dconst1 hx hb dX0_fillBackward_38 ?_
        refine lv_goto (tgt := 48) hx hb dX0_fillBackward_39 (by decide) ?_
        refine x_ds (k := (34 + (ll - 1 - u))) (i := k) (v := FP.dconst1) 6 hx hb hK hP hD hS (by omega) (fun _ => xC_dT (by omega) (by omega)) (by omega) (by decide) dX0_fillBackward_48 (fun H locs hP hD hS => ?_)
        refine lv_iinc (v := nI ((k) + 1)) (lv' := [(2, .int (nI ((k) + 1))), (1, .int (nI (ll - 1 - u))), (0, .ref (ad 0))]) hx hb dX0_fillBackward_49 hl (k := 0) rfl (q_inc _) (by decide) rfl (fun ls hl => ?_)
        refine lv_goto (tgt := 13) hx hb dX0_fillBackward_52 (by decide) ?_
        have hv : FP.dconst1 = bw nn sg M E (ll - 1) u k := by
          subst eu
          rfl
        exact ih2 _ _ _ ⟨_, tb_put hf2 hu (fun a b _ _ h => by have h : 34 + (ll - 1 - a) = 34 + (ll - 1 - b) := h; omega) hv, hP, hD, hS, lv_sub hl [0, 1, 2] rfl⟩
      · obtain ⟨v, rfl⟩ : ∃ v, u = v + 1 := ⟨u - 1, by omega⟩
        obtain ⟨w, ew⟩ : ∃ w, w = ll - 1 - (v + 1) := ⟨_, rfl⟩
        rw [← ew] at hl
        have ew1 : ll - 1 - v = w + 1 := by omega
        refine lv_iload_n hx hb dX0_fillBackward_13 rfl (lv_at hl 0 rfl) ?_
        refine lv_aload_n hx hb dX0_fillBackward_14 rfl (lv_at hl 2 rfl) ?_
        refine x_get hx hb hts hin hown hK hP 0 (by decide) (v := .int (nI nn)) rfl kf7 dX0_fillBackward_15 ?_
        refine q_gen (tgt := 55) hx hb (by omega) (by omega) (by omega) dX0_fillBackward_18 (by decide) ?_
        refine lv_aload_n hx hb dX0_fillBackward_21 rfl (lv_at hl 2 rfl) ?_
        refine x_get hx hb hts hin hown hK hP 7 (by decide) (v := .ref (ad 6)) rfl kf35 dX0_fillBackward_22 ?_
        refine lv_iload_n hx hb dX0_fillBackward_25 rfl (lv_at hl 1 rfl) ?_
        refine x_al (o := 6) (b := 34) (N := 12) (i := w) 3 hx hb hK hP (by decide) rfl rfl (by omega) (by decide) dX0_fillBackward_26 ?_
        refine lv_iload_n hx hb dX0_fillBackward_27 rfl (lv_at hl 0 rfl) ?_
        refine lv_iload_n hx hb dX0_fillBackward_28 rfl (lv_at hl 1 rfl) ?_
        refine lv_aload_n hx hb dX0_fillBackward_29 rfl (lv_at hl 2 rfl) ?_
        refine x_get hx hb hts hin hown hK hP 1 (by decide) (v := .int (nI ll)) rfl kf13 dX0_fillBackward_30 ?_
        refine lv_iconst (v := nI (1)) hx hb dX0_fillBackward_33 (by decide) ?_
        refine lv_isub hx hb dX0_fillBackward_34 ?_
        refine q_top (y := nI (ll - 1)) (q_sub (by omega)) ?_
        refine q_ney (tgt := 42) hx hb (by omega) (by omega) (by omega) dX0_fillBackward_35 (by decide) ?_
        refine lv_aload_n hx hb dX0_fillBackward_42 rfl (lv_at hl 2 rfl) ?_
        refine lv_iload_n hx hb dX0_fillBackward_43 rfl (lv_at hl 1 rfl) ?_
        refine lv_iload_n hx hb dX0_fillBackward_44 rfl (lv_at hl 0 rfl) ?_
        have hB2 : ∀ q, q < nn → F2 (34 + (w + 1)) q = bw nn sg M E (ll - 1) v q := fun q hq => by
          rw [← ew1]
          exact hf2.2.1 v q (by omega) hq
        have hsy := hrw (w + 1) (by omega)
        have hM2 : ∀ q, q < nn → dB 0 (F2 (10 + k) q) := fun q hq => by
          rw [hw2.2.1 k q (by omega) (by omega)]
          exact hwt.2.1 k q (by omega) (by omega)
        have hE2 : ∀ q, q < nn → dB 0 (F2 (16 + q) (sg (w + 1))) := fun q hq => by
          rw [hw2.2.2 q (sg (w + 1)) (by omega) hsy.2]
          exact hwt.2.2 q _ (by omega) hsy.2
        have hB3 : ∀ q, q < nn → dB (16 * v) (F2 (34 + (w + 1)) q) := fun q hq => by
          rw [hB2 q hq]
          exact bw_dB hwt h6 (ll - 1) v (by omega) (by omega) (fun u hu => (hrw u (by omega)).2) q hq
        refine vp_callSd (W.runV (As := [.int (nI (w)), .int (nI (k))]) (rest := [.int (nI (k)), .ref (ad (34 + (w)))]) ⟨hx, hb, hml, hown, hts⟩ (c_X0_sumOutOf l dC dI kk ad nn ll I F2 J w k (sg (w + 1)) (16 * v) (by omega) (by omega) h1 h6 (by omega) hsy.2 hsy.1 hM2 hE2 hB3) (cwV 2 hts gX0_fillBackward_X0_sumOutOf rfl rfl rfl (by decide +kernel) ⟨Nat.le_of_ble_eq_true rfl, Nat.le_of_ble_eq_true rfl⟩) ⟨pR_blind, va_recv hK hP (ci := 0) (q0 := 0) rfl wX_0, pR_pre hK hP⟩ rfl rfl hl.1 rfl (lv_room (Nat.le_of_ble_eq_true rfl)) dX0_fillBackward_45 ⟨hkc, hks⟩) (fun r0 e0s => ?_)
        subst e0s
        have hv : sumTo (fun q => FP.dmul (FP.dmul (F2 (10 + k) q) (F2 (16 + q) (sg (w + 1)))) (F2 (34 + (w + 1)) q)) nn = bw nn sg M E (ll - 1) (v + 1) k := by
          rw [bw_1, ew1]
          refine sumTo_congr nn (fun q hq => ?_)
          show FP.dmul (FP.dmul (F2 (10 + k) q) (F2 (16 + q) (sg (w + 1)))) (F2 (34 + (w + 1)) q) = _
          rw [hw2.2.1 k q (by omega) (by omega), hw2.2.2 q (sg (w + 1)) (by omega) hsy.2, hB2 q hq]
        refine x_ds (k := (34 + (w))) (i := k) (v := sumTo (fun q => FP.dmul (FP.dmul (F2 (10 + k) q) (F2 (16 + q) (sg (w + 1)))) (F2 (34 + (w + 1)) q)) nn) 6 hx hb hK hP hD hS (by omega) (fun _ => xC_dT (by omega) (by omega)) (by omega) (by decide) dX0_fillBackward_48 (fun H locs hP hD hS => ?_)
        refine lv_iinc (v := nI ((k) + 1)) (lv' := [(2, .int (nI ((k) + 1))), (1, .int (nI (w))), (0, .ref (ad 0))]) hx hb dX0_fillBackward_49 hl (k := 0) rfl (q_inc _) (by decide) rfl (fun ls hl => ?_)
        refine lv_goto (tgt := 13) hx hb dX0_fillBackward_52 (by decide) ?_
        subst ew
        exact ih2 _ _ _ ⟨_, tb_put hf2 hu (fun a b _ _ h => by have h : 34 + (ll - 1 - a) = 34 + (ll - 1 - b) := h; omega) hv, hP, hD, hS, lv_sub hl [0, 1, 2] rfl⟩
    · rintro H locs ls ⟨F2, hf2, hP, hD, hS, hl⟩
      refine lv_iload_n hx hb dX0_fillBackward_13 rfl (lv_at hl 0 rfl) ?_
      refine lv_aload_n hx hb dX0_fillBackward_14 rfl (lv_at hl 2 rfl) ?_
      refine x_get hx hb hts hin hown hK hP 0 (by decide) (v := .int (nI nn)) rfl kf7 dX0_fillBackward_15 ?_
      refine q_gey (tgt := 55) hx hb (by omega) (by omega) (by omega) dX0_fillBackward_18 (by decide) ?_
      refine lv_iinc (v := dn (ll - (u + 1))) (lv' := [(1, .int (dn (ll - (u + 1)))), (2, .int (nI ((nn)))), (0, .ref (ad 0))]) hx hb dX0_fillBackward_55 hl (k := 1) rfl (by rw [show ll - (u + 1) = ll - 1 - u from by omega]; exact q_dn _) (by decide) rfl (fun ls hl => ?_)
      refine lv_goto (tgt := 7) hx hb dX0_fillBackward_58 (by decide) ?_
      exact ih _ _ _ ⟨_, tb_next hf2, hP, hD, hS, lv_sub hl [0, 2] rfl⟩
  · rintro H locs ls ⟨F1, hf, hP, hD, hS, hl⟩
    have e0 : dn (ll - ll) = -1 := by
      rw [Nat.sub_self]
      rfl
    rw [e0] at hl
    refine lv_iload_n hx hb dX0_fillBackward_7 rfl (lv_at hl 0 rfl) ?_
    refine lv_if_lt (tgt := 61) hx hb dX0_fillBackward_8 (by decide) (fun q9 => ?_) (fun q9 => absurd (by decide) q9)
    exact W.vret hx hb hr (fun t ht hW => ⟨⟨_, rfl, ⟨fun q hq => hf.1 q (fun u hu => by show q ≠ 34 + (ll - 1 - u); omega), fun t j ht hj => hf.2.1 t j ht hj⟩, by rw [ht]; exact hP, va_K.moved hW.alike hK, hD⟩, hS.F ht⟩) hS.2.2 dX0_fillBackward_61

def frT (nn : Nat) (sg : Nat → Nat) (S : Nat → UInt64) (M E : Nat → Nat → UInt64) (I : Nat → Nat → Int32) : Nat → Nat → Int32
  | 0 => I 58
  | t + 1 => fun j => nI (fr nn sg S M E t j)

set_option maxHeartbeats 4000000 in
set_option maxRecDepth 100000 in
/-- fillBest() -/
theorem c_X0_fillBest (l : Launch) (dC : Nat → ClassId) (dI : Nat → Nat → Nat) (kk : Nat → ClassId) (ad : Nat → Nat) (sz : Nat) (nn ll : Nat) (sg : Nat → Nat) (S : Nat → UInt64) (M E : Nat → Nat → UInt64) (I : Nat → Nat → Int32) (F : Nat → Nat → UInt64) (J : Nat → Nat → Int64) (h1 : 1 ≤ nn) (h6 : nn ≤ 6) (h12 : ll ≤ 12) (hrw : xRw ll sg I) (hw : xWt S M E F) (hwt : wts S M E) (hl1 : 1 ≤ ll) : Met l yX0_fillBest wsX0_fillBest ({ frames := 1, cells := 0, slots := 0, locals := 30 }) (pW dC dI kk [.ref (ad 0)] (wX kk ad (nI nn) (nI ll) (I) (F) (J)) sz) (va_Qv (fun (G : (Nat → Nat → UInt64) × (Nat → Nat → Int32)) => (∀ q, q < 46 ∨ 58 ≤ q → G.1 q = F q) ∧ (∀ q, q < 58 ∨ 70 ≤ q → G.2 q = I q) ∧ (∀ t j, t < ll → j < nn → G.1 (46 + t) j = vt nn sg S M E t j) ∧ ∀ t j, t + 1 < ll → j < nn → G.2 (58 + (t + 1)) j = nI (fr nn sg S M E t j)) (fun (G : (Nat → Nat → UInt64) × (Nat → Nat → Int32)) t => bW dC dI kk (va_A (wX kk ad (nI nn) (nI ll) (I) (F) (J)) sz) (wX kk ad (nI nn) (nI ll) G.2 G.1 J) t) (va_A (wX kk ad (nI nn) (nI ll) (I) (F) (J)) sz)) 0 0 (va_A (wX kk ad (nI nn) (nI ll) (I) (F) (J)) sz) := by
  refine Met.ofW (cc := cX0_fillBest) (maxL := 4) (ret := none) (by decide) rfl ?_
  intro p e s m args below meth c s₁ B hml hv
  obtain ⟨rfl, hsz, hP, hK, hD0⟩ := hv
  have hx := B.exec
  have hb := B.bytes
  have hr := B.returns
  have hts := atoms_spec (ws := wsX0_fillBest) B.pre
  have hown : s.vm.findClass RX0 = some m.cls := findClass_of_methodNamed B.named
  have hlocks := B.notSynchronized
  have kf7 := hts (.fieldLink RX0 7 "PathOdds" "stateCount" "I") (by decide +kernel)
  have kf38 := hts (.fieldLink RX0 38 "PathOdds" "bestTable" "[[D") (by decide +kernel)
  have kf20 := hts (.fieldLink RX0 20 "PathOdds" "startWeights" "[D") (by decide +kernel)
  have kf13 := hts (.fieldLink RX0 13 "PathOdds" "rowLength" "I") (by decide +kernel)
  have kf43 := hts (.fieldLink RX0 43 "PathOdds" "fromTable" "[[I") (by decide +kernel)
  have kf26 := hts (.fieldLink RX0 26 "PathOdds" "moveWeights" "[[D") (by decide +kernel)
  have hin : ∀ w ∈ u_ws RX0 TX0 11, w ∈ wsX0_fillBest := by decide +kernel
  have hl := lv_entry ([.ref (ad 0)]) (n := 4) (Nat.le_of_ble_eq_true rfl)
  rw [lg_entry_eq]
  generalize (lg_sl ([.ref (ad 0)]) ++ List.replicate (4 - (lg_sl ([.ref (ad 0)])).length) Slot.unset).toArray = ls at hl ⊢
  have hl : lv_has ls 4 [(0, .ref (ad 0))] := hl
  subst hsz
  have hD := hD0.self (sz := s.heap.size)
  generalize hAe : va_A (wX kk ad (nI nn) (nI ll) (I) (F) (J)) s.heap.size = A at hD ⊢
  have hA : ∀ q : Nat, s.heap.size ≤ q → A q := fun q h => by rw [← hAe]; exact Or.inr h
  have hS : va_S A s.heap s.heap [] := va_S.rf
  have hkc : 0 + 0 ≤ 0 := Nat.le_refl 0
  have hks : 0 + 0 ≤ 0 := Nat.le_refl 0
  refine lv_iconst (v := nI (0)) hx hb dX0_fillBest_0 (by decide) ?_
  refine lv_istore_n (lv' := [(1, .int (nI (0))), (0, .ref (ad 0))]) hx hb dX0_fillBest_1 rfl hl (by decide) rfl (fun ls hl => ?_)
  refine q_loop (head := 2) (nn) (fun k H locs ls => ∃ (F1 : Nat → Nat → UInt64), (tb (fun u => 46 + u) ll nn (vt nn sg S M E) F 0 k F1) ∧ va_P (dC, dI) vwCl (wX kk ad (nI nn) (nI ll) (I) (F1) (J)) H ∧ va_D A (wX kk ad (nI nn) (nI ll) (I) (F1) (J)) ∧ va_S A s.heap H locs ∧ lv_has ls 4 [(1, .int (nI (k))), (0, .ref (ad 0))]) ?_ ?_ (0) (by omega) ⟨_, tb_0, hP, hD, hS, lv_sub hl [0, 1] rfl⟩
  · rintro k H locs ls hk ⟨F1, hf, hP, hD, hS, hl⟩ ih
    have hw2 : xWt S M E F1 := xWt_keep hw (fun q hq => hf.1 q (fun u _ => by show q ≠ 46 + u; omega))
    refine lv_iload_n hx hb dX0_fillBest_2 rfl (lv_at hl 0 rfl) ?_
    refine lv_aload_n hx hb dX0_fillBest_3 rfl (lv_at hl 1 rfl) ?_
    refine x_get hx hb hts hin hown hK hP 0 (by decide) (v := .int (nI nn)) rfl kf7 dX0_fillBest_4 ?_
    refine q_gen (tgt := 37) hx hb (by omega) (by omega) (by omega) dX0_fillBest_7 (by decide) ?_
    refine lv_aload_n hx hb dX0_fillBest_10 rfl (lv_at hl 1 rfl) ?_
    refine x_get hx hb hts hin hown hK hP 8 (by decide) (v := .ref (ad 7)) rfl kf38 dX0_fillBest_11 ?_
    refine lv_iconst (v := nI (0)) hx hb dX0_fillBest_14 (by decide) ?_
    refine x_al (o := 7) (b := 46) (N := 12) (i := 0) 3 hx hb hK hP (by decide) rfl rfl (by omega) (by decide) dX0_fillBest_15 ?_
    refine lv_iload_n hx hb dX0_fillBest_16 rfl (lv_at hl 0 rfl) ?_
    refine lv_aload_n hx hb dX0_fillBest_17 rfl (lv_at hl 1 rfl) ?_
    refine x_get hx hb hts hin hown hK hP 3 (by decide) (v := .ref (ad 2)) rfl kf20 dX0_fillBest_18 ?_
    refine lv_iload_n hx hb dX0_fillBest_21 rfl (lv_at hl 0 rfl) ?_
    refine x_dl (k := 2) (i := k) 6 hx hb hK hP (by omega) (xC_s rfl) (by omega) (by decide) dX0_fillBest_22 ?_
    refine lv_aload_n hx hb dX0_fillBest_23 rfl (lv_at hl 1 rfl) ?_
    refine lv_iconst (v := nI (0)) hx hb dX0_fillBest_24 (by decide) ?_
    refine lv_iload_n hx hb dX0_fillBest_25 rfl (lv_at hl 0 rfl) ?_
    refine vp_callSd (W.runV (As := [.int (nI (0)), .int (nI (k))]) (rest := [.double (F1 (2) (k)), .int (nI (k)), .ref (ad (46 + (0)))]) ⟨hx, hb, hml, hown, hts⟩ (c_X0_weightShown l dC dI kk ad _ _ I F1 J (0) k (sg (0)) (by omega) (by omega) (hrw (0) (by omega)).2 (hrw (0) (by omega)).1) (cwV 2 hts gX0_fillBest_X0_weightShown rfl rfl rfl (by decide +kernel) ⟨Nat.le_of_ble_eq_true rfl, Nat.le_of_ble_eq_true rfl⟩) ⟨pR_blind, va_recv hK hP (ci := 0) (q0 := 0) rfl wX_0, pR_pre hK hP⟩ rfl rfl hl.1 rfl (lv_room (Nat.le_of_ble_eq_true rfl)) dX0_fillBest_26 ⟨hkc, hks⟩) (fun r1 e1 => ?_)
    subst e1
    have hv : FP.dmul (F1 (2) (k)) (F1 (16 + k) (sg 0)) = vt nn sg S M E 0 k := by
      rw [hw2.1 k (by omega), hw2.2.2 k (sg 0) (by omega) (hrw 0 (by omega)).2, vt_0]
    have hdb := vt_dB hwt h1 h6 0 (by omega) (fun v hv => (hrw v (by omega)).2) k hk
    refine lv_dmul hx hb dX0_fillBest_29 (dB_n (by rw [hv]; exact hdb)) ?_
    refine x_ds (k := (46 + (0))) (i := k) (v := FP.dmul (F1 (2) (k)) (F1 (16 + k) (sg 0))) 6 hx hb hK hP hD hS (by omega) (fun _ => xC_dT (by omega) (by omega)) (by omega) (by decide) dX0_fillBest_30 (fun H locs hP hD hS => ?_)
    refine lv_iinc (v := nI ((k) + 1)) (lv' := [(1, .int (nI ((k) + 1))), (0, .ref (ad 0))]) hx hb dX0_fillBest_31 hl (k := 0) rfl (q_inc _) (by decide) rfl (fun ls hl => ?_)
    refine lv_goto (tgt := 2) hx hb dX0_fillBest_34 (by decide) ?_
    exact ih _ _ _ ⟨_, tb_put hf (by omega) (fun a b _ _ h => by have h : 46 + a = 46 + b := h; omega) hv, hP, hD, hS, lv_sub hl [0, 1] rfl⟩
  · rintro H locs ls ⟨F1, hf, hP, hD, hS, hl⟩
    refine lv_iload_n hx hb dX0_fillBest_2 rfl (lv_at hl 0 rfl) ?_
    refine lv_aload_n hx hb dX0_fillBest_3 rfl (lv_at hl 1 rfl) ?_
    refine x_get hx hb hts hin hown hK hP 0 (by decide) (v := .int (nI nn)) rfl kf7 dX0_fillBest_4 ?_
    refine q_gey (tgt := 37) hx hb (by omega) (by omega) (by omega) dX0_fillBest_7 (by decide) ?_
    refine lv_iconst (v := nI (1)) hx hb dX0_fillBest_37 (by decide) ?_
    refine lv_istore_n (lv' := [(1, .int (nI (1))), (0, .ref (ad 0))]) hx hb dX0_fillBest_38 rfl hl (by decide) rfl (fun ls hl => ?_)
    refine q_loop (head := 39) (ll) (fun t H locs ls => ∃ (F2 : Nat → Nat → UInt64), ∃ (I2 : Nat → Nat → Int32), (1 ≤ t ∧ tb (fun u => 46 + u) ll nn (vt nn sg S M E) F t 0 F2 ∧ tb (fun u => 58 + u) ll nn (frT nn sg S M E I) I t 0 I2) ∧ va_P (dC, dI) vwCl (wX kk ad (nI nn) (nI ll) (I2) (F2) (J)) H ∧ va_D A (wX kk ad (nI nn) (nI ll) (I2) (F2) (J)) ∧ va_S A s.heap H locs ∧ lv_has ls 4 [(1, .int (nI (t))), (0, .ref (ad 0))]) ?_ ?_ (1) (by omega) ⟨_, _, ⟨Nat.le_refl 1, tb_next hf, ⟨fun _ _ => rfl, fun u j hu _ => by have e9 : u = 0 := by omega; subst e9; rfl, fun _ h => absurd h (Nat.not_lt_zero _)⟩⟩, hP, hD, hS, lv_sub hl [0, 1] rfl⟩
    · rintro t H locs ls ht ⟨F2, I2, hg, hP, hD, hS, hl⟩ ih2
      obtain ⟨u, rfl⟩ : ∃ u, t = u + 1 := ⟨t - 1, by have := hg.1; omega⟩
      refine lv_iload_n hx hb dX0_fillBest_39 rfl (lv_at hl 0 rfl) ?_
      refine lv_aload_n hx hb dX0_fillBest_40 rfl (lv_at hl 1 rfl) ?_
      refine x_get hx hb hts hin hown hK hP 1 (by decide) (v := .int (nI ll)) rfl kf13 dX0_fillBest_41 ?_
      refine q_gen (tgt := 119) hx hb (by omega) (by omega) (by omega) dX0_fillBest_44 (by decide) ?_
      refine lv_iconst (v := nI (0)) hx hb dX0_fillBest_47 (by decide) ?_
      refine lv_istore_n (lv' := [(2, .int (nI (0))), (1, .int (nI ((u + 1)))), (0, .ref (ad 0))]) hx hb dX0_fillBest_48 rfl hl (by decide) rfl (fun ls hl => ?_)
      refine q_loop (head := 49) (nn) (fun k H locs ls => ∃ (F3 : Nat → Nat → UInt64), ∃ (I3 : Nat → Nat → Int32), (tb (fun u => 46 + u) ll nn (vt nn sg S M E) F (u + 1) k F3 ∧ tb (fun u => 58 + u) ll nn (frT nn sg S M E I) I (u + 1) k I3) ∧ va_P (dC, dI) vwCl (wX kk ad (nI nn) (nI ll) (I3) (F3) (J)) H ∧ va_D A (wX kk ad (nI nn) (nI ll) (I3) (F3) (J)) ∧ va_S A s.heap H locs ∧ lv_has ls 4 [(2, .int (nI (k))), (1, .int (nI (u + 1))), (0, .ref (ad 0))]) ?_ ?_ (0) (by omega) ⟨_, _, ⟨hg.2.1, hg.2.2⟩, hP, hD, hS, lv_sub hl [0, 1, 2] rfl⟩
      · rintro k H locs ls hk ⟨F3, I3, hf3, hP, hD, hS, hl⟩ ih3
        have hw2 : xWt S M E F3 := xWt_keep hw (fun q hq => hf3.1.1 q (fun u _ => by show q ≠ 46 + u; omega))
        have hI3 : I3 1 = I 1 := hf3.2.1 1 (fun u _ => by show 1 ≠ 58 + u; omega)
        have hrw3 : xRw ll sg I3 := fun v hv => by
          rw [hI3]
          exact hrw v hv
        have hV3 : ∀ q, q < nn → F3 (46 + u) q = vt nn sg S M E u q := fun q hq => hf3.1.2.1 u q (by omega) hq
        have hF3 : ∀ i, i < nn → dB (16 * u + 2) (F3 (46 + u) i) := fun i hi => by
          rw [hV3 i hi]
          exact vt_dB hwt h1 h6 u (by omega) (fun v hv => (hrw v (by omega)).2) i hi
        have hM3 : ∀ i, i < nn → F3 (10 + i) k = M i k := fun i hi => hw2.2.1 i k (by omega) (by omega)
        have hM4 : ∀ i, i < nn → dB 0 (F3 (10 + i) k) := fun i hi => by
          rw [hM3 i hi]
          exact hwt.2.1 i k (by omega) (by omega)
        have hfr : fr nn sg S M E u k ≤ nn - 1 := arg_le _ _
        have hfe : arg (fun i => FP.dmul (F3 (46 + u) i) (F3 (10 + i) k)) (nn - 1) = fr nn sg S M E u k := arg_congr (nn - 1) (fun i hi => by
          show FP.dmul (F3 (46 + u) i) (F3 (10 + i) k) = _
          rw [hV3 i (by omega), hM3 i (by omega)])
        generalize hg9 : fr nn sg S M E u k = g9 at hfr hfe
        refine lv_iload_n hx hb dX0_fillBest_49 rfl (lv_at hl 0 rfl) ?_
        refine lv_aload_n hx hb dX0_fillBest_50 rfl (lv_at hl 2 rfl) ?_
        refine x_get hx hb hts hin hown hK hP 0 (by decide) (v := .int (nI nn)) rfl kf7 dX0_fillBest_51 ?_
        refine q_gen (tgt := 113) hx hb (by omega) (by omega) (by omega) dX0_fillBest_54 (by decide) ?_
        refine lv_aload_n hx hb dX0_fillBest_57 rfl (lv_at hl 2 rfl) ?_
        refine lv_iload_n hx hb dX0_fillBest_58 rfl (lv_at hl 1 rfl) ?_
        refine lv_iload_n hx hb dX0_fillBest_59 rfl (lv_at hl 0 rfl) ?_
        refine vp_callSi (W.runV (As := [.int (nI (u + 1)), .int (nI (k))]) (rest := []) ⟨hx, hb, hml, hown, hts⟩ (c_X0_lowestBestInto l dC dI kk ad nn ll I3 F3 J u k (16 * u + 2) (by omega) (by omega) h1 h6 (by omega) hF3 hM4) (cwV 2 hts gX0_fillBest_X0_lowestBestInto rfl rfl rfl (by decide +kernel) ⟨Nat.le_of_ble_eq_true rfl, Nat.le_of_ble_eq_true rfl⟩) ⟨pR_blind, va_recv hK hP (ci := 0) (q0 := 0) rfl wX_0, pR_pre hK hP⟩ rfl rfl hl.1 rfl (lv_room (Nat.le_of_ble_eq_true rfl)) dX0_fillBest_60 ⟨hkc, hks⟩) (fun r0 e0s => ?_)
        rw [hfe] at e0s
        subst e0s
        refine lv_istore_n (lv' := [(3, .int (nI (g9))), (2, .int (nI (k))), (1, .int (nI (u + 1))), (0, .ref (ad 0))]) hx hb dX0_fillBest_63 rfl hl (by decide) rfl (fun ls hl => ?_)
        refine lv_aload_n hx hb dX0_fillBest_64 rfl (lv_at hl 3 rfl) ?_
        refine x_get hx hb hts hin hown hK hP 9 (by decide) (v := .ref (ad 8)) rfl kf43 dX0_fillBest_65 ?_
        refine lv_iload_n hx hb dX0_fillBest_68 rfl (lv_at hl 2 rfl) ?_
        refine x_al (o := 8) (b := 58) (N := 12) (i := u + 1) 4 hx hb hK hP (by decide) rfl rfl (by omega) (by decide) dX0_fillBest_69 ?_
        refine lv_iload_n hx hb dX0_fillBest_70 rfl (lv_at hl 1 rfl) ?_
        refine lv_iload_n hx hb dX0_fillBest_71 rfl (lv_at hl 0 rfl) ?_
        refine x_is (k := (58 + (u + 1))) (i := k) (v := nI (g9)) 6 hx hb hK hP hD hS (by omega) (fun _ => xC_i (by omega) (by omega)) (by omega) (by decide) dX0_fillBest_72 (fun H locs hP hD hS => ?_)
        have hI4 : up2 I3 (58 + (u + 1)) k (nI (g9)) 1 = I3 1 := up2_r _ _ (by omega)
        refine lv_aload_n hx hb dX0_fillBest_73 rfl (lv_at hl 3 rfl) ?_
        refine x_get hx hb hts hin hown hK hP 8 (by decide) (v := .ref (ad 7)) rfl kf38 dX0_fillBest_74 ?_
        refine lv_iload_n hx hb dX0_fillBest_77 rfl (lv_at hl 2 rfl) ?_
        refine x_al (o := 7) (b := 46) (N := 12) (i := u + 1) 3 hx hb hK hP (by decide) rfl rfl (by omega) (by decide) dX0_fillBest_78 ?_
        refine lv_iload_n hx hb dX0_fillBest_79 rfl (lv_at hl 1 rfl) ?_
        refine lv_aload_n hx hb dX0_fillBest_80 rfl (lv_at hl 3 rfl) ?_
        refine x_get hx hb hts hin hown hK hP 8 (by decide) (v := .ref (ad 7)) rfl kf38 dX0_fillBest_81 ?_
        refine lv_iload_n hx hb dX0_fillBest_84 rfl (lv_at hl 2 rfl) ?_
        refine lv_iconst (v := nI (1)) hx hb dX0_fillBest_85 (by decide) ?_
        refine lv_isub hx hb dX0_fillBest_86 ?_
        refine q_top (y := nI (u)) (q_sub (by omega)) ?_
        refine x_al (o := 7) (b := 46) (N := 12) (i := u) 3 hx hb hK hP (by decide) rfl rfl (by omega) (by decide) dX0_fillBest_87 ?_
        refine lv_iload_n hx hb dX0_fillBest_88 rfl (lv_at hl 0 rfl) ?_
        refine x_dl (k := (46 + (u))) (i := g9) 6 hx hb hK hP (by omega) (xC_dT (by omega) (by omega)) (by omega) (by decide) dX0_fillBest_89 ?_
        refine lv_aload_n hx hb dX0_fillBest_90 rfl (lv_at hl 3 rfl) ?_
        refine x_get hx hb hts hin hown hK hP 4 (by decide) (v := .ref (ad 3)) rfl kf26 dX0_fillBest_91 ?_
        refine lv_iload_n hx hb dX0_fillBest_94 rfl (lv_at hl 0 rfl) ?_
        refine x_al (o := 3) (b := 10) (N := 6) (i := g9) 3 hx hb hK hP (by decide) rfl rfl (by omega) (by decide) dX0_fillBest_95 ?_
        refine lv_iload_n hx hb dX0_fillBest_96 rfl (lv_at hl 1 rfl) ?_
        refine x_dl (k := (10 + (g9))) (i := k) 6 hx hb hK hP (by omega) (xC_dA (by omega) (by omega)) (by omega) (by decide) dX0_fillBest_97 ?_
        refine lv_dmul hx hb dX0_fillBest_98 (dB_n (dB_mul (hF3 g9 (by omega)) (hM4 g9 (by omega)) (by omega))) ?_
        refine lv_aload_n hx hb dX0_fillBest_99 rfl (lv_at hl 3 rfl) ?_
        refine lv_iload_n hx hb dX0_fillBest_100 rfl (lv_at hl 2 rfl) ?_
        refine lv_iload_n hx hb dX0_fillBest_101 rfl (lv_at hl 1 rfl) ?_
        refine vp_callSd (W.runV (As := [.int (nI (u + 1)), .int (nI (k))]) (rest := [.double (FP.dmul (F3 ((46 + (u))) (g9)) (F3 ((10 + (g9))) (k))), .int (nI (k)), .ref (ad (46 + (u + 1)))]) ⟨hx, hb, hml, hown, hts⟩ (c_X0_weightShown l dC dI kk ad _ _ _ F3 J (u + 1) k (sg (u + 1)) (by omega) (by omega) (hrw (u + 1) (by omega)).2 (by rw [hI4]; exact (hrw3 (u + 1) (by omega)).1)) (cwV 2 hts gX0_fillBest_X0_weightShown rfl rfl rfl (by decide +kernel) ⟨Nat.le_of_ble_eq_true rfl, Nat.le_of_ble_eq_true rfl⟩) ⟨pR_blind, va_recv hK hP (ci := 0) (q0 := 0) rfl wX_0, pR_pre hK hP⟩ rfl rfl hl.1 rfl (lv_room (Nat.le_of_ble_eq_true rfl)) dX0_fillBest_102 ⟨hkc, hks⟩) (fun r1 e1 => ?_)
        subst e1
        have hv : FP.dmul (FP.dmul (F3 (46 + u) g9) (F3 (10 + g9) k)) (F3 (16 + k) (sg (u + 1))) = vt nn sg S M E (u + 1) k := by
          rw [vt_1, hg9, hV3 g9 (by omega), hM3 g9 (by omega), hw2.2.2 k (sg (u + 1)) (by omega) (hrw (u + 1) (by omega)).2]
        have hdb := vt_dB hwt h1 h6 (u + 1) (by omega) (fun v hv => (hrw v (by omega)).2) k hk
        refine lv_dmul hx hb dX0_fillBest_105 (dB_n (by rw [show _ = _ from hv]; exact hdb)) ?_
        refine x_ds (k := (46 + (u + 1))) (i := k) (v := FP.dmul (FP.dmul (F3 ((46 + (u))) (g9)) (F3 ((10 + (g9))) (k))) (F3 (16 + k) (sg (u + 1)))) 6 hx hb hK hP hD hS (by omega) (fun _ => xC_dT (by omega) (by omega)) (by omega) (by decide) dX0_fillBest_106 (fun H locs hP hD hS => ?_)
        refine lv_iinc (v := nI ((k) + 1)) (lv' := [(2, .int (nI ((k) + 1))), (3, .int (nI (g9))), (1, .int (nI (u + 1))), (0, .ref (ad 0))]) hx hb dX0_fillBest_107 hl (k := 1) rfl (q_inc _) (by decide) rfl (fun ls hl => ?_)
        refine lv_goto (tgt := 49) hx hb dX0_fillBest_110 (by decide) ?_
        exact ih3 _ _ _ ⟨_, _, ⟨tb_put hf3.1 (by omega) (fun a b _ _ h => by have h : 46 + a = 46 + b := h; omega) hv, tb_put hf3.2 (by omega) (fun a b _ _ h => by have h : 58 + a = 58 + b := h; omega) (by rw [← hg9]; rfl)⟩, hP, hD, hS, lv_sub hl [0, 2, 3] rfl⟩
      · rintro H locs ls ⟨F3, I3, hf3, hP, hD, hS, hl⟩
        refine lv_iload_n hx hb dX0_fillBest_49 rfl (lv_at hl 0 rfl) ?_
        refine lv_aload_n hx hb dX0_fillBest_50 rfl (lv_at hl 2 rfl) ?_
        refine x_get hx hb hts hin hown hK hP 0 (by decide) (v := .int (nI nn)) rfl kf7 dX0_fillBest_51 ?_
        refine q_gey (tgt := 113) hx hb (by omega) (by omega) (by omega) dX0_fillBest_54 (by decide) ?_
        refine lv_iinc (v := nI ((u + 1) + 1)) (lv' := [(1, .int (nI ((u + 1) + 1))), (2, .int (nI ((nn)))), (0, .ref (ad 0))]) hx hb dX0_fillBest_113 hl (k := 1) rfl (q_inc _) (by decide) rfl (fun ls hl => ?_)
        refine lv_goto (tgt := 39) hx hb dX0_fillBest_116 (by decide) ?_
        exact ih2 _ _ _ ⟨_, _, ⟨by omega, tb_next hf3.1, tb_next hf3.2⟩, hP, hD, hS, lv_sub hl [0, 2] rfl⟩
    · rintro H locs ls ⟨F2, I2, hg, hP, hD, hS, hl⟩
      refine lv_iload_n hx hb dX0_fillBest_39 rfl (lv_at hl 0 rfl) ?_
      refine lv_aload_n hx hb dX0_fillBest_40 rfl (lv_at hl 1 rfl) ?_
      refine x_get hx hb hts hin hown hK hP 1 (by decide) (v := .int (nI ll)) rfl kf13 dX0_fillBest_41 ?_
      refine q_gey (tgt := 119) hx hb (by omega) (by omega) (by omega) dX0_fillBest_44 (by decide) ?_
      exact W.vret hx hb hr (fun t ht hW => ⟨⟨(_, _), rfl, ⟨fun q hq => hg.2.1.1 q (fun u hu => by show q ≠ 46 + u; omega), fun q hq => hg.2.2.1 q (fun u hu => by show q ≠ 58 + u; omega), fun t j ht hj => hg.2.1.2.1 t j ht hj, fun t j ht hj => hg.2.2.2.1 (t + 1) j ht hj⟩, by rw [ht]; exact hP, va_K.moved hW.alike hK, hD⟩, hS.F ht⟩) hS.2.2 dX0_fillBest_119

set_option maxHeartbeats 4000000 in
set_option maxRecDepth 100000 in
/-- fillCounts() -/
theorem c_X0_fillCounts (l : Launch) (dC : Nat → ClassId) (dI : Nat → Nat → Nat) (kk : Nat → ClassId) (ad : Nat → Nat) (sz : Nat) (nn ll : Nat) (sg : Nat → Nat) (S : Nat → UInt64) (M E : Nat → Nat → UInt64) (I : Nat → Nat → Int32) (F : Nat → Nat → UInt64) (J : Nat → Nat → Int64) (h1 : 1 ≤ nn) (h6 : nn ≤ 6) (h12 : ll ≤ 12) (hrw : xRw ll sg I) (hw : xWt S M E F) (hwt : wts S M E) : Met l yX0_fillCounts wsX0_fillCounts ({ frames := 1, cells := 0, slots := 0, locals := 30 }) (pW dC dI kk [.ref (ad 0)] (wX kk ad (nI nn) (nI ll) (I) (F) (J)) sz) (va_Qv (fun (G : Nat → Nat → Int64) => ∀ t j, t < ll → j < nn → G (70 + t) j = ct nn sg S M E t j) (fun (G : Nat → Nat → Int64) t => bW dC dI kk (va_A (wX kk ad (nI nn) (nI ll) (I) (F) (J)) sz) (wX kk ad (nI nn) (nI ll) I F G) t) (va_A (wX kk ad (nI nn) (nI ll) (I) (F) (J)) sz)) 0 0 (va_A (wX kk ad (nI nn) (nI ll) (I) (F) (J)) sz) := by
  refine Met.ofW (cc := cX0_fillCounts) (maxL := 3) (ret := none) (by decide) rfl ?_
  intro p e s m args below meth c s₁ B hml hv
  obtain ⟨rfl, hsz, hP, hK, hD0⟩ := hv
  have hx := B.exec
  have hb := B.bytes
  have hr := B.returns
  have hts := atoms_spec (ws := wsX0_fillCounts) B.pre
  have hown : s.vm.findClass RX0 = some m.cls := findClass_of_methodNamed B.named
  have hlocks := B.notSynchronized
  have kf13 := hts (.fieldLink RX0 13 "PathOdds" "rowLength" "I") (by decide +kernel)
  have kf7 := hts (.fieldLink RX0 7 "PathOdds" "stateCount" "I") (by decide +kernel)
  have kf48 := hts (.fieldLink RX0 48 "PathOdds" "countTable" "[[J") (by decide +kernel)
  have hin : ∀ w ∈ u_ws RX0 TX0 11, w ∈ wsX0_fillCounts := by decide +kernel
  have hl := lv_entry ([.ref (ad 0)]) (n := 3) (Nat.le_of_ble_eq_true rfl)
  rw [lg_entry_eq]
  generalize (lg_sl ([.ref (ad 0)]) ++ List.replicate (3 - (lg_sl ([.ref (ad 0)])).length) Slot.unset).toArray = ls at hl ⊢
  have hl : lv_has ls 3 [(0, .ref (ad 0))] := hl
  subst hsz
  have hD := hD0.self (sz := s.heap.size)
  generalize hAe : va_A (wX kk ad (nI nn) (nI ll) (I) (F) (J)) s.heap.size = A at hD ⊢
  have hA : ∀ q : Nat, s.heap.size ≤ q → A q := fun q h => by rw [← hAe]; exact Or.inr h
  have hS : va_S A s.heap s.heap [] := va_S.rf
  have hkc : 0 + 0 ≤ 0 := Nat.le_refl 0
  have hks : 0 + 0 ≤ 0 := Nat.le_refl 0
  refine lv_iconst (v := nI (0)) hx hb dX0_fillCounts_0 (by decide) ?_
  refine lv_istore_n (lv' := [(1, .int (nI (0))), (0, .ref (ad 0))]) hx hb dX0_fillCounts_1 rfl hl (by decide) rfl (fun ls hl => ?_)
  refine q_loop (head := 2) (ll) (fun t H locs ls => ∃ (J1 : Nat → Nat → Int64), (tb (fun u => 70 + u) ll nn (ct nn sg S M E) J t 0 J1) ∧ va_P (dC, dI) vwCl (wX kk ad (nI nn) (nI ll) (I) (F) (J1)) H ∧ va_D A (wX kk ad (nI nn) (nI ll) (I) (F) (J1)) ∧ va_S A s.heap H locs ∧ lv_has ls 3 [(1, .int (nI (t))), (0, .ref (ad 0))]) ?_ ?_ (0) (by omega) ⟨_, tb_0, hP, hD, hS, lv_sub hl [0, 1] rfl⟩
  · rintro t H locs ls ht ⟨J1, hf, hP, hD, hS, hl⟩ ih
    refine lv_iload_n hx hb dX0_fillCounts_2 rfl (lv_at hl 0 rfl) ?_
    refine lv_aload_n hx hb dX0_fillCounts_3 rfl (lv_at hl 1 rfl) ?_
    refine x_get hx hb hts hin hown hK hP 1 (by decide) (v := .int (nI ll)) rfl kf13 dX0_fillCounts_4 ?_
    refine q_gen (tgt := 61) hx hb (by omega) (by omega) (by omega) dX0_fillCounts_7 (by decide) ?_
    refine lv_iconst (v := nI (0)) hx hb dX0_fillCounts_10 (by decide) ?_
    refine lv_istore_n (lv' := [(2, .int (nI (0))), (1, .int (nI (t))), (0, .ref (ad 0))]) hx hb dX0_fillCounts_11 rfl hl (by decide) rfl (fun ls hl => ?_)
    refine q_loop (head := 12) (nn) (fun k H locs ls => ∃ (J2 : Nat → Nat → Int64), (tb (fun u => 70 + u) ll nn (ct nn sg S M E) J t k J2) ∧ va_P (dC, dI) vwCl (wX kk ad (nI nn) (nI ll) (I) (F) (J2)) H ∧ va_D A (wX kk ad (nI nn) (nI ll) (I) (F) (J2)) ∧ va_S A s.heap H locs ∧ lv_has ls 3 [(2, .int (nI (k))), (1, .int (nI (t))), (0, .ref (ad 0))]) ?_ ?_ (0) (by omega) ⟨_, hf, hP, hD, hS, lv_sub hl [0, 1, 2] rfl⟩
    · rintro k H locs ls hk ⟨J2, hf2, hP, hD, hS, hl⟩ ih2
      have eE : F (16 + k) (sg t) = E k (sg t) := hw.2.2 k (sg t) (by omega) (hrw t ht).2
      refine lv_iload_n hx hb dX0_fillCounts_12 rfl (lv_at hl 0 rfl) ?_
      refine lv_aload_n hx hb dX0_fillCounts_13 rfl (lv_at hl 2 rfl) ?_
      refine x_get hx hb hts hin hown hK hP 0 (by decide) (v := .int (nI nn)) rfl kf7 dX0_fillCounts_14 ?_
      refine q_gen (tgt := 55) hx hb (by omega) (by omega) (by omega) dX0_fillCounts_17 (by decide) ?_
      refine lv_aload_n hx hb dX0_fillCounts_20 rfl (lv_at hl 2 rfl) ?_
      refine x_get hx hb hts hin hown hK hP 10 (by decide) (v := .ref (ad 9)) rfl kf48 dX0_fillCounts_21 ?_
      refine lv_iload_n hx hb dX0_fillCounts_24 rfl (lv_at hl 1 rfl) ?_
      refine x_al (o := 9) (b := 70) (N := 12) (i := t) 5 hx hb hK hP (by decide) rfl rfl (by omega) (by decide) dX0_fillCounts_25 ?_
      refine lv_iload_n hx hb dX0_fillCounts_26 rfl (lv_at hl 0 rfl) ?_
      refine lv_aload_n hx hb dX0_fillCounts_27 rfl (lv_at hl 2 rfl) ?_
      refine lv_iload_n hx hb dX0_fillCounts_28 rfl (lv_at hl 1 rfl) ?_
      refine lv_iload_n hx hb dX0_fillCounts_29 rfl (lv_at hl 0 rfl) ?_
      refine vp_callSd (W.runV (As := [.int (nI (t)), .int (nI (k))]) (rest := [.int (nI (k)), .ref (ad (70 + (t)))]) ⟨hx, hb, hml, hown, hts⟩ (c_X0_weightShown l dC dI kk ad _ _ I F _ t k (sg t) (by omega) (by omega) (hrw t ht).2 (hrw t ht).1) (cwV 2 hts gX0_fillCounts_X0_weightShown rfl rfl rfl (by decide +kernel) ⟨Nat.le_of_ble_eq_true rfl, Nat.le_of_ble_eq_true rfl⟩) ⟨pR_blind, va_recv hK hP (ci := 0) (q0 := 0) rfl wX_0, pR_pre hK hP⟩ rfl rfl hl.1 rfl (lv_room (Nat.le_of_ble_eq_true rfl)) dX0_fillCounts_30 ⟨hkc, hks⟩) (fun r1 e1 => ?_)
      rw [eE] at e1
      subst e1
      refine lv_dconst0 hx hb dX0_fillCounts_33 ?_
      refine lv_dcmp hx hb dX0_fillCounts_34 ?_
      refine lv_if_le (tgt := 47) hx hb dX0_fillCounts_35 (by decide) (fun q8 => ?_) (fun q8 => ?_)
      · have hv : (0 : Int64) = ct nn sg S M E t k := by
          cases t with
          | zero => rw [ct_0, if_pos q8]
          | succ u => rw [ct_1, if_pos q8]
        refine lv_lconst (v := 0) hx hb dX0_fillCounts_47 (by decide) ?_
        refine x_js (k := (70 + (t))) (i := k) (v := 0) 6 hx hb hK hP hD hS (by omega) (fun _ => xC_j (by omega)) (by omega) (by decide) dX0_fillCounts_48 (fun H locs hP hD hS => ?_)
        refine lv_iinc (v := nI ((k) + 1)) (lv' := [(2, .int (nI ((k) + 1))), (1, .int (nI (t))), (0, .ref (ad 0))]) hx hb dX0_fillCounts_49 hl (k := 0) rfl (q_inc _) (by decide) rfl (fun ls hl => ?_)
        refine lv_goto (tgt := 12) hx hb dX0_fillCounts_52 (by decide) ?_
        exact ih2 _ _ _ ⟨_, tb_put hf2 ht (fun a b _ _ h => by have h : 70 + a = 70 + b := h; omega) hv, hP, hD, hS, lv_sub hl [0, 1, 2] rfl⟩
      · refine lv_aload_n hx hb dX0_fillCounts_38 rfl (lv_at hl 2 rfl) ?_
        refine lv_iload_n hx hb dX0_fillCounts_39 rfl (lv_at hl 1 rfl) ?_
        refine lv_iload_n hx hb dX0_fillCounts_40 rfl (lv_at hl 0 rfl) ?_
        rcases Nat.eq_zero_or_pos t with e0 | e0
        · subst e0
          refine vp_callSl (W.runV (As := [.int (nI (0)), .int (nI (k))]) (rest := [.int (nI (k)), .ref (ad (70 + (0)))]) ⟨hx, hb, hml, hown, hts⟩ (c_X0_countInto0 l dC dI kk ad nn ll I F _ k (by omega)) (cwV 2 hts gX0_fillCounts_X0_countInto rfl rfl rfl (by decide +kernel) ⟨Nat.le_of_ble_eq_true rfl, Nat.le_of_ble_eq_true rfl⟩) ⟨pR_blind, va_recv hK hP (ci := 0) (q0 := 0) rfl wX_0, pR_pre hK hP⟩ rfl rfl hl.1 rfl (lv_room (Nat.le_of_ble_eq_true rfl)) dX0_fillCounts_41 ⟨hkc, hks⟩) (fun r0 e0s => ?_)
          subst e0s
          have hv : (if zz (F 2 k) then 0 else 1) = ct nn sg S M E 0 k := by
            rw [ct_0, if_neg q8, hw.1 k (by omega)]
          refine lv_goto (tgt := 48) hx hb dX0_fillCounts_44 (by decide) ?_
          refine x_js (k := (70 + (0))) (i := k) (v := if zz (F 2 k) then 0 else 1) 6 hx hb hK hP hD hS (by omega) (fun _ => xC_j (by omega)) (by omega) (by decide) dX0_fillCounts_48 (fun H locs hP hD hS => ?_)
          refine lv_iinc (v := nI ((k) + 1)) (lv' := [(2, .int (nI ((k) + 1))), (1, .int (nI (0))), (0, .ref (ad 0))]) hx hb dX0_fillCounts_49 hl (k := 0) rfl (q_inc _) (by decide) rfl (fun ls hl => ?_)
          refine lv_goto (tgt := 12) hx hb dX0_fillCounts_52 (by decide) ?_
          exact ih2 _ _ _ ⟨_, tb_put hf2 ht (fun a b _ _ h => by have h : 70 + a = 70 + b := h; omega) hv, hP, hD, hS, lv_sub hl [0, 1, 2] rfl⟩
        · obtain ⟨u, rfl⟩ : ∃ u, t = u + 1 := ⟨t - 1, by omega⟩
          refine vp_callSl (W.runV (As := [.int (nI ((u + 1))), .int (nI (k))]) (rest := [.int (nI (k)), .ref (ad (70 + ((u + 1))))]) ⟨hx, hb, hml, hown, hts⟩ (c_X0_countInto1 l dC dI kk ad nn ll I F J2 u k (by omega) (by omega) h1 h6) (cwV 2 hts gX0_fillCounts_X0_countInto rfl rfl rfl (by decide +kernel) ⟨Nat.le_of_ble_eq_true rfl, Nat.le_of_ble_eq_true rfl⟩) ⟨pR_blind, va_recv hK hP (ci := 0) (q0 := 0) rfl wX_0, pR_pre hK hP⟩ rfl rfl hl.1 rfl (lv_room (Nat.le_of_ble_eq_true rfl)) dX0_fillCounts_41 ⟨hkc, hks⟩) (fun r0 e0s => ?_)
          subst e0s
          have hv : sumL (fun i => if zz (F (10 + i) k) then 0 else J2 (70 + u) i) nn = ct nn sg S M E (u + 1) k := by
            rw [ct_1, if_neg q8]
            refine sumL_congr nn (fun i hi => ?_)
            show (if zz (F (10 + i) k) then 0 else J2 (70 + u) i) = _
            have e9 : J2 (70 + u) i = ct nn sg S M E u i := hf2.2.1 u i (by omega) hi
            rw [hw.2.1 i k (by omega) (by omega), e9]
          refine lv_goto (tgt := 48) hx hb dX0_fillCounts_44 (by decide) ?_
          refine x_js (k := (70 + ((u + 1)))) (i := k) (v := sumL (fun i => if zz (F (10 + i) k) then 0 else J2 (70 + u) i) nn) 6 hx hb hK hP hD hS (by omega) (fun _ => xC_j (by omega)) (by omega) (by decide) dX0_fillCounts_48 (fun H locs hP hD hS => ?_)
          refine lv_iinc (v := nI ((k) + 1)) (lv' := [(2, .int (nI ((k) + 1))), (1, .int (nI ((u + 1)))), (0, .ref (ad 0))]) hx hb dX0_fillCounts_49 hl (k := 0) rfl (q_inc _) (by decide) rfl (fun ls hl => ?_)
          refine lv_goto (tgt := 12) hx hb dX0_fillCounts_52 (by decide) ?_
          exact ih2 _ _ _ ⟨_, tb_put hf2 ht (fun a b _ _ h => by have h : 70 + a = 70 + b := h; omega) hv, hP, hD, hS, lv_sub hl [0, 1, 2] rfl⟩
    · rintro H locs ls ⟨J2, hf2, hP, hD, hS, hl⟩
      refine lv_iload_n hx hb dX0_fillCounts_12 rfl (lv_at hl 0 rfl) ?_
      refine lv_aload_n hx hb dX0_fillCounts_13 rfl (lv_at hl 2 rfl) ?_
      refine x_get hx hb hts hin hown hK hP 0 (by decide) (v := .int (nI nn)) rfl kf7 dX0_fillCounts_14 ?_
      refine q_gey (tgt := 55) hx hb (by omega) (by omega) (by omega) dX0_fillCounts_17 (by decide) ?_
      refine lv_iinc (v := nI ((t) + 1)) (lv' := [(1, .int (nI ((t) + 1))), (2, .int (nI ((nn)))), (0, .ref (ad 0))]) hx hb dX0_fillCounts_55 hl (k := 1) rfl (q_inc _) (by decide) rfl (fun ls hl => ?_)
      refine lv_goto (tgt := 2) hx hb dX0_fillCounts_58 (by decide) ?_
      exact ih _ _ _ ⟨_, tb_next hf2, hP, hD, hS, lv_sub hl [0, 2] rfl⟩
  · rintro H locs ls ⟨J1, hf, hP, hD, hS, hl⟩
    refine lv_iload_n hx hb dX0_fillCounts_2 rfl (lv_at hl 0 rfl) ?_
    refine lv_aload_n hx hb dX0_fillCounts_3 rfl (lv_at hl 1 rfl) ?_
    refine x_get hx hb hts hin hown hK hP 1 (by decide) (v := .int (nI ll)) rfl kf13 dX0_fillCounts_4 ?_
    refine q_gey (tgt := 61) hx hb (by omega) (by omega) (by omega) dX0_fillCounts_7 (by decide) ?_
    exact W.vret hx hb hr (fun t ht hW => ⟨⟨_, rfl, fun t j ht hj => hf.2.1 t j ht hj, by rw [ht]; exact hP, va_K.moved hW.alike hK, hD⟩, hS.F ht⟩) hS.2.2 dX0_fillCounts_61
