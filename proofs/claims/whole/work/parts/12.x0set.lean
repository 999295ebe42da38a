theorem yn_ne {P : Prop} {r : Int32} (h : yn P r) (q : ¬ r = 0) : P := Classical.byContradiction (fun n => q (h.2 n))
theorem yn_eq {P : Prop} {r : Int32} (h : yn P r) (q : r = 0) : ¬ P := fun p => absurd ((h.1 p).symm.trans q) (by decide)
/-- the weights are 0 -/
def cw (F : Nat → Nat → UInt64) (i : Nat) (F1 : Nat → Nat → UInt64) : Prop := (∀ q, 22 ≤ q → F1 q = F q) ∧ (∀ j, j < i → F1 2 j = FP.dconst0) ∧ (∀ a j, a < i → j < 6 → F1 (10 + a) j = FP.dconst0) ∧ (∀ a j, a < i → j < 4 → F1 (16 + a) j = FP.dconst0)
theorem cw_0 {F : Nat → Nat → UInt64} : cw F 0 F := ⟨fun _ _ => rfl, fun _ h => absurd h (Nat.not_lt_zero _), fun _ _ h => absurd h (Nat.not_lt_zero _), fun _ _ h => absurd h (Nat.not_lt_zero _)⟩
def cwA (F : Nat → Nat → UInt64) (i k : Nat) (F1 : Nat → Nat → UInt64) : Prop := cw F i F1 ∧ F1 2 i = FP.dconst0 ∧ ∀ j, j < k → F1 (10 + i) j = FP.dconst0
def cwB (F : Nat → Nat → UInt64) (i k : Nat) (F1 : Nat → Nat → UInt64) : Prop := cwA F i 6 F1 ∧ ∀ j, j < k → F1 (16 + i) j = FP.dconst0
theorem cw_up {F F1 : Nat → Nat → UInt64} {i q j : Nat} (h : cw F i F1) (hq : (q = 2 ∧ j = i) ∨ q = 10 + i ∨ q = 16 + i) (hi : i < 6) : cw F i (up2 F1 q j FP.dconst0) :=
  ⟨fun a ha => by rw [up2_r F1 _ (by omega)]; exact h.1 a ha, fun a ha => by rw [up2_o F1 _ (by omega)]; exact h.2.1 a ha, fun a b ha hb => by rw [up2_o F1 _ (by omega)]; exact h.2.2.1 a b ha hb, fun a b ha hb => by rw [up2_o F1 _ (by omega)]; exact h.2.2.2 a b ha hb⟩
theorem cwA_0 {F F1 : Nat → Nat → UInt64} {i : Nat} (h : cw F i F1) (hi : i < 6) : cwA F i 0 (up2 F1 2 i FP.dconst0) := ⟨cw_up h (Or.inl ⟨rfl, rfl⟩) hi, up2_s _ _ _ _, fun _ h => absurd h (Nat.not_lt_zero _)⟩
theorem cwA_1 {F F1 : Nat → Nat → UInt64} {i k : Nat} (h : cwA F i k F1) (hi : i < 6) : cwA F i (k + 1) (up2 F1 (10 + i) k FP.dconst0) := by
  refine ⟨cw_up h.1 (Or.inr (Or.inl rfl)) hi, ?_, fun j hj => ?_⟩
  · rw [up2_o F1 _ (by omega)]
    exact h.2.1
  · by_cases e : j = k
    · subst e
      rw [up2_s]
    · rw [up2_o F1 _ (Or.inr e)]
      exact h.2.2 j (by omega)
theorem cwB_0 {F F1 : Nat → Nat → UInt64} {i : Nat} (h : cwA F i 6 F1) : cwB F i 0 F1 := ⟨h, fun _ h => absurd h (Nat.not_lt_zero _)⟩
theorem cwB_1 {F F1 : Nat → Nat → UInt64} {i k : Nat} (h : cwB F i k F1) (hi : i < 6) : cwB F i (k + 1) (up2 F1 (16 + i) k FP.dconst0) := by
  refine ⟨⟨cw_up h.1.1 (Or.inr (Or.inr rfl)) hi, ?_, fun j hj => ?_⟩, fun j hj => ?_⟩
  · rw [up2_o F1 _ (by omega)]
    exact h.1.2.1
  · rw [up2_o F1 _ (by omega)]
    exact h.1.2.2 j hj
  · by_cases e : j = k
    · subst e
      rw [up2_s]
    · rw [up2_o F1 _ (Or.inr e)]
      exact h.2 j (by omega)
theorem cw_1 {F F1 : Nat → Nat → UInt64} {i : Nat} (h : cwB F i 4 F1) : cw F (i + 1) F1 := by
  refine ⟨h.1.1.1, fun j hj => ?_, fun a j ha hj => ?_, fun a j ha hj => ?_⟩
  · by_cases e : j = i
    · subst e
      exact h.1.2.1
    · exact h.1.1.2.1 j (by omega)
  · by_cases e : a = i
    · subst e
      exact h.1.2.2 j hj
    · exact h.1.1.2.2.1 a j (by omega) hj
  · by_cases e : a = i
    · subst e
      exact h.2 j hj
    · exact h.1.1.2.2.2 a j (by omega) hj

set_option maxHeartbeats 4000000 in
set_option maxRecDepth 100000 in
/-- clearWeights() -/
theorem c_X0_clearWeights (l : Launch) (dC : Nat → ClassId) (dI : Nat → Nat → Nat) (kk : Nat → ClassId) (ad : Nat → Nat) (sz : Nat) (n len : Int32) (I : Nat → Nat → Int32) (F : Nat → Nat → UInt64) (J : Nat → Nat → Int64) : Met l yX0_clearWeights wsX0_clearWeights ({ frames := 0, cells := 0, slots := 0, locals := 0 }) (pW dC dI kk [.ref (ad 0)] (wX kk ad (n) (len) (I) (F) (J)) sz) (va_Qv (fun (G : Nat → Nat → UInt64) => cw F 6 G) (fun (G : Nat → Nat → UInt64) t => bW dC dI kk (va_A (wX kk ad (n) (len) (I) (F) (J)) sz) (wX kk ad n len I G J) t) (va_A (wX kk ad (n) (len) (I) (F) (J)) sz)) 0 0 (va_A (wX kk ad (n) (len) (I) (F) (J)) sz) := by
  refine Met.ofW (cc := cX0_clearWeights) (maxL := 3) (ret := none) (by decide) rfl ?_
  intro p e s m args below meth c s₁ B hml hv
  obtain ⟨rfl, hsz, hP, hK, hD0⟩ := hv
  have hx := B.exec
  have hb := B.bytes
  have hr := B.returns
  have hts := atoms_spec (ws := wsX0_clearWeights) B.pre
  have hown : s.vm.findClass RX0 = some m.cls := findClass_of_methodNamed B.named
  have hlocks := B.notSynchronized
  have kf20 := hts (.fieldLink RX0 20 "PathOdds" "startWeights" "[D") (by decide +kernel)
  have kf26 := hts (.fieldLink RX0 26 "PathOdds" "moveWeights" "[[D") (by decide +kernel)
  have kf29 := hts (.fieldLink RX0 29 "PathOdds" "showWeights" "[[D") (by decide +kernel)
  have hin : ∀ w ∈ u_ws RX0 TX0 11, w ∈ wsX0_clearWeights := by decide +kernel
  have hl := lv_entry ([.ref (ad 0)]) (n := 3) (Nat.le_of_ble_eq_true rfl)
  rw [lg_entry_eq]
  generalize (lg_sl ([.ref (ad 0)]) ++ List.replicate (3 - (lg_sl ([.ref (ad 0)])).length) Slot.unset).toArray = ls at hl ⊢
  have hl : lv_has ls 3 [(0, .ref (ad 0))] := hl
  subst hsz
  have hD := hD0.self (sz := s.heap.size)
  generalize hAe : va_A (wX kk ad (n) (len) (I) (F) (J)) s.heap.size = A at hD ⊢
  have hA : ∀ q : Nat, s.heap.size ≤ q → A q := fun q h => by rw [← hAe]; exact Or.inr h
  have hS : va_S A s.heap s.heap [] := va_S.rf
  have hkc : 0 + 0 ≤ 0 := Nat.le_refl 0
  have hks : 0 + 0 ≤ 0 := Nat.le_refl 0
  refine lv_iconst (v := nI (0)) hx hb dX0_clearWeights_0 (by decide) ?_
  refine lv_istore_n (lv' := [(1, .int (nI (0))), (0, .ref (ad 0))]) hx hb dX0_clearWeights_1 rfl hl (by decide) rfl (fun ls hl => ?_)
  refine q_loop (head := 2) (6) (fun i H locs ls => ∃ (F1 : Nat → Nat → UInt64), (cw F i F1) ∧ va_P (dC, dI) vwCl (wX kk ad (n) (len) (I) (F1) (J)) H ∧ va_D A (wX kk ad (n) (len) (I) (F1) (J)) ∧ va_S A s.heap H locs ∧ lv_has ls 3 [(1, .int (nI (i))), (0, .ref (ad 0))]) ?_ ?_ (0) (by omega) ⟨_, cw_0, hP, hD, hS, lv_sub hl [0, 1] rfl⟩
  · rintro i H locs ls hi ⟨F1, hf, hP, hD, hS, hl⟩ ih
    refine lv_iload_n hx hb dX0_clearWeights_2 rfl (lv_at hl 0 rfl) ?_
    refine lv_bipush (v := nI (6)) hx hb dX0_clearWeights_3 (by decide) ?_
    refine q_gen (tgt := 66) hx hb (by omega) (by omega) (by omega) dX0_clearWeights_5 (by decide) ?_
    refine lv_aload_n hx hb dX0_clearWeights_8 rfl (lv_at hl 1 rfl) ?_
    refine x_get hx hb hts hin hown hK hP 3 (by decide) (v := .ref (ad 2)) rfl kf20 dX0_clearWeights_9 ?_
    refine lv_iload_n hx hb dX0_clearWeights_12 rfl (lv_at hl 0 rfl) ?_
    refine lv_dconst0 hx hb dX0_clearWeights_13 ?_
    refine x_ds (k := 2) (i := i) (v := FP.dconst0) 6 hx hb hK hP hD hS (by omega) (fun _ => xC_s rfl) (by omega) (by decide) dX0_clearWeights_14 (fun H locs hP hD hS => ?_)
    refine lv_iconst (v := nI (0)) hx hb dX0_clearWeights_15 (by decide) ?_
    refine lv_istore_n (lv' := [(2, .int (nI (0))), (1, .int (nI (i))), (0, .ref (ad 0))]) hx hb dX0_clearWeights_16 rfl hl (by decide) rfl (fun ls hl => ?_)
    refine q_loop (head := 17) (6) (fun k H locs ls => ∃ (F2 : Nat → Nat → UInt64), (cwA F i k F2) ∧ va_P (dC, dI) vwCl (wX kk ad (n) (len) (I) (F2) (J)) H ∧ va_D A (wX kk ad (n) (len) (I) (F2) (J)) ∧ va_S A s.heap H locs ∧ lv_has ls 3 [(2, .int (nI (k))), (1, .int (nI (i))), (0, .ref (ad 0))]) ?_ ?_ (0) (by omega) ⟨_, cwA_0 hf hi, hP, hD, hS, lv_sub hl [0, 1, 2] rfl⟩
    · rintro k H locs ls hk ⟨F2, hf2, hP, hD, hS, hl⟩ ih2
      refine lv_iload_n hx hb dX0_clearWeights_17 rfl (lv_at hl 0 rfl) ?_
      refine lv_bipush (v := nI (6)) hx hb dX0_clearWeights_18 (by decide) ?_
      refine q_gen (tgt := 38) hx hb (by omega) (by omega) (by omega) dX0_clearWeights_20 (by decide) ?_
      refine lv_aload_n hx hb dX0_clearWeights_23 rfl (lv_at hl 2 rfl) ?_
      refine x_get hx hb hts hin hown hK hP 4 (by decide) (v := .ref (ad 3)) rfl kf26 dX0_clearWeights_24 ?_
      refine lv_iload_n hx hb dX0_clearWeights_27 rfl (lv_at hl 1 rfl) ?_
      refine x_al (o := 3) (b := 10) (N := 6) (i := i) 3 hx hb hK hP (by decide) rfl rfl (by omega) (by decide) dX0_clearWeights_28 ?_
      refine lv_iload_n hx hb dX0_clearWeights_29 rfl (lv_at hl 0 rfl) ?_
      refine lv_dconst0 hx hb dX0_clearWeights_30 ?_
      refine x_ds (k := (10 + (i))) (i := k) (v := FP.dconst0) 6 hx hb hK hP hD hS (by omega) (fun _ => xC_dA (by omega) (by omega)) (by omega) (by decide) dX0_clearWeights_31 (fun H locs hP hD hS => ?_)
      refine lv_iinc (v := nI ((k) + 1)) (lv' := [(2, .int (nI ((k) + 1))), (1, .int (nI (i))), (0, .ref (ad 0))]) hx hb dX0_clearWeights_32 hl (k := 0) rfl (q_inc _) (by decide) rfl (fun ls hl => ?_)
      refine lv_goto (tgt := 17) hx hb dX0_clearWeights_35 (by decide) ?_
      exact ih2 _ _ _ ⟨_, cwA_1 hf2 hi, hP, hD, hS, lv_sub hl [0, 1, 2] rfl⟩
    · rintro H locs ls ⟨F2, hf2, hP, hD, hS, hl⟩
      refine lv_iload_n hx hb dX0_clearWeights_17 rfl (lv_at hl 0 rfl) ?_
      refine lv_bipush (v := nI (6)) hx hb dX0_clearWeights_18 (by decide) ?_
      refine q_gey (tgt := 38) hx hb (by omega) (by omega) (by omega) dX0_clearWeights_20 (by decide) ?_
      refine lv_iconst (v := nI (0)) hx hb dX0_clearWeights_38 (by decide) ?_
      refine lv_istore_n (lv' := [(2, .int (nI (0))), (1, .int (nI (i))), (0, .ref (ad 0))]) hx hb dX0_clearWeights_39 rfl hl (by decide) rfl (fun ls hl => ?_)
      refine q_loop (head := 40) (4) (fun k H locs ls => ∃ (F3 : Nat → Nat → UInt64), (cwB F i k F3) ∧ va_P (dC, dI) vwCl (wX kk ad (n) (len) (I) (F3) (J)) H ∧ va_D A (wX kk ad (n) (len) (I) (F3) (J)) ∧ va_S A s.heap H locs ∧ lv_has ls 3 [(2, .int (nI (k))), (1, .int (nI (i))), (0, .ref (ad 0))]) ?_ ?_ (0) (by omega) ⟨_, cwB_0 hf2, hP, hD, hS, lv_sub hl [0, 1, 2] rfl⟩
      · rintro k H locs ls hk ⟨F3, hf3, hP, hD, hS, hl⟩ ih3
        refine lv_iload_n hx hb dX0_clearWeights_40 rfl (lv_at hl 0 rfl) ?_
        refine lv_iconst (v := nI (4)) hx hb dX0_clearWeights_41 (by decide) ?_
        refine q_gen (tgt := 60) hx hb (by omega) (by omega) (by omega) dX0_clearWeights_42 (by decide) ?_
        refine lv_aload_n hx hb dX0_clearWeights_45 rfl (lv_at hl 2 rfl) ?_
        refine x_get hx hb hts hin hown hK hP 5 (by decide) (v := .ref (ad 4)) rfl kf29 dX0_clearWeights_46 ?_
        refine lv_iload_n hx hb dX0_clearWeights_49 rfl (lv_at hl 1 rfl) ?_
        refine x_al (o := 4) (b := 16) (N := 6) (i := i) 3 hx hb hK hP (by decide) rfl rfl (by omega) (by decide) dX0_clearWeights_50 ?_
        refine lv_iload_n hx hb dX0_clearWeights_51 rfl (lv_at hl 0 rfl) ?_
        refine lv_dconst0 hx hb dX0_clearWeights_52 ?_
        refine x_ds (k := (16 + (i))) (i := k) (v := FP.dconst0) 4 hx hb hK hP hD hS (by omega) (fun _ => xC_dE (by omega) (by omega)) (by omega) (by decide) dX0_clearWeights_53 (fun H locs hP hD hS => ?_)
        refine lv_iinc (v := nI ((k) + 1)) (lv' := [(2, .int (nI ((k) + 1))), (1, .int (nI (i))), (0, .ref (ad 0))]) hx hb dX0_clearWeights_54 hl (k := 0) rfl (q_inc _) (by decide) rfl (fun ls hl => ?_)
        refine lv_goto (tgt := 40) hx hb dX0_clearWeights_57 (by decide) ?_
        exact ih3 _ _ _ ⟨_, cwB_1 hf3 hi, hP, hD, hS, lv_sub hl [0, 1, 2] rfl⟩
      · rintro H locs ls ⟨F3, hf3, hP, hD, hS, hl⟩
        refine lv_iload_n hx hb dX0_clearWeights_40 rfl (lv_at hl 0 rfl) ?_
        refine lv_iconst (v := nI (4)) hx hb dX0_clearWeights_41 (by decide) ?_
        refine q_gey (tgt := 60) hx hb (by omega) (by omega) (by omega) dX0_clearWeights_42 (by decide) ?_
        refine lv_iinc (v := nI ((i) + 1)) (lv' := [(1, .int (nI ((i) + 1))), (2, .int (nI ((4)))), (0, .ref (ad 0))]) hx hb dX0_clearWeights_60 hl (k := 1) rfl (q_inc _) (by decide) rfl (fun ls hl => ?_)
        refine lv_goto (tgt := 2) hx hb dX0_clearWeights_63 (by decide) ?_
        exact ih _ _ _ ⟨_, cw_1 hf3, hP, hD, hS, lv_sub hl [0, 2] rfl⟩
  · rintro H locs ls ⟨F1, hf, hP, hD, hS, hl⟩
    refine lv_iload_n hx hb dX0_clearWeights_2 rfl (lv_at hl 0 rfl) ?_
    refine lv_bipush (v := nI (6)) hx hb dX0_clearWeights_3 (by decide) ?_
    refine q_gey (tgt := 66) hx hb (by omega) (by omega) (by omega) dX0_clearWeights_5 (by decide) ?_
    exact W.vret hx hb hr (fun t ht hW => ⟨⟨_, rfl, hf, by rw [ht]; exact hP, va_K.moved hW.alike hK, hD⟩, hS.F ht⟩) hS.2.2 dX0_clearWeights_66

set_option maxHeartbeats 4000000 in
set_option maxRecDepth 100000 in
/-- states(x), refused -/
theorem c_X0_states_no (l : Launch) (dC : Nat → ClassId) (dI : Nat → Nat → Nat) (kk : Nat → ClassId) (ad : Nat → Nat) (n len : Int32) (I : Nat → Nat → Int32) (F : Nat → Nat → UInt64) (J : Nat → Nat → Int64) (x : Int32) (hno : x < nI 1 ∨ ¬ x ≤ nI 6) : Met l yX0_states wsX0_states ({ frames := 1, cells := 0, slots := 0, locals := 30 }) (pR dC dI kk [.ref (ad 0), .int (x)] (wX kk ad (n) (len) (I) (F) (J))) (vp_Si (fun r => r = 0)) 0 0 (fun _ => False) := by
  refine Met.ofW (cc := cX0_states) (maxL := 2) (ret := (some .boolean)) (by decide) rfl ?_
  intro p e s m args below meth c s₁ B hml hv
  obtain ⟨rfl, hP, hK⟩ := hv
  have hx := B.exec
  have hb := B.bytes
  have hr := B.returns
  have hts := atoms_spec (ws := wsX0_states) B.pre
  have hown : s.vm.findClass RX0 = some m.cls := findClass_of_methodNamed B.named
  have hlocks := B.notSynchronized
  have kf7 := hts (.fieldLink RX0 7 "PathOdds" "stateCount" "I") (by decide +kernel)
  have kf13 := hts (.fieldLink RX0 13 "PathOdds" "rowLength" "I") (by decide +kernel)
  have hin : ∀ w ∈ u_ws RX0 TX0 11, w ∈ wsX0_states := by decide +kernel
  have hl := lv_entry ([.ref (ad 0), .int (x)]) (n := 2) (Nat.le_of_ble_eq_true rfl)
  rw [lg_entry_eq]
  generalize (lg_sl ([.ref (ad 0), .int (x)]) ++ List.replicate (2 - (lg_sl ([.ref (ad 0), .int (x)])).length) Slot.unset).toArray = ls at hl ⊢
  have hl : lv_has ls 2 [(0, .ref (ad 0)), (1, .int (x))] := hl
  have hkc : 0 + 0 ≤ 0 := Nat.le_refl 0
  have hks : 0 + 0 ≤ 0 := Nat.le_refl 0
  refine lv_iload_n hx hb dX0_states_0 rfl (lv_at hl 1 rfl) ?_
  refine lv_iconst (v := nI (1)) hx hb dX0_states_1 (by decide) ?_
  refine lv_icmp_lt (tgt := 11) hx hb dX0_states_2 (by decide) (fun q1 => ?_) (fun q1 => ?_)
  · refine lv_iconst (v := 0) hx hb dX0_states_11 (by decide) ?_
    exact W.zret (v := 0) hx hb hr rfl (fun t ht hW => ⟨_, rfl, rfl, ht⟩) (fun _ h => by cases h) dX0_states_12
  · refine lv_iload_n hx hb dX0_states_5 rfl (lv_at hl 1 rfl) ?_
    refine lv_bipush (v := nI (6)) hx hb dX0_states_6 (by decide) ?_
    refine lv_icmp_le (tgt := 13) hx hb dX0_states_8 (by decide) (fun q2 => ?_) (fun q2 => ?_)
    · exact absurd (hno.resolve_left q1) (fun z => z q2)
    · refine lv_iconst (v := 0) hx hb dX0_states_11 (by decide) ?_
      exact W.zret (v := 0) hx hb hr rfl (fun t ht hW => ⟨_, rfl, rfl, ht⟩) (fun _ h => by cases h) dX0_states_12

set_option maxHeartbeats 4000000 in
set_option maxRecDepth 100000 in
/-- states(mm), taken -/
theorem c_X0_states_yes (l : Launch) (dC : Nat → ClassId) (dI : Nat → Nat → Nat) (kk : Nat → ClassId) (ad : Nat → Nat) (sz : Nat) (n len : Int32) (I : Nat → Nat → Int32) (F : Nat → Nat → UInt64) (J : Nat → Nat → Int64) (mm : Nat) (h1 : 1 ≤ mm) (h6 : mm ≤ 6) : Met l yX0_states wsX0_states ({ frames := 1, cells := 0, slots := 0, locals := 30 }) (pW dC dI kk [.ref (ad 0), .int (nI (mm))] (wX kk ad (n) (len) (I) (F) (J)) sz) (va_Qi (fun (r : Int32) (G : Nat → Nat → UInt64) => r = 1 ∧ cw F 6 G) (fun (G : Nat → Nat → UInt64) t => bW dC dI kk (va_A (wX kk ad (n) (len) (I) (F) (J)) sz) (wX kk ad (nI mm) (nI 0) I G J) t) (va_A (wX kk ad (n) (len) (I) (F) (J)) sz)) 0 0 (va_A (wX kk ad (n) (len) (I) (F) (J)) sz) := by
  refine Met.ofW (cc := cX0_states) (maxL := 2) (ret := (some .boolean)) (by decide) rfl ?_
  intro p e s m args below meth c s₁ B hml hv
  obtain ⟨rfl, hsz, hP, hK, hD0⟩ := hv
  have hx := B.exec
  have hb := B.bytes
  have hr := B.returns
  have hts := atoms_spec (ws := wsX0_states) B.pre
  have hown : s.vm.findClass RX0 = some m.cls := findClass_of_methodNamed B.named
  have hlocks := B.notSynchronized
  have kf7 := hts (.fieldLink RX0 7 "PathOdds" "stateCount" "I") (by decide +kernel)
  have kf13 := hts (.fieldLink RX0 13 "PathOdds" "rowLength" "I") (by decide +kernel)
  have hin : ∀ w ∈ u_ws RX0 TX0 11, w ∈ wsX0_states := by decide +kernel
  have hl := lv_entry ([.ref (ad 0), .int (nI (mm))]) (n := 2) (Nat.le_of_ble_eq_true rfl)
  rw [lg_entry_eq]
  generalize (lg_sl ([.ref (ad 0), .int (nI (mm))]) ++ List.replicate (2 - (lg_sl ([.ref (ad 0), .int (nI (mm))])).length) Slot.unset).toArray = ls at hl ⊢
  have hl : lv_has ls 2 [(0, .ref (ad 0)), (1, .int (nI (mm)))] := hl
  subst hsz
  have hD := hD0.self (sz := s.heap.size)
  generalize hAe : va_A (wX kk ad (n) (len) (I) (F) (J)) s.heap.size = A at hD ⊢
  have hA : ∀ q : Nat, s.heap.size ≤ q → A q := fun q h => by rw [← hAe]; exact Or.inr h
  have hS : va_S A s.heap s.heap [] := va_S.rf
  have hkc : 0 + 0 ≤ 0 := Nat.le_refl 0
  have hks : 0 + 0 ≤ 0 := Nat.le_refl 0
  refine lv_iload_n hx hb dX0_states_0 rfl (lv_at hl 1 rfl) ?_
  refine lv_iconst (v := nI (1)) hx hb dX0_states_1 (by decide) ?_
  refine q_ltn (tgt := 11) hx hb (by omega) (by omega) (by omega) dX0_states_2 (by decide) ?_
  refine lv_iload_n hx hb dX0_states_5 rfl (lv_at hl 1 rfl) ?_
  refine lv_bipush (v := nI (6)) hx hb dX0_states_6 (by decide) ?_
  refine q_ley (tgt := 13) hx hb (by omega) (by omega) (by omega) dX0_states_8 (by decide) ?_
  refine lv_aload_n hx hb dX0_states_13 rfl (lv_at hl 0 rfl) ?_
  refine lv_iload_n hx hb dX0_states_14 rfl (lv_at hl 1 rfl) ?_
  refine x_pn (v := nI (mm)) hx hb hts hin hown hK hP hD hS kf7 dX0_states_15 (fun H locs hP hD hS => ?_)
  refine lv_aload_n hx hb dX0_states_18 rfl (lv_at hl 0 rfl) ?_
  refine lv_iconst (v := nI (0)) hx hb dX0_states_19 (by decide) ?_
  refine x_pl (v := nI (0)) hx hb hts hin hown hK hP hD hS kf13 dX0_states_20 (fun H locs hP hD hS => ?_)
  refine lv_aload_n hx hb dX0_states_23 rfl (lv_at hl 0 rfl) ?_
  have hFc := q_free hD hS hA
  refine va_callv (va_runV (As := []) (rest := []) ⟨hx, hb, hml, hown, hts⟩ (c_X0_clearWeights l dC dI kk ad H.size (nI (mm)) (nI (0)) I F J) (cwV 0 hts gX0_states_X0_clearWeights rfl rfl rfl (by decide +kernel) ⟨Nat.le_of_ble_eq_true rfl, Nat.le_of_ble_eq_true rfl⟩) ⟨pW_blind, va_recv hK hP (ci := 0) (q0 := 0) rfl wX_0, pW_pre hK hP hD⟩ rfl rfl hl.1 rfl (lv_room (Nat.le_of_ble_eq_true rfl)) dX0_states_24 ⟨hkc, hks⟩) hS (fun q _ h => hFc q h) hFc (fun G t H1 locs ht hvm hw hB hz1 hk1 hS => ?_)
  obtain ⟨hP1, -, hD1⟩ := hB
  rw [ht] at hP1
  have hP := hP1
  have hD := hD1.weaken (fun _ q _ h => hFc q.1 h)
  clear hP1 hD1 hFc ht hk1 hz1
  refine lv_iconst (v := 1) hx hb dX0_states_27 (by decide) ?_
  exact W.zret (v := 1) hx hb hr rfl (fun t ht hW => ⟨⟨1, G, rfl, ⟨rfl, hw⟩, by rw [ht]; exact hP, va_K.moved hW.alike hK, hD⟩, hS.F ht⟩) hS.2.2 dX0_states_28

set_option maxHeartbeats 4000000 in
set_option maxRecDepth 100000 in
/-- start(i, w), refused -/
theorem c_X0_start_no (l : Launch) (dC : Nat → ClassId) (dI : Nat → Nat → Nat) (kk : Nat → ClassId) (ad : Nat → Nat) (n len : Int32) (I : Nat → Nat → Int32) (F : Nat → Nat → UInt64) (J : Nat → Nat → Int64) (i : Int32) (w : UInt64) (hno : ¬ (stOK n i ∧ wOK w)) : Met l yX0_start wsX0_start ({ frames := 1, cells := 0, slots := 0, locals := 30 }) (pR dC dI kk [.ref (ad 0), .int (i), .double (w)] (wX kk ad (n) (len) (I) (F) (J))) (vp_Si (fun r => r = 0)) 0 0 (fun _ => False) := by
  refine Met.ofW (cc := cX0_start) (maxL := 4) (ret := (some .boolean)) (by decide) rfl ?_
  intro p e s m args below meth c s₁ B hml hv
  obtain ⟨rfl, hP, hK⟩ := hv
  have hx := B.exec
  have hb := B.bytes
  have hr := B.returns
  have hts := atoms_spec (ws := wsX0_start) B.pre
  have hown : s.vm.findClass RX0 = some m.cls := findClass_of_methodNamed B.named
  have hlocks := B.notSynchronized
  have kf20 := hts (.fieldLink RX0 20 "PathOdds" "startWeights" "[D") (by decide +kernel)
  have hin : ∀ w ∈ u_ws RX0 TX0 11, w ∈ wsX0_start := by decide +kernel
  have hl := lv_entry ([.ref (ad 0), .int (i), .double (w)]) (n := 4) (Nat.le_of_ble_eq_true rfl)
  rw [lg_entry_eq]
  generalize (lg_sl ([.ref (ad 0), .int (i), .double (w)]) ++ List.replicate (4 - (lg_sl ([.ref (ad 0), .int (i), .double (w)])).length) Slot.unset).toArray = ls at hl ⊢
  have hl : lv_has ls 4 [(0, .ref (ad 0)), (1, .int (i)), (2, .double (w))] := hl
  have hkc : 0 + 0 ≤ 0 := Nat.le_refl 0
  have hks : 0 + 0 ≤ 0 := Nat.le_refl 0
  refine lv_aload_n hx hb dX0_start_0 rfl (lv_at hl 0 rfl) ?_
  refine lv_iload_n hx hb dX0_start_1 rfl (lv_at hl 1 rfl) ?_
  refine vp_callSi (W.runV (As := [.int (i)]) (rest := []) ⟨hx, hb, hml, hown, hts⟩ (c_X0_isState l dC dI kk ad n len I F J (i)) (cwV 1 hts gX0_start_X0_isState rfl rfl rfl (by decide +kernel) ⟨Nat.le_of_ble_eq_true rfl, Nat.le_of_ble_eq_true rfl⟩) ⟨pR_blind, va_recv hK hP (ci := 0) (q0 := 0) rfl wX_0, pR_pre hK hP⟩ rfl rfl hl.1 rfl (lv_room (Nat.le_of_ble_eq_true rfl)) dX0_start_2 ⟨hkc, hks⟩) (fun r1 e1 => ?_)
  refine lv_if_eq (tgt := 15) hx hb dX0_start_5 (by decide) (fun q1 => ?_) (fun q1 => ?_)
  · refine lv_iconst (v := 0) hx hb dX0_start_15 (by decide) ?_
    exact W.zret (v := 0) hx hb hr rfl (fun t ht hW => ⟨_, rfl, rfl, ht⟩) (fun _ h => by cases h) dX0_start_16
  · refine lv_dload_n hx hb dX0_start_8 rfl (lv_at hl 2 rfl) ?_
    refine vp_callSi (W.runS (As := [.double (w)]) (rest := []) ⟨hx, hb, hml, hown, hts⟩ (c_X0_isWeight l w) (va_cwS 1 hts gX0_start_X0_isWeight rfl rfl rfl (by decide +kernel) ⟨Nat.le_of_ble_eq_true rfl, Nat.le_of_ble_eq_true rfl⟩) ⟨q_blind0, fun _ _ _ => rfl⟩ rfl rfl hl.1 rfl (lv_room (Nat.le_of_ble_eq_true rfl)) dX0_start_9 ⟨Nat.le_of_ble_eq_true rfl, Nat.le_of_ble_eq_true rfl⟩) (fun r2 e2 => ?_)
    refine lv_if_ne (tgt := 17) hx hb dX0_start_12 (by decide) (fun q2 => ?_) (fun q2 => ?_)
    · exact absurd ⟨yn_ne e1 q1, yn_ne e2 q2⟩ hno
    · refine lv_iconst (v := 0) hx hb dX0_start_15 (by decide) ?_
      exact W.zret (v := 0) hx hb hr rfl (fun t ht hW => ⟨_, rfl, rfl, ht⟩) (fun _ h => by cases h) dX0_start_16

set_option maxHeartbeats 4000000 in
set_option maxRecDepth 100000 in
/-- start(i, w), taken -/
theorem c_X0_start_yes (l : Launch) (dC : Nat → ClassId) (dI : Nat → Nat → Nat) (kk : Nat → ClassId) (ad : Nat → Nat) (sz : Nat) (nn : Nat) (len : Int32) (I : Nat → Nat → Int32) (F : Nat → Nat → UInt64) (J : Nat → Nat → Int64) (h6 : nn ≤ 6) (i : Nat) (w : UInt64) (hi : i < nn) (hwo : wOK w) : Met l yX0_start wsX0_start ({ frames := 1, cells := 0, slots := 0, locals := 30 }) (pW dC dI kk [.ref (ad 0), .int (nI (i)), .double (w)] (wX kk ad (nI nn) (len) (I) (F) (J)) sz) (va_Qi (fun (r : Int32) (G : Nat → Nat → UInt64) => r = 1 ∧ G = up2 F 2 i w) (fun (G : Nat → Nat → UInt64) t => bW dC dI kk (va_A (wX kk ad (nI nn) (len) (I) (F) (J)) sz) (wX kk ad (nI nn) len I G J) t) (va_A (wX kk ad (nI nn) (len) (I) (F) (J)) sz)) 0 0 (va_A (wX kk ad (nI nn) (len) (I) (F) (J)) sz) := by
  refine Met.ofW (cc := cX0_start) (maxL := 4) (ret := (some .boolean)) (by decide) rfl ?_
  intro p e s m args below meth c s₁ B hml hv
  obtain ⟨rfl, hsz, hP, hK, hD0⟩ := hv
  have hx := B.exec
  have hb := B.bytes
  have hr := B.returns
  have hts := atoms_spec (ws := wsX0_start) B.pre
  have hown : s.vm.findClass RX0 = some m.cls := findClass_of_methodNamed B.named
  have hlocks := B.notSynchronized
  have kf20 := hts (.fieldLink RX0 20 "PathOdds" "startWeights" "[D") (by decide +kernel)
  have hin : ∀ w ∈ u_ws RX0 TX0 11, w ∈ wsX0_start := by decide +kernel
  have hl := lv_entry ([.ref (ad 0), .int (nI (i)), .double (w)]) (n := 4) (Nat.le_of_ble_eq_true rfl)
  rw [lg_entry_eq]
  generalize (lg_sl ([.ref (ad 0), .int (nI (i)), .double (w)]) ++ List.replicate (4 - (lg_sl ([.ref (ad 0), .int (nI (i)), .double (w)])).length) Slot.unset).toArray = ls at hl ⊢
  have hl : lv_has ls 4 [(0, .ref (ad 0)), (1, .int (nI (i))), (2, .double (w))] := hl
  subst hsz
  have hD := hD0.self (sz := s.heap.size)
  generalize hAe : va_A (wX kk ad (nI nn) (len) (I) (F) (J)) s.heap.size = A at hD ⊢
  have hA : ∀ q : Nat, s.heap.size ≤ q → A q := fun q h => by rw [← hAe]; exact Or.inr h
  have hS : va_S A s.heap s.heap [] := va_S.rf
  have hkc : 0 + 0 ≤ 0 := Nat.le_refl 0
  have hks : 0 + 0 ≤ 0 := Nat.le_refl 0
  refine lv_aload_n hx hb dX0_start_0 rfl (lv_at hl 0 rfl) ?_
  refine lv_iload_n hx hb dX0_start_1 rfl (lv_at hl 1 rfl) ?_
  refine vp_callSi (W.runV (As := [.int (nI (i))]) (rest := []) ⟨hx, hb, hml, hown, hts⟩ (c_X0_isState l dC dI kk ad (nI nn) len I F J (nI i)) (cwV 1 hts gX0_start_X0_isState rfl rfl rfl (by decide +kernel) ⟨Nat.le_of_ble_eq_true rfl, Nat.le_of_ble_eq_true rfl⟩) ⟨pR_blind, va_recv hK hP (ci := 0) (q0 := 0) rfl wX_0, pR_pre hK hP⟩ rfl rfl hl.1 rfl (lv_room (Nat.le_of_ble_eq_true rfl)) dX0_start_2 ⟨hkc, hks⟩) (fun r1 e1 => ?_)
  refine lv_if_eq (tgt := 15) hx hb dX0_start_5 (by decide) (fun q1 => ?_) (fun q1 => ?_)
  · exact absurd (stOK_of hi (by omega)) (yn_eq e1 q1)
  · refine lv_dload_n hx hb dX0_start_8 rfl (lv_at hl 2 rfl) ?_
    refine vp_callSi (W.runS (As := [.double (w)]) (rest := []) ⟨hx, hb, hml, hown, hts⟩ (c_X0_isWeight l w) (va_cwS 1 hts gX0_start_X0_isWeight rfl rfl rfl (by decide +kernel) ⟨Nat.le_of_ble_eq_true rfl, Nat.le_of_ble_eq_true rfl⟩) ⟨q_blind0, fun _ _ _ => rfl⟩ rfl rfl hl.1 rfl (lv_room (Nat.le_of_ble_eq_true rfl)) dX0_start_9 ⟨Nat.le_of_ble_eq_true rfl, Nat.le_of_ble_eq_true rfl⟩) (fun r2 e2 => ?_)
    refine lv_if_ne (tgt := 17) hx hb dX0_start_12 (by decide) (fun q2 => ?_) (fun q2 => ?_)
    · refine lv_aload_n hx hb dX0_start_17 rfl (lv_at hl 0 rfl) ?_
      refine x_get hx hb hts hin hown hK hP 3 (by decide) (v := .ref (ad 2)) rfl kf20 dX0_start_18 ?_
      refine lv_iload_n hx hb dX0_start_21 rfl (lv_at hl 1 rfl) ?_
      refine lv_dload_n hx hb dX0_start_22 rfl (lv_at hl 2 rfl) ?_
      refine x_ds (k := 2) (i := i) (v := w) 6 hx hb hK hP hD hS (by omega) (fun _ => xC_s rfl) (by omega) (by decide) dX0_start_23 (fun H locs hP hD hS => ?_)
      refine lv_iconst (v := 1) hx hb dX0_start_24 (by decide) ?_
      exact W.zret (v := 1) hx hb hr rfl (fun t ht hW => ⟨⟨1, _, rfl, ⟨rfl, rfl⟩, by rw [ht]; exact hP, va_K.moved hW.alike hK, hD⟩, hS.F ht⟩) hS.2.2 dX0_start_25
    · exact absurd hwo (yn_eq e2 q2)

set_option maxHeartbeats 4000000 in
set_option maxRecDepth 100000 in
/-- move(i, j, w), refused -/
theorem c_X0_move_no (l : Launch) (dC : Nat → ClassId) (dI : Nat → Nat → Nat) (kk : Nat → ClassId) (ad : Nat → Nat) (n len : Int32) (I : Nat → Nat → Int32) (F : Nat → Nat → UInt64) (J : Nat → Nat → Int64) (i j : Int32) (w : UInt64) (hno : ¬ (stOK n i ∧ stOK n j ∧ wOK w)) : Met l yX0_move wsX0_move ({ frames := 1, cells := 0, slots := 0, locals := 30 }) (pR dC dI kk [.ref (ad 0), .int (i), .int (j), .double (w)] (wX kk ad (n) (len) (I) (F) (J))) (vp_Si (fun r => r = 0)) 0 0 (fun _ => False) := by
  refine Met.ofW (cc := cX0_move) (maxL := 5) (ret := (some .boolean)) (by decide) rfl ?_
  intro p e s m args below meth c s₁ B hml hv
  obtain ⟨rfl, hP, hK⟩ := hv
  have hx := B.exec
  have hb := B.bytes
  have hr := B.returns
  have hts := atoms_spec (ws := wsX0_move) B.pre
  have hown : s.vm.findClass RX0 = some m.cls := findClass_of_methodNamed B.named
  have hlocks := B.notSynchronized
  have kf26 := hts (.fieldLink RX0 26 "PathOdds" "moveWeights" "[[D") (by decide +kernel)
  have hin : ∀ w ∈ u_ws RX0 TX0 11, w ∈ wsX0_move := by decide +kernel
  have hl := lv_entry ([.ref (ad 0), .int (i), .int (j), .double (w)]) (n := 5) (Nat.le_of_ble_eq_true rfl)
  rw [lg_entry_eq]
  generalize (lg_sl ([.ref (ad 0), .int (i), .int (j), .double (w)]) ++ List.replicate (5 - (lg_sl ([.ref (ad 0), .int (i), .int (j), .double (w)])).length) Slot.unset).toArray = ls at hl ⊢
  have hl : lv_has ls 5 [(0, .ref (ad 0)), (1, .int (i)), (2, .int (j)), (3, .double (w))] := hl
  have hkc : 0 + 0 ≤ 0 := Nat.le_refl 0
  have hks : 0 + 0 ≤ 0 := Nat.le_refl 0
  refine lv_aload_n hx hb dX0_move_0 rfl (lv_at hl 0 rfl) ?_
  refine lv_iload_n hx hb dX0_move_1 rfl (lv_at hl 1 rfl) ?_
  refine vp_callSi (W.runV (As := [.int (i)]) (rest := []) ⟨hx, hb, hml, hown, hts⟩ (c_X0_isState l dC dI kk ad n len I F J (i)) (cwV 1 hts gX0_move_X0_isState rfl rfl rfl (by decide +kernel) ⟨Nat.le_of_ble_eq_true rfl, Nat.le_of_ble_eq_true rfl⟩) ⟨pR_blind, va_recv hK hP (ci := 0) (q0 := 0) rfl wX_0, pR_pre hK hP⟩ rfl rfl hl.1 rfl (lv_room (Nat.le_of_ble_eq_true rfl)) dX0_move_2 ⟨hkc, hks⟩) (fun r1 e1 => ?_)
  refine lv_if_eq (tgt := 23) hx hb dX0_move_5 (by decide) (fun q1 => ?_) (fun q1 => ?_)
  · refine lv_iconst (v := 0) hx hb dX0_move_23 (by decide) ?_
    exact W.zret (v := 0) hx hb hr rfl (fun t ht hW => ⟨_, rfl, rfl, ht⟩) (fun _ h => by cases h) dX0_move_24
  · refine lv_aload_n hx hb dX0_move_8 rfl (lv_at hl 0 rfl) ?_
    refine lv_iload_n hx hb dX0_move_9 rfl (lv_at hl 2 rfl) ?_
    refine vp_callSi (W.runV (As := [.int (j)]) (rest := []) ⟨hx, hb, hml, hown, hts⟩ (c_X0_isState l dC dI kk ad n len I F J (j)) (cwV 1 hts gX0_move_X0_isState rfl rfl rfl (by decide +kernel) ⟨Nat.le_of_ble_eq_true rfl, Nat.le_of_ble_eq_true rfl⟩) ⟨pR_blind, va_recv hK hP (ci := 0) (q0 := 0) rfl wX_0, pR_pre hK hP⟩ rfl rfl hl.1 rfl (lv_room (Nat.le_of_ble_eq_true rfl)) dX0_move_10 ⟨hkc, hks⟩) (fun r3 e3 => ?_)
    refine lv_if_eq (tgt := 23) hx hb dX0_move_13 (by decide) (fun q3 => ?_) (fun q3 => ?_)
    · refine lv_iconst (v := 0) hx hb dX0_move_23 (by decide) ?_
      exact W.zret (v := 0) hx hb hr rfl (fun t ht hW => ⟨_, rfl, rfl, ht⟩) (fun _ h => by cases h) dX0_move_24
    · refine lv_dload_n hx hb dX0_move_16 rfl (lv_at hl 3 rfl) ?_
      refine vp_callSi (W.runS (As := [.double (w)]) (rest := []) ⟨hx, hb, hml, hown, hts⟩ (c_X0_isWeight l w) (va_cwS 1 hts gX0_move_X0_isWeight rfl rfl rfl (by decide +kernel) ⟨Nat.le_of_ble_eq_true rfl, Nat.le_of_ble_eq_true rfl⟩) ⟨q_blind0, fun _ _ _ => rfl⟩ rfl rfl hl.1 rfl (lv_room (Nat.le_of_ble_eq_true rfl)) dX0_move_17 ⟨Nat.le_of_ble_eq_true rfl, Nat.le_of_ble_eq_true rfl⟩) (fun r2 e2 => ?_)
      refine lv_if_ne (tgt := 25) hx hb dX0_move_20 (by decide) (fun q2 => ?_) (fun q2 => ?_)
      · exact absurd ⟨yn_ne e1 q1, yn_ne e3 q3, yn_ne e2 q2⟩ hno
      · refine lv_iconst (v := 0) hx hb dX0_move_23 (by decide) ?_
        exact W.zret (v := 0) hx hb hr rfl (fun t ht hW => ⟨_, rfl, rfl, ht⟩) (fun _ h => by cases h) dX0_move_24

set_option maxHeartbeats 4000000 in
set_option maxRecDepth 100000 in
/-- move(i, j, w), taken -/
theorem c_X0_move_yes (l : Launch) (dC : Nat → ClassId) (dI : Nat → Nat → Nat) (kk : Nat → ClassId) (ad : Nat → Nat) (sz : Nat) (nn : Nat) (len : Int32) (I : Nat → Nat → Int32) (F : Nat → Nat → UInt64) (J : Nat → Nat → Int64) (h6 : nn ≤ 6) (i j : Nat) (w : UInt64) (hi : i < nn) (hj : j < nn) (hwo : wOK w) : Met l yX0_move wsX0_move ({ frames := 1, cells := 0, slots := 0, locals := 30 }) (pW dC dI kk [.ref (ad 0), .int (nI (i)), .int (nI (j)), .double (w)] (wX kk ad (nI nn) (len) (I) (F) (J)) sz) (va_Qi (fun (r : Int32) (G : Nat → Nat → UInt64) => r = 1 ∧ G = up2 F (10 + i) j w) (fun (G : Nat → Nat → UInt64) t => bW dC dI kk (va_A (wX kk ad (nI nn) (len) (I) (F) (J)) sz) (wX kk ad (nI nn) len I G J) t) (va_A (wX kk ad (nI nn) (len) (I) (F) (J)) sz)) 0 0 (va_A (wX kk ad (nI nn) (len) (I) (F) (J)) sz) := by
  refine Met.ofW (cc := cX0_move) (maxL := 5) (ret := (some .boolean)) (by decide) rfl ?_
  intro p e s m args below meth c s₁ B hml hv
  obtain ⟨rfl, hsz, hP, hK, hD0⟩ := hv
  have hx := B.exec
  have hb := B.bytes
  have hr := B.returns
  have hts := atoms_spec (ws := wsX0_move) B.pre
  have hown : s.vm.findClass RX0 = some m.cls := findClass_of_methodNamed B.named
  have hlocks := B.notSynchronized
  have kf26 := hts (.fieldLink RX0 26 "PathOdds" "moveWeights" "[[D") (by decide +kernel)
  have hin : ∀ w ∈ u_ws RX0 TX0 11, w ∈ wsX0_move := by decide +kernel
  have hl := lv_entry ([.ref (ad 0), .int (nI (i)), .int (nI (j)), .double (w)]) (n := 5) (Nat.le_of_ble_eq_true rfl)
  rw [lg_entry_eq]
  generalize (lg_sl ([.ref (ad 0), .int (nI (i)), .int (nI (j)), .double (w)]) ++ List.replicate (5 - (lg_sl ([.ref (ad 0), .int (nI (i)), .int (nI (j)), .double (w)])).length) Slot.unset).toArray = ls at hl ⊢
  have hl : lv_has ls 5 [(0, .ref (ad 0)), (1, .int (nI (i))), (2, .int (nI (j))), (3, .double (w))] := hl
  subst hsz
  have hD := hD0.self (sz := s.heap.size)
  generalize hAe : va_A (wX kk ad (nI nn) (len) (I) (F) (J)) s.heap.size = A at hD ⊢
  have hA : ∀ q : Nat, s.heap.size ≤ q → A q := fun q h => by rw [← hAe]; exact Or.inr h
  have hS : va_S A s.heap s.heap [] := va_S.rf
  have hkc : 0 + 0 ≤ 0 := Nat.le_refl 0
  have hks : 0 + 0 ≤ 0 := Nat.le_refl 0
  refine lv_aload_n hx hb dX0_move_0 rfl (lv_at hl 0 rfl) ?_
  refine lv_iload_n hx hb dX0_move_1 rfl (lv_at hl 1 rfl) ?_
  refine vp_callSi (W.runV (As := [.int (nI (i))]) (rest := []) ⟨hx, hb, hml, hown, hts⟩ (c_X0_isState l dC dI kk ad (nI nn) len I F J (nI i)) (cwV 1 hts gX0_move_X0_isState rfl rfl rfl (by decide +kernel) ⟨Nat.le_of_ble_eq_true rfl, Nat.le_of_ble_eq_true rfl⟩) ⟨pR_blind, va_recv hK hP (ci := 0) (q0 := 0) rfl wX_0, pR_pre hK hP⟩ rfl rfl hl.1 rfl (lv_room (Nat.le_of_ble_eq_true rfl)) dX0_move_2 ⟨hkc, hks⟩) (fun r1 e1 => ?_)
  refine lv_if_eq (tgt := 23) hx hb dX0_move_5 (by decide) (fun q1 => ?_) (fun q1 => ?_)
  · exact absurd (stOK_of hi (by omega)) (yn_eq e1 q1)
  · refine lv_aload_n hx hb dX0_move_8 rfl (lv_at hl 0 rfl) ?_
    refine lv_iload_n hx hb dX0_move_9 rfl (lv_at hl 2 rfl) ?_
    refine vp_callSi (W.runV (As := [.int (nI (j))]) (rest := []) ⟨hx, hb, hml, hown, hts⟩ (c_X0_isState l dC dI kk ad (nI nn) len I F J (nI j)) (cwV 1 hts gX0_move_X0_isState rfl rfl rfl (by decide +kernel) ⟨Nat.le_of_ble_eq_true rfl, Nat.le_of_ble_eq_true rfl⟩) ⟨pR_blind, va_recv hK hP (ci := 0) (q0 := 0) rfl wX_0, pR_pre hK hP⟩ rfl rfl hl.1 rfl (lv_room (Nat.le_of_ble_eq_true rfl)) dX0_move_10 ⟨hkc, hks⟩) (fun r3 e3 => ?_)
    refine lv_if_eq (tgt := 23) hx hb dX0_move_13 (by decide) (fun q3 => ?_) (fun q3 => ?_)
    · exact absurd (stOK_of hj (by omega)) (yn_eq e3 q3)
    · refine lv_dload_n hx hb dX0_move_16 rfl (lv_at hl 3 rfl) ?_
      refine vp_callSi (W.runS (As := [.double (w)]) (rest := []) ⟨hx, hb, hml, hown, hts⟩ (c_X0_isWeight l w) (va_cwS 1 hts gX0_move_X0_isWeight rfl rfl rfl (by decide +kernel) ⟨Nat.le_of_ble_eq_true rfl, Nat.le_of_ble_eq_true rfl⟩) ⟨q_blind0, fun _ _ _ => rfl⟩ rfl rfl hl.1 rfl (lv_room (Nat.le_of_ble_eq_true rfl)) dX0_move_17 ⟨Nat.le_of_ble_eq_true rfl, Nat.le_of_ble_eq_true rfl⟩) (fun r2 e2 => ?_)
      refine lv_if_ne (tgt := 25) hx hb dX0_move_20 (by decide) (fun q2 => ?_) (fun q2 => ?_)
      · refine lv_aload_n hx hb dX0_move_25 rfl (lv_at hl 0 rfl) ?_
        refine x_get hx hb hts hin hown hK hP 4 (by decide) (v := .ref (ad 3)) rfl kf26 dX0_move_26 ?_
        refine lv_iload_n hx hb dX0_move_29 rfl (lv_at hl 1 rfl) ?_
        refine x_al (o := 3) (b := 10) (N := 6) (i := i) 3 hx hb hK hP (by decide) rfl rfl (by omega) (by decide) dX0_move_30 ?_
        refine lv_iload_n hx hb dX0_move_31 rfl (lv_at hl 2 rfl) ?_
        refine lv_dload_n hx hb dX0_move_32 rfl (lv_at hl 3 rfl) ?_
        refine x_ds (k := (10 + (i))) (i := j) (v := w) 6 hx hb hK hP hD hS (by omega) (fun _ => xC_dA (by omega) (by omega)) (by omega) (by decide) dX0_move_33 (fun H locs hP hD hS => ?_)
        refine lv_iconst (v := 1) hx hb dX0_move_34 (by decide) ?_
        exact W.zret (v := 1) hx hb hr rfl (fun t ht hW => ⟨⟨1, _, rfl, ⟨rfl, rfl⟩, by rw [ht]; exact hP, va_K.moved hW.alike hK, hD⟩, hS.F ht⟩) hS.2.2 dX0_move_35
      · exact absurd hwo (yn_eq e2 q2)

set_option maxHeartbeats 4000000 in
set_option maxRecDepth 100000 in
/-- show(i, s, w), refused -/
theorem c_X0_show_no (l : Launch) (dC : Nat → ClassId) (dI : Nat → Nat → Nat) (kk : Nat → ClassId) (ad : Nat → Nat) (n len : Int32) (I : Nat → Nat → Int32) (F : Nat → Nat → UInt64) (J : Nat → Nat → Int64) (i j : Int32) (w : UInt64) (hno : ¬ (stOK n i ∧ stOK (nI 4) j ∧ wOK w)) : Met l yX0_show wsX0_show ({ frames := 1, cells := 0, slots := 0, locals := 30 }) (pR dC dI kk [.ref (ad 0), .int (i), .int (j), .double (w)] (wX kk ad (n) (len) (I) (F) (J))) (vp_Si (fun r => r = 0)) 0 0 (fun _ => False) := by
  refine Met.ofW (cc := cX0_show) (maxL := 5) (ret := (some .boolean)) (by decide) rfl ?_
  intro p e s m args below meth c s₁ B hml hv
  obtain ⟨rfl, hP, hK⟩ := hv
  have hx := B.exec
  have hb := B.bytes
  have hr := B.returns
  have hts := atoms_spec (ws := wsX0_show) B.pre
  have hown : s.vm.findClass RX0 = some m.cls := findClass_of_methodNamed B.named
  have hlocks := B.notSynchronized
  have kf29 := hts (.fieldLink RX0 29 "PathOdds" "showWeights" "[[D") (by decide +kernel)
  have hin : ∀ w ∈ u_ws RX0 TX0 11, w ∈ wsX0_show := by decide +kernel
  have hl := lv_entry ([.ref (ad 0), .int (i), .int (j), .double (w)]) (n := 5) (Nat.le_of_ble_eq_true rfl)
  rw [lg_entry_eq]
  generalize (lg_sl ([.ref (ad 0), .int (i), .int (j), .double (w)]) ++ List.replicate (5 - (lg_sl ([.ref (ad 0), .int (i), .int (j), .double (w)])).length) Slot.unset).toArray = ls at hl ⊢
  have hl : lv_has ls 5 [(0, .ref (ad 0)), (1, .int (i)), (2, .int (j)), (3, .double (w))] := hl
  have hkc : 0 + 0 ≤ 0 := Nat.le_refl 0
  have hks : 0 + 0 ≤ 0 := Nat.le_refl 0
  refine lv_aload_n hx hb dX0_show_0 rfl (lv_at hl 0 rfl) ?_
  refine lv_iload_n hx hb dX0_show_1 rfl (lv_at hl 1 rfl) ?_
  refine vp_callSi (W.runV (As := [.int (i)]) (rest := []) ⟨hx, hb, hml, hown, hts⟩ (c_X0_isState l dC dI kk ad n len I F J (i)) (cwV 1 hts gX0_show_X0_isState rfl rfl rfl (by decide +kernel) ⟨Nat.le_of_ble_eq_true rfl, Nat.le_of_ble_eq_true rfl⟩) ⟨pR_blind, va_recv hK hP (ci := 0) (q0 := 0) rfl wX_0, pR_pre hK hP⟩ rfl rfl hl.1 rfl (lv_room (Nat.le_of_ble_eq_true rfl)) dX0_show_2 ⟨hkc, hks⟩) (fun r1 e1 => ?_)
  refine lv_if_eq (tgt := 22) hx hb dX0_show_5 (by decide) (fun q1 => ?_) (fun q1 => ?_)
  · refine lv_iconst (v := 0) hx hb dX0_show_22 (by decide) ?_
    exact W.zret (v := 0) hx hb hr rfl (fun t ht hW => ⟨_, rfl, rfl, ht⟩) (fun _ h => by cases h) dX0_show_23
  · refine lv_iload_n hx hb dX0_show_8 rfl (lv_at hl 2 rfl) ?_
    refine vp_callSi (W.runS (As := [.int (j)]) (rest := []) ⟨hx, hb, hml, hown, hts⟩ (c_X0_isSymbol l (j)) (va_cwS 1 hts gX0_show_X0_isSymbol rfl rfl rfl (by decide +kernel) ⟨Nat.le_of_ble_eq_true rfl, Nat.le_of_ble_eq_true rfl⟩) ⟨q_blind0, fun _ _ _ => rfl⟩ rfl rfl hl.1 rfl (lv_room (Nat.le_of_ble_eq_true rfl)) dX0_show_9 ⟨Nat.le_of_ble_eq_true rfl, Nat.le_of_ble_eq_true rfl⟩) (fun r3 e3 => ?_)
    refine lv_if_eq (tgt := 22) hx hb dX0_show_12 (by decide) (fun q3 => ?_) (fun q3 => ?_)
    · refine lv_iconst (v := 0) hx hb dX0_show_22 (by decide) ?_
      exact W.zret (v := 0) hx hb hr rfl (fun t ht hW => ⟨_, rfl, rfl, ht⟩) (fun _ h => by cases h) dX0_show_23
    · refine lv_dload_n hx hb dX0_show_15 rfl (lv_at hl 3 rfl) ?_
      refine vp_callSi (W.runS (As := [.double (w)]) (rest := []) ⟨hx, hb, hml, hown, hts⟩ (c_X0_isWeight l w) (va_cwS 1 hts gX0_show_X0_isWeight rfl rfl rfl (by decide +kernel) ⟨Nat.le_of_ble_eq_true rfl, Nat.le_of_ble_eq_true rfl⟩) ⟨q_blind0, fun _ _ _ => rfl⟩ rfl rfl hl.1 rfl (lv_room (Nat.le_of_ble_eq_true rfl)) dX0_show_16 ⟨Nat.le_of_ble_eq_true rfl, Nat.le_of_ble_eq_true rfl⟩) (fun r2 e2 => ?_)
      refine lv_if_ne (tgt := 24) hx hb dX0_show_19 (by decide) (fun q2 => ?_) (fun q2 => ?_)
      · exact absurd ⟨yn_ne e1 q1, yn_ne e3 q3, yn_ne e2 q2⟩ hno
      · refine lv_iconst (v := 0) hx hb dX0_show_22 (by decide) ?_
        exact W.zret (v := 0) hx hb hr rfl (fun t ht hW => ⟨_, rfl, rfl, ht⟩) (fun _ h => by cases h) dX0_show_23

set_option maxHeartbeats 4000000 in
set_option maxRecDepth 100000 in
/-- show(i, s, w), taken -/
theorem c_X0_show_yes (l : Launch) (dC : Nat → ClassId) (dI : Nat → Nat → Nat) (kk : Nat → ClassId) (ad : Nat → Nat) (sz : Nat) (nn : Nat) (len : Int32) (I : Nat → Nat → Int32) (F : Nat → Nat → UInt64) (J : Nat → Nat → Int64) (h6 : nn ≤ 6) (i j : Nat) (w : UInt64) (hi : i < nn) (hj : j < 4) (hwo : wOK w) : Met l yX0_show wsX0_show ({ frames := 1, cells := 0, slots := 0, locals := 30 }) (pW dC dI kk [.ref (ad 0), .int (nI (i)), .int (nI (j)), .double (w)] (wX kk ad (nI nn) (len) (I) (F) (J)) sz) (va_Qi (fun (r : Int32) (G : Nat → Nat → UInt64) => r = 1 ∧ G = up2 F (16 + i) j w) (fun (G : Nat → Nat → UInt64) t => bW dC dI kk (va_A (wX kk ad (nI nn) (len) (I) (F) (J)) sz) (wX kk ad (nI nn) len I G J) t) (va_A (wX kk ad (nI nn) (len) (I) (F) (J)) sz)) 0 0 (va_A (wX kk ad (nI nn) (len) (I) (F) (J)) sz) := by
  refine Met.ofW (cc := cX0_show) (maxL := 5) (ret := (some .boolean)) (by decide) rfl ?_
  intro p e s m args below meth c s₁ B hml hv
  obtain ⟨rfl, hsz, hP, hK, hD0⟩ := hv
  have hx := B.exec
  have hb := B.bytes
  have hr := B.returns
  have hts := atoms_spec (ws := wsX0_show) B.pre
  have hown : s.vm.findClass RX0 = some m.cls := findClass_of_methodNamed B.named
  have hlocks := B.notSynchronized
  have kf29 := hts (.fieldLink RX0 29 "PathOdds" "showWeights" "[[D") (by decide +kernel)
  have hin : ∀ w ∈ u_ws RX0 TX0 11, w ∈ wsX0_show := by decide +kernel
  have hl := lv_entry ([.ref (ad 0), .int (nI (i)), .int (nI (j)), .double (w)]) (n := 5) (Nat.le_of_ble_eq_true rfl)
  rw [lg_entry_eq]
  generalize (lg_sl ([.ref (ad 0), .int (nI (i)), .int (nI (j)), .double (w)]) ++ List.replicate (5 - (lg_sl ([.ref (ad 0), .int (nI (i)), .int (nI (j)), .double (w)])).length) Slot.unset).toArray = ls at hl ⊢
  have hl : lv_has ls 5 [(0, .ref (ad 0)), (1, .int (nI (i))), (2, .int (nI (j))), (3, .double (w))] := hl
  subst hsz
  have hD := hD0.self (sz := s.heap.size)
  generalize hAe : va_A (wX kk ad (nI nn) (len) (I) (F) (J)) s.heap.size = A at hD ⊢
  have hA : ∀ q : Nat, s.heap.size ≤ q → A q := fun q h => by rw [← hAe]; exact Or.inr h
  have hS : va_S A s.heap s.heap [] := va_S.rf
  have hkc : 0 + 0 ≤ 0 := Nat.le_refl 0
  have hks : 0 + 0 ≤ 0 := Nat.le_refl 0
  refine lv_aload_n hx hb dX0_show_0 rfl (lv_at hl 0 rfl) ?_
  refine lv_iload_n hx hb dX0_show_1 rfl (lv_at hl 1 rfl) ?_
  refine vp_callSi (W.runV (As := [.int (nI (i))]) (rest := []) ⟨hx, hb, hml, hown, hts⟩ (c_X0_isState l dC dI kk ad (nI nn) len I F J (nI i)) (cwV 1 hts gX0_show_X0_isState rfl rfl rfl (by decide +kernel) ⟨Nat.le_of_ble_eq_true rfl, Nat.le_of_ble_eq_true rfl⟩) ⟨pR_blind, va_recv hK hP (ci := 0) (q0 := 0) rfl wX_0, pR_pre hK hP⟩ rfl rfl hl.1 rfl (lv_room (Nat.le_of_ble_eq_true rfl)) dX0_show_2 ⟨hkc, hks⟩) (fun r1 e1 => ?_)
  refine lv_if_eq (tgt := 22) hx hb dX0_show_5 (by decide) (fun q1 => ?_) (fun q1 => ?_)
  · exact absurd (stOK_of hi (by omega)) (yn_eq e1 q1)
  · refine lv_iload_n hx hb dX0_show_8 rfl (lv_at hl 2 rfl) ?_
    refine vp_callSi (W.runS (As := [.int (nI (j))]) (rest := []) ⟨hx, hb, hml, hown, hts⟩ (c_X0_isSymbol l (nI j)) (va_cwS 1 hts gX0_show_X0_isSymbol rfl rfl rfl (by decide +kernel) ⟨Nat.le_of_ble_eq_true rfl, Nat.le_of_ble_eq_true rfl⟩) ⟨q_blind0, fun _ _ _ => rfl⟩ rfl rfl hl.1 rfl (lv_room (Nat.le_of_ble_eq_true rfl)) dX0_show_9 ⟨Nat.le_of_ble_eq_true rfl, Nat.le_of_ble_eq_true rfl⟩) (fun r3 e3 => ?_)
    refine lv_if_eq (tgt := 22) hx hb dX0_show_12 (by decide) (fun q3 => ?_) (fun q3 => ?_)
    · exact absurd (stOK_of hj (by omega)) (yn_eq e3 q3)
    · refine lv_dload_n hx hb dX0_show_15 rfl (lv_at hl 3 rfl) ?_
      refine vp_callSi (W.runS (As := [.double (w)]) (rest := []) ⟨hx, hb, hml, hown, hts⟩ (c_X0_isWeight l w) (va_cwS 1 hts gX0_show_X0_isWeight rfl rfl rfl (by decide +kernel) ⟨Nat.le_of_ble_eq_true rfl, Nat.le_of_ble_eq_true rfl⟩) ⟨q_blind0, fun _ _ _ => rfl⟩ rfl rfl hl.1 rfl (lv_room (Nat.le_of_ble_eq_true rfl)) dX0_show_16 ⟨Nat.le_of_ble_eq_true rfl, Nat.le_of_ble_eq_true rfl⟩) (fun r2 e2 => ?_)
      refine lv_if_ne (tgt := 24) hx hb dX0_show_19 (by decide) (fun q2 => ?_) (fun q2 => ?_)
      · refine lv_aload_n hx hb dX0_show_24 rfl (lv_at hl 0 rfl) ?_
        refine x_get hx hb hts hin hown hK hP 5 (by decide) (v := .ref (ad 4)) rfl kf29 dX0_show_25 ?_
        refine lv_iload_n hx hb dX0_show_28 rfl (lv_at hl 1 rfl) ?_
        refine x_al (o := 4) (b := 16) (N := 6) (i := i) 3 hx hb hK hP (by decide) rfl rfl (by omega) (by decide) dX0_show_29 ?_
        refine lv_iload_n hx hb dX0_show_30 rfl (lv_at hl 2 rfl) ?_
        refine lv_dload_n hx hb dX0_show_31 rfl (lv_at hl 3 rfl) ?_
        refine x_ds (k := (16 + (i))) (i := j) (v := w) 4 hx hb hK hP hD hS (by omega) (fun _ => xC_dE (by omega) (by omega)) (by omega) (by decide) dX0_show_32 (fun H locs hP hD hS => ?_)
        refine lv_iconst (v := 1) hx hb dX0_show_33 (by decide) ?_
        exact W.zret (v := 1) hx hb hr rfl (fun t ht hW => ⟨⟨1, _, rfl, ⟨rfl, rfl⟩, by rw [ht]; exact hP, va_K.moved hW.alike hK, hD⟩, hS.F ht⟩) hS.2.2 dX0_show_34
      · exact absurd hwo (yn_eq e2 q2)

set_option maxHeartbeats 4000000 in
set_option maxRecDepth 100000 in
/-- read(s), refused -/
theorem c_X0_read_no (l : Launch) (dC : Nat → ClassId) (dI : Nat → Nat → Nat) (kk : Nat → ClassId) (ad : Nat → Nat) (n : Int32) (ll : Nat) (I : Nat → Nat → Int32) (F : Nat → Nat → UInt64) (J : Nat → Nat → Int64) (h12 : ll ≤ 12) (j : Int32) (hno : ¬ (stOK (nI 4) j ∧ ll < 12)) : Met l yX0_read wsX0_read ({ frames := 1, cells := 0, slots := 0, locals := 30 }) (pR dC dI kk [.ref (ad 0), .int (j)] (wX kk ad (n) (nI ll) (I) (F) (J))) (vp_Si (fun r => r = 0)) 0 0 (fun _ => False) := by
  refine Met.ofW (cc := cX0_read) (maxL := 2) (ret := (some .boolean)) (by decide) rfl ?_
  intro p e s m args below meth c s₁ B hml hv
  obtain ⟨rfl, hP, hK⟩ := hv
  have hx := B.exec
  have hb := B.bytes
  have hr := B.returns
  have hts := atoms_spec (ws := wsX0_read) B.pre
  have hown : s.vm.findClass RX0 = some m.cls := findClass_of_methodNamed B.named
  have hlocks := B.notSynchronized
  have kf13 := hts (.fieldLink RX0 13 "PathOdds" "rowLength" "I") (by decide +kernel)
  have kf16 := hts (.fieldLink RX0 16 "PathOdds" "row" "[I") (by decide +kernel)
  have hin : ∀ w ∈ u_ws RX0 TX0 11, w ∈ wsX0_read := by decide +kernel
  have hl := lv_entry ([.ref (ad 0), .int (j)]) (n := 2) (Nat.le_of_ble_eq_true rfl)
  rw [lg_entry_eq]
  generalize (lg_sl ([.ref (ad 0), .int (j)]) ++ List.replicate (2 - (lg_sl ([.ref (ad 0), .int (j)])).length) Slot.unset).toArray = ls at hl ⊢
  have hl : lv_has ls 2 [(0, .ref (ad 0)), (1, .int (j))] := hl
  have hkc : 0 + 0 ≤ 0 := Nat.le_refl 0
  have hks : 0 + 0 ≤ 0 := Nat.le_refl 0
  refine lv_iload_n hx hb dX0_read_0 rfl (lv_at hl 1 rfl) ?_
  refine vp_callSi (W.runS (As := [.int (j)]) (rest := []) ⟨hx, hb, hml, hown, hts⟩ (c_X0_isSymbol l (j)) (va_cwS 1 hts gX0_read_X0_isSymbol rfl rfl rfl (by decide +kernel) ⟨Nat.le_of_ble_eq_true rfl, Nat.le_of_ble_eq_true rfl⟩) ⟨q_blind0, fun _ _ _ => rfl⟩ rfl rfl hl.1 rfl (lv_room (Nat.le_of_ble_eq_true rfl)) dX0_read_1 ⟨Nat.le_of_ble_eq_true rfl, Nat.le_of_ble_eq_true rfl⟩) (fun r1 e1 => ?_)
  refine lv_if_eq (tgt := 16) hx hb dX0_read_4 (by decide) (fun q1 => ?_) (fun q1 => ?_)
  · refine lv_iconst (v := 0) hx hb dX0_read_16 (by decide) ?_
    exact W.zret (v := 0) hx hb hr rfl (fun t ht hW => ⟨_, rfl, rfl, ht⟩) (fun _ h => by cases h) dX0_read_17
  · refine lv_aload_n hx hb dX0_read_7 rfl (lv_at hl 0 rfl) ?_
    refine x_get hx hb hts hin hown hK hP 1 (by decide) (v := .int (nI ll)) rfl kf13 dX0_read_8 ?_
    refine lv_bipush (v := nI (12)) hx hb dX0_read_11 (by decide) ?_
    have hfull : ll = 12 := by
      rcases Nat.lt_or_ge ll 12 with z | z
      · exact absurd ⟨yn_ne e1 q1, z⟩ hno
      · omega
    refine q_ltn (tgt := 18) hx hb (by omega) (by omega) (by omega) dX0_read_13 (by decide) ?_
    refine lv_iconst (v := 0) hx hb dX0_read_16 (by decide) ?_
    exact W.zret (v := 0) hx hb hr rfl (fun t ht hW => ⟨_, rfl, rfl, ht⟩) (fun _ h => by cases h) dX0_read_17

set_option maxHeartbeats 4000000 in
set_option maxRecDepth 100000 in
/-- read(s), taken -/
theorem c_X0_read_yes (l : Launch) (dC : Nat → ClassId) (dI : Nat → Nat → Nat) (kk : Nat → ClassId) (ad : Nat → Nat) (sz : Nat) (n : Int32) (ll : Nat) (I : Nat → Nat → Int32) (F : Nat → Nat → UInt64) (J : Nat → Nat → Int64) (h12 : ll ≤ 12) (j : Nat) (hj : j < 4) (hlt : ll < 12) : Met l yX0_read wsX0_read ({ frames := 1, cells := 0, slots := 0, locals := 30 }) (pW dC dI kk [.ref (ad 0), .int (nI (j))] (wX kk ad (n) (nI ll) (I) (F) (J)) sz) (va_Qi (fun (r : Int32) (G : Nat → Nat → Int32) => r = 1 ∧ G = up2 I 1 ll (nI j)) (fun (G : Nat → Nat → Int32) t => bW dC dI kk (va_A (wX kk ad (n) (nI ll) (I) (F) (J)) sz) (wX kk ad n (nI (ll + 1)) G F J) t) (va_A (wX kk ad (n) (nI ll) (I) (F) (J)) sz)) 0 0 (va_A (wX kk ad (n) (nI ll) (I) (F) (J)) sz) := by
  refine Met.ofW (cc := cX0_read) (maxL := 2) (ret := (some .boolean)) (by decide) rfl ?_
  intro p e s m args below meth c s₁ B hml hv
  obtain ⟨rfl, hsz, hP, hK, hD0⟩ := hv
  have hx := B.exec
  have hb := B.bytes
  have hr := B.returns
  have hts := atoms_spec (ws := wsX0_read) B.pre
  have hown : s.vm.findClass RX0 = some m.cls := findClass_of_methodNamed B.named
  have hlocks := B.notSynchronized
  have kf13 := hts (.fieldLink RX0 13 "PathOdds" "rowLength" "I") (by decide +kernel)
  have kf16 := hts (.fieldLink RX0 16 "PathOdds" "row" "[I") (by decide +kernel)
  have hin : ∀ w ∈ u_ws RX0 TX0 11, w ∈ wsX0_read := by decide +kernel
  have hl := lv_entry ([.ref (ad 0), .int (nI (j))]) (n := 2) (Nat.le_of_ble_eq_true rfl)
  rw [lg_entry_eq]
  generalize (lg_sl ([.ref (ad 0), .int (nI (j))]) ++ List.replicate (2 - (lg_sl ([.ref (ad 0), .int (nI (j))])).length) Slot.unset).toArray = ls at hl ⊢
  have hl : lv_has ls 2 [(0, .ref (ad 0)), (1, .int (nI (j)))] := hl
  subst hsz
  have hD := hD0.self (sz := s.heap.size)
  generalize hAe : va_A (wX kk ad (n) (nI ll) (I) (F) (J)) s.heap.size = A at hD ⊢
  have hA : ∀ q : Nat, s.heap.size ≤ q → A q := fun q h => by rw [← hAe]; exact Or.inr h
  have hS : va_S A s.heap s.heap [] := va_S.rf
  have hkc : 0 + 0 ≤ 0 := Nat.le_refl 0
  have hks : 0 + 0 ≤ 0 := Nat.le_refl 0
  refine lv_iload_n hx hb dX0_read_0 rfl (lv_at hl 1 rfl) ?_
  refine vp_callSi (W.runS (As := [.int (nI (j))]) (rest := []) ⟨hx, hb, hml, hown, hts⟩ (c_X0_isSymbol l (nI j)) (va_cwS 1 hts gX0_read_X0_isSymbol rfl rfl rfl (by decide +kernel) ⟨Nat.le_of_ble_eq_true rfl, Nat.le_of_ble_eq_true rfl⟩) ⟨q_blind0, fun _ _ _ => rfl⟩ rfl rfl hl.1 rfl (lv_room (Nat.le_of_ble_eq_true rfl)) dX0_read_1 ⟨Nat.le_of_ble_eq_true rfl, Nat.le_of_ble_eq_true rfl⟩) (fun r1 e1 => ?_)
  refine lv_if_eq (tgt := 16) hx hb dX0_read_4 (by decide) (fun q1 => ?_) (fun q1 => ?_)
  · exact absurd (stOK_of hj (by omega)) (yn_eq e1 q1)
  · refine lv_aload_n hx hb dX0_read_7 rfl (lv_at hl 0 rfl) ?_
    refine x_get hx hb hts hin hown hK hP 1 (by decide) (v := .int (nI ll)) rfl kf13 dX0_read_8 ?_
    refine lv_bipush (v := nI (12)) hx hb dX0_read_11 (by decide) ?_
    refine q_lty (tgt := 18) hx hb (by omega) (by omega) (by omega) dX0_read_13 (by decide) ?_
    refine lv_aload_n hx hb dX0_read_18 rfl (lv_at hl 0 rfl) ?_
    refine x_get hx hb hts hin hown hK hP 2 (by decide) (v := .ref (ad 1)) rfl kf16 dX0_read_19 ?_
    refine lv_aload_n hx hb dX0_read_22 rfl (lv_at hl 0 rfl) ?_
    refine x_get hx hb hts hin hown hK hP 1 (by decide) (v := .int (nI ll)) rfl kf13 dX0_read_23 ?_
    refine lv_iload_n hx hb dX0_read_26 rfl (lv_at hl 1 rfl) ?_
    refine x_is (k := 1) (i := ll) (v := nI (j)) 12 hx hb hK hP hD hS (by omega) (fun _ => xC_r rfl) (by omega) (by decide) dX0_read_27 (fun H locs hP hD hS => ?_)
    refine lv_aload_n hx hb dX0_read_28 rfl (lv_at hl 0 rfl) ?_
    refine lv_dup hx hb dX0_read_29 rfl ?_
    refine x_get hx hb hts hin hown hK hP 1 (by decide) (v := .int (nI ll)) rfl kf13 dX0_read_30 ?_
    refine lv_iconst (v := nI (1)) hx hb dX0_read_33 (by decide) ?_
    refine lv_iadd hx hb dX0_read_34 ?_
    refine q_top (y := nI (ll + 1)) (q_add (by omega)) ?_
    refine x_pl (v := nI (ll + 1)) hx hb hts hin hown hK hP hD hS kf13 dX0_read_35 (fun H locs hP hD hS => ?_)
    refine lv_iconst (v := 1) hx hb dX0_read_38 (by decide) ?_
    exact W.zret (v := 1) hx hb hr rfl (fun t ht hW => ⟨⟨1, _, rfl, ⟨rfl, rfl⟩, by rw [ht]; exact hP, va_K.moved hW.alike hK, hD⟩, hS.F ht⟩) hS.2.2 dX0_read_39

set_option maxHeartbeats 4000000 in
set_option maxRecDepth 100000 in
/-- unread(), refused -/
theorem c_X0_unread_no (l : Launch) (dC : Nat → ClassId) (dI : Nat → Nat → Nat) (kk : Nat → ClassId) (ad : Nat → Nat) (n : Int32) (I : Nat → Nat → Int32) (F : Nat → Nat → UInt64) (J : Nat → Nat → Int64) : Met l yX0_unread wsX0_unread ({ frames := 0, cells := 0, slots := 0, locals := 0 }) (pR dC dI kk [.ref (ad 0)] (wX kk ad (n) (nI 0) (I) (F) (J))) (vp_Si (fun r => r = 0)) 0 0 (fun _ => False) := by
  refine Met.ofW (cc := cX0_unread) (maxL := 1) (ret := (some .boolean)) (by decide) rfl ?_
  intro p e s m args below meth c s₁ B hml hv
  obtain ⟨rfl, hP, hK⟩ := hv
  have hx := B.exec
  have hb := B.bytes
  have hr := B.returns
  have hts := atoms_spec (ws := wsX0_unread) B.pre
  have hown : s.vm.findClass RX0 = some m.cls := findClass_of_methodNamed B.named
  have hlocks := B.notSynchronized
  have kf13 := hts (.fieldLink RX0 13 "PathOdds" "rowLength" "I") (by decide +kernel)
  have hin : ∀ w ∈ u_ws RX0 TX0 11, w ∈ wsX0_unread := by decide +kernel
  have hl := lv_entry ([.ref (ad 0)]) (n := 1) (Nat.le_of_ble_eq_true rfl)
  rw [lg_entry_eq]
  generalize (lg_sl ([.ref (ad 0)]) ++ List.replicate (1 - (lg_sl ([.ref (ad 0)])).length) Slot.unset).toArray = ls at hl ⊢
  have hl : lv_has ls 1 [(0, .ref (ad 0))] := hl
  have hkc : 0 + 0 ≤ 0 := Nat.le_refl 0
  have hks : 0 + 0 ≤ 0 := Nat.le_refl 0
  refine lv_aload_n hx hb dX0_unread_0 rfl (lv_at hl 0 rfl) ?_
  refine x_get hx hb hts hin hown hK hP 1 (by decide) (v := .int (nI 0)) rfl kf13 dX0_unread_1 ?_
  refine q_ifnen (tgt := 9) hx hb (rfl) (by omega) dX0_unread_4 (by decide) ?_
  refine lv_iconst (v := 0) hx hb dX0_unread_7 (by decide) ?_
  exact W.zret (v := 0) hx hb hr rfl (fun t ht hW => ⟨_, rfl, rfl, ht⟩) (fun _ h => by cases h) dX0_unread_8

set_option maxHeartbeats 4000000 in
set_option maxRecDepth 100000 in
/-- unread(), taken -/
theorem c_X0_unread_yes (l : Launch) (dC : Nat → ClassId) (dI : Nat → Nat → Nat) (kk : Nat → ClassId) (ad : Nat → Nat) (sz : Nat) (n : Int32) (ll : Nat) (I : Nat → Nat → Int32) (F : Nat → Nat → UInt64) (J : Nat → Nat → Int64) (h12 : ll ≤ 12) : Met l yX0_unread wsX0_unread ({ frames := 0, cells := 0, slots := 0, locals := 0 }) (pW dC dI kk [.ref (ad 0)] (wX kk ad (n) (nI (ll + 1)) (I) (F) (J)) sz) (va_Qi (fun (r : Int32) (G : Unit) => r = 1) (fun (G : Unit) t => bW dC dI kk (va_A (wX kk ad (n) (nI (ll + 1)) (I) (F) (J)) sz) (wX kk ad n (nI ll) I F J) t) (va_A (wX kk ad (n) (nI (ll + 1)) (I) (F) (J)) sz)) 0 0 (va_A (wX kk ad (n) (nI (ll + 1)) (I) (F) (J)) sz) := by
  refine Met.ofW (cc := cX0_unread) (maxL := 1) (ret := (some .boolean)) (by decide) rfl ?_
  intro p e s m args below meth c s₁ B hml hv
  obtain ⟨rfl, hsz, hP, hK, hD0⟩ := hv
  have hx := B.exec
  have hb := B.bytes
  have hr := B.returns
  have hts := atoms_spec (ws := wsX0_unread) B.pre
  have hown : s.vm.findClass RX0 = some m.cls := findClass_of_methodNamed B.named
  have hlocks := B.notSynchronized
  have kf13 := hts (.fieldLink RX0 13 "PathOdds" "rowLength" "I") (by decide +kernel)
  have hin : ∀ w ∈ u_ws RX0 TX0 11, w ∈ wsX0_unread := by decide +kernel
  have hl := lv_entry ([.ref (ad 0)]) (n := 1) (Nat.le_of_ble_eq_true rfl)
  rw [lg_entry_eq]
  generalize (lg_sl ([.ref (ad 0)]) ++ List.replicate (1 - (lg_sl ([.ref (ad 0)])).length) Slot.unset).toArray = ls at hl ⊢
  have hl : lv_has ls 1 [(0, .ref (ad 0))] := hl
  subst hsz
  have hD := hD0.self (sz := s.heap.size)
  generalize hAe : va_A (wX kk ad (n) (nI (ll + 1)) (I) (F) (J)) s.heap.size = A at hD ⊢
  have hA : ∀ q : Nat, s.heap.size ≤ q → A q := fun q h => by rw [← hAe]; exact Or.inr h
  have hS : va_S A s.heap s.heap [] := va_S.rf
  have hkc : 0 + 0 ≤ 0 := Nat.le_refl 0
  have hks : 0 + 0 ≤ 0 := Nat.le_refl 0
  refine lv_aload_n hx hb dX0_unread_0 rfl (lv_at hl 0 rfl) ?_
  refine x_get hx hb hts hin hown hK hP 1 (by decide) (v := .int (nI (ll + 1))) rfl kf13 dX0_unread_1 ?_
  refine q_ifney (tgt := 9) hx hb (by omega) (by omega) dX0_unread_4 (by decide) ?_
  refine lv_aload_n hx hb dX0_unread_9 rfl (lv_at hl 0 rfl) ?_
  refine lv_dup hx hb dX0_unread_10 rfl ?_
  refine x_get hx hb hts hin hown hK hP 1 (by decide) (v := .int (nI (ll + 1))) rfl kf13 dX0_unread_11 ?_
  refine lv_iconst (v := nI (1)) hx hb dX0_unread_14 (by decide) ?_
  refine lv_isub hx hb dX0_unread_15 ?_
  refine q_top (y := nI (ll)) (q_sub (by omega)) ?_
  refine x_pl (v := nI (ll)) hx hb hts hin hown hK hP hD hS kf13 dX0_unread_16 (fun H locs hP hD hS => ?_)
  refine lv_iconst (v := 1) hx hb dX0_unread_19 (by decide) ?_
  exact W.zret (v := 1) hx hb hr rfl (fun t ht hW => ⟨⟨1, (), rfl, rfl, by rw [ht]; exact hP, va_K.moved hW.alike hK, hD⟩, hS.F ht⟩) hS.2.2 dX0_unread_20
