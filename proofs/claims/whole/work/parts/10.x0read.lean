theorem q_blind0 {av : List Value} : FrameBlind (va_Pc av (fun _ => True)) := fun _ _ _ _ q => q
theorem q_b1 : narrow .boolean (.int 1) = .int 1 := rfl
theorem q_b0 : narrow .boolean (.int 0) = .int 0 := rfl
/-- an int from 0 to below n -/
def stOK (n i : Int32) : Prop := ¬ i < 0 ∧ ¬ n ≤ i
theorem stOK_nat {nn : Nat} {i : Int32} (h : stOK (nI nn) i) (hn : nn < 2 ^ 31) : ∃ j : Nat, j < nn ∧ i = nI j := by
  rcases pk_ix i hn with h1 | h1 | h1
  · exact absurd h1 h.1
  · exact absurd h1 h.2
  · exact h1
theorem stOK_of {nn j : Nat} (h : j < nn) (hn : nn < 2 ^ 31) : stOK (nI nn) (nI j) := ⟨nI_pos (by omega), nI_ge h hn⟩
/-- a yes or no of the machine -/
def yn (P : Prop) (r : Int32) : Prop := (P → r = 1) ∧ (¬ P → r = 0)
theorem yn_1 {P : Prop} (h : P) : yn P 1 := ⟨fun _ => rfl, fun q => absurd h q⟩
theorem yn_0 {P : Prop} (h : ¬ P) : yn P 0 := ⟨fun q => absurd q h, fun _ => rfl⟩

set_option maxHeartbeats 4000000 in
set_option maxRecDepth 100000 in
/-- isState(i) -/
theorem c_X0_isState (l : Launch) (dC : Nat → ClassId) (dI : Nat → Nat → Nat) (kk : Nat → ClassId) (ad : Nat → Nat) (n len : Int32) (I : Nat → Nat → Int32) (F : Nat → Nat → UInt64) (J : Nat → Nat → Int64) (i : Int32) : Met l yX0_isState wsX0_isState ({ frames := 0, cells := 0, slots := 0, locals := 0 }) (pR dC dI kk [.ref (ad 0), .int (i)] (wX kk ad (n) (len) (I) (F) (J))) (vp_Si (fun r => yn (stOK n i) r)) 0 0 (fun _ => False) := by
  refine Met.ofW (cc := cX0_isState) (maxL := 2) (ret := (some .boolean)) (by decide) rfl ?_
  intro p e s m args below meth c s₁ B hml hv
  obtain ⟨rfl, hP, hK⟩ := hv
  have hx := B.exec
  have hb := B.bytes
  have hr := B.returns
  have hts := atoms_spec (ws := wsX0_isState) B.pre
  have hown : s.vm.findClass RX0 = some m.cls := findClass_of_methodNamed B.named
  have hlocks := B.notSynchronized
  have kf7 := hts (.fieldLink RX0 7 "PathOdds" "stateCount" "I") (by decide +kernel)
  have hin : ∀ w ∈ u_ws RX0 TX0 11, w ∈ wsX0_isState := by decide +kernel
  have hl := lv_entry ([.ref (ad 0), .int (i)]) (n := 2) (Nat.le_of_ble_eq_true rfl)
  rw [lg_entry_eq]
  generalize (lg_sl ([.ref (ad 0), .int (i)]) ++ List.replicate (2 - (lg_sl ([.ref (ad 0), .int (i)])).length) Slot.unset).toArray = ls at hl ⊢
  have hl : lv_has ls 2 [(0, .ref (ad 0)), (1, .int (i))] := hl
  have hkc : 0 + 0 ≤ 0 := Nat.le_refl 0
  have hks : 0 + 0 ≤ 0 := Nat.le_refl 0
  refine lv_iload_n hx hb dX0_isState_0 rfl (lv_at hl 1 rfl) ?_
  refine lv_if_lt (tgt := 16) hx hb dX0_isState_1 (by decide) (fun q1 => ?_) (fun q1 => ?_)
  · refine lv_iconst (v := 0) hx hb dX0_isState_16 (by decide) ?_
    exact W.zret (v := 0) hx hb hr rfl (fun t ht hW => ⟨_, rfl, yn_0 (fun q => q.1 q1), ht⟩) (fun _ h => by cases h) dX0_isState_17
  · refine lv_iload_n hx hb dX0_isState_4 rfl (lv_at hl 1 rfl) ?_
    refine lv_aload_n hx hb dX0_isState_5 rfl (lv_at hl 0 rfl) ?_
    refine x_get hx hb hts hin hown hK hP 0 (by decide) (v := .int (n)) rfl kf7 dX0_isState_6 ?_
    refine lv_icmp_ge (tgt := 16) hx hb dX0_isState_9 (by decide) (fun q2 => ?_) (fun q2 => ?_)
    · refine lv_iconst (v := 0) hx hb dX0_isState_16 (by decide) ?_
      exact W.zret (v := 0) hx hb hr rfl (fun t ht hW => ⟨_, rfl, yn_0 (fun q => q.2 q2), ht⟩) (fun _ h => by cases h) dX0_isState_17
    · refine lv_iconst (v := 1) hx hb dX0_isState_12 (by decide) ?_
      refine lv_goto (tgt := 17) hx hb dX0_isState_13 (by decide) ?_
      exact W.zret (v := 1) hx hb hr rfl (fun t ht hW => ⟨_, rfl, yn_1 ⟨q1, q2⟩, ht⟩) (fun _ h => by cases h) dX0_isState_17

set_option maxHeartbeats 4000000 in
set_option maxRecDepth 100000 in
/-- isPlace(t) -/
theorem c_X0_isPlace (l : Launch) (dC : Nat → ClassId) (dI : Nat → Nat → Nat) (kk : Nat → ClassId) (ad : Nat → Nat) (n len : Int32) (I : Nat → Nat → Int32) (F : Nat → Nat → UInt64) (J : Nat → Nat → Int64) (i : Int32) : Met l yX0_isPlace wsX0_isPlace ({ frames := 0, cells := 0, slots := 0, locals := 0 }) (pR dC dI kk [.ref (ad 0), .int (i)] (wX kk ad (n) (len) (I) (F) (J))) (vp_Si (fun r => yn (stOK len i) r)) 0 0 (fun _ => False) := by
  refine Met.ofW (cc := cX0_isPlace) (maxL := 2) (ret := (some .boolean)) (by decide) rfl ?_
  intro p e s m args below meth c s₁ B hml hv
  obtain ⟨rfl, hP, hK⟩ := hv
  have hx := B.exec
  have hb := B.bytes
  have hr := B.returns
  have hts := atoms_spec (ws := wsX0_isPlace) B.pre
  have hown : s.vm.findClass RX0 = some m.cls := findClass_of_methodNamed B.named
  have hlocks := B.notSynchronized
  have kf13 := hts (.fieldLink RX0 13 "PathOdds" "rowLength" "I") (by decide +kernel)
  have hin : ∀ w ∈ u_ws RX0 TX0 11, w ∈ wsX0_isPlace := by decide +kernel
  have hl := lv_entry ([.ref (ad 0), .int (i)]) (n := 2) (Nat.le_of_ble_eq_true rfl)
  rw [lg_entry_eq]
  generalize (lg_sl ([.ref (ad 0), .int (i)]) ++ List.replicate (2 - (lg_sl ([.ref (ad 0), .int (i)])).length) Slot.unset).toArray = ls at hl ⊢
  have hl : lv_has ls 2 [(0, .ref (ad 0)), (1, .int (i))] := hl
  have hkc : 0 + 0 ≤ 0 := Nat.le_refl 0
  have hks : 0 + 0 ≤ 0 := Nat.le_refl 0
  refine lv_iload_n hx hb dX0_isPlace_0 rfl (lv_at hl 1 rfl) ?_
  refine lv_if_lt (tgt := 16) hx hb dX0_isPlace_1 (by decide) (fun q1 => ?_) (fun q1 => ?_)
  · refine lv_iconst (v := 0) hx hb dX0_isPlace_16 (by decide) ?_
    exact W.zret (v := 0) hx hb hr rfl (fun t ht hW => ⟨_, rfl, yn_0 (fun q => q.1 q1), ht⟩) (fun _ h => by cases h) dX0_isPlace_17
  · refine lv_iload_n hx hb dX0_isPlace_4 rfl (lv_at hl 1 rfl) ?_
    refine lv_aload_n hx hb dX0_isPlace_5 rfl (lv_at hl 0 rfl) ?_
    refine x_get hx hb hts hin hown hK hP 1 (by decide) (v := .int (len)) rfl kf13 dX0_isPlace_6 ?_
    refine lv_icmp_ge (tgt := 16) hx hb dX0_isPlace_9 (by decide) (fun q2 => ?_) (fun q2 => ?_)
    · refine lv_iconst (v := 0) hx hb dX0_isPlace_16 (by decide) ?_
      exact W.zret (v := 0) hx hb hr rfl (fun t ht hW => ⟨_, rfl, yn_0 (fun q => q.2 q2), ht⟩) (fun _ h => by cases h) dX0_isPlace_17
    · refine lv_iconst (v := 1) hx hb dX0_isPlace_12 (by decide) ?_
      refine lv_goto (tgt := 17) hx hb dX0_isPlace_13 (by decide) ?_
      exact W.zret (v := 1) hx hb hr rfl (fun t ht hW => ⟨_, rfl, yn_1 ⟨q1, q2⟩, ht⟩) (fun _ h => by cases h) dX0_isPlace_17

set_option maxHeartbeats 4000000 in
set_option maxRecDepth 100000 in
/-- isSymbol(s) -/
theorem c_X0_isSymbol (l : Launch) (i : Int32) : Met l yX0_isSymbol wsX0_isSymbol ({ frames := 0, cells := 0, slots := 0, locals := 0 }) (va_Pc [.int (i)] (fun _ => True)) (vp_Si (fun r => yn (stOK (nI 4) i) r)) 0 0 (fun _ => False) := by
  refine Met.ofW (cc := cX0_isSymbol) (maxL := 1) (ret := (some .boolean)) (by decide) rfl ?_
  intro p e s m args below meth c s₁ B hml hv
  obtain ⟨rfl, -⟩ := hv
  have hx := B.exec
  have hb := B.bytes
  have hr := B.returns
  have hts := atoms_spec (ws := wsX0_isSymbol) B.pre
  have hown : s.vm.findClass RX0 = some m.cls := findClass_of_methodNamed B.named
  have hlocks := B.notSynchronized
  have hl := lv_entry ([.int (i)]) (n := 1) (Nat.le_of_ble_eq_true rfl)
  rw [lg_entry_eq]
  generalize (lg_sl ([.int (i)]) ++ List.replicate (1 - (lg_sl ([.int (i)])).length) Slot.unset).toArray = ls at hl ⊢
  have hl : lv_has ls 1 [(0, .int (i))] := hl
  refine lv_iload_n hx hb dX0_isSymbol_0 rfl (lv_at hl 0 rfl) ?_
  refine lv_if_lt (tgt := 13) hx hb dX0_isSymbol_1 (by decide) (fun q1 => ?_) (fun q1 => ?_)
  · refine lv_iconst (v := 0) hx hb dX0_isSymbol_13 (by decide) ?_
    exact W.zret (v := 0) hx hb hr rfl (fun t ht hW => ⟨_, rfl, yn_0 (fun q => q.1 q1), ht⟩) (fun _ h => by cases h) dX0_isSymbol_14
  · refine lv_iload_n hx hb dX0_isSymbol_4 rfl (lv_at hl 0 rfl) ?_
    refine lv_iconst (v := nI (4)) hx hb dX0_isSymbol_5 (by decide) ?_
    refine lv_icmp_ge (tgt := 13) hx hb dX0_isSymbol_6 (by decide) (fun q2 => ?_) (fun q2 => ?_)
    · refine lv_iconst (v := 0) hx hb dX0_isSymbol_13 (by decide) ?_
      exact W.zret (v := 0) hx hb hr rfl (fun t ht hW => ⟨_, rfl, yn_0 (fun q => q.2 q2), ht⟩) (fun _ h => by cases h) dX0_isSymbol_14
    · refine lv_iconst (v := 1) hx hb dX0_isSymbol_9 (by decide) ?_
      refine lv_goto (tgt := 14) hx hb dX0_isSymbol_10 (by decide) ?_
      exact W.zret (v := 1) hx hb hr rfl (fun t ht hW => ⟨_, rfl, yn_1 ⟨q1, q2⟩, ht⟩) (fun _ h => by cases h) dX0_isSymbol_14

set_option maxHeartbeats 4000000 in
set_option maxRecDepth 100000 in
/-- isWeight(w) -/
theorem c_X0_isWeight (l : Launch) (w : UInt64) : Met l yX0_isWeight wsX0_isWeight ({ frames := 0, cells := 0, slots := 0, locals := 0 }) (va_Pc [.double (w)] (fun _ => True)) (vp_Si (fun r => yn (wOK w) r)) 0 0 (fun _ => False) := by
  refine Met.ofW (cc := cX0_isWeight) (maxL := 2) (ret := (some .boolean)) (by decide) rfl ?_
  intro p e s m args below meth c s₁ B hml hv
  obtain ⟨rfl, -⟩ := hv
  have hx := B.exec
  have hb := B.bytes
  have hr := B.returns
  have hts := atoms_spec (ws := wsX0_isWeight) B.pre
  have hown : s.vm.findClass RX0 = some m.cls := findClass_of_methodNamed B.named
  have hlocks := B.notSynchronized
  have hl := lv_entry ([.double (w)]) (n := 2) (Nat.le_of_ble_eq_true rfl)
  rw [lg_entry_eq]
  generalize (lg_sl ([.double (w)]) ++ List.replicate (2 - (lg_sl ([.double (w)])).length) Slot.unset).toArray = ls at hl ⊢
  have hl : lv_has ls 2 [(0, .double (w))] := hl
  refine lv_dload_n hx hb dX0_isWeight_0 rfl (lv_at hl 0 rfl) ?_
  refine lv_dconst0 hx hb dX0_isWeight_1 ?_
  refine lv_dcmp hx hb dX0_isWeight_2 ?_
  refine lv_if_lt (tgt := 16) hx hb dX0_isWeight_3 (by decide) (fun q1 => ?_) (fun q1 => ?_)
  · refine lv_iconst (v := 0) hx hb dX0_isWeight_16 (by decide) ?_
    exact W.zret (v := 0) hx hb hr rfl (fun t ht hW => ⟨_, rfl, yn_0 (fun q => q.1 q1), ht⟩) (fun _ h => by cases h) dX0_isWeight_17
  · refine lv_dload_n hx hb dX0_isWeight_6 rfl (lv_at hl 0 rfl) ?_
    refine lv_dconst1 hx hb dX0_isWeight_7 ?_
    refine lv_dcmp hx hb dX0_isWeight_8 ?_
    refine lv_if_gt (tgt := 16) hx hb dX0_isWeight_9 (by decide) (fun q2 => ?_) (fun q2 => ?_)
    · refine lv_iconst (v := 0) hx hb dX0_isWeight_16 (by decide) ?_
      exact W.zret (v := 0) hx hb hr rfl (fun t ht hW => ⟨_, rfl, yn_0 (fun q => q.2 q2), ht⟩) (fun _ h => by cases h) dX0_isWeight_17
    · refine lv_iconst (v := 1) hx hb dX0_isWeight_12 (by decide) ?_
      refine lv_goto (tgt := 17) hx hb dX0_isWeight_13 (by decide) ?_
      exact W.zret (v := 1) hx hb hr rfl (fun t ht hW => ⟨_, rfl, yn_1 ⟨q1, q2⟩, ht⟩) (fun _ h => by cases h) dX0_isWeight_17

set_option maxHeartbeats 4000000 in
set_option maxRecDepth 100000 in
/-- size() -/
theorem c_X0_size (l : Launch) (dC : Nat → ClassId) (dI : Nat → Nat → Nat) (kk : Nat → ClassId) (ad : Nat → Nat) (n len : Int32) (I : Nat → Nat → Int32) (F : Nat → Nat → UInt64) (J : Nat → Nat → Int64) : Met l yX0_size wsX0_size ({ frames := 0, cells := 0, slots := 0, locals := 0 }) (pR dC dI kk [.ref (ad 0)] (wX kk ad (n) (len) (I) (F) (J))) (vp_Si (fun r => r = n)) 0 0 (fun _ => False) := by
  refine Met.ofW (cc := cX0_size) (maxL := 1) (ret := (some .int)) (by decide) rfl ?_
  intro p e s m args below meth c s₁ B hml hv
  obtain ⟨rfl, hP, hK⟩ := hv
  have hx := B.exec
  have hb := B.bytes
  have hr := B.returns
  have hts := atoms_spec (ws := wsX0_size) B.pre
  have hown : s.vm.findClass RX0 = some m.cls := findClass_of_methodNamed B.named
  have hlocks := B.notSynchronized
  have kf7 := hts (.fieldLink RX0 7 "PathOdds" "stateCount" "I") (by decide +kernel)
  have hin : ∀ w ∈ u_ws RX0 TX0 11, w ∈ wsX0_size := by decide +kernel
  have hl := lv_entry ([.ref (ad 0)]) (n := 1) (Nat.le_of_ble_eq_true rfl)
  rw [lg_entry_eq]
  generalize (lg_sl ([.ref (ad 0)]) ++ List.replicate (1 - (lg_sl ([.ref (ad 0)])).length) Slot.unset).toArray = ls at hl ⊢
  have hl : lv_has ls 1 [(0, .ref (ad 0))] := hl
  have hkc : 0 + 0 ≤ 0 := Nat.le_refl 0
  have hks : 0 + 0 ≤ 0 := Nat.le_refl 0
  refine lv_aload_n hx hb dX0_size_0 rfl (lv_at hl 0 rfl) ?_
  refine x_get hx hb hts hin hown hK hP 0 (by decide) (v := .int (n)) rfl kf7 dX0_size_1 ?_
  exact W.iret (v := n) hx hb hr (fun t ht hW => ⟨_, rfl, rfl, ht⟩) (fun _ h => by cases h) dX0_size_4

set_option maxHeartbeats 4000000 in
set_option maxRecDepth 100000 in
/-- length() -/
theorem c_X0_length (l : Launch) (dC : Nat → ClassId) (dI : Nat → Nat → Nat) (kk : Nat → ClassId) (ad : Nat → Nat) (n len : Int32) (I : Nat → Nat → Int32) (F : Nat → Nat → UInt64) (J : Nat → Nat → Int64) : Met l yX0_length wsX0_length ({ frames := 0, cells := 0, slots := 0, locals := 0 }) (pR dC dI kk [.ref (ad 0)] (wX kk ad (n) (len) (I) (F) (J))) (vp_Si (fun r => r = len)) 0 0 (fun _ => False) := by
  refine Met.ofW (cc := cX0_length) (maxL := 1) (ret := (some .int)) (by decide) rfl ?_
  intro p e s m args below meth c s₁ B hml hv
  obtain ⟨rfl, hP, hK⟩ := hv
  have hx := B.exec
  have hb := B.bytes
  have hr := B.returns
  have hts := atoms_spec (ws := wsX0_length) B.pre
  have hown : s.vm.findClass RX0 = some m.cls := findClass_of_methodNamed B.named
  have hlocks := B.notSynchronized
  have kf13 := hts (.fieldLink RX0 13 "PathOdds" "rowLength" "I") (by decide +kernel)
  have hin : ∀ w ∈ u_ws RX0 TX0 11, w ∈ wsX0_length := by decide +kernel
  have hl := lv_entry ([.ref (ad 0)]) (n := 1) (Nat.le_of_ble_eq_true rfl)
  rw [lg_entry_eq]
  generalize (lg_sl ([.ref (ad 0)]) ++ List.replicate (1 - (lg_sl ([.ref (ad 0)])).length) Slot.unset).toArray = ls at hl ⊢
  have hl : lv_has ls 1 [(0, .ref (ad 0))] := hl
  have hkc : 0 + 0 ≤ 0 := Nat.le_refl 0
  have hks : 0 + 0 ≤ 0 := Nat.le_refl 0
  refine lv_aload_n hx hb dX0_length_0 rfl (lv_at hl 0 rfl) ?_
  refine x_get hx hb hts hin hown hK hP 1 (by decide) (v := .int (len)) rfl kf13 dX0_length_1 ?_
  exact W.iret (v := len) hx hb hr (fun t ht hW => ⟨_, rfl, rfl, ht⟩) (fun _ h => by cases h) dX0_length_4

set_option maxHeartbeats 4000000 in
set_option maxRecDepth 100000 in
/-- weightShown(t, j) -/
theorem c_X0_weightShown (l : Launch) (dC : Nat → ClassId) (dI : Nat → Nat → Nat) (kk : Nat → ClassId) (ad : Nat → Nat) (n len : Int32) (I : Nat → Nat → Int32) (F : Nat → Nat → UInt64) (J : Nat → Nat → Int64) (t j sy : Nat) (ht : t < 12) (hj : j < 6) (hsy : sy < 4) (hrow : I 1 t = nI sy) : Met l yX0_weightShown wsX0_weightShown ({ frames := 0, cells := 0, slots := 0, locals := 0 }) (pR dC dI kk [.ref (ad 0), .int (nI (t)), .int (nI (j))] (wX kk ad (n) (len) (I) (F) (J))) (vp_Sd (fun r => r = F (16 + j) sy)) 0 0 (fun _ => False) := by
  refine Met.ofW (cc := cX0_weightShown) (maxL := 3) (ret := (some .double)) (by decide) rfl ?_
  intro p e s m args below meth c s₁ B hml hv
  obtain ⟨rfl, hP, hK⟩ := hv
  have hx := B.exec
  have hb := B.bytes
  have hr := B.returns
  have hts := atoms_spec (ws := wsX0_weightShown) B.pre
  have hown : s.vm.findClass RX0 = some m.cls := findClass_of_methodNamed B.named
  have hlocks := B.notSynchronized
  have kf29 := hts (.fieldLink RX0 29 "PathOdds" "showWeights" "[[D") (by decide +kernel)
  have kf16 := hts (.fieldLink RX0 16 "PathOdds" "row" "[I") (by decide +kernel)
  have hin : ∀ w ∈ u_ws RX0 TX0 11, w ∈ wsX0_weightShown := by decide +kernel
  have hl := lv_entry ([.ref (ad 0), .int (nI (t)), .int (nI (j))]) (n := 3) (Nat.le_of_ble_eq_true rfl)
  rw [lg_entry_eq]
  generalize (lg_sl ([.ref (ad 0), .int (nI (t)), .int (nI (j))]) ++ List.replicate (3 - (lg_sl ([.ref (ad 0), .int (nI (t)), .int (nI (j))])).length) Slot.unset).toArray = ls at hl ⊢
  have hl : lv_has ls 3 [(0, .ref (ad 0)), (1, .int (nI (t))), (2, .int (nI (j)))] := hl
  have hkc : 0 + 0 ≤ 0 := Nat.le_refl 0
  have hks : 0 + 0 ≤ 0 := Nat.le_refl 0
  refine lv_aload_n hx hb dX0_weightShown_0 rfl (lv_at hl 0 rfl) ?_
  refine x_get hx hb hts hin hown hK hP 5 (by decide) (v := .ref (ad 4)) rfl kf29 dX0_weightShown_1 ?_
  refine lv_iload_n hx hb dX0_weightShown_4 rfl (lv_at hl 2 rfl) ?_
  refine x_al (o := 4) (b := 16) (N := 6) (i := j) 3 hx hb hK hP (by decide) rfl rfl (by omega) (by decide) dX0_weightShown_5 ?_
  refine lv_aload_n hx hb dX0_weightShown_6 rfl (lv_at hl 0 rfl) ?_
  refine x_get hx hb hts hin hown hK hP 2 (by decide) (v := .ref (ad 1)) rfl kf16 dX0_weightShown_7 ?_
  refine lv_iload_n hx hb dX0_weightShown_10 rfl (lv_at hl 1 rfl) ?_
  refine x_il (k := 1) (i := t) 12 hx hb hK hP (by omega) (xC_r rfl) (by omega) (by decide) dX0_weightShown_11 ?_
  refine q_top (y := nI (sy)) (hrow) ?_
  refine x_dl (k := (16 + (j))) (i := sy) 4 hx hb hK hP (by omega) (xC_dE (by omega) (by omega)) (by omega) (by decide) dX0_weightShown_12 ?_
  exact W.dret (v := F ((16 + (j))) (sy)) hx hb hr (fun t ht hW => ⟨_, rfl, rfl, ht⟩) (fun _ h => by cases h) dX0_weightShown_13

set_option maxHeartbeats 4000000 in
set_option maxRecDepth 100000 in
/-- sumInto(t + 1, j) -/
theorem c_X0_sumInto (l : Launch) (dC : Nat → ClassId) (dI : Nat → Nat → Nat) (kk : Nat → ClassId) (ad : Nat → Nat) (nn ll : Nat) (I : Nat → Nat → Int32) (F : Nat → Nat → UInt64) (J : Nat → Nat → Int64) (t j b : Nat) (ht : t + 1 < 12) (hj : j < 6) (h1 : 1 ≤ nn) (h6 : nn ≤ 6) (hb9 : b + 20 ≤ 1023) (hF : ∀ i, i < nn → dB b (F (22 + t) i)) (hM : ∀ i, i < nn → dB 0 (F (10 + i) j)) : Met l yX0_sumInto wsX0_sumInto ({ frames := 0, cells := 0, slots := 0, locals := 0 }) (pR dC dI kk [.ref (ad 0), .int (nI (t + 1)), .int (nI (j))] (wX kk ad (nI nn) (nI ll) (I) (F) (J))) (vp_Sd (fun r => r = sumTo (fun i => FP.dmul (F (22 + t) i) (F (10 + i) j)) nn)) 0 0 (fun _ => False) := by
  refine Met.ofW (cc := cX0_sumInto) (maxL := 6) (ret := (some .double)) (by decide) rfl ?_
  intro p e s m args below meth c s₁ B hml hv
  obtain ⟨rfl, hP, hK⟩ := hv
  have hx := B.exec
  have hb := B.bytes
  have hr := B.returns
  have hts := atoms_spec (ws := wsX0_sumInto) B.pre
  have hown : s.vm.findClass RX0 = some m.cls := findClass_of_methodNamed B.named
  have hlocks := B.notSynchronized
  have kf7 := hts (.fieldLink RX0 7 "PathOdds" "stateCount" "I") (by decide +kernel)
  have kf32 := hts (.fieldLink RX0 32 "PathOdds" "forwardTable" "[[D") (by decide +kernel)
  have kf26 := hts (.fieldLink RX0 26 "PathOdds" "moveWeights" "[[D") (by decide +kernel)
  have hin : ∀ w ∈ u_ws RX0 TX0 11, w ∈ wsX0_sumInto := by decide +kernel
  have hl := lv_entry ([.ref (ad 0), .int (nI (t + 1)), .int (nI (j))]) (n := 6) (Nat.le_of_ble_eq_true rfl)
  rw [lg_entry_eq]
  generalize (lg_sl ([.ref (ad 0), .int (nI (t + 1)), .int (nI (j))]) ++ List.replicate (6 - (lg_sl ([.ref (ad 0), .int (nI (t + 1)), .int (nI (j))])).length) Slot.unset).toArray = ls at hl ⊢
  have hl : lv_has ls 6 [(0, .ref (ad 0)), (1, .int (nI (t + 1))), (2, .int (nI (j)))] := hl
  have hkc : 0 + 0 ≤ 0 := Nat.le_refl 0
  have hks : 0 + 0 ≤ 0 := Nat.le_refl 0
  refine lv_dconst0 hx hb dX0_sumInto_0 ?_
  refine lv_dstore_n (lv' := [(3, .double (FP.dconst0)), (0, .ref (ad 0)), (1, .int (nI (t + 1))), (2, .int (nI (j)))]) hx hb dX0_sumInto_1 rfl hl (by decide) rfl (fun ls hl => ?_)
  refine lv_iconst (v := nI (0)) hx hb dX0_sumInto_2 (by decide) ?_
  refine lv_istore (lv' := [(5, .int (nI (0))), (3, .double (FP.dconst0)), (0, .ref (ad 0)), (1, .int (nI (t + 1))), (2, .int (nI (j)))]) hx hb dX0_sumInto_3 hl (by decide) rfl (fun ls hl => ?_)
  refine q_loop (head := 5) nn (fun k H locs ls => H = s.heap ∧ locs = [] ∧ lv_has ls 6 [(5, .int (nI (k))), (3, .double (sumTo (fun i => FP.dmul (F (22 + t) i) (F (10 + i) j)) k)), (0, .ref (ad 0)), (1, .int (nI (t + 1))), (2, .int (nI (j)))]) ?_ ?_ 0 (Nat.zero_le _) ⟨rfl, rfl, lv_sub hl [0, 1, 2, 3, 4] rfl⟩
  · rintro k H locs ls hk ⟨rfl, rfl, hl⟩ ih
    have b1 := sumTo_dB (f := (fun i => FP.dmul (F (22 + t) i) (F (10 + i) j))) k (fun i hi => dB_mul (hF i (by omega)) (hM i (by omega)) (by omega)) (by omega)
    have b2 := dB_mul (hF k hk) (hM k hk) (by omega)
    have b3 := dB_add b1 (dB_mono b2 (by omega)) (by omega)
    refine lv_iload hx hb dX0_sumInto_5 (lv_at hl 0 rfl) ?_
    refine lv_aload_n hx hb dX0_sumInto_7 rfl (lv_at hl 2 rfl) ?_
    refine x_get hx hb hts hin hown hK hP 0 (by decide) (v := .int (nI nn)) rfl kf7 dX0_sumInto_8 ?_
    refine q_gen (tgt := 44) hx hb (by omega) (by omega) (by omega) dX0_sumInto_11 (by decide) ?_
    refine lv_dload_n hx hb dX0_sumInto_14 rfl (lv_at hl 1 rfl) ?_
    refine lv_aload_n hx hb dX0_sumInto_15 rfl (lv_at hl 2 rfl) ?_
    refine x_get hx hb hts hin hown hK hP 6 (by decide) (v := .ref (ad 5)) rfl kf32 dX0_sumInto_16 ?_
    refine lv_iload_n hx hb dX0_sumInto_19 rfl (lv_at hl 3 rfl) ?_
    refine lv_iconst (v := nI (1)) hx hb dX0_sumInto_20 (by decide) ?_
    refine lv_isub hx hb dX0_sumInto_21 ?_
    refine q_top (y := nI (t)) (q_sub (by omega)) ?_
    refine x_al (o := 5) (b := 22) (N := 12) (i := t) 3 hx hb hK hP (by decide) rfl rfl (by omega) (by decide) dX0_sumInto_22 ?_
    refine lv_iload hx hb dX0_sumInto_23 (lv_at hl 0 rfl) ?_
    refine x_dl (k := (22 + (t))) (i := k) 6 hx hb hK hP (by omega) (xC_dT (by omega) (by omega)) (by omega) (by decide) dX0_sumInto_25 ?_
    refine lv_aload_n hx hb dX0_sumInto_26 rfl (lv_at hl 2 rfl) ?_
    refine x_get hx hb hts hin hown hK hP 4 (by decide) (v := .ref (ad 3)) rfl kf26 dX0_sumInto_27 ?_
    refine lv_iload hx hb dX0_sumInto_30 (lv_at hl 0 rfl) ?_
    refine x_al (o := 3) (b := 10) (N := 6) (i := k) 3 hx hb hK hP (by decide) rfl rfl (by omega) (by decide) dX0_sumInto_32 ?_
    refine lv_iload_n hx hb dX0_sumInto_33 rfl (lv_at hl 4 rfl) ?_
    refine x_dl (k := (10 + (k))) (i := j) 6 hx hb hK hP (by omega) (xC_dA (by omega) (by omega)) (by omega) (by decide) dX0_sumInto_34 ?_
    refine lv_dmul hx hb dX0_sumInto_35 (dB_n b2) ?_
    refine lv_dadd hx hb dX0_sumInto_36 (dB_n b3) ?_
    refine lv_dstore_n (lv' := [(3, .double (FP.dadd (sumTo (fun i => FP.dmul (F (22 + t) i) (F (10 + i) j)) k) (FP.dmul (F ((22 + (t))) (k)) (F ((10 + (k))) (j))))), (5, .int (nI (k))), (0, .ref (ad 0)), (1, .int (nI (t + 1))), (2, .int (nI (j)))]) hx hb dX0_sumInto_37 rfl hl (by decide) rfl (fun ls hl => ?_)
    refine lv_iinc (v := nI ((k) + 1)) (lv' := [(5, .int (nI ((k) + 1))), (3, .double (FP.dadd (sumTo (fun i => FP.dmul (F (22 + t) i) (F (10 + i) j)) k) (FP.dmul (F ((22 + (t))) (k)) (F ((10 + (k))) (j))))), (0, .ref (ad 0)), (1, .int (nI (t + 1))), (2, .int (nI (j)))]) hx hb dX0_sumInto_38 hl (k := 1) rfl (q_inc _) (by decide) rfl (fun ls hl => ?_)
    refine lv_goto (tgt := 5) hx hb dX0_sumInto_41 (by decide) ?_
    exact ih _ _ _ ⟨rfl, rfl, lv_sub hl [0, 1, 2, 3, 4] rfl⟩
  · rintro H locs ls ⟨rfl, rfl, hl⟩
    refine lv_iload hx hb dX0_sumInto_5 (lv_at hl 0 rfl) ?_
    refine lv_aload_n hx hb dX0_sumInto_7 rfl (lv_at hl 2 rfl) ?_
    refine x_get hx hb hts hin hown hK hP 0 (by decide) (v := .int (nI nn)) rfl kf7 dX0_sumInto_8 ?_
    refine q_gey (tgt := 44) hx hb (by omega) (by omega) (by omega) dX0_sumInto_11 (by decide) ?_
    refine lv_dload_n hx hb dX0_sumInto_44 rfl (lv_at hl 1 rfl) ?_
    exact W.dret (v := sumTo (fun i => FP.dmul (F (22 + t) i) (F (10 + i) j)) nn) hx hb hr (fun t ht hW => ⟨_, rfl, rfl, ht⟩) (fun _ h => by cases h) dX0_sumInto_45

set_option maxHeartbeats 4000000 in
set_option maxRecDepth 100000 in
/-- sumAtLast(), the row t + 1 long -/
theorem c_X0_sumAtLast (l : Launch) (dC : Nat → ClassId) (dI : Nat → Nat → Nat) (kk : Nat → ClassId) (ad : Nat → Nat) (nn t : Nat) (I : Nat → Nat → Int32) (F : Nat → Nat → UInt64) (J : Nat → Nat → Int64) (b : Nat) (ht : t < 12) (h1 : 1 ≤ nn) (h6 : nn ≤ 6) (hb9 : b + 20 ≤ 1023) (hF : ∀ i, i < nn → dB b (F (22 + t) i)) : Met l yX0_sumAtLast wsX0_sumAtLast ({ frames := 0, cells := 0, slots := 0, locals := 0 }) (pR dC dI kk [.ref (ad 0)] (wX kk ad (nI nn) (nI (t + 1)) (I) (F) (J))) (vp_Sd (fun r => r = sumTo (fun i => F (22 + t) i) nn)) 0 0 (fun _ => False) := by
  refine Met.ofW (cc := cX0_sumAtLast) (maxL := 4) (ret := (some .double)) (by decide) rfl ?_
  intro p e s m args below meth c s₁ B hml hv
  obtain ⟨rfl, hP, hK⟩ := hv
  have hx := B.exec
  have hb := B.bytes
  have hr := B.returns
  have hts := atoms_spec (ws := wsX0_sumAtLast) B.pre
  have hown : s.vm.findClass RX0 = some m.cls := findClass_of_methodNamed B.named
  have hlocks := B.notSynchronized
  have kf7 := hts (.fieldLink RX0 7 "PathOdds" "stateCount" "I") (by decide +kernel)
  have kf32 := hts (.fieldLink RX0 32 "PathOdds" "forwardTable" "[[D") (by decide +kernel)
  have kf13 := hts (.fieldLink RX0 13 "PathOdds" "rowLength" "I") (by decide +kernel)
  have hin : ∀ w ∈ u_ws RX0 TX0 11, w ∈ wsX0_sumAtLast := by decide +kernel
  have hl := lv_entry ([.ref (ad 0)]) (n := 4) (Nat.le_of_ble_eq_true rfl)
  rw [lg_entry_eq]
  generalize (lg_sl ([.ref (ad 0)]) ++ List.replicate (4 - (lg_sl ([.ref (ad 0)])).length) Slot.unset).toArray = ls at hl ⊢
  have hl : lv_has ls 4 [(0, .ref (ad 0))] := hl
  have hkc : 0 + 0 ≤ 0 := Nat.le_refl 0
  have hks : 0 + 0 ≤ 0 := Nat.le_refl 0
  refine lv_dconst0 hx hb dX0_sumAtLast_0 ?_
  refine lv_dstore_n (lv' := [(1, .double (FP.dconst0)), (0, .ref (ad 0))]) hx hb dX0_sumAtLast_1 rfl hl (by decide) rfl (fun ls hl => ?_)
  refine lv_iconst (v := nI (0)) hx hb dX0_sumAtLast_2 (by decide) ?_
  refine lv_istore_n (lv' := [(3, .int (nI (0))), (1, .double (FP.dconst0)), (0, .ref (ad 0))]) hx hb dX0_sumAtLast_3 rfl hl (by decide) rfl (fun ls hl => ?_)
  refine q_loop (head := 4) nn (fun k H locs ls => H = s.heap ∧ locs = [] ∧ lv_has ls 4 [(3, .int (nI (k))), (1, .double (sumTo (fun i => F (22 + t) i) k)), (0, .ref (ad 0))]) ?_ ?_ 0 (Nat.zero_le _) ⟨rfl, rfl, lv_sub hl [0, 1, 2] rfl⟩
  · rintro k H locs ls hk ⟨rfl, rfl, hl⟩ ih
    have b1 := sumTo_dB (f := (fun i => F (22 + t) i)) k (fun i hi => hF i (by omega)) (by omega)
    have b3 := dB_add b1 (dB_mono (hF k hk) (by omega)) (by omega)
    refine lv_iload_n hx hb dX0_sumAtLast_4 rfl (lv_at hl 0 rfl) ?_
    refine lv_aload_n hx hb dX0_sumAtLast_5 rfl (lv_at hl 2 rfl) ?_
    refine x_get hx hb hts hin hown hK hP 0 (by decide) (v := .int (nI nn)) rfl kf7 dX0_sumAtLast_6 ?_
    refine q_gen (tgt := 34) hx hb (by omega) (by omega) (by omega) dX0_sumAtLast_9 (by decide) ?_
    refine lv_dload_n hx hb dX0_sumAtLast_12 rfl (lv_at hl 1 rfl) ?_
    refine lv_aload_n hx hb dX0_sumAtLast_13 rfl (lv_at hl 2 rfl) ?_
    refine x_get hx hb hts hin hown hK hP 6 (by decide) (v := .ref (ad 5)) rfl kf32 dX0_sumAtLast_14 ?_
    refine lv_aload_n hx hb dX0_sumAtLast_17 rfl (lv_at hl 2 rfl) ?_
    refine x_get hx hb hts hin hown hK hP 1 (by decide) (v := .int (nI (t + 1))) rfl kf13 dX0_sumAtLast_18 ?_
    refine lv_iconst (v := nI (1)) hx hb dX0_sumAtLast_21 (by decide) ?_
    refine lv_isub hx hb dX0_sumAtLast_22 ?_
    refine q_top (y := nI (t)) (q_sub (by omega)) ?_
    refine x_al (o := 5) (b := 22) (N := 12) (i := t) 3 hx hb hK hP (by decide) rfl rfl (by omega) (by decide) dX0_sumAtLast_23 ?_
    refine lv_iload_n hx hb dX0_sumAtLast_24 rfl (lv_at hl 0 rfl) ?_
    refine x_dl (k := (22 + (t))) (i := k) 6 hx hb hK hP (by omega) (xC_dT (by omega) (by omega)) (by omega) (by decide) dX0_sumAtLast_25 ?_
    refine lv_dadd hx hb dX0_sumAtLast_26 (dB_n b3) ?_
    refine lv_dstore_n (lv' := [(1, .double (FP.dadd (sumTo (fun i => F (22 + t) i) k) (F ((22 + (t))) (k)))), (3, .int (nI (k))), (0, .ref (ad 0))]) hx hb dX0_sumAtLast_27 rfl hl (by decide) rfl (fun ls hl => ?_)
    refine lv_iinc (v := nI ((k) + 1)) (lv' := [(3, .int (nI ((k) + 1))), (1, .double (FP.dadd (sumTo (fun i => F (22 + t) i) k) (F ((22 + (t))) (k)))), (0, .ref (ad 0))]) hx hb dX0_sumAtLast_28 hl (k := 1) rfl (q_inc _) (by decide) rfl (fun ls hl => ?_)
    refine lv_goto (tgt := 4) hx hb dX0_sumAtLast_31 (by decide) ?_
    exact ih _ _ _ ⟨rfl, rfl, lv_sub hl [0, 1, 2] rfl⟩
  · rintro H locs ls ⟨rfl, rfl, hl⟩
    refine lv_iload_n hx hb dX0_sumAtLast_4 rfl (lv_at hl 0 rfl) ?_
    refine lv_aload_n hx hb dX0_sumAtLast_5 rfl (lv_at hl 2 rfl) ?_
    refine x_get hx hb hts hin hown hK hP 0 (by decide) (v := .int (nI nn)) rfl kf7 dX0_sumAtLast_6 ?_
    refine q_gey (tgt := 34) hx hb (by omega) (by omega) (by omega) dX0_sumAtLast_9 (by decide) ?_
    refine lv_dload_n hx hb dX0_sumAtLast_34 rfl (lv_at hl 1 rfl) ?_
    exact W.dret (v := sumTo (fun i => F (22 + t) i) nn) hx hb hr (fun t ht hW => ⟨_, rfl, rfl, ht⟩) (fun _ h => by cases h) dX0_sumAtLast_35

set_option maxHeartbeats 4000000 in
set_option maxRecDepth 100000 in
/-- sumOutOf(t, j) -/
theorem c_X0_sumOutOf (l : Launch) (dC : Nat → ClassId) (dI : Nat → Nat → Nat) (kk : Nat → ClassId) (ad : Nat → Nat) (nn ll : Nat) (I : Nat → Nat → Int32) (F : Nat → Nat → UInt64) (J : Nat → Nat → Int64) (t j sy b : Nat) (ht : t + 1 < 12) (hj : j < 6) (h1 : 1 ≤ nn) (h6 : nn ≤ 6) (hb9 : b + 24 ≤ 1023) (hsy : sy < 4) (hrow : I 1 (t + 1) = nI sy) (hM : ∀ q, q < nn → dB 0 (F (10 + j) q)) (hE : ∀ q, q < nn → dB 0 (F (16 + q) sy)) (hB : ∀ q, q < nn → dB b (F (34 + (t + 1)) q)) : Met l yX0_sumOutOf wsX0_sumOutOf ({ frames := 1, cells := 0, slots := 0, locals := 30 }) (pR dC dI kk [.ref (ad 0), .int (nI (t)), .int (nI (j))] (wX kk ad (nI nn) (nI ll) (I) (F) (J))) (vp_Sd (fun r => r = sumTo (fun q => FP.dmul (FP.dmul (F (10 + j) q) (F (16 + q) sy)) (F (34 + (t + 1)) q)) nn)) 0 0 (fun _ => False) := by
  refine Met.ofW (cc := cX0_sumOutOf) (maxL := 6) (ret := (some .double)) (by decide) rfl ?_
  intro p e s m args below meth c s₁ B hml hv
  obtain ⟨rfl, hP, hK⟩ := hv
  have hx := B.exec
  have hb := B.bytes
  have hr := B.returns
  have hts := atoms_spec (ws := wsX0_sumOutOf) B.pre
  have hown : s.vm.findClass RX0 = some m.cls := findClass_of_methodNamed B.named
  have hlocks := B.notSynchronized
  have kf7 := hts (.fieldLink RX0 7 "PathOdds" "stateCount" "I") (by decide +kernel)
  have kf26 := hts (.fieldLink RX0 26 "PathOdds" "moveWeights" "[[D") (by decide +kernel)
  have kf35 := hts (.fieldLink RX0 35 "PathOdds" "backwardTable" "[[D") (by decide +kernel)
  have hin : ∀ w ∈ u_ws RX0 TX0 11, w ∈ wsX0_sumOutOf := by decide +kernel
  have hl := lv_entry ([.ref (ad 0), .int (nI (t)), .int (nI (j))]) (n := 6) (Nat.le_of_ble_eq_true rfl)
  rw [lg_entry_eq]
  generalize (lg_sl ([.ref (ad 0), .int (nI (t)), .int (nI (j))]) ++ List.replicate (6 - (lg_sl ([.ref (ad 0), .int (nI (t)), .int (nI (j))])).length) Slot.unset).toArray = ls at hl ⊢
  have hl : lv_has ls 6 [(0, .ref (ad 0)), (1, .int (nI (t))), (2, .int (nI (j)))] := hl
  have hkc : 0 + 0 ≤ 0 := Nat.le_refl 0
  have hks : 0 + 0 ≤ 0 := Nat.le_refl 0
  refine lv_dconst0 hx hb dX0_sumOutOf_0 ?_
  refine lv_dstore_n (lv' := [(3, .double (FP.dconst0)), (0, .ref (ad 0)), (1, .int (nI (t))), (2, .int (nI (j)))]) hx hb dX0_sumOutOf_1 rfl hl (by decide) rfl (fun ls hl => ?_)
  refine lv_iconst (v := nI (0)) hx hb dX0_sumOutOf_2 (by decide) ?_
  refine lv_istore (lv' := [(5, .int (nI (0))), (3, .double (FP.dconst0)), (0, .ref (ad 0)), (1, .int (nI (t))), (2, .int (nI (j)))]) hx hb dX0_sumOutOf_3 hl (by decide) rfl (fun ls hl => ?_)
  refine q_loop (head := 5) (nn) (fun k H9 locs9 ls => H9 = s.heap ∧ locs9 = [] ∧ lv_has ls 6 [(5, .int (nI (k))), (3, .double (sumTo (fun q => FP.dmul (FP.dmul (F (10 + j) q) (F (16 + q) sy)) (F (34 + (t + 1)) q)) k)), (0, .ref (ad 0)), (1, .int (nI (t))), (2, .int (nI (j)))]) ?_ ?_ (0) (by omega) ⟨rfl, rfl, lv_sub hl [0, 1, 2, 3, 4] rfl⟩
  · rintro k H9 locs9 ls hk ⟨e91, e92, hl⟩ ih
    subst e91 e92
    have b0 := fun (q : Nat) (hq : q < nn) => dB_mul (dB_mul (hM q hq) (hE q hq) (by decide)) (hB q hq) (by omega)
    have b1 := sumTo_dB (f := (fun q => FP.dmul (FP.dmul (F (10 + j) q) (F (16 + q) sy)) (F (34 + (t + 1)) q))) k (fun i hi => b0 i (by omega)) (by omega)
    have b3 := dB_add b1 (dB_mono (b0 k hk) (by omega)) (by omega)
    refine lv_iload hx hb dX0_sumOutOf_5 (lv_at hl 0 rfl) ?_
    refine lv_aload_n hx hb dX0_sumOutOf_7 rfl (lv_at hl 2 rfl) ?_
    refine x_get hx hb hts hin hown hK hP 0 (by decide) (v := .int (nI nn)) rfl kf7 dX0_sumOutOf_8 ?_
    refine q_gen (tgt := 54) hx hb (by omega) (by omega) (by omega) dX0_sumOutOf_11 (by decide) ?_
    refine lv_dload_n hx hb dX0_sumOutOf_14 rfl (lv_at hl 1 rfl) ?_
    refine lv_aload_n hx hb dX0_sumOutOf_15 rfl (lv_at hl 2 rfl) ?_
    refine x_get hx hb hts hin hown hK hP 4 (by decide) (v := .ref (ad 3)) rfl kf26 dX0_sumOutOf_16 ?_
    refine lv_iload_n hx hb dX0_sumOutOf_19 rfl (lv_at hl 4 rfl) ?_
    refine x_al (o := 3) (b := 10) (N := 6) (i := j) 3 hx hb hK hP (by decide) rfl rfl (by omega) (by decide) dX0_sumOutOf_20 ?_
    refine lv_iload hx hb dX0_sumOutOf_21 (lv_at hl 0 rfl) ?_
    refine x_dl (k := (10 + (j))) (i := k) 6 hx hb hK hP (by omega) (xC_dA (by omega) (by omega)) (by omega) (by decide) dX0_sumOutOf_23 ?_
    refine lv_aload_n hx hb dX0_sumOutOf_24 rfl (lv_at hl 2 rfl) ?_
    refine lv_iload_n hx hb dX0_sumOutOf_25 rfl (lv_at hl 3 rfl) ?_
    refine lv_iconst (v := nI (1)) hx hb dX0_sumOutOf_26 (by decide) ?_
    refine lv_iadd hx hb dX0_sumOutOf_27 ?_
    refine q_top (y := nI (t + 1)) (q_add (by omega)) ?_
    refine lv_iload hx hb dX0_sumOutOf_28 (lv_at hl 0 rfl) ?_
    refine vp_callSd (W.runV (As := [.int (nI (t + 1)), .int (nI (k))]) (rest := [.double (F ((10 + (j))) (k)), .double (sumTo (fun q => FP.dmul (FP.dmul (F (10 + j) q) (F (16 + q) sy)) (F (34 + (t + 1)) q)) k)]) ⟨hx, hb, hml, hown, hts⟩ (c_X0_weightShown l dC dI kk ad _ _ I F J (t + 1) k sy (by omega) (by omega) hsy hrow) (cwV 2 hts gX0_sumOutOf_X0_weightShown rfl rfl rfl (by decide +kernel) ⟨Nat.le_of_ble_eq_true rfl, Nat.le_of_ble_eq_true rfl⟩) ⟨pR_blind, va_recv hK hP (ci := 0) (q0 := 0) rfl wX_0, pR_pre hK hP⟩ rfl rfl hl.1 rfl (lv_room (Nat.le_of_ble_eq_true rfl)) dX0_sumOutOf_30 ⟨hkc, hks⟩) (fun r1 e1 => ?_)
    subst e1
    refine lv_dmul hx hb dX0_sumOutOf_33 (dB_n (dB_mul (hM k hk) (hE k hk) (by decide))) ?_
    refine lv_aload_n hx hb dX0_sumOutOf_34 rfl (lv_at hl 2 rfl) ?_
    refine x_get hx hb hts hin hown hK hP 7 (by decide) (v := .ref (ad 6)) rfl kf35 dX0_sumOutOf_35 ?_
    refine lv_iload_n hx hb dX0_sumOutOf_38 rfl (lv_at hl 3 rfl) ?_
    refine lv_iconst (v := nI (1)) hx hb dX0_sumOutOf_39 (by decide) ?_
    refine lv_iadd hx hb dX0_sumOutOf_40 ?_
    refine q_top (y := nI (t + 1)) (q_add (by omega)) ?_
    refine x_al (o := 6) (b := 34) (N := 12) (i := t + 1) 3 hx hb hK hP (by decide) rfl rfl (by omega) (by decide) dX0_sumOutOf_41 ?_
    refine lv_iload hx hb dX0_sumOutOf_42 (lv_at hl 0 rfl) ?_
    refine x_dl (k := (34 + (t + 1))) (i := k) 6 hx hb hK hP (by omega) (xC_dT (by omega) (by omega)) (by omega) (by decide) dX0_sumOutOf_44 ?_
    refine lv_dmul hx hb dX0_sumOutOf_45 (dB_n (b0 k hk)) ?_
    refine lv_dadd hx hb dX0_sumOutOf_46 (dB_n b3) ?_
    refine lv_dstore_n (lv' := [(3, .double (FP.dadd (sumTo (fun q => FP.dmul (FP.dmul (F (10 + j) q) (F (16 + q) sy)) (F (34 + (t + 1)) q)) k) (FP.dmul (FP.dmul (F ((10 + (j))) (k)) (F (16 + k) sy)) (F ((34 + (t + 1))) (k))))), (5, .int (nI (k))), (0, .ref (ad 0)), (1, .int (nI (t))), (2, .int (nI (j)))]) hx hb dX0_sumOutOf_47 rfl hl (by decide) rfl (fun ls hl => ?_)
    refine lv_iinc (v := nI ((k) + 1)) (lv' := [(5, .int (nI ((k) + 1))), (3, .double (FP.dadd (sumTo (fun q => FP.dmul (FP.dmul (F (10 + j) q) (F (16 + q) sy)) (F (34 + (t + 1)) q)) k) (FP.dmul (FP.dmul (F ((10 + (j))) (k)) (F (16 + k) sy)) (F ((34 + (t + 1))) (k))))), (0, .ref (ad 0)), (1, .int (nI (t))), (2, .int (nI (j)))]) hx hb dX0_sumOutOf_48 hl (k := 1) rfl (q_inc _) (by decide) rfl (fun ls hl => ?_)
    refine lv_goto (tgt := 5) hx hb dX0_sumOutOf_51 (by decide) ?_
    exact ih _ _ _ ⟨rfl, rfl, lv_sub hl [0, 1, 2, 3, 4] rfl⟩
  · rintro H9 locs9 ls ⟨e91, e92, hl⟩
    subst e91 e92
    refine lv_iload hx hb dX0_sumOutOf_5 (lv_at hl 0 rfl) ?_
    refine lv_aload_n hx hb dX0_sumOutOf_7 rfl (lv_at hl 2 rfl) ?_
    refine x_get hx hb hts hin hown hK hP 0 (by decide) (v := .int (nI nn)) rfl kf7 dX0_sumOutOf_8 ?_
    refine q_gey (tgt := 54) hx hb (by omega) (by omega) (by omega) dX0_sumOutOf_11 (by decide) ?_
    refine lv_dload_n hx hb dX0_sumOutOf_54 rfl (lv_at hl 1 rfl) ?_
    exact W.dret (v := sumTo (fun q => FP.dmul (FP.dmul (F (10 + j) q) (F (16 + q) sy)) (F (34 + (t + 1)) q)) (nn)) hx hb hr (fun t ht hW => ⟨_, rfl, rfl, ht⟩) (fun _ h => by cases h) dX0_sumOutOf_55

set_option maxHeartbeats 4000000 in
set_option maxRecDepth 100000 in
/-- lowestBestInto(t + 1, j) -/
theorem c_X0_lowestBestInto (l : Launch) (dC : Nat → ClassId) (dI : Nat → Nat → Nat) (kk : Nat → ClassId) (ad : Nat → Nat) (nn ll : Nat) (I : Nat → Nat → Int32) (F : Nat → Nat → UInt64) (J : Nat → Nat → Int64) (t j b : Nat) (ht : t + 1 < 12) (hj : j < 6) (h1 : 1 ≤ nn) (h6 : nn ≤ 6) (hb9 : b + 20 ≤ 1023) (hF : ∀ i, i < nn → dB b (F (46 + t) i)) (hM : ∀ i, i < nn → dB 0 (F (10 + i) j)) : Met l yX0_lowestBestInto wsX0_lowestBestInto ({ frames := 0, cells := 0, slots := 0, locals := 0 }) (pR dC dI kk [.ref (ad 0), .int (nI (t + 1)), .int (nI (j))] (wX kk ad (nI nn) (nI ll) (I) (F) (J))) (vp_Si (fun r => r = nI (arg (fun i => FP.dmul (F (46 + t) i) (F (10 + i) j)) (nn - 1)))) 0 0 (fun _ => False) := by
  refine Met.ofW (cc := cX0_lowestBestInto) (maxL := 9) (ret := (some .int)) (by decide) rfl ?_
  intro p e s m args below meth c s₁ B hml hv
  obtain ⟨rfl, hP, hK⟩ := hv
  have hx := B.exec
  have hb := B.bytes
  have hr := B.returns
  have hts := atoms_spec (ws := wsX0_lowestBestInto) B.pre
  have hown : s.vm.findClass RX0 = some m.cls := findClass_of_methodNamed B.named
  have hlocks := B.notSynchronized
  have kf38 := hts (.fieldLink RX0 38 "PathOdds" "bestTable" "[[D") (by decide +kernel)
  have kf26 := hts (.fieldLink RX0 26 "PathOdds" "moveWeights" "[[D") (by decide +kernel)
  have kf7 := hts (.fieldLink RX0 7 "PathOdds" "stateCount" "I") (by decide +kernel)
  have hin : ∀ w ∈ u_ws RX0 TX0 11, w ∈ wsX0_lowestBestInto := by decide +kernel
  have hl := lv_entry ([.ref (ad 0), .int (nI (t + 1)), .int (nI (j))]) (n := 9) (Nat.le_of_ble_eq_true rfl)
  rw [lg_entry_eq]
  generalize (lg_sl ([.ref (ad 0), .int (nI (t + 1)), .int (nI (j))]) ++ List.replicate (9 - (lg_sl ([.ref (ad 0), .int (nI (t + 1)), .int (nI (j))])).length) Slot.unset).toArray = ls at hl ⊢
  have hl : lv_has ls 9 [(0, .ref (ad 0)), (1, .int (nI (t + 1))), (2, .int (nI (j)))] := hl
  have hkc : 0 + 0 ≤ 0 := Nat.le_refl 0
  have hks : 0 + 0 ≤ 0 := Nat.le_refl 0
  have b0 := fun (q : Nat) (hq : q < nn) => dB_n (dB_mul (hF q hq) (hM q hq) (by omega))
  refine lv_iconst (v := nI (0)) hx hb dX0_lowestBestInto_0 (by decide) ?_
  refine lv_istore_n (lv' := [(3, .int (nI (0))), (0, .ref (ad 0)), (1, .int (nI (t + 1))), (2, .int (nI (j)))]) hx hb dX0_lowestBestInto_1 rfl hl (by decide) rfl (fun ls hl => ?_)
  refine lv_aload_n hx hb dX0_lowestBestInto_2 rfl (lv_at hl 1 rfl) ?_
  refine x_get hx hb hts hin hown hK hP 8 (by decide) (v := .ref (ad 7)) rfl kf38 dX0_lowestBestInto_3 ?_
  refine lv_iload_n hx hb dX0_lowestBestInto_6 rfl (lv_at hl 2 rfl) ?_
  refine lv_iconst (v := nI (1)) hx hb dX0_lowestBestInto_7 (by decide) ?_
  refine lv_isub hx hb dX0_lowestBestInto_8 ?_
  refine q_top (y := nI (t)) (q_sub (by omega)) ?_
  refine x_al (o := 7) (b := 46) (N := 12) (i := t) 3 hx hb hK hP (by decide) rfl rfl (by omega) (by decide) dX0_lowestBestInto_9 ?_
  refine lv_iconst (v := nI (0)) hx hb dX0_lowestBestInto_10 (by decide) ?_
  refine x_dl (k := (46 + (t))) (i := 0) 6 hx hb hK hP (by omega) (xC_dT (by omega) (by omega)) (by omega) (by decide) dX0_lowestBestInto_11 ?_
  refine lv_aload_n hx hb dX0_lowestBestInto_12 rfl (lv_at hl 1 rfl) ?_
  refine x_get hx hb hts hin hown hK hP 4 (by decide) (v := .ref (ad 3)) rfl kf26 dX0_lowestBestInto_13 ?_
  refine lv_iconst (v := nI (0)) hx hb dX0_lowestBestInto_16 (by decide) ?_
  refine x_al (o := 3) (b := 10) (N := 6) (i := 0) 3 hx hb hK hP (by decide) rfl rfl (by omega) (by decide) dX0_lowestBestInto_17 ?_
  refine lv_iload_n hx hb dX0_lowestBestInto_18 rfl (lv_at hl 3 rfl) ?_
  refine x_dl (k := (10 + (0))) (i := j) 6 hx hb hK hP (by omega) (xC_dA (by omega) (by omega)) (by omega) (by decide) dX0_lowestBestInto_19 ?_
  refine lv_dmul hx hb dX0_lowestBestInto_20 (b0 0 (by omega)) ?_
  refine lv_dstore (lv' := [(4, .double (FP.dmul (F ((46 + (t))) (0)) (F ((10 + (0))) (j)))), (3, .int (nI (0))), (0, .ref (ad 0)), (1, .int (nI (t + 1))), (2, .int (nI (j)))]) hx hb dX0_lowestBestInto_21 hl (by decide) rfl (fun ls hl => ?_)
  refine lv_iconst (v := nI (1)) hx hb dX0_lowestBestInto_23 (by decide) ?_
  refine lv_istore (lv' := [(6, .int (nI (1))), (4, .double (FP.dmul (F ((46 + (t))) (0)) (F ((10 + (0))) (j)))), (3, .int (nI (0))), (0, .ref (ad 0)), (1, .int (nI (t + 1))), (2, .int (nI (j)))]) hx hb dX0_lowestBestInto_24 hl (by decide) rfl (fun ls hl => ?_)
  refine q_loop (head := 26) (nn - 1) (fun k H9 locs9 ls => H9 = s.heap ∧ locs9 = [] ∧ lv_has ls 9 [(6, .int (nI (k + 1))), (4, .double (FP.dmul (F (46 + t) (arg (fun i => FP.dmul (F (46 + t) i) (F (10 + i) j)) k)) (F (10 + arg (fun i => FP.dmul (F (46 + t) i) (F (10 + i) j)) k) j))), (3, .int (nI (arg (fun i => FP.dmul (F (46 + t) i) (F (10 + i) j)) k))), (0, .ref (ad 0)), (1, .int (nI (t + 1))), (2, .int (nI (j)))]) ?_ ?_ (0) (by omega) ⟨rfl, rfl, lv_sub hl [0, 1, 2, 3, 4, 5] rfl⟩
  · rintro k H9 locs9 ls hk ⟨e91, e92, hl⟩ ih
    subst e91 e92
    refine lv_iload hx hb dX0_lowestBestInto_26 (lv_at hl 0 rfl) ?_
    refine lv_aload_n hx hb dX0_lowestBestInto_28 rfl (lv_at hl 3 rfl) ?_
    refine x_get hx hb hts hin hown hK hP 0 (by decide) (v := .int (nI nn)) rfl kf7 dX0_lowestBestInto_29 ?_
    refine q_gen (tgt := 79) hx hb (by omega) (by omega) (by omega) dX0_lowestBestInto_32 (by decide) ?_
    refine lv_aload_n hx hb dX0_lowestBestInto_35 rfl (lv_at hl 3 rfl) ?_
    refine x_get hx hb hts hin hown hK hP 8 (by decide) (v := .ref (ad 7)) rfl kf38 dX0_lowestBestInto_36 ?_
    refine lv_iload_n hx hb dX0_lowestBestInto_39 rfl (lv_at hl 4 rfl) ?_
    refine lv_iconst (v := nI (1)) hx hb dX0_lowestBestInto_40 (by decide) ?_
    refine lv_isub hx hb dX0_lowestBestInto_41 ?_
    refine q_top (y := nI (t)) (q_sub (by omega)) ?_
    refine x_al (o := 7) (b := 46) (N := 12) (i := t) 3 hx hb hK hP (by decide) rfl rfl (by omega) (by decide) dX0_lowestBestInto_42 ?_
    refine lv_iload hx hb dX0_lowestBestInto_43 (lv_at hl 0 rfl) ?_
    refine x_dl (k := (46 + (t))) (i := k + 1) 6 hx hb hK hP (by omega) (xC_dT (by omega) (by omega)) (by omega) (by decide) dX0_lowestBestInto_45 ?_
    refine lv_aload_n hx hb dX0_lowestBestInto_46 rfl (lv_at hl 3 rfl) ?_
    refine x_get hx hb hts hin hown hK hP 4 (by decide) (v := .ref (ad 3)) rfl kf26 dX0_lowestBestInto_47 ?_
    refine lv_iload hx hb dX0_lowestBestInto_50 (lv_at hl 0 rfl) ?_
    refine x_al (o := 3) (b := 10) (N := 6) (i := k + 1) 3 hx hb hK hP (by decide) rfl rfl (by omega) (by decide) dX0_lowestBestInto_52 ?_
    refine lv_iload_n hx hb dX0_lowestBestInto_53 rfl (lv_at hl 5 rfl) ?_
    refine x_dl (k := (10 + (k + 1))) (i := j) 6 hx hb hK hP (by omega) (xC_dA (by omega) (by omega)) (by omega) (by decide) dX0_lowestBestInto_54 ?_
    refine lv_dmul hx hb dX0_lowestBestInto_55 (b0 (k + 1) (by omega)) ?_
    refine lv_dstore (lv' := [(7, .double (FP.dmul (F ((46 + (t))) (k + 1)) (F ((10 + (k + 1))) (j)))), (6, .int (nI (k + 1))), (4, .double (FP.dmul (F (46 + t) (arg (fun i => FP.dmul (F (46 + t) i) (F (10 + i) j)) k)) (F (10 + arg (fun i => FP.dmul (F (46 + t) i) (F (10 + i) j)) k) j))), (3, .int (nI (arg (fun i => FP.dmul (F (46 + t) i) (F (10 + i) j)) k))), (0, .ref (ad 0)), (1, .int (nI (t + 1))), (2, .int (nI (j)))]) hx hb dX0_lowestBestInto_56 hl (by decide) rfl (fun ls hl => ?_)
    refine lv_dload hx hb dX0_lowestBestInto_58 (lv_at hl 0 rfl) ?_
    refine lv_dload hx hb dX0_lowestBestInto_60 (lv_at hl 2 rfl) ?_
    refine lv_dcmp hx hb dX0_lowestBestInto_62 ?_
    refine lv_if_le (tgt := 73) hx hb dX0_lowestBestInto_63 (by decide) (fun q9 => ?_) (fun q9 => ?_)
    · refine lv_iinc (v := nI ((k + 1) + 1)) (lv' := [(6, .int (nI ((k + 1) + 1))), (7, .double (FP.dmul (F ((46 + (t))) (k + 1)) (F ((10 + (k + 1))) (j)))), (4, .double (FP.dmul (F (46 + t) (arg (fun i => FP.dmul (F (46 + t) i) (F (10 + i) j)) k)) (F (10 + arg (fun i => FP.dmul (F (46 + t) i) (F (10 + i) j)) k) j))), (3, .int (nI (arg (fun i => FP.dmul (F (46 + t) i) (F (10 + i) j)) k))), (0, .ref (ad 0)), (1, .int (nI (t + 1))), (2, .int (nI (j)))]) hx hb dX0_lowestBestInto_73 hl (k := 1) rfl (q_inc _) (by decide) rfl (fun ls hl => ?_)
      refine lv_goto (tgt := 26) hx hb dX0_lowestBestInto_76 (by decide) ?_
      have ea : arg (fun i => FP.dmul (F (46 + t) i) (F (10 + i) j)) (k + 1) = arg (fun i => FP.dmul (F (46 + t) i) (F (10 + i) j)) k := arg_y (f := (fun i => FP.dmul (F (46 + t) i) (F (10 + i) j))) q9
      exact ih _ _ _ ⟨rfl, rfl, by rw [ea]; exact lv_sub hl [0, 2, 3, 4, 5, 6] rfl⟩
    · refine lv_iload hx hb dX0_lowestBestInto_66 (lv_at hl 1 rfl) ?_
      refine lv_istore_n (lv' := [(3, .int (nI (k + 1))), (7, .double (FP.dmul (F ((46 + (t))) (k + 1)) (F ((10 + (k + 1))) (j)))), (6, .int (nI (k + 1))), (4, .double (FP.dmul (F (46 + t) (arg (fun i => FP.dmul (F (46 + t) i) (F (10 + i) j)) k)) (F (10 + arg (fun i => FP.dmul (F (46 + t) i) (F (10 + i) j)) k) j))), (0, .ref (ad 0)), (1, .int (nI (t + 1))), (2, .int (nI (j)))]) hx hb dX0_lowestBestInto_68 rfl hl (by decide) rfl (fun ls hl => ?_)
      refine lv_dload hx hb dX0_lowestBestInto_69 (lv_at hl 1 rfl) ?_
      refine lv_dstore (lv' := [(4, .double (FP.dmul (F ((46 + (t))) (k + 1)) (F ((10 + (k + 1))) (j)))), (3, .int (nI (k + 1))), (7, .double (FP.dmul (F ((46 + (t))) (k + 1)) (F ((10 + (k + 1))) (j)))), (6, .int (nI (k + 1))), (0, .ref (ad 0)), (1, .int (nI (t + 1))), (2, .int (nI (j)))]) hx hb dX0_lowestBestInto_71 hl (by decide) rfl (fun ls hl => ?_)
      refine lv_iinc (v := nI ((k + 1) + 1)) (lv' := [(6, .int (nI ((k + 1) + 1))), (4, .double (FP.dmul (F ((46 + (t))) (k + 1)) (F ((10 + (k + 1))) (j)))), (3, .int (nI (k + 1))), (7, .double (FP.dmul (F ((46 + (t))) (k + 1)) (F ((10 + (k + 1))) (j)))), (0, .ref (ad 0)), (1, .int (nI (t + 1))), (2, .int (nI (j)))]) hx hb dX0_lowestBestInto_73 hl (k := 3) rfl (q_inc _) (by decide) rfl (fun ls hl => ?_)
      refine lv_goto (tgt := 26) hx hb dX0_lowestBestInto_76 (by decide) ?_
      have ea : arg (fun i => FP.dmul (F (46 + t) i) (F (10 + i) j)) (k + 1) = k + 1 := arg_n (f := (fun i => FP.dmul (F (46 + t) i) (F (10 + i) j))) q9
      exact ih _ _ _ ⟨rfl, rfl, by rw [ea]; exact lv_sub hl [0, 1, 2, 4, 5, 6] rfl⟩
  · rintro H9 locs9 ls ⟨e91, e92, hl⟩
    subst e91 e92
    refine lv_iload hx hb dX0_lowestBestInto_26 (lv_at hl 0 rfl) ?_
    refine lv_aload_n hx hb dX0_lowestBestInto_28 rfl (lv_at hl 3 rfl) ?_
    refine x_get hx hb hts hin hown hK hP 0 (by decide) (v := .int (nI nn)) rfl kf7 dX0_lowestBestInto_29 ?_
    refine q_gey (tgt := 79) hx hb (by omega) (by omega) (by omega) dX0_lowestBestInto_32 (by decide) ?_
    refine lv_iload_n hx hb dX0_lowestBestInto_79 rfl (lv_at hl 2 rfl) ?_
    exact W.iret (v := nI (arg (fun i => FP.dmul (F (46 + t) i) (F (10 + i) j)) (nn - 1))) hx hb hr (fun t ht hW => ⟨_, rfl, rfl, ht⟩) (fun _ h => by cases h) dX0_lowestBestInto_80

set_option maxHeartbeats 4000000 in
set_option maxRecDepth 100000 in
/-- lowestBestAtLast(), the row t + 1 long -/
theorem c_X0_lowestBestAtLast (l : Launch) (dC : Nat → ClassId) (dI : Nat → Nat → Nat) (kk : Nat → ClassId) (ad : Nat → Nat) (nn t : Nat) (I : Nat → Nat → Int32) (F : Nat → Nat → UInt64) (J : Nat → Nat → Int64) (ht : t < 12) (h1 : 1 ≤ nn) (h6 : nn ≤ 6) : Met l yX0_lowestBestAtLast wsX0_lowestBestAtLast ({ frames := 0, cells := 0, slots := 0, locals := 0 }) (pR dC dI kk [.ref (ad 0)] (wX kk ad (nI nn) (nI (t + 1)) (I) (F) (J))) (vp_Si (fun r => r = nI (arg (fun i => F (46 + t) i) (nn - 1)))) 0 0 (fun _ => False) := by
  refine Met.ofW (cc := cX0_lowestBestAtLast) (maxL := 3) (ret := (some .int)) (by decide) rfl ?_
  intro p e s m args below meth c s₁ B hml hv
  obtain ⟨rfl, hP, hK⟩ := hv
  have hx := B.exec
  have hb := B.bytes
  have hr := B.returns
  have hts := atoms_spec (ws := wsX0_lowestBestAtLast) B.pre
  have hown : s.vm.findClass RX0 = some m.cls := findClass_of_methodNamed B.named
  have hlocks := B.notSynchronized
  have kf7 := hts (.fieldLink RX0 7 "PathOdds" "stateCount" "I") (by decide +kernel)
  have kf38 := hts (.fieldLink RX0 38 "PathOdds" "bestTable" "[[D") (by decide +kernel)
  have kf13 := hts (.fieldLink RX0 13 "PathOdds" "rowLength" "I") (by decide +kernel)
  have hin : ∀ w ∈ u_ws RX0 TX0 11, w ∈ wsX0_lowestBestAtLast := by decide +kernel
  have hl := lv_entry ([.ref (ad 0)]) (n := 3) (Nat.le_of_ble_eq_true rfl)
  rw [lg_entry_eq]
  generalize (lg_sl ([.ref (ad 0)]) ++ List.replicate (3 - (lg_sl ([.ref (ad 0)])).length) Slot.unset).toArray = ls at hl ⊢
  have hl : lv_has ls 3 [(0, .ref (ad 0))] := hl
  have hkc : 0 + 0 ≤ 0 := Nat.le_refl 0
  have hks : 0 + 0 ≤ 0 := Nat.le_refl 0
  refine lv_iconst (v := nI (0)) hx hb dX0_lowestBestAtLast_0 (by decide) ?_
  refine lv_istore_n (lv' := [(1, .int (nI (0))), (0, .ref (ad 0))]) hx hb dX0_lowestBestAtLast_1 rfl hl (by decide) rfl (fun ls hl => ?_)
  refine lv_iconst (v := nI (1)) hx hb dX0_lowestBestAtLast_2 (by decide) ?_
  refine lv_istore_n (lv' := [(2, .int (nI (1))), (1, .int (nI (0))), (0, .ref (ad 0))]) hx hb dX0_lowestBestAtLast_3 rfl hl (by decide) rfl (fun ls hl => ?_)
  refine q_loop (head := 4) (nn - 1) (fun k H9 locs9 ls => H9 = s.heap ∧ locs9 = [] ∧ lv_has ls 3 [(2, .int (nI (k + 1))), (1, .int (nI (arg (fun i => F (46 + t) i) k))), (0, .ref (ad 0))]) ?_ ?_ (0) (by omega) ⟨rfl, rfl, lv_sub hl [0, 1, 2] rfl⟩
  · rintro k H9 locs9 ls hk ⟨e91, e92, hl⟩ ih
    subst e91 e92
    have hale := arg_le (fun i => F (46 + t) i) k
    refine lv_iload_n hx hb dX0_lowestBestAtLast_4 rfl (lv_at hl 0 rfl) ?_
    refine lv_aload_n hx hb dX0_lowestBestAtLast_5 rfl (lv_at hl 2 rfl) ?_
    refine x_get hx hb hts hin hown hK hP 0 (by decide) (v := .int (nI nn)) rfl kf7 dX0_lowestBestAtLast_6 ?_
    refine q_gen (tgt := 50) hx hb (by omega) (by omega) (by omega) dX0_lowestBestAtLast_9 (by decide) ?_
    refine lv_aload_n hx hb dX0_lowestBestAtLast_12 rfl (lv_at hl 2 rfl) ?_
    refine x_get hx hb hts hin hown hK hP 8 (by decide) (v := .ref (ad 7)) rfl kf38 dX0_lowestBestAtLast_13 ?_
    refine lv_aload_n hx hb dX0_lowestBestAtLast_16 rfl (lv_at hl 2 rfl) ?_
    refine x_get hx hb hts hin hown hK hP 1 (by decide) (v := .int (nI (t + 1))) rfl kf13 dX0_lowestBestAtLast_17 ?_
    refine lv_iconst (v := nI (1)) hx hb dX0_lowestBestAtLast_20 (by decide) ?_
    refine lv_isub hx hb dX0_lowestBestAtLast_21 ?_
    refine q_top (y := nI (t)) (q_sub (by omega)) ?_
    refine x_al (o := 7) (b := 46) (N := 12) (i := t) 3 hx hb hK hP (by decide) rfl rfl (by omega) (by decide) dX0_lowestBestAtLast_22 ?_
    refine lv_iload_n hx hb dX0_lowestBestAtLast_23 rfl (lv_at hl 0 rfl) ?_
    refine x_dl (k := (46 + (t))) (i := k + 1) 6 hx hb hK hP (by omega) (xC_dT (by omega) (by omega)) (by omega) (by decide) dX0_lowestBestAtLast_24 ?_
    refine lv_aload_n hx hb dX0_lowestBestAtLast_25 rfl (lv_at hl 2 rfl) ?_
    refine x_get hx hb hts hin hown hK hP 8 (by decide) (v := .ref (ad 7)) rfl kf38 dX0_lowestBestAtLast_26 ?_
    refine lv_aload_n hx hb dX0_lowestBestAtLast_29 rfl (lv_at hl 2 rfl) ?_
    refine x_get hx hb hts hin hown hK hP 1 (by decide) (v := .int (nI (t + 1))) rfl kf13 dX0_lowestBestAtLast_30 ?_
    refine lv_iconst (v := nI (1)) hx hb dX0_lowestBestAtLast_33 (by decide) ?_
    refine lv_isub hx hb dX0_lowestBestAtLast_34 ?_
    refine q_top (y := nI (t)) (q_sub (by omega)) ?_
    refine x_al (o := 7) (b := 46) (N := 12) (i := t) 3 hx hb hK hP (by decide) rfl rfl (by omega) (by decide) dX0_lowestBestAtLast_35 ?_
    refine lv_iload_n hx hb dX0_lowestBestAtLast_36 rfl (lv_at hl 1 rfl) ?_
    refine x_dl (k := (46 + (t))) (i := arg (fun i => F (46 + t) i) k) 6 hx hb hK hP (by omega) (xC_dT (by omega) (by omega)) (by omega) (by decide) dX0_lowestBestAtLast_37 ?_
    refine lv_dcmp hx hb dX0_lowestBestAtLast_38 ?_
    refine lv_if_le (tgt := 44) hx hb dX0_lowestBestAtLast_39 (by decide) (fun q9 => ?_) (fun q9 => ?_)
    · refine lv_iinc (v := nI ((k + 1) + 1)) (lv' := [(2, .int (nI ((k + 1) + 1))), (1, .int (nI (arg (fun i => F (46 + t) i) k))), (0, .ref (ad 0))]) hx hb dX0_lowestBestAtLast_44 hl (k := 0) rfl (q_inc _) (by decide) rfl (fun ls hl => ?_)
      refine lv_goto (tgt := 4) hx hb dX0_lowestBestAtLast_47 (by decide) ?_
      have ea : arg (fun i => F (46 + t) i) (k + 1) = arg (fun i => F (46 + t) i) k := arg_y (f := (fun i => F (46 + t) i)) q9
      exact ih _ _ _ ⟨rfl, rfl, by rw [ea]; exact lv_sub hl [0, 1, 2] rfl⟩
    · refine lv_iload_n hx hb dX0_lowestBestAtLast_42 rfl (lv_at hl 0 rfl) ?_
      refine lv_istore_n (lv' := [(1, .int (nI (k + 1))), (2, .int (nI (k + 1))), (0, .ref (ad 0))]) hx hb dX0_lowestBestAtLast_43 rfl hl (by decide) rfl (fun ls hl => ?_)
      refine lv_iinc (v := nI ((k + 1) + 1)) (lv' := [(2, .int (nI ((k + 1) + 1))), (1, .int (nI (k + 1))), (0, .ref (ad 0))]) hx hb dX0_lowestBestAtLast_44 hl (k := 1) rfl (q_inc _) (by decide) rfl (fun ls hl => ?_)
      refine lv_goto (tgt := 4) hx hb dX0_lowestBestAtLast_47 (by decide) ?_
      have ea : arg (fun i => F (46 + t) i) (k + 1) = k + 1 := arg_n (f := (fun i => F (46 + t) i)) q9
      exact ih _ _ _ ⟨rfl, rfl, by rw [ea]; exact lv_sub hl [0, 1, 2] rfl⟩
  · rintro H9 locs9 ls ⟨e91, e92, hl⟩
    subst e91 e92
    refine lv_iload_n hx hb dX0_lowestBestAtLast_4 rfl (lv_at hl 0 rfl) ?_
    refine lv_aload_n hx hb dX0_lowestBestAtLast_5 rfl (lv_at hl 2 rfl) ?_
    refine x_get hx hb hts hin hown hK hP 0 (by decide) (v := .int (nI nn)) rfl kf7 dX0_lowestBestAtLast_6 ?_
    refine q_gey (tgt := 50) hx hb (by omega) (by omega) (by omega) dX0_lowestBestAtLast_9 (by decide) ?_
    refine lv_iload_n hx hb dX0_lowestBestAtLast_50 rfl (lv_at hl 1 rfl) ?_
    exact W.iret (v := nI (arg (fun i => F (46 + t) i) (nn - 1))) hx hb hr (fun t ht hW => ⟨_, rfl, rfl, ht⟩) (fun _ h => by cases h) dX0_lowestBestAtLast_51

set_option maxHeartbeats 4000000 in
set_option maxRecDepth 100000 in
/-- countInto(0, j) -/
theorem c_X0_countInto0 (l : Launch) (dC : Nat → ClassId) (dI : Nat → Nat → Nat) (kk : Nat → ClassId) (ad : Nat → Nat) (nn ll : Nat) (I : Nat → Nat → Int32) (F : Nat → Nat → UInt64) (J : Nat → Nat → Int64) (j : Nat) (hj : j < 6) : Met l yX0_countInto wsX0_countInto ({ frames := 0, cells := 0, slots := 0, locals := 0 }) (pR dC dI kk [.ref (ad 0), .int (nI (0)), .int (nI (j))] (wX kk ad (nI nn) (nI ll) (I) (F) (J))) (vp_Sl (fun r => r = if zz (F 2 j) then 0 else 1)) 0 0 (fun _ => False) := by
  refine Met.ofW (cc := cX0_countInto) (maxL := 6) (ret := (some .long)) (by decide) rfl ?_
  intro p e s m args below meth c s₁ B hml hv
  obtain ⟨rfl, hP, hK⟩ := hv
  have hx := B.exec
  have hb := B.bytes
  have hr := B.returns
  have hts := atoms_spec (ws := wsX0_countInto) B.pre
  have hown : s.vm.findClass RX0 = some m.cls := findClass_of_methodNamed B.named
  have hlocks := B.notSynchronized
  have kf20 := hts (.fieldLink RX0 20 "PathOdds" "startWeights" "[D") (by decide +kernel)
  have kf7 := hts (.fieldLink RX0 7 "PathOdds" "stateCount" "I") (by decide +kernel)
  have kf26 := hts (.fieldLink RX0 26 "PathOdds" "moveWeights" "[[D") (by decide +kernel)
  have kf48 := hts (.fieldLink RX0 48 "PathOdds" "countTable" "[[J") (by decide +kernel)
  have hin : ∀ w ∈ u_ws RX0 TX0 11, w ∈ wsX0_countInto := by decide +kernel
  have hl := lv_entry ([.ref (ad 0), .int (nI (0)), .int (nI (j))]) (n := 6) (Nat.le_of_ble_eq_true rfl)
  rw [lg_entry_eq]
  generalize (lg_sl ([.ref (ad 0), .int (nI (0)), .int (nI (j))]) ++ List.replicate (6 - (lg_sl ([.ref (ad 0), .int (nI (0)), .int (nI (j))])).length) Slot.unset).toArray = ls at hl ⊢
  have hl : lv_has ls 6 [(0, .ref (ad 0)), (1, .int (nI (0))), (2, .int (nI (j)))] := hl
  have hkc : 0 + 0 ≤ 0 := Nat.le_refl 0
  have hks : 0 + 0 ≤ 0 := Nat.le_refl 0
  refine lv_iload_n hx hb dX0_countInto_0 rfl (lv_at hl 1 rfl) ?_
  refine lv_if_ne (tgt := 21) hx hb dX0_countInto_1 (by decide) (fun q9 => ?_) (fun q9 => ?_)
  · exact absurd rfl q9
  · refine lv_aload_n hx hb dX0_countInto_4 rfl (lv_at hl 0 rfl) ?_
    refine x_get hx hb hts hin hown hK hP 3 (by decide) (v := .ref (ad 2)) rfl kf20 dX0_countInto_5 ?_
    refine lv_iload_n hx hb dX0_countInto_8 rfl (lv_at hl 2 rfl) ?_
    refine x_dl (k := 2) (i := j) 6 hx hb hK hP (by omega) (xC_s rfl) (by omega) (by decide) dX0_countInto_9 ?_
    refine lv_dconst0 hx hb dX0_countInto_10 ?_
    refine lv_dcmp hx hb dX0_countInto_11 ?_
    refine lv_if_le (tgt := 19) hx hb dX0_countInto_12 (by decide) (fun q8 => ?_) (fun q8 => ?_)
    · refine lv_lconst (v := 0) hx hb dX0_countInto_19 (by decide) ?_
      exact W.lret (v := 0) hx hb hr (fun t ht hW => ⟨_, rfl, (if_pos q8).symm, ht⟩) (fun _ h => by cases h) dX0_countInto_20
    · refine lv_lconst (v := 1) hx hb dX0_countInto_15 (by decide) ?_
      refine lv_goto (tgt := 20) hx hb dX0_countInto_16 (by decide) ?_
      exact W.lret (v := 1) hx hb hr (fun t ht hW => ⟨_, rfl, (if_neg q8).symm, ht⟩) (fun _ h => by cases h) dX0_countInto_20

set_option maxHeartbeats 4000000 in
set_option maxRecDepth 100000 in
/-- countInto(t + 1, j) -/
theorem c_X0_countInto1 (l : Launch) (dC : Nat → ClassId) (dI : Nat → Nat → Nat) (kk : Nat → ClassId) (ad : Nat → Nat) (nn ll : Nat) (I : Nat → Nat → Int32) (F : Nat → Nat → UInt64) (J : Nat → Nat → Int64) (t j : Nat) (ht : t + 1 < 12) (hj : j < 6) (h1 : 1 ≤ nn) (h6 : nn ≤ 6) : Met l yX0_countInto wsX0_countInto ({ frames := 0, cells := 0, slots := 0, locals := 0 }) (pR dC dI kk [.ref (ad 0), .int (nI (t + 1)), .int (nI (j))] (wX kk ad (nI nn) (nI ll) (I) (F) (J))) (vp_Sl (fun r => r = sumL (fun i => if zz (F (10 + i) j) then 0 else J (70 + t) i) nn)) 0 0 (fun _ => False) := by
  refine Met.ofW (cc := cX0_countInto) (maxL := 6) (ret := (some .long)) (by decide) rfl ?_
  intro p e s m args below meth c s₁ B hml hv
  obtain ⟨rfl, hP, hK⟩ := hv
  have hx := B.exec
  have hb := B.bytes
  have hr := B.returns
  have hts := atoms_spec (ws := wsX0_countInto) B.pre
  have hown : s.vm.findClass RX0 = some m.cls := findClass_of_methodNamed B.named
  have hlocks := B.notSynchronized
  have kf20 := hts (.fieldLink RX0 20 "PathOdds" "startWeights" "[D") (by decide +kernel)
  have kf7 := hts (.fieldLink RX0 7 "PathOdds" "stateCount" "I") (by decide +kernel)
  have kf26 := hts (.fieldLink RX0 26 "PathOdds" "moveWeights" "[[D") (by decide +kernel)
  have kf48 := hts (.fieldLink RX0 48 "PathOdds" "countTable" "[[J") (by decide +kernel)
  have hin : ∀ w ∈ u_ws RX0 TX0 11, w ∈ wsX0_countInto := by decide +kernel
  have hl := lv_entry ([.ref (ad 0), .int (nI (t + 1)), .int (nI (j))]) (n := 6) (Nat.le_of_ble_eq_true rfl)
  rw [lg_entry_eq]
  generalize (lg_sl ([.ref (ad 0), .int (nI (t + 1)), .int (nI (j))]) ++ List.replicate (6 - (lg_sl ([.ref (ad 0), .int (nI (t + 1)), .int (nI (j))])).length) Slot.unset).toArray = ls at hl ⊢
  have hl : lv_has ls 6 [(0, .ref (ad 0)), (1, .int (nI (t + 1))), (2, .int (nI (j)))] := hl
  have hkc : 0 + 0 ≤ 0 := Nat.le_refl 0
  have hks : 0 + 0 ≤ 0 := Nat.le_refl 0
  refine lv_iload_n hx hb dX0_countInto_0 rfl (lv_at hl 1 rfl) ?_
  refine lv_if_ne (tgt := 21) hx hb dX0_countInto_1 (by decide) (fun q9 => ?_) (fun q9 => ?_)
  · refine lv_lconst (v := 0) hx hb dX0_countInto_21 (by decide) ?_
    refine lv_lstore_n (lv' := [(3, .long (0)), (0, .ref (ad 0)), (1, .int (nI (t + 1))), (2, .int (nI (j)))]) hx hb dX0_countInto_22 rfl hl (by decide) rfl (fun ls hl => ?_)
    refine lv_iconst (v := nI (0)) hx hb dX0_countInto_23 (by decide) ?_
    refine lv_istore (lv' := [(5, .int (nI (0))), (3, .long (0)), (0, .ref (ad 0)), (1, .int (nI (t + 1))), (2, .int (nI (j)))]) hx hb dX0_countInto_24 hl (by decide) rfl (fun ls hl => ?_)
    refine q_loop (head := 26) (nn) (fun k H9 locs9 ls => H9 = s.heap ∧ locs9 = [] ∧ lv_has ls 6 [(5, .int (nI (k))), (3, .long (sumL (fun i => if zz (F (10 + i) j) then 0 else J (70 + t) i) k)), (0, .ref (ad 0)), (1, .int (nI (t + 1))), (2, .int (nI (j)))]) ?_ ?_ (0) (by omega) ⟨rfl, rfl, lv_sub hl [0, 1, 2, 3, 4] rfl⟩
    · rintro k H9 locs9 ls hk ⟨e91, e92, hl⟩ ih
      subst e91 e92
      refine lv_iload hx hb dX0_countInto_26 (lv_at hl 0 rfl) ?_
      refine lv_aload_n hx hb dX0_countInto_28 rfl (lv_at hl 2 rfl) ?_
      refine x_get hx hb hts hin hown hK hP 0 (by decide) (v := .int (nI nn)) rfl kf7 dX0_countInto_29 ?_
      refine q_gen (tgt := 69) hx hb (by omega) (by omega) (by omega) dX0_countInto_32 (by decide) ?_
      refine lv_aload_n hx hb dX0_countInto_35 rfl (lv_at hl 2 rfl) ?_
      refine x_get hx hb hts hin hown hK hP 4 (by decide) (v := .ref (ad 3)) rfl kf26 dX0_countInto_36 ?_
      refine lv_iload hx hb dX0_countInto_39 (lv_at hl 0 rfl) ?_
      refine x_al (o := 3) (b := 10) (N := 6) (i := k) 3 hx hb hK hP (by decide) rfl rfl (by omega) (by decide) dX0_countInto_41 ?_
      refine lv_iload_n hx hb dX0_countInto_42 rfl (lv_at hl 4 rfl) ?_
      refine x_dl (k := (10 + (k))) (i := j) 6 hx hb hK hP (by omega) (xC_dA (by omega) (by omega)) (by omega) (by decide) dX0_countInto_43 ?_
      refine lv_dconst0 hx hb dX0_countInto_44 ?_
      refine lv_dcmp hx hb dX0_countInto_45 ?_
      refine lv_if_le (tgt := 63) hx hb dX0_countInto_46 (by decide) (fun q8 => ?_) (fun q8 => ?_)
      · refine lv_iinc (v := nI ((k) + 1)) (lv' := [(5, .int (nI ((k) + 1))), (3, .long (sumL (fun i => if zz (F (10 + i) j) then 0 else J (70 + t) i) k)), (0, .ref (ad 0)), (1, .int (nI (t + 1))), (2, .int (nI (j)))]) hx hb dX0_countInto_63 hl (k := 0) rfl (q_inc _) (by decide) rfl (fun ls hl => ?_)
        refine lv_goto (tgt := 26) hx hb dX0_countInto_66 (by decide) ?_
        have ea : sumL (fun i => if zz (F (10 + i) j) then 0 else J (70 + t) i) (k + 1) = sumL (fun i => if zz (F (10 + i) j) then 0 else J (70 + t) i) k := by
          show sumL (fun i => if zz (F (10 + i) j) then 0 else J (70 + t) i) k + (if zz (F (10 + k) j) then 0 else J (70 + t) k) = _
          rw [if_pos q8, Int64.add_zero]
        exact ih _ _ _ ⟨rfl, rfl, by rw [ea]; exact lv_sub hl [0, 1, 2, 3, 4] rfl⟩
      · refine lv_lload_n hx hb dX0_countInto_49 rfl (lv_at hl 1 rfl) ?_
        refine lv_aload_n hx hb dX0_countInto_50 rfl (lv_at hl 2 rfl) ?_
        refine x_get hx hb hts hin hown hK hP 10 (by decide) (v := .ref (ad 9)) rfl kf48 dX0_countInto_51 ?_
        refine lv_iload_n hx hb dX0_countInto_54 rfl (lv_at hl 3 rfl) ?_
        refine lv_iconst (v := nI (1)) hx hb dX0_countInto_55 (by decide) ?_
        refine lv_isub hx hb dX0_countInto_56 ?_
        refine q_top (y := nI (t)) (q_sub (by omega)) ?_
        refine x_al (o := 9) (b := 70) (N := 12) (i := t) 5 hx hb hK hP (by decide) rfl rfl (by omega) (by decide) dX0_countInto_57 ?_
        refine lv_iload hx hb dX0_countInto_58 (lv_at hl 0 rfl) ?_
        refine x_jl (k := (70 + (t))) (i := k) 6 hx hb hK hP (by omega) (xC_j (by omega)) (by omega) (by decide) dX0_countInto_60 ?_
        refine lv_ladd hx hb dX0_countInto_61 ?_
        refine lv_lstore_n (lv' := [(3, .long ((sumL (fun i => if zz (F (10 + i) j) then 0 else J (70 + t) i) k) + (J ((70 + (t))) (k)))), (5, .int (nI (k))), (0, .ref (ad 0)), (1, .int (nI (t + 1))), (2, .int (nI (j)))]) hx hb dX0_countInto_62 rfl hl (by decide) rfl (fun ls hl => ?_)
        refine lv_iinc (v := nI ((k) + 1)) (lv' := [(5, .int (nI ((k) + 1))), (3, .long ((sumL (fun i => if zz (F (10 + i) j) then 0 else J (70 + t) i) k) + (J ((70 + (t))) (k)))), (0, .ref (ad 0)), (1, .int (nI (t + 1))), (2, .int (nI (j)))]) hx hb dX0_countInto_63 hl (k := 1) rfl (q_inc _) (by decide) rfl (fun ls hl => ?_)
        refine lv_goto (tgt := 26) hx hb dX0_countInto_66 (by decide) ?_
        have ea : sumL (fun i => if zz (F (10 + i) j) then 0 else J (70 + t) i) (k + 1) = sumL (fun i => if zz (F (10 + i) j) then 0 else J (70 + t) i) k + J (70 + t) k := by
          show sumL (fun i => if zz (F (10 + i) j) then 0 else J (70 + t) i) k + (if zz (F (10 + k) j) then 0 else J (70 + t) k) = _
          rw [if_neg q8]
        exact ih _ _ _ ⟨rfl, rfl, by rw [ea]; exact lv_sub hl [0, 1, 2, 3, 4] rfl⟩
    · rintro H9 locs9 ls ⟨e91, e92, hl⟩
      subst e91 e92
      refine lv_iload hx hb dX0_countInto_26 (lv_at hl 0 rfl) ?_
      refine lv_aload_n hx hb dX0_countInto_28 rfl (lv_at hl 2 rfl) ?_
      refine x_get hx hb hts hin hown hK hP 0 (by decide) (v := .int (nI nn)) rfl kf7 dX0_countInto_29 ?_
      refine q_gey (tgt := 69) hx hb (by omega) (by omega) (by omega) dX0_countInto_32 (by decide) ?_
      refine lv_lload_n hx hb dX0_countInto_69 rfl (lv_at hl 1 rfl) ?_
      exact W.lret (v := sumL (fun i => if zz (F (10 + i) j) then 0 else J (70 + t) i) (nn)) hx hb hr (fun t ht hW => ⟨_, rfl, rfl, ht⟩) (fun _ h => by cases h) dX0_countInto_70
  · exact absurd q9 (nI_ne0 (by omega) (by omega))
