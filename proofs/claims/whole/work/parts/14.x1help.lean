/-- what the reference's cells hold of the row and of the weights -/
def mRw (ll : Nat) (sg : Nat → Nat) (I : Nat → Nat → Int32) : Prop := ∀ t, t < ll → I 4 t = nI (sg t) ∧ sg t < 4
def mWt (S : Nat → UInt64) (M E F : Nat → Nat → UInt64) : Prop := (∀ j, j < 6 → F 1 j = S j) ∧ (∀ i j, i < 6 → j < 6 → F 2 (6 * i + j) = M i j) ∧ (∀ i k, i < 6 → k < 4 → F 3 (4 * i + k) = E i k)
theorem mWt_keep {S : Nat → UInt64} {M E F F1 : Nat → Nat → UInt64} (h : mWt S M E F) (hk : ∀ k, k < 5 → F1 k = F k) : mWt S M E F1 :=
  ⟨fun j hj => by rw [hk 1 (by decide)]; exact h.1 j hj, fun i j hi hj => by rw [hk 2 (by decide)]; exact h.2.1 i j hi hj, fun i k hi hj => by rw [hk 3 (by decide)]; exact h.2.2 i k hi hj⟩

set_option maxHeartbeats 4000000 in
set_option maxRecDepth 100000 in
/-- state(i) -/
theorem c_X1_state (l : Launch) (dC : Nat → ClassId) (dI : Nat → Nat → Nat) (kk : Nat → ClassId) (ad : Nat → Nat) (n len th : Int32) (I : Nat → Nat → Int32) (F : Nat → Nat → UInt64) (J : Nat → Nat → Int64) (i : Int32) : Met l yX1_state wsX1_state ({ frames := 0, cells := 0, slots := 0, locals := 0 }) (pR dC dI kk [.ref (ad 0), .int (i)] (wM kk ad (n) (len) (th) (I) (F) (J))) (vp_Si (fun r => yn (stOK n i) r)) 0 0 (fun _ => False) := by
  refine Met.ofW (cc := cX1_state) (maxL := 2) (ret := (some .boolean)) (by decide) rfl ?_
  intro p e s m args below meth c s₁ B hml hv
  obtain ⟨rfl, hP, hK⟩ := hv
  have hx := B.exec
  have hb := B.bytes
  have hr := B.returns
  have hts := atoms_spec (ws := wsX1_state) B.pre
  have hown : s.vm.findClass RX1 = some m.cls := findClass_of_methodNamed B.named
  have hlocks := B.notSynchronized
  have kf36 := hts (.fieldLink RX1 36 "PathOddsModel" "n" "I") (by decide +kernel)
  have hin : ∀ w ∈ u_ws RX1 TX1 11, w ∈ wsX1_state := by decide +kernel
  have hl := lv_entry ([.ref (ad 0), .int (i)]) (n := 2) (Nat.le_of_ble_eq_true rfl)
  rw [lg_entry_eq]
  generalize (lg_sl ([.ref (ad 0), .int (i)]) ++ List.replicate (2 - (lg_sl ([.ref (ad 0), .int (i)])).length) Slot.unset).toArray = ls at hl ⊢
  have hl : lv_has ls 2 [(0, .ref (ad 0)), (1, .int (i))] := hl
  have hkc : 0 + 0 ≤ 0 := Nat.le_refl 0
  have hks : 0 + 0 ≤ 0 := Nat.le_refl 0
  refine lv_iload_n hx hb dX1_state_0 rfl (lv_at hl 1 rfl) ?_
  refine lv_if_lt (tgt := 16) hx hb dX1_state_1 (by decide) (fun q1 => ?_) (fun q1 => ?_)
  · refine lv_iconst (v := 0) hx hb dX1_state_16 (by decide) ?_
    exact W.zret (v := 0) hx hb hr rfl (fun t ht hW => ⟨_, rfl, yn_0 (fun q => q.1 q1), ht⟩) (fun _ h => by cases h) dX1_state_17
  · refine lv_iload_n hx hb dX1_state_4 rfl (lv_at hl 1 rfl) ?_
    refine lv_aload_n hx hb dX1_state_5 rfl (lv_at hl 0 rfl) ?_
    refine y_get hx hb hts hin hown hK hP 0 (by decide) (v := .int (n)) rfl kf36 dX1_state_6 ?_
    refine lv_icmp_ge (tgt := 16) hx hb dX1_state_9 (by decide) (fun q2 => ?_) (fun q2 => ?_)
    · refine lv_iconst (v := 0) hx hb dX1_state_16 (by decide) ?_
      exact W.zret (v := 0) hx hb hr rfl (fun t ht hW => ⟨_, rfl, yn_0 (fun q => q.2 q2), ht⟩) (fun _ h => by cases h) dX1_state_17
    · refine lv_iconst (v := 1) hx hb dX1_state_12 (by decide) ?_
      refine lv_goto (tgt := 17) hx hb dX1_state_13 (by decide) ?_
      exact W.zret (v := 1) hx hb hr rfl (fun t ht hW => ⟨_, rfl, yn_1 ⟨q1, q2⟩, ht⟩) (fun _ h => by cases h) dX1_state_17

theorem st3 {i : Int32} : ¬ (nI 4 ≤ i) ↔ ¬ (nI 3 < i) := by
  have e4 : (nI 4).toInt = 4 := rfl
  have e3 : (nI 3).toInt = 3 := rfl
  rw [Int32.le_iff_toInt_le, Int32.lt_iff_toInt_lt, e4, e3]
  omega

set_option maxHeartbeats 4000000 in
set_option maxRecDepth 100000 in
/-- symbol(s) -/
theorem c_X1_symbol (l : Launch) (i : Int32) : Met l yX1_symbol wsX1_symbol ({ frames := 0, cells := 0, slots := 0, locals := 0 }) (va_Pc [.int (i)] (fun _ => True)) (vp_Si (fun r => yn (stOK (nI 4) i) r)) 0 0 (fun _ => False) := by
  refine Met.ofW (cc := cX1_symbol) (maxL := 1) (ret := (some .boolean)) (by decide) rfl ?_
  intro p e s m args below meth c s₁ B hml hv
  obtain ⟨rfl, -⟩ := hv
  have hx := B.exec
  have hb := B.bytes
  have hr := B.returns
  have hts := atoms_spec (ws := wsX1_symbol) B.pre
  have hown : s.vm.findClass RX1 = some m.cls := findClass_of_methodNamed B.named
  have hlocks := B.notSynchronized
  have hl := lv_entry ([.int (i)]) (n := 1) (Nat.le_of_ble_eq_true rfl)
  rw [lg_entry_eq]
  generalize (lg_sl ([.int (i)]) ++ List.replicate (1 - (lg_sl ([.int (i)])).length) Slot.unset).toArray = ls at hl ⊢
  have hl : lv_has ls 1 [(0, .int (i))] := hl
  refine lv_iload_n hx hb dX1_symbol_0 rfl (lv_at hl 0 rfl) ?_
  refine lv_if_lt (tgt := 13) hx hb dX1_symbol_1 (by decide) (fun q1 => ?_) (fun q1 => ?_)
  · refine lv_iconst (v := 0) hx hb dX1_symbol_13 (by decide) ?_
    exact W.zret (v := 0) hx hb hr rfl (fun t ht hW => ⟨_, rfl, yn_0 (fun q => q.1 q1), ht⟩) (fun _ h => by cases h) dX1_symbol_14
  · refine lv_iload_n hx hb dX1_symbol_4 rfl (lv_at hl 0 rfl) ?_
    refine lv_iconst (v := nI (3)) hx hb dX1_symbol_5 (by decide) ?_
    refine lv_icmp_gt (tgt := 13) hx hb dX1_symbol_6 (by decide) (fun q2 => ?_) (fun q2 => ?_)
    · refine lv_iconst (v := 0) hx hb dX1_symbol_13 (by decide) ?_
      exact W.zret (v := 0) hx hb hr rfl (fun t ht hW => ⟨_, rfl, yn_0 (fun q => st3.mp q.2 q2), ht⟩) (fun _ h => by cases h) dX1_symbol_14
    · refine lv_iconst (v := 1) hx hb dX1_symbol_9 (by decide) ?_
      refine lv_goto (tgt := 14) hx hb dX1_symbol_10 (by decide) ?_
      exact W.zret (v := 1) hx hb hr rfl (fun t ht hW => ⟨_, rfl, yn_1 ⟨q1, st3.mpr q2⟩, ht⟩) (fun _ h => by cases h) dX1_symbol_14

set_option maxHeartbeats 4000000 in
set_option maxRecDepth 100000 in
/-- unit(w) -/
theorem c_X1_unit (l : Launch) (w : UInt64) : Met l yX1_unit wsX1_unit ({ frames := 0, cells := 0, slots := 0, locals := 0 }) (va_Pc [.double (w)] (fun _ => True)) (vp_Si (fun r => yn (wOK w) r)) 0 0 (fun _ => False) := by
  refine Met.ofW (cc := cX1_unit) (maxL := 2) (ret := (some .boolean)) (by decide) rfl ?_
  intro p e s m args below meth c s₁ B hml hv
  obtain ⟨rfl, -⟩ := hv
  have hx := B.exec
  have hb := B.bytes
  have hr := B.returns
  have hts := atoms_spec (ws := wsX1_unit) B.pre
  have hown : s.vm.findClass RX1 = some m.cls := findClass_of_methodNamed B.named
  have hlocks := B.notSynchronized
  have hl := lv_entry ([.double (w)]) (n := 2) (Nat.le_of_ble_eq_true rfl)
  rw [lg_entry_eq]
  generalize (lg_sl ([.double (w)]) ++ List.replicate (2 - (lg_sl ([.double (w)])).length) Slot.unset).toArray = ls at hl ⊢
  have hl : lv_has ls 2 [(0, .double (w))] := hl
  refine lv_dload_n hx hb dX1_unit_0 rfl (lv_at hl 0 rfl) ?_
  refine lv_dconst0 hx hb dX1_unit_1 ?_
  refine lv_dcmp hx hb dX1_unit_2 ?_
  refine lv_if_lt (tgt := 16) hx hb dX1_unit_3 (by decide) (fun q1 => ?_) (fun q1 => ?_)
  · refine lv_iconst (v := 0) hx hb dX1_unit_16 (by decide) ?_
    exact W.zret (v := 0) hx hb hr rfl (fun t ht hW => ⟨_, rfl, yn_0 (fun q => q.1 q1), ht⟩) (fun _ h => by cases h) dX1_unit_17
  · refine lv_dload_n hx hb dX1_unit_6 rfl (lv_at hl 0 rfl) ?_
    refine lv_dconst1 hx hb dX1_unit_7 ?_
    refine lv_dcmp hx hb dX1_unit_8 ?_
    refine lv_if_gt (tgt := 16) hx hb dX1_unit_9 (by decide) (fun q2 => ?_) (fun q2 => ?_)
    · refine lv_iconst (v := 0) hx hb dX1_unit_16 (by decide) ?_
      exact W.zret (v := 0) hx hb hr rfl (fun t ht hW => ⟨_, rfl, yn_0 (fun q => q.2 q2), ht⟩) (fun _ h => by cases h) dX1_unit_17
    · refine lv_iconst (v := 1) hx hb dX1_unit_12 (by decide) ?_
      refine lv_goto (tgt := 17) hx hb dX1_unit_13 (by decide) ?_
      exact W.zret (v := 1) hx hb hr rfl (fun t ht hW => ⟨_, rfl, yn_1 ⟨q1, q2⟩, ht⟩) (fun _ h => by cases h) dX1_unit_17

set_option maxHeartbeats 4000000 in
set_option maxRecDepth 100000 in
/-- thrown() -/
theorem c_X1_thrown (l : Launch) (dC : Nat → ClassId) (dI : Nat → Nat → Nat) (kk : Nat → ClassId) (ad : Nat → Nat) (n len th : Int32) (I : Nat → Nat → Int32) (F : Nat → Nat → UInt64) (J : Nat → Nat → Int64) : Met l yX1_thrown wsX1_thrown ({ frames := 0, cells := 0, slots := 0, locals := 0 }) (pR dC dI kk [.ref (ad 0)] (wM kk ad (n) (len) (th) (I) (F) (J))) (vp_Si (fun r => r = th)) 0 0 (fun _ => False) := by
  refine Met.ofW (cc := cX1_thrown) (maxL := 1) (ret := (some .int)) (by decide) rfl ?_
  intro p e s m args below meth c s₁ B hml hv
  obtain ⟨rfl, hP, hK⟩ := hv
  have hx := B.exec
  have hb := B.bytes
  have hr := B.returns
  have hts := atoms_spec (ws := wsX1_thrown) B.pre
  have hown : s.vm.findClass RX1 = some m.cls := findClass_of_methodNamed B.named
  have hlocks := B.notSynchronized
  have kf40 := hts (.fieldLink RX1 40 "PathOddsModel" "thrown" "I") (by decide +kernel)
  have hin : ∀ w ∈ u_ws RX1 TX1 11, w ∈ wsX1_thrown := by decide +kernel
  have hl := lv_entry ([.ref (ad 0)]) (n := 1) (Nat.le_of_ble_eq_true rfl)
  rw [lg_entry_eq]
  generalize (lg_sl ([.ref (ad 0)]) ++ List.replicate (1 - (lg_sl ([.ref (ad 0)])).length) Slot.unset).toArray = ls at hl ⊢
  have hl : lv_has ls 1 [(0, .ref (ad 0))] := hl
  have hkc : 0 + 0 ≤ 0 := Nat.le_refl 0
  have hks : 0 + 0 ≤ 0 := Nat.le_refl 0
  refine lv_aload_n hx hb dX1_thrown_0 rfl (lv_at hl 0 rfl) ?_
  refine y_get hx hb hts hin hown hK hP 2 (by decide) (v := .int (th)) rfl kf40 dX1_thrown_1 ?_
  exact W.iret (v := th) hx hb hr (fun t ht hW => ⟨_, rfl, rfl, ht⟩) (fun _ h => by cases h) dX1_thrown_4

set_option maxHeartbeats 4000000 in
set_option maxRecDepth 100000 in
/-- shown(i, t) -/
theorem c_X1_shown (l : Launch) (dC : Nat → ClassId) (dI : Nat → Nat → Nat) (kk : Nat → ClassId) (ad : Nat → Nat) (n len th : Int32) (I : Nat → Nat → Int32) (F : Nat → Nat → UInt64) (J : Nat → Nat → Int64) (i t sy : Nat) (hi : i < 6) (ht : t < 12) (hsy : sy < 4) (hrow : I 4 t = nI sy) : Met l yX1_shown wsX1_shown ({ frames := 0, cells := 0, slots := 0, locals := 0 }) (pR dC dI kk [.ref (ad 0), .int (nI (i)), .int (nI (t))] (wM kk ad (n) (len) (th) (I) (F) (J))) (vp_Sd (fun r => r = F 3 (4 * i + sy))) 0 0 (fun _ => False) := by
  refine Met.ofW (cc := cX1_shown) (maxL := 3) (ret := (some .double)) (by decide) rfl ?_
  intro p e s m args below meth c s₁ B hml hv
  obtain ⟨rfl, hP, hK⟩ := hv
  have hx := B.exec
  have hb := B.bytes
  have hr := B.returns
  have hts := atoms_spec (ws := wsX1_shown) B.pre
  have hown : s.vm.findClass RX1 = some m.cls := findClass_of_methodNamed B.named
  have hlocks := B.notSynchronized
  have kf16 := hts (.fieldLink RX1 16 "PathOddsModel" "shows" "[D") (by decide +kernel)
  have kf19 := hts (.fieldLink RX1 19 "PathOddsModel" "row" "[I") (by decide +kernel)
  have hin : ∀ w ∈ u_ws RX1 TX1 11, w ∈ wsX1_shown := by decide +kernel
  have hl := lv_entry ([.ref (ad 0), .int (nI (i)), .int (nI (t))]) (n := 3) (Nat.le_of_ble_eq_true rfl)
  rw [lg_entry_eq]
  generalize (lg_sl ([.ref (ad 0), .int (nI (i)), .int (nI (t))]) ++ List.replicate (3 - (lg_sl ([.ref (ad 0), .int (nI (i)), .int (nI (t))])).length) Slot.unset).toArray = ls at hl ⊢
  have hl : lv_has ls 3 [(0, .ref (ad 0)), (1, .int (nI (i))), (2, .int (nI (t)))] := hl
  have hkc : 0 + 0 ≤ 0 := Nat.le_refl 0
  have hks : 0 + 0 ≤ 0 := Nat.le_refl 0
  refine lv_aload_n hx hb dX1_shown_0 rfl (lv_at hl 0 rfl) ?_
  refine y_get hx hb hts hin hown hK hP 5 (by decide) (v := .ref (ad 3)) rfl kf16 dX1_shown_1 ?_
  refine lv_iconst (v := nI (4)) hx hb dX1_shown_4 (by decide) ?_
  refine lv_iload_n hx hb dX1_shown_5 rfl (lv_at hl 1 rfl) ?_
  refine lv_imul hx hb dX1_shown_6 ?_
  refine q_top (y := nI ((4) * (i))) (pk_mul _ _) ?_
  refine lv_aload_n hx hb dX1_shown_7 rfl (lv_at hl 0 rfl) ?_
  refine y_get hx hb hts hin hown hK hP 6 (by decide) (v := .ref (ad 4)) rfl kf19 dX1_shown_8 ?_
  refine lv_iload_n hx hb dX1_shown_11 rfl (lv_at hl 2 rfl) ?_
  refine y_il (k := 4) (i := t) 12 hx hb hK hP (by omega) (rfl) (by omega) (by decide) dX1_shown_12 ?_
  refine q_top (y := nI (sy)) (hrow) ?_
  refine lv_iadd hx hb dX1_shown_13 ?_
  refine q_top (y := nI (((4) * (i)) + (sy))) (nI_add _ _) ?_
  refine y_dl (k := 3) (i := ((4) * (i)) + (sy)) 24 hx hb hK hP (by omega) (rfl) (by omega) (by decide) dX1_shown_14 ?_
  exact W.dret (v := F (3) (((4) * (i)) + (sy))) hx hb hr (fun t ht hW => ⟨_, rfl, rfl, ht⟩) (fun _ h => by cases h) dX1_shown_15

set_option maxHeartbeats 4000000 in
set_option maxRecDepth 100000 in
/-- from(j) -/
theorem c_X1_from (l : Launch) (dC : Nat → ClassId) (dI : Nat → Nat → Nat) (kk : Nat → ClassId) (ad : Nat → Nat) (nn ll : Nat) (th : Int32) (I : Nat → Nat → Int32) (F : Nat → Nat → UInt64) (J : Nat → Nat → Int64) (j b : Nat) (hj : j < 6) (h1 : 1 ≤ nn) (h6 : nn ≤ 6) (hb9 : b + 20 ≤ 1023) (hF : ∀ i, i < nn → dB b (F 6 i)) (hM : ∀ i, i < nn → dB 0 (F 2 (6 * i + j))) : Met l yX1_from wsX1_from ({ frames := 0, cells := 0, slots := 0, locals := 0 }) (pR dC dI kk [.ref (ad 0), .int (nI (j))] (wM kk ad (nI nn) (nI ll) (th) (I) (F) (J))) (vp_Si (fun r => r = nI (arg (fun i => FP.dmul (F 6 i) (F 2 (6 * i + j))) (nn - 1)))) 0 0 (fun _ => False) := by
  refine Met.ofW (cc := cX1_from) (maxL := 4) (ret := (some .int)) (by decide) rfl ?_
  intro p e s m args below meth c s₁ B hml hv
  obtain ⟨rfl, hP, hK⟩ := hv
  have hx := B.exec
  have hb := B.bytes
  have hr := B.returns
  have hts := atoms_spec (ws := wsX1_from) B.pre
  have hown : s.vm.findClass RX1 = some m.cls := findClass_of_methodNamed B.named
  have hlocks := B.notSynchronized
  have kf36 := hts (.fieldLink RX1 36 "PathOddsModel" "n" "I") (by decide +kernel)
  have kf26 := hts (.fieldLink RX1 26 "PathOddsModel" "old" "[D") (by decide +kernel)
  have kf13 := hts (.fieldLink RX1 13 "PathOddsModel" "moves" "[D") (by decide +kernel)
  have hin : ∀ w ∈ u_ws RX1 TX1 11, w ∈ wsX1_from := by decide +kernel
  have hl := lv_entry ([.ref (ad 0), .int (nI (j))]) (n := 4) (Nat.le_of_ble_eq_true rfl)
  rw [lg_entry_eq]
  generalize (lg_sl ([.ref (ad 0), .int (nI (j))]) ++ List.replicate (4 - (lg_sl ([.ref (ad 0), .int (nI (j))])).length) Slot.unset).toArray = ls at hl ⊢
  have hl : lv_has ls 4 [(0, .ref (ad 0)), (1, .int (nI (j)))] := hl
  have hkc : 0 + 0 ≤ 0 := Nat.le_refl 0
  have hks : 0 + 0 ≤ 0 := Nat.le_refl 0
  have b0 := fun (q : Nat) (hq : q < nn) => dB_n (dB_mul (hF q hq) (hM q hq) (by omega))
  refine lv_iconst (v := nI (0)) hx hb dX1_from_0 (by decide) ?_
  refine lv_istore_n (lv' := [(2, .int (nI (0))), (0, .ref (ad 0)), (1, .int (nI (j)))]) hx hb dX1_from_1 rfl hl (by decide) rfl (fun ls hl => ?_)
  refine lv_iconst (v := nI (1)) hx hb dX1_from_2 (by decide) ?_
  refine lv_istore_n (lv' := [(3, .int (nI (1))), (2, .int (nI (0))), (0, .ref (ad 0)), (1, .int (nI (j)))]) hx hb dX1_from_3 rfl hl (by decide) rfl (fun ls hl => ?_)
  refine q_loop (head := 4) (nn - 1) (fun k H9 locs9 ls => H9 = s.heap ∧ locs9 = [] ∧ lv_has ls 4 [(3, .int (nI (k + 1))), (2, .int (nI (arg (fun i => FP.dmul (F 6 i) (F 2 (6 * i + j))) k))), (0, .ref (ad 0)), (1, .int (nI (j)))]) ?_ ?_ (0) (by omega) ⟨rfl, rfl, lv_sub hl [0, 1, 2, 3] rfl⟩
  · rintro k H9 locs9 ls hk ⟨e91, e92, hl⟩ ih
    subst e91 e92
    have hale := arg_le (fun i => FP.dmul (F 6 i) (F 2 (6 * i + j))) k
    refine lv_iload_n hx hb dX1_from_4 rfl (lv_at hl 0 rfl) ?_
    refine lv_aload_n hx hb dX1_from_5 rfl (lv_at hl 2 rfl) ?_
    refine y_get hx hb hts hin hown hK hP 0 (by decide) (v := .int (nI nn)) rfl kf36 dX1_from_6 ?_
    refine q_gen (tgt := 60) hx hb (by omega) (by omega) (by omega) dX1_from_9 (by decide) ?_
    refine lv_aload_n hx hb dX1_from_12 rfl (lv_at hl 2 rfl) ?_
    refine y_get hx hb hts hin hown hK hP 8 (by decide) (v := .ref (ad 6)) rfl kf26 dX1_from_13 ?_
    refine lv_iload_n hx hb dX1_from_16 rfl (lv_at hl 0 rfl) ?_
    refine y_dl (k := 6) (i := k + 1) 6 hx hb hK hP (by omega) (rfl) (by omega) (by decide) dX1_from_17 ?_
    refine lv_aload_n hx hb dX1_from_18 rfl (lv_at hl 2 rfl) ?_
    refine y_get hx hb hts hin hown hK hP 4 (by decide) (v := .ref (ad 2)) rfl kf13 dX1_from_19 ?_
    refine lv_bipush (v := nI (6)) hx hb dX1_from_22 (by decide) ?_
    refine lv_iload_n hx hb dX1_from_24 rfl (lv_at hl 0 rfl) ?_
    refine lv_imul hx hb dX1_from_25 ?_
    refine q_top (y := nI ((6) * (k + 1))) (pk_mul _ _) ?_
    refine lv_iload_n hx hb dX1_from_26 rfl (lv_at hl 3 rfl) ?_
    refine lv_iadd hx hb dX1_from_27 ?_
    refine q_top (y := nI (((6) * (k + 1)) + (j))) (nI_add _ _) ?_
    refine y_dl (k := 2) (i := ((6) * (k + 1)) + (j)) 36 hx hb hK hP (by omega) (rfl) (by omega) (by decide) dX1_from_28 ?_
    refine lv_dmul hx hb dX1_from_29 (b0 (k + 1) (by omega)) ?_
    refine lv_aload_n hx hb dX1_from_30 rfl (lv_at hl 2 rfl) ?_
    refine y_get hx hb hts hin hown hK hP 8 (by decide) (v := .ref (ad 6)) rfl kf26 dX1_from_31 ?_
    refine lv_iload_n hx hb dX1_from_34 rfl (lv_at hl 1 rfl) ?_
    refine y_dl (k := 6) (i := arg (fun i => FP.dmul (F 6 i) (F 2 (6 * i + j))) k) 6 hx hb hK hP (by omega) (rfl) (by omega) (by decide) dX1_from_35 ?_
    refine lv_aload_n hx hb dX1_from_36 rfl (lv_at hl 2 rfl) ?_
    refine y_get hx hb hts hin hown hK hP 4 (by decide) (v := .ref (ad 2)) rfl kf13 dX1_from_37 ?_
    refine lv_bipush (v := nI (6)) hx hb dX1_from_40 (by decide) ?_
    refine lv_iload_n hx hb dX1_from_42 rfl (lv_at hl 1 rfl) ?_
    refine lv_imul hx hb dX1_from_43 ?_
    refine q_top (y := nI ((6) * (arg (fun i => FP.dmul (F 6 i) (F 2 (6 * i + j))) k))) (pk_mul _ _) ?_
    refine lv_iload_n hx hb dX1_from_44 rfl (lv_at hl 3 rfl) ?_
    refine lv_iadd hx hb dX1_from_45 ?_
    refine q_top (y := nI (((6) * (arg (fun i => FP.dmul (F 6 i) (F 2 (6 * i + j))) k)) + (j))) (nI_add _ _) ?_
    refine y_dl (k := 2) (i := ((6) * (arg (fun i => FP.dmul (F 6 i) (F 2 (6 * i + j))) k)) + (j)) 36 hx hb hK hP (by omega) (rfl) (by omega) (by decide) dX1_from_46 ?_
    refine lv_dmul hx hb dX1_from_47 (b0 (arg (fun i => FP.dmul (F 6 i) (F 2 (6 * i + j))) k) (by omega)) ?_
    refine lv_dcmp hx hb dX1_from_48 ?_
    refine lv_if_le (tgt := 54) hx hb dX1_from_49 (by decide) (fun q9 => ?_) (fun q9 => ?_)
    · refine lv_iinc (v := nI ((k + 1) + 1)) (lv' := [(3, .int (nI ((k + 1) + 1))), (2, .int (nI (arg (fun i => FP.dmul (F 6 i) (F 2 (6 * i + j))) k))), (0, .ref (ad 0)), (1, .int (nI (j)))]) hx hb dX1_from_54 hl (k := 0) rfl (q_inc _) (by decide) rfl (fun ls hl => ?_)
      refine lv_goto (tgt := 4) hx hb dX1_from_57 (by decide) ?_
      have ea : arg (fun i => FP.dmul (F 6 i) (F 2 (6 * i + j))) (k + 1) = arg (fun i => FP.dmul (F 6 i) (F 2 (6 * i + j))) k := arg_y (f := (fun i => FP.dmul (F 6 i) (F 2 (6 * i + j)))) q9
      exact ih _ _ _ ⟨rfl, rfl, by rw [ea]; exact lv_sub hl [0, 1, 2, 3] rfl⟩
    · refine lv_iload_n hx hb dX1_from_52 rfl (lv_at hl 0 rfl) ?_
      refine lv_istore_n (lv' := [(2, .int (nI (k + 1))), (3, .int (nI (k + 1))), (0, .ref (ad 0)), (1, .int (nI (j)))]) hx hb dX1_from_53 rfl hl (by decide) rfl (fun ls hl => ?_)
      refine lv_iinc (v := nI ((k + 1) + 1)) (lv' := [(3, .int (nI ((k + 1) + 1))), (2, .int (nI (k + 1))), (0, .ref (ad 0)), (1, .int (nI (j)))]) hx hb dX1_from_54 hl (k := 1) rfl (q_inc _) (by decide) rfl (fun ls hl => ?_)
      refine lv_goto (tgt := 4) hx hb dX1_from_57 (by decide) ?_
      have ea : arg (fun i => FP.dmul (F 6 i) (F 2 (6 * i + j))) (k + 1) = k + 1 := arg_n (f := (fun i => FP.dmul (F 6 i) (F 2 (6 * i + j)))) q9
      exact ih _ _ _ ⟨rfl, rfl, by rw [ea]; exact lv_sub hl [0, 1, 2, 3] rfl⟩
  · rintro H9 locs9 ls ⟨e91, e92, hl⟩
    subst e91 e92
    refine lv_iload_n hx hb dX1_from_4 rfl (lv_at hl 0 rfl) ?_
    refine lv_aload_n hx hb dX1_from_5 rfl (lv_at hl 2 rfl) ?_
    refine y_get hx hb hts hin hown hK hP 0 (by decide) (v := .int (nI nn)) rfl kf36 dX1_from_6 ?_
    refine q_gey (tgt := 60) hx hb (by omega) (by omega) (by omega) dX1_from_9 (by decide) ?_
    refine lv_iload_n hx hb dX1_from_60 rfl (lv_at hl 1 rfl) ?_
    exact W.iret (v := nI (arg (fun i => FP.dmul (F 6 i) (F 2 (6 * i + j))) (nn - 1))) hx hb hr (fun t ht hW => ⟨_, rfl, rfl, ht⟩) (fun _ h => by cases h) dX1_from_61

set_option maxHeartbeats 4000000 in
set_option maxRecDepth 100000 in
/-- last() -/
theorem c_X1_last (l : Launch) (dC : Nat → ClassId) (dI : Nat → Nat → Nat) (kk : Nat → ClassId) (ad : Nat → Nat) (nn ll : Nat) (th : Int32) (I : Nat → Nat → Int32) (F : Nat → Nat → UInt64) (J : Nat → Nat → Int64) (h1 : 1 ≤ nn) (h6 : nn ≤ 6) : Met l yX1_last wsX1_last ({ frames := 0, cells := 0, slots := 0, locals := 0 }) (pR dC dI kk [.ref (ad 0)] (wM kk ad (nI nn) (nI ll) (th) (I) (F) (J))) (vp_Si (fun r => r = nI (arg (fun i => F 5 i) (nn - 1)))) 0 0 (fun _ => False) := by
  refine Met.ofW (cc := cX1_last) (maxL := 3) (ret := (some .int)) (by decide) rfl ?_
  intro p e s m args below meth c s₁ B hml hv
  obtain ⟨rfl, hP, hK⟩ := hv
  have hx := B.exec
  have hb := B.bytes
  have hr := B.returns
  have hts := atoms_spec (ws := wsX1_last) B.pre
  have hown : s.vm.findClass RX1 = some m.cls := findClass_of_methodNamed B.named
  have hlocks := B.notSynchronized
  have kf36 := hts (.fieldLink RX1 36 "PathOddsModel" "n" "I") (by decide +kernel)
  have kf23 := hts (.fieldLink RX1 23 "PathOddsModel" "now" "[D") (by decide +kernel)
  have hin : ∀ w ∈ u_ws RX1 TX1 11, w ∈ wsX1_last := by decide +kernel
  have hl := lv_entry ([.ref (ad 0)]) (n := 3) (Nat.le_of_ble_eq_true rfl)
  rw [lg_entry_eq]
  generalize (lg_sl ([.ref (ad 0)]) ++ List.replicate (3 - (lg_sl ([.ref (ad 0)])).length) Slot.unset).toArray = ls at hl ⊢
  have hl : lv_has ls 3 [(0, .ref (ad 0))] := hl
  have hkc : 0 + 0 ≤ 0 := Nat.le_refl 0
  have hks : 0 + 0 ≤ 0 := Nat.le_refl 0
  refine lv_iconst (v := nI (0)) hx hb dX1_last_0 (by decide) ?_
  refine lv_istore_n (lv' := [(1, .int (nI (0))), (0, .ref (ad 0))]) hx hb dX1_last_1 rfl hl (by decide) rfl (fun ls hl => ?_)
  refine lv_iconst (v := nI (1)) hx hb dX1_last_2 (by decide) ?_
  refine lv_istore_n (lv' := [(2, .int (nI (1))), (1, .int (nI (0))), (0, .ref (ad 0))]) hx hb dX1_last_3 rfl hl (by decide) rfl (fun ls hl => ?_)
  refine q_loop (head := 4) (nn - 1) (fun k H9 locs9 ls => H9 = s.heap ∧ locs9 = [] ∧ lv_has ls 3 [(2, .int (nI (k + 1))), (1, .int (nI (arg (fun i => F 5 i) k))), (0, .ref (ad 0))]) ?_ ?_ (0) (by omega) ⟨rfl, rfl, lv_sub hl [0, 1, 2] rfl⟩
  · rintro k H9 locs9 ls hk ⟨e91, e92, hl⟩ ih
    subst e91 e92
    have hale := arg_le (fun i => F 5 i) k
    refine lv_iload_n hx hb dX1_last_4 rfl (lv_at hl 0 rfl) ?_
    refine lv_aload_n hx hb dX1_last_5 rfl (lv_at hl 2 rfl) ?_
    refine y_get hx hb hts hin hown hK hP 0 (by decide) (v := .int (nI nn)) rfl kf36 dX1_last_6 ?_
    refine q_gen (tgt := 36) hx hb (by omega) (by omega) (by omega) dX1_last_9 (by decide) ?_
    refine lv_aload_n hx hb dX1_last_12 rfl (lv_at hl 2 rfl) ?_
    refine y_get hx hb hts hin hown hK hP 7 (by decide) (v := .ref (ad 5)) rfl kf23 dX1_last_13 ?_
    refine lv_iload_n hx hb dX1_last_16 rfl (lv_at hl 0 rfl) ?_
    refine y_dl (k := 5) (i := k + 1) 6 hx hb hK hP (by omega) (rfl) (by omega) (by decide) dX1_last_17 ?_
    refine lv_aload_n hx hb dX1_last_18 rfl (lv_at hl 2 rfl) ?_
    refine y_get hx hb hts hin hown hK hP 7 (by decide) (v := .ref (ad 5)) rfl kf23 dX1_last_19 ?_
    refine lv_iload_n hx hb dX1_last_22 rfl (lv_at hl 1 rfl) ?_
    refine y_dl (k := 5) (i := arg (fun i => F 5 i) k) 6 hx hb hK hP (by omega) (rfl) (by omega) (by decide) dX1_last_23 ?_
    refine lv_dcmp hx hb dX1_last_24 ?_
    refine lv_if_le (tgt := 30) hx hb dX1_last_25 (by decide) (fun q9 => ?_) (fun q9 => ?_)
    · refine lv_iinc (v := nI ((k + 1) + 1)) (lv' := [(2, .int (nI ((k + 1) + 1))), (1, .int (nI (arg (fun i => F 5 i) k))), (0, .ref (ad 0))]) hx hb dX1_last_30 hl (k := 0) rfl (q_inc _) (by decide) rfl (fun ls hl => ?_)
      refine lv_goto (tgt := 4) hx hb dX1_last_33 (by decide) ?_
      have ea : arg (fun i => F 5 i) (k + 1) = arg (fun i => F 5 i) k := arg_y (f := (fun i => F 5 i)) q9
      exact ih _ _ _ ⟨rfl, rfl, by rw [ea]; exact lv_sub hl [0, 1, 2] rfl⟩
    · refine lv_iload_n hx hb dX1_last_28 rfl (lv_at hl 0 rfl) ?_
      refine lv_istore_n (lv' := [(1, .int (nI (k + 1))), (2, .int (nI (k + 1))), (0, .ref (ad 0))]) hx hb dX1_last_29 rfl hl (by decide) rfl (fun ls hl => ?_)
      refine lv_iinc (v := nI ((k + 1) + 1)) (lv' := [(2, .int (nI ((k + 1) + 1))), (1, .int (nI (k + 1))), (0, .ref (ad 0))]) hx hb dX1_last_30 hl (k := 1) rfl (q_inc _) (by decide) rfl (fun ls hl => ?_)
      refine lv_goto (tgt := 4) hx hb dX1_last_33 (by decide) ?_
      have ea : arg (fun i => F 5 i) (k + 1) = k + 1 := arg_n (f := (fun i => F 5 i)) q9
      exact ih _ _ _ ⟨rfl, rfl, by rw [ea]; exact lv_sub hl [0, 1, 2] rfl⟩
  · rintro H9 locs9 ls ⟨e91, e92, hl⟩
    subst e91 e92
    refine lv_iload_n hx hb dX1_last_4 rfl (lv_at hl 0 rfl) ?_
    refine lv_aload_n hx hb dX1_last_5 rfl (lv_at hl 2 rfl) ?_
    refine y_get hx hb hts hin hown hK hP 0 (by decide) (v := .int (nI nn)) rfl kf36 dX1_last_6 ?_
    refine q_gey (tgt := 36) hx hb (by omega) (by omega) (by omega) dX1_last_9 (by decide) ?_
    refine lv_iload_n hx hb dX1_last_36 rfl (lv_at hl 1 rfl) ?_
    exact W.iret (v := nI (arg (fun i => F 5 i) (nn - 1))) hx hb hr (fun t ht hW => ⟨_, rfl, rfl, ht⟩) (fun _ h => by cases h) dX1_last_37

theorem lt_nle {x y : Int32} (h : x < y) : ¬ y ≤ x := by
  rw [Int32.lt_iff_toInt_lt] at h
  rw [Int32.le_iff_toInt_le]
  omega
theorem nle_lt {x y : Int32} (h : ¬ y ≤ x) : x < y := by
  rw [Int32.le_iff_toInt_le] at h
  rw [Int32.lt_iff_toInt_lt]
  omega

set_option maxHeartbeats 4000000 in
set_option maxRecDepth 100000 in
/-- fault(t, i) -/
theorem c_X1_fault (l : Launch) (dC : Nat → ClassId) (dI : Nat → Nat → Nat) (kk : Nat → ClassId) (ad : Nat → Nat) (n len th : Int32) (I : Nat → Nat → Int32) (F : Nat → Nat → UInt64) (J : Nat → Nat → Int64) (t i : Int32) : Met l yX1_fault wsX1_fault ({ frames := 1, cells := 0, slots := 0, locals := 30 }) (pR dC dI kk [.ref (ad 0), .int (t), .int (i)] (wM kk ad (n) (len) (th) (I) (F) (J))) (vp_Si (fun r => (¬ stOK len t → r = nI 1) ∧ (stOK len t → stOK n i → r = nI 0) ∧ (stOK len t → ¬ stOK n i → r = nI 2))) 0 0 (fun _ => False) := by
  refine Met.ofW (cc := cX1_fault) (maxL := 3) (ret := (some .int)) (by decide) rfl ?_
  intro p e s m args below meth c s₁ B hml hv
  obtain ⟨rfl, hP, hK⟩ := hv
  have hx := B.exec
  have hb := B.bytes
  have hr := B.returns
  have hts := atoms_spec (ws := wsX1_fault) B.pre
  have hown : s.vm.findClass RX1 = some m.cls := findClass_of_methodNamed B.named
  have hlocks := B.notSynchronized
  have kf43 := hts (.fieldLink RX1 43 "PathOddsModel" "length" "I") (by decide +kernel)
  have hin : ∀ w ∈ u_ws RX1 TX1 11, w ∈ wsX1_fault := by decide +kernel
  have hl := lv_entry ([.ref (ad 0), .int (t), .int (i)]) (n := 3) (Nat.le_of_ble_eq_true rfl)
  rw [lg_entry_eq]
  generalize (lg_sl ([.ref (ad 0), .int (t), .int (i)]) ++ List.replicate (3 - (lg_sl ([.ref (ad 0), .int (t), .int (i)])).length) Slot.unset).toArray = ls at hl ⊢
  have hl : lv_has ls 3 [(0, .ref (ad 0)), (1, .int (t)), (2, .int (i))] := hl
  have hkc : 0 + 0 ≤ 0 := Nat.le_refl 0
  have hks : 0 + 0 ≤ 0 := Nat.le_refl 0
  refine lv_iload_n hx hb dX1_fault_0 rfl (lv_at hl 1 rfl) ?_
  refine lv_if_lt (tgt := 12) hx hb dX1_fault_1 (by decide) (fun q1 => ?_) (fun q1 => ?_)
  · refine lv_iconst (v := nI (1)) hx hb dX1_fault_12 (by decide) ?_
    refine lv_goto (tgt := 29) hx hb dX1_fault_13 (by decide) ?_
    exact W.iret (v := nI (1)) hx hb hr (fun t ht hW => ⟨_, rfl, ⟨fun _ => rfl, fun z => absurd q1 z.1, fun z => absurd q1 z.1⟩, ht⟩) (fun _ h => by cases h) dX1_fault_29
  · refine lv_iload_n hx hb dX1_fault_4 rfl (lv_at hl 1 rfl) ?_
    refine lv_aload_n hx hb dX1_fault_5 rfl (lv_at hl 0 rfl) ?_
    refine y_get hx hb hts hin hown hK hP 1 (by decide) (v := .int (len)) rfl kf43 dX1_fault_6 ?_
    refine lv_icmp_lt (tgt := 16) hx hb dX1_fault_9 (by decide) (fun q2 => ?_) (fun q2 => ?_)
    · refine lv_aload_n hx hb dX1_fault_16 rfl (lv_at hl 0 rfl) ?_
      refine lv_iload_n hx hb dX1_fault_17 rfl (lv_at hl 2 rfl) ?_
      refine vp_callSi (W.runV (As := [.int (i)]) (rest := []) ⟨hx, hb, hml, hown, hts⟩ (c_X1_state l dC dI kk ad n len th I F J i) (cwV 1 hts gX1_fault_X1_state rfl rfl rfl (by decide +kernel) ⟨Nat.le_of_ble_eq_true rfl, Nat.le_of_ble_eq_true rfl⟩) ⟨pR_blind, va_recv hK hP (ci := 1) (q0 := 0) rfl wM_0, pR_pre hK hP⟩ rfl rfl hl.1 rfl (lv_room (Nat.le_of_ble_eq_true rfl)) dX1_fault_18 ⟨hkc, hks⟩) (fun r1 e1 => ?_)
      refine lv_if_eq (tgt := 28) hx hb dX1_fault_21 (by decide) (fun q3 => ?_) (fun q3 => ?_)
      · refine lv_iconst (v := nI (2)) hx hb dX1_fault_28 (by decide) ?_
        exact W.iret (v := nI (2)) hx hb hr (fun t ht hW => ⟨_, rfl, ⟨fun z => absurd ⟨q1, lt_nle q2⟩ z, fun _ z => absurd z (yn_eq e1 q3), fun _ _ => rfl⟩, ht⟩) (fun _ h => by cases h) dX1_fault_29
      · refine lv_iconst (v := nI (0)) hx hb dX1_fault_24 (by decide) ?_
        refine lv_goto (tgt := 29) hx hb dX1_fault_25 (by decide) ?_
        exact W.iret (v := nI (0)) hx hb hr (fun t ht hW => ⟨_, rfl, ⟨fun z => absurd ⟨q1, lt_nle q2⟩ z, fun _ _ => rfl, fun _ z => absurd (yn_ne e1 q3) z⟩, ht⟩) (fun _ h => by cases h) dX1_fault_29
    · refine lv_iconst (v := nI (1)) hx hb dX1_fault_12 (by decide) ?_
      refine lv_goto (tgt := 29) hx hb dX1_fault_13 (by decide) ?_
      exact W.iret (v := nI (1)) hx hb hr (fun t ht hW => ⟨_, rfl, ⟨fun _ => rfl, fun z => absurd (nle_lt z.2) q2, fun z => absurd (nle_lt z.2) q2⟩, ht⟩) (fun _ h => by cases h) dX1_fault_29

set_option maxHeartbeats 4000000 in
set_option maxRecDepth 100000 in
/-- shift() -/
theorem c_X1_shift (l : Launch) (dC : Nat → ClassId) (dI : Nat → Nat → Nat) (kk : Nat → ClassId) (ad : Nat → Nat) (sz : Nat) (n len th : Int32) (I : Nat → Nat → Int32) (F : Nat → Nat → UInt64) (J : Nat → Nat → Int64) : Met l yX1_shift wsX1_shift ({ frames := 0, cells := 0, slots := 0, locals := 0 }) (pW dC dI kk [.ref (ad 0)] (wM kk ad (n) (len) (th) (I) (F) (J)) sz) (va_Qv (fun (G : Nat → Nat → UInt64) => (∀ q, q ≠ 6 → G q = F q) ∧ ∀ j, j < 6 → G 6 j = F 5 j) (fun (G : Nat → Nat → UInt64) t => bW dC dI kk (va_A (wM kk ad (n) (len) (th) (I) (F) (J)) sz) (wM kk ad n len th I G J) t) (va_A (wM kk ad (n) (len) (th) (I) (F) (J)) sz)) 0 0 (va_A (wM kk ad (n) (len) (th) (I) (F) (J)) sz) := by
  refine Met.ofW (cc := cX1_shift) (maxL := 2) (ret := none) (by decide) rfl ?_
  intro p e s m args below meth c s₁ B hml hv
  obtain ⟨rfl, hsz, hP, hK, hD0⟩ := hv
  have hx := B.exec
  have hb := B.bytes
  have hr := B.returns
  have hts := atoms_spec (ws := wsX1_shift) B.pre
  have hown : s.vm.findClass RX1 = some m.cls := findClass_of_methodNamed B.named
  have hlocks := B.notSynchronized
  have kf26 := hts (.fieldLink RX1 26 "PathOddsModel" "old" "[D") (by decide +kernel)
  have kf23 := hts (.fieldLink RX1 23 "PathOddsModel" "now" "[D") (by decide +kernel)
  have hin : ∀ w ∈ u_ws RX1 TX1 11, w ∈ wsX1_shift := by decide +kernel
  have hl := lv_entry ([.ref (ad 0)]) (n := 2) (Nat.le_of_ble_eq_true rfl)
  rw [lg_entry_eq]
  generalize (lg_sl ([.ref (ad 0)]) ++ List.replicate (2 - (lg_sl ([.ref (ad 0)])).length) Slot.unset).toArray = ls at hl ⊢
  have hl : lv_has ls 2 [(0, .ref (ad 0))] := hl
  subst hsz
  have hD := hD0.self (sz := s.heap.size)
  generalize hAe : va_A (wM kk ad (n) (len) (th) (I) (F) (J)) s.heap.size = A at hD ⊢
  have hA : ∀ q : Nat, s.heap.size ≤ q → A q := fun q h => by rw [← hAe]; exact Or.inr h
  have hS : va_S A s.heap s.heap [] := va_S.rf
  have hkc : 0 + 0 ≤ 0 := Nat.le_refl 0
  have hks : 0 + 0 ≤ 0 := Nat.le_refl 0
  refine lv_iconst (v := nI (0)) hx hb dX1_shift_0 (by decide) ?_
  refine lv_istore_n (lv' := [(1, .int (nI (0))), (0, .ref (ad 0))]) hx hb dX1_shift_1 rfl hl (by decide) rfl (fun ls hl => ?_)
  refine q_loop (head := 2) (6) (fun k H locs ls => ∃ (F1 : Nat → Nat → UInt64), ((∀ q, q ≠ 6 → F1 q = F q) ∧ ∀ j, j < k → F1 6 j = F 5 j) ∧ va_P (dC, dI) vwCl (wM kk ad (n) (len) (th) (I) (F1) (J)) H ∧ va_D A (wM kk ad (n) (len) (th) (I) (F1) (J)) ∧ va_S A s.heap H locs ∧ lv_has ls 2 [(1, .int (nI (k))), (0, .ref (ad 0))]) ?_ ?_ (0) (by omega) ⟨_, ⟨fun _ _ => rfl, fun _ h => absurd h (Nat.not_lt_zero _)⟩, hP, hD, hS, lv_sub hl [0, 1] rfl⟩
  · rintro k H locs ls hk ⟨F1, hf, hP, hD, hS, hl⟩ ih
    refine lv_iload_n hx hb dX1_shift_2 rfl (lv_at hl 0 rfl) ?_
    refine lv_bipush (v := nI (6)) hx hb dX1_shift_3 (by decide) ?_
    refine q_gen (tgt := 26) hx hb (by omega) (by omega) (by omega) dX1_shift_5 (by decide) ?_
    refine lv_aload_n hx hb dX1_shift_8 rfl (lv_at hl 1 rfl) ?_
    refine y_get hx hb hts hin hown hK hP 8 (by decide) (v := .ref (ad 6)) rfl kf26 dX1_shift_9 ?_
    refine lv_iload_n hx hb dX1_shift_12 rfl (lv_at hl 0 rfl) ?_
    refine lv_aload_n hx hb dX1_shift_13 rfl (lv_at hl 1 rfl) ?_
    refine y_get hx hb hts hin hown hK hP 7 (by decide) (v := .ref (ad 5)) rfl kf23 dX1_shift_14 ?_
    refine lv_iload_n hx hb dX1_shift_17 rfl (lv_at hl 0 rfl) ?_
    refine y_dl (k := 5) (i := k) 6 hx hb hK hP (by omega) (rfl) (by omega) (by decide) dX1_shift_18 ?_
    refine y_ds (k := 6) (i := k) (v := F1 (5) (k)) 6 hx hb hK hP hD hS (by omega) (fun _ => rfl) (by omega) (by decide) dX1_shift_19 (fun H locs hP hD hS => ?_)
    refine lv_iinc (v := nI ((k) + 1)) (lv' := [(1, .int (nI ((k) + 1))), (0, .ref (ad 0))]) hx hb dX1_shift_20 hl (k := 0) rfl (q_inc _) (by decide) rfl (fun ls hl => ?_)
    refine lv_goto (tgt := 2) hx hb dX1_shift_23 (by decide) ?_
    have e5 : F1 5 = F 5 := hf.1 5 (by decide)
    exact ih _ _ _ ⟨_, ⟨fun q hq => by rw [up2_r F1 _ hq]; exact hf.1 q hq, fun j hj => by
        by_cases e : j = k
        · subst e; rw [up2_s, e5]
        · rw [up2_o F1 _ (Or.inr e)]; exact hf.2 j (by omega)⟩, hP, hD, hS, lv_sub hl [0, 1] rfl⟩
  · rintro H locs ls ⟨F1, hf, hP, hD, hS, hl⟩
    refine lv_iload_n hx hb dX1_shift_2 rfl (lv_at hl 0 rfl) ?_
    refine lv_bipush (v := nI (6)) hx hb dX1_shift_3 (by decide) ?_
    refine q_gey (tgt := 26) hx hb (by omega) (by omega) (by omega) dX1_shift_5 (by decide) ?_
    exact W.vret hx hb hr (fun t ht hW => ⟨⟨_, rfl, hf, by rw [ht]; exact hP, va_K.moved hW.alike hK, hD⟩, hS.F ht⟩) hS.2.2 dX1_shift_26

set_option maxHeartbeats 4000000 in
set_option maxRecDepth 100000 in
/-- ahead(tt) -/
theorem c_X1_ahead (l : Launch) (dC : Nat → ClassId) (dI : Nat → Nat → Nat) (kk : Nat → ClassId) (ad : Nat → Nat) (sz : Nat) (nn ll tt : Nat) (th : Int32) (sg : Nat → Nat) (S : Nat → UInt64) (M E : Nat → Nat → UInt64) (I : Nat → Nat → Int32) (F : Nat → Nat → UInt64) (J : Nat → Nat → Int64) (h1 : 1 ≤ nn) (h6 : nn ≤ 6) (h12 : ll ≤ 12) (htt : tt < ll) (hrw : mRw ll sg I) (hw : mWt S M E F) (hwt : wts S M E) : Met l yX1_ahead wsX1_ahead ({ frames := 1, cells := 0, slots := 0, locals := 30 }) (pW dC dI kk [.ref (ad 0), .int (nI (tt))] (wM kk ad (nI nn) (nI ll) (th) (I) (F) (J)) sz) (va_Qv (fun (G : Nat → Nat → UInt64) => (∀ q, q < 5 → G q = F q) ∧ ∀ j, j < nn → G 5 j = fw nn sg S M E tt j) (fun (G : Nat → Nat → UInt64) t => bW dC dI kk (va_A (wM kk ad (nI nn) (nI ll) (th) (I) (F) (J)) sz) (wM kk ad (nI nn) (nI ll) th I G J) t) (va_A (wM kk ad (nI nn) (nI ll) (th) (I) (F) (J)) sz)) 0 0 (va_A (wM kk ad (nI nn) (nI ll) (th) (I) (F) (J)) sz) := by
  refine Met.ofW (cc := cX1_ahead) (maxL := 7) (ret := none) (by decide) rfl ?_
  intro p e s m args below meth c s₁ B hml hv
  obtain ⟨rfl, hsz, hP, hK, hD0⟩ := hv
  have hx := B.exec
  have hb := B.bytes
  have hr := B.returns
  have hts := atoms_spec (ws := wsX1_ahead) B.pre
  have hown : s.vm.findClass RX1 = some m.cls := findClass_of_methodNamed B.named
  have hlocks := B.notSynchronized
  have kf36 := hts (.fieldLink RX1 36 "PathOddsModel" "n" "I") (by decide +kernel)
  have kf23 := hts (.fieldLink RX1 23 "PathOddsModel" "now" "[D") (by decide +kernel)
  have kf7 := hts (.fieldLink RX1 7 "PathOddsModel" "starts" "[D") (by decide +kernel)
  have kf26 := hts (.fieldLink RX1 26 "PathOddsModel" "old" "[D") (by decide +kernel)
  have kf13 := hts (.fieldLink RX1 13 "PathOddsModel" "moves" "[D") (by decide +kernel)
  have hin : ∀ w ∈ u_ws RX1 TX1 11, w ∈ wsX1_ahead := by decide +kernel
  have hl := lv_entry ([.ref (ad 0), .int (nI (tt))]) (n := 7) (Nat.le_of_ble_eq_true rfl)
  rw [lg_entry_eq]
  generalize (lg_sl ([.ref (ad 0), .int (nI (tt))]) ++ List.replicate (7 - (lg_sl ([.ref (ad 0), .int (nI (tt))])).length) Slot.unset).toArray = ls at hl ⊢
  have hl : lv_has ls 7 [(0, .ref (ad 0)), (1, .int (nI (tt)))] := hl
  subst hsz
  have hD := hD0.self (sz := s.heap.size)
  generalize hAe : va_A (wM kk ad (nI nn) (nI ll) (th) (I) (F) (J)) s.heap.size = A at hD ⊢
  have hA : ∀ q : Nat, s.heap.size ≤ q → A q := fun q h => by rw [← hAe]; exact Or.inr h
  have hS : va_S A s.heap s.heap [] := va_S.rf
  have hkc : 0 + 0 ≤ 0 := Nat.le_refl 0
  have hks : 0 + 0 ≤ 0 := Nat.le_refl 0
  refine lv_iconst (v := nI (0)) hx hb dX1_ahead_0 (by decide) ?_
  refine lv_istore_n (lv' := [(2, .int (nI (0))), (0, .ref (ad 0)), (1, .int (nI (tt)))]) hx hb dX1_ahead_1 rfl hl (by decide) rfl (fun ls hl => ?_)
  refine q_loop (head := 2) (nn) (fun k H locs ls => ∃ (F1 : Nat → Nat → UInt64), ((∀ q, q < 5 → F1 q = F q) ∧ ∀ j, j < k → F1 5 j = fw nn sg S M E 0 j) ∧ va_P (dC, dI) vwCl (wM kk ad (nI nn) (nI ll) (th) (I) (F1) (J)) H ∧ va_D A (wM kk ad (nI nn) (nI ll) (th) (I) (F1) (J)) ∧ va_S A s.heap H locs ∧ lv_has ls 7 [(2, .int (nI (k))), (0, .ref (ad 0)), (1, .int (nI (tt)))]) ?_ ?_ (0) (by omega) ⟨_, ⟨fun _ _ => rfl, fun _ h => absurd h (Nat.not_lt_zero _)⟩, hP, hD, hS, lv_sub hl [0, 1, 2] rfl⟩
  · rintro k H locs ls hk ⟨F1, hf, hP, hD, hS, hl⟩ ih
    have hw2 : mWt S M E F1 := mWt_keep hw hf.1
    refine lv_iload_n hx hb dX1_ahead_2 rfl (lv_at hl 0 rfl) ?_
    refine lv_aload_n hx hb dX1_ahead_3 rfl (lv_at hl 1 rfl) ?_
    refine y_get hx hb hts hin hown hK hP 0 (by decide) (v := .int (nI nn)) rfl kf36 dX1_ahead_4 ?_
    refine q_gen (tgt := 35) hx hb (by omega) (by omega) (by omega) dX1_ahead_7 (by decide) ?_
    refine lv_aload_n hx hb dX1_ahead_10 rfl (lv_at hl 1 rfl) ?_
    refine y_get hx hb hts hin hown hK hP 7 (by decide) (v := .ref (ad 5)) rfl kf23 dX1_ahead_11 ?_
    refine lv_iload_n hx hb dX1_ahead_14 rfl (lv_at hl 0 rfl) ?_
    refine lv_aload_n hx hb dX1_ahead_15 rfl (lv_at hl 1 rfl) ?_
    refine y_get hx hb hts hin hown hK hP 3 (by decide) (v := .ref (ad 1)) rfl kf7 dX1_ahead_16 ?_
    refine lv_iload_n hx hb dX1_ahead_19 rfl (lv_at hl 0 rfl) ?_
    refine y_dl (k := 1) (i := k) 6 hx hb hK hP (by omega) (rfl) (by omega) (by decide) dX1_ahead_20 ?_
    refine lv_aload_n hx hb dX1_ahead_21 rfl (lv_at hl 1 rfl) ?_
    refine lv_iload_n hx hb dX1_ahead_22 rfl (lv_at hl 0 rfl) ?_
    refine lv_iconst (v := nI (0)) hx hb dX1_ahead_23 (by decide) ?_
    refine vp_callSd (W.runV (As := [.int (nI (k)), .int (nI (0))]) (rest := [.double (F1 (1) (k)), .int (nI (k)), .ref (ad 5)]) ⟨hx, hb, hml, hown, hts⟩ (c_X1_shown l dC dI kk ad _ _ _ I F1 J (k) (0) (sg (0)) (by omega) (by omega) (hrw (0) (by omega)).2 (hrw (0) (by omega)).1) (cwV 2 hts gX1_ahead_X1_shown rfl rfl rfl (by decide +kernel) ⟨Nat.le_of_ble_eq_true rfl, Nat.le_of_ble_eq_true rfl⟩) ⟨pR_blind, va_recv hK hP (ci := 1) (q0 := 0) rfl wM_0, pR_pre hK hP⟩ rfl rfl hl.1 rfl (lv_room (Nat.le_of_ble_eq_true rfl)) dX1_ahead_24 ⟨hkc, hks⟩) (fun r1 e1 => ?_)
    subst e1
    have hv : FP.dmul (F1 (1) (k)) (F1 3 (4 * (k) + sg (0))) = fw nn sg S M E 0 k := by
      rw [hw2.1 k (by omega), hw2.2.2 k (sg 0) (by omega) (hrw 0 (by omega)).2]
      rfl
    have hdb := fw_dB hwt h6 0 (by omega) (fun v hv => (hrw v (by omega)).2) k hk
    refine lv_dmul hx hb dX1_ahead_27 (dB_n (by rw [hv]; exact hdb)) ?_
    refine y_ds (k := 5) (i := k) (v := FP.dmul (F1 (1) (k)) (F1 3 (4 * (k) + sg (0)))) 6 hx hb hK hP hD hS (by omega) (fun _ => rfl) (by omega) (by decide) dX1_ahead_28 (fun H locs hP hD hS => ?_)
    refine lv_iinc (v := nI ((k) + 1)) (lv' := [(2, .int (nI ((k) + 1))), (0, .ref (ad 0)), (1, .int (nI (tt)))]) hx hb dX1_ahead_29 hl (k := 0) rfl (q_inc _) (by decide) rfl (fun ls hl => ?_)
    refine lv_goto (tgt := 2) hx hb dX1_ahead_32 (by decide) ?_
    exact ih _ _ _ ⟨_, ⟨fun q hq => by rw [up2_r F1 _ (by omega)]; exact hf.1 q hq, fun j hj => by
        by_cases e : j = k
        · subst e; rw [up2_s]; exact hv
        · rw [up2_o F1 _ (Or.inr e)]; exact hf.2 j (by omega)⟩, hP, hD, hS, lv_sub hl [0, 1, 2] rfl⟩
  · rintro H locs ls ⟨F1, hf, hP, hD, hS, hl⟩
    refine lv_iload_n hx hb dX1_ahead_2 rfl (lv_at hl 0 rfl) ?_
    refine lv_aload_n hx hb dX1_ahead_3 rfl (lv_at hl 1 rfl) ?_
    refine y_get hx hb hts hin hown hK hP 0 (by decide) (v := .int (nI nn)) rfl kf36 dX1_ahead_4 ?_
    refine q_gey (tgt := 35) hx hb (by omega) (by omega) (by omega) dX1_ahead_7 (by decide) ?_
    refine lv_iconst (v := nI (1)) hx hb dX1_ahead_35 (by decide) ?_
    refine lv_istore_n (lv' := [(2, .int (nI (1))), (0, .ref (ad 0)), (1, .int (nI (tt)))]) hx hb dX1_ahead_36 rfl hl (by decide) rfl (fun ls hl => ?_)
    refine q_loop (head := 37) (tt) (fun u H locs ls => ∃ (F2 : Nat → Nat → UInt64), ((∀ q, q < 5 → F2 q = F q) ∧ ∀ j, j < nn → F2 5 j = fw nn sg S M E u j) ∧ va_P (dC, dI) vwCl (wM kk ad (nI nn) (nI ll) (th) (I) (F2) (J)) H ∧ va_D A (wM kk ad (nI nn) (nI ll) (th) (I) (F2) (J)) ∧ va_S A s.heap H locs ∧ lv_has ls 7 [(2, .int (nI (u + 1))), (0, .ref (ad 0)), (1, .int (nI (tt)))]) ?_ ?_ (0) (by omega) ⟨_, hf, hP, hD, hS, lv_sub hl [0, 1, 2] rfl⟩
    · rintro u H locs ls hu ⟨F2, hg, hP, hD, hS, hl⟩ ih2
      refine lv_iload_n hx hb dX1_ahead_37 rfl (lv_at hl 0 rfl) ?_
      refine lv_iload_n hx hb dX1_ahead_38 rfl (lv_at hl 2 rfl) ?_
      refine q_gtn (tgt := 129) hx hb (by omega) (by omega) (by omega) dX1_ahead_39 (by decide) ?_
      refine lv_aload_n hx hb dX1_ahead_42 rfl (lv_at hl 1 rfl) ?_
      have hFc := q_free hD hS hA
      refine va_callv (va_runV (As := []) (rest := []) ⟨hx, hb, hml, hown, hts⟩ (c_X1_shift l dC dI kk ad _ (nI nn) (nI ll) th I F2 J) (cwV 0 hts gX1_ahead_X1_shift rfl rfl rfl (by decide +kernel) ⟨Nat.le_of_ble_eq_true rfl, Nat.le_of_ble_eq_true rfl⟩) ⟨pW_blind, va_recv hK hP (ci := 1) (q0 := 0) rfl wM_0, pW_pre hK hP hD⟩ rfl rfl hl.1 rfl (lv_room (Nat.le_of_ble_eq_true rfl)) dX1_ahead_43 ⟨hkc, hks⟩) hS (fun q _ h => hFc q h) hFc (fun F3 t H1 locs ht hvm hs hB hz1 hk1 hS => ?_)
      obtain ⟨hP1, -, hD1⟩ := hB
      rw [ht] at hP1
      have hP := hP1
      have hD := hD1.weaken (fun _ q _ h => hFc q.1 h)
      clear hP1 hD1 hFc ht hk1 hz1
      have hs3 : ∀ q, q < 5 → F3 q = F q := fun q hq => by rw [hs.1 q (by omega)]; exact hg.1 q hq
      have ho3 : ∀ i, i < nn → F3 6 i = fw nn sg S M E u i := fun i hi => by rw [hs.2 i (by omega)]; exact hg.2 i hi
      refine lv_iconst (v := nI (0)) hx hb dX1_ahead_46 (by decide) ?_
      refine lv_istore_n (lv' := [(3, .int (nI (0))), (2, .int (nI (u + 1))), (0, .ref (ad 0)), (1, .int (nI (tt)))]) hx hb dX1_ahead_47 rfl hl (by decide) rfl (fun ls hl => ?_)
      refine q_loop (head := 48) (nn) (fun k H locs ls => ∃ (F4 : Nat → Nat → UInt64), ((∀ q, q < 5 → F4 q = F q) ∧ (∀ i, i < nn → F4 6 i = fw nn sg S M E u i) ∧ ∀ j, j < k → F4 5 j = fw nn sg S M E (u + 1) j) ∧ va_P (dC, dI) vwCl (wM kk ad (nI nn) (nI ll) (th) (I) (F4) (J)) H ∧ va_D A (wM kk ad (nI nn) (nI ll) (th) (I) (F4) (J)) ∧ va_S A s.heap H locs ∧ lv_has ls 7 [(3, .int (nI (k))), (2, .int (nI (u + 1))), (0, .ref (ad 0)), (1, .int (nI (tt)))]) ?_ ?_ (0) (by omega) ⟨_, ⟨hs3, ho3, fun _ h => absurd h (Nat.not_lt_zero _)⟩, hP, hD, hS, lv_sub hl [0, 1, 2, 3] rfl⟩
      · rintro k H locs ls hk ⟨F4, hf4, hP, hD, hS, hl⟩ ih4
        have hw2 : mWt S M E F4 := mWt_keep hw hf4.1
        have hF4 : ∀ i, i < nn → dB (16 * u + 2) (F4 6 i) := fun i hi => by
          rw [hf4.2.1 i hi]
          exact fw_dB hwt h6 u (by omega) (fun v hv => (hrw v (by omega)).2) i hi
        have hM4 : ∀ i, i < nn → dB 0 (F4 2 (6 * i + k)) := fun i hi => by
          rw [hw2.2.1 i k (by omega) (by omega)]
          exact hwt.2.1 i k (by omega) (by omega)
        refine lv_iload_n hx hb dX1_ahead_48 rfl (lv_at hl 0 rfl) ?_
        refine lv_aload_n hx hb dX1_ahead_49 rfl (lv_at hl 2 rfl) ?_
        refine y_get hx hb hts hin hown hK hP 0 (by decide) (v := .int (nI nn)) rfl kf36 dX1_ahead_50 ?_
        refine q_gen (tgt := 123) hx hb (by omega) (by omega) (by omega) dX1_ahead_53 (by decide) ?_
        refine lv_dconst0 hx hb dX1_ahead_56 ?_
        refine lv_dstore (lv' := [(4, .double (FP.dconst0)), (3, .int (nI (k))), (2, .int (nI (u + 1))), (0, .ref (ad 0)), (1, .int (nI (tt)))]) hx hb dX1_ahead_57 hl (by decide) rfl (fun ls hl => ?_)
        refine lv_iconst (v := nI (0)) hx hb dX1_ahead_59 (by decide) ?_
        refine lv_istore (lv' := [(6, .int (nI (0))), (4, .double (FP.dconst0)), (3, .int (nI (k))), (2, .int (nI (u + 1))), (0, .ref (ad 0)), (1, .int (nI (tt)))]) hx hb dX1_ahead_60 hl (by decide) rfl (fun ls hl => ?_)
        refine q_loop (head := 62) (nn) (fun q H9 locs9 ls => H9 = H ∧ locs9 = locs ∧ lv_has ls 7 [(6, .int (nI (q))), (4, .double (sumTo (fun i => FP.dmul (F4 6 i) (F4 2 (6 * i + k))) q)), (3, .int (nI (k))), (2, .int (nI (u + 1))), (0, .ref (ad 0)), (1, .int (nI (tt)))]) ?_ ?_ (0) (by omega) ⟨rfl, rfl, lv_sub hl [0, 1, 2, 3, 4, 5] rfl⟩
        · rintro q H9 locs9 ls hq ⟨e91, e92, hl⟩ ih6
          subst e91 e92
          have b1 := sumTo_dB (f := (fun i => FP.dmul (F4 6 i) (F4 2 (6 * i + k)))) q (fun i hi => dB_mul (hF4 i (by omega)) (hM4 i (by omega)) (by omega)) (by omega)
          have b2 := dB_mul (hF4 q hq) (hM4 q hq) (by omega)
          have b3 := dB_add b1 (dB_mono b2 (by omega)) (by omega)
          refine lv_iload hx hb dX1_ahead_62 (lv_at hl 0 rfl) ?_
          refine lv_aload_n hx hb dX1_ahead_64 rfl (lv_at hl 4 rfl) ?_
          refine y_get hx hb hts hin hown hK hP 0 (by decide) (v := .int (nI nn)) rfl kf36 dX1_ahead_65 ?_
          refine q_gen (tgt := 102) hx hb (by omega) (by omega) (by omega) dX1_ahead_68 (by decide) ?_
          refine lv_dload hx hb dX1_ahead_71 (lv_at hl 1 rfl) ?_
          refine lv_aload_n hx hb dX1_ahead_73 rfl (lv_at hl 4 rfl) ?_
          refine y_get hx hb hts hin hown hK hP 8 (by decide) (v := .ref (ad 6)) rfl kf26 dX1_ahead_74 ?_
          refine lv_iload hx hb dX1_ahead_77 (lv_at hl 0 rfl) ?_
          refine y_dl (k := 6) (i := q) 6 hx hb hK hP (by omega) (rfl) (by omega) (by decide) dX1_ahead_79 ?_
          refine lv_aload_n hx hb dX1_ahead_80 rfl (lv_at hl 4 rfl) ?_
          refine y_get hx hb hts hin hown hK hP 4 (by decide) (v := .ref (ad 2)) rfl kf13 dX1_ahead_81 ?_
          refine lv_bipush (v := nI (6)) hx hb dX1_ahead_84 (by decide) ?_
          refine lv_iload hx hb dX1_ahead_86 (lv_at hl 0 rfl) ?_
          refine lv_imul hx hb dX1_ahead_88 ?_
          refine q_top (y := nI ((6) * (q))) (pk_mul _ _) ?_
          refine lv_iload_n hx hb dX1_ahead_89 rfl (lv_at hl 2 rfl) ?_
          refine lv_iadd hx hb dX1_ahead_90 ?_
          refine q_top (y := nI (((6) * (q)) + (k))) (nI_add _ _) ?_
          refine y_dl (k := 2) (i := ((6) * (q)) + (k)) 36 hx hb hK hP (by omega) (rfl) (by omega) (by decide) dX1_ahead_91 ?_
          refine lv_dmul hx hb dX1_ahead_92 (dB_n b2) ?_
          refine lv_dadd hx hb dX1_ahead_93 (dB_n b3) ?_
          refine lv_dstore (lv' := [(4, .double (FP.dadd (sumTo (fun i => FP.dmul (F4 6 i) (F4 2 (6 * i + k))) q) (FP.dmul (F4 (6) (q)) (F4 (2) (((6) * (q)) + (k)))))), (6, .int (nI (q))), (3, .int (nI (k))), (2, .int (nI (u + 1))), (0, .ref (ad 0)), (1, .int (nI (tt)))]) hx hb dX1_ahead_94 hl (by decide) rfl (fun ls hl => ?_)
          refine lv_iinc (v := nI ((q) + 1)) (lv' := [(6, .int (nI ((q) + 1))), (4, .double (FP.dadd (sumTo (fun i => FP.dmul (F4 6 i) (F4 2 (6 * i + k))) q) (FP.dmul (F4 (6) (q)) (F4 (2) (((6) * (q)) + (k)))))), (3, .int (nI (k))), (2, .int (nI (u + 1))), (0, .ref (ad 0)), (1, .int (nI (tt)))]) hx hb dX1_ahead_96 hl (k := 1) rfl (q_inc _) (by decide) rfl (fun ls hl => ?_)
          refine lv_goto (tgt := 62) hx hb dX1_ahead_99 (by decide) ?_
          exact ih6 _ _ _ ⟨rfl, rfl, lv_sub hl [0, 1, 2, 3, 4, 5] rfl⟩
        · rintro H9 locs9 ls ⟨e91, e92, hl⟩
          subst e91 e92
          refine lv_iload hx hb dX1_ahead_62 (lv_at hl 0 rfl) ?_
          refine lv_aload_n hx hb dX1_ahead_64 rfl (lv_at hl 4 rfl) ?_
          refine y_get hx hb hts hin hown hK hP 0 (by decide) (v := .int (nI nn)) rfl kf36 dX1_ahead_65 ?_
          refine q_gey (tgt := 102) hx hb (by omega) (by omega) (by omega) dX1_ahead_68 (by decide) ?_
          refine lv_aload_n hx hb dX1_ahead_102 rfl (lv_at hl 4 rfl) ?_
          refine y_get hx hb hts hin hown hK hP 7 (by decide) (v := .ref (ad 5)) rfl kf23 dX1_ahead_103 ?_
          refine lv_iload_n hx hb dX1_ahead_106 rfl (lv_at hl 2 rfl) ?_
          refine lv_dload hx hb dX1_ahead_107 (lv_at hl 1 rfl) ?_
          refine lv_aload_n hx hb dX1_ahead_109 rfl (lv_at hl 4 rfl) ?_
          refine lv_iload_n hx hb dX1_ahead_110 rfl (lv_at hl 2 rfl) ?_
          refine lv_iload_n hx hb dX1_ahead_111 rfl (lv_at hl 3 rfl) ?_
          refine vp_callSd (W.runV (As := [.int (nI (k)), .int (nI (u + 1))]) (rest := [.double (sumTo (fun i => FP.dmul (F4 6 i) (F4 2 (6 * i + k))) (nn)), .int (nI (k)), .ref (ad 5)]) ⟨hx, hb, hml, hown, hts⟩ (c_X1_shown l dC dI kk ad _ _ _ I F4 J (k) (u + 1) (sg (u + 1)) (by omega) (by omega) (hrw (u + 1) (by omega)).2 (hrw (u + 1) (by omega)).1) (cwV 2 hts gX1_ahead_X1_shown rfl rfl rfl (by decide +kernel) ⟨Nat.le_of_ble_eq_true rfl, Nat.le_of_ble_eq_true rfl⟩) ⟨pR_blind, va_recv hK hP (ci := 1) (q0 := 0) rfl wM_0, pR_pre hK hP⟩ rfl rfl hl.1 rfl (lv_room (Nat.le_of_ble_eq_true rfl)) dX1_ahead_112 ⟨hkc, hks⟩) (fun r1 e1 => ?_)
          subst e1
          have hv : FP.dmul (sumTo (fun i => FP.dmul (F4 6 i) (F4 2 (6 * i + k))) nn) (F4 3 (4 * (k) + sg (u + 1))) = fw nn sg S M E (u + 1) k := by
            rw [fw_1, hw2.2.2 k (sg (u + 1)) (by omega) (hrw (u + 1) (by omega)).2]
            refine congrArg (fun z => FP.dmul z (E k (sg (u + 1)))) (sumTo_congr nn (fun i hi => ?_))
            show FP.dmul (F4 6 i) (F4 2 (6 * i + k)) = _
            rw [hf4.2.1 i hi, hw2.2.1 i k (by omega) (by omega)]
          have hdb := fw_dB hwt h6 (u + 1) (by omega) (fun v hv => (hrw v (by omega)).2) k hk
          refine lv_dmul hx hb dX1_ahead_115 (dB_n (by rw [show _ = _ from hv]; exact hdb)) ?_
          refine y_ds (k := 5) (i := k) (v := FP.dmul (sumTo (fun i => FP.dmul (F4 6 i) (F4 2 (6 * i + k))) (nn)) (F4 3 (4 * (k) + sg (u + 1)))) 6 hx hb hK hP hD hS (by omega) (fun _ => rfl) (by omega) (by decide) dX1_ahead_116 (fun H locs hP hD hS => ?_)
          refine lv_iinc (v := nI ((k) + 1)) (lv' := [(3, .int (nI ((k) + 1))), (6, .int (nI ((nn)))), (4, .double (sumTo (fun i => FP.dmul (F4 6 i) (F4 2 (6 * i + k))) (nn))), (2, .int (nI (u + 1))), (0, .ref (ad 0)), (1, .int (nI (tt)))]) hx hb dX1_ahead_117 hl (k := 2) rfl (q_inc _) (by decide) rfl (fun ls hl => ?_)
          refine lv_goto (tgt := 48) hx hb dX1_ahead_120 (by decide) ?_
          exact ih4 _ _ _ ⟨_, ⟨fun q hq => by rw [up2_r F4 _ (by omega)]; exact hf4.1 q hq, fun i hi => by rw [up2_o F4 _ (by omega)]; exact hf4.2.1 i hi, fun j hj => by
              by_cases e : j = k
              · subst e; rw [up2_s]; exact hv
              · rw [up2_o F4 _ (Or.inr e)]; exact hf4.2.2 j (by omega)⟩, hP, hD, hS, lv_sub hl [0, 3, 4, 5] rfl⟩
      · rintro H locs ls ⟨F4, hf4, hP, hD, hS, hl⟩
        refine lv_iload_n hx hb dX1_ahead_48 rfl (lv_at hl 0 rfl) ?_
        refine lv_aload_n hx hb dX1_ahead_49 rfl (lv_at hl 2 rfl) ?_
        refine y_get hx hb hts hin hown hK hP 0 (by decide) (v := .int (nI nn)) rfl kf36 dX1_ahead_50 ?_
        refine q_gey (tgt := 123) hx hb (by omega) (by omega) (by omega) dX1_ahead_53 (by decide) ?_
        refine lv_iinc (v := nI ((u + 1) + 1)) (lv' := [(2, .int (nI ((u + 1) + 1))), (3, .int (nI ((nn)))), (0, .ref (ad 0)), (1, .int (nI (tt)))]) hx hb dX1_ahead_123 hl (k := 1) rfl (q_inc _) (by decide) rfl (fun ls hl => ?_)
        refine lv_goto (tgt := 37) hx hb dX1_ahead_126 (by decide) ?_
        exact ih2 _ _ _ ⟨_, ⟨hf4.1, hf4.2.2⟩, hP, hD, hS, lv_sub hl [0, 2, 3] rfl⟩
    · rintro H locs ls ⟨F2, hg, hP, hD, hS, hl⟩
      refine lv_iload_n hx hb dX1_ahead_37 rfl (lv_at hl 0 rfl) ?_
      refine lv_iload_n hx hb dX1_ahead_38 rfl (lv_at hl 2 rfl) ?_
      refine q_gty (tgt := 129) hx hb (by omega) (by omega) (by omega) dX1_ahead_39 (by decide) ?_
      exact W.vret hx hb hr (fun t ht hW => ⟨⟨_, rfl, hg, by rw [ht]; exact hP, va_K.moved hW.alike hK, hD⟩, hS.F ht⟩) hS.2.2 dX1_ahead_129

set_option maxHeartbeats 4000000 in
set_option maxRecDepth 100000 in
/-- greatest(tt) -/
theorem c_X1_greatest (l : Launch) (dC : Nat → ClassId) (dI : Nat → Nat → Nat) (kk : Nat → ClassId) (ad : Nat → Nat) (sz : Nat) (nn ll tt : Nat) (th : Int32) (sg : Nat → Nat) (S : Nat → UInt64) (M E : Nat → Nat → UInt64) (I : Nat → Nat → Int32) (F : Nat → Nat → UInt64) (J : Nat → Nat → Int64) (h1 : 1 ≤ nn) (h6 : nn ≤ 6) (h12 : ll ≤ 12) (htt : tt < ll) (hrw : mRw ll sg I) (hw : mWt S M E F) (hwt : wts S M E) : Met l yX1_greatest wsX1_greatest ({ frames := 1, cells := 0, slots := 0, locals := 30 }) (pW dC dI kk [.ref (ad 0), .int (nI (tt))] (wM kk ad (nI nn) (nI ll) (th) (I) (F) (J)) sz) (va_Qv (fun (G : Nat → Nat → UInt64) => (∀ q, q < 5 → G q = F q) ∧ ∀ j, j < nn → G 5 j = vt nn sg S M E tt j) (fun (G : Nat → Nat → UInt64) t => bW dC dI kk (va_A (wM kk ad (nI nn) (nI ll) (th) (I) (F) (J)) sz) (wM kk ad (nI nn) (nI ll) th I G J) t) (va_A (wM kk ad (nI nn) (nI ll) (th) (I) (F) (J)) sz)) 0 0 (va_A (wM kk ad (nI nn) (nI ll) (th) (I) (F) (J)) sz) := by
  refine Met.ofW (cc := cX1_greatest) (maxL := 4) (ret := none) (by decide) rfl ?_
  intro p e s m args below meth c s₁ B hml hv
  obtain ⟨rfl, hsz, hP, hK, hD0⟩ := hv
  have hx := B.exec
  have hb := B.bytes
  have hr := B.returns
  have hts := atoms_spec (ws := wsX1_greatest) B.pre
  have hown : s.vm.findClass RX1 = some m.cls := findClass_of_methodNamed B.named
  have hlocks := B.notSynchronized
  have kf36 := hts (.fieldLink RX1 36 "PathOddsModel" "n" "I") (by decide +kernel)
  have kf23 := hts (.fieldLink RX1 23 "PathOddsModel" "now" "[D") (by decide +kernel)
  have kf7 := hts (.fieldLink RX1 7 "PathOddsModel" "starts" "[D") (by decide +kernel)
  have kf26 := hts (.fieldLink RX1 26 "PathOddsModel" "old" "[D") (by decide +kernel)
  have kf13 := hts (.fieldLink RX1 13 "PathOddsModel" "moves" "[D") (by decide +kernel)
  have hin : ∀ w ∈ u_ws RX1 TX1 11, w ∈ wsX1_greatest := by decide +kernel
  have hl := lv_entry ([.ref (ad 0), .int (nI (tt))]) (n := 4) (Nat.le_of_ble_eq_true rfl)
  rw [lg_entry_eq]
  generalize (lg_sl ([.ref (ad 0), .int (nI (tt))]) ++ List.replicate (4 - (lg_sl ([.ref (ad 0), .int (nI (tt))])).length) Slot.unset).toArray = ls at hl ⊢
  have hl : lv_has ls 4 [(0, .ref (ad 0)), (1, .int (nI (tt)))] := hl
  subst hsz
  have hD := hD0.self (sz := s.heap.size)
  generalize hAe : va_A (wM kk ad (nI nn) (nI ll) (th) (I) (F) (J)) s.heap.size = A at hD ⊢
  have hA : ∀ q : Nat, s.heap.size ≤ q → A q := fun q h => by rw [← hAe]; exact Or.inr h
  have hS : va_S A s.heap s.heap [] := va_S.rf
  have hkc : 0 + 0 ≤ 0 := Nat.le_refl 0
  have hks : 0 + 0 ≤ 0 := Nat.le_refl 0
  refine lv_iconst (v := nI (0)) hx hb dX1_greatest_0 (by decide) ?_
  refine lv_istore_n (lv' := [(2, .int (nI (0))), (0, .ref (ad 0)), (1, .int (nI (tt)))]) hx hb dX1_greatest_1 rfl hl (by decide) rfl (fun ls hl => ?_)
  refine q_loop (head := 2) (nn) (fun k H locs ls => ∃ (F1 : Nat → Nat → UInt64), ((∀ q, q < 5 → F1 q = F q) ∧ ∀ j, j < k → F1 5 j = vt nn sg S M E 0 j) ∧ va_P (dC, dI) vwCl (wM kk ad (nI nn) (nI ll) (th) (I) (F1) (J)) H ∧ va_D A (wM kk ad (nI nn) (nI ll) (th) (I) (F1) (J)) ∧ va_S A s.heap H locs ∧ lv_has ls 4 [(2, .int (nI (k))), (0, .ref (ad 0)), (1, .int (nI (tt)))]) ?_ ?_ (0) (by omega) ⟨_, ⟨fun _ _ => rfl, fun _ h => absurd h (Nat.not_lt_zero _)⟩, hP, hD, hS, lv_sub hl [0, 1, 2] rfl⟩
  · rintro k H locs ls hk ⟨F1, hf, hP, hD, hS, hl⟩ ih
    have hw2 : mWt S M E F1 := mWt_keep hw hf.1
    refine lv_iload_n hx hb dX1_greatest_2 rfl (lv_at hl 0 rfl) ?_
    refine lv_aload_n hx hb dX1_greatest_3 rfl (lv_at hl 1 rfl) ?_
    refine y_get hx hb hts hin hown hK hP 0 (by decide) (v := .int (nI nn)) rfl kf36 dX1_greatest_4 ?_
    refine q_gen (tgt := 35) hx hb (by omega) (by omega) (by omega) dX1_greatest_7 (by decide) ?_
    refine lv_aload_n hx hb dX1_greatest_10 rfl (lv_at hl 1 rfl) ?_
    refine y_get hx hb hts hin hown hK hP 7 (by decide) (v := .ref (ad 5)) rfl kf23 dX1_greatest_11 ?_
    refine lv_iload_n hx hb dX1_greatest_14 rfl (lv_at hl 0 rfl) ?_
    refine lv_aload_n hx hb dX1_greatest_15 rfl (lv_at hl 1 rfl) ?_
    refine y_get hx hb hts hin hown hK hP 3 (by decide) (v := .ref (ad 1)) rfl kf7 dX1_greatest_16 ?_
    refine lv_iload_n hx hb dX1_greatest_19 rfl (lv_at hl 0 rfl) ?_
    refine y_dl (k := 1) (i := k) 6 hx hb hK hP (by omega) (rfl) (by omega) (by decide) dX1_greatest_20 ?_
    refine lv_aload_n hx hb dX1_greatest_21 rfl (lv_at hl 1 rfl) ?_
    refine lv_iload_n hx hb dX1_greatest_22 rfl (lv_at hl 0 rfl) ?_
    refine lv_iconst (v := nI (0)) hx hb dX1_greatest_23 (by decide) ?_
    refine vp_callSd (W.runV (As := [.int (nI (k)), .int (nI (0))]) (rest := [.double (F1 (1) (k)), .int (nI (k)), .ref (ad 5)]) ⟨hx, hb, hml, hown, hts⟩ (c_X1_shown l dC dI kk ad _ _ _ I F1 J (k) (0) (sg (0)) (by omega) (by omega) (hrw (0) (by omega)).2 (hrw (0) (by omega)).1) (cwV 2 hts gX1_greatest_X1_shown rfl rfl rfl (by decide +kernel) ⟨Nat.le_of_ble_eq_true rfl, Nat.le_of_ble_eq_true rfl⟩) ⟨pR_blind, va_recv hK hP (ci := 1) (q0 := 0) rfl wM_0, pR_pre hK hP⟩ rfl rfl hl.1 rfl (lv_room (Nat.le_of_ble_eq_true rfl)) dX1_greatest_24 ⟨hkc, hks⟩) (fun r1 e1 => ?_)
    subst e1
    have hv : FP.dmul (F1 (1) (k)) (F1 3 (4 * (k) + sg (0))) = vt nn sg S M E 0 k := by
      rw [hw2.1 k (by omega), hw2.2.2 k (sg 0) (by omega) (hrw 0 (by omega)).2]
      rfl
    have hdb := vt_dB hwt h1 h6 0 (by omega) (fun v hv => (hrw v (by omega)).2) k hk
    refine lv_dmul hx hb dX1_greatest_27 (dB_n (by rw [hv]; exact hdb)) ?_
    refine y_ds (k := 5) (i := k) (v := FP.dmul (F1 (1) (k)) (F1 3 (4 * (k) + sg (0)))) 6 hx hb hK hP hD hS (by omega) (fun _ => rfl) (by omega) (by decide) dX1_greatest_28 (fun H locs hP hD hS => ?_)
    refine lv_iinc (v := nI ((k) + 1)) (lv' := [(2, .int (nI ((k) + 1))), (0, .ref (ad 0)), (1, .int (nI (tt)))]) hx hb dX1_greatest_29 hl (k := 0) rfl (q_inc _) (by decide) rfl (fun ls hl => ?_)
    refine lv_goto (tgt := 2) hx hb dX1_greatest_32 (by decide) ?_
    exact ih _ _ _ ⟨_, ⟨fun q hq => by rw [up2_r F1 _ (by omega)]; exact hf.1 q hq, fun j hj => by
        by_cases e : j = k
        · subst e; rw [up2_s]; exact hv
        · rw [up2_o F1 _ (Or.inr e)]; exact hf.2 j (by omega)⟩, hP, hD, hS, lv_sub hl [0, 1, 2] rfl⟩
  · rintro H locs ls ⟨F1, hf, hP, hD, hS, hl⟩
    refine lv_iload_n hx hb dX1_greatest_2 rfl (lv_at hl 0 rfl) ?_
    refine lv_aload_n hx hb dX1_greatest_3 rfl (lv_at hl 1 rfl) ?_
    refine y_get hx hb hts hin hown hK hP 0 (by decide) (v := .int (nI nn)) rfl kf36 dX1_greatest_4 ?_
    refine q_gey (tgt := 35) hx hb (by omega) (by omega) (by omega) dX1_greatest_7 (by decide) ?_
    refine lv_iconst (v := nI (1)) hx hb dX1_greatest_35 (by decide) ?_
    refine lv_istore_n (lv' := [(2, .int (nI (1))), (0, .ref (ad 0)), (1, .int (nI (tt)))]) hx hb dX1_greatest_36 rfl hl (by decide) rfl (fun ls hl => ?_)
    refine q_loop (head := 37) (tt) (fun u H locs ls => ∃ (F2 : Nat → Nat → UInt64), ((∀ q, q < 5 → F2 q = F q) ∧ ∀ j, j < nn → F2 5 j = vt nn sg S M E u j) ∧ va_P (dC, dI) vwCl (wM kk ad (nI nn) (nI ll) (th) (I) (F2) (J)) H ∧ va_D A (wM kk ad (nI nn) (nI ll) (th) (I) (F2) (J)) ∧ va_S A s.heap H locs ∧ lv_has ls 4 [(2, .int (nI (u + 1))), (0, .ref (ad 0)), (1, .int (nI (tt)))]) ?_ ?_ (0) (by omega) ⟨_, hf, hP, hD, hS, lv_sub hl [0, 1, 2] rfl⟩
    · rintro u H locs ls hu ⟨F2, hg, hP, hD, hS, hl⟩ ih2
      refine lv_iload_n hx hb dX1_greatest_37 rfl (lv_at hl 0 rfl) ?_
      refine lv_iload_n hx hb dX1_greatest_38 rfl (lv_at hl 2 rfl) ?_
      refine q_gtn (tgt := 107) hx hb (by omega) (by omega) (by omega) dX1_greatest_39 (by decide) ?_
      refine lv_aload_n hx hb dX1_greatest_42 rfl (lv_at hl 1 rfl) ?_
      have hFc := q_free hD hS hA
      refine va_callv (va_runV (As := []) (rest := []) ⟨hx, hb, hml, hown, hts⟩ (c_X1_shift l dC dI kk ad _ (nI nn) (nI ll) th I F2 J) (cwV 0 hts gX1_greatest_X1_shift rfl rfl rfl (by decide +kernel) ⟨Nat.le_of_ble_eq_true rfl, Nat.le_of_ble_eq_true rfl⟩) ⟨pW_blind, va_recv hK hP (ci := 1) (q0 := 0) rfl wM_0, pW_pre hK hP hD⟩ rfl rfl hl.1 rfl (lv_room (Nat.le_of_ble_eq_true rfl)) dX1_greatest_43 ⟨hkc, hks⟩) hS (fun q _ h => hFc q h) hFc (fun F3 t H1 locs ht hvm hs hB hz1 hk1 hS => ?_)
      obtain ⟨hP1, -, hD1⟩ := hB
      rw [ht] at hP1
      have hP := hP1
      have hD := hD1.weaken (fun _ q _ h => hFc q.1 h)
      clear hP1 hD1 hFc ht hk1 hz1
      have hs3 : ∀ q, q < 5 → F3 q = F q := fun q hq => by rw [hs.1 q (by omega)]; exact hg.1 q hq
      have ho3 : ∀ i, i < nn → F3 6 i = vt nn sg S M E u i := fun i hi => by rw [hs.2 i (by omega)]; exact hg.2 i hi
      refine lv_iconst (v := nI (0)) hx hb dX1_greatest_46 (by decide) ?_
      refine lv_istore_n (lv' := [(3, .int (nI (0))), (2, .int (nI (u + 1))), (0, .ref (ad 0)), (1, .int (nI (tt)))]) hx hb dX1_greatest_47 rfl hl (by decide) rfl (fun ls hl => ?_)
      refine q_loop (head := 48) (nn) (fun k H locs ls => ∃ (F4 : Nat → Nat → UInt64), ((∀ q, q < 5 → F4 q = F q) ∧ (∀ i, i < nn → F4 6 i = vt nn sg S M E u i) ∧ ∀ j, j < k → F4 5 j = vt nn sg S M E (u + 1) j) ∧ va_P (dC, dI) vwCl (wM kk ad (nI nn) (nI ll) (th) (I) (F4) (J)) H ∧ va_D A (wM kk ad (nI nn) (nI ll) (th) (I) (F4) (J)) ∧ va_S A s.heap H locs ∧ lv_has ls 4 [(3, .int (nI (k))), (2, .int (nI (u + 1))), (0, .ref (ad 0)), (1, .int (nI (tt)))]) ?_ ?_ (0) (by omega) ⟨_, ⟨hs3, ho3, fun _ h => absurd h (Nat.not_lt_zero _)⟩, hP, hD, hS, lv_sub hl [0, 1, 2, 3] rfl⟩
      · rintro k H locs ls hk ⟨F4, hf4, hP, hD, hS, hl⟩ ih4
        have hw2 : mWt S M E F4 := mWt_keep hw hf4.1
        have hF4 : ∀ i, i < nn → dB (16 * u + 2) (F4 6 i) := fun i hi => by
          rw [hf4.2.1 i hi]
          exact vt_dB hwt h1 h6 u (by omega) (fun v hv => (hrw v (by omega)).2) i hi
        have hM3 : ∀ i, i < nn → F4 2 (6 * i + k) = M i k := fun i hi => hw2.2.1 i k (by omega) (by omega)
        have hM4 : ∀ i, i < nn → dB 0 (F4 2 (6 * i + k)) := fun i hi => by
          rw [hM3 i hi]
          exact hwt.2.1 i k (by omega) (by omega)
        have hfr : fr nn sg S M E u k ≤ nn - 1 := arg_le _ _
        have hfe : arg (fun i => FP.dmul (F4 6 i) (F4 2 (6 * i + k))) (nn - 1) = fr nn sg S M E u k := arg_congr (nn - 1) (fun i hi => by
          show FP.dmul (F4 6 i) (F4 2 (6 * i + k)) = _
          rw [hf4.2.1 i (by omega), hM3 i (by omega)])
        generalize hg9 : fr nn sg S M E u k = g9 at hfr hfe
        refine lv_iload_n hx hb dX1_greatest_48 rfl (lv_at hl 0 rfl) ?_
        refine lv_aload_n hx hb dX1_greatest_49 rfl (lv_at hl 2 rfl) ?_
        refine y_get hx hb hts hin hown hK hP 0 (by decide) (v := .int (nI nn)) rfl kf36 dX1_greatest_50 ?_
        refine q_gen (tgt := 101) hx hb (by omega) (by omega) (by omega) dX1_greatest_53 (by decide) ?_
        refine lv_aload_n hx hb dX1_greatest_56 rfl (lv_at hl 2 rfl) ?_
        refine y_get hx hb hts hin hown hK hP 7 (by decide) (v := .ref (ad 5)) rfl kf23 dX1_greatest_57 ?_
        refine lv_iload_n hx hb dX1_greatest_60 rfl (lv_at hl 0 rfl) ?_
        refine lv_aload_n hx hb dX1_greatest_61 rfl (lv_at hl 2 rfl) ?_
        refine y_get hx hb hts hin hown hK hP 8 (by decide) (v := .ref (ad 6)) rfl kf26 dX1_greatest_62 ?_
        refine lv_aload_n hx hb dX1_greatest_65 rfl (lv_at hl 2 rfl) ?_
        refine lv_iload_n hx hb dX1_greatest_66 rfl (lv_at hl 0 rfl) ?_
        refine vp_callSi (W.runV (As := [.int (nI (k))]) (rest := [.ref (ad 6), .int (nI (k)), .ref (ad 5)]) ⟨hx, hb, hml, hown, hts⟩ (c_X1_from l dC dI kk ad nn ll th I F4 J k (16 * u + 2) (by omega) h1 h6 (by omega) hF4 hM4) (cwV 1 hts gX1_greatest_X1_from rfl rfl rfl (by decide +kernel) ⟨Nat.le_of_ble_eq_true rfl, Nat.le_of_ble_eq_true rfl⟩) ⟨pR_blind, va_recv hK hP (ci := 1) (q0 := 0) rfl wM_0, pR_pre hK hP⟩ rfl rfl hl.1 rfl (lv_room (Nat.le_of_ble_eq_true rfl)) dX1_greatest_67 ⟨hkc, hks⟩) (fun r0 e0s => ?_)
        rw [hfe] at e0s
        subst e0s
        refine y_dl (k := 6) (i := g9) 6 hx hb hK hP (by omega) (rfl) (by omega) (by decide) dX1_greatest_70 ?_
        refine lv_aload_n hx hb dX1_greatest_71 rfl (lv_at hl 2 rfl) ?_
        refine y_get hx hb hts hin hown hK hP 4 (by decide) (v := .ref (ad 2)) rfl kf13 dX1_greatest_72 ?_
        refine lv_bipush (v := nI (6)) hx hb dX1_greatest_75 (by decide) ?_
        refine lv_aload_n hx hb dX1_greatest_77 rfl (lv_at hl 2 rfl) ?_
        refine lv_iload_n hx hb dX1_greatest_78 rfl (lv_at hl 0 rfl) ?_
        refine vp_callSi (W.runV (As := [.int (nI (k))]) (rest := [.int (nI (6)), .ref (ad 2), .double (F4 (6) (g9)), .int (nI (k)), .ref (ad 5)]) ⟨hx, hb, hml, hown, hts⟩ (c_X1_from l dC dI kk ad nn ll th I F4 J k (16 * u + 2) (by omega) h1 h6 (by omega) hF4 hM4) (cwV 1 hts gX1_greatest_X1_from rfl rfl rfl (by decide +kernel) ⟨Nat.le_of_ble_eq_true rfl, Nat.le_of_ble_eq_true rfl⟩) ⟨pR_blind, va_recv hK hP (ci := 1) (q0 := 0) rfl wM_0, pR_pre hK hP⟩ rfl rfl hl.1 rfl (lv_room (Nat.le_of_ble_eq_true rfl)) dX1_greatest_79 ⟨hkc, hks⟩) (fun r0 e0s => ?_)
        rw [hfe] at e0s
        subst e0s
        refine lv_imul hx hb dX1_greatest_82 ?_
        refine q_top (y := nI ((6) * (g9))) (pk_mul _ _) ?_
        refine lv_iload_n hx hb dX1_greatest_83 rfl (lv_at hl 0 rfl) ?_
        refine lv_iadd hx hb dX1_greatest_84 ?_
        refine q_top (y := nI (((6) * (g9)) + (k))) (nI_add _ _) ?_
        refine y_dl (k := 2) (i := ((6) * (g9)) + (k)) 36 hx hb hK hP (by omega) (rfl) (by omega) (by decide) dX1_greatest_85 ?_
        refine lv_dmul hx hb dX1_greatest_86 (dB_n (dB_mul (hF4 g9 (by omega)) (hM4 g9 (by omega)) (by omega))) ?_
        refine lv_aload_n hx hb dX1_greatest_87 rfl (lv_at hl 2 rfl) ?_
        refine lv_iload_n hx hb dX1_greatest_88 rfl (lv_at hl 0 rfl) ?_
        refine lv_iload_n hx hb dX1_greatest_89 rfl (lv_at hl 1 rfl) ?_
        refine vp_callSd (W.runV (As := [.int (nI (k)), .int (nI (u + 1))]) (rest := [.double (FP.dmul (F4 (6) (g9)) (F4 (2) (((6) * (g9)) + (k)))), .int (nI (k)), .ref (ad 5)]) ⟨hx, hb, hml, hown, hts⟩ (c_X1_shown l dC dI kk ad _ _ _ I F4 J (k) (u + 1) (sg (u + 1)) (by omega) (by omega) (hrw (u + 1) (by omega)).2 (hrw (u + 1) (by omega)).1) (cwV 2 hts gX1_greatest_X1_shown rfl rfl rfl (by decide +kernel) ⟨Nat.le_of_ble_eq_true rfl, Nat.le_of_ble_eq_true rfl⟩) ⟨pR_blind, va_recv hK hP (ci := 1) (q0 := 0) rfl wM_0, pR_pre hK hP⟩ rfl rfl hl.1 rfl (lv_room (Nat.le_of_ble_eq_true rfl)) dX1_greatest_90 ⟨hkc, hks⟩) (fun r1 e1 => ?_)
        subst e1
        have hv : FP.dmul (FP.dmul (F4 6 g9) (F4 2 (6 * g9 + k))) (F4 3 (4 * (k) + sg (u + 1))) = vt nn sg S M E (u + 1) k := by
          rw [vt_1, hg9, hf4.2.1 g9 (by omega), hM3 g9 (by omega), hw2.2.2 k (sg (u + 1)) (by omega) (hrw (u + 1) (by omega)).2]
        have hdb := vt_dB hwt h1 h6 (u + 1) (by omega) (fun v hv => (hrw v (by omega)).2) k hk
        refine lv_dmul hx hb dX1_greatest_93 (dB_n (by rw [show _ = _ from hv]; exact hdb)) ?_
        refine y_ds (k := 5) (i := k) (v := FP.dmul (FP.dmul (F4 (6) (g9)) (F4 (2) (((6) * (g9)) + (k)))) (F4 3 (4 * (k) + sg (u + 1)))) 6 hx hb hK hP hD hS (by omega) (fun _ => rfl) (by omega) (by decide) dX1_greatest_94 (fun H locs hP hD hS => ?_)
        refine lv_iinc (v := nI ((k) + 1)) (lv' := [(3, .int (nI ((k) + 1))), (2, .int (nI (u + 1))), (0, .ref (ad 0)), (1, .int (nI (tt)))]) hx hb dX1_greatest_95 hl (k := 0) rfl (q_inc _) (by decide) rfl (fun ls hl => ?_)
        refine lv_goto (tgt := 48) hx hb dX1_greatest_98 (by decide) ?_
        exact ih4 _ _ _ ⟨_, ⟨fun q hq => by rw [up2_r F4 _ (by omega)]; exact hf4.1 q hq, fun i hi => by rw [up2_o F4 _ (by omega)]; exact hf4.2.1 i hi, fun j hj => by
            by_cases e : j = k
            · subst e; rw [up2_s]; exact hv
            · rw [up2_o F4 _ (Or.inr e)]; exact hf4.2.2 j (by omega)⟩, hP, hD, hS, lv_sub hl [0, 1, 2, 3] rfl⟩
      · rintro H locs ls ⟨F4, hf4, hP, hD, hS, hl⟩
        refine lv_iload_n hx hb dX1_greatest_48 rfl (lv_at hl 0 rfl) ?_
        refine lv_aload_n hx hb dX1_greatest_49 rfl (lv_at hl 2 rfl) ?_
        refine y_get hx hb hts hin hown hK hP 0 (by decide) (v := .int (nI nn)) rfl kf36 dX1_greatest_50 ?_
        refine q_gey (tgt := 101) hx hb (by omega) (by omega) (by omega) dX1_greatest_53 (by decide) ?_
        refine lv_iinc (v := nI ((u + 1) + 1)) (lv' := [(2, .int (nI ((u + 1) + 1))), (3, .int (nI ((nn)))), (0, .ref (ad 0)), (1, .int (nI (tt)))]) hx hb dX1_greatest_101 hl (k := 1) rfl (q_inc _) (by decide) rfl (fun ls hl => ?_)
        refine lv_goto (tgt := 37) hx hb dX1_greatest_104 (by decide) ?_
        exact ih2 _ _ _ ⟨_, ⟨hf4.1, hf4.2.2⟩, hP, hD, hS, lv_sub hl [0, 2, 3] rfl⟩
    · rintro H locs ls ⟨F2, hg, hP, hD, hS, hl⟩
      refine lv_iload_n hx hb dX1_greatest_37 rfl (lv_at hl 0 rfl) ?_
      refine lv_iload_n hx hb dX1_greatest_38 rfl (lv_at hl 2 rfl) ?_
      refine q_gty (tgt := 107) hx hb (by omega) (by omega) (by omega) dX1_greatest_39 (by decide) ?_
      exact W.vret hx hb hr (fun t ht hW => ⟨⟨_, rfl, hg, by rw [ht]; exact hP, va_K.moved hW.alike hK, hD⟩, hS.F ht⟩) hS.2.2 dX1_greatest_107

set_option maxHeartbeats 4000000 in
set_option maxRecDepth 100000 in
/-- behind(tt) -/
theorem c_X1_behind (l : Launch) (dC : Nat → ClassId) (dI : Nat → Nat → Nat) (kk : Nat → ClassId) (ad : Nat → Nat) (sz : Nat) (nn ll tt : Nat) (th : Int32) (sg : Nat → Nat) (S : Nat → UInt64) (M E : Nat → Nat → UInt64) (I : Nat → Nat → Int32) (F : Nat → Nat → UInt64) (J : Nat → Nat → Int64) (h1 : 1 ≤ nn) (h6 : nn ≤ 6) (h12 : ll ≤ 12) (htt : tt < ll) (hrw : mRw ll sg I) (hw : mWt S M E F) (hwt : wts S M E) : Met l yX1_behind wsX1_behind ({ frames := 1, cells := 0, slots := 0, locals := 30 }) (pW dC dI kk [.ref (ad 0), .int (nI (tt))] (wM kk ad (nI nn) (nI ll) (th) (I) (F) (J)) sz) (va_Qv (fun (G : Nat → Nat → UInt64) => (∀ q, q < 5 → G q = F q) ∧ ∀ j, j < nn → G 5 j = bw nn sg M E (ll - 1) (ll - 1 - tt) j) (fun (G : Nat → Nat → UInt64) t => bW dC dI kk (va_A (wM kk ad (nI nn) (nI ll) (th) (I) (F) (J)) sz) (wM kk ad (nI nn) (nI ll) th I G J) t) (va_A (wM kk ad (nI nn) (nI ll) (th) (I) (F) (J)) sz)) 0 0 (va_A (wM kk ad (nI nn) (nI ll) (th) (I) (F) (J)) sz) := by
  refine Met.ofW (cc := cX1_behind) (maxL := 7) (ret := none) (by decide) rfl ?_
  intro p e s m args below meth c s₁ B hml hv
  obtain ⟨rfl, hsz, hP, hK, hD0⟩ := hv
  have hx := B.exec
  have hb := B.bytes
  have hr := B.returns
  have hts := atoms_spec (ws := wsX1_behind) B.pre
  have hown : s.vm.findClass RX1 = some m.cls := findClass_of_methodNamed B.named
  have hlocks := B.notSynchronized
  have kf36 := hts (.fieldLink RX1 36 "PathOddsModel" "n" "I") (by decide +kernel)
  have kf23 := hts (.fieldLink RX1 23 "PathOddsModel" "now" "[D") (by decide +kernel)
  have kf43 := hts (.fieldLink RX1 43 "PathOddsModel" "length" "I") (by decide +kernel)
  have kf13 := hts (.fieldLink RX1 13 "PathOddsModel" "moves" "[D") (by decide +kernel)
  have kf26 := hts (.fieldLink RX1 26 "PathOddsModel" "old" "[D") (by decide +kernel)
  have hin : ∀ w ∈ u_ws RX1 TX1 11, w ∈ wsX1_behind := by decide +kernel
  have hl := lv_entry ([.ref (ad 0), .int (nI (tt))]) (n := 7) (Nat.le_of_ble_eq_true rfl)
  rw [lg_entry_eq]
  generalize (lg_sl ([.ref (ad 0), .int (nI (tt))]) ++ List.replicate (7 - (lg_sl ([.ref (ad 0), .int (nI (tt))])).length) Slot.unset).toArray = ls at hl ⊢
  have hl : lv_has ls 7 [(0, .ref (ad 0)), (1, .int (nI (tt)))] := hl
  subst hsz
  have hD := hD0.self (sz := s.heap.size)
  generalize hAe : va_A (wM kk ad (nI nn) (nI ll) (th) (I) (F) (J)) s.heap.size = A at hD ⊢
  have hA : ∀ q : Nat, s.heap.size ≤ q → A q := fun q h => by rw [← hAe]; exact Or.inr h
  have hS : va_S A s.heap s.heap [] := va_S.rf
  have hkc : 0 + 0 ≤ 0 := Nat.le_refl 0
  have hks : 0 + 0 ≤ 0 := Nat.le_refl 0
  refine lv_iconst (v := nI (0)) hx hb dX1_behind_0 (by decide) ?_
  refine lv_istore_n (lv' := [(2, .int (nI (0))), (0, .ref (ad 0)), (1, .int (nI (tt)))]) hx hb dX1_behind_1 rfl hl (by decide) rfl (fun ls hl => ?_)
  refine q_loop (head := 2) (nn) (fun k H locs ls => ∃ (F1 : Nat → Nat → UInt64), ((∀ q, q < 5 → F1 q = F q) ∧ ∀ j, j < k → F1 5 j = bw nn sg M E (ll - 1) 0 j) ∧ va_P (dC, dI) vwCl (wM kk ad (nI nn) (nI ll) (th) (I) (F1) (J)) H ∧ va_D A (wM kk ad (nI nn) (nI ll) (th) (I) (F1) (J)) ∧ va_S A s.heap H locs ∧ lv_has ls 7 [(2, .int (nI (k))), (0, .ref (ad 0)), (1, .int (nI (tt)))]) ?_ ?_ (0) (by omega) ⟨_, ⟨fun _ _ => rfl, fun _ h => absurd h (Nat.not_lt_zero _)⟩, hP, hD, hS, lv_sub hl [0, 1, 2] rfl⟩
  · rintro k H locs ls hk ⟨F1, hf, hP, hD, hS, hl⟩ ih
    refine lv_iload_n hx hb dX1_behind_2 rfl (lv_at hl 0 rfl) ?_
    refine lv_aload_n hx hb dX1_behind_3 rfl (lv_at hl 1 rfl) ?_
    refine y_get hx hb hts hin hown hK hP 0 (by decide) (v := .int (nI nn)) rfl kf36 dX1_behind_4 ?_
    refine q_gen (tgt := 23) hx hb (by omega) (by omega) (by omega) dX1_behind_7 (by decide) ?_
    refine lv_aload_n hx hb dX1_behind_10 rfl (lv_at hl 1 rfl) ?_
    refine y_get hx hb hts hin hown hK hP 7 (by decide) (v := .ref (ad 5)) rfl kf23 dX1_behind_11 ?_
    refine lv_iload_n hx hb dX1_behind_14 rfl (lv_at hl 0 rfl) ?_
    refine lv_dconst1 hx hb dX1_behind_15 ?_
    refine y_ds (k := 5) (i := k) (v := FP.dconst1) 6 hx hb hK hP hD hS (by omega) (fun _ => rfl) (by omega) (by decide) dX1_behind_16 (fun H locs hP hD hS => ?_)
    refine lv_iinc (v := nI ((k) + 1)) (lv' := [(2, .int (nI ((k) + 1))), (0, .ref (ad 0)), (1, .int (nI (tt)))]) hx hb dX1_behind_17 hl (k := 0) rfl (q_inc _) (by decide) rfl (fun ls hl => ?_)
    refine lv_goto (tgt := 2) hx hb dX1_behind_20 (by decide) ?_
    exact ih _ _ _ ⟨_, ⟨fun q hq => by rw [up2_r F1 _ (by omega)]; exact hf.1 q hq, fun j hj => by
        by_cases e : j = k
        · subst e; rw [up2_s]; rfl
        · rw [up2_o F1 _ (Or.inr e)]; exact hf.2 j (by omega)⟩, hP, hD, hS, lv_sub hl [0, 1, 2] rfl⟩
  · rintro H locs ls ⟨F1, hf, hP, hD, hS, hl⟩
    refine lv_iload_n hx hb dX1_behind_2 rfl (lv_at hl 0 rfl) ?_
    refine lv_aload_n hx hb dX1_behind_3 rfl (lv_at hl 1 rfl) ?_
    refine y_get hx hb hts hin hown hK hP 0 (by decide) (v := .int (nI nn)) rfl kf36 dX1_behind_4 ?_
    refine q_gey (tgt := 23) hx hb (by omega) (by omega) (by omega) dX1_behind_7 (by decide) ?_
    refine lv_aload_n hx hb dX1_behind_23 rfl (lv_at hl 1 rfl) ?_
    refine y_get hx hb hts hin hown hK hP 1 (by decide) (v := .int (nI ll)) rfl kf43 dX1_behind_24 ?_
    refine lv_iconst (v := nI (2)) hx hb dX1_behind_27 (by decide) ?_
    refine lv_isub hx hb dX1_behind_28 ?_
    refine q_top (y := dn (ll - 1)) (by rw [show ll = ll - 1 + 1 from by omega]; exact q_d2 (ll - 1)) ?_
    refine lv_istore_n (lv' := [(2, .int (dn (ll - 1))), (0, .ref (ad 0)), (1, .int (nI (tt)))]) hx hb dX1_behind_29 rfl hl (by decide) rfl (fun ls hl => ?_)
    refine q_loop (head := 30) (ll - 1 - tt) (fun u H locs ls => ∃ (F2 : Nat → Nat → UInt64), ((∀ q, q < 5 → F2 q = F q) ∧ ∀ j, j < nn → F2 5 j = bw nn sg M E (ll - 1) u j) ∧ va_P (dC, dI) vwCl (wM kk ad (nI nn) (nI ll) (th) (I) (F2) (J)) H ∧ va_D A (wM kk ad (nI nn) (nI ll) (th) (I) (F2) (J)) ∧ va_S A s.heap H locs ∧ lv_has ls 7 [(2, .int (dn (ll - 1 - u))), (0, .ref (ad 0)), (1, .int (nI (tt)))]) ?_ ?_ (0) (by omega) ⟨_, hf, hP, hD, hS, lv_sub hl [0, 1, 2] rfl⟩
    · rintro u H locs ls hu ⟨F2, hg, hP, hD, hS, hl⟩ ih2
      have e0 : dn (ll - 1 - u) = nI (ll - 2 - u) := dn_s (by omega)
      rw [e0] at hl
      refine lv_iload_n hx hb dX1_behind_30 rfl (lv_at hl 0 rfl) ?_
      refine lv_iload_n hx hb dX1_behind_31 rfl (lv_at hl 2 rfl) ?_
      refine q_ltn (tgt := 125) hx hb (by omega) (by omega) (by omega) dX1_behind_32 (by decide) ?_
      refine lv_aload_n hx hb dX1_behind_35 rfl (lv_at hl 1 rfl) ?_
      have hFc := q_free hD hS hA
      refine va_callv (va_runV (As := []) (rest := []) ⟨hx, hb, hml, hown, hts⟩ (c_X1_shift l dC dI kk ad _ (nI nn) (nI ll) th I F2 J) (cwV 0 hts gX1_behind_X1_shift rfl rfl rfl (by decide +kernel) ⟨Nat.le_of_ble_eq_true rfl, Nat.le_of_ble_eq_true rfl⟩) ⟨pW_blind, va_recv hK hP (ci := 1) (q0 := 0) rfl wM_0, pW_pre hK hP hD⟩ rfl rfl hl.1 rfl (lv_room (Nat.le_of_ble_eq_true rfl)) dX1_behind_36 ⟨hkc, hks⟩) hS (fun q _ h => hFc q h) hFc (fun F3 t H1 locs ht hvm hs hB hz1 hk1 hS => ?_)
      obtain ⟨hP1, -, hD1⟩ := hB
      rw [ht] at hP1
      have hP := hP1
      have hD := hD1.weaken (fun _ q _ h => hFc q.1 h)
      clear hP1 hD1 hFc ht hk1 hz1
      have hs3 : ∀ q, q < 5 → F3 q = F q := fun q hq => by rw [hs.1 q (by omega)]; exact hg.1 q hq
      have ho3 : ∀ i, i < nn → F3 6 i = bw nn sg M E (ll - 1) u i := fun i hi => by rw [hs.2 i (by omega)]; exact hg.2 i hi
      refine lv_iconst (v := nI (0)) hx hb dX1_behind_39 (by decide) ?_
      refine lv_istore_n (lv' := [(3, .int (nI (0))), (2, .int (nI (ll - 2 - u))), (0, .ref (ad 0)), (1, .int (nI (tt)))]) hx hb dX1_behind_40 rfl hl (by decide) rfl (fun ls hl => ?_)
      refine q_loop (head := 41) (nn) (fun k H locs ls => ∃ (F4 : Nat → Nat → UInt64), ((∀ q, q < 5 → F4 q = F q) ∧ (∀ i, i < nn → F4 6 i = bw nn sg M E (ll - 1) u i) ∧ ∀ j, j < k → F4 5 j = bw nn sg M E (ll - 1) (u + 1) j) ∧ va_P (dC, dI) vwCl (wM kk ad (nI nn) (nI ll) (th) (I) (F4) (J)) H ∧ va_D A (wM kk ad (nI nn) (nI ll) (th) (I) (F4) (J)) ∧ va_S A s.heap H locs ∧ lv_has ls 7 [(3, .int (nI (k))), (2, .int (nI (ll - 2 - u))), (0, .ref (ad 0)), (1, .int (nI (tt)))]) ?_ ?_ (0) (by omega) ⟨_, ⟨hs3, ho3, fun _ h => absurd h (Nat.not_lt_zero _)⟩, hP, hD, hS, lv_sub hl [0, 1, 2, 3] rfl⟩
      · rintro k H locs ls hk ⟨F4, hf4, hP, hD, hS, hl⟩ ih4
        have hw2 : mWt S M E F4 := mWt_keep hw hf4.1
        have hsy := hrw (ll - 1 - u) (by omega)
        have hF4 : ∀ i, i < nn → dB (16 * u) (F4 6 i) := fun i hi => by
          rw [hf4.2.1 i hi]
          exact bw_dB hwt h6 (ll - 1) u (by omega) (by omega) (fun v hv => (hrw v (by omega)).2) i hi
        have hM4 : ∀ j, j < nn → dB 0 (F4 2 (6 * k + j)) := fun j hj => by
          rw [hw2.2.1 k j (by omega) (by omega)]
          exact hwt.2.1 k j (by omega) (by omega)
        have hE4 : ∀ j, j < nn → dB 0 (F4 3 (4 * j + sg (ll - 1 - u))) := fun j hj => by
          rw [hw2.2.2 j _ (by omega) hsy.2]
          exact hwt.2.2 j _ (by omega) hsy.2
        have b0 := fun (q : Nat) (hq : q < nn) => dB_mul (dB_mul (hM4 q hq) (hE4 q hq) (by decide)) (hF4 q hq) (by omega)
        refine lv_iload_n hx hb dX1_behind_41 rfl (lv_at hl 0 rfl) ?_
        refine lv_aload_n hx hb dX1_behind_42 rfl (lv_at hl 2 rfl) ?_
        refine y_get hx hb hts hin hown hK hP 0 (by decide) (v := .int (nI nn)) rfl kf36 dX1_behind_43 ?_
        refine q_gen (tgt := 119) hx hb (by omega) (by omega) (by omega) dX1_behind_46 (by decide) ?_
        refine lv_dconst0 hx hb dX1_behind_49 ?_
        refine lv_dstore (lv' := [(4, .double (FP.dconst0)), (3, .int (nI (k))), (2, .int (nI (ll - 2 - u))), (0, .ref (ad 0)), (1, .int (nI (tt)))]) hx hb dX1_behind_50 hl (by decide) rfl (fun ls hl => ?_)
        refine lv_iconst (v := nI (0)) hx hb dX1_behind_52 (by decide) ?_
        refine lv_istore (lv' := [(6, .int (nI (0))), (4, .double (FP.dconst0)), (3, .int (nI (k))), (2, .int (nI (ll - 2 - u))), (0, .ref (ad 0)), (1, .int (nI (tt)))]) hx hb dX1_behind_53 hl (by decide) rfl (fun ls hl => ?_)
        refine q_loop (head := 55) (nn) (fun q H9 locs9 ls => H9 = H ∧ locs9 = locs ∧ lv_has ls 7 [(6, .int (nI (q))), (4, .double (sumTo (fun j => FP.dmul (FP.dmul (F4 2 (6 * k + j)) (F4 3 (4 * j + sg (ll - 1 - u)))) (F4 6 j)) q)), (3, .int (nI (k))), (2, .int (nI (ll - 2 - u))), (0, .ref (ad 0)), (1, .int (nI (tt)))]) ?_ ?_ (0) (by omega) ⟨rfl, rfl, lv_sub hl [0, 1, 2, 3, 4, 5] rfl⟩
        · rintro q H9 locs9 ls hq ⟨e91, e92, hl⟩ ih6
          subst e91 e92
          have b1 := sumTo_dB (f := (fun j => FP.dmul (FP.dmul (F4 2 (6 * k + j)) (F4 3 (4 * j + sg (ll - 1 - u)))) (F4 6 j))) q (fun i hi => b0 i (by omega)) (by omega)
          have b3 := dB_add b1 (dB_mono (b0 q hq) (by omega)) (by omega)
          refine lv_iload hx hb dX1_behind_55 (lv_at hl 0 rfl) ?_
          refine lv_aload_n hx hb dX1_behind_57 rfl (lv_at hl 4 rfl) ?_
          refine y_get hx hb hts hin hown hK hP 0 (by decide) (v := .int (nI nn)) rfl kf36 dX1_behind_58 ?_
          refine q_gen (tgt := 105) hx hb (by omega) (by omega) (by omega) dX1_behind_61 (by decide) ?_
          refine lv_dload hx hb dX1_behind_64 (lv_at hl 1 rfl) ?_
          refine lv_aload_n hx hb dX1_behind_66 rfl (lv_at hl 4 rfl) ?_
          refine y_get hx hb hts hin hown hK hP 4 (by decide) (v := .ref (ad 2)) rfl kf13 dX1_behind_67 ?_
          refine lv_bipush (v := nI (6)) hx hb dX1_behind_70 (by decide) ?_
          refine lv_iload_n hx hb dX1_behind_72 rfl (lv_at hl 2 rfl) ?_
          refine lv_imul hx hb dX1_behind_73 ?_
          refine q_top (y := nI ((6) * (k))) (pk_mul _ _) ?_
          refine lv_iload hx hb dX1_behind_74 (lv_at hl 0 rfl) ?_
          refine lv_iadd hx hb dX1_behind_76 ?_
          refine q_top (y := nI (((6) * (k)) + (q))) (nI_add _ _) ?_
          refine y_dl (k := 2) (i := ((6) * (k)) + (q)) 36 hx hb hK hP (by omega) (rfl) (by omega) (by decide) dX1_behind_77 ?_
          refine lv_aload_n hx hb dX1_behind_78 rfl (lv_at hl 4 rfl) ?_
          refine lv_iload hx hb dX1_behind_79 (lv_at hl 0 rfl) ?_
          refine lv_iload_n hx hb dX1_behind_81 rfl (lv_at hl 3 rfl) ?_
          refine lv_iconst (v := nI (1)) hx hb dX1_behind_82 (by decide) ?_
          refine lv_iadd hx hb dX1_behind_83 ?_
          refine q_top (y := nI (ll - 1 - u)) (q_add (by omega)) ?_
          refine vp_callSd (W.runV (As := [.int (nI (q)), .int (nI (ll - 1 - u))]) (rest := [.double (F4 (2) (((6) * (k)) + (q))), .double (sumTo (fun j => FP.dmul (FP.dmul (F4 2 (6 * k + j)) (F4 3 (4 * j + sg (ll - 1 - u)))) (F4 6 j)) q)]) ⟨hx, hb, hml, hown, hts⟩ (c_X1_shown l dC dI kk ad _ _ _ I F4 J (q) (ll - 1 - u) (sg (ll - 1 - u)) (by omega) (by omega) (hrw (ll - 1 - u) (by omega)).2 (hrw (ll - 1 - u) (by omega)).1) (cwV 2 hts gX1_behind_X1_shown rfl rfl rfl (by decide +kernel) ⟨Nat.le_of_ble_eq_true rfl, Nat.le_of_ble_eq_true rfl⟩) ⟨pR_blind, va_recv hK hP (ci := 1) (q0 := 0) rfl wM_0, pR_pre hK hP⟩ rfl rfl hl.1 rfl (lv_room (Nat.le_of_ble_eq_true rfl)) dX1_behind_84 ⟨hkc, hks⟩) (fun r1 e1 => ?_)
          subst e1
          refine lv_dmul hx hb dX1_behind_87 (dB_n (dB_mul (hM4 q hq) (hE4 q hq) (by decide))) ?_
          refine lv_aload_n hx hb dX1_behind_88 rfl (lv_at hl 4 rfl) ?_
          refine y_get hx hb hts hin hown hK hP 8 (by decide) (v := .ref (ad 6)) rfl kf26 dX1_behind_89 ?_
          refine lv_iload hx hb dX1_behind_92 (lv_at hl 0 rfl) ?_
          refine y_dl (k := 6) (i := q) 6 hx hb hK hP (by omega) (rfl) (by omega) (by decide) dX1_behind_94 ?_
          refine lv_dmul hx hb dX1_behind_95 (dB_n (b0 q hq)) ?_
          refine lv_dadd hx hb dX1_behind_96 (dB_n b3) ?_
          refine lv_dstore (lv' := [(4, .double (FP.dadd (sumTo (fun j => FP.dmul (FP.dmul (F4 2 (6 * k + j)) (F4 3 (4 * j + sg (ll - 1 - u)))) (F4 6 j)) q) (FP.dmul (FP.dmul (F4 (2) (((6) * (k)) + (q))) (F4 3 (4 * (q) + sg (ll - 1 - u)))) (F4 (6) (q))))), (6, .int (nI (q))), (3, .int (nI (k))), (2, .int (nI (ll - 2 - u))), (0, .ref (ad 0)), (1, .int (nI (tt)))]) hx hb dX1_behind_97 hl (by decide) rfl (fun ls hl => ?_)
          refine lv_iinc (v := nI ((q) + 1)) (lv' := [(6, .int (nI ((q) + 1))), (4, .double (FP.dadd (sumTo (fun j => FP.dmul (FP.dmul (F4 2 (6 * k + j)) (F4 3 (4 * j + sg (ll - 1 - u)))) (F4 6 j)) q) (FP.dmul (FP.dmul (F4 (2) (((6) * (k)) + (q))) (F4 3 (4 * (q) + sg (ll - 1 - u)))) (F4 (6) (q))))), (3, .int (nI (k))), (2, .int (nI (ll - 2 - u))), (0, .ref (ad 0)), (1, .int (nI (tt)))]) hx hb dX1_behind_99 hl (k := 1) rfl (q_inc _) (by decide) rfl (fun ls hl => ?_)
          refine lv_goto (tgt := 55) hx hb dX1_behind_102 (by decide) ?_
          exact ih6 _ _ _ ⟨rfl, rfl, lv_sub hl [0, 1, 2, 3, 4, 5] rfl⟩
        · rintro H9 locs9 ls ⟨e91, e92, hl⟩
          subst e91 e92
          refine lv_iload hx hb dX1_behind_55 (lv_at hl 0 rfl) ?_
          refine lv_aload_n hx hb dX1_behind_57 rfl (lv_at hl 4 rfl) ?_
          refine y_get hx hb hts hin hown hK hP 0 (by decide) (v := .int (nI nn)) rfl kf36 dX1_behind_58 ?_
          refine q_gey (tgt := 105) hx hb (by omega) (by omega) (by omega) dX1_behind_61 (by decide) ?_
          have hv : sumTo (fun j => FP.dmul (FP.dmul (F4 2 (6 * k + j)) (F4 3 (4 * j + sg (ll - 1 - u)))) (F4 6 j)) nn = bw nn sg M E (ll - 1) (u + 1) k := by
            rw [bw_1]
            refine sumTo_congr nn (fun j hj => ?_)
            show FP.dmul (FP.dmul (F4 2 (6 * k + j)) (F4 3 (4 * j + sg (ll - 1 - u)))) (F4 6 j) = _
            rw [hf4.2.1 j hj, hw2.2.1 k j (by omega) (by omega), hw2.2.2 j _ (by omega) hsy.2]
          refine lv_aload_n hx hb dX1_behind_105 rfl (lv_at hl 4 rfl) ?_
          refine y_get hx hb hts hin hown hK hP 7 (by decide) (v := .ref (ad 5)) rfl kf23 dX1_behind_106 ?_
          refine lv_iload_n hx hb dX1_behind_109 rfl (lv_at hl 2 rfl) ?_
          refine lv_dload hx hb dX1_behind_110 (lv_at hl 1 rfl) ?_
          refine y_ds (k := 5) (i := k) (v := sumTo (fun j => FP.dmul (FP.dmul (F4 2 (6 * k + j)) (F4 3 (4 * j + sg (ll - 1 - u)))) (F4 6 j)) (nn)) 6 hx hb hK hP hD hS (by omega) (fun _ => rfl) (by omega) (by decide) dX1_behind_112 (fun H locs hP hD hS => ?_)
          refine lv_iinc (v := nI ((k) + 1)) (lv' := [(3, .int (nI ((k) + 1))), (6, .int (nI ((nn)))), (4, .double (sumTo (fun j => FP.dmul (FP.dmul (F4 2 (6 * k + j)) (F4 3 (4 * j + sg (ll - 1 - u)))) (F4 6 j)) (nn))), (2, .int (nI (ll - 2 - u))), (0, .ref (ad 0)), (1, .int (nI (tt)))]) hx hb dX1_behind_113 hl (k := 2) rfl (q_inc _) (by decide) rfl (fun ls hl => ?_)
          refine lv_goto (tgt := 41) hx hb dX1_behind_116 (by decide) ?_
          exact ih4 _ _ _ ⟨_, ⟨fun q hq => by rw [up2_r F4 _ (by omega)]; exact hf4.1 q hq, fun i hi => by rw [up2_o F4 _ (by omega)]; exact hf4.2.1 i hi, fun j hj => by
              by_cases e : j = k
              · subst e; rw [up2_s]; exact hv
              · rw [up2_o F4 _ (Or.inr e)]; exact hf4.2.2 j (by omega)⟩, hP, hD, hS, lv_sub hl [0, 3, 4, 5] rfl⟩
      · rintro H locs ls ⟨F4, hf4, hP, hD, hS, hl⟩
        refine lv_iload_n hx hb dX1_behind_41 rfl (lv_at hl 0 rfl) ?_
        refine lv_aload_n hx hb dX1_behind_42 rfl (lv_at hl 2 rfl) ?_
        refine y_get hx hb hts hin hown hK hP 0 (by decide) (v := .int (nI nn)) rfl kf36 dX1_behind_43 ?_
        refine q_gey (tgt := 119) hx hb (by omega) (by omega) (by omega) dX1_behind_46 (by decide) ?_
        refine lv_iinc (v := dn (ll - 1 - (u + 1))) (lv' := [(2, .int (dn (ll - 1 - (u + 1)))), (3, .int (nI ((nn)))), (0, .ref (ad 0)), (1, .int (nI (tt)))]) hx hb dX1_behind_119 hl (k := 1) rfl (by rw [show ll - 1 - (u + 1) = ll - 2 - u from by omega]; exact q_dn _) (by decide) rfl (fun ls hl => ?_)
        refine lv_goto (tgt := 30) hx hb dX1_behind_122 (by decide) ?_
        exact ih2 _ _ _ ⟨_, ⟨hf4.1, hf4.2.2⟩, hP, hD, hS, lv_sub hl [0, 2, 3] rfl⟩
    · rintro H locs ls ⟨F2, hg, hP, hD, hS, hl⟩
      have e0 : ll - 1 - (ll - 1 - tt) = tt := by omega
      rw [e0] at hl
      refine lv_iload_n hx hb dX1_behind_30 rfl (lv_at hl 0 rfl) ?_
      refine lv_iload_n hx hb dX1_behind_31 rfl (lv_at hl 2 rfl) ?_
      refine lv_icmp_lt (tgt := 125) hx hb dX1_behind_32 (by decide) (fun q9 => ?_) (fun q9 => absurd (dn_lt tt (by omega)) q9)
      exact W.vret hx hb hr (fun t ht hW => ⟨⟨_, rfl, hg, by rw [ht]; exact hP, va_K.moved hW.alike hK, hD⟩, hS.F ht⟩) hS.2.2 dX1_behind_125
