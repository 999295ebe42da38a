/-! ===== what the class and the reference reckon ===== -/
def sumTo (f : Nat → UInt64) : Nat → UInt64
  | 0 => FP.dconst0
  | k + 1 => FP.dadd (sumTo f k) (f k)
def sumL (f : Nat → Int64) : Nat → Int64
  | 0 => 0
  | k + 1 => sumL f k + f k
/-- forwards: at place t, in state j -/
def fw (nn : Nat) (sg : Nat → Nat) (S : Nat → UInt64) (M E : Nat → Nat → UInt64) : Nat → Nat → UInt64
  | 0 => fun j => FP.dmul (S j) (E j (sg 0))
  | t + 1 => fun j => FP.dmul (sumTo (fun i => FP.dmul (fw nn sg S M E t i) (M i j)) nn) (E j (sg (t + 1)))
/-- backwards: d places ahead of the last one -/
def bw (nn : Nat) (sg : Nat → Nat) (M E : Nat → Nat → UInt64) (last : Nat) : Nat → Nat → UInt64
  | 0 => fun _ => FP.dconst1
  | d + 1 => fun i => sumTo (fun j => FP.dmul (FP.dmul (M i j) (E j (sg (last - d)))) (bw nn sg M E last d j)) nn
/-- the lowest of the places 0 .. k where f is greatest -/
def arg (f : Nat → UInt64) : Nat → Nat
  | 0 => 0
  | k + 1 => if Op.cmpValue (FP.dcmp (f (k + 1)) (f (arg f k))) .l ≤ 0 then arg f k else k + 1
def vt (nn : Nat) (sg : Nat → Nat) (S : Nat → UInt64) (M E : Nat → Nat → UInt64) : Nat → Nat → UInt64
  | 0 => fun j => FP.dmul (S j) (E j (sg 0))
  | t + 1 => fun j => FP.dmul (FP.dmul (vt nn sg S M E t (arg (fun i => FP.dmul (vt nn sg S M E t i) (M i j)) (nn - 1))) (M (arg (fun i => FP.dmul (vt nn sg S M E t i) (M i j)) (nn - 1)) j)) (E j (sg (t + 1)))
/-- from where the best way comes to j at place t + 1 -/
def fr (nn : Nat) (sg : Nat → Nat) (S : Nat → UInt64) (M E : Nat → Nat → UInt64) (t j : Nat) : Nat := arg (fun i => FP.dmul (vt nn sg S M E t i) (M i j)) (nn - 1)
/-- the best way's state d places ahead of the last one -/
def bk (nn : Nat) (sg : Nat → Nat) (S : Nat → UInt64) (M E : Nat → Nat → UInt64) (last : Nat) : Nat → Nat
  | 0 => arg (vt nn sg S M E last) (nn - 1)
  | d + 1 => fr nn sg S M E (last - d - 1) (bk nn sg S M E last d)
/-- a weight that isn't above 0 -/
abbrev zz (x : UInt64) : Prop := Op.cmpValue (FP.dcmp x FP.dconst0) .l ≤ 0
def ct (nn : Nat) (sg : Nat → Nat) (S : Nat → UInt64) (M E : Nat → Nat → UInt64) : Nat → Nat → Int64
  | 0 => fun j => if zz (E j (sg 0)) then 0 else if zz (S j) then 0 else 1
  | t + 1 => fun j => if zz (E j (sg (t + 1))) then 0 else sumL (fun i => if zz (M i j) then 0 else ct nn sg S M E t i) nn
theorem sumTo_dB {f : Nat → UInt64} {b : Nat} : ∀ (k : Nat), (∀ i, i < k → dB b (f i)) → b + 2 * k ≤ 1023 → dB (b + 2 * k) (sumTo f k)
  | 0, _, _ => dB_mono dB_zero (Nat.zero_le _)
  | k + 1, h, hb => by
    have h1 := sumTo_dB k (fun i hi => h i (by omega)) (by omega)
    have h2 := dB_add h1 (dB_mono (h k (by omega)) (by omega : b ≤ b + 2 * k)) (by omega)
    exact dB_mono h2 (by omega)
theorem sumTo_congr {f g : Nat → UInt64} : ∀ (k : Nat), (∀ i, i < k → f i = g i) → sumTo f k = sumTo g k
  | 0, _ => rfl
  | k + 1, h => by
    show FP.dadd (sumTo f k) (f k) = FP.dadd (sumTo g k) (g k)
    rw [sumTo_congr k (fun i hi => h i (by omega)), h k (by omega)]
theorem sumL_congr {f g : Nat → Int64} : ∀ (k : Nat), (∀ i, i < k → f i = g i) → sumL f k = sumL g k
  | 0, _ => rfl
  | k + 1, h => by
    show sumL f k + f k = sumL g k + g k
    rw [sumL_congr k (fun i hi => h i (by omega)), h k (by omega)]
theorem arg_s (f : Nat → UInt64) (k : Nat) : arg f (k + 1) = if Op.cmpValue (FP.dcmp (f (k + 1)) (f (arg f k))) .l ≤ 0 then arg f k else k + 1 := rfl
theorem arg_y {f : Nat → UInt64} {k : Nat} (q : Op.cmpValue (FP.dcmp (f (k + 1)) (f (arg f k))) .l ≤ 0) : arg f (k + 1) = arg f k := (arg_s f k).trans (if_pos q)
theorem arg_n {f : Nat → UInt64} {k : Nat} (q : ¬ Op.cmpValue (FP.dcmp (f (k + 1)) (f (arg f k))) .l ≤ 0) : arg f (k + 1) = k + 1 := (arg_s f k).trans (if_neg q)
theorem arg_le (f : Nat → UInt64) : ∀ (k : Nat), arg f k ≤ k
  | 0 => Nat.le_refl 0
  | k + 1 => by
    have h := arg_le f k
    unfold arg
    split <;> omega
theorem arg_congr {f g : Nat → UInt64} : ∀ (k : Nat), (∀ i, i ≤ k → f i = g i) → arg f k = arg g k
  | 0, _ => rfl
  | k + 1, h => by
    have h1 := arg_congr k (fun i hi => h i (by omega))
    have h2 := arg_le g k
    unfold arg
    rw [h1, h (k + 1) (Nat.le_refl _), h (arg g k) (by omega)]
/-- the weights are weights -/
def wts (S : Nat → UInt64) (M E : Nat → Nat → UInt64) : Prop := (∀ j, j < 6 → dB 0 (S j)) ∧ (∀ i j, i < 6 → j < 6 → dB 0 (M i j)) ∧ (∀ i k, i < 6 → k < 4 → dB 0 (E i k))
theorem fw_dB {nn : Nat} {sg : Nat → Nat} {S : Nat → UInt64} {M E : Nat → Nat → UInt64} (hw : wts S M E) (hn : nn ≤ 6) : ∀ (t : Nat), t < 12 → (∀ u, u ≤ t → sg u < 4) → ∀ j, j < nn → dB (16 * t + 2) (fw nn sg S M E t j)
  | 0, _, hs, j, hj => dB_mul (hw.1 j (by omega)) (hw.2.2 j (sg 0) (by omega) (hs 0 (Nat.le_refl _))) (by decide)
  | t + 1, ht, hs, j, hj => by
    have h1 : dB ((16 * t + 2 + 0 + 2) + 2 * nn) (sumTo (fun i => FP.dmul (fw nn sg S M E t i) (M i j)) nn) := sumTo_dB nn (fun i hi => dB_mul (fw_dB hw hn t (by omega) (fun u hu => hs u (by omega)) i hi) (hw.2.1 i j (by omega) (by omega)) (by omega)) (by omega)
    have h2 := dB_mul h1 (hw.2.2 j (sg (t + 1)) (by omega) (hs (t + 1) (Nat.le_refl _))) (by omega)
    exact dB_mono h2 (by omega)
theorem bw_dB {nn : Nat} {sg : Nat → Nat} {S : Nat → UInt64} {M E : Nat → Nat → UInt64} (hw : wts S M E) (hn : nn ≤ 6) (last : Nat) : ∀ (d : Nat), d ≤ last → last < 12 → (∀ u, u ≤ last → sg u < 4) → ∀ i, i < nn → dB (16 * d) (bw nn sg M E last d i)
  | 0, _, _, _, _, _ => dB_one
  | d + 1, hd, hl, hs, i, hi => by
    have h1 : dB ((0 + 0 + 2 + 16 * d + 2) + 2 * nn) (bw nn sg M E last (d + 1) i) := sumTo_dB nn (fun j hj => dB_mul (dB_mul (hw.2.1 i j (by omega) (by omega)) (hw.2.2 j _ (by omega) (hs _ (by omega))) (by decide)) (bw_dB hw hn last d (by omega) hl hs j hj) (by omega)) (by omega)
    exact dB_mono h1 (by omega)
theorem vt_dB {nn : Nat} {sg : Nat → Nat} {S : Nat → UInt64} {M E : Nat → Nat → UInt64} (hw : wts S M E) (h0 : 1 ≤ nn) (hn : nn ≤ 6) : ∀ (t : Nat), t < 12 → (∀ u, u ≤ t → sg u < 4) → ∀ j, j < nn → dB (16 * t + 2) (vt nn sg S M E t j)
  | 0, _, hs, j, hj => dB_mul (hw.1 j (by omega)) (hw.2.2 j (sg 0) (by omega) (hs 0 (Nat.le_refl _))) (by decide)
  | t + 1, ht, hs, j, hj => by
    have ha := arg_le (fun i => FP.dmul (vt nn sg S M E t i) (M i j)) (nn - 1)
    have h1 := vt_dB hw h0 hn t (by omega) (fun u hu => hs u (by omega)) (arg (fun i => FP.dmul (vt nn sg S M E t i) (M i j)) (nn - 1)) (by omega)
    have h2 := dB_mul h1 (hw.2.1 (arg (fun i => FP.dmul (vt nn sg S M E t i) (M i j)) (nn - 1)) j (by omega) (by omega)) (by omega)
    have h3 := dB_mul h2 (hw.2.2 j (sg (t + 1)) (by omega) (hs (t + 1) (Nat.le_refl _))) (by omega)
    exact dB_mono h3 (by omega)
/-! ===== tables that are filled row by row ===== -/
def tb {α : Type} (ρ : Nat → Nat) (T nn : Nat) (val F : Nat → Nat → α) (t k : Nat) (F1 : Nat → Nat → α) : Prop :=
  (∀ q, (∀ u, u < T → q ≠ ρ u) → F1 q = F q) ∧ (∀ u j, u < t → j < nn → F1 (ρ u) j = val u j) ∧ (∀ j, j < k → F1 (ρ t) j = val t j)
theorem tb_0 {α : Type} {ρ : Nat → Nat} {T nn : Nat} {val F : Nat → Nat → α} : tb ρ T nn val F 0 0 F := ⟨fun _ _ => rfl, fun _ _ h => absurd h (Nat.not_lt_zero _), fun _ h => absurd h (Nat.not_lt_zero _)⟩
theorem tb_put {α : Type} {ρ : Nat → Nat} {T nn t k : Nat} {val F F1 : Nat → Nat → α} {v : α} (h : tb ρ T nn val F t k F1) (ht : t < T) (hρ : ∀ a b, a < T → b < T → ρ a = ρ b → a = b) (hv : v = val t k) : tb ρ T nn val F t (k + 1) (up2 F1 (ρ t) k v) := by
  refine ⟨fun q hq => ?_, fun u j hu hj => ?_, fun j hj => ?_⟩
  · rw [up2_r F1 v (hq t ht)]
    exact h.1 q hq
  · rw [up2_o F1 v (Or.inl (fun e => by have := hρ u t (by omega) ht e; omega))]
    exact h.2.1 u j hu hj
  · by_cases e : j = k
    · subst e
      rw [up2_s]
      exact hv
    · rw [up2_o F1 v (Or.inr e)]
      exact h.2.2 j (by omega)
theorem tb_next {α : Type} {ρ : Nat → Nat} {T nn t : Nat} {val F F1 : Nat → Nat → α} (h : tb ρ T nn val F t nn F1) : tb ρ T nn val F (t + 1) 0 F1 := by
  refine ⟨h.1, fun u j hu hj => ?_, fun _ h => absurd h (Nat.not_lt_zero _)⟩
  by_cases e : u = t
  · subst e
    exact h.2.2 j hj
  · exact h.2.1 u j (by omega) hj
theorem tb_start {α : Type} {ρ : Nat → Nat} {T nn t : Nat} {val F F1 : Nat → Nat → α} (h : tb ρ T nn val F t 0 F1) : tb ρ T nn val F t 0 F1 := h
/-- what the class's cells hold of the row and of the weights -/
def xRw (ll : Nat) (sg : Nat → Nat) (I : Nat → Nat → Int32) : Prop := ∀ t, t < ll → I 1 t = nI (sg t) ∧ sg t < 4
def xWt (S : Nat → UInt64) (M E F : Nat → Nat → UInt64) : Prop := (∀ j, j < 6 → F 2 j = S j) ∧ (∀ i j, i < 6 → j < 6 → F (10 + i) j = M i j) ∧ (∀ i k, i < 6 → k < 4 → F (16 + i) k = E i k)
theorem xWt_keep {S : Nat → UInt64} {M E F F1 : Nat → Nat → UInt64} (h : xWt S M E F) (hk : ∀ k, k < 22 → F1 k = F k) : xWt S M E F1 :=
  ⟨fun j hj => by rw [hk 2 (by decide)]; exact h.1 j hj, fun i j hi hj => by rw [hk (10 + i) (by omega)]; exact h.2.1 i j hi hj, fun i k hi hj => by rw [hk (16 + i) (by omega)]; exact h.2.2 i k hi hj⟩
theorem fw_0 (nn : Nat) (sg : Nat → Nat) (S : Nat → UInt64) (M E : Nat → Nat → UInt64) (j : Nat) : fw nn sg S M E 0 j = FP.dmul (S j) (E j (sg 0)) := rfl
theorem fw_1 (nn : Nat) (sg : Nat → Nat) (S : Nat → UInt64) (M E : Nat → Nat → UInt64) (t j : Nat) : fw nn sg S M E (t + 1) j = FP.dmul (sumTo (fun i => FP.dmul (fw nn sg S M E t i) (M i j)) nn) (E j (sg (t + 1))) := rfl
theorem bw_1 (nn : Nat) (sg : Nat → Nat) (M E : Nat → Nat → UInt64) (last d i : Nat) : bw nn sg M E last (d + 1) i = sumTo (fun j => FP.dmul (FP.dmul (M i j) (E j (sg (last - d)))) (bw nn sg M E last d j)) nn := rfl
theorem vt_0 (nn : Nat) (sg : Nat → Nat) (S : Nat → UInt64) (M E : Nat → Nat → UInt64) (j : Nat) : vt nn sg S M E 0 j = FP.dmul (S j) (E j (sg 0)) := rfl
theorem vt_1 (nn : Nat) (sg : Nat → Nat) (S : Nat → UInt64) (M E : Nat → Nat → UInt64) (t j : Nat) : vt nn sg S M E (t + 1) j = FP.dmul (FP.dmul (vt nn sg S M E t (fr nn sg S M E t j)) (M (fr nn sg S M E t j) j)) (E j (sg (t + 1))) := rfl
theorem ct_0 (nn : Nat) (sg : Nat → Nat) (S : Nat → UInt64) (M E : Nat → Nat → UInt64) (j : Nat) : ct nn sg S M E 0 j = if zz (E j (sg 0)) then 0 else if zz (S j) then 0 else 1 := rfl
theorem ct_1 (nn : Nat) (sg : Nat → Nat) (S : Nat → UInt64) (M E : Nat → Nat → UInt64) (t j : Nat) : ct nn sg S M E (t + 1) j = if zz (E j (sg (t + 1))) then 0 else sumL (fun i => if zz (M i j) then 0 else ct nn sg S M E t i) nn := rfl
