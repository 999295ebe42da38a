/-! doubles: finite, with a small exponent -/
def dB (n : Nat) (x : UInt64) : Prop := ∃ (s : Bool) (c : Nat) (q : Int), FP.Core.val64 x = .fin s c q ∧ q + 52 ≤ (n : Int)
theorem dB_mono {a b : Nat} {x : UInt64} (h : dB a x) (hab : a ≤ b) : dB b x := by
  obtain ⟨s, c, q, h1, h2⟩ := h
  exact ⟨s, c, q, h1, by omega⟩
theorem fp_round {s : Bool} {A k : Nat} {e N : Int} (hA : A < 2 ^ k) (h : (k : Int) + e ≤ N) (hN : -1021 ≤ N) (hN2 : N ≤ 1023) :
    ∃ (c : Nat) (q : Int), FP.Core.roundRatio FP.Core.b64 s A 1 e = .fin s c q ∧ q + 52 ≤ N := by
  have hq1 : FP.Core.b64.qmin = -1074 := by decide +kernel
  have hq2 : FP.Core.b64.qmax = 971 := by decide +kernel
  have hp : (FP.Core.b64.p : Int) = 53 := by decide +kernel
  unfold FP.Core.roundRatio
  by_cases h0 : A = 0
  · rw [if_pos h0]
    exact ⟨0, _, rfl, by rw [hq1]; omega⟩
  · rw [if_neg h0]
    have hl : FP.Core.leading A 1 ≤ (A.log2 : Int) := by
      unfold FP.Core.leading
      have h1 : Nat.log2 1 = 0 := by decide +kernel
      dsimp only
      rw [h1]
      split <;> omega
    have hk : A.log2 < k := (Nat.log2_lt h0).mpr hA
    have hqu : FP.Core.quantum FP.Core.b64 A 1 e + 1 + 52 ≤ N := by
      unfold FP.Core.quantum
      rw [hq1, hp]
      omega
    unfold FP.Core.roundAt FP.Core.settle FP.Core.bound
    rw [hq2]
    split
    · rw [if_pos (by omega)]
      exact ⟨_, _, rfl, by omega⟩
    · rw [if_pos (by omega)]
      exact ⟨_, _, rfl, by omega⟩
theorem dB_mul {a b : Nat} {x y : UInt64} (hx : dB a x) (hy : dB b y) (h : a + b + 2 ≤ 1023) : dB (a + b + 2) (FP.dmul x y) := by
  obtain ⟨s, c, q, h1, h2⟩ := hx
  obtain ⟨t, d, r, h3, h4⟩ := hy
  have f1 := FP.Core.val64_fits x
  have f2 := FP.Core.val64_fits y
  rw [h1] at f1
  rw [h3] at f2
  have hc : c < 2 ^ 53 := f1.1
  have hd : d < 2 ^ 53 := f2.1
  have hcd : c * d < 2 ^ 106 := by
    have h5 : c * d < 2 ^ 53 * 2 ^ 53 := Nat.mul_lt_mul'' hc hd
    rw [← Nat.pow_add] at h5
    exact h5
  obtain ⟨c', q', h5, h6⟩ := fp_round (s := (s != t)) (e := q + r) (N := ((a + b + 2 : Nat) : Int)) hcd (by omega) (by omega) (by omega)
  refine ⟨_, c', q', ?_, h6⟩
  show FP.Core.val64 (FP.Core.dmul x y) = _
  rw [FP.Core.val64_dmul, h1, h3]
  exact h5
theorem dB_add {a : Nat} {x y : UInt64} (hx : dB a x) (hy : dB a y) (h : a + 2 ≤ 1023) : dB (a + 2) (FP.dadd x y) := by
  obtain ⟨s, c, q, h1, h2⟩ := hx
  obtain ⟨t, d, r, h3, h4⟩ := hy
  have f1 := FP.Core.val64_fits x
  have f2 := FP.Core.val64_fits y
  rw [h1] at f1
  rw [h3] at f2
  have hc : c < 2 ^ 53 := f1.1
  have hd : d < 2 ^ 53 := f2.1
  have hsum : (FP.Core.sumUnits s c q t d r (min q r)).natAbs < 2 ^ (54 + (max q r - min q r).toNat) := by
    unfold FP.Core.sumUnits FP.Core.inUnits
    have e1 : (q - min q r).toNat ≤ (max q r - min q r).toNat := by omega
    have e2 : (r - min q r).toNat ≤ (max q r - min q r).toNat := by omega
    generalize (max q r - min q r).toNat = w at e1 e2 ⊢
    generalize (q - min q r).toNat = u at e1 ⊢
    generalize (r - min q r).toNat = v at e2 ⊢
    have b1 : c * 2 ^ u < 2 ^ 53 * 2 ^ w := Nat.lt_of_lt_of_le (Nat.mul_lt_mul_of_pos_right hc (Nat.two_pow_pos u)) (Nat.mul_le_mul_left _ (Nat.pow_le_pow_right (by decide) e1))
    have b2 : d * 2 ^ v < 2 ^ 53 * 2 ^ w := Nat.lt_of_lt_of_le (Nat.mul_lt_mul_of_pos_right hd (Nat.two_pow_pos v)) (Nat.mul_le_mul_left _ (Nat.pow_le_pow_right (by decide) e2))
    have b3 : 2 ^ (54 + w) = 2 ^ 53 * 2 ^ w + 2 ^ 53 * 2 ^ w := by
      rw [Nat.pow_add, show (2 : Nat) ^ 54 = 2 ^ 53 + 2 ^ 53 from by decide +kernel, Nat.add_mul]
    have b4 : (FP.Core.signed s (c * 2 ^ u) + FP.Core.signed t (d * 2 ^ v)).natAbs ≤ (FP.Core.signed s (c * 2 ^ u)).natAbs + (FP.Core.signed t (d * 2 ^ v)).natAbs := Int.natAbs_add_le _ _
    rw [FP.Core.natAbs_signed, FP.Core.natAbs_signed] at b4
    omega
  obtain ⟨c', q', h5, h6⟩ := fp_round (s := FP.Core.sumSign s t (FP.Core.sumUnits s c q t d r (min q r))) (e := min q r) (N := ((a + 2 : Nat) : Int)) hsum (by omega) (by omega) (by omega)
  refine ⟨_, c', q', ?_, h6⟩
  show FP.Core.val64 (FP.Core.dadd x y) = _
  rw [FP.Core.val64_dadd, h1, h3]
  exact h5
theorem dB_i2d (k : Int32) : dB 34 (FP.i2d k) := by
  have hk : k.toInt.natAbs < 2 ^ 32 := by
    have h1 := k.toInt_lt
    have h2 := k.le_toInt
    omega
  obtain ⟨c', q', h5, h6⟩ := fp_round (s := decide (k.toInt < 0)) (e := 0) (N := 34) hk (by omega) (by omega) (by omega)
  refine ⟨_, c', q', ?_, h6⟩
  show FP.Core.val64 (FP.Core.i2d k) = _
  rw [FP.Core.val64_i2d]
  exact h5
/-- no NaN: in bits -/
theorem fp_not_nan {x : UInt64} (h : FP.Core.val64 x ≠ .nan) : vf_n64 x := by
  unfold vf_n64
  rcases Nat.lt_or_ge 0x7ff0000000000000 (x &&& 0x7fffffffffffffff).toNat with h1 | h1
  · exfalso
    apply h
    have h2 : (x &&& 0x7fffffffffffffff).toNat = x.toNat % 2 ^ 63 := by
      rw [UInt64.toNat_and]
      exact Nat.and_two_pow_sub_one_eq_mod x.toNat 63
    rw [h2] at h1
    have hx : x.toNat < 2 ^ 64 := x.toNat_lt
    have ht : FP.Core.b64.tails = 2 ^ 52 := by decide +kernel
    have he : FP.Core.b64.exps = 2 ^ 11 := by decide +kernel
    unfold FP.Core.val64 FP.Core.decode FP.Core.fieldE FP.Core.fieldT
    rw [ht, he, if_pos (by omega), if_neg (by omega)]
  · exact UInt64.le_iff_toNat_le.mpr h1
theorem dB_n {a : Nat} {x : UInt64} (h : dB a x) : vf_n64 x := by
  obtain ⟨s, c, q, h1, -⟩ := h
  exact fp_not_nan (by rw [h1]; intro z; cases z)
theorem dB_self {a : Nat} {x : UInt64} (h : dB a x) : FP.dcmp x x = some .eq := by
  obtain ⟨s, c, q, h1, -⟩ := h
  exact FP.Core.dcmp_self (by rw [h1]; intro z; cases z)
theorem fp_rr_nn (f : FP.Core.Fmt) (s : Bool) (A B : Nat) (e : Int) : FP.Core.roundRatio f s A B e ≠ .nan := by
  unfold FP.Core.roundRatio
  split
  · intro z; cases z
  · unfold FP.Core.roundAt FP.Core.settle FP.Core.bound
    split <;> split <;> (intro z; cases z)
/-- a finite over a finite that isn't 0 -/
theorem dB_div {a b : Nat} {x y : UInt64} (hx : dB a x) (hy : dB b y) (h0 : FP.dcmp y FP.dconst0 ≠ some .eq) : FP.Core.val64 (FP.ddiv x y) ≠ .nan := by
  obtain ⟨s, c, q, h1, -⟩ := hx
  obtain ⟨t, d, r, h3, -⟩ := hy
  show FP.Core.val64 (FP.Core.ddiv x y) ≠ _
  rw [FP.Core.val64_ddiv, h1, h3]
  have hd : d ≠ 0 := by
    intro z
    apply h0
    show FP.Core.order (FP.Core.val64 y) (FP.Core.val64 FP.dconst0) = _
    rw [h3, z, show FP.Core.val64 FP.dconst0 = .fin false 0 FP.Core.b64.qmin from FP.Core.val64_dconst0]
    simp only [FP.Core.order, FP.Core.inUnits, Nat.zero_mul, FP.Core.signed_zero]
    rfl
  unfold FP.Core.quotient
  rw [if_neg hd]
  exact fp_rr_nn _ _ _ _ _
theorem dB_zero : dB 0 FP.dconst0 := ⟨false, 0, FP.Core.b64.qmin, FP.Core.val64_dconst0, by decide +kernel⟩
theorem dB_one : dB 0 FP.dconst1 := ⟨false, 2 ^ 52, -52, FP.Core.val64_dconst1, by decide⟩
theorem dB_eighth : dB 0 0x3fc0000000000000 := ⟨false, 2 ^ 52, -55, by decide +kernel, by decide⟩
/-- a weight, as the machine's two comparisons ask it -/
def wOK (w : UInt64) : Prop := ¬ (Op.cmpValue (FP.dcmp w FP.dconst0) .l < 0) ∧ ¬ (0 < Op.cmpValue (FP.dcmp w FP.dconst1) .g)
theorem wOK_dB {w : UInt64} (h : wOK w) : dB 0 w := by
  obtain ⟨h1, h2⟩ := h
  have f := FP.Core.val64_fits w
  have e0 : FP.dcmp w FP.dconst0 = FP.Core.order (FP.Core.val64 w) (.fin false 0 FP.Core.b64.qmin) := by
    show FP.Core.order (FP.Core.val64 w) (FP.Core.val64 FP.dconst0) = _
    rw [show FP.Core.val64 FP.dconst0 = .fin false 0 FP.Core.b64.qmin from FP.Core.val64_dconst0]
  have e1 : FP.dcmp w FP.dconst1 = FP.Core.order (FP.Core.val64 w) (.fin false (2 ^ 52) (-52)) := by
    show FP.Core.order (FP.Core.val64 w) (FP.Core.val64 FP.dconst1) = _
    rw [show FP.Core.val64 FP.dconst1 = .fin false (2 ^ 52) (-52) from FP.Core.val64_dconst1]
  rw [e0] at h1
  rw [e1] at h2
  cases hv : FP.Core.val64 w with
  | nan => rw [hv] at h1; exact absurd (by decide) h1
  | inf s =>
    rw [hv] at h1 h2
    cases s
    · exact absurd (by decide) h2
    · exact absurd (by decide) h1
  | fin s c q =>
    rw [hv] at h1 h2 f
    refine ⟨s, c, q, hv, ?_⟩
    rcases Int.lt_or_ge (-52) q with hq | hq
    · exfalso
      have hc : 2 ^ 52 ≤ c := by
        rcases f.2.2.2 with h | h
        · rw [show FP.Core.b64.qmin = -1074 from by decide +kernel] at h; omega
        · exact h
      cases s
      · apply h2
        have h3 : FP.Core.order (.fin false c q) (.fin false (2 ^ 52) (-52)) = some .gt := by
          simp only [FP.Core.order, FP.Core.inUnits, FP.Core.signed, Bool.false_eq_true, if_false]
          have hm : min q (-52) = -52 := by omega
          rw [hm, show ((-52 : Int) - (-52)).toNat = 0 from rfl, Nat.pow_zero, Nat.mul_one]
          have hpw : 2 ≤ 2 ^ (q - -52).toNat := by
            have : 2 ^ 1 ≤ 2 ^ (q - -52).toNat := Nat.pow_le_pow_right (by decide) (by omega)
            exact this
          have hbig : 2 ^ 52 < c * 2 ^ (q - -52).toNat := by
            have := Nat.mul_le_mul hc hpw
            omega
          rw [show compare ((c * 2 ^ (q - -52).toNat : Nat) : Int) ((2 ^ 52 : Nat) : Int) = .gt from by
            rw [Int.compare_eq_gt]; exact Int.ofNat_lt.mpr hbig]
        rw [h3]
        decide
      · apply h1
        have h3 : FP.Core.order (.fin true c q) (.fin false 0 FP.Core.b64.qmin) = some .lt := by
          simp only [FP.Core.order, FP.Core.inUnits, FP.Core.signed, if_true, Bool.false_eq_true, if_false, Nat.zero_mul]
          have hpos : 0 < c * 2 ^ (q - min q FP.Core.b64.qmin).toNat := Nat.mul_pos (by omega) (Nat.two_pow_pos _)
          rw [show compare (-((c * 2 ^ (q - min q FP.Core.b64.qmin).toNat : Nat) : Int)) ((0 : Nat) : Int) = .lt from by
            rw [Int.compare_eq_lt]; omega]
        rw [h3]
        decide
    · omega
