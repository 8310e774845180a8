/-! ===== doubles that are bits of floats ===== -/
/-- x is m * 2^q, written with all its digits -/
def DD (x : UInt64) (m : Nat) (q : Int) : Prop := FP.Core.val64 x = FP.Core.Datum.fin false m q ∧ 4503599627370496 ≤ m ∧ m < 9007199254740992 ∧ -1000 ≤ q ∧ q ≤ 900
theorem b64_fit {m : Nat} {q : Int} (h1 : 4503599627370496 ≤ m) (h2 : m < 9007199254740992) (h3 : -1000 ≤ q) (h4 : q ≤ 900) : FP.Core.fits FP.Core.b64 (FP.Core.Datum.fin false m q) := by
  have hp : FP.Core.b64.p = 53 := by decide
  have q2 : FP.Core.b64.qmin = -1074 := by decide
  have q1 : FP.Core.b64.qmax = 971 := by decide
  have q3 : FP.Core.b64.tails = 4503599627370496 := by decide
  refine ⟨?_, ?_, ?_, .inr ?_⟩
  · rw [hp]; omega
  · rw [q2]; omega
  · rw [q1]; omega
  · rw [q3]; exact h1
theorem v2 : FP.Core.val64 4611686018427387904 = FP.Core.Datum.fin false 4503599627370496 (-51) := by decide +kernel
theorem v1 : FP.Core.val64 FP.dconst1 = FP.Core.Datum.fin false 4503599627370496 (-52) := by decide +kernel
theorem v23 : FP.Core.val64 4710765210229538816 = FP.Core.Datum.fin false 4503599627370496 (-29) := by decide +kernel
theorem dd_nn {x : UInt64} {m : Nat} {q : Int} (h : DD x m q) : nn64 x := by
  have h0 : FP.Core.decode FP.Core.b64 x.toNat ≠ FP.Core.Datum.nan := by
    have := h.1
    unfold FP.Core.val64 at this
    rw [this]; exact FP.Core.Datum.noConfusion
  have h1 : ¬ FP.Core.infBits FP.Core.b64 < FP.Core.mag FP.Core.b64 x.toNat := fun z => h0 ((FP.Core.decode_nan _).mpr z)
  have e1 : FP.Core.infBits FP.Core.b64 = 9218868437227405312 := by decide
  rw [e1] at h1
  unfold FP.Core.mag at h1
  rw [FP.Core.half_b64] at h1
  show x &&& 0x7fffffffffffffff ≤ 0x7ff0000000000000
  rw [UInt64.le_iff_toNat_le, FP.Core.mask_toNat]
  show x.toNat % 2 ^ 63 ≤ 9218868437227405312
  omega
theorem dd_mul {x y : UInt64} {m : Nat} {q r : Int} (h : DD x m q) (hy : FP.Core.val64 y = FP.Core.Datum.fin false 4503599627370496 (r - 52)) (h1 : -1000 ≤ q + r) (h2 : q + r ≤ 900) : DD (FP.dmul x y) m (q + r) := by
  obtain ⟨a1, a2, a3, a4, a5⟩ := h
  refine ⟨?_, a2, a3, h1, h2⟩
  have t := FP.Core.val64_dmul x y
  rw [a1, hy] at t
  show FP.Core.val64 (FP.Core.dmul x y) = _
  rw [t]
  show FP.Core.roundRatio FP.Core.b64 false (m * 4503599627370496) 1 (q + (r - 52)) = _
  refine FP.Core.roundRatio_exact FP.Core.good_b64 (by omega) (b64_fit a2 a3 h1 h2) ?_
  rw [show (q + (r - 52) - (q + r)).toNat = 0 by omega, show (q + r - (q + (r - 52))).toNat = 52 by omega]
  omega
theorem dd_half {x : UInt64} {m : Nat} {q : Int} (h : DD x m q) (h1 : -1000 ≤ q - 1) : DD (FP.ddiv x 4611686018427387904) m (q - 1) := by
  obtain ⟨a1, a2, a3, a4, a5⟩ := h
  refine ⟨?_, a2, a3, h1, by omega⟩
  have t := FP.Core.val64_ddiv x 4611686018427387904
  rw [a1, v2] at t
  show FP.Core.val64 (FP.Core.ddiv x _) = _
  rw [t]
  show FP.Core.roundRatio FP.Core.b64 false m 4503599627370496 (q - -51) = _
  refine FP.Core.roundRatio_exact FP.Core.good_b64 (by omega) (b64_fit a2 a3 h1 (by omega)) ?_
  rw [show (q - -51 - (q - 1)).toNat = 52 by omega, show (q - 1 - (q - -51)).toNat = 0 by omega]
  omega
theorem dd_f2d {a L : Nat} (ha : a < 2139095040) (hL : L ≤ 23) (h1 : 2 ^ L ≤ whB a) (h2 : whB a < 2 ^ (L + 1)) : DD (FP.f2d (zI (a : Int)).toUInt32) (whB a * 2 ^ (52 - L)) (pwB a - (52 - (L : Int))) := by
  have pr := pw_rng ha
  have m1 : 4503599627370496 ≤ whB a * 2 ^ (52 - L) := by
    have : 2 ^ L * 2 ^ (52 - L) ≤ whB a * 2 ^ (52 - L) := Nat.mul_le_mul_right _ h1
    rw [← Nat.pow_add, show L + (52 - L) = 52 by omega] at this
    exact this
  have m2 : whB a * 2 ^ (52 - L) < 9007199254740992 := by
    have : whB a * 2 ^ (52 - L) < 2 ^ (L + 1) * 2 ^ (52 - L) := Nat.mul_lt_mul_of_pos_right h2 (Nat.two_pow_pos _)
    rw [← Nat.pow_add, show L + 1 + (52 - L) = 53 by omega] at this
    exact this
  refine ⟨?_, m1, m2, by omega, by omega⟩
  have t := FP.Core.val64_f2d (zI (a : Int)).toUInt32
  have e : FP.Core.val32 (zI (a : Int)).toUInt32 = FP.Core.Datum.fin false (whB a) (pwB a) := by
    unfold FP.Core.val32
    rw [zI_u (by omega), dec_f ha]
  rw [e] at t
  have hn : FP.Core.fIsNaN (zI (a : Int)).toUInt32 = false := by
    unfold FP.Core.fIsNaN FP.Core.isNaN
    unfold FP.Core.val32 at e
    rw [e]
    exact decide_eq_false FP.Core.Datum.noConfusion
  have ef : FP.f2d (zI (a : Int)).toUInt32 = FP.Core.f2d (zI (a : Int)).toUInt32 := by
    unfold FP.f2d
    rw [hn]; rfl
  rw [ef, t]
  show FP.Core.roundRatio FP.Core.b64 false (whB a) 1 (pwB a) = _
  refine FP.Core.roundRatio_exact FP.Core.good_b64 (by omega) (b64_fit m1 m2 (by omega) (by omega)) ?_
  rw [show (pwB a - (pwB a - (52 - (L : Int)))).toNat = 52 - L by omega, show (pwB a - (52 - (L : Int)) - pwB a).toNat = 0 by omega]
  omega
theorem dd_lt {x y : UInt64} {m : Nat} {q r : Int} (h : DD x m q) (hy : FP.Core.val64 y = FP.Core.Datum.fin false 4503599627370496 r) (hr : -1000 ≤ r) : (q < r → FP.dcmp x y = some .lt) ∧ (r ≤ q → FP.dcmp x y = some .gt ∨ FP.dcmp x y = some .eq) := by
  obtain ⟨a1, a2, a3, a4, a5⟩ := h
  have nx : FP.Core.val64 x ≠ FP.Core.Datum.nan := by rw [a1]; exact FP.Core.Datum.noConfusion
  have ny : FP.Core.val64 y ≠ FP.Core.Datum.nan := by rw [hy]; exact FP.Core.Datum.noConfusion
  have q2 : FP.Core.b64.qmin = -1074 := by decide
  have zx : FP.Core.zval FP.Core.b64 (FP.Core.val64 x) = ((m * 2 ^ (q + 1074).toNat : Nat) : Int) := by
    rw [a1]
    show ((m * 2 ^ (q - FP.Core.b64.qmin).toNat : Nat) : Int) = _
    rw [q2, show q - -1074 = q + 1074 by omega]
  have zy : FP.Core.zval FP.Core.b64 (FP.Core.val64 y) = ((4503599627370496 * 2 ^ (r + 1074).toNat : Nat) : Int) := by
    rw [hy]
    show ((4503599627370496 * 2 ^ (r - FP.Core.b64.qmin).toNat : Nat) : Int) = _
    rw [q2, show r - -1074 = r + 1074 by omega]
  constructor
  · intro hq
    apply FP.Core.dcmp_lt.mpr
    refine ⟨nx, ny, ?_⟩
    rw [zx, zy]
    apply Int.ofNat_lt.mpr
    have h1 : m * 2 ^ (q + 1074).toNat < 9007199254740992 * 2 ^ (q + 1074).toNat := Nat.mul_lt_mul_of_pos_right a3 (Nat.two_pow_pos _)
    have h2 : 2 ^ ((q + 1074).toNat + 1) ≤ 2 ^ (r + 1074).toNat := Nat.pow_le_pow_right (by omega) (by omega)
    rw [Nat.pow_succ] at h2
    generalize 2 ^ (q + 1074).toNat = X at *
    generalize 2 ^ (r + 1074).toNat = Y at *
    omega
  · intro hq
    apply FP.Core.dcmp_ge.mpr
    refine ⟨nx, ny, ?_⟩
    rw [zx, zy]
    apply Int.ofNat_le.mpr
    have h2 : 2 ^ (r + 1074).toNat ≤ 2 ^ (q + 1074).toNat := Nat.pow_le_pow_right (by omega) (by omega)
    exact Nat.mul_le_mul a2 h2
