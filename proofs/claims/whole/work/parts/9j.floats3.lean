/-! ===== floats: what bits say ===== -/
def whB (a : Nat) : Nat := if a / 8388608 = 0 then a else a % 8388608 + 8388608
def pwB (a : Nat) : Int := if a / 8388608 = 0 then -149 else ((a / 8388608 : Nat) : Int) - 150
theorem wh_lt (a : Nat) : whB a < 16777216 := by unfold whB; split <;> omega
theorem pw_rng {a : Nat} (h : a < 2139095040) : -149 ≤ pwB a ∧ pwB a ≤ 104 := by unfold pwB; split <;> omega
theorem zI_s23 {a : Nat} (h : a < 2147483648) : zI (a : Int) >>> ((23 : Int32) &&& 31) = zI ((a / 8388608 : Nat) : Int) := by
  have := zI_shr (a := (a : Int)) (k := 23) (by decide) (by omega) (by omega)
  have e : ((23 : Int32) &&& 31) = (zI ((23 : Nat) : Int) &&& zI 31) := by decide
  rw [e, this]
  congr 1
theorem m_whole {a : Nat} (h : a < 2147483648) : Mo_wholeOf (zI (a : Int)) = some (zL (whB a : Int)) := by
  unfold Mo_wholeOf whB
  rw [zI_s23 h]
  by_cases c : a / 8388608 = 0
  · rw [if_pos (by rw [c]; rfl), if_pos c, zL_32 (by omega) (by omega)]
  · rw [if_neg (by rw [zI_lit, zI_eq (by omega) (by omega) (by omega) (by omega)]; omega), if_neg c, zI_low h]
    have hp := zI_pack (x := 1) (y := a % 8388608) (by omega) (by omega)
    have e : zI ((1 : Nat) : Int) <<< ((23 : Int32) &&& 31) = (8388608 : Int32) := by decide
    rw [e, Int32.or_comm] at hp
    rw [hp, zL_32 (by omega) (by omega)]
    congr 2
    omega
theorem m_power {a : Nat} (h : a < 2147483648) : Mo_powerOf (zI (a : Int)) = some (zI (pwB a)) := by
  unfold Mo_powerOf pwB
  rw [zI_s23 h]
  by_cases c : a / 8388608 = 0
  · rw [if_pos (by rw [c]; rfl), if_pos c]; rfl
  · rw [if_neg (by rw [zI_lit, zI_eq (by omega) (by omega) (by omega) (by omega)]; omega), if_neg c, show (150 : Int32) = zI 150 from rfl, zI_sub]
theorem dec_f {a : Nat} (h : a < 2139095040) : FP.Core.decode FP.Core.b32 a = FP.Core.Datum.fin false (whB a) (pwB a) := by
  have q2 : FP.Core.b32.qmin = -149 := by decide
  have q3 : FP.Core.b32.tails = 8388608 := by decide
  have q4 : FP.Core.b32.exps = 256 := by decide
  unfold FP.Core.decode FP.Core.fieldE FP.Core.fieldT FP.Core.fieldS whB pwB
  rw [q2, q3, q4]
  have e1 : a / 8388608 % 256 = a / 8388608 := by omega
  have e2 : (a / 8388608 / 256 % 2 == 1) = false := by
    have : a / 8388608 / 256 = 0 := by omega
    rw [this]; rfl
  rw [e1, e2, if_neg (by omega)]
  by_cases c : a / 8388608 = 0
  · rw [if_pos c, if_pos c, if_pos c, show a % 8388608 = a by omega]
  · rw [if_neg c, if_neg c, if_neg c, show 8388608 + a % 8388608 = a % 8388608 + 8388608 by omega, show (-149 : Int) + (((a / 8388608 : Nat) : Int) - 1) = ((a / 8388608 : Nat) : Int) - 150 by omega]
theorem zI_u {a : Nat} (h : a < 2147483648) : (zI (a : Int)).toUInt32.toNat = a := by
  show (BitVec.ofInt 32 (a : Int)).toNat = a
  rw [BitVec.ofInt_natCast, BitVec.toNat_ofNat, Nat.mod_eq_of_lt (by omega)]
theorem u_zI (k : Nat) : (UInt32.ofNat k).toInt32 = zI (k : Int) := by
  apply Int32.toBitVec_inj.mp
  show BitVec.ofNat 32 k = BitVec.ofInt 32 (k : Int)
  rw [BitVec.ofInt_natCast]
/-- the bits of what a number is rounded to -/
def rdB (A B : Nat) (e : Int) : Nat := FP.Core.encode FP.Core.b32 (FP.Core.roundRatio FP.Core.b32 false A B e)
theorem F_mul {a b : Nat} (ha : a < 2139095040) (hb : b < 2139095040) : Mo_times (zI (a : Int)) (zI (b : Int)) = some (zI (rdB (whB a * whB b) 1 (pwB a + pwB b) : Int)) ∧ (FP.fmul (zI (a : Int)).toUInt32 (zI (b : Int)).toUInt32).toInt32 = zI (rdB (whB a * whB b) 1 (pwB a + pwB b) : Int) := by
  have w1 := wh_lt a
  have w2 := wh_lt b
  have p1 := pw_rng ha
  have p2 := pw_rng hb
  have hm : whB a * whB b < 4611686018427387904 := by
    have : whB a * whB b ≤ 16777216 * 16777216 := Nat.mul_le_mul (by omega) (by omega)
    omega
  constructor
  · rw [Mo_times, m_whole (by omega), bp_some, m_whole (by omega), bp_some, m_power (by omega), bp_some, m_power (by omega), bp_some, zL_mul, zI_add, show (whB a : Int) * (whB b : Int) = ((whB a * whB b : Nat) : Int) by rw [Int.natCast_mul], m_pk hm (by omega) (by omega), bp_some]
    rfl
  · show (UInt32.ofNat (FP.Core.mul FP.Core.b32 (zI (a : Int)).toUInt32.toNat (zI (b : Int)).toUInt32.toNat)).toInt32 = _
    rw [u_zI, zI_u (by omega), zI_u (by omega)]
    unfold FP.Core.mul
    rw [dec_f ha, dec_f hb]
    rfl
theorem pow_spl (a b : Nat) : 2 ^ (a + b) = 2 ^ a * 2 ^ b := Nat.pow_add 2 a b
theorem near_st {A B k : Nat} (hB : 0 < B) : FP.Core.nearest A (B * 2 ^ (k + 1)) = FP.Core.nearest (2 * (A / B) + (if A % B = 0 then 0 else 1)) (2 ^ (k + 2)) := by
  have hp := Nat.two_pow_pos k
  have hR := Nat.mod_lt A hB
  have hA := Nat.div_add_mod A B
  generalize hX : A / B = X at *
  generalize hRr : A % B = R at *
  have hX2 := Nat.div_add_mod X (2 * 2 ^ k)
  have hx2 := Nat.mod_lt X (show 0 < 2 * 2 ^ k by omega)
  generalize hM : X / (2 * 2 ^ k) = M at *
  generalize hx : X % (2 * 2 ^ k) = x at *
  generalize hh : 2 ^ k = h at *
  have hpow1 : 2 ^ (k + 1) = 2 * h := by rw [Nat.pow_succ, hh]; omega
  have hpow2 : 2 ^ (k + 2) = 4 * h := by rw [Nat.pow_succ, hpow1]; omega
  -- quotient and remainder of A by B * 2 h
  have hd : A / (B * (2 * h)) = M := by rw [← Nat.div_div_eq_div_mul, hX, hM]
  have hAM : A = B * (2 * h) * M + (B * x + R) := by
    rw [← hA, ← hX2, Nat.mul_add, ← Nat.mul_assoc B (2 * h) M, Nat.add_assoc]
  have hBx : B * x + R < B * (2 * h) := by
    have : B * (x + 1) ≤ B * (2 * h) := Nat.mul_le_mul_left _ (by omega)
    rw [Nat.mul_add, Nat.mul_one] at this
    omega
  have hm : A % (B * (2 * h)) = B * x + R := by
    rw [hAM, Nat.mul_add_mod, Nat.mod_eq_of_lt hBx]
  generalize ht : (if R = 0 then 0 else 1) = t at *
  have ht1 : t ≤ 1 ∧ (t = 0 ↔ R = 0) := by
    rw [← ht]; split <;> omega
  have hNM : 2 * X + t = 4 * h * M + (2 * x + t) := by
    have : 2 * (2 * h * M) = 4 * h * M := by rw [← Nat.mul_assoc, show 2 * (2 * h) = 4 * h by omega]
    omega
  have hd2 : (2 * X + t) / (4 * h) = M := by
    rw [hNM, Nat.mul_add_div (by omega), Nat.div_eq_of_lt (by omega)]; omega
  have hm2 : (2 * X + t) % (4 * h) = 2 * x + t := by
    rw [hNM, Nat.mul_add_mod, Nat.mod_eq_of_lt (by omega)]
  have hhalf : B * (2 * h) = 2 * (B * h) := by rw [← Nat.mul_assoc, Nat.mul_comm B 2, Nat.mul_assoc]
  have lt1 : 2 * (B * x + R) < B * (2 * h) ↔ x < h := by
    rw [hhalf]
    constructor
    · intro z
      refine Nat.lt_of_not_le (fun c => ?_)
      have := Nat.mul_le_mul_left B c
      omega
    · intro z
      have : B * (x + 1) ≤ B * h := Nat.mul_le_mul_left _ z
      rw [Nat.mul_add, Nat.mul_one] at this
      omega
  have gt1 : B * (2 * h) < 2 * (B * x + R) ↔ h < x ∨ (h = x ∧ R ≠ 0) := by
    rw [hhalf]
    constructor
    · intro z
      rcases Nat.lt_trichotomy h x with c | c | c
      · exact .inl c
      · subst c; exact .inr ⟨rfl, by omega⟩
      · have : B * (x + 1) ≤ B * h := Nat.mul_le_mul_left _ c
        rw [Nat.mul_add, Nat.mul_one] at this
        omega
    · rintro (c | ⟨c, d⟩)
      · have : B * (h + 1) ≤ B * x := Nat.mul_le_mul_left _ c
        rw [Nat.mul_add, Nat.mul_one] at this
        omega
      · subst c; omega
  unfold FP.Core.nearest
  rw [hpow1, hpow2, hd, hm, hd2, hm2]
  by_cases c1 : x < h
  · rw [if_pos (lt1.mpr c1), if_pos (show 2 * (2 * x + t) < 4 * h by omega)]
  · rw [if_neg (fun z => c1 (lt1.mp z)), if_neg (show ¬ 2 * (2 * x + t) < 4 * h by omega)]
    by_cases c2 : h < x ∨ (h = x ∧ R ≠ 0)
    · rw [if_pos (gt1.mpr c2), if_pos (show 4 * h < 2 * (2 * x + t) by omega)]
    · rw [if_neg (fun z => c2 (gt1.mp z)), if_neg (show ¬ 4 * h < 2 * (2 * x + t) by omega)]
theorem rd_st {A B : Nat} {e : Int} (hB : 0 < B) (h : 33554432 * B ≤ A) : FP.Core.roundRatio FP.Core.b32 false A B e = FP.Core.roundRatio FP.Core.b32 false (2 * (A / B) + (if A % B = 0 then 0 else 1)) 1 (e - 1) := by
  have hA : 0 < A := by
    have : 0 < 33554432 * B := by omega
    omega
  have hX : 33554432 ≤ A / B := (Nat.le_div_iff_mul_le hB).mpr h
  have hN : 0 < 2 * (A / B) + (if A % B = 0 then 0 else 1) := by omega
  have hdm := Nat.div_add_mod A B
  have hml := Nat.mod_lt A hB
  unfold FP.Core.roundRatio
  rw [if_neg (by omega), if_neg (by omega)]
  have b1 := FP.Core.quantum_below (f := FP.Core.b32) hA hB e
  have b2 := FP.Core.quantum_not_below (f := FP.Core.b32) hA hB e
  have b3 := FP.Core.quantum_ge FP.Core.b32 A B e
  generalize hQ : FP.Core.quantum FP.Core.b32 A B e = Q at *
  have hp24 : (FP.Core.b32.p : Int) = 24 := rfl
  rw [hp24] at b1 b2
  -- the exponent is great
  have hj : 26 ≤ Q - e + 24 := by
    refine Int.le_of_not_gt (fun c => ?_)
    have := FP.Core.below_mono (A := A) (B := B) (a := Q - e + 24) (b := 25) (by omega) b1
    unfold FP.Core.Below at this
    simp at this
    omega
  obtain ⟨k, hk⟩ : ∃ k : Nat, Q - e = ((k + 1 : Nat) : Int) := ⟨(Q - e - 1).toNat, by omega⟩
  have hq : FP.Core.quantum FP.Core.b32 (2 * (A / B) + (if A % B = 0 then 0 else 1)) 1 (e - 1) = Q := by
    refine FP.Core.quantum_eq hN (by omega) b3 ?_ ?_
    · rw [hp24, show Q - (e - 1) + 24 = ((k + 26 : Nat) : Int) by omega]
      rw [show Q - e + 24 = ((k + 25 : Nat) : Int) by omega] at b1
      unfold FP.Core.Below at b1 ⊢
      rw [show (-((k + 25 : Nat) : Int)).toNat = 0 by omega, Int.toNat_natCast, Nat.pow_zero, Nat.mul_one] at b1
      rw [show (-((k + 26 : Nat) : Int)).toNat = 0 by omega, Int.toNat_natCast, Nat.pow_zero, Nat.mul_one, Nat.one_mul, Nat.pow_succ]
      have : A / B < 2 ^ (k + 25) := (Nat.div_lt_iff_lt_mul hB).mpr (by rw [Nat.mul_comm]; exact b1)
      split <;> omega
    · rcases b2 with z | z
      · exact .inl z
      · refine .inr ?_
        rw [hp24, show Q - (e - 1) + (24 - 1) = ((k + 25 : Nat) : Int) by omega]
        rw [show Q - e + (24 - 1) = ((k + 24 : Nat) : Int) by omega] at z
        unfold FP.Core.Below at z ⊢
        rw [show (-((k + 24 : Nat) : Int)).toNat = 0 by omega, Int.toNat_natCast, Nat.pow_zero, Nat.mul_one] at z
        rw [show (-((k + 25 : Nat) : Int)).toNat = 0 by omega, Int.toNat_natCast, Nat.pow_zero, Nat.mul_one, Nat.one_mul, Nat.pow_succ]
        have : 2 ^ (k + 24) ≤ A / B := (Nat.le_div_iff_mul_le hB).mpr (by rw [Nat.mul_comm]; omega)
        omega
  rw [hq]
  unfold FP.Core.roundAt FP.Core.unitsNum FP.Core.unitsDen
  rw [show (e - Q).toNat = 0 by omega, show (Q - e).toNat = k + 1 by omega, show (e - 1 - Q).toNat = 0 by omega, show (Q - (e - 1)).toNat = k + 2 by omega, Nat.pow_zero, Nat.mul_one, Nat.mul_one, Nat.one_mul, near_st hB]
