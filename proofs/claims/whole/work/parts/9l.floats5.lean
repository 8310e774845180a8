/-! ===== floats: bounds ===== -/
theorem rd_cases (A : Nat) {B : Nat} (hB : 0 < B) (e : Int) : FP.Core.decode FP.Core.b32 (rdB A B e) = FP.Core.roundRatio FP.Core.b32 false A B e ∧ rdB A B e ≤ 2139095040 := by
  have hf := FP.Core.roundRatio_fits FP.Core.good_b32 false A hB e
  have h1 := FP.Core.decode_encode FP.Core.good_b32 _ hf
  refine ⟨h1, ?_⟩
  have q1 : FP.Core.b32.qmax = 104 := by decide
  have q2 : FP.Core.b32.qmin = -149 := by decide
  have q3 : FP.Core.b32.tails = 8388608 := by decide
  have q4 : FP.Core.b32.exps = 256 := by decide
  have q5 : (2 : Nat) ^ FP.Core.b32.p = 16777216 := by decide
  unfold rdB
  rcases FP.Core.roundRatio_cases FP.Core.b32 false A B e with ⟨c, q, h⟩ | h
  · rw [h] at hf ⊢
    obtain ⟨f1, f2, f3, f4⟩ := hf
    rw [q5] at f1; rw [q2] at f2; rw [q1] at f3
    have henc : FP.Core.encode FP.Core.b32 (FP.Core.Datum.fin false c q) = if c < FP.Core.b32.tails then FP.Core.assemble FP.Core.b32 false 0 c else FP.Core.assemble FP.Core.b32 false ((q - FP.Core.b32.qmin).toNat + 1) (c - FP.Core.b32.tails) := rfl
    rw [henc, q2, q3]
    unfold FP.Core.assemble
    rw [q3, q4]
    simp only [Bool.toNat_false, Nat.zero_mul, Nat.zero_add]
    split
    · omega
    · have hX : (q - -149).toNat + 1 ≤ 254 := by omega
      generalize (q - -149).toNat + 1 = X at hX
      clear f2 f3 f4 h1 henc
      omega
  · rw [h]
    have : FP.Core.encode FP.Core.b32 (FP.Core.Datum.inf false) = 2139095040 := by decide +kernel
    rw [this]
    omega
theorem units_f (a : Nat) : FP.Core.unitsOf FP.Core.b32 a = whB a * 2 ^ (pwB a + 149).toNat := by
  have q3 : FP.Core.b32.tails = 8388608 := by decide
  unfold FP.Core.unitsOf whB pwB
  rw [q3]
  by_cases c : a < 8388608
  · rw [if_pos c, if_pos (by omega), if_pos (by omega)]; simp
  · rw [if_neg c, if_neg (by omega), if_neg (by omega), Nat.add_comm, show (((a / 8388608 : Nat) : Int) - 150 + 149).toNat = a / 8388608 - 1 by omega]
theorem rd_le {A B m : Nat} {e e0 : Int} (hB : 0 < B) (h0 : e0 ≤ -149) (h0e : e0 ≤ e) (h : A * 2 ^ (e - e0).toNat ≤ whB m * 2 ^ (pwB m + 149).toNat * 2 ^ (-149 - e0).toNat * B) : rdB A B e ≤ m := by
  obtain ⟨h1, h2⟩ := rd_cases A hB e
  have h3 := FP.Core.mag_le FP.Core.good_b32 (m := m) h1 hB (e0 := e0) h0 h0e (by
    rw [units_f]; exact h)
  unfold FP.Core.mag at h3
  rw [FP.Core.half_b32] at h3
  omega
theorem un_mono {a b : Nat} (h : a ≤ b) : whB a * 2 ^ (pwB a + 149).toNat ≤ whB b * 2 ^ (pwB b + 149).toNat := by
  rw [← units_f, ← units_f]
  exact FP.Core.unitsOf_le_iff.mpr h
theorem pw_ge (a : Nat) : -149 ≤ pwB a := by unfold pwB; split <;> omega
/-- the sum in units -/
theorem sd_le {a b m : Nat} (h : whB a * 2 ^ (pwB a + 149).toNat + whB b * 2 ^ (pwB b + 149).toNat ≤ whB m * 2 ^ (pwB m + 149).toNat) : sdB a b ≤ m := by
  have key : ∀ g l : Nat, l ≤ g → whB g * 2 ^ (pwB g + 149).toNat + whB l * 2 ^ (pwB l + 149).toNat ≤ whB m * 2 ^ (pwB m + 149).toNat → adB g l ≤ m := fun g l hl hs => by
    unfold adB
    have hm := pw_mono hl
    have hg := pw_ge g
    have hll := pw_ge l
    refine rd_le (by omega) (e0 := -149) (by omega) hll ?_
    rw [show (-149 - -149 : Int).toNat = 0 by rfl, Nat.pow_zero, Nat.mul_one, Nat.mul_one, Nat.add_mul, Nat.mul_assoc, ← Nat.pow_add, show (pwB g - pwB l).toNat + (pwB l - -149).toNat = (pwB g + 149).toNat by omega, show (pwB l - -149).toNat = (pwB l + 149).toNat by omega]
    exact hs
  unfold sdB
  split
  · exact key b a (by assumption) (by omega)
  · exact key a b (by omega) h
theorem ml_le {a b m : Nat} (h : whB a * 2 ^ (pwB a + 149).toNat * (whB b * 2 ^ (pwB b + 149).toNat) ≤ whB m * 2 ^ (pwB m + 149).toNat * 2 ^ 149) : rdB (whB a * whB b) 1 (pwB a + pwB b) ≤ m := by
  have h1 := pw_ge a
  have h2 := pw_ge b
  refine rd_le (by omega) (e0 := -298) (by omega) (by omega) ?_
  rw [show (-149 - -298 : Int).toNat = 149 by rfl, Nat.mul_one]
  refine Nat.le_trans (Nat.le_of_eq ?_) h
  rw [show (pwB a + pwB b - -298).toNat = (pwB a + 149).toNat + (pwB b + 149).toNat by omega, Nat.pow_add]
  ac_rfl
/-- the bits of a power of two -/
def pB (k : Nat) : Nat := (k + 127) * 8388608
theorem pB_u {k : Nat} : whB (pB k) * 2 ^ (pwB (pB k) + 149).toNat = 2 ^ (k + 149) := by
  have e1 : pB k / 8388608 = k + 127 := by unfold pB; omega
  have e2 : pB k % 8388608 = 0 := by unfold pB; omega
  unfold whB pwB
  rw [e1, e2, if_neg (by omega), if_neg (by omega), show (((k + 127 : Nat) : Int) - 150 + 149).toNat = k + 126 by omega, Nat.zero_add, show (8388608 : Nat) = 2 ^ 23 from rfl, ← Nat.pow_add]
  congr 1; omega
theorem sd_pow {a b k : Nat} (ha : a ≤ pB k) (hb : b ≤ pB k) : sdB a b ≤ pB (k + 1) := by
  refine sd_le ?_
  have h1 := un_mono ha
  have h2 := un_mono hb
  rw [pB_u] at h1 h2 ⊢
  rw [show k + 1 + 149 = (k + 149) + 1 by omega, Nat.pow_succ]
  omega
theorem ml_pow {a b k j : Nat} (ha : a ≤ pB k) (hb : b ≤ pB j) : rdB (whB a * whB b) 1 (pwB a + pwB b) ≤ pB (k + j) := by
  refine ml_le ?_
  have h1 := un_mono ha
  have h2 := un_mono hb
  rw [pB_u] at h1 h2 ⊢
  refine Nat.le_trans (Nat.mul_le_mul h1 h2) (Nat.le_of_eq ?_)
  rw [← Nat.pow_add, ← Nat.pow_add]
  congr 1; omega
theorem ml_one {a b : Nat} (hb : b ≤ 1065353216) : rdB (whB a * whB b) 1 (pwB a + pwB b) ≤ a := by
  refine ml_le ?_
  have h2 := un_mono (show b ≤ pB 0 from hb)
  rw [pB_u, Nat.zero_add] at h2
  exact Nat.mul_le_mul_left _ h2
theorem ad_one {a : Nat} (h : a ≤ 1266679808) : sdB a 1065353216 ≤ 1266679808 := by
  by_cases c : a = 1266679808
  · subst c
    have : sdB 1266679808 1065353216 = 1266679808 := by decide +kernel
    omega
  · refine sd_le ?_
    have h1 := un_mono (show a ≤ 1266679807 by omega)
    have e1 : whB 1266679807 * 2 ^ (pwB 1266679807 + 149).toNat = 16777215 * 2 ^ 149 := by decide +kernel
    have e2 : whB 1065353216 * 2 ^ (pwB 1065353216 + 149).toNat = 2 ^ 149 := by decide +kernel
    have e3 : whB 1266679808 * 2 ^ (pwB 1266679808 + 149).toNat = 16777216 * 2 ^ 149 := by decide +kernel
    rw [e1] at h1
    rw [e2, e3]
    generalize 2 ^ 149 = P at *
    omega
theorem nn_of {k : Nat} (h : k ≤ 2139095040) {r : UInt32} (e : r.toInt32 = zI (k : Int)) : nn32 r := by
  have h1 : r.toNat = k := by
    have e2 : r = (zI (k : Int)).toUInt32 := by rw [← e, UInt32.toUInt32_toInt32]
    rw [e2, zI_u (by omega)]
  have h2 : r &&& 0x7fffffff = r := by
    apply UInt32.toNat_inj.mp
    rw [UInt32.toNat_and]
    have e3 : (0x7fffffff : UInt32).toNat = 2 ^ 31 - 1 := by decide
    rw [e3, Nat.and_two_pow_sub_one_eq_mod, h1]; omega
  show r &&& 0x7fffffff ≤ 0x7f800000
  rw [h2, UInt32.le_iff_toNat_le, h1]
  exact h
theorem u_of {k : Nat} (h : k < 2147483648) {r : UInt32} (e : r.toInt32 = zI (k : Int)) : r = (zI (k : Int)).toUInt32 := by
  rw [← e, UInt32.toUInt32_toInt32]
theorem f_cmp {a b : Nat} (ha : a < 2139095040) (hb : b < 2139095040) : FP.fcmp (zI (a : Int)).toUInt32 (zI (b : Int)).toUInt32 = if a < b then some .lt else if a = b then some .eq else some .gt := by
  have hv : ∀ a : Nat, a < 2139095040 → FP.Core.val32 (zI (a : Int)).toUInt32 ≠ FP.Core.Datum.nan := fun a ha => by
    unfold FP.Core.val32
    rw [zI_u (by omega), dec_f ha]
    exact FP.Core.Datum.noConfusion
  have h := FP.Core.mono_bits32 (hv a ha) (hv b hb) (by rw [zI_u (by omega)]; omega) (by rw [zI_u (by omega)]; omega)
  rw [zI_u (by omega), zI_u (by omega)] at h
  by_cases c1 : a < b
  · rw [if_pos c1]; exact h.1.mpr c1
  · rw [if_neg c1]
    by_cases c2 : a = b
    · rw [if_pos c2]; exact h.2.1.mpr c2
    · rw [if_neg c2]; exact h.2.2.mpr (by omega)
