/-! ===== floats: long numbers ===== -/
def zL (n : Int) : Int64 := Int64.ofInt n
theorem zL_toInt {n : Int} (h1 : -9223372036854775808 ≤ n) (h2 : n < 9223372036854775808) : (zL n).toInt = n := Int64.toInt_ofInt_of_le h1 h2
theorem zL_add (a b : Int) : zL a + zL b = zL (a + b) := (Int64.ofInt_add a b).symm
theorem zL_sub (a b : Int) : zL a - zL b = zL (a - b) := (Int64.ofInt_sub a b).symm
theorem zL_mul (a b : Int) : zL a * zL b = zL (a * b) := (Int64.ofInt_mul a b).symm
theorem zL_32 {n : Int} (h1 : -2147483648 ≤ n) (h2 : n < 2147483648) : Int32.toInt64 (zI n) = zL n := by
  apply Int64.toInt_inj.mp
  rw [Int32.toInt_toInt64, zI_toInt h1 h2, zL_toInt (by omega) (by omega)]
theorem zL_to32 {n : Int} (h1 : -2147483648 ≤ n) (h2 : n < 2147483648) : Int64.toInt32 (zL n) = zI n := by
  apply Int32.toInt_inj.mp
  rw [Int64.toInt_toInt32, zL_toInt (by omega) (by omega), zI_toInt h1 h2]
  exact Int.bmod_eq_of_le (by omega) (by omega)
theorem shL_n : ∀ k : Fin 63, (((zL (k.val : Int) &&& 63).toBitVec.smod 64).toNat) = k.val := by decide +kernel
theorem zL_shr {a : Int} {k : Nat} (hk : k < 63) (h1 : 0 ≤ a) (h2 : a < 9223372036854775808) : zL a >>> (zL (k : Int) &&& 63) = zL (a / 2 ^ k) := by
  apply Int64.toInt_inj.mp
  have e : (zL a >>> (zL (k : Int) &&& 63)).toInt = (zL a).toInt >>> k := by
    show ((zL a).toBitVec.sshiftRight' ((zL (k : Int) &&& 63).toBitVec.smod 64)).toInt = _
    rw [BitVec.toInt_sshiftRight', shL_n ⟨k, hk⟩]
    rfl
  have hp : (0 : Int) < 2 ^ k := Int.pow_pos (by decide)
  have b1 : 0 ≤ a / 2 ^ k := Int.ediv_nonneg h1 (Int.le_of_lt hp)
  have b2 : a / 2 ^ k < 9223372036854775808 := by have := Int.ediv_le_self (2 ^ k) h1; omega
  rw [e, zL_toInt (by omega) h2, zL_toInt (by omega) b2, Int.shiftRight_eq_div_pow]
  rfl
theorem zL_shl {a : Nat} {k : Nat} (hk : k < 63) (h2 : a * 2 ^ k < 9223372036854775808) : zL (a : Int) <<< (zL (k : Int) &&& 63) = zL ((a * 2 ^ k : Nat) : Int) := by
  apply Int64.toBitVec_inj.mp
  have e : (zL (a : Int) <<< (zL (k : Int) &&& 63)).toBitVec = (zL (a : Int)).toBitVec <<< k := by
    show ((zL (a : Int)).toBitVec <<< ((zL (k : Int) &&& 63).toBitVec.smod 64)) = _
    have := shL_n ⟨k, hk⟩
    rw [BitVec.shiftLeft_eq', this]
  rw [e]
  apply BitVec.eq_of_toNat_eq
  have hp := Nat.two_pow_pos k
  have ha : a < 9223372036854775808 := by
    have := Nat.le_mul_of_pos_right a hp
    omega
  have t : ∀ n : Nat, n < 9223372036854775808 → (zL (n : Int)).toBitVec.toNat = n := fun n hn => by
    show (BitVec.ofInt 64 (n : Int)).toNat = n
    rw [BitVec.ofInt_natCast, BitVec.toNat_ofNat, Nat.mod_eq_of_lt (by omega)]
  rw [BitVec.toNat_shiftLeft, t a ha, t _ h2, Nat.shiftLeft_eq, Nat.mod_eq_of_lt (by omega)]
theorem zL_ge {a b : Int} (h1 : -9223372036854775808 ≤ a) (h2 : a < 9223372036854775808) (h3 : -9223372036854775808 ≤ b) (h4 : b < 9223372036854775808) : (0 ≤ lg_cmp (zL a) (zL b)) ↔ b ≤ a := by
  rw [lg_cmp_ge, Int64.le_iff_toInt_le, zL_toInt h1 h2, zL_toInt h3 h4]
theorem zL_le {a b : Int} (h1 : -9223372036854775808 ≤ a) (h2 : a < 9223372036854775808) (h3 : -9223372036854775808 ≤ b) (h4 : b < 9223372036854775808) : (lg_cmp (zL a) (zL b) ≤ 0) ↔ a ≤ b := by
  rw [lg_cmp_le, Int64.le_iff_toInt_le, zL_toInt h1 h2, zL_toInt h3 h4]
theorem zL_gt {a b : Int} (h1 : -9223372036854775808 ≤ a) (h2 : a < 9223372036854775808) (h3 : -9223372036854775808 ≤ b) (h4 : b < 9223372036854775808) : (0 < lg_cmp (zL a) (zL b)) ↔ b < a := by
  rw [lg_cmp_gt, Int64.lt_iff_toInt_lt, zL_toInt h1 h2, zL_toInt h3 h4]
theorem zL_eq {a b : Int} (h1 : -9223372036854775808 ≤ a) (h2 : a < 9223372036854775808) (h3 : -9223372036854775808 ≤ b) (h4 : b < 9223372036854775808) : (lg_cmp (zL a) (zL b) = 0) ↔ a = b := by
  rw [lg_cmp_eq, ← Int64.toInt_inj, zL_toInt h1 h2, zL_toInt h3 h4]
theorem zI_pack {x y : Nat} (hx : x ≤ 254) (hy : y < 8388608) : (zI (x : Int) <<< ((23 : Int32) &&& 31)) ||| zI (y : Int) = zI ((x * 8388608 + y : Nat) : Int) := by
  apply Int32.toBitVec_inj.mp
  apply BitVec.eq_of_toNat_eq
  have t : ∀ n : Nat, n < 4294967296 → (zI (n : Int)).toBitVec.toNat = n := fun n hn => by
    show (BitVec.ofInt 32 (n : Int)).toNat = n
    rw [BitVec.ofInt_natCast, BitVec.toNat_ofNat, Nat.mod_eq_of_lt (by omega)]
  have e : (zI (x : Int) <<< ((23 : Int32) &&& 31)).toBitVec = (zI (x : Int)).toBitVec <<< 23 := rfl
  rw [Int32.toBitVec_or, BitVec.toNat_or, e, BitVec.toNat_shiftLeft, t x (by omega), t y (by omega), t _ (by omega), Nat.shiftLeft_eq, Nat.mod_eq_of_lt (by omega)]
  have := Nat.shiftLeft_add_eq_or_of_lt (b := y) (i := 23) (by omega) x
  rw [Nat.shiftLeft_eq] at this
  omega
theorem zI_low {a : Nat} (ha : a < 2147483648) : zI (a : Int) &&& (8388607 : Int32) = zI ((a % 8388608 : Nat) : Int) := by
  apply Int32.toBitVec_inj.mp
  apply BitVec.eq_of_toNat_eq
  have t : ∀ n : Nat, n < 4294967296 → (zI (n : Int)).toBitVec.toNat = n := fun n hn => by
    show (BitVec.ofInt 32 (n : Int)).toNat = n
    rw [BitVec.ofInt_natCast, BitVec.toNat_ofNat, Nat.mod_eq_of_lt (by omega)]
  have e : (8388607 : Int32).toBitVec.toNat = 2 ^ 23 - 1 := by decide
  rw [Int32.toBitVec_and, BitVec.toNat_and, t a (by omega), e, t _ (by omega), Nat.and_two_pow_sub_one_eq_mod]
