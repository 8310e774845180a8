/-! ===== counting bits ===== -/
def pq1 (m x : Nat) : Nat := x - (x / 2 &&& m)
def pq2 (m x : Nat) : Nat := (x &&& m) + (x / 4 &&& m)
def pq3 (m x : Nat) : Nat := (x + x / 16) &&& m
theorem and_sp {x m y n : Nat} (hx : x < 256) (hm : m < 256) : (x + 256 * y) &&& (m + 256 * n) = (x &&& m) + 256 * (y &&& n) := by
  have h1 : ((x + 256 * y) &&& (m + 256 * n)) % 2 ^ 8 = (x &&& m) := by
    rw [Nat.and_mod_two_pow, show (x + 256 * y) % 2 ^ 8 = x by omega, show (m + 256 * n) % 2 ^ 8 = m by omega]
  have h2 : ((x + 256 * y) &&& (m + 256 * n)) / 2 ^ 8 = (y &&& n) := by
    rw [Nat.and_div_two_pow, show (x + 256 * y) / 2 ^ 8 = y by omega, show (m + 256 * n) / 2 ^ 8 = n by omega]
  omega
theorem bd1 : ∀ (lo : Fin 256) (b : Fin 2), ((lo.val / 2 + 128 * b.val) &&& 85) = (lo.val / 2 &&& 85) := by decide +kernel
theorem bd2 : ∀ (lo : Fin 256) (b : Fin 4), ((lo.val / 4 + 64 * b.val) &&& 51) = (lo.val / 4 &&& 51) := by decide +kernel
theorem bd3 : ∀ (t : Fin 256) (b : Fin 8), t.val + 16 * b.val < 256 → ((t.val + 16 * b.val) &&& 15) = (t.val &&& 15) := by decide +kernel
theorem pq1_sp {lo hi m : Nat} (h : lo < 256) : pq1 (85 + 256 * m) (lo + 256 * hi) = pq1 85 lo + 256 * pq1 m hi := by
  unfold pq1
  have e : (lo + 256 * hi) / 2 = (lo / 2 + 128 * (hi % 2)) + 256 * (hi / 2) := by omega
  have t := bd1 ⟨lo, h⟩ ⟨hi % 2, by omega⟩
  dsimp only at t
  rw [e, and_sp (by omega) (by omega), t]
  have a1 : lo / 2 &&& 85 ≤ lo / 2 := Nat.and_le_left
  have a2 : hi / 2 &&& m ≤ hi / 2 := Nat.and_le_left
  omega
theorem pq2_sp {lo hi m : Nat} (h : lo < 256) : pq2 (51 + 256 * m) (lo + 256 * hi) = pq2 51 lo + 256 * pq2 m hi := by
  unfold pq2
  have e : (lo + 256 * hi) / 4 = (lo / 4 + 64 * (hi % 4)) + 256 * (hi / 4) := by omega
  have t := bd2 ⟨lo, h⟩ ⟨hi % 4, by omega⟩
  dsimp only at t
  rw [e, and_sp h (by omega), and_sp (by omega) (by omega), t]
  omega
theorem pq3_sp {lo hi m : Nat} (h : lo + lo / 16 < 128) (h2 : hi % 16 < 8) : pq3 (15 + 256 * m) (lo + 256 * hi) = pq3 15 lo + 256 * pq3 m hi := by
  unfold pq3
  have e : lo + 256 * hi + (lo + 256 * hi) / 16 = (lo + lo / 16 + 16 * (hi % 16)) + 256 * (hi + hi / 16) := by omega
  rw [e, and_sp (by omega) (by omega), bd3 ⟨lo + lo / 16, by omega⟩ ⟨hi % 16, by omega⟩ (by show lo + lo / 16 + 16 * (hi % 16) < 256; omega)]
/-- one byte -/
def gb (b : Nat) : Nat := pq2 51 (pq1 85 b)
def pb (b : Nat) : Nat := pq3 15 (gb b)
theorem gb_f : ∀ b : Fin 256, pq1 85 b.val < 256 ∧ gb b.val + gb b.val / 16 < 128 ∧ gb b.val % 16 < 8 ∧ gb b.val < 256 ∧ pb b.val ≤ 8 ∧ fb_ct (fun i => Nat.testBit b.val i) 8 = pb b.val := by decide +kernel
theorem sw_on {b0 b1 b2 b3 : Nat} (h0 : b0 < 256) (h1 : b1 < 256) (h2 : b2 < 256) (h3 : b3 < 256) : pq3 252645135 (pq2 858993459 (pq1 1431655765 (b0 + 256 * (b1 + 256 * (b2 + 256 * b3))))) = pb b0 + 256 * (pb b1 + 256 * (pb b2 + 256 * pb b3)) := by
  obtain ⟨x0, y0, z0, w0, -⟩ := gb_f ⟨b0, h0⟩
  obtain ⟨x1, y1, z1, w1, -⟩ := gb_f ⟨b1, h1⟩
  obtain ⟨x2, y2, z2, w2, -⟩ := gb_f ⟨b2, h2⟩
  obtain ⟨x3, y3, z3, w3, -⟩ := gb_f ⟨b3, h3⟩
  dsimp only at *
  have e1 : pq1 1431655765 (b0 + 256 * (b1 + 256 * (b2 + 256 * b3))) = pq1 85 b0 + 256 * (pq1 85 b1 + 256 * (pq1 85 b2 + 256 * pq1 85 b3)) := by
    rw [show 1431655765 = 85 + 256 * (85 + 256 * (85 + 256 * 85)) from rfl, pq1_sp h0, pq1_sp h1, pq1_sp h2]
  have e2 : pq2 858993459 (pq1 85 b0 + 256 * (pq1 85 b1 + 256 * (pq1 85 b2 + 256 * pq1 85 b3))) = gb b0 + 256 * (gb b1 + 256 * (gb b2 + 256 * gb b3)) := by
    rw [show 858993459 = 51 + 256 * (51 + 256 * (51 + 256 * 51)) from rfl, pq2_sp x0, pq2_sp x1, pq2_sp x2]; rfl
  rw [e1, e2, show 252645135 = 15 + 256 * (15 + 256 * (15 + 256 * 15)) from rfl, pq3_sp y0 (by omega), pq3_sp y1 (by omega), pq3_sp y2 (by omega)]
  rfl
theorem and_zI {a c : Nat} (ha : a < 4294967296) (hc : c < 4294967296) : zI (a : Int) &&& zI (c : Int) = zI ((a &&& c : Nat) : Int) := by
  rw [← zI_nI, ← zI_nI, ← zI_nI]
  apply Int32.toBitVec_inj.mp
  apply BitVec.eq_of_toNat_eq
  rw [Int32.toBitVec_and, BitVec.toNat_and]
  show (BitVec.ofNat 32 a).toNat &&& (BitVec.ofNat 32 c).toNat = (BitVec.ofNat 32 (a &&& c)).toNat
  have hl : a &&& c ≤ a := Nat.and_le_left
  rw [BitVec.toNat_ofNat, BitVec.toNat_ofNat, BitVec.toNat_ofNat, Nat.mod_eq_of_lt (by omega), Nat.mod_eq_of_lt (by omega), Nat.mod_eq_of_lt (by omega)]
theorem ush {a : Nat} (ha : a < 4294967296) (k : Fin 32) : (Int32.toUInt32 (zI (a : Int)) >>> (Int32.toUInt32 (zI (k.val : Int)) &&& Int32.toUInt32 31)).toInt32 = zI ((a / 2 ^ k.val : Nat) : Int) := by
  have hs : ∀ k : Fin 32, (Int32.toUInt32 (zI (k.val : Int)) &&& Int32.toUInt32 31).toNat % 32 = k.val := by decide
  have h1 : (Int32.toUInt32 (zI (a : Int))).toNat = a := by
    rw [← zI_nI]
    show (BitVec.ofNat 32 a).toNat = a
    rw [BitVec.toNat_ofNat, Nat.mod_eq_of_lt (by omega)]
  rw [← zI_nI (a / 2 ^ k.val)]
  apply Int32.toBitVec_inj.mp
  apply BitVec.eq_of_toNat_eq
  show (Int32.toUInt32 (zI (a : Int)) >>> (Int32.toUInt32 (zI (k.val : Int)) &&& Int32.toUInt32 31)).toNat = (BitVec.ofNat 32 (a / 2 ^ k.val)).toNat
  have hl : a / 2 ^ k.val ≤ a := Nat.div_le_self _ _
  rw [UInt32.toNat_shiftRight, h1, hs, Nat.shiftRight_eq_div_pow, BitVec.toNat_ofNat, Nat.mod_eq_of_lt (by omega)]
theorem bit_nat {a : Nat} (ha : a < 4294967296) : ∃ b0 b1 b2 b3, b0 < 256 ∧ b1 < 256 ∧ b2 < 256 ∧ b3 < 256 ∧ a = b0 + 256 * (b1 + 256 * (b2 + 256 * b3)) := ⟨a % 256, a / 256 % 256, a / 65536 % 256, a / 16777216, by omega, by omega, by omega, by omega, by omega⟩
theorem bitc_on {a b0 b1 b2 b3 : Nat} (h0 : b0 < 256) (h1 : b1 < 256) (h2 : b2 < 256) (h3 : b3 < 256) (ha : a = b0 + 256 * (b1 + 256 * (b2 + 256 * b3))) : Jk_bitCount_0f7a4 (zI (a : Int)) = some (zI ((pb b0 + pb b1 + pb b2 + pb b3 : Nat) : Int)) := by
  have ha2 : a < 4294967296 := by omega
  have sw := sw_on h0 h1 h2 h3
  rw [← ha] at sw
  have p0 := (gb_f ⟨b0, h0⟩).2.2.2.2.1
  have p1 := (gb_f ⟨b1, h1⟩).2.2.2.2.1
  have p2 := (gb_f ⟨b2, h2⟩).2.2.2.2.1
  have p3 := (gb_f ⟨b3, h3⟩).2.2.2.2.1
  dsimp only at p0 p1 p2 p3
  have u1 := ush ha2 1
  have l1 : a / 2 &&& 1431655765 ≤ a / 2 := Nat.and_le_left
  have e1 : zI (a : Int) - ((Int32.toUInt32 (zI (a : Int)) >>> (Int32.toUInt32 (1 : Int32) &&& Int32.toUInt32 31)).toInt32 &&& (1431655765 : Int32)) = zI (pq1 1431655765 a : Int) := by
    have : (Int32.toUInt32 (zI (a : Int)) >>> (Int32.toUInt32 (1 : Int32) &&& Int32.toUInt32 31)).toInt32 = zI ((a / 2 : Nat) : Int) := u1
    rw [this, show (1431655765 : Int32) = zI ((1431655765 : Nat) : Int) from rfl, and_zI (by omega) (by omega), zI_sub]
    unfold pq1
    congr 1; omega
  have b1' : pq1 1431655765 a ≤ a := by unfold pq1; omega
  generalize pq1 1431655765 a = v1 at *
  have e2 : (zI (v1 : Int) &&& (858993459 : Int32)) + ((Int32.toUInt32 (zI (v1 : Int)) >>> (Int32.toUInt32 (2 : Int32) &&& Int32.toUInt32 31)).toInt32 &&& (858993459 : Int32)) = zI (pq2 858993459 v1 : Int) := by
    have : (Int32.toUInt32 (zI (v1 : Int)) >>> (Int32.toUInt32 (2 : Int32) &&& Int32.toUInt32 31)).toInt32 = zI ((v1 / 4 : Nat) : Int) := ush (by omega) 2
    rw [this, show (858993459 : Int32) = zI ((858993459 : Nat) : Int) from rfl, and_zI (by omega) (by omega), and_zI (by omega) (by omega), zI_add]
    unfold pq2
    congr 1
  have b2' : pq2 858993459 v1 ≤ 1717986918 := by
    unfold pq2
    have x1 : v1 &&& 858993459 ≤ 858993459 := Nat.and_le_right
    have x2 : v1 / 4 &&& 858993459 ≤ 858993459 := Nat.and_le_right
    omega
  generalize pq2 858993459 v1 = v2 at *
  have e3 : (zI (v2 : Int) + (Int32.toUInt32 (zI (v2 : Int)) >>> (Int32.toUInt32 (4 : Int32) &&& Int32.toUInt32 31)).toInt32) &&& (252645135 : Int32) = zI (pq3 252645135 v2 : Int) := by
    have : (Int32.toUInt32 (zI (v2 : Int)) >>> (Int32.toUInt32 (4 : Int32) &&& Int32.toUInt32 31)).toInt32 = zI ((v2 / 16 : Nat) : Int) := ush (by omega) 4
    rw [this, zI_add, show (v2 : Int) + ((v2 / 16 : Nat) : Int) = ((v2 + v2 / 16 : Nat) : Int) by omega, show (252645135 : Int32) = zI ((252645135 : Nat) : Int) from rfl, and_zI (by omega) (by omega)]
    rfl
  rw [sw] at e3
  generalize pb b0 = c0 at *
  generalize pb b1 = c1 at *
  generalize pb b2 = c2 at *
  generalize pb b3 = c3 at *
  obtain ⟨v3, hv3⟩ : ∃ v3, c0 + 256 * (c1 + 256 * (c2 + 256 * c3)) = v3 := ⟨_, rfl⟩
  rw [hv3] at e3
  have e4 : zI (v3 : Int) + (Int32.toUInt32 (zI (v3 : Int)) >>> (Int32.toUInt32 (8 : Int32) &&& Int32.toUInt32 31)).toInt32 = zI ((v3 + v3 / 256 : Nat) : Int) := by
    have : (Int32.toUInt32 (zI (v3 : Int)) >>> (Int32.toUInt32 (8 : Int32) &&& Int32.toUInt32 31)).toInt32 = zI ((v3 / 256 : Nat) : Int) := ush (by omega) 8
    rw [this, zI_add]; congr 1
  have e5 : zI ((v3 + v3 / 256 : Nat) : Int) + (Int32.toUInt32 (zI ((v3 + v3 / 256 : Nat) : Int)) >>> (Int32.toUInt32 (16 : Int32) &&& Int32.toUInt32 31)).toInt32 = zI ((v3 + v3 / 256 + (v3 + v3 / 256) / 65536 : Nat) : Int) := by
    have : (Int32.toUInt32 (zI ((v3 + v3 / 256 : Nat) : Int)) >>> (Int32.toUInt32 (16 : Int32) &&& Int32.toUInt32 31)).toInt32 = zI (((v3 + v3 / 256) / 65536 : Nat) : Int) := ush (by omega) 16
    rw [this, zI_add]; congr 1
  rw [Jk_bitCount_0f7a4, bnd_ap, e1, bnd_ap, e2, bnd_ap, e3, bnd_ap, e4, bnd_ap, e5, show (63 : Int32) = zI ((63 : Nat) : Int) from rfl, and_zI (by omega) (by omega), Nat.and_two_pow_sub_one_eq_mod _ 6]
  have k1 : v3 / 256 = c1 + 256 * (c2 + 256 * c3) := by omega
  have k2 : (v3 + v3 / 256) / 65536 = c2 + c3 + 256 * c3 := by rw [k1]; omega
  have k3 : (v3 + v3 / 256 + (v3 + v3 / 256) / 65536) % 2 ^ 6 = c0 + c1 + c2 + c3 := by rw [k2, k1]; omega
  rw [k3]
