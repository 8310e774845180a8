/-! ===== numbers: an Int32 by its whole number ===== -/
def zI (n : Int) : Int32 := Int32.ofInt n
theorem zI_of (x : Int32) : zI x.toInt = x := Int32.ofInt_toInt x
theorem zI_toInt {n : Int} (h1 : -2147483648 ≤ n) (h2 : n < 2147483648) : (zI n).toInt = n := Int32.toInt_ofInt_of_le h1 h2
theorem zI_ix {n : Int} (h1 : -2147483648 ≤ n) (h2 : n < 2147483648) : ix (zI n) = n.toNat := Int32.toNatClampNeg_ofInt_of_le h1 h2
theorem zI_add (a b : Int) : zI a + zI b = zI (a + b) := (Int32.ofInt_add a b).symm
theorem zI_sub (a b : Int) : zI a - zI b = zI (a - b) := (Int32.ofInt_sub a b).symm
theorem zI_mul (a b : Int) : zI a * zI b = zI (a * b) := (Int32.ofInt_mul a b).symm
theorem zI_neg (a : Int) : -zI a = zI (-a) := (Int32.ofInt_neg a).symm
theorem zI_lt {a b : Int} (h1 : -2147483648 ≤ a) (h2 : a < 2147483648) (h3 : -2147483648 ≤ b) (h4 : b < 2147483648) : (zI a < zI b) = (a < b) := by
  rw [Int32.lt_iff_toInt_lt, zI_toInt h1 h2, zI_toInt h3 h4]
theorem zI_le {a b : Int} (h1 : -2147483648 ≤ a) (h2 : a < 2147483648) (h3 : -2147483648 ≤ b) (h4 : b < 2147483648) : (zI a ≤ zI b) = (a ≤ b) := by
  rw [Int32.le_iff_toInt_le, zI_toInt h1 h2, zI_toInt h3 h4]
theorem zI_eq {a b : Int} (h1 : -2147483648 ≤ a) (h2 : a < 2147483648) (h3 : -2147483648 ≤ b) (h4 : b < 2147483648) : (zI a = zI b) = (a = b) := by
  rw [← Int32.toInt_inj, zI_toInt h1 h2, zI_toInt h3 h4]
theorem zI_inb {a : Int} {n : Nat} (h1 : -2147483648 ≤ a) (h2 : a < 2147483648) : inb (zI a) n = (0 ≤ a ∧ a < (n : Int)) := by
  unfold inb; rw [zI_toInt h1 h2]
theorem zI_lit (n : Nat) : (no_index (OfNat.ofNat n) : Int32) = zI (OfNat.ofNat n : Int) := (Int32.ofInt_eq_ofNat (n := n)).symm
theorem zI_nI (n : Nat) : Int32.ofNat n = zI (n : Int) := (Int32.ofInt_eq_ofNat (n := n)).symm
theorem zI_div {a b : Int} (ha : 0 ≤ a) (ha2 : a < 2147483648) (hb : 0 ≤ b) (hb2 : b < 2147483648) : zI a / zI b = zI (a / b) := by
  unfold zI
  rw [← Int.tdiv_eq_ediv_of_nonneg ha]
  exact (Int32.ofInt_tdiv (by show -2147483648 ≤ a; omega) (by show a ≤ 2147483647; omega) (by show -2147483648 ≤ b; omega) (by show b ≤ 2147483647; omega)).symm
/-- the pages of an order, told by order + 1 -/
def pg (o : Int) : Nat := if o = 1 then 1 else if o = 2 then 2 else if o = 3 then 4 else if o = 4 then 8 else 0
theorem zI_shl : ∀ k : Fin 31, zI 1 <<< (zI (k.val : Int) &&& zI 31) = zI ((2 : Int) ^ k.val) := by decide +kernel
theorem zI_shlN {k : Nat} (h : k < 31) : zI 1 <<< (zI (k : Int) &&& zI 31) = zI ((2 : Int) ^ k) := zI_shl ⟨k, h⟩
theorem zI_pg {o : Int} (h1 : 1 ≤ o) (h2 : o ≤ 4) : zI 1 <<< (zI (o - 1) &&& zI 31) = zI (pg o : Int) := by
  have h : o = 1 ∨ o = 2 ∨ o = 3 ∨ o = 4 := by omega
  rcases h with rfl | rfl | rfl | rfl <;> decide +kernel
theorem pg_cases {o : Int} (h1 : 1 ≤ o) (h2 : o ≤ 4) : (o = 1 ∧ pg o = 1) ∨ (o = 2 ∧ pg o = 2) ∨ (o = 3 ∧ pg o = 4) ∨ (o = 4 ∧ pg o = 8) := by
  have h : o = 1 ∨ o = 2 ∨ o = 3 ∨ o = 4 := by omega
  rcases h with rfl | rfl | rfl | rfl <;> decide
theorem wr_ap (d : Sl) (a i : Nat) (v : Int32) (b j : Nat) : wr d a i v b j = if b = a ∧ j = i then v else d b j := rfl
theorem bnd_ap {α β : Type} (a : α) (f : α → β) : bnd a f = f a := rfl
theorem bd_some {ρ σ β : Type} (q : ρ) (s : σ) (K : ρ → σ → Option β) : bd (some (q, s)) K = K q s := rfl
theorem bp_some {ρ β : Type} (q : ρ) (K : ρ → Option β) : bp (some q) K = K q := rfl
