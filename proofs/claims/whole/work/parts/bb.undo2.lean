theorem pv_20 {nx : Nat} (h : nx < 20) : zI (nx : Int) + (20 : Int32) - (1 : Int32) - (zI (nx : Int) + (20 : Int32) - (1 : Int32)) / (20 : Int32) * (20 : Int32) = zI (((nx + 19) % 20 : Nat) : Int) := by
  rw [show (1 : Int32) = zI 1 from rfl, show (20 : Int32) = zI 20 from rfl, zI_add, zI_sub, zI_div (by omega) (by omega) (by omega) (by omega), zI_mul, zI_sub]; congr 1; omega
/-- the ring behind an undo -/
def rgU (ρ : Sl) (nx κ w p : Nat) : Sl := wr (wr (wr (wr ρ 3 ((nx + 19) % 20) (zI (w : Int))) 0 4 (zI (p : Int))) 0 8 (zI (((nx + 19) % 20 : Nat) : Int))) 0 9 (zI ((κ - 1 : Nat) : Int))
theorem undo_b {M : Mem} {ρ : Sl} {nx κ w p : Nat} (h8 : ρ 0 8 = zI (nx : Int)) (hnx : nx < 20) (h4 : ρ 0 4 = zI (w : Int)) (hw : w < 2147483648) (h9 : ρ 0 9 = zI (κ : Int)) (hκ : κ ≤ 20) (hκ1 : 1 ≤ κ) (hp : ρ 3 ((nx + 19) % 20) = zI (p : Int)) (hp2 : p < 2147483648) :
    Fh_undo (setS M 0 ρ) = some (zI ((κ - 1 : Nat) : Int), setS M 0 (rgU ρ nx κ w p)) := by
  have hl : (nx + 19) % 20 < 20 := by omega
  have hi : inb (zI (((nx + 19) % 20 : Nat) : Int)) 20 := by rw [zI_inb (by omega) (by omega)]; omega
  have hx : ix (zI (((nx + 19) % 20 : Nat) : Int)) = (nx + 19) % 20 := by rw [zI_ix (by omega) (by omega)]; omega
  have a9 : wr (wr (wr ρ 3 ((nx + 19) % 20) (zI (w : Int))) 0 4 (zI (p : Int))) 0 8 (zI (((nx + 19) % 20 : Nat) : Int)) 0 9 = zI (κ : Int) := by rw [wr_ap, if_neg (by omega), wr_ap, if_neg (by omega), wr_ap, if_neg (by omega)]; exact h9
  have e1 : (nI w : Int32) = zI (w : Int) := zI_nI w
  have e2 : (nI p : Int32) = zI (p : Int) := zI_nI p
  have t20 : ¬ (20 : Int32) = 0 := by decide
  have k1 : zI (κ : Int) - (1 : Int32) = zI ((κ - 1 : Nat) : Int) := by rw [show (1 : Int32) = zI 1 from rfl, zI_sub]; congr 1; omega
  have o : (1 : Int32) ≤ zI (κ : Int) := by rw [zI_lit, zI_le (by omega) (by omega) (by omega) (by omega)]; omega
  rw [Fh_undo, setS_at, h9, if_pos o, if_pos t20, h8, pv_20 hnx, bnd_ap, if_pos hi, hx, hp, oref_z hp2, h4, gref_z hw, if_pos hi, e1, inW, e2, inW, inW, setS_at, a9, k1, inW, setS_at]
  have r9 : rgU ρ nx κ w p 0 9 = zI ((κ - 1 : Nat) : Int) := by rw [rgU, wr_ap, if_pos ⟨rfl, rfl⟩]
  exact congrArg some (Prod.ext r9 rfl)
theorem undo_a {M : Mem} {ρ : Sl} (h9 : ρ 0 9 = zI 0) : Fh_undo (setS M 0 ρ) = some (zI (-1), setS M 0 ρ) := by
  rw [Fh_undo, setS_at, h9, if_neg (by decide)]; rfl
