/-- the ring behind a call that is kept: s lies in the past now, s' is the spare one -/
def rgK (ρ : Sl) (nx κ s s' : Nat) : Sl := wr (wr (wr (wr ρ 3 nx (zI (s : Int))) 0 5 (zI (s' : Int))) 0 8 (zI (((nx + 1) % 20 : Nat) : Int))) 0 9 (zI ((if κ < 20 then κ + 1 else 20 : Nat) : Int))
theorem keep_b {M : Mem} {ρ : Sl} {n0 nx κ s p : Nat} {v : Int} (h8 : ρ 0 8 = zI (nx : Int)) (hnx : nx < 20) (h5 : ρ 0 5 = zI (s : Int)) (hs : s < 2147483648) (h9 : ρ 0 9 = zI (κ : Int)) (hκ : κ ≤ 20) (hp : ρ 3 nx = zI (p : Int)) (hp2 : p < 2147483648) (hv : i32 v) (hv1 : v ≠ -1) :
    Fh_keep n0 (setS M 0 ρ) (zI v) = some (zI v, n0, setS M 0 (rgK ρ nx κ s p)) := by
  obtain ⟨v1, v2⟩ := hv
  have hi : inb (zI (nx : Int)) 20 := by rw [zI_inb (by omega) (by omega)]; omega
  have hx : ix (zI (nx : Int)) = nx := by rw [zI_ix (by omega) (by omega)]; omega
  have a8 : wr (wr ρ 3 nx (zI (s : Int))) 0 5 (zI (p : Int)) 0 8 = zI (nx : Int) := by rw [wr_ap, if_neg (by omega), wr_ap, if_neg (by omega)]; exact h8
  have a9 : wr (wr (wr ρ 3 nx (zI (s : Int))) 0 5 (zI (p : Int))) 0 8 (zI (((nx + 1) % 20 : Nat) : Int)) 0 9 = zI (κ : Int) := by rw [wr_ap, if_neg (by omega), wr_ap, if_neg (by omega), wr_ap, if_neg (by omega)]; exact h9
  have e1 : (nI s : Int32) = zI (s : Int) := zI_nI s
  have e2 : (nI p : Int32) = zI (p : Int) := zI_nI p
  have t20 : ¬ (20 : Int32) = 0 := by decide
  have z : ¬ zI v = (-1 : Int32) := by rw [show (-1 : Int32) = zI (-1) from rfl, zI_eq (by omega) (by omega) (by omega) (by omega)]; exact hv1
  rw [Fh_keep, if_neg z, setS_at, h8, if_pos hi, hx, hp, oref_z hp2, h5, gref_z hs, if_pos hi, e1, inW, e2, inW, if_pos t20, setS_at, a8, nx_20 hnx, inW, setS_at, a9, kp_20 hκ, inW]
  rfl
