theorem setS_comm (M : Mem) {k j : Nat} (d e : Sl) (h : k ≠ j) : setS (setS M k d) j e = setS (setS M j e) k d := by
  funext i
  unfold setS
  by_cases h1 : i = k
  · rw [if_neg (by omega), if_pos h1, if_pos h1]
  · rw [if_neg h1, if_neg h1]
theorem keep_a {M : Mem} {ρ : Sl} {n0 nx κ s w ks : Nat} {v : Int} (h8 : ρ 0 8 = zI (nx : Int)) (hnx : nx < 20) (h5 : ρ 0 5 = zI (s : Int)) (hs : s < 2147483648) (h9 : ρ 0 9 = zI (κ : Int)) (hκ : κ ≤ 20) (hp : ρ 3 nx = zI (-1)) (h4 : ρ 0 4 = zI (w : Int)) (hw : w < 2147483648) (hk : M w 10 0 = zI (ks : Int)) (hk2 : ks < 2147483648) (hn0 : n0 < 1000) (hn1 : 0 ≠ n0) (hwn : w ≠ n0) (hw0 : w ≠ 0) (hv : i32 v) (hv1 : v ≠ -1) :
    Fh_keep n0 (setS M 0 ρ) (zI v) = some (zI v, n0 + 1, setS (setS M n0 (inG (wrA (M n0) 61 (rini cs61)) (nI ks))) 0 (rgK ρ nx κ s n0)) := by
  obtain ⟨v1, v2⟩ := hv
  have hi : inb (zI (nx : Int)) 20 := by rw [zI_inb (by omega) (by omega)]; omega
  have hx : ix (zI (nx : Int)) = nx := by rw [zI_ix (by omega) (by omega)]; omega
  have a4 : wr ρ 3 nx (zI (s : Int)) 0 4 = zI (w : Int) := by rw [wr_ap, if_neg (by omega)]; exact h4
  have a8 : wr (wr ρ 3 nx (zI (s : Int))) 0 5 (zI (n0 : Int)) 0 8 = zI (nx : Int) := by rw [wr_ap, if_neg (by omega), wr_ap, if_neg (by omega)]; exact h8
  have a9 : wr (wr (wr ρ 3 nx (zI (s : Int))) 0 5 (zI (n0 : Int))) 0 8 (zI (((nx + 1) % 20 : Nat) : Int)) 0 9 = zI (κ : Int) := by rw [wr_ap, if_neg (by omega), wr_ap, if_neg (by omega), wr_ap, if_neg (by omega)]; exact h9
  have e1 : (nI s : Int32) = zI (s : Int) := zI_nI s
  have e2 : (nI n0 : Int32) = zI (n0 : Int) := zI_nI n0
  have t20 : ¬ (20 : Int32) = 0 := by decide
  have z : ¬ zI v = (-1 : Int32) := by rw [show (-1 : Int32) = zI (-1) from rfl, zI_eq (by omega) (by omega) (by omega) (by omega)]; exact hv1
  have c5 : wrAM (setS M 0 (wr ρ 3 nx (zI (s : Int)))) n0 61 (rini cs61) = setS (setS M 0 (wr ρ 3 nx (zI (s : Int)))) n0 (wrA (M n0) 61 (rini cs61)) := by
    rw [wrAM, setS_ne M _ hn1.symm]
  have c6 : setS (setS M 0 (wr ρ 3 nx (zI (s : Int)))) n0 (wrA (M n0) 61 (rini cs61)) 0 0 4 = zI (w : Int) := by rw [setS_ne _ _ hn1, setS_at]; exact a4
  have c7 : setS (setS M 0 (wr ρ 3 nx (zI (s : Int)))) n0 (wrA (M n0) 61 (rini cs61)) w 10 0 = zI (ks : Int) := by rw [setS_ne _ _ hwn, setS_ne _ _ hw0]; exact hk
  rw [Fh_keep, if_neg z, setS_at, h8, if_pos hi, hx, hp, oref, if_pos (by decide), h5, gref_z hs, if_pos hi, e1, inW, if_pos hn0, bnd_ap, c5, c6, gref_z hw, c7, gref_z hk2, wo_init, bd_some, e2, setS_comm M _ _ hn1, inW, if_pos t20, setS_at, a8, nx_20 hnx, inW, setS_at, a9, kp_20 hκ, inW]
  rfl
