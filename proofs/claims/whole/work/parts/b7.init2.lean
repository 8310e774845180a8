/-- the fields of a new world, while they are made -/
def inE (δ : Sl) (v : Int32) : Sl := (wr (wr (wr (wr (wr (wr (wrA (wr (wrA (wr (wr (wrA (wr (wrA (wr (wrA (wr (wr (wr (wrA (wr δ 61 1 1) 11 (fun _ => 0)) 61 2 1) 61 3 (0 : Int32)) 61 4 (0 : Int32)) 12 (fun _ => 0)) 61 5 1) 13 (fun _ => 0)) 61 6 1) 14 (fun _ => 0)) 61 7 1) 61 8 (0 : Int32)) 15 (fun _ => 0)) 61 9 1) 16 (fun _ => 0)) 61 10 1) 61 11 (0 : Int32)) 61 12 (0 : Int32)) 61 13 (0 : Int32)) 61 14 (0 : Int32)) 61 0 v)
/-- the deeds of a new world -/
def inF (δ : Sl) : Sl := wrA (flS (inD (wrA δ 62 (rini cs62))) 32 192 (-1 : Int32)) 17 (flS (inD (wrA δ 62 (rini cs62))) 32 192 (-1 : Int32) 62)
/-- a new world -/
def inG (δ : Sl) (v : Int32) : Sl := wrA (inE (inF δ) v) 10 (inE (inF δ) v 61)
theorem inE_1 (δ : Sl) (v : Int32) {j : Nat} (hj : j = 1 ∨ j = 2 ∨ j = 5 ∨ j = 6 ∨ j = 7 ∨ j = 9 ∨ j = 10) : inE δ v 61 j = 1 := by
  unfold inE
  rcases hj with rfl | rfl | rfl | rfl | rfl | rfl | rfl <;> simp [wr_ap, wrA_ap]
theorem inE_0 (δ : Sl) (v : Int32) {j : Nat} (hj : j = 3 ∨ j = 4 ∨ j = 8 ∨ j = 11 ∨ j = 12 ∨ j = 13 ∨ j = 14) : inE δ v 61 j = 0 := by
  unfold inE
  rcases hj with rfl | rfl | rfl | rfl | rfl | rfl | rfl <;> simp [wr_ap, wrA_ap]
theorem inE_v (δ : Sl) (v : Int32) : inE δ v 61 0 = v := by
  unfold inE
  simp [wr_ap]
theorem inE_row (δ : Sl) (v : Int32) {a : Nat} (i : Nat) (h1 : 11 ≤ a) (h2 : a ≤ 16) : inE δ v a i = 0 := by
  have : a = 11 ∨ a = 12 ∨ a = 13 ∨ a = 14 ∨ a = 15 ∨ a = 16 := by omega
  unfold inE
  rcases this with rfl | rfl | rfl | rfl | rfl | rfl <;> simp [wr_ap, wrA_ap]
theorem inE_ne (δ : Sl) (v : Int32) {a : Nat} (i : Nat) (h1 : ¬ (11 ≤ a ∧ a ≤ 16)) (h2 : a ≠ 61) : inE δ v a i = δ a i := by
  have e : ∀ x, 11 ≤ x → x ≤ 16 → (a = x) = False := fun x g1 g2 => eq_false (by omega)
  unfold inE
  simp [wr_ap, wrA_ap, h2, e]
theorem wo_init {M : Mem} {k q : Nat} (δ : Sl) : Wo_init k q (setS M k δ) = some ((), setS M k (inG δ (nI q))) := by
  have hc : cdone cs10 (inE (inF δ) (nI q) 61) := by
    intro j hj hm
    have h15 : j < 15 := hj
    by_cases z : j = 1 ∨ j = 2 ∨ j = 5 ∨ j = 6 ∨ j = 7 ∨ j = 9 ∨ j = 10
    · rw [inE_1 _ _ z]; decide
    · have : j = 0 ∨ j = 3 ∨ j = 4 ∨ j = 8 ∨ j = 11 ∨ j = 12 ∨ j = 13 ∨ j = 14 := by omega
      rcases this with rfl | rfl | rfl | rfl | rfl | rfl | rfl | rfl <;> exact absurd hm (by decide)
  rw [Wo_init, inA, de_init, bd_some, inW, inA, inW, inW, inW, inA, inW, inA, inW, inA, inW, inW, inA, inW, inA, inW, inW, inW, inW, inW, inW]
  change (if cdone cs10 (setS M k (inE (inF δ) (nI q)) k 61) then bnd (wrAM (setS M k (inE (inF δ) (nI q))) k 10 (setS M k (inE (inF δ) (nI q)) k 61)) fun d33 => some ((), d33) else none) = _
  rw [setS_at, if_pos hc, inA]
  rfl
