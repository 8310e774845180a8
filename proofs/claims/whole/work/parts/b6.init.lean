theorem wrA_ap (δ : Sl) (a : Nat) (f : Nat → Int32) (b i : Nat) : wrA δ a f b i = if b = a then f i else δ b i := by
  unfold wrA
  by_cases h : b = a
  · rw [if_pos h, if_pos h]
  · rw [if_neg h, if_neg h]
/-- the fields of new deeds, while they are made -/
def inD (δ : Sl) : Sl := (wr (wr (wr (wr (wr (wrA (wr (wrA (wr (wrA (wr (wrA (wr (wrA (wr (wrA (wr (wrA (wr (wrA (wr (wrA (wr (wrA (wr (wrA (wr (wrA (wr (wrA (wr (wrA (wr (wrA (wr (wrA δ 18 (fun _ => 0)) 62 0 1) 19 (fun _ => 0)) 62 1 1) 20 (fun _ => 0)) 62 2 1) 21 (fun _ => 0)) 62 3 1) 22 (fun _ => 0)) 62 4 1) 23 (fun _ => 0)) 62 5 1) 24 (fun _ => 0)) 62 6 1) 25 (fun _ => 0)) 62 7 1) 26 (fun _ => 0)) 62 8 1) 27 (fun _ => 0)) 62 9 1) 28 (fun _ => 0)) 62 10 1) 29 (fun _ => 0)) 62 11 1) 30 (fun _ => 0)) 62 12 1) 31 (fun _ => 0)) 62 13 1) 32 (fun _ => 0)) 62 14 1) 33 (fun _ => 0)) 62 15 1) 62 16 (0 : Int32)) 62 17 (0 : Int32)) 62 18 (0 : Int32)) 62 19 (0 : Int32))
theorem inD_62 (δ : Sl) {j : Nat} (hj : j < 16) : inD δ 62 j = 1 := by
  have : j = 0 ∨ j = 1 ∨ j = 2 ∨ j = 3 ∨ j = 4 ∨ j = 5 ∨ j = 6 ∨ j = 7 ∨ j = 8 ∨ j = 9 ∨ j = 10 ∨ j = 11 ∨ j = 12 ∨ j = 13 ∨ j = 14 ∨ j = 15 := by omega
  unfold inD
  rcases this with rfl | rfl | rfl | rfl | rfl | rfl | rfl | rfl | rfl | rfl | rfl | rfl | rfl | rfl | rfl | rfl <;> simp [wr_ap, wrA_ap]
theorem inD_0 (δ : Sl) {j : Nat} (hj : 16 ≤ j) (hj2 : j < 20) : inD δ 62 j = 0 := by
  have : j = 16 ∨ j = 17 ∨ j = 18 ∨ j = 19 := by omega
  unfold inD
  rcases this with rfl | rfl | rfl | rfl <;> simp [wr_ap]
theorem inD_row (δ : Sl) {a : Nat} (i : Nat) (h1 : 18 ≤ a) (h2 : a ≤ 33) : inD δ a i = 0 := by
  have : a = 18 ∨ a = 19 ∨ a = 20 ∨ a = 21 ∨ a = 22 ∨ a = 23 ∨ a = 24 ∨ a = 25 ∨ a = 26 ∨ a = 27 ∨ a = 28 ∨ a = 29 ∨ a = 30 ∨ a = 31 ∨ a = 32 ∨ a = 33 := by omega
  unfold inD
  rcases this with rfl | rfl | rfl | rfl | rfl | rfl | rfl | rfl | rfl | rfl | rfl | rfl | rfl | rfl | rfl | rfl <;> simp [wr_ap, wrA_ap]
theorem inD_ne (δ : Sl) {a : Nat} (i : Nat) (h1 : ¬ (18 ≤ a ∧ a ≤ 33)) (h2 : a ≠ 62) : inD δ a i = δ a i := by
  have e : ∀ x, 18 ≤ x → x ≤ 33 → (a = x) = False := fun x g1 g2 => eq_false (by omega)
  unfold inD
  simp [wr_ap, wrA_ap, h2, e]
theorem de_init {M : Mem} {k : Nat} (δ : Sl) : De_init k (setS M k δ) = some ((), setS M k (wrA (flS (inD δ) 32 192 (-1 : Int32)) 17 (flS (inD δ) 32 192 (-1 : Int32) 62))) := by
  have hc : cdone cs17 (flS (inD δ) 32 192 (-1 : Int32) 62) := by
    intro j hj hm
    have h20 : j < 20 := hj
    by_cases z : j < 16
    · rw [flS_ap, if_neg (by omega), inD_62 δ z]; decide
    · have : j = 16 ∨ j = 17 ∨ j = 18 ∨ j = 19 := by omega
      rcases this with rfl | rfl | rfl | rfl <;> exact absurd hm (by decide)
  have h14 : ¬ setS M k (inD δ) k 62 14 = 0 := by rw [setS_at, inD_62 δ (by omega)]; decide
  rw [De_init, inA, inW, inA, inW, inA, inW, inA, inW, inA, inW, inA, inW, inA, inW, inA, inW, inA, inW, inA, inW, inA, inW, inA, inW, inA, inW, inA, inW, inA, inW, inA, inW, inW, inW, inW, inW]
  change (if setS M k (inD δ) k 62 14 = 0 then none else bd (lft (setS M k (inD δ)) k (Jk_fill_53178 32 192 (setS M k (inD δ) k) (-1 : Int32))) fun _ d53 => if cdone cs17 (d53 k 62) then bnd (wrAM d53 k 17 (d53 k 62)) fun d54 => some ((), d54) else none) = _
  rw [if_neg h14, setS_at, fill_on (by omega)]
  change (bd (some ((), setS (setS M k (inD δ)) k (flS (inD δ) 32 192 (-1 : Int32)))) fun _ d53 => if cdone cs17 (d53 k 62) then bnd (wrAM d53 k 17 (d53 k 62)) fun d54 => some ((), d54) else none) = _
  rw [bd_some, setS_setS, setS_at, if_pos hc, inA]
