/-! ===== bitsOf ===== -/
theorem b25 {m : Nat} : ∀ (j f : Nat) (x : UInt64) (v : Int), DD x m (-52 + (j : Int)) → -200 ≤ v → v + (j : Int) ≤ 127 → j < f → ∃ x', DD x' m (-52) ∧ Fh_bitsOf_25 f x (zI v) = Fh_bitsOf_51 FU x' (zI (v + (j : Int))) := by
  intro j
  induction j with
  | zero =>
    intro f x v h h1 h2 hf
    obtain ⟨f', rfl⟩ : ∃ f', f = f' + 1 := ⟨f - 1, by omega⟩
    have c := (dd_lt h v2 (by omega)).1 (by omega)
    have h' : DD x m (-52) := by have e : (-52 : Int) + ((0 : Nat) : Int) = -52 := by omega
                                 rw [e] at h; exact h
    refine ⟨x, h', ?_⟩
    rw [Fh_bitsOf_25, c, if_pos (by decide), show v + ((0 : Nat) : Int) = v by omega]
  | succ j ih =>
    intro f x v h h1 h2 hf
    obtain ⟨f', rfl⟩ : ∃ f', f = f' + 1 := ⟨f - 1, by omega⟩
    have hh := dd_half h (by omega)
    rw [show (-52 : Int) + ((j + 1 : Nat) : Int) - 1 = -52 + (j : Int) by omega] at hh
    obtain ⟨x', i1, i2⟩ := ih f' _ (v + 1) hh (by omega) (by omega) (by omega)
    refine ⟨x', i1, ?_⟩
    have c := (dd_lt h v2 (by omega)).2 (by omega)
    have c' : ¬ (Op.cmpValue (FP.dcmp x (4611686018427387904 : UInt64)) .l) < 0 := by
      rcases c with c | c <;> rw [c] <;> decide
    rw [Fh_bitsOf_25, if_neg c', if_neg (by rw [show (127 : Int32) = zI 127 from rfl, zI_le (by omega) (by omega) (by omega) (by omega)]; omega), if_pos (dd_nn hh), bnd_ap, bnd_ap, show (1 : Int32) = zI 1 from rfl, zI_add, i2, show v + 1 + (j : Int) = v + ((j + 1 : Nat) : Int) by omega]
theorem b25_no {m : Nat} {x : UInt64} {q : Int} {f : Nat} (h : DD x m q) (hq : q < -51) (v : Int32) : Fh_bitsOf_25 (f + 1) x v = Fh_bitsOf_51 FU x v := by
  have c := (dd_lt h v2 (by omega)).1 (by omega)
  rw [Fh_bitsOf_25, c, if_pos (by decide)]
theorem b51 {m : Nat} : ∀ (i f : Nat) (x : UInt64) (q v : Int), DD x m q → q + (i : Int) ≤ -52 → -126 ≤ v - (i : Int) → v ≤ 200 → (q + (i : Int) = -52 ∨ v - (i : Int) = -126) → i < f → ∃ x', DD x' m (q + (i : Int)) ∧ Fh_bitsOf_51 f x (zI v) = Fh_bitsOf_75 x' (zI (v - (i : Int))) := by
  intro i
  induction i with
  | zero =>
    intro f x q v h h1 h2 h3 h4 hf
    obtain ⟨f', rfl⟩ : ∃ f', f = f' + 1 := ⟨f - 1, by omega⟩
    refine ⟨x, by have e : q + ((0 : Nat) : Int) = q := by omega
                  rw [e]; exact h, ?_⟩
    rw [Fh_bitsOf_51, show v - ((0 : Nat) : Int) = v by omega]
    by_cases z : q = -52
    · have c := (dd_lt h v1 (by omega)).2 (by omega)
      have c' : 0 ≤ (Op.cmpValue (FP.dcmp x FP.dconst1) .g) := by rcases c with c | c <;> rw [c] <;> decide
      rw [if_pos c']
    · have c := (dd_lt h v1 (by omega)).1 (by omega)
      rw [c, if_neg (by decide), if_pos (by rw [show (-126 : Int32) = zI (-126) from rfl, zI_le (by omega) (by omega) (by omega) (by omega)]; omega)]
  | succ i ih =>
    intro f x q v h h1 h2 h3 h4 hf
    obtain ⟨f', rfl⟩ : ∃ f', f = f' + 1 := ⟨f - 1, by omega⟩
    have hd := dd_mul h (y := 4611686018427387904) (r := 1) (by rw [v2]; rfl) (by have := h.2.2.2.1; omega) (by omega)
    obtain ⟨x', i1, i2⟩ := ih f' _ (q + 1) (v - 1) hd (by omega) (by omega) (by omega) (by omega) (by omega)
    refine ⟨x', by rw [show q + ((i + 1 : Nat) : Int) = q + 1 + (i : Int) by omega]; exact i1, ?_⟩
    have c := (dd_lt h v1 (by omega)).1 (by omega)
    rw [Fh_bitsOf_51, c, if_neg (by decide), if_neg (by rw [show (-126 : Int32) = zI (-126) from rfl, zI_le (by omega) (by omega) (by omega) (by omega)]; omega), if_pos (dd_nn hd), bnd_ap, bnd_ap, show (-1 : Int32) = zI (-1) from rfl, zI_add, show v + -1 = v - 1 by omega, i2, show v - 1 - (i : Int) = v - ((i + 1 : Nat) : Int) by omega]
