/-- a row filled as far as j -/
def flS (δ : Sl) (a j : Nat) (v : Int32) : Sl := fun b i => if b = a ∧ i < j then v else δ b i
theorem flS_ap (δ : Sl) (a j : Nat) (v : Int32) (b i : Nat) : flS δ a j v b i = if b = a ∧ i < j then v else δ b i := rfl
theorem flS_s (δ : Sl) (a j : Nat) (v : Int32) : wr (flS δ a j v) a j v = flS δ a (j + 1) v := by
  funext b i
  rw [wr_ap, flS_ap, flS_ap]
  by_cases h : b = a ∧ i = j
  · rw [if_pos h, if_pos (by omega)]
  · rw [if_neg h]
    by_cases g : b = a ∧ i < j
    · rw [if_pos g, if_pos (by omega)]
    · rw [if_neg g, if_neg (by omega)]
theorem fill_loop {δ : Sl} {a n : Nat} (hn : n < 100000) (v : Int32) : ∀ (m j f : Nat), j + m = n → m < f → Jk_fill_53178_5 a n f v (zI (j : Int)) (zI (n : Int)) (flS δ a j v) = some ((), flS δ a n v) := by
  intro m
  induction m with
  | zero =>
    intro j f hj hf
    obtain ⟨g, rfl⟩ : ∃ g, f = g + 1 := ⟨f - 1, by omega⟩
    rw [Jk_fill_53178_5, if_pos (by rw [zI_le (by omega) (by omega) (by omega) (by omega)]; omega), show j = n by omega]
  | succ m ih =>
    intro j f hj hf
    obtain ⟨g, rfl⟩ : ∃ g, f = g + 1 := ⟨f - 1, by omega⟩
    rw [Jk_fill_53178_5, if_neg (by rw [zI_le (by omega) (by omega) (by omega) (by omega)]; omega), if_pos (by rw [zI_inb (by omega) (by omega)]; omega), zI_ix (by omega) (by omega), bnd_ap, bnd_ap, Int.toNat_natCast, flS_s, show (1 : Int32) = zI 1 from rfl, zI_add, show (j : Int) + 1 = ((j + 1 : Nat) : Int) by omega]
    exact ih (j + 1) g (by omega) (by omega)
theorem fill_on {δ : Sl} {a n : Nat} (hn : n < 100000) (v : Int32) : Jk_fill_53178 a n δ v = some ((), flS δ a n v) := by
  have h := fill_loop (δ := δ) (a := a) hn v n 0 1000000 (by omega) (by omega)
  have e : flS δ a 0 v = δ := by funext b i; rw [flS_ap, if_neg (by omega)]
  rw [e] at h
  rw [Jk_fill_53178, bnd_ap, bnd_ap, zI_nI]
  exact h
section
variable {M : Mem} {k : Nat}
theorem inA {τ : Type} (δ : Sl) (a : Nat) (f : Nat → Int32) (K : Mem → Option τ) : bnd (wrAM (setS M k δ) k a f) K = K (setS M k (wrA δ a f)) := by
  rw [bnd_ap, wrAM_setS]
theorem inW {τ : Type} (δ : Sl) (a i : Nat) (v : Int32) (K : Mem → Option τ) : bnd (wrM (setS M k δ) k a i v) K = K (setS M k (wr δ a i v)) := by
  rw [bnd_ap, wrM, setS_at, setS_setS]
end
