theorem oref_z {τ : Type} {k : Nat} (h : k < 2147483648) (P : Option τ) (K : Nat → Option τ) : oref (zI (k : Int)) P K = K k := by
  have g := gref_z (τ := τ) h K
  have n : ¬ zI (k : Int) < 0 := by rw [zI_lit, zI_lt (by omega) (by omega) (by omega) (by omega)]; omega
  rw [gref, if_neg n] at g
  rw [oref, if_neg n]; exact g
theorem rem_on {M : Mem} {w s bn ks : Nat} (h4 : M 0 0 4 = zI (w : Int)) (h5 : M 0 0 5 = zI (s : Int)) (hw : w < 2147483648) (hs : s < 2147483648) (hq : w ≠ s) (hb : bn ≤ 192) (hL : M w 17 16 = zI (bn : Int)) (hk : M w 10 0 = zI (ks : Int)) (hk2 : ks < 2147483648) : ∃ δ', Fh_remember M = some ((), setS M s δ') ∧ CC (M w) δ' bn := by
  obtain ⟨δ', e, c⟩ := wo_copy hq hb hL hk hk2
  exact ⟨δ', by rw [Fh_remember, h5, gref_z hs, h4, gref_z hw, e, bd_some], c⟩
theorem nx_20 {nx : Nat} (h : nx < 20) : zI (nx : Int) + (1 : Int32) - (zI (nx : Int) + (1 : Int32)) / (20 : Int32) * (20 : Int32) = zI (((nx + 1) % 20 : Nat) : Int) := by
  rw [show (1 : Int32) = zI 1 from rfl, show (20 : Int32) = zI 20 from rfl, zI_add, zI_div (by omega) (by omega) (by omega) (by omega), zI_mul, zI_sub]; congr 1; omega
theorem kp_20 {κ : Nat} (h : κ ≤ 20) : (if (20 : Int32) < zI (κ : Int) + (1 : Int32) then (20 : Int32) else zI (κ : Int) + (1 : Int32)) = zI ((if κ < 20 then κ + 1 else 20 : Nat) : Int) := by
  rw [show (1 : Int32) = zI 1 from rfl, show (20 : Int32) = zI 20 from rfl, zI_add]
  by_cases c : κ < 20
  · rw [if_neg (by rw [zI_lt (by omega) (by omega) (by omega) (by omega)]; omega), if_pos c]; congr 1
  · rw [if_pos (by rw [zI_lt (by omega) (by omega) (by omega) (by omega)]; omega), if_neg c]; rfl
