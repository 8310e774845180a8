theorem m_undo_b {μ : Sl} {κ : Nat} {C : Nat → Nat → Int} (h : BH μ κ C) (hκ : 1 ≤ κ) :
    ∃ μ', Mo_undo μ = some (zI ((κ - 1 : Nat) : Int), μ') ∧ BH μ' (κ - 1) C ∧ BK μ' 0 (C (κ - 1)) ∧ μ' 34 2 = 0 ∧ ∀ a i, a ≠ 45 → ¬ (a = 34 ∧ (i = 26 ∨ i = 2)) → μ' a i = μ a i := by
  obtain ⟨h1, h2, h3⟩ := h
  have e : (2 : Int32) + zI ((κ - 1 : Nat) : Int) = zI ((2 + (κ - 1) : Nat) : Int) := by rw [show (2 : Int32) = zI 2 from rfl, zI_add]; congr 1
  have k1 : zI (κ : Int) - (1 : Int32) = zI ((κ - 1 : Nat) : Int) := by rw [show (1 : Int32) = zI 1 from rfl, zI_sub]; congr 1; omega
  have b1 : wr μ 34 2 (0 : Int32) 34 26 = zI (κ : Int) := by rw [wr_ap, if_neg (by omega)]; exact h1
  have b2 : wr (wr μ 34 2 (0 : Int32)) 34 26 (zI ((κ - 1 : Nat) : Int)) 34 26 = zI ((κ - 1 : Nat) : Int) := by rw [wr_ap, if_pos ⟨rfl, rfl⟩]
  have c := m_bank (μ := wr (wr μ 34 2 (0 : Int32)) 34 26 (zI ((κ - 1 : Nat) : Int))) (s := 2 + (κ - 1)) (t := 0) (by omega) (by omega) (by omega)
  have b3 : cpn (wr (wr μ 34 2 (0 : Int32)) 34 26 (zI ((κ - 1 : Nat) : Int))) (2 + (κ - 1)) 0 2227 34 26 = zI ((κ - 1 : Nat) : Int) := by rw [cpn_ne _ _ _ _ (by omega)]; exact b2
  refine ⟨cpn (wr (wr μ 34 2 (0 : Int32)) 34 26 (zI ((κ - 1 : Nat) : Int))) (2 + (κ - 1)) 0 2227, ?_, ⟨b3, by omega, fun i hi => BK_ne (BK_wr (BK_wr (h3 i (by omega)) (by omega)) (by omega)) (by omega)⟩, BK_to (BK_wr (BK_wr (h3 (κ - 1) (by omega)) (by omega)) (by omega)), ?_, fun a i g1 g2 => ?_⟩
  · rw [Mo_undo, bnd_ap, b1, if_neg (by rw [zI_lit, zI_eq (by omega) (by omega) (by omega) (by omega)]; omega), k1, bnd_ap, b2, e, show (0 : Int32) = zI ((0 : Nat) : Int) from rfl]
    rw [show (0 : Int32) = zI ((0 : Nat) : Int) from rfl] at c b3
    rw [c, bd_some, b3]
  · rw [cpn_ne _ _ _ _ (by omega), wr_ap, if_neg (by omega), wr_ap, if_pos ⟨rfl, rfl⟩]
  · rw [cpn_ne _ _ _ _ g1, wr_ap, if_neg (by omega), wr_ap, if_neg (by omega)]
theorem m_undo_a {μ : Sl} (h : μ 34 26 = zI 0) : Mo_undo μ = some (zI (-1), wr μ 34 2 (0 : Int32)) := by
  have b1 : wr μ 34 2 (0 : Int32) 34 26 = 0 := by rw [wr_ap, if_neg (by omega), h]; rfl
  rw [Mo_undo, bnd_ap, if_pos b1]; rfl
