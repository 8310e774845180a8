/-! ===== gates: does a tree reach a space ===== -/
section
variable {K : Int32 → Int32 → Int32 → Int32 → Sl → Option (Int32 × Sl)} {μ : Sl} {b : Nat} {B : Nat → Int}
theorem g75 {l : List Nat} (hR : RW μ l) (hl : l.length ≤ 192) (hlt : ∀ y, y ∈ l → y < 192) {s2 : Nat} (hs : s2 < 6) (v1 v3 v4 : Int32) : ∀ (m i f : Nat) (a : Bool), i + m = l.length → m < f → Mo_gates_75 K f v1 (zI (s2 : Int)) v3 v4 (bI a) (zI (i : Int)) (bst μ b B) = Mo_gates_117 K v1 (zI (s2 : Int)) (v3 + bI (a || (l.drop i).any (fun y => decide (y / 32 = s2)))) v4 (bst μ b B) := by
  have e28 : bst μ b B 34 28 = zI (l.length : Int) := by rw [bst_ne _ _ _ (by omega)]; exact hR.1
  intro m
  induction m with
  | zero =>
    intro i f a hi hf
    obtain ⟨f', rfl⟩ : ∃ f', f = f' + 1 := ⟨f - 1, by omega⟩
    rw [Mo_gates_75, e28, if_pos (by rw [zI_le (by omega) (by omega) (by omega) (by omega)]; omega), bnd_ap, List.drop_of_length_le (by omega), List.any_nil, Bool.or_false]
  | succ m ih =>
    intro i f a hi hf
    obtain ⟨f', rfl⟩ : ∃ f', f = f' + 1 := ⟨f - 1, by omega⟩
    have hi2 : i < l.length := by omega
    have e46 : bst μ b B 46 i = zI ((l[i] : Nat) : Int) := by
      rw [bst_ne _ _ _ (by omega)]
      exact hR.2 i l[i] (List.getElem?_eq_getElem hi2)
    have hy := hlt l[i] (List.getElem_mem hi2)
    have dv : zI ((l[i] : Nat) : Int) / (32 : Int32) = zI ((l[i] / 32 : Nat) : Int) := by
      rw [show (32 : Int32) = zI 32 from rfl, zI_div (by omega) (by omega) (by omega) (by omega)]; congr 1
    rw [Mo_gates_75, e28, if_neg (by rw [zI_le (by omega) (by omega) (by omega) (by omega)]; omega), if_pos (zI_in (by omega) (by omega)), if_pos (by decide), zI_ixn (by omega), e46, dv, List.drop_eq_getElem_cons hi2, List.any_cons]
    by_cases z : l[i] / 32 = s2
    · have t := ih (i + 1) f' true (by omega) (by omega)
      rw [if_pos (by rw [z]), Mo_gates_104, bnd_ap, bnd_ap, zI_s1, show (1 : Int32) = bI true from rfl, t, decide_eq_true z, Bool.true_or, Bool.or_true]
    · have t := ih (i + 1) f' a (by omega) (by omega)
      rw [if_neg (by rw [zI_eq (by omega) (by omega) (by omega) (by omega)]; omega), Mo_gates_104, bnd_ap, bnd_ap, zI_s1, t, decide_eq_false z, Bool.false_or]
end
