/-! ===== handing on and giving away with any arguments ===== -/
theorem ps_good {n S : Nat} {x1 x2 x3 x4 : Int} (h : psB n S x1 x2 x3 x4 = true) : ∃ (sf st p p1 : Nat) (t : Int), HN n S sf st p p1 t 1 ∧ x1 = (sf : Int) ∧ x2 = 4 * (p : Int) + (t - 1) ∧ x3 = (st : Int) ∧ x4 = (p1 : Int) := by
  unfold psB rgB at h
  simp only [Bool.and_eq_true, decide_eq_true_eq] at h
  obtain ⟨⟨a1, a2⟩, ⟨a3, a4⟩, a5, a6, ⟨a7, a8, a9⟩, ⟨b1, b2, b3⟩⟩ := h
  refine ⟨x1.toNat, x3.toNat, (x2 / 4).toNat, x4.toNat, x2 % 4 + 1, ⟨by omega, by omega, by omega, by omega, by omega, ?_, ?_, by omega, by omega⟩, by omega, by omega, by omega, by omega⟩
  · rw [show (((x2 / 4).toNat : Nat) : Int) = x2 / 4 by omega]; exact ⟨a7, a8, a9⟩
  · rw [show ((x4.toNat : Nat) : Int) = x4 by omega]; exact ⟨b1, b2, b3⟩
theorem HN_r {n S sf st p p1 : Nat} {t r : Int} (h : HN n S sf st p p1 t 1) (h1 : 1 ≤ r) (h2 : r ≤ 7) : HN n S sf st p p1 t r := by
  obtain ⟨a1, a2, a3, a4, a5, a6, a7, -, -⟩ := h
  exact ⟨a1, a2, a3, a4, a5, a6, a7, h1, h2⟩
theorem hand_bad {M : Mem} {δ : Sl} {n S : Nat} {qv : Nat → Int} (hK : SK M δ n S qv) (hn : SN n S qv) {x1 x2 x3 x4 x5 : Int} (h1 : i32 x1) (h2 : i32 x2) (h3 : i32 x3) (h4 : i32 x4) (h5 : i32 x5) (hb : (psB n S x1 x2 x3 x4 && decide (1 ≤ x5 ∧ x5 ≤ 7)) = false) : Wo_handOn M δ (zI x1) (zI x2) (zI x3) (zI x4) (zI x5) = some (zI (-1), δ) := by
  unfold psB at hb
  unfold Wo_handOn
  rw [bnd_ap, c_areTwo hK hn h1 h3, bp_some, bI_if, c_isRegionOf hK hn h1 h2, c_rights h5]
  by_cases c1 : 0 ≤ x1 ∧ x1 < (n : Int)
  · by_cases c2 : 0 ≤ x3 ∧ x3 < (n : Int)
    · by_cases c3 : x1 = x3
      · rw [decide_eq_true c1, decide_eq_true c2, decide_eq_false (show ¬ x1 ≠ x3 from fun z => z c3), if_neg (by decide)]; rfl
      · rw [decide_eq_true c1, decide_eq_true c2, decide_eq_true c3] at hb ⊢
        rw [Bool.true_and, Bool.true_and, if_pos rfl, bp_some, bI_if]
        by_cases c4 : 0 ≤ x2
        · rw [decide_eq_true c4] at hb ⊢
          rw [Bool.true_and, Bool.true_and, lz3, zI_a4 c4 h2.2, c_isRegion hK hn h4 (by omega) (by omega), bp_some, bI_if, bp_some, bI_if]
          cases c5 : rgB S (x2 / 4) (x2 % 4 + 1) with
          | false => rw [if_neg (by decide)]; rfl
          | true =>
            rw [if_pos rfl]
            cases c6 : rgB S x4 (x2 % 4 + 1) with
            | false => rw [if_neg (by decide)]; rfl
            | true =>
              rw [c5, c6] at hb
              have hb2 : decide (1 ≤ x5 ∧ x5 ≤ 7) = false := hb
              rw [if_pos rfl, hb2, if_neg (by decide)]; rfl
        · rw [decide_eq_false c4, if_neg (by simp)]; rfl
    · rw [decide_eq_true c1, decide_eq_false c2, if_neg (by simp)]; rfl
  · rw [decide_eq_false c1, if_neg (by simp)]; rfl
theorem give_bad {M : Mem} {δ : Sl} {n S : Nat} {qv : Nat → Int} (hK : SK M δ n S qv) (hn : SN n S qv) {x1 x2 x3 x4 : Int} (h1 : i32 x1) (h2 : i32 x2) (h3 : i32 x3) (h4 : i32 x4) (hb : psB n S x1 x2 x3 x4 = false) : Wo_giveAway M δ (zI x1) (zI x2) (zI x3) (zI x4) = some (zI (-1), δ) := by
  unfold psB at hb
  unfold Wo_giveAway
  rw [bnd_ap, c_areTwo hK hn h1 h3, bp_some, bI_if, c_isRegionOf hK hn h1 h2]
  by_cases c1 : 0 ≤ x1 ∧ x1 < (n : Int)
  · by_cases c2 : 0 ≤ x3 ∧ x3 < (n : Int)
    · by_cases c3 : x1 = x3
      · rw [decide_eq_true c1, decide_eq_true c2, decide_eq_false (show ¬ x1 ≠ x3 from fun z => z c3), if_neg (by decide)]; rfl
      · rw [decide_eq_true c1, decide_eq_true c2, decide_eq_true c3] at hb ⊢
        rw [Bool.true_and, Bool.true_and, if_pos rfl, bp_some, bI_if]
        by_cases c4 : 0 ≤ x2
        · rw [decide_eq_true c4] at hb ⊢
          rw [Bool.true_and, Bool.true_and, lz3, zI_a4 c4 h2.2, c_isRegion hK hn h4 (by omega) (by omega), bp_some, bI_if]
          cases c5 : rgB S (x2 / 4) (x2 % 4 + 1) with
          | false => rw [if_neg (by decide)]; rfl
          | true =>
            rw [if_pos rfl]
            cases c6 : rgB S x4 (x2 % 4 + 1) with
            | false => rw [if_neg (by decide)]; rfl
            | true => rw [c5, c6] at hb; cases hb
        · rw [decide_eq_false c4, if_neg (by simp)]; rfl
    · rw [decide_eq_true c1, decide_eq_false c2, if_neg (by simp)]; rfl
  · rw [decide_eq_false c1, if_neg (by simp)]; rfl
