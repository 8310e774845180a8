/-! ===== two spaces and their regions ===== -/
def psB (n S : Nat) (x1 x2 x3 x4 : Int) : Bool := decide (0 ≤ x1 ∧ x1 < (n : Int)) && (decide (0 ≤ x3 ∧ x3 < (n : Int)) && (decide (x1 ≠ x3) && (decide (0 ≤ x2) && (rgB S (x2 / 4) (x2 % 4 + 1) && rgB S x4 (x2 % 4 + 1)))))
theorem zI_m4 {x : Int} (h : 0 ≤ x) (h2 : x < 2147483648) : zI x - zI x / zI 4 * zI 4 = zI (x % 4 + 1 - 1) := by
  rw [zI_div h h2 (by omega) (by omega), zI_mul, zI_sub]; congr 1; omega
theorem zI_a4 {x : Int} (h : 0 ≤ x) (h2 : x < 2147483648) : zI x &&& zI 3 = zI (x % 4 + 1 - 1) := by
  rw [zI_and3 h h2]; congr 1; omega
theorem b2 (c : Bool) : bI c = 0 ∨ bI c = 1 := by cases c; exact .inl rfl; exact .inr rfl
theorem lz4 : (4 : Int32) = zI 4 := rfl
theorem lz3 : (3 : Int32) = zI 3 := rfl
theorem lz2 : (2 : Int32) = zI 2 := rfl
theorem four_ne : ¬ (4 : Int32) = 0 := by decide
theorem bI_if {τ : Type} (c : Bool) (a b : τ) : (if bI c = 0 then a else b) = if c = true then b else a := by
  cases c
  · rw [if_pos (by rw [bI_ne]), if_neg (by decide)]
  · rw [if_neg (by rw [bI_ne]; decide), if_pos rfl]
theorem m_isRegion {μ : Sl} {n S : Nat} {qv : Nat → Int} (h : SM μ n S qv) (hn : SN n S qv) {x : Int} (hx : i32 x) : Mo_isRegion μ (zI x) = some (bI (decide (0 ≤ x) && rgB S (x / 4) (x % 4 + 1))) := by
  obtain ⟨x1, x2⟩ := hx
  unfold Mo_isRegion
  by_cases z : 0 ≤ x
  · rw [if_pos (by rw [zI_lit, zI_le (by omega) (by omega) (by omega) (by omega)]; exact z), if_pos four_ne, bnd_ap, if_pos four_ne]
    simp only [lz4]
    rw [zI_m4 z x2, zI_div z x2 (by omega) (by omega), m_isFit h hn ⟨by omega, by omega⟩ (by omega) (by omega), bp_some, if_pos (b2 _), decide_eq_true z, Bool.true_and]
  · rw [if_neg (by rw [zI_lit, zI_le (by omega) (by omega) (by omega) (by omega)]; exact z), decide_eq_false z]; rfl
theorem m_pass {μ : Sl} {n S : Nat} {qv : Nat → Int} (h : SM μ n S qv) (hn : SN n S qv) {x1 x2 x3 x4 : Int} (h1 : i32 x1) (h2 : i32 x2) (h3 : i32 x3) (h4 : i32 x4) : Mo_isPassing μ (zI x1) (zI x2) (zI x3) (zI x4) = some (bI (psB n S x1 x2 x3 x4)) := by
  unfold Mo_isPassing psB
  rw [m_isSpace h hn h1, m_isSpace h hn h3, m_isRegion h hn h2, bp_some, bI_if]
  by_cases c1 : 0 ≤ x1 ∧ x1 < (n : Int)
  · rw [decide_eq_true c1, if_pos rfl, bp_some, bI_if, Bool.true_and]
    by_cases c2 : 0 ≤ x3 ∧ x3 < (n : Int)
    · rw [decide_eq_true c2, if_pos rfl, Bool.true_and]
      by_cases c3 : x1 = x3
      · rw [if_pos (by rw [c3]), decide_eq_false (by simp [c3])]; rfl
      · rw [if_neg (by rw [zI_eq h1.1 h1.2 h3.1 h3.2]; exact c3), decide_eq_true c3, bp_some, bI_if, Bool.true_and]
        by_cases c4 : 0 ≤ x2
        · rw [decide_eq_true c4, Bool.true_and, Bool.true_and]
          cases c5 : rgB S (x2 / 4) (x2 % 4 + 1) with
          | false => rw [if_neg (by decide)]; rfl
          | true =>
            rw [if_pos rfl, if_pos four_ne]
            simp only [lz4]
            rw [zI_m4 c4 h2.2, m_isFit h hn h4 (by omega) (by omega), bp_some, bI_if, Bool.true_and]
            cases rgB S x4 (x2 % 4 + 1) <;> rfl
        · rw [decide_eq_false c4, Bool.false_and, if_neg (by decide)]; rfl
    · rw [decide_eq_false c2, if_neg (by decide)]; rfl
  · rw [decide_eq_false c1, if_neg (by decide)]; rfl
theorem c_areTwo {M : Mem} {δ : Sl} {n S : Nat} {qv : Nat → Int} (h : SK M δ n S qv) (hn : SN n S qv) {x1 x3 : Int} (h1 : i32 x1) (h3 : i32 x3) : Wo_areTwo M δ (zI x1) (zI x3) = some (bI (decide (0 ≤ x1 ∧ x1 < (n : Int)) && (decide (0 ≤ x3 ∧ x3 < (n : Int)) && decide (x1 ≠ x3)))) := by
  unfold Wo_areTwo
  rw [c_isSpace h hn h1, c_isSpace h hn h3, bp_some, bI_if]
  by_cases c1 : 0 ≤ x1 ∧ x1 < (n : Int)
  · rw [decide_eq_true c1, if_pos rfl, bp_some, bI_if, Bool.true_and]
    by_cases c2 : 0 ≤ x3 ∧ x3 < (n : Int)
    · rw [decide_eq_true c2, if_pos rfl, Bool.true_and]
      by_cases c3 : x1 = x3
      · rw [if_pos (by rw [c3]), decide_eq_false (by simp [c3])]; rfl
      · rw [if_neg (by rw [zI_eq h1.1 h1.2 h3.1 h3.2]; exact c3), decide_eq_true c3]; rfl
    · rw [decide_eq_false c2, if_neg (by decide)]; rfl
  · rw [decide_eq_false c1, if_neg (by decide)]; rfl
theorem c_isRegionOf {M : Mem} {δ : Sl} {n S : Nat} {qv : Nat → Int} (h : SK M δ n S qv) (hn : SN n S qv) {x1 x2 : Int} (h1 : i32 x1) (h2 : i32 x2) : Wo_isRegionOf M δ (zI x1) (zI x2) = some (bI (decide (0 ≤ x1 ∧ x1 < (n : Int)) && (decide (0 ≤ x2) && rgB S (x2 / 4) (x2 % 4 + 1)))) := by
  have h20 := h2.1
  have h21 := h2.2
  unfold Wo_isRegionOf
  rw [c_isSpace h hn h1, bp_some, bI_if]
  by_cases c1 : 0 ≤ x1 ∧ x1 < (n : Int)
  · rw [decide_eq_true c1, if_pos rfl, Bool.true_and]
    by_cases c4 : 0 ≤ x2
    · rw [decide_eq_true c4, Bool.true_and, if_neg (by rw [zI_lit, zI_lt (by omega) (by omega) (by omega) (by omega)]; omega)]
      simp only [lz3, lz2]
      rw [zI_a4 c4 h21, show (31 : Int32) = zI 31 from rfl, zI_shr2 c4 h21, c_isRegion h hn ⟨by omega, by omega⟩ (by omega) (by omega), bp_some, bI_if]
      cases rgB S (x2 / 4) (x2 % 4 + 1) <;> rfl
    · rw [decide_eq_false c4, if_pos (by rw [zI_lit, zI_lt (by omega) (by omega) (by omega) (by omega)]; omega)]; rfl
  · rw [decide_eq_false c1, if_neg (by decide)]; rfl
theorem c_rights {x : Int} (h : i32 x) : Fh_areRights (zI x) = some (bI (decide (1 ≤ x ∧ x ≤ 7))) := by
  have h0 := h.1
  have h1 := h.2
  unfold Fh_areRights
  simp only [zI_lit]
  by_cases z : x < 1
  · rw [if_pos (by rw [zI_lt (by omega) (by omega) (by omega) (by omega)]; exact z), decide_eq_false (by omega)]; rfl
  · rw [if_neg (by rw [zI_lt (by omega) (by omega) (by omega) (by omega)]; exact z)]
    by_cases w : 7 < x
    · rw [if_pos (by rw [zI_lt (by omega) (by omega) (by omega) (by omega)]; exact w), decide_eq_false (by omega)]; rfl
    · rw [if_neg (by rw [zI_lt (by omega) (by omega) (by omega) (by omega)]; exact w), decide_eq_true (by omega)]; rfl
theorem m_rights (x : Int32) : Mo_isIn x (1 : Int32) (7 : Int32) = Fh_areRights x := rfl
