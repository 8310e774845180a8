/-- what a step leaves: alike, whatever is answered -/
def WY (ee : Int × Int) (n S : Nat) (δ μ : Sl) (b : Nat) (B : Nat → Int) (N : Int) (R1 R2 : Option (Int32 × Sl)) : Prop :=
  ∃ v δ' σ' bn' μ' B' A' dep' J' N', R1 = some (zI v, δ') ∧ R2 = some (zI v, bst μ' b B') ∧ (-6 ≤ v ∧ v < 1000) ∧ RC n S δ' σ' bn' B' A' dep' J' N' ∧ WX ee n S δ' B' ∧ SC μ μ' ∧ δ' 10 0 = δ 10 0 ∧ N' ≤ N + 1 ∧ B' 2196 ≤ B 2196 + 1 ∧ QMq μ n S B B'
theorem WO_WY {ee : Int × Int} {n S : Nat} {δ μ : Sl} {b : Nat} {B : Nat → Int} {N : Int} {R1 R2 : Option (Int32 × Sl)} (h : WO ee n S δ μ b B N R1 R2) : WY ee n S δ μ b B N R1 R2 := by
  obtain ⟨v, δ', σ', bn', μ', B', A', dep', J', N', r1, r2, ⟨r3, r4, -⟩, r6, r7, r8, r9, q1, q2⟩ := h
  exact ⟨v, δ', σ', bn', μ', B', A', dep', J', N', r1, r2, ⟨r3, r4⟩, r6, r7, r8, r9, q1, q2⟩
theorem WV_WY {ee : Int × Int} {n S : Nat} {δ μ : Sl} {b : Nat} {B : Nat → Int} {J : List Jb} {N : Int} {R1 R2 : Option (Int32 × Sl)} (h : WV ee n S δ μ b B J N R1 R2) : WY ee n S δ μ b B N R1 R2 := by
  obtain ⟨v, δ', σ', bn', μ', B', A', dep', r1, r2, ⟨r3, r4, -⟩, -, r6, r7, r8, r9, q2⟩ := h
  exact ⟨v, δ', σ', bn', μ', B', A', dep', J, N, r1, r2, ⟨r3, r4⟩, r6, r7, r8, r9, by omega, q2⟩
theorem WY_bad {ee : Int × Int} {n S : Nat} {A : Ab} {dep : Nat → Nat} {δ μ : Sl} {σ : Nat → Nat} {bn b : Nat} {B : Nat → Int} {J : List Jb} {N : Int} {R1 R2 : Option (Int32 × Sl)} (hR : RC n S δ σ bn B A dep J N) (hX : WX ee n S δ B) (h1 : R1 = some (zI (-1), δ)) (h2 : R2 = some (zI (-1), bst μ b B)) : WY ee n S δ μ b B N R1 R2 :=
  ⟨-1, δ, σ, bn, μ, B, A, dep, J, N, h1, h2, ⟨by omega, by omega⟩, hR, hX, SC_refl μ, rfl, by omega, by omega, QMq.refl _ _ _ _⟩
theorem m_isPlace {μ : Sl} {n S : Nat} {qv : Nat → Int} (h : SM μ n S qv) (hn : SN n S qv) {y : Int} (hy : i32 y) : Mo_isPlace μ (zI y) = some (bI (decide (0 ≤ y ∧ y < (S : Int)))) := by
  obtain ⟨g1, g2, g3⟩ := id hn
  obtain ⟨y1, y2⟩ := hy
  have e : Mo_size μ = some (zI (S : Int)) := by
    rw [Mo_size, if_pos (by decide), show ix (3 : Int32) = 3 from rfl, h.2.1]
  rw [Mo_isPlace, e, bp_some]
  by_cases c2 : y < 0
  · rw [if_pos (by rw [zI_lit, zI_lt (by omega) (by omega) (by omega) (by omega)]; exact c2), decide_eq_false (by omega)]; rfl
  · rw [if_neg (by rw [zI_lit, zI_lt (by omega) (by omega) (by omega) (by omega)]; exact c2)]
    by_cases c3 : (S : Int) ≤ y
    · rw [if_pos (by rw [zI_le (by omega) (by omega) (by omega) (by omega)]; exact c3), decide_eq_false (by omega)]; rfl
    · rw [if_neg (by rw [zI_le (by omega) (by omega) (by omega) (by omega)]; exact c3), decide_eq_true (by omega)]; rfl
/-- what may be touched -/
def tcB (n S : Nat) (B : Nat → Int) (x y r : Int) : Bool := decide (0 ≤ x ∧ x < (n : Int)) && (decide (0 ≤ y ∧ y < (S : Int)) && (decide (r = 1 ∨ r = 2 ∨ r = 4) && decide (B (2172 + x.toNat) = 0)))
theorem wt_01 {ee : Int × Int} {n S : Nat} {δ : Sl} {B : Nat → Int} (hX : WX ee n S δ B) {s : Nat} (hs : s < 6) : (B (2172 + s) = 0 ∧ δ 14 s = zI 0) ∨ (B (2172 + s) = 1 ∧ δ 14 s = zI (B (2190 + s)) ∧ 0 < B (2190 + s) ∧ B (2190 + s) ≤ B 2196) := by
  rcases hX.1 s hs with ⟨a, b⟩ | ⟨a, -, b, c, d, -⟩
  · exact .inl ⟨a, b⟩
  · exact .inr ⟨a, b, c, d⟩
theorem m_touch31 {ee : Int × Int} {n S : Nat} {δ μ : Sl} {b : Nat} {B : Nat → Int} (hb : MB μ b) (hX : WX ee n S δ B) {s : Nat} (hs : s < 6) : Mo_isTouch_31 (bst μ b B) (zI (s : Int)) = some (bI (decide (B (2172 + s) = 0))) := by
  rw [Mo_isTouch_31, m_wtg hb hX hs, bp_some, bI_if]
  rcases wt_01 hX hs with ⟨e, -⟩ | ⟨e, -⟩ <;> rw [e] <;> rfl
theorem m_isTouch {ee : Int × Int} {n S : Nat} {δ μ : Sl} {b : Nat} {B : Nat → Int} {qv : Nat → Int} (hb : MB μ b) (hX : WX ee n S δ B) (hm : SM μ n S qv) (hn : SN n S qv) {x y r : Int} (hx : i32 x) (hy : i32 y) (hr : i32 r) : Mo_isTouch (bst μ b B) (zI x) (zI y) (zI r) = some (bI (tcB n S B x y r)) := by
  have hm2 := bst_SM b B hm
  have hn6 := hn.1
  obtain ⟨r1, r2⟩ := hr
  unfold Mo_isTouch tcB
  rw [m_isSpace hm2 hn hx, bp_some, bI_if]
  by_cases c1 : 0 ≤ x ∧ x < (n : Int)
  · rw [decide_eq_true c1, if_pos rfl, m_isPlace hm2 hn hy, bp_some, bI_if, Bool.true_and]
    by_cases c2 : 0 ≤ y ∧ y < (S : Int)
    · rw [decide_eq_true c2, if_pos rfl, Bool.true_and]
      have hs : x.toNat < 6 := by omega
      have t := m_touch31 (μ := μ) (b := b) hb hX hs
      rw [show ((x.toNat : Nat) : Int) = x by omega] at t
      rw [t]
      by_cases d1 : r = 1
      · rw [if_pos (by rw [d1]; rfl), decide_eq_true (show r = 1 ∨ r = 2 ∨ r = 4 by omega), Bool.true_and]
      · rw [if_neg (by rw [zI_lit, zI_eq (by omega) (by omega) (by omega) (by omega)]; exact d1)]
        by_cases d2 : r = 2
        · rw [if_pos (by rw [d2]; rfl), decide_eq_true (show r = 1 ∨ r = 2 ∨ r = 4 by omega), Bool.true_and]
        · rw [if_neg (by rw [zI_lit, zI_eq (by omega) (by omega) (by omega) (by omega)]; exact d2)]
          by_cases d3 : r = 4
          · rw [if_pos (by rw [d3]; rfl), decide_eq_true (show r = 1 ∨ r = 2 ∨ r = 4 by omega), Bool.true_and]
          · rw [if_neg (by rw [zI_lit, zI_eq (by omega) (by omega) (by omega) (by omega)]; exact d3), decide_eq_false (show ¬ (r = 1 ∨ r = 2 ∨ r = 4) by omega), Bool.false_and]; rfl
    · rw [decide_eq_false c2, if_neg (by simp), Bool.false_and]; rfl
  · rw [decide_eq_false c1, if_neg (by simp), Bool.false_and]; rfl
theorem touch_bad {ee : Int × Int} {n S : Nat} {M : Mem} {δ : Sl} {B : Nat → Int} {qv : Nat → Int} (hX : WX ee n S δ B) (hW : B 2196 < 2147483648) (hK : SK M δ n S qv) (hn : SN n S qv) {x y r : Int} (hx : i32 x) (hy : i32 y) (hr : i32 r) (hbad : tcB n S B x y r = false) : Wo_touchPage M δ (zI x) (zI y) (zI r) = some (zI (-1), δ) := by
  have hn6 := hn.1
  obtain ⟨r1, r2⟩ := hr
  unfold tcB at hbad
  rw [Wo_touchPage, c_isPlace hK hn hx hy, bp_some, bI_if]
  by_cases c1 : 0 ≤ x ∧ x < (n : Int)
  · by_cases c2 : 0 ≤ y ∧ y < (S : Int)
    · rw [decide_eq_true c1, decide_eq_true c2] at hbad ⊢
      rw [Bool.true_and, Bool.true_and] at hbad
      rw [if_pos (by rfl)]
      have k : (r = 1 ∨ r = 2 ∨ r = 4) → Wo_touchPage_24 M (zI x) (zI y) (zI r) δ = some (zI (-1), δ) := by
        intro hh
        rw [decide_eq_true hh, Bool.true_and] at hbad
        have hs : x.toNat < 6 := by omega
        have hz : ¬ B (2172 + x.toNat) = 0 := of_decide_eq_false hbad
        rcases wt_01 hX hs with ⟨e, -⟩ | ⟨-, e2, e3, e4⟩
        · exact absurd e hz
        · rw [Wo_touchPage_24, if_pos (by rw [zI_inb (by omega) (by omega)]; omega), zI_ix (by omega) (by omega), e2, if_neg (by rw [zI_lit, zI_eq (by omega) (by omega) (by omega) (by omega)]; omega)]; rfl
      by_cases d1 : r = 1
      · rw [if_pos (by rw [d1]; rfl), k (.inl d1)]
      · rw [if_neg (by rw [zI_lit, zI_eq (by omega) (by omega) (by omega) (by omega)]; exact d1)]
        by_cases d2 : r = 2
        · rw [if_pos (by rw [d2]; rfl), k (.inr (.inl d2))]
        · rw [if_neg (by rw [zI_lit, zI_eq (by omega) (by omega) (by omega) (by omega)]; exact d2)]
          by_cases d3 : r = 4
          · rw [if_pos (by rw [d3]; rfl), k (.inr (.inr d3))]
          · rw [if_neg (by rw [zI_lit, zI_eq (by omega) (by omega) (by omega) (by omega)]; exact d3)]; rfl
    · rw [decide_eq_false c2, Bool.and_false, if_neg (by simp)]; rfl
  · rw [decide_eq_false c1, Bool.false_and, if_neg (by simp)]; rfl
/-- what may be flushed -/
def fzB (n S : Nat) (x1 x2 x3 : Int) : Bool := (decide (0 ≤ x1 ∧ x1 < (n : Int)) && (decide (0 ≤ x2) && rgB S (x2 / 4) (x2 % 4 + 1))) && decide (1 ≤ x3 ∧ x3 ≤ 7)
theorem flush_bad {M : Mem} {δ : Sl} {n S : Nat} {qv : Nat → Int} (hK : SK M δ n S qv) (hn : SN n S qv) {x1 x2 x3 : Int} (h1 : i32 x1) (h2 : i32 x2) (h3 : i32 x3) (a4 : Int32) (hbad : fzB n S x1 x2 x3 = false) : Wo_startFlush M δ (zI x1) (zI x2) (zI x3) a4 = some (zI (-1), δ) := by
  unfold fzB at hbad
  rw [Wo_startFlush, c_isRegionOf hK hn h1 h2, bp_some, bI_if, c_rights h3, bp_some, bI_if]
  cases c1 : (decide (0 ≤ x1 ∧ x1 < (n : Int)) && (decide (0 ≤ x2) && rgB S (x2 / 4) (x2 % 4 + 1))) with
  | false => rw [if_neg (by decide)]; rfl
  | true =>
    rw [c1, Bool.true_and] at hbad
    rw [if_pos rfl, hbad, if_neg (by decide)]; rfl
theorem fl_good {n S : Nat} {x1 x2 x3 : Int} (h : fzB n S x1 x2 x3 = true) : ∃ (sf p : Nat) (t : Int), FN n S sf p t x3 ∧ x1 = (sf : Int) ∧ x2 = 4 * (p : Int) + (t - 1) := by
  unfold fzB rgB at h
  simp only [Bool.and_eq_true, decide_eq_true_eq] at h
  obtain ⟨⟨⟨a1, a2⟩, a6, ⟨a7, a8, a9⟩⟩, b1, b2⟩ := h
  refine ⟨x1.toNat, (x2 / 4).toNat, x2 % 4 + 1, ⟨by omega, by omega, by omega, ?_, b1, b2⟩, by omega, by omega⟩
  rw [show (((x2 / 4).toNat : Nat) : Int) = x2 / 4 by omega]; exact ⟨a7, a8, a9⟩
theorem serve_bad {M : Mem} {δ : Sl} {n S : Nat} {qv : Nat → Int} (hK : SK M δ n S qv) (hn : SN n S qv) {x : Int} (hx : i32 x) (hbad : ¬ (0 ≤ x ∧ x < (n : Int))) : Wo_serveFirst M δ (zI x) = some (zI (-1), δ) := by
  rw [Wo_serveFirst, c_isSpace hK hn hx, bp_some, bI_if, decide_eq_false hbad, if_neg (by decide)]; rfl
