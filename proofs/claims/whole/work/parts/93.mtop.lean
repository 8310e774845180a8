/-! ===== the reference lists a top ===== -/
def fT (A : Ab) (m : Nat) (v2 : Int32) (x : Nat) (acc : List Nat) : List Nat := if v2 = 0 then ((A.2 x).flatMap (pst A m)).foldl adl acc else adl (((A.2 x).flatMap (pst A m)).foldl adl acc) x
theorem m_end {n S : Nat} {A : Ab} {dep : Nat → Nat} {Q : Nat → Prop} {a top : Nat} {v2 : Int32} {B0 B : Nat → Int} {acc : List Nat} {μ : Sl} {b : Nat} (hb : MB μ b) (h : WF n S A dep) (hq : LQ Q a) (hI : LI Q A a B0 B acc) (hx : v2 ≠ 0 → Q top) (K : Int32 → Int32 → Int32 → Int32 → Int32 → Int32 → Sl → Option (Int32 × Sl)) :
    ∃ B', Mo_listsTop_35 K (zI (top : Int)) v2 (zI (a : Int)) (zI ((a + acc.length : Nat) : Int)) (zI (top : Int)) (bst μ b B) = some (zI ((a + (if v2 = 0 then acc else adl acc top).length : Nat) : Int), bst μ b B') ∧ LI Q A a B0 B' (if v2 = 0 then acc else adl acc top) := by
  unfold Mo_listsTop_35
  rw [if_pos rfl]
  by_cases c : v2 = 0
  · rw [if_pos c, if_pos c]
    exact ⟨B, rfl, hI⟩
  · obtain ⟨B', e1, e2⟩ := LI_step hb h hq hI (hx c)
    rw [if_neg c, if_neg c, e1, bd_some]
    exact ⟨B', rfl, e2⟩
theorem m_tkids {n S : Nat} {A : Ab} {dep : Nat → Nat} {Q : Nat → Prop} {a x m : Nat} {v2 : Int32} {B0 : Nat → Int} {μ : Sl} {b : Nat} (hb : MB μ b) (h : WF n S A dep) (hq : LQ Q a) (hx : Lv A x) (hd : dep x + (m + 1) = 191) (hQ : ∀ w, w ∈ (A.2 x).flatMap (pst A m) → Q w ∧ w ≠ x) (hQx : v2 ≠ 0 → Q x) : ∀ (r l : List Nat) (y k : Nat) (acc : List Nat) (B : Nat → Int), A.2 x = l ++ y :: r → 2 * (r.flatMap (pst A m)).length + 1 < k → LI Q A a B0 B acc →
    ∃ B', AF k x v2 a (zI ((a + acc.length : Nat) : Int)) y (bst μ b B) = some (zI ((a + (if v2 = 0 then (r.flatMap (pst A m)).foldl adl acc else adl ((r.flatMap (pst A m)).foldl adl acc) x).length : Nat) : Int), bst μ b B') ∧ LI Q A a B0 B' (if v2 = 0 then (r.flatMap (pst A m)).foldl adl acc else adl ((r.flatMap (pst A m)).foldl adl acc) x) := by
  have hx1 := hx.1
  intro r
  induction r with
  | nil =>
    intro l y k acc B hl hk hI
    obtain ⟨c, rfl⟩ : ∃ c, k = c + 1 := ⟨k - 1, by omega⟩
    have hyk := kid_ne h hx (x := y) (by rw [hl]; simp)
    have hy1 := hyk.1.1
    have hnx := m_next hb (B := B) hy1
    rw [MR_N hI.2.2.2.1 hx hl] at hnx
    have hgv := m_giver hb (B := B) hy1
    rw [(hI.2.2.2.1.2.1 y hyk.1).2.2.1, hyk.2.1, show (x : Int) + 1 - 1 = (x : Int) by omega] at hgv
    obtain ⟨B', e1, e2⟩ := m_end hb h hq hI hQx (Mo_listsTop_10 c)
    refine ⟨B', ?_, e2⟩
    rw [AF, hnx, bp_some, if_pos (by decide), Mo_listsTop_69, bnd_ap, if_pos rfl, hgv, bp_some, Mo_listsTop_91, bnd_ap, Mo_listsTop_10, if_pos rfl, e1]
    rfl
  | cons z r ihr =>
    intro l y k acc B hl hk hI
    have hyk := kid_ne h hx (x := y) (by rw [hl]; simp)
    have hy1 := hyk.1.1
    have hzk := kid_ne h hx (x := z) (by rw [hl]; simp)
    have hz1 := hzk.1.1
    have hnx := m_next hb (B := B) hy1
    rw [MR_N hI.2.2.2.1 hx hl] at hnx
    have hnx' : Mo_nextOf (bst μ b B) (zI (y : Int)) = some (zI (z : Int)) := by rw [hnx]; show some (zI ((z : Int) + 1 - 1)) = _; rw [show (z : Int) + 1 - 1 = (z : Int) by omega]
    simp only [List.flatMap_cons, List.length_append] at hk
    obtain ⟨k1, B1, a1, a2, a3⟩ := m_sub (v2 := v2) hb h hq hx1 m z k acc B hzk.1 (by omega) (fun w hw => hQ w (by rw [hl]; simp only [List.mem_flatMap]; exact ⟨z, by simp, hw⟩)) (by omega) hI
    obtain ⟨B2, b2, b3⟩ := ihr (l ++ [y]) z k1 _ B1 (by rw [hl]; simp) (by omega) a3
    simp only [List.flatMap_cons, List.foldl_append]
    refine ⟨B2, ?_, b3⟩
    rw [AF, hnx', bp_some, if_neg (by rw [zI_lit, zI_lt (by omega) (by omega) (by omega) (by omega)]; omega), Mo_listsTop_69, bnd_ap, if_neg (by decide), hnx', bp_some, Mo_listsTop_91, bnd_ap]
    have a2' : Mo_listsTop_10 k (zI (x : Int)) v2 (zI (a : Int)) (zI ((a + acc.length : Nat) : Int)) (zI (z : Int)) 1 (bst μ b B) = _ := a2
    rw [a2', b2]
theorem m_top {n S : Nat} {A : Ab} {dep : Nat → Nat} {Q : Nat → Prop} {a x m : Nat} {v2 : Int32} {B0 B : Nat → Int} {acc : List Nat} {μ : Sl} {b : Nat} (hb : MB μ b) (h : WF n S A dep) (hq : LQ Q a) (hx : Lv A x) (hd : dep x + (m + 1) = 191) (hQ : ∀ w, w ∈ (A.2 x).flatMap (pst A m) → Q w ∧ w ≠ x) (hQx : v2 ≠ 0 → Q x) (hlen : ((A.2 x).flatMap (pst A m)).length ≤ 192) (hI : LI Q A a B0 B acc) :
    ∃ B', Mo_listsTop (bst μ b B) (zI (x : Int)) v2 (zI (a : Int)) (zI ((a + acc.length : Nat) : Int)) = some (zI ((a + (fT A m v2 x acc).length : Nat) : Int), bst μ b B') ∧ LI Q A a B0 B' (fT A m v2 x acc) := by
  have hx1 := hx.1
  have key : ∀ k, 1000 < k → ∃ B', Mo_listsTop_10 k (zI (x : Int)) v2 (zI (a : Int)) (zI ((a + acc.length : Nat) : Int)) (zI (x : Int)) 1 (bst μ b B) = some (zI ((a + (fT A m v2 x acc).length : Nat) : Int), bst μ b B') ∧ LI Q A a B0 B' (fT A m v2 x acc) := by
    intro k hk
    obtain ⟨c, rfl⟩ : ∃ c, k = c + 1 := ⟨k - 1, by omega⟩
    have hf := m_first hb (B := B) hx1
    rw [MR_F hI.2.2.2.1 hx] at hf
    unfold fT
    cases hl : A.2 x with
    | nil =>
      rw [hl] at hf
      obtain ⟨B', e1, e2⟩ := m_end hb h hq hI hQx (Mo_listsTop_10 c)
      refine ⟨B', ?_, e2⟩
      rw [Mo_listsTop_10, if_neg (by decide), hf, bp_some, if_pos (by decide), e1]
      rfl
    | cons y r =>
      rw [hl] at hf
      have hyk := kid_ne h hx (x := y) (by rw [hl]; simp)
      have hy1 := hyk.1.1
      have hf' : Mo_firstOf (bst μ b B) (zI (x : Int)) = some (zI (y : Int)) := by rw [hf]; show some (zI ((y : Int) + 1 - 1)) = _; rw [show (y : Int) + 1 - 1 = (y : Int) by omega]
      have hln : (pst A m y).length + (r.flatMap (pst A m)).length ≤ 192 := by rw [hl] at hlen; simpa using hlen
      obtain ⟨k1, B1, a1, a2, a3⟩ := m_sub (v2 := v2) hb h hq hx1 m y c acc B hyk.1 (by omega) (fun w hw => hQ w (by rw [hl]; simp only [List.mem_flatMap]; exact ⟨y, by simp, hw⟩)) (by omega) hI
      obtain ⟨B2, b2, b3⟩ := m_tkids (v2 := v2) hb h hq hx hd hQ hQx r [] y k1 _ B1 (by rw [hl]; rfl) (by omega) a3
      simp only [List.flatMap_cons, List.foldl_append]
      refine ⟨B2, ?_, b3⟩
      rw [Mo_listsTop_10, if_neg (by decide), hf', bp_some, if_neg (by rw [zI_lit, zI_lt (by omega) (by omega) (by omega) (by omega)]; omega), bp_some, bnd_ap]
      have a2' : Mo_listsTop_10 c (zI (x : Int)) v2 (zI (a : Int)) (zI ((a + acc.length : Nat) : Int)) (zI (y : Int)) 1 (bst μ b B) = _ := a2
      rw [a2', b2]
  exact key FU (FU_gt (by omega))
