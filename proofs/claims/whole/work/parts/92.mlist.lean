/-! ===== the reference lists what lies beneath a top ===== -/
theorem MR_low {n S : Nat} {A : Ab} {dep : Nat → Nat} {B B' : Nat → Int} (h : WF n S A dep) (hM : MRep B A) (e : ∀ k, k < 1920 → B' k = B k) : MRep B' A := by
  obtain ⟨h1, h2, h3, h4⟩ := hM
  refine ⟨fun d hd => by rw [e d (by omega)]; exact h1 d hd, fun d hd => ?_, fun g hg => ?_, fun d hd h0 => ?_⟩
  · have := hd.1
    rw [e _ (by omega), e _ (by omega), e _ (by omega), e _ (by omega), e _ (by omega)]; exact h2 d hd
  · have := hg.1
    obtain ⟨c1, c2, c3⟩ := h3 g hg
    refine ⟨by dsimp only; rw [e _ (by omega)]; exact c1, by dsimp only; rw [e _ (by omega)]; exact c2, fun l1 y l2 hl => ?_⟩
    have hy := (kid_ne h hg (x := y) (by rw [hl]; simp)).1.1
    dsimp only
    rw [e _ (by omega), e _ (by omega)]; exact c3 l1 y l2 hl
  · have := hd.1
    rw [e _ (by omega), e _ (by omega)]; exact h4 d hd h0
theorem MR_F {B : Nat → Int} {A : Ab} (hM : MRep B A) {x : Nat} (hx : Lv A x) : B (768 + x) = hd1 (A.2 x) := (hM.2.2.1 x hx).1
theorem MR_N {B : Nat → Int} {A : Ab} (hM : MRep B A) {x : Nat} (hx : Lv A x) {l r : List Nat} {y : Nat} (e : A.2 x = l ++ y :: r) : B (1344 + y) = hd1 r := ((hM.2.2.1 x hx).2.2 l y r e).1
def LI (Q : Nat → Prop) (A : Ab) (a : Nat) (B0 B : Nat → Int) (acc : List Nat) : Prop := PS B a acc ∧ (∀ y, y ∈ acc → Q y) ∧ acc.Nodup ∧ MRep B A ∧ ∀ k, k < 1980 + a ∨ 2172 ≤ k → B k = B0 k
def LQ (Q : Nat → Prop) (a : Nat) : Prop := (∀ y, Q y → y < 192) ∧ ∀ l : List Nat, l.Nodup → (∀ y, y ∈ l → Q y) → a + l.length ≤ 192
theorem LI_step {n S : Nat} {A : Ab} {dep : Nat → Nat} {Q : Nat → Prop} {a : Nat} {B0 B : Nat → Int} {acc : List Nat} {μ : Sl} {b : Nat} (hb : MB μ b) (h : WF n S A dep) (hq : LQ Q a) (hI : LI Q A a B0 B acc) {x : Nat} (hx : Q x) :
    ∃ B', Mo_lists (bst μ b B) (zI (x : Int)) (zI (a : Int)) (zI ((a + acc.length : Nat) : Int)) = some (zI ((a + (adl acc x).length : Nat) : Int), bst μ b B') ∧ LI Q A a B0 B' (adl acc x) := by
  obtain ⟨i1, i2, i3, i4, i5⟩ := hI
  have hc := hq.2 acc i3 i2
  have hQ' : ∀ y, y ∈ adl acc x → Q y := fun y hy => by
    rcases adl_mem.mp hy with c | c
    · exact i2 y c
    · rw [c]; exact hx
  obtain ⟨B', e1, e2, e3⟩ := m_list1 hb i1 (fun y hy => hq.1 y (i2 y hy)) (hq.1 x hx) hc (fun hn => by
    have := hq.2 (adl acc x) (adl_nodup i3 x) hQ'
    unfold adl at this
    rw [if_neg hn] at this
    simp at this; omega)
  refine ⟨B', e1, e2, hQ', adl_nodup i3 x, MR_low h i4 (fun k hk => e3 k (by omega)), fun k hk => ?_⟩
  rw [e3 k (by omega), i5 k hk]
def AF (k top : Nat) (v2 : Int32) (a : Nat) (v5 : Int32) (x : Nat) (s : Sl) : Option (Int32 × Sl) :=
  bp (Mo_nextOf s (zI (x : Int))) fun r8 => if r8 < 0 then Mo_listsTop_69 (Mo_listsTop_10 k) (zI (top : Int)) v2 (zI (a : Int)) v5 (zI (x : Int)) (0 : Int32) s else Mo_listsTop_69 (Mo_listsTop_10 k) (zI (top : Int)) v2 (zI (a : Int)) v5 (zI (x : Int)) (1 : Int32) s
theorem m_at {n S : Nat} {A : Ab} {dep : Nat → Nat} {Q : Nat → Prop} {a top : Nat} {v2 : Int32} {B0 B : Nat → Int} {acc : List Nat} {μ : Sl} {b : Nat} (hb : MB μ b) (h : WF n S A dep) (hq : LQ Q a) (hI : LI Q A a B0 B acc) {x : Nat} (hx : Q x) (ht : top < 192) (hne : x ≠ top) (k : Nat) :
    ∃ B', Mo_listsTop_35 (Mo_listsTop_10 k) (zI (top : Int)) v2 (zI (a : Int)) (zI ((a + acc.length : Nat) : Int)) (zI (x : Int)) (bst μ b B) = AF k top v2 a (zI ((a + (adl acc x).length : Nat) : Int)) x (bst μ b B') ∧ LI Q A a B0 B' (adl acc x) := by
  have hx2 := hq.1 x hx
  obtain ⟨B', e1, e2⟩ := LI_step hb h hq hI hx
  refine ⟨B', ?_, e2⟩
  unfold Mo_listsTop_35 AF
  rw [if_neg (by rw [zI_eq (by omega) (by omega) (by omega) (by omega)]; omega), e1, bd_some, bnd_ap]
theorem m_sub {n S : Nat} {A : Ab} {dep : Nat → Nat} {Q : Nat → Prop} {a top : Nat} {v2 : Int32} {B0 : Nat → Int} {μ : Sl} {b : Nat} (hb : MB μ b) (h : WF n S A dep) (hq : LQ Q a) (ht : top < 192) : ∀ (m x k : Nat) (acc : List Nat) (B : Nat → Int), Lv A x → dep x + m = 191 → (∀ y, y ∈ pst A m x → Q y ∧ y ≠ top) → 2 * (pst A m x).length < k → LI Q A a B0 B acc →
    ∃ k' B', k ≤ k' + 2 * (pst A m x).length ∧ Mo_listsTop_10 k (zI (top : Int)) v2 (zI (a : Int)) (zI ((a + acc.length : Nat) : Int)) (zI (x : Int)) (zI 1) (bst μ b B) = AF k' top v2 a (zI ((a + ((pst A m x).foldl adl acc).length : Nat) : Int)) x (bst μ b B') ∧ LI Q A a B0 B' ((pst A m x).foldl adl acc) := by
  intro m
  induction m with
  | zero =>
    intro x k acc B hx hd hQ hk hI
    obtain ⟨c, rfl⟩ : ∃ c, k = c + 1 := ⟨k - 1, by omega⟩
    have hx1 := hx.1
    have hnil : A.2 x = [] := by
      cases hl : A.2 x with
      | nil => rfl
      | cons y l =>
        have := kid_ne h hx (x := y) (by rw [hl]; simp)
        have := dep_lt h this.1
        omega
    have hf := m_first hb (B := B) hx1
    rw [MR_F hI.2.2.2.1 hx, hnil] at hf
    obtain ⟨q1, q2⟩ := hQ x (by simp [pst])
    obtain ⟨B', e1, e2⟩ := m_at (v2 := v2) hb h hq hI q1 ht q2 c
    refine ⟨c, B', by simp [pst], ?_, e2⟩
    rw [Mo_listsTop_10, if_neg (by decide), hf, bp_some, if_pos (by decide), e1]
    rfl
  | succ m ih =>
    intro x k acc B hx hd hQ hk hI
    have hx1 := hx.1
    obtain ⟨q1, q2⟩ := hQ x (by simp [pst])
    have key : ∀ (r l : List Nat) (y k : Nat) (acc : List Nat) (B : Nat → Int), A.2 x = l ++ y :: r → 2 * (r.flatMap (pst A m)).length + 1 < k → LI Q A a B0 B acc →
        ∃ k' B', k ≤ k' + 2 * (r.flatMap (pst A m)).length + 1 ∧ AF k top v2 a (zI ((a + acc.length : Nat) : Int)) y (bst μ b B) = AF k' top v2 a (zI ((a + ((r.flatMap (pst A m) ++ [x]).foldl adl acc).length : Nat) : Int)) x (bst μ b B') ∧ LI Q A a B0 B' ((r.flatMap (pst A m) ++ [x]).foldl adl acc) := by
      intro r
      induction r with
      | nil =>
        intro l y k acc B hl hk hI
        obtain ⟨c, rfl⟩ : ∃ c, k = c + 1 := ⟨k - 1, by omega⟩
        have hyk := kid_ne h hx (x := y) (by rw [hl]; simp)
        have hy1 := hyk.1.1
        have hnx := m_next hb (B := B) hy1
        rw [MR_N hI.2.2.2.1 hx hl] at hnx
        have hgv := m_giver hb (B := B) hy1
        rw [(hI.2.2.2.1.2.1 y hyk.1).2.2.1, hyk.2.1, show (x : Int) + 1 - 1 = (x : Int) by omega] at hgv
        obtain ⟨B', e1, e2⟩ := m_at (v2 := v2) hb h hq hI q1 ht q2 c
        refine ⟨c, B', by simp, ?_, e2⟩
        rw [AF, hnx, bp_some, if_pos (by decide), Mo_listsTop_69, bnd_ap, if_pos rfl, hgv, bp_some, Mo_listsTop_91, bnd_ap, Mo_listsTop_10, if_pos rfl, e1]
        rfl
      | cons z r ihr =>
        intro l y k acc B hl hk hI
        have hyk := kid_ne h hx (x := y) (by rw [hl]; simp)
        have hy1 := hyk.1.1
        have hzk := kid_ne h hx (x := z) (by rw [hl]; simp)
        have hz1 := hzk.1.1
        have hnx := m_next hb (B := B) hy1
        rw [MR_N hI.2.2.2.1 hx hl] at hnx
        have hnx' : Mo_nextOf (bst μ b B) (zI (y : Int)) = some (zI (z : Int)) := by rw [hnx]; show some (zI ((z : Int) + 1 - 1)) = _; rw [show (z : Int) + 1 - 1 = (z : Int) by omega]
        simp only [List.flatMap_cons, List.length_append] at hk
        obtain ⟨k1, B1, a1, a2, a3⟩ := ih z k acc B hzk.1 (by omega) (fun w hw => hQ w (by rw [pst, hl]; simp only [List.mem_append, List.mem_flatMap]; exact .inl ⟨z, by simp, hw⟩)) (by omega) hI
        obtain ⟨k2, B2, b1, b2, b3⟩ := ihr (l ++ [y]) z k1 _ B1 (by rw [hl]; simp) (by omega) a3
        refine ⟨k2, B2, by simp only [List.flatMap_cons, List.length_append]; omega, ?_, by simp only [List.flatMap_cons, List.append_assoc, List.foldl_append] at b3 ⊢; exact b3⟩
        rw [AF, hnx', bp_some, if_neg (by rw [zI_lit, zI_lt (by omega) (by omega) (by omega) (by omega)]; omega), Mo_listsTop_69, bnd_ap, if_neg (by decide), hnx', bp_some, Mo_listsTop_91, bnd_ap]
        have a2' : Mo_listsTop_10 k (zI (top : Int)) v2 (zI (a : Int)) (zI ((a + acc.length : Nat) : Int)) (zI (z : Int)) 1 (bst μ b B) = _ := a2
        rw [a2', b2]
        simp only [List.flatMap_cons, List.append_assoc, List.foldl_append]
    obtain ⟨c, rfl⟩ : ∃ c, k = c + 1 := ⟨k - 1, by omega⟩
    have hf := m_first hb (B := B) hx1
    rw [MR_F hI.2.2.2.1 hx] at hf
    cases hl : A.2 x with
    | nil =>
      rw [hl] at hf
      have hp : pst A (m + 1) x = [x] := by rw [pst, hl]; rfl
      rw [hp] at hk ⊢
      obtain ⟨B', e1, e2⟩ := m_at (v2 := v2) hb h hq hI q1 ht q2 c
      refine ⟨c, B', by simp, ?_, e2⟩
      rw [Mo_listsTop_10, if_neg (by decide), hf, bp_some, if_pos (by decide), e1]
      rfl
    | cons y r =>
      rw [hl] at hf
      have hyk := kid_ne h hx (x := y) (by rw [hl]; simp)
      have hy1 := hyk.1.1
      have hf' : Mo_firstOf (bst μ b B) (zI (x : Int)) = some (zI (y : Int)) := by rw [hf]; show some (zI ((y : Int) + 1 - 1)) = _; rw [show (y : Int) + 1 - 1 = (y : Int) by omega]
      have hp : pst A (m + 1) x = pst A m y ++ (r.flatMap (pst A m) ++ [x]) := by rw [pst, hl]; simp
      have hkl : (pst A (m + 1) x).length = (pst A m y).length + (r.flatMap (pst A m)).length + 1 := by rw [hp]; simp; omega
      obtain ⟨k1, B1, a1, a2, a3⟩ := ih y c acc B hyk.1 (by omega) (fun w hw => hQ w (by rw [hp]; simp [hw])) (by omega) hI
      obtain ⟨k2, B2, b1, b2, b3⟩ := key r [] y k1 _ B1 (by rw [hl]; rfl) (by omega) a3
      refine ⟨k2, B2, by omega, ?_, by rw [hp, List.foldl_append]; exact b3⟩
      rw [Mo_listsTop_10, if_neg (by decide), hf', bp_some, if_neg (by rw [zI_lit, zI_lt (by omega) (by omega) (by omega) (by omega)]; omega), bp_some, bnd_ap, a2, b2, hp]
      simp only [List.foldl_append]
