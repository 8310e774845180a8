/-! ===== the reference: all beneath, a deed goes ===== -/
theorem mt_inner {n S : Nat} {A : Ab} {dep : Nat → Nat} {b d x : Nat} {B : Nat → Int} (hW : WF n S A dep) (hT : MT B A d) (hx : Lv A x) (hbx : bl A d x = true) (k12 : Int32 → Sl → Option (Unit × Sl)) (i : Nat) : ∀ (r a l : List Nat) (m : Nat) (μ : Sl), MB μ b → A.2 x = a ++ r → RW μ l → l.length + r.length ≤ 192 → r.length < m →
    ∃ μ', Mo_tree_31 k12 m (zI (i : Int)) (zI (hd1 r - 1)) (bst μ b B) = k12 (zI ((i + 1 : Nat) : Int)) (bst μ' b B) ∧ RW μ' (l ++ r) ∧ SC μ μ' := by
  intro r
  induction r with
  | nil =>
    intro a l m μ hb he hl h1 h2
    obtain ⟨c, rfl⟩ : ∃ c, m = c + 1 := ⟨m - 1, by omega⟩
    refine ⟨μ, ?_, by simpa using hl, SC_refl μ⟩
    rw [hd1_nil, Mo_tree_31]
    simp (disch := omega) only [zI_lit, zI_lt, if_pos, bnd_ap, zI_add]
    rfl
  | cons y r ih =>
    intro a l m μ hb he hl h1 h2
    obtain ⟨c, rfl⟩ : ∃ c, m = c + 1 := ⟨m - 1, by omega⟩
    have hy := kid_ne hW hx (x := y) (by rw [he]; simp)
    have hnx := (hT x hx hbx).2 a y r he
    have hy192 := hy.1.1
    simp only [List.length_cons] at h1 h2
    obtain ⟨μ1, e1, e2, e3⟩ := m_adds (b := b) (B := B) hl (by omega) y
    have hb1 := SC_MB e3 hb
    obtain ⟨μ2, f1, f2, f3⟩ := ih (a ++ [y]) (l ++ [y]) c μ1 hb1 (by rw [he]; simp) e2 (by simp; omega) (by omega)
    refine ⟨μ2, ?_, by simpa using f2, SC_trans e3 f3⟩
    rw [hd1_cons, show (y : Int) + 1 - 1 = (y : Int) by omega, Mo_tree_31]
    simp (disch := omega) only [zI_lit, zI_lt, if_neg, e1, bd_some, m_next hb1 hy192, bp_some, bnd_ap, hnx]
    exact f1
theorem mt_outer {n S : Nat} {A : Ab} {dep : Nat → Nat} {b d : Nat} {B : Nat → Int} (hW : WF n S A dep) (hT : MT B A d) : ∀ (m k : Nat) (p q : List Nat) (μ : Sl), MB μ b → RW μ (p ++ q) → BI A dep (fun _ => true) d p q → 193 ≤ m + p.length → m ≤ k →
    ∃ μ', Mo_tree_12 k (zI (p.length : Int)) (bst μ b B) = some ((), bst μ' b B) ∧ RW μ' (bfs A (fun _ => true) m p q) ∧ SC μ μ' := by
  have hKW := WF_KW hW
  intro m
  induction m with
  | zero => intro k p q μ hb hl hB hm; have := BI_len hB; omega
  | succ m ih =>
    intro k p q μ hb hl hB hm hk
    obtain ⟨c, rfl⟩ : ∃ c, k = c + 1 := ⟨k - 1, by omega⟩
    have hlen := BI_len hB
    have e28 : bst μ b B 34 28 = zI ((p ++ q).length : Int) := by rw [bst_ne _ _ _ (by decide)]; exact hl.1
    cases q with
    | nil =>
      refine ⟨μ, ?_, by simpa [bfs] using hl, SC_refl μ⟩
      rw [Mo_tree_12]
      simp at e28
      simp (disch := omega) only [e28, zI_le, if_pos]
    | cons x q =>
      obtain ⟨hx, hbx⟩ := hB.2.1 x (by simp)
      have hlx : bst μ b B 46 p.length = zI (x : Int) := by rw [bst_ne _ _ _ (by decide)]; exact hl.2 p.length x (by simp)
      have hst := BI_step hW hB
      have hlen2 := BI_len hst
      have hfx := (hT x hx hbx).1
      have hfl : (A.2 x).filter (fun _ => true) = A.2 x := List.filter_eq_self.mpr (fun _ _ => rfl)
      rw [hfl] at hst hlen2
      simp at hlen hlen2
      obtain ⟨μ1, e1, e2, e3⟩ := mt_inner hW hT hx hbx (Mo_tree_12 c) p.length (A.2 x) [] (p ++ x :: q) FU μ hb (by simp) hl (by simp; omega) (FU_gt (by omega))
      have el : (p ++ x :: q) ++ A.2 x = (p ++ [x]) ++ (q ++ A.2 x) := by simp
      rw [el] at e2
      obtain ⟨μ2, f1, f2, f3⟩ := ih c (p ++ [x]) (q ++ A.2 x) μ1 (SC_MB e3 hb) e2 hst (by simp; omega) (by omega)
      refine ⟨μ2, ?_, by rw [bfs, hfl]; exact f2, SC_trans e3 f3⟩
      rw [Mo_tree_12]
      have hl3 : (p ++ x :: q).length = p.length + q.length + 1 := by simp; omega
      rw [hl3] at e28
      simp (disch := omega) only [e28, zI_le, if_neg, zI_inb, if_pos, zI_ix, Int.toNat_natCast, hlx, m_first hb hx.1, bp_some, bnd_ap, hfx]
      rw [e1, show ((p.length + 1 : Nat) : Int) = ((p ++ [x]).length : Int) by simp, f1]
theorem m_tree {n S : Nat} {A : Ab} {dep : Nat → Nat} {b d : Nat} {B : Nat → Int} {μ : Sl} (hb : MB μ b) (hW : WF n S A dep) (hd : Lv A d) (hT : MT B A d) : ∃ μ', Mo_tree (bst μ b B) (zI (d : Int)) = some ((), bst μ' b B) ∧ RW μ' (tre A d) ∧ SC μ μ' := by
  have hb1 : MB (wr μ 34 28 (zI 0)) b := ⟨by rw [wr_ap, if_neg (by omega)]; exact hb.1, hb.2⟩
  obtain ⟨μ1, e1, e2, e3⟩ := m_adds (μ := wr μ 34 28 (zI 0)) (b := b) (B := B) (l := []) ⟨by rw [wr_ap, if_pos ⟨rfl, rfl⟩]; rfl, fun k x hk => by simp at hk⟩ (by simp) d
  obtain ⟨μ2, f1, f2, f3⟩ := mt_outer (b := b) hW hT 193 FU [] [d] μ1 (SC_MB e3 hb1) e2 (BI_start hW _ hd) (by simp) (by unfold FU; omega)
  refine ⟨μ2, ?_, f2, SC_trans (fun a i h1 h2 h3 => by rw [wr_ap, if_neg (by omega)]) (SC_trans e3 f3)⟩
  simp only [Mo_tree, bnd_ap, zI_lit]
  rw [bst_wr (by decide), e1, bd_some]
  exact f1
theorem tre_len {n S : Nat} {A : Ab} {dep : Nat → Nat} (h : WF n S A dep) {d : Nat} (hd : Lv A d) : (tre A d).Nodup ∧ (tre A d).length ≤ 192 := by
  have hb : BI A dep (fun _ => true) d (tre A d) [] := bfs_end h 193 [] [d] (BI_start h (fun _ => true) hd) (by simp)
  have := BI_len hb
  exact ⟨by simpa using hb.1, by simpa using this⟩
def zB (B : Nat → Int) (l : List Nat) : Nat → Int := fun k => if k ∈ l then 0 else B k
theorem m_zero {μ : Sl} {b : Nat} (hb : MB μ b) {R : List Nat} (hR : RW μ R) (hl : R.length ≤ 192) (hx : ∀ x, x ∈ R → x < 192) : ∀ (m k : Nat) (p q : List Nat) (B : Nat → Int), R = p ++ q → q.length = m → m < k → Mo_goes_12 k (zI (p.length : Int)) (bst μ b (zB B p)) = some ((), bst μ b (zB B R)) := by
  intro m
  have e28 : ∀ B, bst μ b B 34 28 = zI (R.length : Int) := fun B => by rw [bst_ne _ _ _ (by decide)]; exact hR.1
  induction m with
  | zero =>
    intro k p q B he hm hk
    obtain ⟨c, rfl⟩ : ∃ c, k = c + 1 := ⟨k - 1, by omega⟩
    have : q = [] := List.length_eq_zero_iff.mp hm
    subst this
    simp at he
    subst he
    rw [Mo_goes_12]
    simp (disch := omega) only [e28, zI_le, if_pos]
  | succ m ih =>
    intro k p q B he hm hk
    obtain ⟨c, rfl⟩ : ∃ c, k = c + 1 := ⟨k - 1, by omega⟩
    cases q with
    | nil => simp at hm
    | cons x q =>
      simp at hm
      have hlen : R.length = p.length + q.length + 1 := by rw [he]; simp; omega
      have hx192 := hx x (by rw [he]; simp)
      have hlx : bst μ b (zB B p) 46 p.length = zI (x : Int) := by rw [bst_ne _ _ _ (by decide)]; exact hR.2 p.length x (by rw [he]; simp)
      have hz : upB (zB B p) x 0 = zB B (p ++ [x]) := by
        funext k; unfold upB zB
        by_cases q1 : k = x
        · simp [q1]
        · simp [q1]
      have hadd0 : zI 0 + zI (x : Int) = zI (x : Int) := by rw [zI_add]; simp
      rw [Mo_goes_12]
      simp (disch := omega) only [e28, zI_le, if_neg, zI_inb, if_pos, zI_ix, Int.toNat_natCast, hlx, zI_lit, hadd0, m_lay hb, bd_some, bnd_ap, zI_add, hz]
      rw [show (p.length : Int) + 1 = ((p ++ [x]).length : Int) by simp]
      exact ih c (p ++ [x]) q B (by rw [he]; simp) hm (by omega)
theorem mr_go {n S : Nat} {A : Ab} {dep : Nat → Nat} {b d g : Nat} {B : Nat → Int} {μ : Sl} (hb : MB μ b) (hW : WF n S A dep) (hM : MRep B A) (hd : Lv A d) (hg : A.1 3 d = (g : Int) + 1) :
    ∃ μ' B', Mo_goes (bst μ b B) (zI (d : Int)) = some ((), bst μ' b B') ∧ SC μ μ' ∧ MRep B' (aGo A d) ∧ ∀ k, 1920 ≤ k → B' k = B k := by
  have hKW := WF_KW hW
  have hgl := gv_live hW hd hg
  have hg192 := hgl.1.1
  have hd192 := hd.1
  obtain ⟨m1, m2, m3, m4⟩ := hM
  obtain ⟨a, c, hac⟩ := List.append_of_mem hgl.2.1
  obtain ⟨n1, n2⟩ := (m3 g hgl.1).2.2 a d c hac
  have n1' : B (1344 + d) = hd1 c := n1
  have n2' : B (1152 + d) = ls1 a := n2
  have hkg := (hKW.1.1 g hgl.1).2
  have hnd := (hKW.1.1 g hgl.1).1
  rw [hac] at hkg hnd
  have r1 := ls1_rng (V := Lv A) Lv_lt (l := a) (fun x hx => hkg x (by simp [hx]))
  have r2 := hd1_rng (V := Lv A) Lv_lt (l := c) (fun x hx => hkg x (by simp [hx]))
  have hlt := lb_take Lv_lt hKW.1 m3 hgl.1 hac
  obtain ⟨e1, e2, e3, e4, e5⟩ := lnk_take (B := B) (g := g) (p := B (1152 + d)) (n := B (1344 + d)) hg192 (by rw [n2']; exact r1.1) (by rw [n2']; exact r1.2) (by rw [n1']; exact r2.1) (by rw [n1']; exact r2.2)
  have hlk := m_linked hb B (a := B (1152 + d)) (c := B (1344 + d)) (g := (g : Int) + 1) (by rw [n2']; exact r1.1) (by rw [n2']; exact r1.2) (by rw [n1']; exact r2.1) (by rw [n1']; exact r2.2) (by omega) (by omega)
  rw [show (g : Int) + 1 - 1 = (g : Int) by omega] at hlk
  have hgv : B (576 + d) = (g : Int) + 1 := by rw [(m2 d hd).2.2.1, hg]
  generalize hB1 : lnk B (B (1152 + d)) (B (1344 + d)) ((g : Int) + 1) = B1 at *
  have hT : MT B1 A d := fun x hx hbx => by
    have hxg : x ≠ g := fun e => by
      have := bl_dep hW (dep x) x (Nat.le_refl _) hx hbx; subst e; omega
    refine ⟨?_, fun a' y c' e => ?_⟩
    · rw [e1 x hx.1, if_neg (fun z => hxg z.1)]; exact (m3 x hx).1
    · have hy := kid_ne hW hx (x := y) (by rw [e]; simp)
      rw [e3 y hy.1.1, if_neg]
      · exact ((m3 x hx).2.2 a' y c' e).1
      · intro z
        rw [n2'] at z
        have := ls1_in z.symm
        have h3 := hKW.2.2 g y hgl.1 (by rw [hac]; simp [this])
        have := hy.2.1
        omega
  obtain ⟨μ1, t1, t2, t3⟩ := m_tree (B := B1) hb hW hd hT
  have hmem := @tre_mem n S A dep hW d hd
  obtain ⟨hnd2, hlen⟩ := tre_len hW hd
  have hz := m_zero (SC_MB t3 hb) t2 hlen (fun x hx => (hmem.mp hx).1.1) (tre A d).length FU [] (tre A d) B1 rfl rfl (FU_gt (by omega))
  have hz0 : zB B1 [] = B1 := by funext k; simp [zB]
  rw [hz0] at hz
  have zB_hi : ∀ k, 192 ≤ k → zB B1 (tre A d) k = B1 k := fun k hk => by
    unfold zB; rw [if_neg]; intro z; have := (hmem.mp z).1.1; omega
  refine ⟨μ1, zB B1 (tre A d), ?_, t3, ⟨fun x hx => ?_, fun x hx => ?_, fun x hx => ?_, fun x hx h0 => ?_⟩, fun k hk => by rw [zB_hi k (by omega), e5 k (by omega)]⟩
  · have o1 : Mo_of (bst μ b B) (zI (1152 + (d : Int))) = some (zI (B (1152 + d))) := by rw [m_of hb B (by omega) (by omega)]; rfl
    have o2 : Mo_of (bst μ b B) (zI (1344 + (d : Int))) = some (zI (B (1344 + d))) := by rw [m_of hb B (by omega) (by omega)]; rfl
    simp only [Mo_goes, Mo_leaves, zI_lit, zI_add, o1, o2, bp_some, m_giver hb hd192, hgv, zI_sub, bnd_ap]
    rw [show (g : Int) + 1 - 1 = (g : Int) by omega, hlk]
    simp only [bd_some, t1]
    exact hz
  · show (if x ∈ tre A d then 0 else B1 x) = if 0 = 0 ∧ bl A d x = true then 0 else A.1 0 x
    rw [e5 x (by omega), m1 x hx]
    by_cases hl : Lv A x
    · have : x ∈ tre A d ↔ bl A d x = true := ⟨fun z => (hmem.mp z).2, fun z => hmem.mpr ⟨hl, z⟩⟩
      simp only [this, true_and]
    · have h0 : A.1 0 x = 0 := by
        have := hW.2.2.2.2.2.2.2 x hx
        have : ¬ 0 < A.1 0 x := fun z => hl ⟨hx, z⟩
        omega
      rw [h0]; simp
  · have hx1 := (aGo_lv.mp hx).1
    have hx192 := hx1.1
    rw [zB_hi _ (by omega), zB_hi _ (by omega), zB_hi _ (by omega), zB_hi _ (by omega), zB_hi _ (by omega), e5 _ (by omega), e5 _ (by omega), e5 _ (by omega), e5 _ (by omega), e5 _ (by omega), aGo_j (by decide), aGo_j (by decide), aGo_j (by decide), aGo_j (by decide), aGo_j (by decide)]
    exact m2 x hx1
  · have hx1 := (aGo_lv.mp hx).1
    have hK : (aGo A d).2 x = upK A.2 g (a ++ c) x := by
      show (if A.1 3 d = (x : Int) + 1 then (A.2 x).filter (fun y => decide (y ≠ d)) else A.2 x) = _
      by_cases q : x = g
      · subst q; rw [if_pos hg, upK_at, hac]; exact filt_split hnd
      · rw [if_neg (by omega), upK_ne _ _ q]
    rw [hK]
    obtain ⟨f1, f2, f3⟩ := hlt x hx1
    have hx192 := hx1.1
    refine ⟨by dsimp only; rw [zB_hi _ (by omega)]; exact f1, by dsimp only; rw [zB_hi _ (by omega)]; exact f2, fun l1 y l2 e => ?_⟩
    dsimp only
    rw [zB_hi _ (by omega), zB_hi _ (by omega)]; exact f3 l1 y l2 e
  · have hx1 := (aGo_lv.mp hx).1
    have hx192 := hx1.1
    rw [aGo_j (by decide)] at h0
    rw [zB_hi _ (by omega), zB_hi _ (by omega), e3 x hx192, e4 x hx192]
    have hnx := root_not hKW h0 g hgl.1
    rw [if_neg, if_neg]
    · exact m4 x hx1 h0
    · intro z; rw [n1'] at z; have := hd1_mem z.symm; exact hnx (by rw [hac]; simp [this])
    · intro z; rw [n2'] at z; have := ls1_in z.symm; exact hnx (by rw [hac]; simp [this])
