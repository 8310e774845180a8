/-! ===== the reference: those beneath, splitting, cutting ===== -/
def SC (μ μ' : Sl) : Prop := ∀ a i, a ≠ 46 → a ≠ 47 → ¬ (a = 34 ∧ (i = 28 ∨ i = 30)) → μ' a i = μ a i
theorem SC_refl (μ : Sl) : SC μ μ := fun _ _ _ _ _ => rfl
theorem SC_trans {μ1 μ2 μ3 : Sl} (h1 : SC μ1 μ2) (h2 : SC μ2 μ3) : SC μ1 μ3 := fun a i h3 h4 h5 => by rw [h2 a i h3 h4 h5, h1 a i h3 h4 h5]
theorem SC_MB {μ μ' : Sl} {b : Nat} (h : SC μ μ') (hb : MB μ b) : MB μ' b := ⟨by rw [h 34 25 (by decide) (by decide) (by omega)]; exact hb.1, hb.2⟩
def RW (μ : Sl) (l : List Nat) : Prop := μ 34 28 = zI (l.length : Int) ∧ ∀ (k x : Nat), l[k]? = some x → μ 46 k = zI (x : Int)
theorem m_adds {μ : Sl} {b : Nat} {B : Nat → Int} {l : List Nat} (h : RW μ l) (hl : l.length < 192) (x : Nat) : ∃ μ', Mo_adds (bst μ b B) (zI (x : Int)) = some ((), bst μ' b B) ∧ RW μ' (l ++ [x]) ∧ SC μ μ' := by
  refine ⟨wr (wr μ 46 l.length (zI (x : Int))) 34 28 (zI ((l.length : Int) + 1)), ?_, ⟨?_, fun k y hk => ?_⟩, fun a i h1 h2 h3 => ?_⟩
  · have e : bst μ b B 34 28 = zI (l.length : Int) := by rw [bst_ne _ _ _ (by decide)]; exact h.1
    simp (disch := omega) only [Mo_adds, e, zI_inb, if_pos, zI_ix, Int.toNat_natCast, bnd_ap, wr_ap, zI_lit, zI_add, if_neg]
    rw [bst_wr (by decide), bst_wr (by decide)]
  · rw [wr_ap, if_pos ⟨rfl, rfl⟩]; simp
  · rw [wr_ap, if_neg (by omega), wr_ap]
    by_cases q : k = l.length
    · subst q; simp at hk; subst hk; simp
    · rw [if_neg (fun z => q z.2)]
      refine h.2 k y ?_
      rw [List.getElem?_append_left] at hk
      · exact hk
      · have := (List.getElem?_eq_some_iff.mp hk).1; simp at this; omega
  · rw [wr_ap, if_neg (by omega), wr_ap, if_neg (by omega)]
def MT (B : Nat → Int) (A : Ab) (d : Nat) : Prop := ∀ x, Lv A x → bl A d x = true → B (768 + x) = hd1 (A.2 x) ∧ ∀ a h c, A.2 x = a ++ h :: c → B (1344 + h) = hd1 c
theorem MR_MT {B : Nat → Int} {A : Ab} (h : MRep B A) (d : Nat) : MT B A d := fun x hx _ => ⟨(h.2.2.1 x hx).1, fun a y c e => ((h.2.2.1 x hx).2.2 a y c e).1⟩
theorem m_first {μ : Sl} {b : Nat} (hb : MB μ b) {B : Nat → Int} {x : Nat} (hx : x < 192) : Mo_firstOf (bst μ b B) (zI (x : Int)) = some (zI (B (768 + x) - 1)) := by
  simp only [Mo_firstOf, zI_lit, zI_add]
  rw [m_of hb B (by omega) (by omega), bp_some, zI_sub]; rfl
theorem m_next {μ : Sl} {b : Nat} (hb : MB μ b) {B : Nat → Int} {x : Nat} (hx : x < 192) : Mo_nextOf (bst μ b B) (zI (x : Int)) = some (zI (B (1344 + x) - 1)) := by
  simp only [Mo_nextOf, zI_lit, zI_add]
  rw [m_of hb B (by omega) (by omega), bp_some, zI_sub]; rfl
theorem m_giver {μ : Sl} {b : Nat} (hb : MB μ b) {B : Nat → Int} {x : Nat} (hx : x < 192) : Mo_giverOf (bst μ b B) (zI (x : Int)) = some (zI (B (576 + x) - 1)) := by
  simp only [Mo_giverOf, zI_lit, zI_add]
  rw [m_of hb B (by omega) (by omega), bp_some, zI_sub]; rfl
theorem m_of0 {μ : Sl} {b : Nat} (hb : MB μ b) {B : Nat → Int} {x : Nat} (hx : x < 192) : Mo_of (bst μ b B) ((0 : Int32) + zI (x : Int)) = some (zI (B x)) := by
  rw [zI_lit, zI_add, m_of hb B (by omega) (by omega)]; congr 3; omega
theorem ms_inner {n S : Nat} {A : Ab} {dep : Nat → Nat} {b d x : Nat} {B : Nat → Int} (hW : WF n S A dep) (hT : MT B A d) (hB0 : ∀ y, Lv A y → B y = A.1 0 y) (hx : Lv A x) (hbx : bl A d x = true) (o : Int) (ho1 : 0 < o) (ho2 : o ≤ 4) (k20 : Int32 → Int32 → Sl → Option (Unit × Sl)) (i : Nat) : ∀ (r a l : List Nat) (m : Nat) (μ : Sl), MB μ b → A.2 x = a ++ r → RW μ l → l.length + (r.filter (fun h => decide (A.1 0 h = o))).length ≤ 192 → r.length < m →
    ∃ μ', Mo_splits_40 k20 m (zI o) (zI (i : Int)) (zI (hd1 r - 1)) (bst μ b B) = k20 (zI o) (zI ((i + 1 : Nat) : Int)) (bst μ' b B) ∧ RW μ' (l ++ r.filter (fun h => decide (A.1 0 h = o))) ∧ SC μ μ' := by
  intro r
  induction r with
  | nil =>
    intro a l m μ hb he hl h1 h2
    obtain ⟨c, rfl⟩ : ∃ c, m = c + 1 := ⟨m - 1, by omega⟩
    refine ⟨μ, ?_, by simpa using hl, SC_refl μ⟩
    rw [hd1_nil, Mo_splits_40]
    simp (disch := omega) only [zI_lit, zI_lt, if_pos, bnd_ap, zI_add]
    rfl
  | cons y r ih =>
    intro a l m μ hb he hl h1 h2
    obtain ⟨c, rfl⟩ : ∃ c, m = c + 1 := ⟨m - 1, by omega⟩
    have hy := kid_ne hW hx (x := y) (by rw [he]; simp)
    have hyo := (hW.2.2.2.1 y hy.1).1
    have hyo2 := hy.1.2
    have hnx := (hT x hx hbx).2 a y r he
    have hy192 := hy.1.1
    have h2' : r.length < c := by simp at h2; omega
    rw [hd1_cons, show (y : Int) + 1 - 1 = (y : Int) by omega, Mo_splits_40]
    by_cases q : A.1 0 y = o
    · have h1' : l.length + 1 + (r.filter (fun h => decide (A.1 0 h = o))).length ≤ 192 := by
        simp [List.filter_cons, q] at h1; omega
      obtain ⟨μ1, e1, e2, e3⟩ := m_adds (b := b) (B := B) hl (by omega) y
      have hb1 := SC_MB e3 hb
      obtain ⟨μ2, f1, f2, f3⟩ := ih (a ++ [y]) (l ++ [y]) c μ1 hb1 (by rw [he]; simp) e2 (by simp; omega) h2'
      refine ⟨μ2, ?_, by simpa [List.filter_cons, q] using f2, SC_trans e3 f3⟩
      rw [m_of0 hb hy192, bp_some, hB0 y hy.1, q]
      simp (disch := omega) only [zI_lit, zI_lt, if_neg, if_true, e1, bd_some, Mo_splits_63, m_next hb1 hy192, bp_some, bnd_ap, hnx]
      exact f1
    · have h1' : l.length + (r.filter (fun h => decide (A.1 0 h = o))).length ≤ 192 := by
        simp [List.filter_cons, q] at h1; omega
      obtain ⟨μ2, f1, f2, f3⟩ := ih (a ++ [y]) l c μ hb (by rw [he]; simp) hl h1' h2'
      refine ⟨μ2, ?_, by simpa [List.filter_cons, q] using f2, f3⟩
      rw [m_of0 hb hy192, bp_some, hB0 y hy.1]
      simp (disch := omega) only [zI_lit, zI_lt, zI_eq, if_neg, Mo_splits_63, m_next hb hy192, bp_some, bnd_ap, hnx]
      exact f1
theorem ms_outer {n S : Nat} {A : Ab} {dep : Nat → Nat} {b d : Nat} {B : Nat → Int} (hW : WF n S A dep) (hd : Lv A d) (hT : MT B A d) (hB0 : ∀ y, Lv A y → B y = A.1 0 y) : ∀ (m k : Nat) (p q : List Nat) (μ : Sl), MB μ b → RW μ (p ++ q) → BI A dep (fun h => decide (A.1 0 h = A.1 0 d)) d p q → 193 ≤ m + p.length → m ≤ k →
    ∃ μ', Mo_splits_20 k (zI (A.1 0 d)) (zI (p.length : Int)) (bst μ b B) = Mo_splits_90 FU (zI (((bfs A (fun h => decide (A.1 0 h = A.1 0 d)) m p q).length : Int) - 1)) (bst μ' b B) ∧ RW μ' (bfs A (fun h => decide (A.1 0 h = A.1 0 d)) m p q) ∧ SC μ μ' := by
  have hKW := WF_KW hW
  have hdo := (hW.2.2.2.1 d hd).1
  have hdo2 := hd.2
  intro m
  induction m with
  | zero => intro k p q μ hb hl hB hm; have := BI_len hB; omega
  | succ m ih =>
    intro k p q μ hb hl hB hm hk
    obtain ⟨c, rfl⟩ : ∃ c, k = c + 1 := ⟨k - 1, by omega⟩
    have hlen := BI_len hB
    have e28 : bst μ b B 34 28 = zI ((p ++ q).length : Int) := by rw [bst_ne _ _ _ (by decide)]; exact hl.1
    cases q with
    | nil =>
      refine ⟨μ, ?_, by simpa [bfs] using hl, SC_refl μ⟩
      rw [Mo_splits_20]
      simp at e28
      simp (disch := omega) only [e28, zI_le, if_pos, bfs, bnd_ap, zI_lit, zI_sub]
    | cons x q =>
      obtain ⟨hx, hbx⟩ := hB.2.1 x (by simp)
      have hlx : bst μ b B 46 p.length = zI (x : Int) := by rw [bst_ne _ _ _ (by decide)]; exact hl.2 p.length x (by simp)
      have hst := BI_step hW hB
      have hlen2 := BI_len hst
      have hkl := len192 (hKW.1.1 x hx).1 (fun y hy => ((hKW.1.1 x hx).2 y hy).1)
      have hfx := (hT x hx hbx).1
      simp at hlen hlen2
      obtain ⟨μ1, e1, e2, e3⟩ := ms_inner hW hT hB0 hx hbx (A.1 0 d) hdo2 hdo (Mo_splits_20 c) p.length (A.2 x) [] (p ++ x :: q) FU μ hb (by simp) hl (by simp; omega) (FU_gt (by omega))
      have el : (p ++ x :: q) ++ (A.2 x).filter (fun h => decide (A.1 0 h = A.1 0 d)) = (p ++ [x]) ++ (q ++ (A.2 x).filter (fun h => decide (A.1 0 h = A.1 0 d))) := by simp
      rw [el] at e2
      obtain ⟨μ2, f1, f2, f3⟩ := ih c (p ++ [x]) (q ++ (A.2 x).filter (fun h => decide (A.1 0 h = A.1 0 d))) μ1 (SC_MB e3 hb) e2 hst (by simp; omega) (by omega)
      refine ⟨μ2, ?_, f2, SC_trans e3 f3⟩
      rw [Mo_splits_20]
      have hl3 : (p ++ x :: q).length = p.length + q.length + 1 := by simp; omega
      rw [hl3] at e28
      simp (disch := omega) only [e28, zI_le, if_neg, zI_inb, if_pos, zI_ix, Int.toNat_natCast, hlx, m_first hb hx.1, bp_some, bnd_ap, hfx]
      rw [e1, show ((p.length + 1 : Nat) : Int) = ((p ++ [x]).length : Int) by simp, f1]
      rfl
theorem ms_90 {o : Int} (ho : 2 ≤ o) {n S b : Nat} : ∀ (m k : Nat) (pre : List Nat) (μ : Sl) (A : Ab) (B : Nat → Int) (dep : Nat → Nat), pre.length = m → m < k → MB μ b → WF n S A dep → SI A dep o pre → MRep B A → (∀ (j x : Nat), pre[j]? = some x → μ 46 j = zI (x : Int)) → (∀ x, Lv A x → 1 < A.1 0 x → B (wdc x) = 1) →
    ∃ B', Mo_splits_90 k (zI ((m : Int) - 1)) (bst μ b B) = some ((), bst μ b B') ∧ MRep B' (pre.foldr (fun x A' => aHalve A' x) A) ∧ (∀ k, 1920 ≤ k → k ≠ 2198 → B' k = B k) ∧ B' 2198 = B 2198 + m ∧ (∀ x, Lv (pre.foldr (fun x A' => aHalve A' x) A) x → 1 < (pre.foldr (fun x A' => aHalve A' x) A).1 0 x → B' (wdc x) = 1) := by
  intro m
  induction m with
  | zero =>
    intro k pre μ A B dep hm hk hb hW hS hM hR hw
    have : pre = [] := List.length_eq_zero_iff.mp hm
    subst this
    obtain ⟨c, rfl⟩ : ∃ c, k = c + 1 := ⟨k - 1, by omega⟩
    refine ⟨B, ?_, hM, fun _ _ _ => rfl, by simp, hw⟩
    rw [Mo_splits_90]
    simp (disch := omega) only [zI_lit, zI_lt, if_pos]
  | succ m ih =>
    intro k pre μ A B dep hm hk hb hW hS hM hR hw
    obtain ⟨c, rfl⟩ : ∃ c, k = c + 1 := ⟨k - 1, by omega⟩
    rcases List.eq_nil_or_concat pre with rfl | ⟨p, x, rfl⟩
    · simp at hm
    · simp at hm
      have hS' : SI A dep o (p ++ [x]) := by simpa using hS
      obtain ⟨hx, hxo, hxt, hkk, hW', hSI'⟩ := SI_step hW ho hS'
      obtain ⟨B1, e1, e2, e3, e4⟩ := mr_halve hb hW hM hx (by omega)
      have hu := hv_u hW hx (by omega)
      have hwdc : wdc (x + hfA A x) = wdc x := by
        have hc := hf_cases hW hx (by omega)
        have hwa := hW.2.2.2.1 x hx
        have := hW.2.1
        unfold wdc
        obtain ⟨a1, a2, a3, a4, -⟩ := hwa
        rcases hc with ⟨c1, c2, c3⟩ | ⟨c1, c2, c3⟩ | ⟨c1, c2, c3⟩ <;> rw [c2] at a2 a4 <;> rw [c3] <;> omega
      have hwx : B (wdc x) = 1 := hw x hx (by omega)
      have e3' : ∀ k, 1920 ≤ k → k ≠ 2198 → B1 k = B k := fun k hk hk2 => by
        rw [e3 k hk hk2]
        split
        · rename_i z; rw [z.2, hwdc, hwx]
        · rfl
      have hwr : ∀ y, 1920 ≤ wdc y ∧ (y < 192 → wdc y ≠ 2198) := fun y => by unfold wdc; omega
      have hl1 : bst μ b B 46 m = zI (x : Int) := by rw [bst_ne _ _ _ (by decide)]; exact hR m x (by simp [hm])
      have hlen : m < 192 := by
        have := len192 hS.1 (fun y hy => (hS.2.2.1 y hy).1.1)
        simp at this; omega
      obtain ⟨B2, f1, f2, f3, f4, f5⟩ := ih c p μ _ B1 _ hm (by omega) hb hW' hSI' e2 (fun j y hj => hR j y (by
        have hj2 := (List.getElem?_eq_some_iff.mp hj).1
        simp only [List.concat_eq_append]
        rw [List.getElem?_append_left hj2]; exact hj)) (fun y hy hy2 => by
        rw [e3' _ (hwr y).1 ((hwr y).2 hy.1)]
        rcases (hv_lv hW hx (by omega) y).mp hy with rfl | hy1
        · rw [hwdc]; exact hwx
        · rw [hv_0 hW hx (by omega)] at hy2
          by_cases q : y = x
          · subst q; exact hwx
          · rw [if_neg (by intro z; rcases z with z | z; exact hu.1 (z ▸ hy1); exact q z)] at hy2
            exact hw y hy1 hy2)
      refine ⟨B2, ?_, by simpa [List.foldr_append] using f2, fun k hk hk2 => by rw [f3 k hk hk2, e3' k hk hk2], by rw [f4, e4]; push_cast; omega, by simpa [List.foldr_append] using f5⟩
      rw [Mo_splits_90, show ((m + 1 : Nat) : Int) - 1 = (m : Int) by omega]
      simp (disch := omega) only [zI_lit, zI_lt, if_neg, zI_inb, if_pos, zI_ix, Int.toNat_natCast, hl1, e1, bd_some, bnd_ap, zI_add, zI_neg]
      rw [show (m : Int) + -1 = (m : Int) - 1 by omega, f1]
/-- wide lines are known -/
def WD (B : Nat → Int) (A : Ab) : Prop := ∀ x, Lv A x → 1 < A.1 0 x → B (wdc x) = 1
theorem mr_split {n S b d : Nat} {A : Ab} {dep : Nat → Nat} {μ : Sl} {B : Nat → Int} (hb : MB μ b) (hW : WF n S A dep) (hM : MRep B A) (hd : Lv A d) (ho : 2 ≤ A.1 0 d) (ht : NTs A d) (hw : WD B A) :
    ∃ μ' B', Mo_splits (bst μ b B) (zI (d : Int)) = some ((), bst μ' b B') ∧ SC μ μ' ∧ MRep B' (aSplit A d) ∧ WD B' (aSplit A d) ∧ (∀ k, 1920 ≤ k → k ≠ 2198 → B' k = B k) ∧ B' 2198 = B 2198 + (alk A d).length := by
  have hb1 : MB (wr μ 34 28 (zI 0)) b := ⟨by rw [wr_ap, if_neg (by omega)]; exact hb.1, hb.2⟩
  obtain ⟨μ1, e1, e2, e3⟩ := m_adds (μ := wr μ 34 28 (zI 0)) (b := b) (B := B) (l := []) ⟨by rw [wr_ap, if_pos ⟨rfl, rfl⟩]; rfl, fun k x hk => by simp at hk⟩ (by simp) d
  obtain ⟨μ2, f1, f2, f3⟩ := ms_outer (b := b) hW hd (MR_MT hM d) (fun y hy => hM.1 y hy.1) 193 FU [] [d] μ1 (SC_MB e3 hb1) e2 (BI_start hW _ hd) (by simp) (by unfold FU; omega)
  have hSI := SI_alk hW hd ht
  have hlen : (alk A d).length ≤ 192 := len192 hSI.1 (fun y hy => (hSI.2.2.1 y hy).1.1)
  have hSC : SC μ μ2 := SC_trans (fun a i h1 h2 h3 => by rw [wr_ap, if_neg (by omega)]) (SC_trans e3 f3)
  obtain ⟨B3, g1, g2, g3, g4, g5⟩ := ms_90 (b := b) ho (alk A d).length FU (alk A d) μ2 A B dep rfl (FU_gt (by omega)) (SC_MB hSC hb) hW hSI hM f2.2 hw
  refine ⟨μ2, B3, ?_, hSC, g2, g5, g3, g4⟩
  unfold Mo_splits
  rw [m_of0 hb hd.1, bp_some, hM.1 d hd.1]
  simp only [bnd_ap, zI_lit]
  rw [bst_wr (by decide), e1, bd_some]
  exact f1.trans g1
