/-! ===== who is above, who beneath: deed, above, heir ===== -/
section
variable {n S : Nat} {A : Ab} {dep : Nat → Nat} {δ : Sl} {σ : Nat → Nat} {bn : Nat} {μ : Sl} {b : Nat} {B : Nat → Int}
theorem zI_s1 (j : Nat) : zI (j : Int) + (1 : Int32) = zI ((j + 1 : Nat) : Int) := by rw [show (1 : Int32) = zI 1 from rfl, zI_add]; congr 1
theorem zI_m1 : zI (-1) < (0 : Int32) := by rw [zI_lit, zI_lt (by omega) (by omega) (by omega) (by omega)]; omega
theorem zI_n0 {x : Nat} (h : x < 2147483648) : ¬ zI (x : Int) < (0 : Int32) := by rw [zI_lit, zI_lt (by omega) (by omega) (by omega) (by omega)]; omega
theorem zI_p0 {x : Nat} (h : x < 2147483648) : (0 : Int32) ≤ zI (x : Int) := by rw [zI_lit, zI_le (by omega) (by omega) (by omega) (by omega)]; omega
theorem zI_np : ¬ (0 : Int32) ≤ zI (-1) := by rw [zI_lit, zI_le (by omega) (by omega) (by omega) (by omega)]; omega
theorem zI_in {x m : Nat} (h : x < m) (hm : m < 2147483648) : inb (zI (x : Int)) m := by rw [zI_inb (by omega) (by omega)]; omega
theorem zI_ixn {x : Nat} (h : x < 2147483648) : ix (zI (x : Int)) = x := by rw [zI_ix (by omega) (by omega)]; omega
theorem c_ab_loop (h : WF n S A dep) (hC : CRep δ σ bn A) : ∀ (m k i x : Nat), dep x = m → Lv A x → m + 1 < k → i + m ≤ 191 → Qu_aboveOf_9 δ k (zI (i : Int)) (zI (σ x : Int)) = some (zI ((i + m + 1 : Nat) : Int)) := by
  intro m
  induction m with
  | zero =>
    intro k i x hm hx hk hi
    obtain ⟨c, rfl⟩ : ∃ c, k = c + 2 := ⟨k - 2, by omega⟩
    have b1 := cr_lt hC hx
    have hgv := cr_giver hC hx
    rcases gv_or h hx with ⟨g1, -⟩ | ⟨g, g1, g2, g3⟩
    · rw [g1, enc_0] at hgv
      rw [Qu_aboveOf_9, if_neg (by rw [zI_lit, zI_le (by omega) (by omega) (by omega) (by omega)]; omega), if_neg (zI_n0 (by omega)), bnd_ap, zI_s1, if_pos (zI_in b1 (by omega)), zI_ixn (by omega), bnd_ap, hgv, Qu_aboveOf_9, if_pos zI_m1]
      by_cases q : (192 : Int32) ≤ zI ((i + 1 : Nat) : Int)
      · rw [if_pos q]
      · rw [if_neg q]
    · omega
  | succ m ih =>
    intro k i x hm hx hk hi
    obtain ⟨c, rfl⟩ : ∃ c, k = c + 1 := ⟨k - 1, by omega⟩
    have b1 := cr_lt hC hx
    have hgv := cr_giver hC hx
    rcases gv_or h hx with ⟨g1, g0⟩ | ⟨g, g1, g2, g3⟩
    · omega
    · rw [g1, enc_s] at hgv
      rw [Qu_aboveOf_9, if_neg (by rw [zI_lit, zI_le (by omega) (by omega) (by omega) (by omega)]; omega), if_neg (zI_n0 (by omega)), bnd_ap, zI_s1, if_pos (zI_in b1 (by omega)), zI_ixn (by omega), bnd_ap, hgv, ih c (i + 1) g (by omega) g2 (by omega) (by omega)]
      congr 3; omega
theorem c_above (h : WF n S A dep) (hC : CRep δ σ bn A) {x : Nat} (hx : Lv A x) : Qu_aboveOf δ (zI (σ x : Int)) = some (zI (dep x : Int)) := by
  have b1 := cr_lt hC hx
  have hgv := cr_giver hC hx
  have hd := dep_lt h hx
  rw [Qu_aboveOf, bnd_ap, if_pos (zI_in b1 (by omega)), zI_ixn (by omega), bnd_ap, hgv]
  rcases gv_or h hx with ⟨g1, g0⟩ | ⟨g, g1, g2, g3⟩
  · rw [g1, enc_0, g0]
    show Qu_aboveOf_9 δ (999999 + 1) _ _ = _
    rw [Qu_aboveOf_9, if_neg (by decide), if_pos zI_m1]; rfl
  · rw [g1, enc_s]
    have t := c_ab_loop h hC (dep g) 1000000 0 g rfl g2 (by omega) (by omega)
    rw [show 0 + dep g + 1 = dep x by omega] at t
    exact t
theorem m_ab_loop (hb : MB μ b) (h : WF n S A dep) (hM : MRep B A) : ∀ (m k i x : Nat), dep x = m → Lv A x → m + 1 < k → Mo_aboveMany_8 (bst μ b B) k (zI (i : Int)) (zI (x : Int)) = some (zI ((i + m + 1 : Nat) : Int)) := by
  intro m
  induction m with
  | zero =>
    intro k i x hm hx hk
    obtain ⟨c, rfl⟩ : ∃ c, k = c + 2 := ⟨k - 2, by omega⟩
    have hx1 := hx.1
    obtain ⟨t1, t2, t3, t4, t5⟩ := hM.2.1 x hx
    rcases gv_or h hx with ⟨g1, -⟩ | ⟨g, g1, g2, g3⟩
    · rw [Mo_aboveMany_8, if_neg (zI_n0 (by omega)), bnd_ap, zI_s1, m_giver hb hx1, bp_some, bnd_ap, t3, g1, Mo_aboveMany_8, if_pos (by exact zI_m1)]
    · omega
  | succ m ih =>
    intro k i x hm hx hk
    obtain ⟨c, rfl⟩ : ∃ c, k = c + 1 := ⟨k - 1, by omega⟩
    have hx1 := hx.1
    obtain ⟨t1, t2, t3, t4, t5⟩ := hM.2.1 x hx
    rcases gv_or h hx with ⟨g1, g0⟩ | ⟨g, g1, g2, g3⟩
    · omega
    · rw [Mo_aboveMany_8, if_neg (zI_n0 (by omega)), bnd_ap, zI_s1, m_giver hb hx1, bp_some, bnd_ap, t3, g1, show (g : Int) + 1 - 1 = (g : Int) by omega, ih c (i + 1) g (by omega) g2 (by omega)]
      congr 3; omega
theorem m_aboveM (hb : MB μ b) (h : WF n S A dep) (hM : MRep B A) {x : Nat} (hx : Lv A x) : Mo_aboveMany (bst μ b B) (zI (x : Int)) = some (zI (dep x : Int)) := by
  have hx1 := hx.1
  have hd := dep_lt h hx
  obtain ⟨t1, t2, t3, t4, t5⟩ := hM.2.1 x hx
  rw [Mo_aboveMany, bnd_ap, m_giver hb hx1, bp_some, bnd_ap, t3]
  rcases gv_or h hx with ⟨g1, g0⟩ | ⟨g, g1, g2, g3⟩
  · rw [g1, g0]
    show Mo_aboveMany_8 (bst μ b B) (999999 + 1) _ (zI (-1)) = _
    rw [Mo_aboveMany_8, if_pos zI_m1]; rfl
  · rw [g1, show (g : Int) + 1 - 1 = (g : Int) by omega]
    have t := m_ab_loop hb h hM (dep g) 1000000 0 g rfl g2 (by omega)
    rw [show 0 + dep g + 1 = dep x by omega] at t
    exact t
theorem ck_first (hC : CRep δ σ bn A) {x : Nat} (hx : Lv A x) : δ 24 (σ x) = enc σ (hd1 (A.2 x)) := by
  obtain ⟨F, L, N, P, k1, k2, k3⟩ := hC.2.2.2.2
  rw [(k1 x hx).1, (k2 x hx).1]
theorem kid_lv (h : WF n S A dep) {x : Nat} (hx : Lv A x) {y : Nat} (hy : y ∈ A.2 x) : Lv A y := ((h.2.2.2.2.2.1 x hx).2 y hy).1
theorem ck_next (h : WF n S A dep) (hC : CRep δ σ bn A) {x : Nat} (hx : Lv A x) {l1 l2 : List Nat} {y : Nat} (e : A.2 x = l1 ++ y :: l2) : Lv A y ∧ δ 26 (σ y) = enc σ (hd1 l2) := by
  have hy : Lv A y := kid_lv h hx (by rw [e]; simp)
  obtain ⟨F, L, N, P, k1, k2, k3⟩ := hC.2.2.2.2
  exact ⟨hy, by rw [(k1 y hy).2.2.1, ((k2 x hx).2.2 l1 y l2 e).1]⟩
theorem kids_len (h : WF n S A dep) {x : Nat} (hx : Lv A x) : (A.2 x).length ≤ 192 := len192 (h.2.2.2.2.2.1 x hx).1 (fun y hy => (kid_lv h hx hy).1)
theorem c_hr_loop (h : WF n S A dep) (hC : CRep δ σ bn A) {x : Nat} (hx : Lv A x) : ∀ (l2 l1 : List Nat) (k : Nat), A.2 x = l1 ++ l2 → l2.length < k → Qu_heirsOf_9 δ k (zI (l1.length : Int)) (enc σ (hd1 l2)) = some (zI ((A.2 x).length : Int)) := by
  have hl := kids_len h hx
  intro l2
  induction l2 with
  | nil =>
    intro l1 k e hk
    obtain ⟨c, rfl⟩ : ∃ c, k = c + 1 := ⟨k - 1, by omega⟩
    rw [List.append_nil] at e
    rw [show hd1 [] = 0 from rfl, enc_0, Qu_heirsOf_9, if_pos zI_m1, e]
    by_cases q : (192 : Int32) ≤ zI (l1.length : Int)
    · rw [if_pos q]
    · rw [if_neg q]
  | cons y l2 ih =>
    intro l1 k e hk
    obtain ⟨c, rfl⟩ : ∃ c, k = c + 1 := ⟨k - 1, by omega⟩
    obtain ⟨hy, e26⟩ := ck_next h hC hx e
    have b1 := cr_lt hC hy
    have hlen : (A.2 x).length = l1.length + (l2.length + 1) := by rw [e, List.length_append, List.length_cons]
    have t := ih (l1 ++ [y]) c (by rw [e, List.append_assoc]; rfl) (by rw [List.length_cons] at hk; omega)
    rw [List.length_append, List.length_singleton] at t
    rw [show hd1 (y :: l2) = (y : Int) + 1 from rfl, enc_s, Qu_heirsOf_9, if_neg (by rw [zI_lit, zI_le (by omega) (by omega) (by omega) (by omega)]; omega), if_neg (zI_n0 (by omega)), bnd_ap, zI_s1, if_pos (zI_in b1 (by omega)), zI_ixn (by omega), bnd_ap, e26]
    exact t
theorem c_heirs (h : WF n S A dep) (hC : CRep δ σ bn A) {x : Nat} (hx : Lv A x) : Qu_heirsOf δ (zI (σ x : Int)) = some (zI ((A.2 x).length : Int)) := by
  have b1 := cr_lt hC hx
  have hl := kids_len h hx
  rw [Qu_heirsOf, bnd_ap, if_pos (zI_in b1 (by omega)), zI_ixn (by omega), bnd_ap, ck_first hC hx]
  exact c_hr_loop h hC hx (A.2 x) [] 1000000 rfl (by omega)
theorem mk_first (hM : MRep B A) {x : Nat} (hx : Lv A x) : B (768 + x) = hd1 (A.2 x) := (hM.2.2.1 x hx).1
theorem mk_next (hM : MRep B A) {x : Nat} (hx : Lv A x) {l1 l2 : List Nat} {y : Nat} (e : A.2 x = l1 ++ y :: l2) : B (1344 + y) = hd1 l2 := ((hM.2.2.1 x hx).2.2 l1 y l2 e).1
theorem m_hr_loop (hb : MB μ b) (h : WF n S A dep) (hM : MRep B A) {x : Nat} (hx : Lv A x) : ∀ (l2 l1 : List Nat) (k : Nat), A.2 x = l1 ++ l2 → l2.length < k → Mo_heirsMany_8 (bst μ b B) k (zI (l1.length : Int)) (zI (hd1 l2 - 1)) = some (zI ((A.2 x).length : Int)) := by
  intro l2
  induction l2 with
  | nil =>
    intro l1 k e hk
    obtain ⟨c, rfl⟩ : ∃ c, k = c + 1 := ⟨k - 1, by omega⟩
    rw [List.append_nil] at e
    rw [show hd1 [] - 1 = -1 from rfl, Mo_heirsMany_8, if_pos zI_m1, e]
  | cons y l2 ih =>
    intro l1 k e hk
    obtain ⟨c, rfl⟩ : ∃ c, k = c + 1 := ⟨k - 1, by omega⟩
    have hy : Lv A y := kid_lv h hx (by rw [e]; simp)
    have hy1 := hy.1
    have t := ih (l1 ++ [y]) c (by rw [e, List.append_assoc]; rfl) (by rw [List.length_cons] at hk; omega)
    rw [List.length_append, List.length_singleton] at t
    rw [show hd1 (y :: l2) - 1 = (y : Int) by show (y : Int) + 1 - 1 = _; omega, Mo_heirsMany_8, if_neg (zI_n0 (by omega)), bnd_ap, zI_s1, m_next hb hy1, bp_some, bnd_ap, mk_next hM hx e]
    exact t
theorem m_heirsM (hb : MB μ b) (h : WF n S A dep) (hM : MRep B A) {x : Nat} (hx : Lv A x) : Mo_heirsMany (bst μ b B) (zI (x : Int)) = some (zI ((A.2 x).length : Int)) := by
  have hx1 := hx.1
  have hl := kids_len h hx
  rw [Mo_heirsMany, bnd_ap, m_first hb hx1, bp_some, bnd_ap, mk_first hM hx]
  exact m_hr_loop hb h hM hx (A.2 x) [] 1000000 rfl (by omega)
theorem c_bn_loop (hC : CRep δ σ bn A) {d : Nat} (hd : Lv A d) : ∀ (l : List Nat) (y i k : Nat), Pth (fun a b => De_afterwards δ (zI (σ a : Int)) = some (zI (σ b : Int))) (y :: (l ++ [d])) → (∀ z, z ∈ y :: l → Lv A z ∧ z ≠ d) → i + l.length + 1 ≤ 191 → l.length + 2 < k → Qu_beneathOf_8 δ k (zI (σ d : Int)) (zI (i : Int)) (zI (σ y : Int)) = some (zI ((i + l.length + 1 : Nat) : Int)) := by
  have bd := cr_lt hC hd
  intro l
  induction l with
  | nil =>
    intro y i k hp hz hi hk
    obtain ⟨c, rfl⟩ : ∃ c, k = c + 2 := ⟨k - 2, by omega⟩
    obtain ⟨z1, z2⟩ := hz y (by simp)
    have b1 := cr_lt hC z1
    have hne : σ y ≠ σ d := fun e => z2 (hC.1.2.2.2.1 y d z1 hd e)
    have ha : De_afterwards δ (zI (σ y : Int)) = some (zI (σ d : Int)) := hp.1
    rw [Qu_beneathOf_8, if_neg (by rw [zI_lit, zI_le (by omega) (by omega) (by omega) (by omega)]; omega), if_neg (by rw [zI_eq (by omega) (by omega) (by omega) (by omega)]; omega), if_neg (zI_n0 (by omega)), bnd_ap, zI_s1, ha, bp_some, bnd_ap, Qu_beneathOf_8, if_neg (by rw [zI_lit, zI_le (by omega) (by omega) (by omega) (by omega)]; omega), if_pos rfl]
    rfl
  | cons w l ih =>
    intro y i k hp hz hi hk
    obtain ⟨c, rfl⟩ : ∃ c, k = c + 1 := ⟨k - 1, by omega⟩
    obtain ⟨z1, z2⟩ := hz y (by simp)
    have b1 := cr_lt hC z1
    have hne : σ y ≠ σ d := fun e => z2 (hC.1.2.2.2.1 y d z1 hd e)
    have ha : De_afterwards δ (zI (σ y : Int)) = some (zI (σ w : Int)) := hp.1
    rw [List.length_cons] at hi hk
    rw [Qu_beneathOf_8, if_neg (by rw [zI_lit, zI_le (by omega) (by omega) (by omega) (by omega)]; omega), if_neg (by rw [zI_eq (by omega) (by omega) (by omega) (by omega)]; omega), if_neg (zI_n0 (by omega)), bnd_ap, zI_s1, ha, bp_some, bnd_ap, ih w (i + 1) c hp.2 (fun z h => hz z (by simp only [List.mem_cons] at h ⊢; exact .inr h)) (by omega) (by omega), List.length_cons]
    congr 3; omega
theorem c_below (h : WF n S A dep) (hC : CRep δ σ bn A) {d : Nat} (hd : Lv A d) : Qu_beneathOf δ (zI (σ d : Int)) = some (zI (((tre A d).length : Int) - 1)) := by
  have bd := cr_lt hC hd
  have hdp := dep_lt h hd
  have hT : TR δ σ A d := CR_TR h ⟨rfl, fun _ _ _ => rfl⟩ hC d
  obtain ⟨m, hm⟩ : ∃ m, dep d + m = 191 := ⟨191 - dep d, by omega⟩
  have hdeep := c_deepest h hT m 1000000 0 d hd (bl_self A d) hm (by omega) (by omega)
  have hpath := c_path h hT m d hd (bl_self A d) hm
  have hnd := pst_nodup h m d hd hm
  have hmem := pst_mem h m d hd hm
  obtain ⟨tn, tl⟩ := tre_len h hd
  have hlen : (tre A d).length = (pst A m d).length := by
    refine ((List.perm_ext_iff_of_nodup tn hnd).mpr (fun y => ?_)).length_eq
    rw [tre_mem h hd, hmem]
  obtain ⟨l, hl⟩ := pst_last A m d
  have hhead := pst_head A m d
  rw [hlen]
  rw [Qu_beneathOf, bnd_ap, De_deepest, bnd_ap, bnd_ap]
  show bp (De_deepest_4 δ 1000000 (zI (σ d : Int)) (zI ((0 : Nat) : Int))) _ = _
  rw [hdeep, bp_some, bnd_ap]
  cases l with
  | nil =>
    rw [hl] at hhead ⊢
    have e : dp A m d = d := by simpa using hhead.symm
    rw [e]
    show Qu_beneathOf_8 δ (999999 + 1) _ (zI ((0 : Nat) : Int)) _ = _
    rw [Qu_beneathOf_8, if_neg (by decide), if_pos rfl]; rfl
  | cons y l =>
    rw [hl, List.cons_append] at hhead hpath hnd
    have e : dp A m d = y := by simpa using hhead.symm
    have hll : (pst A m d).length = l.length + 2 := by rw [hl]; simp
    have hle : (pst A m d).length ≤ 192 := by rw [← hlen]; exact tl
    rw [e, hll]
    have t := c_bn_loop hC hd l y 0 1000000 hpath (fun z hz => ?_) (by omega) (by omega)
    · rw [show ((l.length + 2 : Nat) : Int) - 1 = ((0 + l.length + 1 : Nat) : Int) by omega]
      exact t
    · have hz2 : z ∈ pst A m d := by
        rw [hl, List.cons_append]
        rcases List.mem_cons.mp hz with rfl | hz
        · exact List.mem_cons_self
        · exact List.mem_cons_of_mem _ (List.mem_append_left _ hz)
      refine ⟨((hmem z).mp hz2).1, fun ez => ?_⟩
      subst ez
      rw [← List.cons_append, List.nodup_append] at hnd
      exact hnd.2.2 z hz z (by simp) rfl
theorem m_belowM (hb : MB μ b) (h : WF n S A dep) (hM : MRep B A) {x : Nat} (hx : Lv A x) : ∃ μ', Mo_belowMany (bst μ b B) (zI (x : Int)) = some (zI (((tre A x).length : Int) - 1), bst μ' b B) ∧ SC μ μ' := by
  obtain ⟨μ', t1, t2, t3⟩ := m_tree hb h hx (fun y hy _ => ⟨mk_first hM hy, fun a q c e => mk_next hM hy e⟩)
  refine ⟨μ', ?_, t3⟩
  rw [Mo_belowMany, t1, bd_some, bst_ne _ _ _ (by omega), t2.1, show (1 : Int32) = zI 1 from rfl, zI_sub]
end
def TopD (c n0 : Nat) (M : Mem) (R1 : Option ((Int32 ⊕ String) × Mem)) (R2 : Option (Int32 × Sl)) : Prop := ∃ (r : Int32) (μ' : Sl), R2 = some (r, μ') ∧ Inv (c + 1) n0 M μ' ∧ ((R1 = some (.inl r, M) ∧ μ' 34 2 = 0) ∨ (R1 = some (.inr IOE, M) ∧ μ' 34 2 = 1) ∨ (R1 = some (.inr NSE, M) ∧ μ' 34 2 = 2))
section
variable {c n0 : Nat} {M : Mem} {μ : Sl}
theorem top_deed (hI : Inv c n0 M μ) (hc : c < 600) (a1 a2 a3 : Int32) : TopD c n0 M (Fh_deed M a1 a2 a3) (Mo_deed μ a1 a2 a3) := by
  obtain ⟨n, S, k, w, t, B, σ, bn, A, dep, J, N, e, qv, pv, wv, ⟨b1, b2, b3, b4, b5⟩, -, ⟨hR, hX⟩, ⟨hK, hm, hn, -⟩, ⟨f1, f2⟩, ⟨hN, -⟩, hT, hq, -⟩ := top_q hI
  have h9 := RC_T9 hR (by omega)
  obtain ⟨hW, hC, hM, -⟩ := hR
  obtain ⟨x1, i1, rfl⟩ := zI_ex a1
  obtain ⟨x2, i2, rfl⟩ := zI_ex a2
  obtain ⟨x3, i3, rfl⟩ := zI_ex a3
  obtain ⟨i31, i32'⟩ := i3
  have hn6 := hn.1
  have hS := hW.2.1
  have w2 : ∀ v : Int32, wr (wr μ 34 2 (0 : Int32)) 34 2 v = wr μ 34 2 v := fun v => by
    funext a i
    rw [wr_ap, wr_ap, wr_ap]
    by_cases g : a = 34 ∧ i = 2
    · rw [if_pos g, if_pos g]
    · rw [if_neg g, if_neg g, if_neg g]
  have w0 : wr μ 34 2 (0 : Int32) 34 2 = 0 := by rw [wr_ap, if_pos ⟨rfl, rfl⟩]
  have t7 := m_isIn (x := x3) (lo := 0) (hi := 7) ⟨i31, i32'⟩ ⟨by omega, by omega⟩ ⟨by omega, by omega⟩
  have cl0 : Fh_deed M (zI x1) (zI x2) (zI x3) = if (decide (0 ≤ x1 ∧ x1 < (n : Int)) && decide (0 ≤ x2 ∧ x2 < (S : Int))) = true then (if zI x3 < 0 then some (.inr NSE, M) else if zI x3 ≤ (7 : Int32) then (bp (De_find (M w) (zI x1) (zI x2)) fun r4 => bnd r4 fun v4 => if 0 ≤ v4 then (bp (Qu_tell (M w) v4 (zI x2) (zI x3)) fun r7 => some (.inl r7, M)) else some (.inl (-2 : Int32), M)) else some (.inr NSE, M)) else some (.inr IOE, M) := by
    rw [Fh_deed, b1, gref_z (by omega), c_isPlace hK hn i1 i2, bp_some, bI_if, gref_z (by omega)]
    simp only [gref_z (show w < 2147483648 by omega)]
  have mo0 : ∀ K : Option (Int32 × Sl), (if decide (0 ≤ x1 ∧ x1 < (n : Int)) = true then (if decide (0 ≤ x2 ∧ x2 < (S : Int)) = true then K else some ((0 : Int32), wr μ 34 2 (1 : Int32))) else some ((0 : Int32), wr μ 34 2 (1 : Int32))) = if (decide (0 ≤ x1 ∧ x1 < (n : Int)) && decide (0 ≤ x2 ∧ x2 < (S : Int))) = true then K else some ((0 : Int32), wr μ 34 2 (1 : Int32)) := fun K => by
    cases decide (0 ≤ x1 ∧ x1 < (n : Int)) <;> cases decide (0 ≤ x2 ∧ x2 < (S : Int)) <;> rfl
  have d21 : Mo_deed_21 (wr μ 34 2 (0 : Int32)) = some ((0 : Int32), wr μ 34 2 (1 : Int32)) := by rw [Mo_deed_21, Mo_fails, bnd_ap, bd_some, w2]
  by_cases g : 0 ≤ x1 ∧ x1 < (n : Int) ∧ 0 ≤ x2 ∧ x2 < (S : Int)
  · obtain ⟨g1, g2, g3, g4⟩ := g
    have p1 : decide (0 ≤ x1 ∧ x1 < (n : Int)) = true := decide_eq_true ⟨g1, g2⟩
    have p2 : decide (0 ≤ x2 ∧ x2 < (S : Int)) = true := decide_eq_true ⟨g3, g4⟩
    rw [p1, p2, Bool.and_self, if_pos rfl] at cl0
    have mo : Mo_deed μ (zI x1) (zI x2) (zI x3) = if decide (0 ≤ x3 ∧ x3 ≤ 7) = true then (bp (Mo_cover (wr μ 34 2 (0 : Int32)) (zI x1) (zI x2)) fun r7 => bnd r7 fun v4_8 => if 0 ≤ v4_8 then (if zI x3 = (0 : Int32) then (bp (Mo_frameAt (wr μ 34 2 (0 : Int32)) (zI x1) (zI x2)) fun r16 => some (r16, wr μ 34 2 (0 : Int32))) else (if zI x3 = (1 : Int32) then (bp (Mo_of (wr μ 34 2 (0 : Int32)) ((384 : Int32) + v4_8)) fun r15 => some (r15, wr μ 34 2 (0 : Int32))) else (if zI x3 = (2 : Int32) then (bp (Mo_orderOf (wr μ 34 2 (0 : Int32)) v4_8) fun r14 => some (r14, wr μ 34 2 (0 : Int32))) else (if zI x3 = (3 : Int32) then (if ¬ (32 : Int32) = 0 then some ((v4_8 - v4_8 / (32 : Int32) * (32 : Int32)), wr μ 34 2 (0 : Int32)) else none) else (if zI x3 = (4 : Int32) then (bp (Mo_aboveMany (wr μ 34 2 (0 : Int32)) v4_8) fun r13 => some (r13, wr μ 34 2 (0 : Int32))) else (if zI x3 = (5 : Int32) then (bp (Mo_heirsMany (wr μ 34 2 (0 : Int32)) v4_8) fun r12 => some (r12, wr μ 34 2 (0 : Int32))) else (if zI x3 = (6 : Int32) then (bd (Mo_belowMany (wr μ 34 2 (0 : Int32)) v4_8) fun r10 d11 => some (r10, d11)) else (bp (Mo_isBusy (wr μ 34 2 (0 : Int32)) v4_8) fun r9 => if r9 = 0 then (some ((0 : Int32), wr μ 34 2 (0 : Int32))) else (some ((1 : Int32), wr μ 34 2 (0 : Int32))))))))))) else (some ((-2 : Int32), wr μ 34 2 (0 : Int32)))) else some ((0 : Int32), wr μ 34 2 (2 : Int32)) := by
      rw [Mo_deed, bnd_ap, m_isSpace hm hn i1, bp_some, bI_if, if_pos p1, m_isPlace hm hn i2, bp_some, bI_if, if_pos p2]
      have t7' : Mo_isIn (zI x3) (0 : Int32) (7 : Int32) = _ := t7
      rw [t7', bp_some, bI_if, Mo_fails, bnd_ap, bd_some, w2]
    by_cases v : 0 ≤ x3 ∧ x3 ≤ 7
    · have hcv := m_cover f1 (B := B) (A := A) (fun x hx => ⟨hM.1 x hx, hW.2.2.2.2.2.2.2 x hx, by
        by_cases q : 0 < A.1 0 x
        · exact (hW.2.2.2.1 x ⟨hx, q⟩).1
        · omega⟩) (s := x1) (p := x2) g1 (by omega) g3 (by omega)
      rw [f2] at hcv
      have hfd := cr_find hC.2.1 (s := x1) (p := x2) g1 (by omega) g3 (by omega)
      have eq : (32 * x1 + x2).toNat = 32 * x1.toNat + x2.toNat := by omega
      rw [eq] at hcv hfd
      rw [if_neg (by rw [zI_lit, zI_lt (by omega) (by omega) (by omega) (by omega)]; omega), if_pos (by rw [zI_lit, zI_le (by omega) (by omega) (by omega) (by omega)]; omega), hfd, bp_some, bnd_ap] at cl0
      rw [if_pos (decide_eq_true v), hcv, bp_some, bnd_ap] at mo
      cases hcov : cov A (32 * x1.toNat + x2.toNat) with
      | none =>
        rw [hcov] at cl0 mo
        rw [show sc σ none = -1 from rfl, if_neg zI_np] at cl0
        rw [show cv none = -1 from rfl, if_neg zI_np] at mo
        exact ⟨_, _, mo, inv_wr hI 0, .inl ⟨cl0, w0⟩⟩
      | some d =>
        rw [hcov] at cl0 mo
        obtain ⟨hd, hd1', hd2⟩ := cov_some hW (by omega) hcov
        have bd := cr_lt hC hd
        have hd192 := hd.1
        obtain ⟨t1, t2, t3, t4, t5⟩ := hM.2.1 d hd
        obtain ⟨q18, q19, q20, q21, q22, -⟩ := hC.2.2.1 d hd
        rw [show sc σ (some d) = (σ d : Int) from rfl, if_pos (zI_p0 (by omega))] at cl0
        rw [show cv (some d) = (d : Int) from rfl, if_pos (zI_p0 (by omega))] at mo
        have fin : ∀ r : Int32, Qu_tell (M w) (zI (σ d : Int)) (zI x2) (zI x3) = some r → Mo_deed μ (zI x1) (zI x2) (zI x3) = some (r, wr μ 34 2 (0 : Int32)) → TopD c n0 M (Fh_deed M (zI x1) (zI x2) (zI x3)) (Mo_deed μ (zI x1) (zI x2) (zI x3)) := fun r e1 e2 => ⟨r, _, e2, inv_wr hI 0, .inl ⟨by rw [cl0, e1, bp_some], w0⟩⟩
        have in1 : inb (zI (σ d : Int)) 192 := zI_in bd (by omega)
        have ix1 : ix (zI (σ d : Int)) = σ d := zI_ixn (by omega)
        have : x3 = 0 ∨ x3 = 1 ∨ x3 = 2 ∨ x3 = 3 ∨ x3 = 4 ∨ x3 = 5 ∨ x3 = 6 ∨ x3 = 7 := by omega
        rcases this with rfl | rfl | rfl | rfl | rfl | rfl | rfl | rfl
        · have e1 := c_frAt hW hC (s := x1.toNat) (p := x2.toNat) (by omega) (by omega) hcov
          have e2 := m_frAt f1 hW hM (s := x1.toNat) (p := x2.toNat) (by omega) (by omega)
          rw [show ((x2.toNat : Nat) : Int) = x2 by omega] at e1
          rw [show ((x1.toNat : Nat) : Int) = x1 by omega, show ((x2.toNat : Nat) : Int) = x2 by omega, f2] at e2
          refine fin _ (by rw [Qu_tell, if_pos (by decide), e1, bp_some]) (by rw [mo, if_pos (by decide), e2, bp_some])
        · have e2 := m_of f1 B (k := 384 + (d : Int)) (by omega) (by omega)
          rw [f2, show (384 + (d : Int)).toNat = 384 + d by omega, t2, ← zI_add] at e2
          have e2' : Mo_of (wr μ 34 2 (0 : Int32)) ((384 : Int32) + zI (d : Int)) = some (zI (A.1 2 d)) := e2
          refine fin (zI (A.1 2 d)) (by rw [Qu_tell, if_neg (by decide), if_pos (by decide), if_pos in1, ix1, q22]) (by rw [mo, if_neg (by decide), if_pos (by decide), e2', bp_some])
        · have e2 := m_of f1 B (k := (0 : Int) + (d : Int)) (by omega) (by omega)
          rw [f2, show ((0 : Int) + (d : Int)).toNat = d by omega, hM.1 d hd192, ← zI_add] at e2
          have e2' : Mo_orderOf (wr μ 34 2 (0 : Int32)) (zI (d : Int)) = some (zI (A.1 0 d - 1)) := by
            have e3 : Mo_of (wr μ 34 2 (0 : Int32)) ((0 : Int32) + zI (d : Int)) = some (zI (A.1 0 d)) := e2
            rw [Mo_orderOf, e3, bp_some, show (1 : Int32) = zI 1 from rfl, zI_sub]
          refine fin (zI (A.1 0 d - 1)) (by rw [Qu_tell, if_neg (by decide), if_neg (by decide), if_pos (by decide), if_pos in1, ix1, q21]) (by rw [mo, if_neg (by decide), if_neg (by decide), if_pos (by decide), e2', bp_some])
        · have e2 : zI (d : Int) - zI (d : Int) / (32 : Int32) * (32 : Int32) = zI ((d % 32 : Nat) : Int) := by
            rw [show (32 : Int32) = zI 32 from rfl, zI_div (by omega) (by omega) (by omega) (by omega), zI_mul, zI_sub]; congr 1; omega
          refine fin (zI ((d % 32 : Nat) : Int)) (by rw [Qu_tell, if_neg (by decide), if_neg (by decide), if_neg (by decide), if_pos (by decide), if_pos in1, ix1, q19]) (by rw [mo, if_neg (by decide), if_neg (by decide), if_neg (by decide), if_pos (by decide), if_pos (by decide), e2])
        · have e2 := m_aboveM f1 hW hM hd
          rw [f2] at e2
          refine fin _ (by rw [Qu_tell, if_neg (by decide), if_neg (by decide), if_neg (by decide), if_neg (by decide), if_pos (by decide), c_above hW hC hd, bp_some]) (by rw [mo, if_neg (by decide), if_neg (by decide), if_neg (by decide), if_neg (by decide), if_pos (by decide), e2, bp_some])
        · have e2 := m_heirsM f1 hW hM hd
          rw [f2] at e2
          refine fin _ (by rw [Qu_tell, if_neg (by decide), if_neg (by decide), if_neg (by decide), if_neg (by decide), if_neg (by decide), if_pos (by decide), c_heirs hW hC hd, bp_some]) (by rw [mo, if_neg (by decide), if_neg (by decide), if_neg (by decide), if_neg (by decide), if_neg (by decide), if_pos (by decide), e2, bp_some])
        · obtain ⟨μ', e2, e3⟩ := m_belowM f1 hW hM hd
          rw [f2] at e2
          have hbs : bst μ' 0 B = μ' := by
            have hb0 : BK (wr μ 34 2 (0 : Int32)) 0 B := by rw [← f2]; exact BK_bst _ 0 B
            exact bst_BK (BK_SC hb0 e3)
          rw [hbs] at e2
          refine ⟨zI (((tre A d).length : Int) - 1), μ', ?_, hq μ' e3, .inl ⟨?_, ?_⟩⟩
          · rw [mo, if_neg (by decide), if_neg (by decide), if_neg (by decide), if_neg (by decide), if_neg (by decide), if_neg (by decide), if_pos (by decide), e2, bd_some]
          · rw [cl0, Qu_tell, if_neg (by decide), if_neg (by decide), if_neg (by decide), if_neg (by decide), if_neg (by decide), if_neg (by decide), if_pos (by decide), c_below hW hC hd, bp_some, bp_some]
          · rw [e3 34 2 (by omega) (by omega) (by omega)]; exact w0
        · have e2 := m_busy f1 hW hM h9 hd
          rw [f2] at e2
          refine fin (if bI (bsy A d) = 0 then 0 else 1) ?_ ?_
          · rw [Qu_tell, if_neg (by decide), if_neg (by decide), if_neg (by decide), if_neg (by decide), if_neg (by decide), if_neg (by decide), if_neg (by decide), c_busy hW hC hd, bp_some]
            cases bsy A d <;> rfl
          · rw [mo, if_neg (by decide), if_neg (by decide), if_neg (by decide), if_neg (by decide), if_neg (by decide), if_neg (by decide), if_neg (by decide), e2, bp_some]
            cases bsy A d <;> rfl
    · rw [if_neg (by rw [decide_eq_true_eq]; exact v)] at mo
      refine ⟨_, _, mo, inv_wr hI 2, .inr (.inr ⟨?_, by rw [wr_ap, if_pos ⟨rfl, rfl⟩]⟩)⟩
      rw [cl0]
      by_cases u : x3 < 0
      · rw [if_pos (by rw [zI_lit, zI_lt (by omega) (by omega) (by omega) (by omega)]; omega)]
      · rw [if_neg (by rw [zI_lit, zI_lt (by omega) (by omega) (by omega) (by omega)]; omega), if_neg (by rw [zI_lit, zI_le (by omega) (by omega) (by omega) (by omega)]; omega)]
  · have gf : (decide (0 ≤ x1 ∧ x1 < (n : Int)) && decide (0 ≤ x2 ∧ x2 < (S : Int))) = false := by
      rw [Bool.and_eq_false_iff, decide_eq_false_iff_not, decide_eq_false_iff_not]; omega
    refine ⟨0, wr μ 34 2 (1 : Int32), ?_, inv_wr hI 1, .inr (.inl ⟨?_, by rw [wr_ap, if_pos ⟨rfl, rfl⟩]⟩)⟩
    · rw [Mo_deed, bnd_ap, m_isSpace hm hn i1, bp_some, bI_if, m_isPlace hm hn i2, bp_some, bI_if, d21, mo0, gf, if_neg (by decide)]
    · rw [cl0, gf, if_neg (by decide)]
end
