/-! ===== reach ===== -/
/-- x or one above it lies in space s -/
def haF (A : Ab) (s : Nat) : Nat → Nat → Bool
  | 0, x => decide (x / 32 = s)
  | k + 1, x => decide (x / 32 = s) || haF A s k (A.1 3 x - 1).toNat
/-- one above x lies in space s -/
def haB (A : Ab) (dep : Nat → Nat) (s x : Nat) : Bool := decide (A.1 3 x ≠ 0) && haF A s (dep x - 1) (A.1 3 x - 1).toNat
section
variable {n S : Nat} {A : Ab} {dep : Nat → Nat} {δ : Sl} {σ : Nat → Nat} {bn : Nat} {μ : Sl} {b : Nat} {B : Nat → Int}
theorem c_has_l (h : WF n S A dep) (hC : CRep δ σ bn A) {s : Nat} (hs : s < 6) : ∀ (m k i x : Nat), dep x = m → Lv A x → m + 1 < k → i + m ≤ 191 → Qu_hasAbove_10 δ k (zI (s : Int)) (zI (σ x : Int)) (zI (i : Int)) = some (bI (haF A s m x)) := by
  intro m
  induction m with
  | zero =>
    intro k i x hm hx hk hi
    obtain ⟨c, rfl⟩ : ∃ c, k = c + 2 := ⟨k - 2, by omega⟩
    have b1 := cr_lt hC hx
    have hgv := cr_giver hC hx
    have e18 := (hC.2.2.1 x hx).1
    have hx1 := hx.1
    rcases gv_or h hx with ⟨g1, -⟩ | ⟨g, g1, g2, g3⟩
    · rw [g1, enc_0] at hgv
      rw [Qu_hasAbove_10, if_neg (by rw [zI_lit, zI_le (by omega) (by omega) (by omega) (by omega)]; omega), if_neg (zI_n0 (by omega)), if_pos (zI_in b1 (by omega)), zI_ixn (by omega), e18, if_pos (zI_in b1 (by omega)), hgv, bnd_ap, bnd_ap, Qu_hasAbove_10]
      unfold haF
      by_cases z : x / 32 = s
      · rw [if_pos (by rw [z]), decide_eq_true z]; rfl
      · rw [if_neg (by rw [zI_eq (by omega) (by omega) (by omega) (by omega)]; omega), if_pos zI_m1, decide_eq_false z]
        split <;> rfl
    · omega
  | succ m ih =>
    intro k i x hm hx hk hi
    obtain ⟨c, rfl⟩ : ∃ c, k = c + 1 := ⟨k - 1, by omega⟩
    have b1 := cr_lt hC hx
    have hgv := cr_giver hC hx
    have e18 := (hC.2.2.1 x hx).1
    have hx1 := hx.1
    rcases gv_or h hx with ⟨g1, g0⟩ | ⟨g, g1, g2, g3⟩
    · omega
    · rw [g1, enc_s] at hgv
      rw [Qu_hasAbove_10, if_neg (by rw [zI_lit, zI_le (by omega) (by omega) (by omega) (by omega)]; omega), if_neg (zI_n0 (by omega)), if_pos (zI_in b1 (by omega)), zI_ixn (by omega), e18, if_pos (zI_in b1 (by omega)), hgv, bnd_ap, bnd_ap, zI_s1, ih c (i + 1) g (by omega) g2 (by omega) (by omega), haF, g1, show ((g : Int) + 1 - 1).toNat = g by omega]
      by_cases z : x / 32 = s
      · rw [if_pos (by rw [z]), decide_eq_true z]; rfl
      · rw [if_neg (by rw [zI_eq (by omega) (by omega) (by omega) (by omega)]; omega), decide_eq_false z, Bool.false_or]
theorem c_has (h : WF n S A dep) (hC : CRep δ σ bn A) {s x : Nat} (hs : s < 6) (hx : Lv A x) : Qu_hasAbove δ (zI (σ x : Int)) (zI (s : Int)) = some (bI (haB A dep s x)) := by
  have b1 := cr_lt hC hx
  have hgv := cr_giver hC hx
  have hd := dep_lt h hx
  rw [Qu_hasAbove, if_pos (zI_in b1 (by omega)), zI_ixn (by omega), hgv, bnd_ap, bnd_ap]
  unfold haB
  rcases gv_or h hx with ⟨g1, -⟩ | ⟨g, g1, g2, g3⟩
  · obtain ⟨f, hf⟩ : ∃ f, FU = f + 1 := ⟨999999, rfl⟩
    rw [g1, enc_0, hf, Qu_hasAbove_10, if_neg (by decide), if_pos zI_m1]; rfl
  · have t := c_has_l h hC hs (dep g) FU 0 g rfl g2 (FU_gt (by omega)) (by omega)
    rw [g1, enc_s, show (0 : Int32) = zI ((0 : Nat) : Int) from rfl, t, show ((g : Int) + 1 - 1).toNat = g by omega, decide_eq_true (show (g : Int) + 1 ≠ 0 by omega), Bool.true_and, show dep x - 1 = dep g by omega]
theorem m_has_l (hb : MB μ b) (h : WF n S A dep) (hM : MRep B A) {s : Nat} (hs : s < 6) : ∀ (m k x : Nat), dep x = m → Lv A x → m + 1 < k → Mo_isBelow_6 (bst μ b B) k (zI (s : Int)) (zI (x : Int)) = some (bI (haF A s m x)) := by
  have d32 : ∀ x : Nat, x < 192 → zI (x : Int) / (32 : Int32) = zI ((x / 32 : Nat) : Int) := fun x hx => by
    rw [show (32 : Int32) = zI 32 from rfl, zI_div (by omega) (by omega) (by omega) (by omega)]; congr 1
  intro m
  induction m with
  | zero =>
    intro k x hm hx hk
    obtain ⟨c, rfl⟩ : ∃ c, k = c + 2 := ⟨k - 2, by omega⟩
    have hx1 := hx.1
    obtain ⟨t1, t2, t3, t4, t5⟩ := hM.2.1 x hx
    rcases gv_or h hx with ⟨g1, -⟩ | ⟨g, g1, g2, g3⟩
    · rw [Mo_isBelow_6, if_neg (zI_n0 (by omega)), if_pos (by decide), d32 x hx1, m_giver hb hx1, bp_some, bnd_ap, t3, g1, Mo_isBelow_27, if_neg (zI_n0 (by omega))]
      unfold haF
      by_cases z : x / 32 = s
      · rw [if_pos (by rw [z]), decide_eq_true z]; rfl
      · rw [if_neg (by rw [zI_eq (by omega) (by omega) (by omega) (by omega)]; omega), decide_eq_false z, Mo_isBelow_6, if_pos (by exact zI_m1), Mo_isBelow_27, if_pos (by exact zI_m1)]; rfl
    · omega
  | succ m ih =>
    intro k x hm hx hk
    obtain ⟨c, rfl⟩ : ∃ c, k = c + 1 := ⟨k - 1, by omega⟩
    have hx1 := hx.1
    obtain ⟨t1, t2, t3, t4, t5⟩ := hM.2.1 x hx
    rcases gv_or h hx with ⟨g1, g0⟩ | ⟨g, g1, g2, g3⟩
    · omega
    · rw [Mo_isBelow_6, if_neg (zI_n0 (by omega)), if_pos (by decide), d32 x hx1, m_giver hb hx1, bp_some, bnd_ap, t3, g1, show (g : Int) + 1 - 1 = (g : Int) by omega, ih c g (by omega) g2 (by omega), Mo_isBelow_27, if_neg (zI_n0 (by omega)), haF, g1, show ((g : Int) + 1 - 1).toNat = g by omega]
      by_cases z : x / 32 = s
      · rw [if_pos (by rw [z]), decide_eq_true z]; rfl
      · rw [if_neg (by rw [zI_eq (by omega) (by omega) (by omega) (by omega)]; omega), decide_eq_false z, Bool.false_or]
theorem m_hasA (hb : MB μ b) (h : WF n S A dep) (hM : MRep B A) {s x : Nat} (hs : s < 6) (hx : Lv A x) : Mo_isBelow (bst μ b B) (zI (x : Int)) (zI (s : Int)) = some (bI (haB A dep s x)) := by
  have hx1 := hx.1
  obtain ⟨t1, t2, t3, t4, t5⟩ := hM.2.1 x hx
  rw [Mo_isBelow, m_giver hb hx1, bp_some, bnd_ap, t3]
  unfold haB
  rcases gv_or h hx with ⟨g1, -⟩ | ⟨g, g1, g2, g3⟩
  · obtain ⟨f, hf⟩ : ∃ f, FU = f + 1 := ⟨999999, rfl⟩
    rw [g1, hf, Mo_isBelow_6, if_pos (by exact zI_m1), Mo_isBelow_27, if_pos (by exact zI_m1)]; rfl
  · have hd := dep_lt h g2
    have t := m_has_l hb h hM hs (dep g) FU g rfl g2 (FU_gt (by omega))
    rw [g1, show (g : Int) + 1 - 1 = (g : Int) by omega, t, show ((g : Int)).toNat = g by omega, decide_eq_true (show (g : Int) + 1 ≠ 0 by omega), Bool.true_and, show dep x - 1 = dep g by omega]
theorem fb_one {f : Nat → Nat} {n i : Nat} (hi : i < n) (h : ∀ k, k < n → k ≠ i → f k = 0) : fb_sm f n = f i := by
  have e : fb_sm f n = fb_sm (fun k => if k = i then f i else 0) n := fb_sm_cong (fun k hk => by
    by_cases z : k = i
    · rw [if_pos z, z]
    · rw [if_neg z, h k hk z])
  have t := fb_sm_upd (fun _ => 0) (f i) (i := i) (n := n) hi
  rw [fb_sm_const, Nat.mul_zero] at t
  rw [e]
  omega
/-- a sum over the slots of one space -/
theorem sum_space (hC : CRep δ σ bn A) (f : Nat → Nat) {s : Nat} (hs : s < 6) : sml (fun d => if d / 32 = s then f d else 0) (ldf σ A 0 bn) = fb_sm (fun p => if 0 < A.1 0 (32 * s + p) then f (32 * s + p) else 0) 32 := by
  rw [sml_perm _ (ldf_perm hC), sml_lvl, show (192 : Nat) = 32 * 6 from rfl, fb_blocks, fb_one hs (fun k hk hne => ?_)]
  · apply fb_sm_cong
    intro p hp
    rw [if_pos (show (32 * s + p) / 32 = s by omega)]
  · rw [fb_sm_cong (g := fun _ => 0) (fun p hp => by rw [if_neg (show ¬ (32 * k + p) / 32 = s by omega)]; split <;> rfl), fb_sm_const, Nat.mul_zero]
theorem c_reach_l (h : WF n S A dep) (hC : CRep δ σ bn A) {s1 s2 : Nat} (h1 : s1 < 6) (h2 : s2 < 6) : ∀ (m i k a : Nat), i + m = bn → m < k → Qu_pagesBeneath_5 δ k (zI (s1 : Int)) (zI (s2 : Int)) (zI (a : Int)) (zI (i : Int)) = some (zI ((a + sml (fun d => if d / 32 = s2 then (if haB A dep s1 d = true then pg (A.1 0 d) else 0) else 0) (ldf σ A i m) : Nat) : Int)) := by
  have hbn := hC.1.1
  have e16 := hC.1.2.1
  intro m
  induction m with
  | zero =>
    intro i k a hi hk
    obtain ⟨c, rfl⟩ : ∃ c, k = c + 1 := ⟨k - 1, by omega⟩
    rw [Qu_pagesBeneath_5, e16, if_pos (by rw [zI_le (by omega) (by omega) (by omega) (by omega)]; omega), ldf_0, sml_nil]; rfl
  | succ m ih =>
    intro i k a hi hk
    obtain ⟨c, rfl⟩ : ∃ c, k = c + 1 := ⟨k - 1, by omega⟩
    have hib : inb (zI (i : Int)) 192 := by rw [zI_inb (by omega) (by omega)]; omega
    rw [Qu_pagesBeneath_5, e16, if_neg (by rw [zI_le (by omega) (by omega) (by omega) (by omega)]; omega), if_pos hib, zI_ixn (by omega)]
    by_cases hu : δ 21 i < 0
    · rw [if_pos hu, Qu_pagesBeneath_57, bnd_ap, zI_s1, ih (i + 1) c a (by omega) (by omega), ldf_none (sl_none hC (wf4 h) hu)]
    · obtain ⟨x, e, hx, he⟩ := sl_live hC (by omega) hu
      have e21 := (hC.2.2.1 x hx).2.2.2.1
      have e18 := (hC.2.2.1 x hx).1
      have hh := c_has h hC h1 hx
      rw [he] at e21 e18 hh
      have := hx.2
      have hx1 := hx.1
      rw [if_neg hu, if_pos hib, e18, hh, bp_some, bI_if, ldf_some e, sml_cons]
      by_cases z : x / 32 = s2
      · rw [if_pos (by rw [z]), if_pos z]
        by_cases y : haB A dep s1 x = true
        · rw [if_pos y, if_pos y, if_pos hib, e21, show (31 : Int32) = zI 31 from rfl, show (1 : Int32) <<< (zI (A.1 0 x - 1) &&& zI 31) = zI (pg (A.1 0 x) : Int) from zI_pg (by omega) (wf4 h x hx), bnd_ap, zI_add, Qu_pagesBeneath_57, bnd_ap, zI_s1, show (a : Int) + (pg (A.1 0 x) : Int) = ((a + pg (A.1 0 x) : Nat) : Int) by omega, ih (i + 1) c _ (by omega) (by omega), Nat.add_assoc]
        · rw [if_neg y, if_neg y, Qu_pagesBeneath_57, bnd_ap, zI_s1, ih (i + 1) c a (by omega) (by omega), Nat.zero_add]
      · rw [if_neg (by rw [zI_eq (by omega) (by omega) (by omega) (by omega)]; omega), if_neg z, Qu_pagesBeneath_57, bnd_ap, zI_s1, ih (i + 1) c a (by omega) (by omega), Nat.zero_add]
theorem m_reach_l (hb : MB μ b) (h : WF n S A dep) (hM : MRep B A) {s1 s2 : Nat} (h1 : s1 < 6) (h2 : s2 < 6) : ∀ (m j k a : Nat), j + m = 32 → m < k → Mo_reach_31 k (zI (s1 : Int)) (zI (s2 : Int)) (zI (a : Int)) (zI ((32 * s2 + j : Nat) : Int)) (bst μ b B) = some (zI ((a + fb_sm (fun p => if 0 < A.1 0 (32 * s2 + (j + p)) then (if haB A dep s1 (32 * s2 + (j + p)) = true then pg (A.1 0 (32 * s2 + (j + p))) else 0) else 0) m : Nat) : Int), bst μ b B) := by
  have e32 : ((32 : Int32) * zI (s2 : Int)) + (32 : Int32) = zI ((32 * s2 + 32 : Nat) : Int) := by rw [show (32 : Int32) = zI 32 from rfl, zI_mul, zI_add]; congr 1
  intro m
  induction m with
  | zero =>
    intro j k a hj hk
    obtain ⟨c, rfl⟩ : ∃ c, k = c + 1 := ⟨k - 1, by omega⟩
    rw [Mo_reach_31, e32, if_pos (by rw [zI_le (by omega) (by omega) (by omega) (by omega)]; omega)]; rfl
  | succ m ih =>
    intro j k a hj hk
    obtain ⟨c, rfl⟩ : ∃ c, k = c + 1 := ⟨k - 1, by omega⟩
    have sp : ∀ F : Nat → Nat, fb_sm (fun p => F (j + p)) (m + 1) = F j + fb_sm (fun p => F (j + 1 + p)) m := fun F => by
      have e := fb_sm_split (fun p => F (j + p)) 1 m
      rw [show 1 + m = m + 1 by omega] at e
      rw [e, show fb_sm (fun p => F (j + p)) 1 = F j by show 0 + F (j + 0) = _; rw [Nat.zero_add, Nat.add_zero], fb_sm_cong (f := fun k => F (j + (1 + k))) (g := fun p => F (j + 1 + p)) (fun k _ => by rw [Nat.add_assoc])]
    have sp' := sp (fun q => if 0 < A.1 0 (32 * s2 + q) then (if haB A dep s1 (32 * s2 + q) = true then pg (A.1 0 (32 * s2 + q)) else 0) else 0)
    have nx : zI ((32 * s2 + j : Nat) : Int) + (1 : Int32) = zI ((32 * s2 + (j + 1) : Nat) : Int) := zI_s1 _
    rw [Mo_reach_31, e32, if_neg (by rw [zI_le (by omega) (by omega) (by omega) (by omega)]; omega), m_deed hb h hM (by omega), bp_some, bI_if, sp']
    have add0 : ∀ a : Nat, zI (a : Int) + (0 : Int32) = zI (a : Int) := fun a => by rw [show (0 : Int32) = zI 0 from rfl, zI_add, Int.add_zero]
    by_cases z : 0 < A.1 0 (32 * s2 + j)
    · have hx : Lv A (32 * s2 + j) := ⟨by omega, z⟩
      rw [if_pos (decide_eq_true z), m_hasA hb h hM h1 hx, bp_some, bI_if, if_pos z]
      by_cases y : haB A dep s1 (32 * s2 + j) = true
      · rw [if_pos y, if_pos y, m_pages hb h hM hx.1, bp_some, Mo_reach_73, bnd_ap, bnd_ap, nx, zI_add, show (a : Int) + (pg (A.1 0 (32 * s2 + j)) : Int) = ((a + pg (A.1 0 (32 * s2 + j)) : Nat) : Int) by omega, ih (j + 1) c _ (by omega) (by omega), Nat.add_assoc]
      · rw [if_neg y, if_neg y, Mo_reach_72, Mo_reach_73, bnd_ap, bnd_ap, nx, add0, ih (j + 1) c a (by omega) (by omega), Nat.zero_add]
    · rw [if_neg (by rw [decide_eq_true_eq]; exact z), if_neg z, Mo_reach_72, Mo_reach_73, bnd_ap, bnd_ap, nx, add0, ih (j + 1) c a (by omega) (by omega), Nat.zero_add]
end
theorem top_reach {c n0 : Nat} {M : Mem} {μ : Sl} (hI : Inv c n0 M μ) (a1 a2 : Int32) : TopQ c n0 M (Fh_reach M a1 a2) (Mo_reach μ a1 a2) := by
  obtain ⟨n, S, k, w, t, B, σ, bn, A, dep, J, N, e, qv, pv, wv, ⟨a, a2', a3, a4, a5⟩, -, ⟨⟨hW, hC, hM, -, -, hJ, hJC, hJM, -, -⟩, hX⟩, hSB, ⟨f1, f2⟩, ⟨hN, -⟩, hT, hq, -⟩ := top_q hI
  obtain ⟨x1, i1, rfl⟩ := zI_ex a1
  obtain ⟨x2, i2, rfl⟩ := zI_ex a2
  have iw := inv_wr hI (0 : Int32)
  have hn6 := hSB.2.2.1.1
  have hbn := hC.1.1
  have cl : Fh_reach M (zI x1) (zI x2) = if decide (0 ≤ x1 ∧ x1 < (n : Int)) = true then (if decide (0 ≤ x2 ∧ x2 < (n : Int)) = true then (bp (Qu_pagesBeneath (M w) (zI x1) (zI x2)) fun r => some r) else some (-1 : Int32)) else some (-1 : Int32) := by
    rw [Fh_reach, a, gref_z (by omega), c_isSpace hSB.1 hSB.2.2.1 i1, bp_some, bI_if, gref_z (by omega), c_isSpace hSB.1 hSB.2.2.1 i2, bp_some, bI_if, gref_z (by omega)]
  have mo : Mo_reach μ (zI x1) (zI x2) = if decide (0 ≤ x1 ∧ x1 < (n : Int)) = true then (if decide (0 ≤ x2 ∧ x2 < (n : Int)) = true then (Mo_reach_31 FU (zI x1) (zI x2) (0 : Int32) ((32 : Int32) * zI x2) (wr μ 34 2 (0 : Int32))) else some ((-1 : Int32), wr μ 34 2 (0 : Int32))) else some ((-1 : Int32), wr μ 34 2 (0 : Int32)) := by
    rw [Mo_reach, bnd_ap, m_isSpace hSB.2.1 hSB.2.2.1 i1, bp_some, bI_if, m_isSpace hSB.2.1 hSB.2.2.1 i2, bp_some, bI_if, bnd_ap, bnd_ap]
  rw [cl, mo]
  by_cases z1 : 0 ≤ x1 ∧ x1 < (n : Int)
  · rw [if_pos (decide_eq_true z1), if_pos (decide_eq_true z1)]
    by_cases z2 : 0 ≤ x2 ∧ x2 < (n : Int)
    · rw [if_pos (decide_eq_true z2), if_pos (decide_eq_true z2)]
      obtain ⟨s1, rfl⟩ : ∃ s1 : Nat, x1 = (s1 : Int) := ⟨x1.toNat, by omega⟩
      obtain ⟨s2, rfl⟩ : ∃ s2 : Nat, x2 = (s2 : Int) := ⟨x2.toNat, by omega⟩
      have t1 := c_reach_l hW hC (s1 := s1) (s2 := s2) (by omega) (by omega) bn 0 FU 0 (by omega) (FU_gt (by omega))
      have t2 := m_reach_l f1 hW hM (s1 := s1) (s2 := s2) (by omega) (by omega) 32 0 FU 0 (by omega) (FU_gt (by omega))
      rw [sum_space hC _ (show s2 < 6 by omega)] at t1
      simp only [Nat.zero_add] at t1 t2
      have z0 : zI ((0 : Nat) : Int) = (0 : Int32) := rfl
      have e32 : (32 : Int32) * zI (s2 : Int) = zI ((32 * s2 + 0 : Nat) : Int) := by rw [show (32 : Int32) = zI 32 from rfl, zI_mul]; congr 1
      rw [z0] at t1
      rw [z0, ← e32, f2] at t2
      exact ⟨_, _, by rw [Qu_pagesBeneath, bnd_ap, bnd_ap, t1, bp_some], t2, iw⟩
    · rw [if_neg (by rw [decide_eq_true_eq]; exact z2), if_neg (by rw [decide_eq_true_eq]; exact z2)]
      exact ⟨_, _, rfl, rfl, iw⟩
  · rw [if_neg (by rw [decide_eq_true_eq]; exact z1), if_neg (by rw [decide_eq_true_eq]; exact z1)]
    exact ⟨_, _, rfl, rfl, iw⟩
