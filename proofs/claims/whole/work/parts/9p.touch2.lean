/-! ===== touch answers alike ===== -/
theorem c_isPlace {M : Mem} {δ : Sl} {n S : Nat} {qv : Nat → Int} (h : SK M δ n S qv) (hn : SN n S qv) {x y : Int} (hx : i32 x) (hy : i32 y) : Wo_isPlace M δ (zI x) (zI y) = some (bI (decide (0 ≤ x ∧ x < (n : Int)) && decide (0 ≤ y ∧ y < (S : Int)))) := by
  obtain ⟨k, k1, k2, k3, k4, k5⟩ := id h
  obtain ⟨g1, g2, g3⟩ := id hn
  obtain ⟨y1, y2⟩ := hy
  rw [Wo_isPlace, c_isSpace h hn hx, bp_some, bI_if]
  by_cases c1 : 0 ≤ x ∧ x < (n : Int)
  · rw [decide_eq_true c1, if_pos rfl, Bool.true_and]
    by_cases c2 : y < 0
    · rw [if_pos (by rw [zI_lit, zI_lt (by omega) (by omega) (by omega) (by omega)]; exact c2), decide_eq_false (by omega)]; rfl
    · rw [if_neg (by rw [zI_lit, zI_lt (by omega) (by omega) (by omega) (by omega)]; exact c2), k1, gref_z k2, k4]
      by_cases c3 : (S : Int) ≤ y
      · rw [if_pos (by rw [zI_le (by omega) (by omega) (by omega) (by omega)]; exact c3), decide_eq_false (by omega)]; rfl
      · rw [if_neg (by rw [zI_le (by omega) (by omega) (by omega) (by omega)]; exact c3), decide_eq_true (by omega)]; rfl
  · rw [decide_eq_false c1, if_neg (by simp), Bool.false_and]; rfl
/-- what a page has that may be used so -/
def hsB (A : Ab) (q : Nat) (r : Int) : Bool := match cov A q with
  | none => false
  | some d => decide (la (A.1 2 d) r ≠ 0)
theorem m_has {n S : Nat} {A : Ab} {dep : Nat → Nat} {μ : Sl} {b : Nat} {B : Nat → Int} (hb : MB μ b) (h : WF n S A dep) (hM : MRep B A) {s p : Nat} {r : Int} (hs : s < 6) (hp : p < 32) (hr1 : 0 ≤ r) (hr2 : r ≤ 7) : Mo_has (bst μ b B) (zI (s : Int)) (zI (p : Int)) (zI r) = some (bI (hsB A (32 * s + p) r)) := by
  have hc := m_cover hb (MR_0 h hM) (s := (s : Int)) (p := (p : Int)) (by omega) (by omega) (by omega) (by omega)
  rw [show (32 * (s : Int) + (p : Int)).toNat = 32 * s + p by omega] at hc
  rw [Mo_has, hc, bp_some, bnd_ap]
  unfold hsB
  cases hcv : cov A (32 * s + p) with
  | none => rw [show cv none = (-1 : Int) from rfl, if_pos (by decide)]; rfl
  | some d =>
    have hd := cs_some (by omega) hcv
    have hd1 := hd.1.1
    have e2 := (hM.2.1 d hd.1).2.1
    have hwa := h.2.2.2.1 d hd.1
    have h2a : 0 ≤ A.1 2 d ∧ A.1 2 d ≤ 7 := ⟨hwa.2.2.2.2.2.2.2.1, hwa.2.2.2.2.2.2.2.2.1⟩
    obtain ⟨l1, l2, l3⟩ := zI_and7 h2a.1 h2a.2 hr1 hr2
    have o := m_of hb B (k := ((384 + d : Nat) : Int)) (by omega) (by omega)
    rw [Int.toNat_natCast, e2] at o
    rw [show cv (some d) = (d : Int) from rfl, if_neg (by rw [zI_lit, zI_lt (by omega) (by omega) (by omega) (by omega)]; omega), show (384 : Int32) = zI 384 from rfl, zI_add, show (384 : Int) + (d : Int) = ((384 + d : Nat) : Int) by omega, o, bp_some, l1]
    show (if zI (la (A.1 2 d) r) = 0 then some 0 else some 1) = some (bI (decide (la (A.1 2 d) r ≠ 0)))
    by_cases c : la (A.1 2 d) r = 0
    · rw [if_pos (by rw [c]; rfl), decide_eq_false (by simp [c])]; rfl
    · rw [if_neg (by rw [zI_lit, zI_eq (by omega) (by omega) (by omega) (by omega)]; exact c), decide_eq_true c]; rfl
def TOut (ee : Int × Int) (n S : Nat) (δ : Sl) (μ : Sl) (b : Nat) (B : Nat → Int) (A : Ab) (dep : Nat → Nat) (σ : Nat → Nat) (bn : Nat) (J : List Jb) (N : Int) (R1 R2 : Option (Int32 × Sl)) : Prop :=
  ∃ v δ' B' A', R1 = some (zI v, δ') ∧ R2 = some (zI v, bst μ b B') ∧ -6 ≤ v ∧ v ≤ 192 ∧ v ≠ -1 ∧ RC n S δ' σ bn B' A' dep J N ∧ WX ee n S δ' B' ∧ δ' 10 0 = δ 10 0 ∧ B' 2196 ≤ B 2196 + 1 ∧ QMq μ n S B B'
theorem touch_on {ee : Int × Int} {n S : Nat} {A : Ab} {dep : Nat → Nat} {δ : Sl} {σ : Nat → Nat} {bn : Nat} {M : Mem} {μ : Sl} {b : Nat} {B : Nat → Int} {qv pv : Nat → Int} {J : List Jb} {N : Int} (hR : RC n S δ σ bn B A dep J N) (hX : WX ee n S δ B) (hb : MB μ b) (hK : SK M δ n S qv) (hn : SN n S qv) (hpk : PK M δ n pv) (hpm : PM μ n pv) (hpn : PN n pv) {s p : Nat} {r : Int} (hs : s < n) (hp : p < S) (hr : r = 1 ∨ r = 2 ∨ r = 4) (hw : B (2172 + s) = 0) :
    TOut ee n S δ μ b B A dep σ bn J N (Wo_touchPage M δ (zI (s : Int)) (zI (p : Int)) (zI r)) (Mo_touched (bst μ b B) (zI (s : Int)) (zI (p : Int)) (zI r)) := by
  obtain ⟨g1, g2, g3⟩ := id hn
  have hs6 : s < 6 := by omega
  have hp32 : p < 32 := by omega
  have h := hR.1
  have hC := hR.2.1
  have hM := hR.2.2.1
  have hip := c_isPlace hK hn (x := (s : Int)) (y := (p : Int)) ⟨by omega, by omega⟩ ⟨by omega, by omega⟩
  rw [decide_eq_true (show 0 ≤ (s : Int) ∧ (s : Int) < (n : Int) by omega), decide_eq_true (show 0 ≤ (p : Int) ∧ (p : Int) < (S : Int) by omega)] at hip
  have h14 : δ 14 s = zI 0 := by
    rcases hX.1 s hs6 with z | z
    · exact z.2
    · have := z.1; omega
  have hib : inb (zI (s : Int)) 6 := by rw [zI_inb (by omega) (by omega)]; omega
  have hcl : Wo_touchPage M δ (zI (s : Int)) (zI (p : Int)) (zI r) = Wo_touchPage_24 M (zI (s : Int)) (zI (p : Int)) (zI r) δ := by
    rw [Wo_touchPage, hip, bp_some, bI_if, if_pos (by rfl)]
    rcases hr with rfl | rfl | rfl
    · rw [if_pos (by rfl)]
    · rw [if_neg (by decide), if_pos (by rfl)]
    · rw [if_neg (by decide), if_neg (by decide), if_pos (by rfl)]
  have hfd := cr_find hC.2.1 (s := (s : Int)) (p := (p : Int)) (by omega) (by omega) (by omega) (by omega)
  rw [show (32 * (s : Int) + (p : Int)).toNat = 32 * s + p by omega] at hfd
  have hhas := m_has hb h hM (s := s) (p := p) (r := r) hs6 hp32 (by omega) (by omega)
  obtain ⟨k, k1, k2, k3⟩ := hpk
  have hpv := hpn s hs
  have h99 : hsB A (32 * s + p) r = false → TOut ee n S δ μ b B A dep σ bn J N (Wo_touchPage_99 M (zI (s : Int)) (zI (p : Int)) (zI r) δ) (Mo_touched (bst μ b B) (zI (s : Int)) (zI (p : Int)) (zI r)) := fun hf => by
    have hc : Wo_touchPage_99 M (zI (s : Int)) (zI (p : Int)) (zI r) δ = if 0 ≤ pv s then some (zI (-2), wtS δ s p r (B 2196 + 1)) else some (zI (-3), δ) := by
      rw [Wo_touchPage_99, k1, gref_z k2, if_pos hib, zI_ix (by omega) (by omega), Int.toNat_natCast, k3 s hs]
      by_cases c : 0 ≤ pv s
      · rw [if_pos (by rw [zI_lit, zI_le (by omega) (by omega) (by omega) (by omega)]; exact c), if_pos c, c_wait hs6 hX.2.2.1.1, bd_some]; rfl
      · rw [if_neg (by rw [zI_lit, zI_le (by omega) (by omega) (by omega) (by omega)]; exact c), if_neg c]; rfl
    have hm : Mo_touched (bst μ b B) (zI (s : Int)) (zI (p : Int)) (zI r) = if 0 ≤ pv s then some (zI (-2), bst μ b (wtB B s p r)) else some (zI (-3), bst μ b B) := by
      have e38 : bst μ b B 38 s = zI (pv s) := by rw [bst_ne _ _ _ (by decide)]; exact hpm s hs
      rw [Mo_touched, hhas, bp_some, bI_if, hf, if_neg (by simp), if_pos (by rw [zI_inb (by omega) (by omega)]; omega), zI_ix (by omega) (by omega), Int.toNat_natCast, e38]
      by_cases c : 0 ≤ pv s
      · rw [if_pos (by rw [zI_lit, zI_le (by omega) (by omega) (by omega) (by omega)]; exact c), if_pos c, m_wait hb hs6, bd_some]; rfl
      · rw [if_neg (by rw [zI_lit, zI_le (by omega) (by omega) (by omega) (by omega)]; exact c), if_neg c]; rfl
    by_cases c : 0 ≤ pv s
    · rw [if_pos c] at hc hm
      refine ⟨-2, _, _, A, hc, hm, by omega, by omega, by omega, wt_RC hR hs6, wt_WX hX hs6 hs hw (by omega) (by omega) hr, ?_, ?_, QMq.same h.1 (fun k hk => ?_)⟩
      · unfold wtS; simp only [wr_ap]; simp (disch := omega) only [if_neg]
      · unfold wtB; simp only [upB_ap]; simp (disch := omega) only [if_neg, if_pos]; simp
      · unfold wtB; simp only [upB_ap]; simp (disch := omega) only [if_neg]
    · rw [if_neg c] at hc hm
      exact ⟨-3, _, _, A, hc, hm, by omega, by omega, by omega, hR, hX, rfl, by omega, QMq.refl _ _ _ _⟩
  rw [hcl, Wo_touchPage_24, if_pos hib, zI_ix (by omega) (by omega), Int.toNat_natCast, h14, if_pos (show zI 0 = 0 from rfl), hfd, bp_some, bnd_ap]
  cases hcv : cov A (32 * s + p) with
  | none =>
    rw [show sc σ none = (-1 : Int) from rfl, if_pos (by decide)]
    exact h99 (by unfold hsB; rw [hcv])
  | some d =>
    obtain ⟨d1, d2, d3⟩ := cs_some (by omega) hcv
    have hd192 := d1.1
    have b1 := cr_lt hC d1
    have hwa := h.2.2.2.1 d d1
    have h2a : 0 ≤ A.1 2 d ∧ A.1 2 d ≤ 7 := ⟨hwa.2.2.2.2.2.2.2.1, hwa.2.2.2.2.2.2.2.2.1⟩
    have h8a : 0 ≤ A.1 8 d ∧ A.1 8 d ≤ 1266679808 := ⟨hwa.2.2.2.2.2.2.2.2.2.1, hwa.2.2.2.2.2.2.2.2.2.2⟩
    have h1a : 0 ≤ A.1 1 d ∧ A.1 1 d + pgs A d ≤ S := ⟨hwa.2.2.2.2.1, hwa.2.2.2.2.2.2.1⟩
    have hm32 := hwa.2.2.2.1
    have hS32 := h.2.1
    obtain ⟨l1, l2, l3⟩ := zI_and7 (c := r) h2a.1 h2a.2 (by omega) (by omega)
    have hcf := hC.2.2.1 d d1
    have hibd : inb (zI (σ d : Int)) 192 := by rw [zI_inb (by omega) (by omega)]; omega
    rw [show sc σ (some d) = (σ d : Int) from rfl, if_neg (by rw [zI_lit, zI_lt (by omega) (by omega) (by omega) (by omega)]; omega), if_pos hibd, zI_ix (by omega) (by omega), Int.toNat_natCast, hcf.2.2.2.2.1, l1]
    by_cases c : la (A.1 2 d) r = 0
    · rw [if_pos (by rw [c]; rfl)]
      exact h99 (by unfold hsB; rw [hcv]; exact decide_eq_false (by simp [c]))
    · rw [if_neg (by rw [zI_lit, zI_eq (by omega) (by omega) (by omega) (by omega)]; exact c), if_pos hibd, hcf.2.2.2.2.2.2.2.2]
      obtain ⟨a, ha⟩ : ∃ a : Nat, A.1 8 d = (a : Int) := ⟨(A.1 8 d).toNat, by omega⟩
      rw [ha] at h8a ⊢
      have hF := F_add (a := a) (b := 1065353216) (by omega) (by omega)
      have hone := ad_one (a := a) (by omega)
      have hF2 : (FP.fadd (zI (a : Int)).toUInt32 FP.fconst1).toInt32 = zI (sdB a 1065353216 : Int) := hF.2
      have hv := RC_age hR (x := d) (v := (sdB a 1065353216 : Int)) d1 (by omega) (by omega)
      have hfr : Qu_frameAt (wr δ 31 (σ d) (zI (sdB a 1065353216 : Int))) (zI (σ d : Int)) (zI (p : Int)) = some (zI (A.1 1 d + (p : Int) - ((d % 32 : Nat) : Int))) := by
        have e1 : wr δ 31 (σ d) (zI (sdB a 1065353216 : Int)) 20 (σ d) = zI (A.1 1 d) := by rw [wr_ap, if_neg (by omega)]; exact hcf.2.2.1
        have e2 : wr δ 31 (σ d) (zI (sdB a 1065353216 : Int)) 19 (σ d) = zI ((d % 32 : Nat) : Int) := by rw [wr_ap, if_neg (by omega)]; exact hcf.2.1
        rw [Qu_frameAt, if_pos hibd, if_pos hibd, zI_ix (by omega) (by omega), Int.toNat_natCast, e1, e2, zI_add, zI_sub]
      have hcov := m_cover hb (MR_0 h hM) (s := (s : Int)) (p := (p : Int)) (by omega) (by omega) (by omega) (by omega)
      rw [show (32 * (s : Int) + (p : Int)).toNat = 32 * s + p by omega, hcv] at hcov
      have hcov2 := m_cover hb (MR_0 hv.1 hv.2.2.1) (s := (s : Int)) (p := (p : Int)) (by omega) (by omega) (by omega) (by omega)
      have hcv2 : cov (setA A 8 d (sdB a 1065353216 : Int)) (32 * s + p) = some d := by
        have : cov (setA A 8 d (sdB a 1065353216 : Int)) (32 * s + p) = cov A (32 * s + p) := by unfold cov; rw [setA_ne _ _ (by omega), setA_ne _ _ (by omega), setA_ne _ _ (by omega), setA_ne _ _ (by omega)]
        rw [this]; exact hcv
      rw [show (32 * (s : Int) + (p : Int)).toNat = 32 * s + p by omega, hcv2] at hcov2
      have o1 := m_of hb B (k := ((1536 + d : Nat) : Int)) (by omega) (by omega)
      rw [Int.toNat_natCast, (hM.2.1 d d1).2.2.2.1, ha] at o1
      have o2 := m_lay hb B (k := ((1536 + d : Nat) : Int)) (sdB a 1065353216 : Int) (by omega) (by omega)
      rw [Int.toNat_natCast] at o2
      have o3 := m_of hb (upB B (1536 + d) (sdB a 1065353216 : Int)) (k := ((192 + d : Nat) : Int)) (by omega) (by omega)
      rw [Int.toNat_natCast, upB_ap, if_neg (by omega), (hM.2.1 d d1).1] at o3
      have hmt : Mo_touched (bst μ b B) (zI (s : Int)) (zI (p : Int)) (zI r) = some (zI (A.1 1 d + 32 * (s : Int) + (p : Int) - (d : Int)), bst μ b (upB B (1536 + d) (sdB a 1065353216 : Int))) := by
        have hF1 : Mo_added (zI (a : Int)) (1065353216 : Int32) = some (zI (sdB a 1065353216 : Int)) := hF.1
        rw [Mo_touched, hhas, bp_some, bI_if, if_pos (show hsB A (32 * s + p) r = true by unfold hsB; rw [hcv]; exact decide_eq_true c), hcov, bp_some, bnd_ap, show cv (some d) = (d : Int) from rfl, show (1536 : Int32) = zI 1536 from rfl, zI_add, show (1536 : Int) + (d : Int) = ((1536 + d : Nat) : Int) by omega, o1, bp_some, hF1, bp_some, o2, bd_some, Mo_frameAt, hcov2, bp_some, bnd_ap, show cv (some d) = (d : Int) from rfl, if_pos (by rw [zI_lit, zI_le (by omega) (by omega) (by omega) (by omega)]; omega), show (192 : Int32) = zI 192 from rfl, zI_add, show (192 : Int) + (d : Int) = ((192 + d : Nat) : Int) by omega, o3, bp_some, bp_some, show (32 : Int32) = zI 32 from rfl, zI_mul, zI_add, zI_add, zI_sub]
      have hval : A.1 1 d + 32 * (s : Int) + (p : Int) - (d : Int) = A.1 1 d + (p : Int) - ((d % 32 : Nat) : Int) := by omega
      rw [hval] at hmt
      refine ⟨_, _, _, _, ?_, hmt, by omega, by omega, by omega, hv, WX_keep hX (fun a i ha => by rw [wr_ap, if_neg (by omega)]) (fun i hi => by rw [wr_ap, if_neg (by omega)]) (fun k g1 g2 g3 g4 => by rw [upB_ap, if_neg (by omega)]) ?_ ?_, by rw [wr_ap, if_neg (by omega)], by rw [upB_ap, if_neg (by omega)]; omega, QMq.same h.1 (fun k hk => by rw [upB_ap, if_neg (by omega)])⟩
      · rw [if_pos (nn_of (k := sdB a 1065353216) (by omega) hF2), if_pos hibd, bnd_ap, hF2, hfr, bp_some]
      · rw [wr_ap, if_neg (by omega), upB_ap, if_neg (by omega)]; exact hX.2.2.2.1.2.2.1
      · rw [wr_ap, if_neg (by omega), upB_ap, if_neg (by omega)]; exact hX.2.2.2.1.2.2.2
