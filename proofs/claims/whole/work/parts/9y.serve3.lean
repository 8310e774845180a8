/-! ===== serve: the theorem ===== -/
theorem add_QL {n S : Nat} {A : Ab} {dep : Nat → Nat} {qv : Nat → Int} {B B' : Nat → Int} {s p : Nat} {f r g w : Int} (h : WF n S A dep) (hs : s < 6) (hp : p < 32) (hM : MRep B A) (hM' : MRep B' (aAdd A (32 * s + p) 1 f r g w)) (hq : qxB A qv s 1 = false) : QL n qv B B' := fun s' h1 h2 => by
  have hn := h.1
  rw [pgF_MR hM (by omega), pgF_MR hM' (by omega)]
  have eA : (aAdd A (32 * s + p) 1 f r g w).1 0 = updF (A.1 0) (32 * s + p) 1 := by
    funext y
    unfold aAdd updF
    dsimp only
    by_cases z : y = 32 * s + p
    · rw [if_pos z, if_pos z, if_pos rfl]
    · rw [if_neg z, if_neg z]
  rw [eA]
  have u := pgF_upd (A.1 0) (d := 32 * s + p) 1 s'
  rw [show (32 * s + p) / 32 = s by omega] at u
  have e1 : pg 1 = 1 := rfl
  rw [e1] at u
  by_cases z : s = s'
  · right
    rw [if_pos z, if_pos z] at u
    unfold qxB at hq
    rw [decide_eq_false_iff_not, z, ← pgF_pgc h (by omega)] at hq
    omega
  · left
    rw [if_neg z, if_neg z] at u
    omega
theorem WO_of {ee : Int × Int} {n S : Nat} {δ δ1 μ μ1 : Sl} {b : Nat} {B B1 : Nat → Int} {J : List Jb} {N : Int} {R1 R2 : Option (Int32 × Sl)} (h : WM ee n S δ1 μ1 b B1 J N R1 R2) (e1 : δ1 10 0 = δ 10 0) (e2 : SC μ μ1) (e3 : B1 2196 = B 2196) (e4 : QMq μ n S B B1) : WM ee n S δ μ b B J N R1 R2 := by
  obtain ⟨v, δ', σ', bn', μ', B', A', dep', r1, r2, r3, r4, r5, r6, r7, r9, r10⟩ := h
  exact ⟨v, δ', σ', bn', μ', B', A', dep', r1, r2, r3, r4, r5, SC_trans e2 r6, by rw [r7, e1], by rw [← e3]; exact r9, QMq.trans e4 e2 r10⟩
theorem bd_eta (R : Option (Int32 × Sl)) : (bd R fun r d => some (r, d)) = R := by
  cases R with
  | none => rfl
  | some x => rfl
theorem WX_go {ee : Int × Int} {n S : Nat} {δ δ' : Sl} {B B' : Nat → Int} (h : WX ee n S δ B) (e1 : ∀ a i, a ≠ 15 → a < 17 → δ' a i = δ a i) (e2 : ∀ k, 2172 ≤ k → k ≠ 2198 → B' k = B k) (e3 : δ' 17 19 = zI (B' 2198)) : WX ee n S δ' B' :=
  WX_keep h (fun a i ha => e1 a i (by omega) (by omega)) (fun i _ => e1 10 i (by omega) (by omega)) (fun k g1 _ g3 _ => e2 k g1 g3) (by rw [e1 _ _ (by omega) (by omega), e2 _ (by omega) (by omega)]; exact h.2.2.2.1.2.2.1) e3
def r1v (r : Int) : Int := if r = 1 then 1 else r + 1
def srvC (M : Mem) (a s p r q : Int32) (d2 : Sl) : Option (Int32 × Sl) :=
  bp (Wo_withRight M d2 a q r) fun r3 =>
    bnd r3 fun v6_4 =>
    if 0 ≤ v6_4 then
      (if inb v6_4 192 then
      bd (Wo_addHeir M d2 v6_4 q s p (0 : Int32) ((d2 22 (ix v6_4)) &&& (r ||| (1 : Int32)))) fun r5 d6 =>
      bnd r5 fun v8_7 =>
      if 0 ≤ v8_7 then
        (if inb v8_7 192 then
        bnd (wr d6 31 (ix v8_7) (FP.fconst1).toInt32) fun d8 =>
        if inb s 6 then
        bnd (wr d8 14 (ix s) (0 : Int32)) fun d9 =>
        if inb v8_7 192 then
        some ((d9 20 (ix v8_7)), d9)
        else none
        else none
        else none)
      else
        (bd (Wo_refuse M d6 s) fun r10 d11 =>
        some (r10, d11))
      else none)
    else
      (bd (Wo_refuse M d2 s) fun r12 d13 =>
      some (r12, d13))
theorem serve_end {ee : Int × Int} {n S : Nat} {M : Mem} {δ : Sl} {σ : Nat → Nat} {bn : Nat} {B : Nat → Int} {A : Ab} {dep : Nat → Nat} {J : List Jb} {N : Int} {μ : Sl} {b : Nat} (hR : RC n S δ σ bn B A dep J N) (hX : WX ee n S δ B) (hb : MB μ b) {s p a q : Nat} {r : Int} (hn6 : n ≤ 6) (hs : s < n) (hp : p < S) (ha : a < n) (hq : q < S) (hr : r = 1 ∨ r = 2 ∨ r = 4) (hc : cov A (32 * s + p) = none) {qv : Nat → Int} (hm : SM μ n S qv) (hn : SN n S qv) (hqx : qxB A qv s 1 = false) :
    WM ee n S δ μ b B J N (srvC M (zI (a : Int)) (zI (s : Int)) (zI (p : Int)) (zI r) (zI (q : Int)) δ) (Mo_served_225 (zI (a : Int)) (zI (s : Int)) (zI (p : Int)) (zI r) (zI (q : Int)) (bst μ b B)) := by
  have h := hR.1
  have hC := hR.2.1
  have hM := hR.2.2.1
  have hS32 := h.2.1
  have hw := c_with M h hC (s := a) (p := q) (r := r) (by omega) (by omega) (by omega) (by omega)
  have hh := m_has hb h hM (s := a) (p := q) (r := r) (by omega) (by omega) (by omega) (by omega)
  unfold srvC
  rw [hw, bp_some, bnd_ap, Mo_served_225, hh, bp_some, bI_if]
  by_cases c1 : hsB A (32 * a + q) r = true
  · rw [if_pos c1, if_pos c1]
    obtain ⟨g, hcv⟩ : ∃ g, cov A (32 * a + q) = some g := by
      unfold hsB at c1
      cases hcv : cov A (32 * a + q) with
      | none => rw [hcv] at c1; simp at c1
      | some d => exact ⟨d, rfl⟩
    obtain ⟨d1, d2, d3⟩ := cs_some (by omega) hcv
    have hg192 := d1.1
    have b1 := cr_lt hC d1
    have hwa := h.2.2.2.1 g d1
    have h2a : 0 ≤ A.1 2 g ∧ A.1 2 g ≤ 7 := ⟨hwa.2.2.2.2.2.2.2.1, hwa.2.2.2.2.2.2.2.2.1⟩
    have h1a : 0 ≤ A.1 1 g ∧ A.1 1 g + pgs A g ≤ S := ⟨hwa.2.2.2.2.1, hwa.2.2.2.2.2.2.1⟩
    have hm32 := hwa.2.2.2.1
    have hro : zI r ||| (1 : Int32) = zI (r1v r) := by
      rcases hr with rfl | rfl | rfl <;> decide
    have hr1 : 0 ≤ r1v r ∧ r1v r ≤ 7 := by
      unfold r1v; rcases hr with rfl | rfl | rfl <;> decide
    obtain ⟨l1, l2, l3⟩ := zI_and7 (c := r1v r) h2a.1 h2a.2 hr1.1 hr1.2
    have e22 := (hC.2.2.1 g d1).2.2.2.2.1
    have hcov := m_cover hb (MR_0 h hM) (s := (a : Int)) (p := (q : Int)) (by omega) (by omega) (by omega) (by omega)
    rw [show (32 * (a : Int) + (q : Int)).toNat = 32 * a + q by omega, hcv] at hcov
    have hfrm := m_frAt hb h hM (s := a) (p := q) (by omega) (by omega)
    have hfe : fAt A (32 * a + q) = A.1 1 g + (q : Int) - ((g % 32 : Nat) : Int) := by
      unfold fAt; rw [hcv]; dsimp only; omega
    have o5 := m_of hb B (k := ((384 + g : Nat) : Int)) (by omega) (by omega)
    rw [Int.toNat_natCast, (hM.2.1 g d1).2.1] at o5
    have hAdd : AddOk n S A (32 * s + p) 1 (A.1 1 g + (q : Int) - ((g % 32 : Nat) : Int)) (la (A.1 2 g) (r1v r)) g := by
      have e1 : pg 1 = 1 := rfl
      refine ⟨by omega, by omega, by omega, by rw [e1]; omega, by omega, by rw [e1]; omega, by omega, by rw [e1]; omega, by rw [e1]; omega, l2, l3, fun e he => ?_, d1, by have := d1.2; omega, by omega, by rw [e1]; omega⟩
      rw [e1]
      rcases cs_none (WF_WS h) hc he with z | z
      · exact .inr z
      · exact .inl z
    obtain ⟨δ', σ', bn', dep', B', p1, p2, p3, p4, p5, p6, p7, p8⟩ := RC_page M hR hb (s := s) (p := p) (g := g) (fp := q) (by omega) (by omega) hAdd (by omega)
    have hib6 : inb (zI (s : Int)) 6 := by rw [zI_inb (by omega) (by omega)]; omega
    have hibv : inb (zI (σ' (32 * s + p) : Int)) 192 := by rw [zI_inb (by omega) (by omega)]; omega
    have hX1 : WX ee n S (wr δ' 31 (σ' (32 * s + p)) (zI 1065353216)) B' := WX_go hX (fun a i h15 ha => by
        rw [wr_ap, if_neg (by omega)]
        exact p6 a i h15 (by omega)) (fun k g1 g2 => p8 k (by omega)) (by rw [wr_ap, if_neg (by omega), p7, p8 _ (by omega)]; exact hX.2.2.2.1.2.2.2)
    have hX2 := st_WX hX1 (s := s) (by omega)
    have hR2 := st_RC p4 (s := s) (by omega)
    generalize hf : A.1 1 g + (q : Int) - ((g % 32 : Nat) : Int) = f at *
    have hfr : 0 ≤ f ∧ f < 32 := by omega
    have e20 : wr (wr δ' 31 (σ' (32 * s + p)) (zI 1065353216)) 14 s (zI 0) 20 (σ' (32 * s + p)) = zI f := by rw [wr_ap, if_neg (by omega), wr_ap, if_neg (by omega)]; exact p5
    refine ⟨f, _, σ', bn', μ, _, _, dep', ?_, ?_, by omega, hR2, hX2, fun _ _ _ _ _ => rfl, ?_, ?_, QMq.mk hm hn (add_QL h (by omega) (by omega) hM hR2.2.2.1 hqx)⟩
    · rw [hcv, show sc σ (some g) = (σ g : Int) from rfl, if_pos (by rw [zI_lit, zI_le (by omega) (by omega) (by omega) (by omega)]; omega), if_pos (by rw [zI_inb (by omega) (by omega)]; omega), zI_ix (by omega) (by omega), Int.toNat_natCast, e22, hro, l1, p1, bd_some, bnd_ap, if_pos (by rw [zI_lit, zI_le (by omega) (by omega) (by omega) (by omega)]; omega), if_pos hibv, bnd_ap, if_pos hib6, bnd_ap, if_pos hibv, zI_ix (by omega) (by omega), Int.toNat_natCast, zI_ix (by omega) (by omega), Int.toNat_natCast]
      have e20' : wr (wr δ' 31 (σ' (32 * s + p)) FP.fconst1.toInt32) 14 s 0 20 (σ' (32 * s + p)) = zI f := e20
      rw [e20']
      rfl
    · have hcov2 := m_frAt hb hR2.1 hR2.2.2.1 (s := s) (p := p) (by omega) (by omega)
      have hfe2 : fAt (aAdd A (32 * s + p) 1 f (la (A.1 2 g) (r1v r)) ((g : Int) + 1) 1065353216) (32 * s + p) = f := by
        have hl : Lv (aAdd A (32 * s + p) 1 f (la (A.1 2 g) (r1v r)) ((g : Int) + 1) 1065353216) (32 * s + p) := ⟨by omega, by simp [aAdd]⟩
        unfold fAt
        rw [cs_self (WF_WS hR2.1) hl]
        dsimp only
        have : (aAdd A (32 * s + p) 1 f (la (A.1 2 g) (r1v r)) ((g : Int) + 1) 1065353216).1 1 (32 * s + p) = f := by simp [aAdd]
        rw [this]; omega
      rw [hfe2] at hcov2
      have o6 := m_lay hb B' (k := ((2172 + s : Nat) : Int)) 0 (by omega) (by omega)
      rw [Int.toNat_natCast] at o6
      have o6' : Mo_lay (bst μ b B') (zI ((2172 + s : Nat) : Int)) (0 : Int32) = _ := o6
      rw [hcov, bp_some, bnd_ap, hfrm, bp_some, hfe, show cv (some g) = (g : Int) from rfl, show (384 : Int32) = zI 384 from rfl, zI_add, show (384 : Int) + (g : Int) = ((384 + g : Nat) : Int) by omega, o5, bp_some, hro, l1, show (32 : Int32) = zI 32 from rfl, zI_mul, zI_add, show 32 * (s : Int) + (p : Int) = ((32 * s + p : Nat) : Int) by omega, p2, bd_some, show (2172 : Int32) = zI 2172 from rfl, zI_add, show (2172 : Int) + (s : Int) = ((2172 + s : Nat) : Int) by omega, o6', bd_some, hcov2, bp_some]
    · rw [wr_ap, if_neg (by omega), wr_ap, if_neg (by omega)]; exact p6 _ _ (by omega) (by omega)
    · rw [upB_ap, if_neg (by omega), p8 _ (by omega)]; omega
  · rw [if_neg c1, if_neg c1, if_neg (by decide), bd_eta, bd_eta]
    exact refuse_wo M hR hX hb (by omega)
