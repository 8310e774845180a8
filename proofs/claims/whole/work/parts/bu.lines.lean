/-! ===== reading a text: pagers, quotas ===== -/
section
variable {T : Nat → Nat} {n q : Nat} {M : Mem} {μ : Sl}
/-- a write into the script that is read, one into the reference's row -/
theorem wrM_fr {a i : Nat} {v : Int32} (ha : 4 ≤ a) (ha2 : a ≤ 9) : FRc q M (wrM M q a i v) := fun j b l _ g => by rw [wrM_ap, if_neg (by omega)]
theorem RP_sp {nr : Nat} {pv wv qv : Nat → Int} {qt : Nat → Bool} (h : RP M q μ nr pv wv qv qt) : nr ≤ 6 ∧ M q 4 5 = zI (nr : Int) ∧ μ 34 12 = zI (nr : Int) ∧ ∀ s, s < nr → M q 5 s = μ 37 (6 + s) := ⟨h.1.1, h.1.2.1, h.1.2.2, fun s hs => (h.2.2 s hs).1⟩
theorem zI_6 (s : Nat) : (6 : Int32) + zI (s : Int) = zI ((6 + s : Nat) : Int) := by rw [show (6 : Int32) = zI 6 from rfl, zI_add]; congr 1
theorem SY_w {p : Nat} (h : SY T n M μ p) {M' : Mem} {μ' : Sl} (e1 : ∀ i, 4 ≤ i → i ≤ 7 → M' 0 2 i = M 0 2 i) (e2 : ∀ i, 7 ≤ i → i ≤ 10 → μ' 34 i = μ 34 i) : SY T n M' μ' p := by
  obtain ⟨h0, ⟨c1, c2, c3, c4⟩, d1, d2, d3, d4⟩ := h
  exact ⟨h0, ⟨by rw [e1 _ (by omega) (by omega)]; exact c1, by rw [e1 _ (by omega) (by omega)]; exact c2, by rw [e1 _ (by omega) (by omega)]; exact c3, fun w => by rw [e1 _ (by omega) (by omega)]; exact c4 w⟩, by rw [e2 _ (by omega) (by omega)]; exact d1, by rw [e2 _ (by omega) (by omega)]; exact d2, by rw [e2 _ (by omega) (by omega)]; exact d3, fun w => by rw [e2 _ (by omega) (by omega)]; exact d4 w⟩
theorem HS_w {p : Nat} (h : HS T n M μ p) {M' : Mem} {μ' : Sl} (e1 : M' 0 2 4 = M 0 2 4) (e2 : ∀ i, 7 ≤ i → i ≤ 10 → μ' 34 i = μ 34 i) : HS T n M' μ' p := by
  obtain ⟨h0, c1, d1, d2, d3, d4⟩ := h
  exact ⟨h0, by rw [e1]; exact c1, by rw [e2 _ (by omega) (by omega)]; exact d1, by rw [e2 _ (by omega) (by omega)]; exact d2, by rw [e2 _ (by omega) (by omega)]; exact d3, fun w => by rw [e2 _ (by omega) (by omega)]; exact d4 w⟩
theorem qu_line (hB : RBs T n q M μ) {p : Nat} (hS : SY T n M μ p) (hR : RSx M q μ) (hk : lxK T n p ≠ 0) : BO T n q p M μ (Re_readQuota M) (Mo_quotaLine μ) := by
  obtain ⟨nr, pv, wv, qv, qt, S, wb, dc, sd, tb, cs, kd, x, hP, hT, hU⟩ := hR
  have rg := lx_rg (T := T) hS.1
  have prog : p < lxN T n p := by have := rg.2.2.2.2.1 hk; omega
  obtain ⟨μ1, u1, u2, u3, u4, u5⟩ := token_on hB hS
  obtain ⟨p1, p2, p3, p4⟩ := RP_sp (RP_tk (M' := M) hP (TKc_rf M) u2)
  rcases spc_on u5 u4 p1 p2 p3 p4 with ⟨M2, μ2, g1, g2, g3, g4, g5⟩ | ⟨s, M1, μ2, g1, g2, hs, g3, t2, t3, hS1, hB1, k2⟩
  · refine .inl ⟨M2, μ2, ?_, ?_, g3, g4, FRm_tr (TKm_FR u2) g5⟩
    · rw [Re_readQuota, g1, bd_some, bnd_ap, if_neg zI_np]
    · rw [Mo_quotaLine, u1, bd_some, g2, bd_some, if_pos rfl]
  have hP1 := RP_tk (M' := M1) (μ' := μ2) hP t2 (TKm_tr u2 t3)
  obtain ⟨⟨r1, r2, r3⟩, ⟨r4, r5, r6⟩, r7⟩ := id hP1
  obtain ⟨-, -, -, y1, y2, y3, y4, y5⟩ := r7 s hs
  have tst := v6_ts qt (s := s) (by omega)
  have i12 : inb (zI ((6 + s : Nat) : Int)) 12 := zI_in (by omega) (by omega)
  have x12 : ix (zI ((6 + s : Nat) : Int)) = 6 + s := zI_ixn (by omega)
  cases hq : qt s with
  | true =>
    have e40 := y4 hq
    obtain ⟨M3, μ3, f1, f2, f3, f4, f5, -⟩ := fail_on hS1.2.1.2.2.1 hS1.2.2.2.2.1 q (3 : Int32)
    refine .inl ⟨M3, μ3, ?_, ?_, f3, FRc_tr (TKc_FR t2 q) f4, FRm_tr (TKm_FR (TKm_tr u2 t3)) f5⟩
    · rw [Re_readQuota, g1, bd_some, bnd_ap, if_pos (zI_p0 (by omega)), r4, if_neg (by rw [tst, hq]; decide), f1, bd_some, ok01]
    · rw [Mo_quotaLine, u1, bd_some, g2, bd_some, if_neg (by decide), g3, bnd_ap, zI_6, if_pos i12, x12, e40, if_neg (by rw [zI_lit, zI_le (by omega) (by omega) (by omega) (by omega)]; omega), f2, bd_some, ok01]
  | false =>
    obtain ⟨-, e40⟩ := y5 hq
    obtain ⟨μ3, v1, v2, v3, v4, v5⟩ := token_on hB1 hS1
    rcases num_on v5 v4 (lo := 1) (hi := 32) (by omega) (by omega) (by omega) (by omega) with ⟨M3, μ4, f1, f2, f3, f4, f5⟩ | ⟨v, M3, μ4, f1, f2, hv, f3, t4, t5, hS2, hB2, -⟩
    · have f1' : Re_takeNumber M1 (1 : Int32) (32 : Int32) = _ := f1
      have f2' : Mo_number μ3 (1 : Int32) (32 : Int32) = _ := f2
      refine .inl ⟨M3, μ4, ?_, ?_, f3, FRc_tr (TKc_FR t2 q) f4, FRm_tr (TKm_FR (TKm_tr (TKm_tr u2 t3) v2)) f5⟩
      · rw [Re_readQuota, g1, bd_some, bnd_ap, if_pos (zI_p0 (by omega)), r4, if_pos (tst.mpr hq), f1', bd_some, bnd_ap, if_neg zI_np]
      · rw [Mo_quotaLine, u1, bd_some, g2, bd_some, if_neg (by decide), g3, bnd_ap, zI_6, if_pos i12, x12, e40, if_pos (by decide), v1, bd_some, f2', bd_some, if_pos rfl]
    · have f1' : Re_takeNumber M1 (1 : Int32) (32 : Int32) = _ := f1
      have f2' : Mo_number μ3 (1 : Int32) (32 : Int32) = _ := f2
      have tkm : TKm μ μ4 := TKm_tr (TKm_tr (TKm_tr u2 t3) v2) t5
      have tkc : TKc M M3 := TKc_tr t2 t4
      have m10 : M3 0 2 10 = zI (q : Int) := hB2.2.2.1
      have hq2 : q < 2 := hB2.1.2.2
      have hP3 := RP_tk (M' := M3) (μ' := μ4) hP tkc tkm
      obtain ⟨⟨-, q2, q3⟩, ⟨q4, -, -⟩, q7⟩ := id hP3
      have e9 : wrM M3 q 8 s (zI v) 0 2 9 = v6 qt := by rw [wrM_ap, if_neg (by omega)]; exact q4
      have cl : Re_readQuota M = some ((1 : Int32), wrM (wrM M3 q 8 s (zI v)) 0 2 9 (v6 (upF qt s))) := by
        rw [Re_readQuota, g1, bd_some, bnd_ap, if_pos (zI_p0 (by omega)), r4, if_pos (tst.mpr hq), f1', bd_some, bnd_ap, if_pos (by rw [zI_lit, zI_le (by omega) (by omega) (by omega) (by omega)]; omega), m10, gref_z (by omega), if_pos (zI_in (by omega) (by omega)), zI_ixn (by omega), bnd_ap, e9, v6_or qt (by omega), bnd_ap]
      have mo : Mo_quotaLine μ = some ((1 : Int32), wr μ4 40 (6 + s) (zI v)) := by
        rw [Mo_quotaLine, u1, bd_some, g2, bd_some, if_neg (by decide), g3, bnd_ap, zI_6, if_pos i12, x12, e40, if_pos (by decide), v1, bd_some, f2', bd_some, if_neg (by decide), if_pos i12, f3, bnd_ap]
      have mc : ∀ j a i, ¬ (j = q ∧ a = 8 ∧ i = s) → ¬ (j = 0 ∧ a = 2 ∧ i = 9) → wrM (wrM M3 q 8 s (zI v)) 0 2 9 (v6 (upF qt s)) j a i = M3 j a i := fun j a i z1 z2 => by rw [wrM_ap, if_neg z2, wrM_ap, if_neg z1]
      have mm : ∀ a i, ¬ (a = 40 ∧ i = 6 + s) → wr μ4 40 (6 + s) (zI v) a i = μ4 a i := fun a i z => by rw [wr_ap, if_neg z]
      have n8 : wrM (wrM M3 q 8 s (zI v)) 0 2 9 (v6 (upF qt s)) q 8 s = zI v := by rw [wrM_ap, if_neg (by omega), wrM_ap, if_pos ⟨rfl, rfl, rfl⟩]
      have n9 : wrM (wrM M3 q 8 s (zI v)) 0 2 9 (v6 (upF qt s)) 0 2 9 = v6 (upF qt s) := by rw [wrM_ap, if_pos ⟨rfl, rfl, rfl⟩]
      have o40 : wr μ4 40 (6 + s) (zI v) 40 (6 + s) = zI v := by rw [wr_ap, if_pos ⟨rfl, rfl⟩]
      generalize wrM (wrM M3 q 8 s (zI v)) 0 2 9 (v6 (upF qt s)) = M4 at *
      generalize wr μ4 40 (6 + s) (zI v) = μ5 at *
      have fc : FRc q M3 M4 := fun j a i z1 z2 => mc j a i (by omega) (by omega)
      have fm : FRm μ4 μ5 := fun a i _ z _ _ _ _ => mm a i (by omega)
      have rg1 := lx_rg (T := T) hS1.1
      have hP4 : RP M4 q μ5 nr pv wv (fun i => if i = s then v else qv i) (upF qt s) := by
        refine ⟨⟨r1, by rw [mc _ _ _ (by omega) (by omega)]; exact q2, by rw [mm _ _ (by omega)]; exact q3⟩, ⟨n9, fun i hi => ?_, r6⟩, fun i hi => ?_⟩
        · unfold upF; rw [r5 i hi, decide_eq_false (by omega)]; rfl
        · unfold RPs
          dsimp only
          obtain ⟨w1, w2, w3, w4⟩ := q7 i hi
          rw [mc q 5 i (by omega) (by omega), mc q 6 i (by omega) (by omega), mc q 7 i (by omega) (by omega), mm 37 _ (by omega), mm 38 _ (by omega), mm 39 _ (by omega)]
          refine ⟨w1, w2, w3, ?_⟩
          by_cases z : i = s
          · subst z
            rw [if_pos rfl]
            refine ⟨n8, by omega, by omega, fun _ => o40, fun w => ?_⟩
            unfold upF at w
            rw [decide_eq_true rfl, Bool.or_true] at w
            cases w
          · rw [if_neg z, mc q 8 i (by omega) (by omega), mm 40 _ (by omega)]
            have : upF qt s i = qt i := by unfold upF; rw [decide_eq_false (by omega), Bool.or_false]
            rw [this]
            exact w4
      have pr1 := rg1.2.2.2.2.1 (by omega)
      have pr2 := lx_rg (T := T) (n := n) (p := lxN T n (lxN T n p)) rg1.2.2.2.1
      refine .inr ⟨M4, μ5, cl, mo, ⟨⟨_, ?_, HS_w hS2 (mc _ _ _ (by omega) (by omega)) (fun i _ _ => mm _ _ (by omega))⟩, RBs_fr hB2 fc fm, ⟨nr, pv, wv, _, _, S, wb, dc, sd, tb, cs, kd, x, hP4, RT_k (RT_tk hT tkc tkm) (fun i _ _ => mc _ _ _ (by omega) (by omega)) (mc _ _ _ (by omega) (by omega)) (fun a i _ => mm _ _ (by omega)), RU_k (RU_tk hU tkc tkm) (Nat.le_refl _) (mc _ _ _ (by omega) (by omega)) (fun i _ => mc _ _ _ (by omega) (by omega)) (mm _ _ (by omega)) (fun a i _ => mm _ _ (by omega))⟩, fun l a i _ => by rw [mc _ _ _ (by omega) (by omega), tkc _ _ _ (by omega)], fun i _ => by rw [mm _ _ (by omega), tkm _ _ (by omega)]⟩, FRc_tr (TKc_FR tkc q) fc, FRm_tr (TKm_FR tkm) fm⟩
      omega
theorem pg_line (hB : RBs T n q M μ) {p : Nat} (hS : SY T n M μ p) (hR : RSx M q μ) (hk : lxK T n p ≠ 0) : BO T n q p M μ (Re_readPager M) (Mo_pagerLine μ) := by
  obtain ⟨nr, pv, wv, qv, qt, S, wb, dc, sd, tb, cs, kd, x, hP, hT, hU⟩ := hR
  have rg := lx_rg (T := T) hS.1
  have prog : p < lxN T n p := by have := rg.2.2.2.2.1 hk; omega
  obtain ⟨μ1, u1, u2, u3, u4, u5⟩ := token_on hB hS
  obtain ⟨p1, p2, p3, p4⟩ := RP_sp (RP_tk (M' := M) hP (TKc_rf M) u2)
  rcases spc_on u5 u4 p1 p2 p3 p4 with ⟨M2, μ2, g1, g2, g3, g4, g5⟩ | ⟨s, M1, μ2, g1, g2, hs, g3, t2, t3, hS1, hB1, k2⟩
  · refine .inl ⟨M2, μ2, ?_, ?_, g3, g4, FRm_tr (TKm_FR u2) g5⟩
    · rw [Re_readPager, g1, bd_some, bnd_ap, if_neg zI_np]
    · rw [Mo_pagerLine, u1, bd_some, g2, bd_some, if_pos rfl]
  have hP1 := RP_tk (M' := M1) (μ' := μ2) hP t2 (TKm_tr u2 t3)
  obtain ⟨⟨r1, r2, r3⟩, ⟨r4, r5, r6⟩, r7⟩ := id hP1
  obtain ⟨-, ⟨y1, y2, y3, y4⟩, -⟩ := r7 s hs
  have hq2 : q < 2 := hB1.1.2.2
  have m10 : M1 0 2 10 = zI (q : Int) := hB1.2.2.1
  have i12 : inb (zI ((6 + s : Nat) : Int)) 12 := zI_in (by omega) (by omega)
  have x12 : ix (zI ((6 + s : Nat) : Int)) = 6 + s := zI_ixn (by omega)
  have i6 : inb (zI (s : Int)) 6 := zI_in (by omega) (by omega)
  have x6 : ix (zI (s : Int)) = s := zI_ixn (by omega)
  have tk1 : TKm μ μ2 := TKm_tr u2 t3
  by_cases hneg : pv s < 0
  · have np : zI (pv s) < (0 : Int32) := by rw [zI_lit, zI_lt (by omega) (by omega) (by omega) (by omega)]; exact hneg
    by_cases hs0 : s = 0
    · obtain ⟨M3, μ3, f1, f2, f3, f4, f5, -⟩ := fail_on hS1.2.1.2.2.1 hS1.2.2.2.2.1 q (5 : Int32)
      refine .inl ⟨M3, μ3, ?_, ?_, f3, FRc_tr (TKc_FR t2 q) f4, FRm_tr (TKm_FR tk1) f5⟩
      · rw [Re_readPager, g1, bd_some, bnd_ap, if_pos (zI_p0 (by omega)), m10, gref_z (by omega), if_pos i6, x6, y1, if_pos np, if_pos (by rw [hs0]; rfl), f1, bd_some, ok01]
      · rw [Mo_pagerLine, u1, bd_some, g2, bd_some, if_neg (by decide), g3, bnd_ap, if_pos (by rw [hs0]; rfl), f2, bd_some, ok01]
    have n0 : ¬ zI (s : Int) = (0 : Int32) := by rw [zI_lit, zI_eq (by omega) (by omega) (by omega) (by omega)]; omega
    obtain ⟨μ3, v1, v2, v3, v4, v5⟩ := token_on hB1 hS1
    have tk2 : TKm μ μ3 := TKm_tr tk1 v2
    obtain ⟨p1', p2', p3', p4'⟩ := RP_sp (RP_tk (M' := M1) (μ' := μ3) hP t2 tk2)
    rcases spc_on v5 v4 p1' p2' p3' p4' with ⟨M2, μ4, h1, h2, h3, h4, h5⟩ | ⟨g, M2, μ4, h1, h2, hg, h3, t4, t5, hS2, hB2, k2'⟩
    · refine .inl ⟨M2, μ4, ?_, ?_, h3, FRc_tr (TKc_FR t2 q) h4, FRm_tr (TKm_FR tk2) h5⟩
      · rw [Re_readPager, g1, bd_some, bnd_ap, if_pos (zI_p0 (by omega)), m10, gref_z (by omega), if_pos i6, x6, y1, if_pos np, if_neg n0, h1, bd_some, bnd_ap, if_neg zI_np]
      · rw [Mo_pagerLine, u1, bd_some, g2, bd_some, if_neg (by decide), g3, bnd_ap, if_neg n0, zI_6, if_pos i12, x12, y2, if_pos np, v1, bd_some, h2, bd_some, if_pos rfl]
    have tk3 : TKm μ μ4 := TKm_tr tk2 t5
    have tc3 : TKc M M2 := TKc_tr t2 t4
    by_cases hgs : g = s
    · obtain ⟨M3, μ5, f1, f2, f3, f4, f5, -⟩ := fail_on hS2.2.1.2.2.1 hS2.2.2.2.2.1 q (5 : Int32)
      refine .inl ⟨M3, μ5, ?_, ?_, f3, FRc_tr (TKc_FR tc3 q) f4, FRm_tr (TKm_FR tk3) f5⟩
      · rw [Re_readPager, g1, bd_some, bnd_ap, if_pos (zI_p0 (by omega)), m10, gref_z (by omega), if_pos i6, x6, y1, if_pos np, if_neg n0, h1, bd_some, bnd_ap, if_pos (zI_p0 (by omega)), if_pos (by rw [hgs]), f1, bd_some, ok01]
      · rw [Mo_pagerLine, u1, bd_some, g2, bd_some, if_neg (by decide), g3, bnd_ap, if_neg n0, zI_6, if_pos i12, x12, y2, if_pos np, v1, bd_some, h2, bd_some, if_neg (by decide), h3, if_pos (by rw [hgs]), f2, bd_some, ok01]
    have ngs : ¬ zI (g : Int) = zI (s : Int) := by rw [zI_eq (by omega) (by omega) (by omega) (by omega)]; omega
    have hSw : SY T n M2 (wr μ4 38 (6 + s) (zI (g : Int))) (lxN T n (lxN T n p)) := SY_w hS2 (fun _ _ _ => rfl) (fun i _ _ => by rw [wr_ap, if_neg (by omega)])
    have fmw : FRm μ4 (wr μ4 38 (6 + s) (zI (g : Int))) := fun a i _ z _ _ _ _ => by rw [wr_ap, if_neg (by omega)]
    obtain ⟨μ6, w1, w2, w3, w4, w5⟩ := token_on (RBs_fr hB2 (FRc_rf q M2) fmw) hSw
    rcases num_on w5 w4 (lo := 0) (hi := 3) (by omega) (by omega) (by omega) (by omega) with ⟨M3, μ7, f1, f2, f3, f4, f5⟩ | ⟨v, M3, μ7, f1, f2, hv, f3, t6, t7, hS3, hB3, -⟩
    · have f1' : Re_takeNumber M2 (0 : Int32) (3 : Int32) = _ := f1
      have f2' : Mo_number μ6 (0 : Int32) (3 : Int32) = _ := f2
      refine .inl ⟨M3, μ7, ?_, ?_, f3, FRc_tr (TKc_FR tc3 q) f4, FRm_tr (TKm_FR tk3) (FRm_tr fmw (FRm_tr (TKm_FR w2) f5))⟩
      · rw [Re_readPager, g1, bd_some, bnd_ap, if_pos (zI_p0 (by omega)), m10, gref_z (by omega), if_pos i6, x6, y1, if_pos np, if_neg n0, h1, bd_some, bnd_ap, if_pos (zI_p0 (by omega)), if_neg ngs, f1', bd_some, bnd_ap, if_neg zI_np]
      · rw [Mo_pagerLine, u1, bd_some, g2, bd_some, if_neg (by decide), g3, bnd_ap, if_neg n0, zI_6, if_pos i12, x12, y2, if_pos np, v1, bd_some, h2, bd_some, if_neg (by decide), h3, if_neg ngs, if_pos i12, bnd_ap, w1, bd_some, f2', bd_some, if_pos rfl]
    · have f1' : Re_takeNumber M2 (0 : Int32) (3 : Int32) = _ := f1
      have f2' : Mo_number μ6 (0 : Int32) (3 : Int32) = _ := f2
      have m10' : M3 0 2 10 = zI (q : Int) := hB3.2.2.1
      have m10'' : wrM M3 q 6 s (zI (g : Int)) 0 2 10 = zI (q : Int) := by rw [wrM_ap, if_neg (by omega)]; exact m10'
      have tc4 : TKc M M3 := TKc_tr tc3 t6
      have cl : Re_readPager M = some ((1 : Int32), wrM (wrM M3 q 6 s (zI (g : Int))) q 7 s (zI v)) := by
        rw [Re_readPager, g1, bd_some, bnd_ap, if_pos (zI_p0 (by omega)), m10, gref_z (by omega), if_pos i6, x6, y1, if_pos np, if_neg n0, h1, bd_some, bnd_ap, if_pos (zI_p0 (by omega)), if_neg ngs, f1', bd_some, bnd_ap, if_pos (by rw [zI_lit, zI_le (by omega) (by omega) (by omega) (by omega)]; omega), m10', gref_z (by omega), if_pos i6, bnd_ap, m10'', gref_z (by omega), if_pos i6, bnd_ap]
      have mo : Mo_pagerLine μ = some ((1 : Int32), wr μ7 39 (6 + s) (zI v)) := by
        rw [Mo_pagerLine, u1, bd_some, g2, bd_some, if_neg (by decide), g3, bnd_ap, if_neg n0, zI_6, if_pos i12, x12, y2, if_pos np, v1, bd_some, h2, bd_some, if_neg (by decide), h3, if_neg ngs, if_pos i12, bnd_ap, w1, bd_some, f2', bd_some, if_neg (by decide), if_pos i12, f3, bnd_ap]
      have mc : ∀ j a i, ¬ (j = q ∧ (a = 6 ∨ a = 7) ∧ i = s) → wrM (wrM M3 q 6 s (zI (g : Int))) q 7 s (zI v) j a i = M j a i ∨ (j = 0 ∧ a = 2 ∧ 4 ≤ i ∧ i ≤ 7) := fun j a i z => by
        by_cases y : j = 0 ∧ a = 2 ∧ 4 ≤ i ∧ i ≤ 7
        · exact .inr y
        · exact .inl (by rw [wrM_ap, if_neg (by omega), wrM_ap, if_neg (by omega), tc4 j a i y])
      have mc' : ∀ j a i, ¬ (j = q ∧ (a = 6 ∨ a = 7) ∧ i = s) → ¬ (j = 0 ∧ a = 2 ∧ 4 ≤ i ∧ i ≤ 7) → wrM (wrM M3 q 6 s (zI (g : Int))) q 7 s (zI v) j a i = M j a i := fun j a i z y => (mc j a i z).resolve_right y
      have m3 : ∀ j a i, ¬ (j = q ∧ (a = 6 ∨ a = 7) ∧ i = s) → wrM (wrM M3 q 6 s (zI (g : Int))) q 7 s (zI v) j a i = M3 j a i := fun j a i z => by rw [wrM_ap, if_neg (by omega), wrM_ap, if_neg (by omega)]
      have n6 : wrM (wrM M3 q 6 s (zI (g : Int))) q 7 s (zI v) q 6 s = zI (g : Int) := by rw [wrM_ap, if_neg (by omega), wrM_ap, if_pos ⟨rfl, rfl, rfl⟩]
      have n7 : wrM (wrM M3 q 6 s (zI (g : Int))) q 7 s (zI v) q 7 s = zI v := by rw [wrM_ap, if_pos ⟨rfl, rfl, rfl⟩]
      have mm : ∀ a i, ¬ ((a = 38 ∨ a = 39) ∧ i = 6 + s) → ¬ (a = 34 ∧ ((7 ≤ i ∧ i ≤ 10) ∨ i = 23)) → wr μ7 39 (6 + s) (zI v) a i = μ a i := fun a i z y => by rw [wr_ap, if_neg (by omega), t7 a i y, w2 a i y, wr_ap, if_neg (by omega), tk3 a i y]
      have m7 : ∀ a i, ¬ (a = 39 ∧ i = 6 + s) → wr μ7 39 (6 + s) (zI v) a i = μ7 a i := fun a i z => by rw [wr_ap, if_neg z]
      have o38 : wr μ7 39 (6 + s) (zI v) 38 (6 + s) = zI (g : Int) := by rw [wr_ap, if_neg (by omega), t7 _ _ (by omega), w2 _ _ (by omega), wr_ap, if_pos ⟨rfl, rfl⟩]
      have o39 : wr μ7 39 (6 + s) (zI v) 39 (6 + s) = zI v := by rw [wr_ap, if_pos ⟨rfl, rfl⟩]
      generalize wrM (wrM M3 q 6 s (zI (g : Int))) q 7 s (zI v) = M4 at *
      generalize wr μ7 39 (6 + s) (zI v) = μ8 at *
      have fc : FRc q M M4 := fun j a i z1 z2 => mc' j a i (by omega) (by omega)
      have fm : FRm μ μ8 := fun a i z1 z2 _ _ _ _ => mm a i (by omega) (by omega)
      have fc3 : FRc q M3 M4 := fun j a i z1 z2 => m3 j a i (by omega)
      have fm7 : FRm μ7 μ8 := fun a i z1 z2 _ _ _ _ => m7 a i (by omega)
      obtain ⟨⟨a1, a2, a3⟩, ⟨a4, a5, a6⟩, a7⟩ := id hP
      have hP4 : RP M4 q μ8 nr (fun i => if i = s then (g : Int) else pv i) (fun i => if i = s then v else wv i) qv qt := by
        refine ⟨⟨a1, by rw [mc' _ _ _ (by omega) (by omega)]; exact a2, by rw [mm _ _ (by omega) (by omega)]; exact a3⟩, ⟨by rw [mc' _ _ _ (by omega) (by omega)]; exact a4, a5, fun h => ?_⟩, fun i hi => ?_⟩
        · dsimp only
          rw [if_neg (by omega)]; exact a6 h
        · unfold RPs
          dsimp only
          obtain ⟨b1, b2, b3, b4⟩ := a7 i hi
          rw [mc' q 5 i (by omega) (by omega), mc' q 8 i (by omega) (by omega), mm 37 _ (by omega) (by omega), mm 40 _ (by omega) (by omega)]
          by_cases z : i = s
          · subst z
            rw [if_pos rfl, if_pos rfl]
            exact ⟨b1, ⟨n6, o38, by omega, by omega⟩, ⟨n7, o39, by omega, by omega⟩, b4⟩
          · rw [if_neg z, if_neg z, mc' q 6 i (by omega) (by omega), mc' q 7 i (by omega) (by omega), mm 38 _ (by omega) (by omega), mm 39 _ (by omega) (by omega)]
            exact ⟨b1, b2, b3, b4⟩
      have rg1 := lx_rg (T := T) hS1.1
      have rg2 := lx_rg (T := T) hS2.1
      have rg3 := lx_rg (T := T) (n := n) (p := lxN T n (lxN T n (lxN T n p))) rg2.2.2.2.1
      refine .inr ⟨M4, μ8, cl, mo, ⟨⟨_, ?_, HS_w hS3 (m3 _ _ _ (by omega)) (fun i _ _ => m7 _ _ (by omega))⟩, RBs_fr hB3 fc3 fm7, ⟨nr, _, _, qv, qt, S, wb, dc, sd, tb, cs, kd, x, hP4, RT_k hT (fun i _ _ => mc' _ _ _ (by omega) (by omega)) (mc' _ _ _ (by omega) (by omega)) (fun a i _ => mm _ _ (by omega) (by omega)), RU_k hU (Nat.le_refl _) (mc' _ _ _ (by omega) (by omega)) (fun i _ => mc' _ _ _ (by omega) (by omega)) (mm _ _ (by omega) (by omega)) (fun a i _ => mm _ _ (by omega) (by omega))⟩, fun l a i _ => mc' _ _ _ (by omega) (by omega), fun i _ => mm _ _ (by omega) (by omega)⟩, fc, fm⟩
      omega
  · have np : ¬ zI (pv s) < (0 : Int32) := by rw [zI_lit, zI_lt (by omega) (by omega) (by omega) (by omega)]; exact hneg
    have hs0 : s ≠ 0 := fun z => by rw [z] at hneg; have := r6 (by omega); omega
    have n0 : ¬ zI (s : Int) = (0 : Int32) := by rw [zI_lit, zI_eq (by omega) (by omega) (by omega) (by omega)]; omega
    obtain ⟨M3, μ3, f1, f2, f3, f4, f5, -⟩ := fail_on hS1.2.1.2.2.1 hS1.2.2.2.2.1 q (3 : Int32)
    refine .inl ⟨M3, μ3, ?_, ?_, f3, FRc_tr (TKc_FR t2 q) f4, FRm_tr (TKm_FR tk1) f5⟩
    · rw [Re_readPager, g1, bd_some, bnd_ap, if_pos (zI_p0 (by omega)), m10, gref_z (by omega), if_pos i6, x6, y1, if_neg np, f1, bd_some, ok01]
    · rw [Mo_pagerLine, u1, bd_some, g2, bd_some, if_neg (by decide), g3, bnd_ap, if_neg n0, zI_6, if_pos i12, x12, y2, if_neg np, f2, bd_some, ok01]
end
