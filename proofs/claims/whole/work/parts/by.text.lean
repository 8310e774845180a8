/-! ===== reading a text: all its lines ===== -/
section
variable {T : Nat → Nat} {n q : Nat} {M : Mem} {μ : Sl}
theorem lx_12 {p : Nat} (h : lxK T n p = 1) : lxC T n p < 12 := by
  have e : lxK T n p = lxJ T n (lxQ T n p) := rfl
  rw [e] at h
  unfold lxC lxV
  rw [h]
  show (cv (wIx T (lxQ T n p) (lxE T n (lxQ T n p) - lxQ T n p))).toNat < 12
  cases hw : wIx T (lxQ T n p) (lxE T n (lxQ T n p) - lxQ T n p) with
  | none => show ((-1 : Int)).toNat < 12; decide
  | some j =>
    have := fx_lt 12 0 j hw
    show ((j : Int)).toNat < 12
    omega
theorem lx_end {p : Nat} (hp : p = n) : lxK T n p = 0 := by
  have rg := lx_rg (T := T) (n := n) (p := p) (by omega)
  by_cases z : lxK T n p = 0
  · exact z
  · have := rg.2.2.2.2.1 z; omega
theorem st_line (hB : RBs T n q M μ) {p w : Nat} (hS : SY T n M μ p) (hR : RSx M q μ) (hk : lxK T n p = 1) (hw : 7 ≤ w) (hw2 : w ≤ 11) (hv : lxC T n p = w) : BO T n q p M μ (Re_readStep M (zI (w : Int))) (Mo_stepLine μ) := by
  have hR0 := hR
  obtain ⟨nr, pv, wv, qv, qt, S, wb, dc, sd, tb, cs, kd, x, hP, hT, hU⟩ := hR
  obtain ⟨⟨a1, a2, a3⟩, b1, b2, -⟩ := id hB
  obtain ⟨⟨r1, r2, r3⟩, -, r7⟩ := id hP
  obtain ⟨hc, hcs, hcm⟩ := hU.1
  have rg := lx_rg (T := T) hS.1
  have prog : p < lxN T n p := by have := rg.2.2.2.2.1 (by omega); omega
  by_cases z : cs < 24
  · have ev := (lx_val (T := T) (n := n) (p := p)).1 (.inl hk)
    have m9 : μ 34 9 = zI (w : Int) := by rw [hS.2.2.2.2.2 (.inl hk), ← ev, hv]
    have fc : FRc q M (wrM M q 9 (7 * cs) (zI (w : Int))) := wrM_fr (by omega) (by omega)
    have fm : FRm μ (wr μ 43 (24 + cs) (zI (w : Int))) := fun a i _ _ _ _ g _ => by rw [wr_ap, if_neg (by omega)]
    have hS0 : SY T n (wrM M q 9 (7 * cs) (zI (w : Int))) (wr μ 43 (24 + cs) (zI (w : Int))) p := SY_w hS (fun i _ _ => by rw [wrM_ap, if_neg (by omega)]) (fun i _ _ => by rw [wr_ap, if_neg (by omega)])
    have hB0 := RBs_fr hB fc fm
    obtain ⟨μ1, u1, u2, u3, u4, u5⟩ := token_on hB0 hS0
    have h0 : ST T n q M μ cs w 0 (wrM M q 9 (7 * cs) (zI (w : Int))) μ1 (fun _ => 0) (lxN T n p) := ⟨u4, u5, fun l a i _ z2 => by rw [wrM_ap, if_neg (by omega)], fun a i z1 z2 _ => by rw [u2 a i z1, wr_ap, if_neg (by omega)], ⟨by rw [wrM_ap, if_pos ⟨rfl, rfl, rfl⟩], by rw [u2 _ _ (by omega), wr_ap, if_pos ⟨rfl, rfl⟩]⟩, fun i hi => absurd hi (by omega)⟩
    have cl0 : Re_readStep M (zI (w : Int)) = (bp (Re_formOf (zI (w : Int))) fun r13 => Re_readStep_47 FU r13 (zI ((7 * cs : Nat) : Int)) (zI ((0 : Nat) : Int)) (wrM M q 9 (7 * cs) (zI (w : Int)))) := by
      have e7 : zI (cs : Int) * (7 : Int32) = zI ((7 * cs : Nat) : Int) := by rw [show (7 : Int32) = zI 7 from rfl, zI_mul]; congr 1; omega
      rw [Re_readStep, b2, gref_z (by omega), hcs, if_pos (by rw [zI_lit, zI_lt (by omega) (by omega) (by omega) (by omega)]; omega)]
      congr 1
      funext r13
      rw [gref_z (by omega), hcs, bnd_ap, gref_z (by omega), e7, if_pos (zI_in (by omega) (by omega)), zI_ixn (by omega), bnd_ap, bnd_ap]
      rfl
    have mo0 : Mo_stepLine μ = (bd (Mo_stepSpace μ1 (zI ((0 : Nat) : Int))) fun r23 d24 => if r23 = 0 then (some ((0 : Int32), d24)) else (bnd (1 : Int32) fun v2_25 => if zI (w : Int) = (7 : Int32) then (Mo_stepLine_61 (zI (w : Int)) d24) else (if zI (w : Int) = (8 : Int32) then (Mo_stepLine_61 (zI (w : Int)) d24) else (Mo_stepLine_67 (zI (w : Int)) v2_25 d24)))) := by
      have e24 : (24 : Int32) + zI (cs : Int) = zI ((24 + cs : Nat) : Int) := by rw [show (24 : Int32) = zI 24 from rfl, zI_add]; congr 1
      rw [Mo_stepLine, hcm, if_neg (by rw [zI_lit, zI_eq (by omega) (by omega) (by omega) (by omega)]; omega), m9, bnd_ap, e24, if_pos (zI_in (by omega) (by omega)), zI_ixn (by omega), bnd_ap, u1, bd_some]
      rfl
    have hn3 : ∀ s, s < nr → M q 5 s = μ 37 (6 + s) := fun s hs => (r7 s hs).1
    obtain ⟨f, ef⟩ := FU_8
    have hcase : w = 7 ∨ w = 8 ∨ w = 9 ∨ w = 10 ∨ w = 11 := by omega
    rw [ef] at cl0
    rcases hcase with rfl | rfl | rfl | rfl | rfl
    · have ff : Re_formOf (zI ((7 : Nat) : Int)) = some (51, 6) := rfl
      rw [ff, bp_some] at cl0
      exact k7_line hR0 h0 prog z hcs hcm r1 r2 r3 hn3 (f := f) cl0 mo0
    · have ff : Re_formOf (zI ((8 : Nat) : Int)) = some (52, 5) := rfl
      rw [ff, bp_some] at cl0
      exact k8_line hR0 h0 prog z hcs hcm r1 r2 r3 hn3 (f := f) cl0 mo0
    · have ff : Re_formOf (zI ((9 : Nat) : Int)) = some (53, 5) := rfl
      rw [ff, bp_some] at cl0
      exact k9_line hR0 h0 prog z hcs hcm r1 r2 r3 hn3 (f := f) cl0 mo0
    · have ff : Re_formOf (zI ((10 : Nat) : Int)) = some (54, 3) := rfl
      rw [ff, bp_some] at cl0
      exact k10_line hR0 h0 prog z hcs hcm r1 r2 r3 hn3 (f := f) cl0 mo0
    · have ff : Re_formOf (zI ((11 : Nat) : Int)) = some (55, 1) := rfl
      rw [ff, bp_some] at cl0
      exact k11_line hR0 h0 prog z hcs hcm r1 r2 r3 hn3 (f := f) cl0 mo0
  · obtain ⟨M2, μ2, g1, g2, g3, g4, g5, -⟩ := fail_on hS.2.1.2.2.1 hS.2.2.2.2.1 q (2 : Int32)
    have h6 : cs = 24 := by omega
    refine .inl ⟨M2, μ2, ?_, ?_, g3, g4, g5⟩
    · rw [Re_readStep, b2, gref_z (by omega), hcs, if_neg (by rw [zI_lit, zI_lt (by omega) (by omega) (by omega) (by omega)]; omega), g1, bd_some, ok01]
    · rw [Mo_stepLine, hcm, if_pos (by rw [h6]; rfl), g2, bd_some, ok01]
/-- what a whole line gives -/
def BL (T : Nat → Nat) (n q p : Nat) (M : Mem) (μ : Sl) (R1 : Option (Int32 × Mem)) (R2 : Option (Int32 × Sl)) : Prop := (∃ M' μ', R1 = some ((0 : Int32), M') ∧ R2 = some ((0 : Int32), μ') ∧ FL M' μ' ∧ FRc q M M' ∧ FRm μ μ') ∨ ∃ M' μ', R1 = some ((1 : Int32), M') ∧ R2 = some ((1 : Int32), μ') ∧ (∃ p', p < p' ∧ HS T n M' μ' p') ∧ RBs T n q M' μ' ∧ RSx M' q μ' ∧ M' q 4 11 = M q 4 11 + (1 : Int32) ∧ (M' 0 2 0 = M 0 2 0 ∧ M' 0 2 1 = M 0 2 1 ∧ μ' 34 4 = μ 34 4 ∧ μ' 34 5 = μ 34 5) ∧ FRc q M M' ∧ FRm μ μ'
theorem line_end {p : Nat} {R1 : Option (Int32 × Mem)} {R2 : Option (Int32 × Sl)} (h : BO T n q p M μ R1 R2) : BL T n q p M μ (bd R1 fun r d => bnd r fun v => Re_readLine_105 v d) (bd R2 fun r d => bnd r fun v => Mo_lineRead_105 v d) := by
  rcases h with ⟨M', μ', e1, e2, e3, e4, e5⟩ | ⟨M', μ', e1, e2, ⟨⟨p', hp, hH⟩, hB, hR, hl, hl2⟩, e4, e5⟩
  · refine .inl ⟨M', μ', ?_, ?_, e3, e4, e5⟩
    · rw [e1, bd_some, bnd_ap, Re_readLine_105, if_pos rfl]
    · rw [e2, bd_some, bnd_ap, Mo_lineRead_105, if_pos rfl]
  · obtain ⟨M1, t1, t2, hS1, hB1⟩ := take_on hB hH
    obtain ⟨s1, ⟨c1, c2, c3, c4⟩, d1, d2, d3, d4⟩ := id hS1
    have rg1 := lx_rg (T := T) s1
    have k5 := rg1.2.2.2.2.2
    have b2 : M1 0 2 10 = zI (q : Int) := hB1.2.2.1
    have hq : q < 2 := hB1.1.2.2
    by_cases k4 : lxK T n p' = 4
    · obtain ⟨μ1, u1, u2, u3, u4, u5⟩ := token_on hB1 hS1
      obtain ⟨nr, pv, wv, qv, qt, S, wb, dc, sd, tb, cs, kd, x, hP, hT, hU⟩ := hR
      have prog := rg1.2.2.2.2.1 (by omega)
      have mc : ∀ j a i, ¬ (j = q ∧ a = 4 ∧ i = 11) → wrM M1 q 4 11 (M1 q 4 11 + (1 : Int32)) j a i = M1 j a i := fun j a i g => by rw [wrM_ap, if_neg g]
      refine .inr ⟨wrM M1 q 4 11 (M1 q 4 11 + (1 : Int32)), μ1, ?_, ?_, ⟨lxN T n p', by omega, HS_w u4 (mc _ _ _ (by omega)) (fun _ _ _ => rfl)⟩, RBs_fr u5 (wrM_fr (by omega) (by omega)) (FRm_rf μ1), ⟨nr, pv, wv, qv, qt, S, wb, dc, sd, tb, cs, kd, x, RP_k (RP_tk hP t2 u2) (fun a i _ => mc _ _ _ (by omega)) (mc _ _ _ (by omega)) (fun _ _ _ => rfl), RT_k (RT_tk hT t2 u2) (fun i _ _ => mc _ _ _ (by omega)) (mc _ _ _ (by omega)) (fun _ _ _ => rfl), RU_k (RU_tk hU t2 u2) (Nat.le_refl _) (mc _ _ _ (by omega)) (fun i _ => mc _ _ _ (by omega)) rfl (fun _ _ _ => rfl)⟩, by rw [wrM_ap, if_pos ⟨rfl, rfl, rfl⟩, t2 _ _ _ (by omega), hl _ _ _ (by omega)], ⟨by rw [mc _ _ _ (by omega), t2 _ _ _ (by omega), hl _ _ _ (by omega)], by rw [mc _ _ _ (by omega), t2 _ _ _ (by omega), hl _ _ _ (by omega)], by rw [u2 _ _ (by omega), hl2 _ (by omega)], by rw [u2 _ _ (by omega), hl2 _ (by omega)]⟩, FRc_tr e4 (FRc_tr (TKc_FR t2 q) (wrM_fr (by omega) (by omega))), FRm_tr e5 (TKm_FR u2)⟩
      · rw [e1, bd_some, bnd_ap, Re_readLine_105, if_neg (by decide), t1, bd_some, if_pos (by rw [c2, k4]; rfl), b2, gref_z (by omega), bnd_ap]
      · rw [e2, bd_some, bnd_ap, Mo_lineRead_105, if_neg (by decide), if_pos (by rw [d2, k4]; rfl), u1, bd_some]
    · obtain ⟨M2, μ2, g1, g2, g3, g4, g5, -⟩ := fail_on c3 d3 q (1 : Int32)
      have e5' : ¬ M1 0 2 5 = (4 : Int32) := by
        have := kcv_eq k5 4 (by omega)
        rw [c2]; intro z; exact k4 (by rw [← this]; exact z)
      have e8 : ¬ μ' 34 8 = (4 : Int32) := by
        have := k_eq k5 4 (by omega)
        rw [d2]; intro z; exact k4 (by rw [← this]; exact z)
      refine .inl ⟨M2, μ2, ?_, ?_, g3, FRc_tr e4 (FRc_tr (TKc_FR t2 q) g4), FRm_tr e5 g5⟩
      · rw [e1, bd_some, bnd_ap, Re_readLine_105, if_neg (by decide), t1, bd_some, if_neg e5', g1, bd_some, ok01]
      · rw [e2, bd_some, bnd_ap, Mo_lineRead_105, if_neg (by decide), if_neg e8, g2, bd_some, ok01]
theorem line_on (hB : RBs T n q M μ) {p : Nat} (hS : SY T n M μ p) (hR : RSx M q μ) (hk : lxK T n p ≠ 0) : BL T n q p M μ (Re_readLine M) (Mo_lineRead μ) := by
  obtain ⟨s1, ⟨c1, c2, c3, c4⟩, d1, d2, d3, d4⟩ := id hS
  have rg1 := lx_rg (T := T) s1
  have k5 := rg1.2.2.2.2.2
  by_cases k1 : lxK T n p = 1
  · have e5 : M 0 2 5 = (2 : Int32) := by rw [c2, k1]; rfl
    have e8 : μ 34 8 = (1 : Int32) := by rw [d2, k1]; rfl
    have ev := (lx_val (T := T) (n := n) (p := p)).1 (.inl k1)
    have e7 := c4 (.inl k1)
    have e9 := d4 (.inl k1)
    rw [← ev] at e9
    have h12 := lx_12 k1
    obtain ⟨w, hw⟩ : ∃ w, lxC T n p = w := ⟨_, rfl⟩
    rw [hw] at e7 e9 h12
    have hcase : w = 0 ∨ w = 1 ∨ w = 2 ∨ w = 3 ∨ w = 4 ∨ w = 5 ∨ w = 6 ∨ (7 ≤ w ∧ w ≤ 11) := by omega
    rw [Re_readLine, if_pos e5, Mo_lineRead, if_pos e8, e7, e9]
    rcases hcase with rfl | rfl | rfl | rfl | rfl | rfl | rfl | ⟨h7, h11⟩
    · rw [if_pos (by decide), if_pos (by decide)]
      exact line_end (sp_line hB hS hR hk)
    · rw [if_neg (by decide), if_pos (by decide), if_neg (by decide), if_pos (by decide)]
      exact line_end (pg_line hB hS hR hk)
    · rw [if_neg (by decide), if_neg (by decide), if_pos (by decide), if_neg (by decide), if_neg (by decide), if_pos (by decide)]
      exact line_end (qu_line hB hS hR hk)
    · rw [if_neg (by decide), if_neg (by decide), if_neg (by decide), if_pos (by decide), if_neg (by decide), if_neg (by decide), if_neg (by decide), if_pos (by decide)]
      exact line_end (sz_line hB hS hR k1 hw)
    · rw [if_neg (by decide), if_neg (by decide), if_neg (by decide), if_neg (by decide), if_pos (by decide), if_neg (by decide), if_neg (by decide), if_neg (by decide), if_neg (by decide), if_pos (by decide)]
      exact line_end (wd_line hB hS hR k1 (by omega) (by omega) hw)
    · rw [if_neg (by decide), if_neg (by decide), if_neg (by decide), if_neg (by decide), if_neg (by decide), if_pos (by decide), if_neg (by decide), if_neg (by decide), if_neg (by decide), if_neg (by decide), if_neg (by decide), if_pos (by decide)]
      exact line_end (wd_line hB hS hR k1 (by omega) (by omega) hw)
    · rw [if_neg (by decide), if_neg (by decide), if_neg (by decide), if_neg (by decide), if_neg (by decide), if_neg (by decide), if_pos (by decide), if_neg (by decide), if_neg (by decide), if_neg (by decide), if_neg (by decide), if_neg (by decide), if_neg (by decide), if_pos (by decide)]
      exact line_end (wd_line hB hS hR k1 (by omega) (by omega) hw)
    · have ng : ∀ k : Nat, k < 7 → ¬ zI (w : Int) = zI (k : Int) := fun k hk => by rw [zI_eq (by omega) (by omega) (by omega) (by omega)]; omega
      rw [if_neg (show ¬ zI (w : Int) = (0 : Int32) from ng 0 (by omega)), if_neg (show ¬ zI (w : Int) = (1 : Int32) from ng 1 (by omega)), if_neg (show ¬ zI (w : Int) = (2 : Int32) from ng 2 (by omega)), if_neg (show ¬ zI (w : Int) = (3 : Int32) from ng 3 (by omega)), if_neg (show ¬ zI (w : Int) = (4 : Int32) from ng 4 (by omega)), if_neg (show ¬ zI (w : Int) = (5 : Int32) from ng 5 (by omega)), if_neg (show ¬ zI (w : Int) = (6 : Int32) from ng 6 (by omega)), if_neg (show ¬ zI (w : Int) = (0 : Int32) from ng 0 (by omega)), if_neg (show ¬ zI (w : Int) = (1 : Int32) from ng 1 (by omega)), if_neg (show ¬ zI (w : Int) = (2 : Int32) from ng 2 (by omega)), if_neg (show ¬ zI (w : Int) = (3 : Int32) from ng 3 (by omega)), if_neg (show ¬ zI (w : Int) = (4 : Int32) from ng 4 (by omega)), if_neg (show ¬ zI (w : Int) = (5 : Int32) from ng 5 (by omega)), if_neg (show ¬ zI (w : Int) = (6 : Int32) from ng 6 (by omega))]
      exact line_end (st_line hB hS hR k1 h7 h11 hw)
  · obtain ⟨M2, μ2, g1, g2, g3, g4, g5, -⟩ := fail_on c3 d3 q (1 : Int32)
    have e5 : ¬ M 0 2 5 = (2 : Int32) := by
      have := kcv_eq k5 1 (by omega)
      rw [c2]; intro z; exact k1 (by rw [← this]; exact z)
    have e8 : ¬ μ 34 8 = (1 : Int32) := by
      have := k_eq k5 1 (by omega)
      rw [d2]; intro z; exact k1 (by rw [← this]; exact z)
    refine .inl ⟨M2, μ2, ?_, ?_, g3, g4, g5⟩
    · rw [Re_readLine, if_neg e5, g1, bd_some, ok01]
    · rw [Mo_lineRead, if_neg e8, g2, bd_some, ok01]
/-- what a whole text gives -/
def TL (T : Nat → Nat) (n q : Nat) (M : Mem) (μ : Sl) (R1 : Option (Int32 × Mem)) (R2 : Option (Int32 × Sl)) : Prop := (∃ M' μ', R1 = some ((-1 : Int32), M') ∧ R2 = some ((-1 : Int32), μ') ∧ FL M' μ' ∧ FRc q M M' ∧ FRm μ μ') ∨ ∃ M' μ' k, R1 = Fh_text_67 M' ∧ R2 = (bd (Mo_keepText μ') fun _ d2 => some (zI ((k : Nat) : Int), d2)) ∧ RBs T n q M' μ' ∧ RSx M' q μ' ∧ k ≤ n ∧ M' q 4 11 = zI (k : Int) ∧ (M' 0 2 0 = M 0 2 0 ∧ M' 0 2 1 = M 0 2 1 ∧ μ' 34 4 = μ 34 4 ∧ μ' 34 5 = μ 34 5) ∧ FRc q M M' ∧ FRm μ μ'
theorem RSx_tk {M' : Mem} {μ' : Sl} (h : RSx M q μ) (e1 : TKc M M') (e2 : TKm μ μ') : RSx M' q μ' := by
  obtain ⟨nr, pv, wv, qv, qt, S, wb, dc, sd, tb, cs, kd, x, hP, hT, hU⟩ := h
  exact ⟨nr, pv, wv, qv, qt, S, wb, dc, sd, tb, cs, kd, x, RP_tk hP e1 e2, RT_tk hT e1 e2, RU_tk hU e1 e2⟩
theorem text_loop : ∀ (m p k f g : Nat) (M : Mem) (μ : Sl), n - p < m → m ≤ f → m ≤ g → k ≤ p → HS T n M μ p → RBs T n q M μ → RSx M q μ → M q 4 11 = zI (k : Int) → TL T n q M μ (Fh_text_34 f (zI (n : Int)) (zI (k : Int)) M) (Mo_text_55 g (zI (k : Int)) μ) := by
  intro m
  induction m with
  | zero => intro p k f g M μ h; omega
  | succ m ih =>
    intro p k f g M μ hm hf hg hkp hH hB hR hl
    obtain ⟨f', rfl⟩ : ∃ f', f = f' + 1 := ⟨f - 1, by omega⟩
    obtain ⟨g', rfl⟩ : ∃ g', g = g' + 1 := ⟨g - 1, by omega⟩
    have hn := hB.1.1
    have hp := hH.1
    by_cases z : n ≤ k
    · have k0 : lxK T n p = 0 := lx_end (by omega)
      refine .inr ⟨M, μ, k, ?_, ?_, hB, hR, by omega, hl, ⟨rfl, rfl, rfl, rfl⟩, FRc_rf q M, FRm_rf μ⟩
      · rw [Fh_text_34, if_pos (by rw [zI_le (by omega) (by omega) (by omega) (by omega)]; omega)]
      · rw [Mo_text_55, if_pos (by rw [hH.2.2.2.1, k0]; rfl)]
    · obtain ⟨M1, t1, t2, hS1, hB1⟩ := take_on hB hH
      obtain ⟨s1, ⟨c1, c2, c3, c4⟩, d1, d2, d3, d4⟩ := id hS1
      have rg1 := lx_rg (T := T) s1
      have k5 := rg1.2.2.2.2.2
      have hR1 := RSx_tk hR t2 (TKm_rf μ)
      by_cases k0 : lxK T n p = 0
      · refine .inr ⟨M1, μ, k, ?_, ?_, hB1, hR1, by omega, by rw [t2 _ _ _ (by have := hB.1.2.2; omega)]; exact hl, ⟨t2 _ _ _ (by omega), t2 _ _ _ (by omega), rfl, rfl⟩, TKc_FR t2 q, FRm_rf μ⟩
        · rw [Fh_text_34, if_neg (by rw [zI_le (by omega) (by omega) (by omega) (by omega)]; omega), Re_hasMore, t1, bd_some, if_pos (by rw [c2, k0]; rfl), bd_some, if_pos rfl]
        · rw [Mo_text_55, if_pos (by rw [d2, k0]; rfl)]
      · have e5 : ¬ M1 0 2 5 = (0 : Int32) := by
          have := kcv_eq k5 0 (by omega)
          rw [c2]; intro z; exact k0 (by rw [← this]; exact z)
        have e8 : ¬ μ 34 8 = (0 : Int32) := by
          have := k_eq k5 0 (by omega)
          rw [d2]; intro z; exact k0 (by rw [← this]; exact z)
        have cl : Fh_text_34 (f' + 1) (zI (n : Int)) (zI (k : Int)) M = (bd (Re_readLine M1) fun r11 d12 => if r11 = 0 then (some ((-1 : Int32), d12)) else (bnd (zI (k : Int) + (1 : Int32)) fun v2_13 => Fh_text_34 f' (zI (n : Int)) v2_13 d12)) := by
          rw [Fh_text_34, if_neg (by rw [zI_le (by omega) (by omega) (by omega) (by omega)]; omega), Re_hasMore, t1, bd_some, if_neg e5, bd_some, if_neg (by decide)]
        have mo : Mo_text_55 (g' + 1) (zI (k : Int)) μ = (bd (Mo_lineRead μ) fun r3 d4 => if r3 = 0 then (some ((-1 : Int32), d4)) else (bnd (zI (k : Int) + (1 : Int32)) fun v2_5 => Mo_text_55 g' v2_5 d4)) := by
          rw [Mo_text_55, if_neg e8]
        rcases line_on hB1 hS1 hR1 k0 with ⟨M2, μ2, e1, e2, e3, e4, e5⟩ | ⟨M2, μ2, e1, e2, ⟨p', hp', hH'⟩, hB2, hR2, hl2, ⟨w1, w2, w3, w4⟩, e4, e5⟩
        · refine .inl ⟨M2, μ2, ?_, ?_, e3, FRc_tr (TKc_FR t2 q) e4, e5⟩
          · rw [cl, e1, bd_some, if_pos rfl]
          · rw [mo, e2, bd_some, if_pos rfl]
        · rw [cl, mo, e1, e2, bd_some, bd_some, if_neg (by decide), if_neg (by decide), bnd_ap, bnd_ap, zI_s1]
          have hq := hB.1.2.2
          have hl3 : M2 q 4 11 = zI ((k + 1 : Nat) : Int) := by rw [hl2, t2 _ _ _ (by omega), hl, zI_s1]
          have hp2 := hH'.1
          rcases ih p' (k + 1) f' g' M2 μ2 (by omega) (by omega) (by omega) (by omega) hH' hB2 hR2 hl3 with ⟨M3, μ3, y1, y2, y3, y4, y5⟩ | ⟨M3, μ3, k', y1, y2, y3, y4, y5, y6, ⟨x1, x2, x3, x4⟩, y7, y8⟩
          · exact .inl ⟨M3, μ3, y1, y2, y3, FRc_tr (TKc_FR t2 q) (FRc_tr e4 y4), FRm_tr e5 y5⟩
          · exact .inr ⟨M3, μ3, k', y1, y2, y3, y4, y5, y6, ⟨by rw [x1, w1, t2 _ _ _ (by omega)], by rw [x2, w2, t2 _ _ _ (by omega)], x3.trans w3, x4.trans w4⟩, FRc_tr (TKc_FR t2 q) (FRc_tr e4 y7), FRm_tr e5 y8⟩
end
