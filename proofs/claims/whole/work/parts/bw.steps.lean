/-! ===== reading a text: steps ===== -/
section
variable {T : Nat → Nat} {n q : Nat} {M : Mem} {μ : Sl}
/-- j numbers of a step were read -/
def ST (T : Nat → Nat) (n q : Nat) (M : Mem) (μ : Sl) (cs : Nat) (w : Nat) (j : Nat) (M' : Mem) (μ' : Sl) (y : Nat → Int) (p' : Nat) : Prop := HS T n M' μ' p' ∧ RBs T n q M' μ' ∧ (∀ l a i, ¬ (l = 0 ∧ a = 2 ∧ 4 ≤ i ∧ i ≤ 7) → ¬ (l = q ∧ a = 9 ∧ 7 * cs ≤ i ∧ i < 7 * cs + 7) → M' l a i = M l a i) ∧ (∀ a i, ¬ (a = 34 ∧ ((7 ≤ i ∧ i ≤ 10) ∨ i = 23)) → ¬ (a = 43 ∧ i = 24 + cs) → ¬ (a = 44 ∧ 144 + 6 * cs ≤ i ∧ i < 144 + 6 * cs + 6) → μ' a i = μ a i) ∧ (M' q 9 (7 * cs) = zI (w : Int) ∧ μ' 43 (24 + cs) = zI (w : Int)) ∧ ∀ i, i < j → M' q 9 (7 * cs + (1 + i)) = zI (y i) ∧ μ' 44 (144 + (6 * cs + i)) = zI (y i)
def upY (y : Nat → Int) (j : Nat) (v : Int) : Nat → Int := fun i => if i = j then v else y i
theorem st97_f (k47 : (Nat × Nat) → Int32 → Int32 → Mem → Option (Int32 × Mem)) (fm : Nat × Nat) (v3 v4 : Int32) (d : Mem) : Re_readStep_97 k47 fm v3 v4 (zI (-1)) d = some ((0 : Int32), d) := by
  rw [Re_readStep_97, bnd_ap, if_neg zI_np]
theorem st97_k {k47 : (Nat × Nat) → Int32 → Int32 → Mem → Option (Int32 × Mem)} {fm : Nat × Nat} {cs j : Nat} {v : Int} {d : Mem} (hq : q < 2) (h10 : d 0 2 10 = zI (q : Int)) (hc : cs < 24) (hj : j < 6) (hv : 0 ≤ v) (hv2 : v < 2147483648) : Re_readStep_97 k47 fm (zI ((7 * cs : Nat) : Int)) (zI (j : Int)) (zI v) d = k47 fm (zI ((7 * cs : Nat) : Int)) (zI ((j + 1 : Nat) : Int)) (wrM d q 9 (7 * cs + (1 + j)) (zI v)) := by
  have e : zI ((7 * cs : Nat) : Int) + (1 : Int32) + zI (j : Int) = zI ((7 * cs + (1 + j) : Nat) : Int) := by rw [zI_s1, zI_add]; congr 1; omega
  rw [Re_readStep_97, bnd_ap, if_pos (by rw [zI_lit, zI_le (by omega) (by omega) (by omega) (by omega)]; omega), h10, gref_z (by omega), e, if_pos (zI_in (by omega) (by omega)), zI_ixn (by omega), bnd_ap, bnd_ap, zI_s1]
theorem st47_s {f : Nat} {fm : Nat × Nat} {v3 : Int32} {j : Nat} {d : Mem} (hj : j < fm.2) (h6 : fm.2 ≤ 6) (ha : d 0 fm.1 j = zI 0) : Re_readStep_47 (f + 1) fm v3 (zI (j : Int)) d = (bd (Re_takeSpace d) fun r10 d11 => Re_readStep_97 (Re_readStep_47 f) fm v3 (zI (j : Int)) r10 d11) := by
  have e2 : Int32.ofNat fm.2 = zI (fm.2 : Int) := zI_nI fm.2
  rw [Re_readStep_47, e2, if_neg (by rw [zI_le (by omega) (by omega) (by omega) (by omega)]; omega), if_neg (by rw [zI_s1, zI_lit, zI_le (by omega) (by omega) (by omega) (by omega)]; omega), if_pos (zI_in (by omega) (by omega)), zI_ixn (by omega), ha, bnd_ap, if_pos (show zI 0 = (0 : Int32) from rfl)]
theorem st47_n {f : Nat} {fm : Nat × Nat} {v3 : Int32} {j a : Nat} {lo hi : Int} {d : Mem} (hj : j < fm.2) (h6 : fm.2 ≤ 6) (ha : d 0 fm.1 j = zI (a : Int)) (ha1 : 1 ≤ a) (ha2 : a ≤ 5) (hlo : d 0 49 a = zI lo) (hhi : d 0 50 a = zI hi) : Re_readStep_47 (f + 1) fm v3 (zI (j : Int)) d = (bd (Re_takeNumber d (zI lo) (zI hi)) fun r8 d9 => Re_readStep_97 (Re_readStep_47 f) fm v3 (zI (j : Int)) r8 d9) := by
  have e2 : Int32.ofNat fm.2 = zI (fm.2 : Int) := zI_nI fm.2
  rw [Re_readStep_47, e2, if_neg (by rw [zI_le (by omega) (by omega) (by omega) (by omega)]; omega), if_neg (by rw [zI_s1, zI_lit, zI_le (by omega) (by omega) (by omega) (by omega)]; omega), if_pos (zI_in (by omega) (by omega)), zI_ixn (by omega), ha, bnd_ap, if_neg (by rw [zI_lit, zI_eq (by omega) (by omega) (by omega) (by omega)]; omega), if_pos (zI_in (by omega) (by omega)), if_pos (zI_in (by omega) (by omega)), zI_ixn (by omega), hlo, hhi]
theorem st47_e {f : Nat} {fm : Nat × Nat} {v3 : Int32} {d : Mem} (h6 : fm.2 ≤ 6) : Re_readStep_47 (f + 1) fm v3 (zI ((fm.2 : Nat) : Int)) d = Re_readStep_128 d := by
  have e2 : Int32.ofNat fm.2 = zI (fm.2 : Int) := zI_nI fm.2
  rw [Re_readStep_47, e2, if_pos (by rw [zI_le (by omega) (by omega) (by omega) (by omega)]; omega)]
theorem ST_fr {cs w j : Nat} {M' : Mem} {μ' : Sl} {y : Nat → Int} {p' : Nat} (h : ST T n q M μ cs w j M' μ' y p') (hc : cs < 24) : FRc q M M' ∧ FRm μ μ' := by
  obtain ⟨-, -, h3, h4, -, -⟩ := h
  exact ⟨fun l a i z1 z2 => h3 l a i (by omega) (by omega), fun a i z1 z2 z3 z4 z5 z6 => h4 a i (by omega) (by omega) (by omega)⟩
theorem i44 {cs j : Nat} (hc : cs < 24) (hj : j < 6) : (144 : Int32) + (6 : Int32) * zI (cs : Int) + zI (j : Int) = zI ((144 + (6 * cs + j) : Nat) : Int) := by
  rw [show (144 : Int32) = zI 144 from rfl, show (6 : Int32) = zI 6 from rfl, zI_mul, zI_add, zI_add]; congr 1; omega
/-- a number of a step -/
theorem it_nu {cs w j nr : Nat} {M' : Mem} {μ' : Sl} {y : Nat → Int} {p' : Nat} (h : ST T n q M μ cs w j M' μ' y p') (hc : cs < 24) (hU : μ 34 14 = zI (cs : Int)) {f : Nat} {fm : Nat × Nat} {a : Nat} {lo hi : Int} (hj : j < fm.2) (h6 : fm.2 ≤ 6) (ha : M' 0 fm.1 j = zI (a : Int)) (ha1 : 1 ≤ a) (ha2 : a ≤ 5) (hlo : M' 0 49 a = zI lo) (hhi : M' 0 50 a = zI hi) (l1 : 0 ≤ lo) (l2 : hi ≤ 99999) (l3 : lo ≤ 99999) (l4 : 0 ≤ hi) :
    (∃ M2 μ2, Re_readStep_47 (f + 1) fm (zI ((7 * cs : Nat) : Int)) (zI (j : Int)) M' = some ((0 : Int32), M2) ∧ Mo_stepNumber μ' (zI (j : Int)) (zI lo) (zI hi) = some ((0 : Int32), μ2) ∧ FL M2 μ2 ∧ FRc q M M2 ∧ FRm μ μ2) ∨ ∃ v M2 μ2 p2, Re_readStep_47 (f + 1) fm (zI ((7 * cs : Nat) : Int)) (zI (j : Int)) M' = Re_readStep_47 f fm (zI ((7 * cs : Nat) : Int)) (zI ((j + 1 : Nat) : Int)) M2 ∧ Mo_stepNumber μ' (zI (j : Int)) (zI lo) (zI hi) = some ((1 : Int32), μ2) ∧ (lo ≤ v ∧ v ≤ hi) ∧ ST T n q M μ cs w (j + 1) M2 μ2 (upY y j v) p2 ∧ p' < p2 := by
  obtain ⟨fr1, fr2⟩ := ST_fr h hc
  obtain ⟨h1, h2, h3, h4, ⟨h5, h5'⟩, h7⟩ := h
  have hq := h2.1.2.2
  rcases num_on h2 h1 l1 l2 l3 l4 with ⟨M3, μ3, f1, f2, f3, f4, f5⟩ | ⟨v, M3, μ3, f1, f2, hv, f3, t1, t2, hS, hB, k3⟩
  · refine .inl ⟨M3, μ3, ?_, ?_, f3, FRc_tr fr1 f4, FRm_tr fr2 f5⟩
    · rw [st47_n hj h6 ha ha1 ha2 hlo hhi, f1, bd_some, st97_f]
    · rw [Mo_stepNumber, f2, bd_some, if_pos rfl]
  · have m10 : M3 0 2 10 = zI (q : Int) := hB.2.2.1
    have m14 : μ3 34 14 = zI (cs : Int) := by rw [t2 _ _ (by omega), h4 _ _ (by omega) (by omega) (by omega)]; exact hU
    have rg := lx_rg (T := T) h1.1
    have pr := rg.2.2.2.2.1 (by omega)
    refine .inr ⟨v, wrM M3 q 9 (7 * cs + (1 + j)) (zI v), wr μ3 44 (144 + (6 * cs + j)) (zI v), lxN T n p', ?_, ?_, hv, ⟨HS_w hS (by rw [wrM_ap, if_neg (by omega)]) (fun i _ _ => by rw [wr_ap, if_neg (by omega)]), RBs_fr hB (wrM_fr (by omega) (by omega)) (fun a i _ _ _ _ _ z => by rw [wr_ap, if_neg (by omega)]), fun l a i z1 z2 => by rw [wrM_ap, if_neg (by omega), t1 l a i z1, h3 l a i z1 z2], fun a i z1 z2 z3 => by rw [wr_ap, if_neg (by omega), t2 a i z1, h4 a i z1 z2 z3], ⟨by rw [wrM_ap, if_neg (by omega), t1 _ _ _ (by omega)]; exact h5, by rw [wr_ap, if_neg (by omega), t2 _ _ (by omega)]; exact h5'⟩, fun i hi => ?_⟩, by omega⟩
    · rw [st47_n hj h6 ha ha1 ha2 hlo hhi, f1, bd_some, st97_k hq m10 hc (by omega) (by omega) (by omega)]
    · rw [Mo_stepNumber, f2, bd_some, if_neg (by decide), m14, i44 hc (by omega), if_pos (zI_in (by omega) (by omega)), zI_ixn (by omega), f3, bnd_ap]
    · unfold upY
      by_cases z : i = j
      · rw [if_pos z, z]; exact ⟨by rw [wrM_ap, if_pos ⟨rfl, rfl, rfl⟩], by rw [wr_ap, if_pos ⟨rfl, rfl⟩]⟩
      · rw [if_neg z, wrM_ap, if_neg (by omega), wr_ap, if_neg (by omega), t1 _ _ _ (by omega), t2 _ _ (by omega)]
        exact h7 i (by omega)
theorem it_sp {cs w j nr : Nat} {M' : Mem} {μ' : Sl} {y : Nat → Int} {p' : Nat} (h : ST T n q M μ cs w j M' μ' y p') (hc : cs < 24) (hU : μ 34 14 = zI (cs : Int)) (h6n : nr ≤ 6) (hcl : M q 4 5 = zI (nr : Int)) (hmo : μ 34 12 = zI (nr : Int)) (hnm : ∀ s, s < nr → M q 5 s = μ 37 (6 + s)) {f : Nat} {fm : Nat × Nat} (hj : j < fm.2) (h6 : fm.2 ≤ 6) (ha : M' 0 fm.1 j = zI 0) :
    (∃ M2 μ2, Re_readStep_47 (f + 1) fm (zI ((7 * cs : Nat) : Int)) (zI (j : Int)) M' = some ((0 : Int32), M2) ∧ Mo_stepSpace μ' (zI (j : Int)) = some ((0 : Int32), μ2) ∧ FL M2 μ2 ∧ FRc q M M2 ∧ FRm μ μ2) ∨ ∃ (v : Int) (M2 : Mem) (μ2 : Sl) (p2 : Nat), Re_readStep_47 (f + 1) fm (zI ((7 * cs : Nat) : Int)) (zI (j : Int)) M' = Re_readStep_47 f fm (zI ((7 * cs : Nat) : Int)) (zI ((j + 1 : Nat) : Int)) M2 ∧ Mo_stepSpace μ' (zI (j : Int)) = some ((1 : Int32), μ2) ∧ (0 ≤ v ∧ v < (nr : Int)) ∧ ST T n q M μ cs w (j + 1) M2 μ2 (upY y j v) p2 ∧ p' < p2 := by
  obtain ⟨fr1, fr2⟩ := ST_fr h hc
  obtain ⟨h1, h2, h3, h4, ⟨h5, h5'⟩, h7⟩ := h
  have hq := h2.1.2.2
  rcases spc_on h2 h1 h6n (by rw [h3 _ _ _ (by omega) (by omega)]; exact hcl) (by rw [h4 _ _ (by omega) (by omega) (by omega)]; exact hmo) (fun s hs => by rw [h3 _ _ _ (by omega) (by omega), h4 _ _ (by omega) (by omega) (by omega)]; exact hnm s hs) with ⟨M3, μ3, f1, f2, f3, f4, f5⟩ | ⟨v, M3, μ3, f1, f2, hv, f3, t1, t2, hS, hB, k2⟩
  · refine .inl ⟨M3, μ3, ?_, ?_, f3, FRc_tr fr1 f4, FRm_tr fr2 f5⟩
    · rw [st47_s hj h6 ha, f1, bd_some, st97_f]
    · rw [Mo_stepSpace, f2, bd_some, if_pos rfl]
  · have m10 : M3 0 2 10 = zI (q : Int) := hB.2.2.1
    have m14 : μ3 34 14 = zI (cs : Int) := by rw [t2 _ _ (by omega), h4 _ _ (by omega) (by omega) (by omega)]; exact hU
    have rg := lx_rg (T := T) h1.1
    have pr := rg.2.2.2.2.1 (by omega)
    have fm3 : FRm μ3 (wr μ3 44 (144 + (6 * cs + j)) (zI (v : Int))) := fun a i _ _ _ _ _ z => by rw [wr_ap, if_neg (by omega)]
    obtain ⟨μ4, u1, u2, u3, u4, u5⟩ := token_on (RBs_fr hB (FRc_rf q M3) fm3) (SY_w hS (fun _ _ _ => rfl) (fun i _ _ => by rw [wr_ap, if_neg (by omega)]))
    refine .inr ⟨(v : Int), wrM M3 q 9 (7 * cs + (1 + j)) (zI (v : Int)), μ4, lxN T n p', ?_, ?_, ⟨by omega, by omega⟩, ⟨HS_w u4 (by rw [wrM_ap, if_neg (by omega)]) (fun _ _ _ => rfl), RBs_fr u5 (wrM_fr (by omega) (by omega)) (FRm_rf μ4), fun l a i z1 z2 => by rw [wrM_ap, if_neg (by omega), t1 l a i z1, h3 l a i z1 z2], fun a i z1 z2 z3 => by rw [u2 a i z1, wr_ap, if_neg (by omega), t2 a i z1, h4 a i z1 z2 z3], ⟨by rw [wrM_ap, if_neg (by omega), t1 _ _ _ (by omega)]; exact h5, by rw [u2 _ _ (by omega), wr_ap, if_neg (by omega), t2 _ _ (by omega)]; exact h5'⟩, fun i hi => ?_⟩, by omega⟩
    · rw [st47_s hj h6 ha, f1, bd_some, st97_k hq m10 hc (by omega) (by omega) (by omega)]
    · rw [Mo_stepSpace, f2, bd_some, if_neg (by decide), m14, i44 hc (by omega), if_pos (zI_in (by omega) (by omega)), zI_ixn (by omega), f3, bnd_ap, u1, bd_some]
    · unfold upY
      by_cases z : i = j
      · rw [if_pos z, z]; exact ⟨by rw [wrM_ap, if_pos ⟨rfl, rfl, rfl⟩], by rw [u2 _ _ (by omega), wr_ap, if_pos ⟨rfl, rfl⟩]⟩
      · rw [if_neg z, wrM_ap, if_neg (by omega), u2 _ _ (by omega), wr_ap, if_neg (by omega), t1 _ _ _ (by omega), t2 _ _ (by omega)]
        exact h7 i (by omega)
/-- a step that was read whole -/
theorem st_end (hR : RSx M q μ) {p : Nat} {cs w ar : Nat} {M' : Mem} {μ' : Sl} {y : Nat → Int} {p' nr : Nat} (h : ST T n q M μ cs w ar M' μ' y p') (hc : cs < 24) (hpp : p < p') (hcs : M q 4 10 = zI (cs : Int)) (hcm : μ 34 14 = zI (cs : Int)) (hnr : M q 4 5 = zI (nr : Int)) (hnr6 : nr ≤ 6) (hw : w ≤ 11) (har : arK (w : Int) ≤ ar) (har6 : ar ≤ 6) (hb : ∀ i, i < ar → -100000000 ≤ y i ∧ y i ≤ 100000000) (k7 : w = 7 → 1 ≤ y 5 ∧ y 5 ≤ 7) (k9 : w = 9 → (0 ≤ y 0 ∧ y 0 < (nr : Int)) ∧ (1 ≤ y 3 ∧ y 3 ≤ 7)) (k11 : w ≠ 7 → w ≠ 8 → w ≠ 9 → w ≠ 10 → 0 ≤ y 0 ∧ y 0 < (nr : Int)) :
    ∃ M2 μ2, Re_readStep_128 M' = some ((1 : Int32), M2) ∧ wr μ' 34 14 (μ' 34 14 + (1 : Int32)) = μ2 ∧ OKL T n q p M μ M2 μ2 ∧ FRc q M M2 ∧ FRm μ μ2 := by
  obtain ⟨fr1, fr2⟩ := ST_fr h hc
  obtain ⟨h1, h2, h3, h4, ⟨h5, h5'⟩, h7⟩ := h
  obtain ⟨nr', pv, wv, qv, qt, S, wb, dc, sd, tb, cs', kd, x, hP, hT, hU⟩ := hR
  have hq := h2.1.2.2
  have e1 : nr' = nr := zN (by have := hP.1.1; omega) (by omega) (hP.1.2.1.symm.trans hnr)
  have e2 : cs' = cs := zN (by have := hU.1.1; omega) (by omega) (hU.1.2.1.symm.trans hcs)
  subst e1 e2
  have m10 : M' 0 2 10 = zI (q : Int) := h2.2.2.1
  have c10 : M' q 4 10 = zI (cs' : Int) := by rw [h3 _ _ _ (by omega) (by omega)]; exact hcs
  have c14 : μ' 34 14 = zI (cs' : Int) := by rw [h4 _ _ (by omega) (by omega) (by omega)]; exact hcm
  have mc : ∀ j a i, ¬ (j = q ∧ a = 4 ∧ i = 10) → wrM M' q 4 10 (zI ((cs' + 1 : Nat) : Int)) j a i = M' j a i := fun j a i z => by rw [wrM_ap, if_neg z]
  have n10 : wrM M' q 4 10 (zI ((cs' + 1 : Nat) : Int)) q 4 10 = zI ((cs' + 1 : Nat) : Int) := by rw [wrM_ap, if_pos ⟨rfl, rfl, rfl⟩]
  have mm : ∀ a i, ¬ (a = 34 ∧ i = 14) → wr μ' 34 14 (zI ((cs' + 1 : Nat) : Int)) a i = μ' a i := fun a i z => by rw [wr_ap, if_neg z]
  have n14 : wr μ' 34 14 (zI ((cs' + 1 : Nat) : Int)) 34 14 = zI ((cs' + 1 : Nat) : Int) := by rw [wr_ap, if_pos ⟨rfl, rfl⟩]
  have cl : Re_readStep_128 M' = some ((1 : Int32), wrM M' q 4 10 (zI ((cs' + 1 : Nat) : Int))) := by
    rw [Re_readStep_128, m10, gref_z (by omega), c10, zI_s1, bnd_ap]
  have mo : wr μ' 34 14 (μ' 34 14 + (1 : Int32)) = wr μ' 34 14 (zI ((cs' + 1 : Nat) : Int)) := by rw [c14, zI_s1]
  generalize wrM M' q 4 10 (zI ((cs' + 1 : Nat) : Int)) = M2 at *
  generalize wr μ' 34 14 (zI ((cs' + 1 : Nat) : Int)) = μ2 at *
  have fc : FRc q M' M2 := fun j a i z1 z2 => mc j a i (by omega)
  have fm : FRm μ' μ2 := fun a i z1 _ _ _ _ _ => mm a i (by omega)
  have hsd : SDq nr' M2 q μ2 cs' (w : Int) (fun j => if j < ar then y j else (M2 q 9 (7 * cs' + (1 + j))).toInt, fun j => if j < ar then y j else (μ2 44 (144 + (6 * cs' + j))).toInt) := by
    refine ⟨by rw [mc _ _ _ (by omega)]; exact h5, fun j hj => ?_, by rw [mm _ _ (by omega)]; exact h5', fun j hj => ?_, ⟨by omega, by omega⟩, fun j hj => ?_, fun z => ?_, fun z => ?_, fun z1 z2 z3 z4 => ?_⟩
    · dsimp only
      by_cases g : j < ar
      · rw [if_pos g, mc _ _ _ (by omega)]; exact (h7 j g).1
      · rw [if_neg g, zI_of]
    · dsimp only
      by_cases g : j < ar
      · rw [if_pos g, mm _ _ (by omega)]; exact (h7 j g).2
      · rw [if_neg g, zI_of]
    · dsimp only
      rw [if_pos (by omega), if_pos (by omega)]
      exact ⟨rfl, hb j (by omega)⟩
    · have hw7 : w = 7 := by omega
      have : 6 ≤ ar := by rw [hw7] at har; exact har
      dsimp only
      rw [if_pos (by omega)]
      exact k7 hw7
    · have hw9 : w = 9 := by omega
      have : 5 ≤ ar := by rw [hw9] at har; exact har
      dsimp only
      rw [if_pos (by omega), if_pos (by omega)]
      exact k9 hw9
    · have : 1 ≤ ar := by
        have h1 : 1 ≤ arK (w : Int) := by unfold arK; split <;> (try split) <;> (try split) <;> omega
        omega
      dsimp only
      rw [if_pos (by omega)]
      exact k11 (by omega) (by omega) (by omega) (by omega)
  obtain ⟨xx, hsd⟩ : ∃ xx, SDq nr' M2 q μ2 cs' (w : Int) xx := ⟨_, hsd⟩
  refine ⟨M2, μ2, cl, mo, ⟨⟨p', hpp, HS_w h1 (mc _ _ _ (by omega)) (fun i _ _ => mm _ _ (by omega))⟩, RBs_fr h2 fc fm, ⟨nr', pv, wv, qv, qt, S, wb, dc, sd, tb, cs' + 1, fun i => if i = cs' then (w : Int) else kd i, fun i => if i = cs' then xx else x i, RP_k hP (fun a i _ => by rw [mc _ _ _ (by omega), h3 _ _ _ (by omega) (by omega)]) (by rw [mc _ _ _ (by omega), h3 _ _ _ (by omega) (by omega)]) (fun a i _ => by rw [mm _ _ (by omega), h4 _ _ (by omega) (by omega) (by omega)]), RT_k hT (fun i _ _ => by rw [mc _ _ _ (by omega), h3 _ _ _ (by omega) (by omega)]) (by rw [mc _ _ _ (by omega), h3 _ _ _ (by omega) (by omega)]) (fun a i _ => by rw [mm _ _ (by omega), h4 _ _ (by omega) (by omega) (by omega)]), ⟨⟨by omega, n10, n14⟩, fun i hi => ?_⟩⟩, fun l a i _ => by rw [mc _ _ _ (by omega), h3 _ _ _ (by omega) (by omega)], fun i _ => by rw [mm _ _ (by omega), h4 _ _ (by omega) (by omega) (by omega)]⟩, FRc_tr fr1 fc, FRm_tr fr2 fm⟩
  by_cases z : i = cs'
  · dsimp only
    rw [if_pos z, if_pos z, z]; exact hsd
  · dsimp only
    rw [if_neg z, if_neg z]
    obtain ⟨s1, s2, s3, s4, s5⟩ := hU.2 i (by omega)
    exact ⟨by rw [mc _ _ _ (by omega), h3 _ _ _ (by omega) (by omega)]; exact s1, fun j hj => by rw [mc _ _ _ (by omega), h3 _ _ _ (by omega) (by omega)]; exact s2 j hj, by rw [mm _ _ (by omega), h4 _ _ (by omega) (by omega) (by omega)]; exact s3, fun j hj => by rw [mm _ _ (by omega), h4 _ _ (by omega) (by omega) (by omega)]; exact s4 j hj, s5⟩
end
