/-! ===== cool ===== -/
theorem f1_cmp {a : Nat} (ha : a < 2139095040) : (0 ≤ (Op.cmpValue (FP.fcmp (zI (a : Int)).toUInt32 FP.fconst1) .g)) = (1065353216 ≤ a) := by
  have e := f_cmp (a := a) (b := 1065353216) ha (by omega)
  have e1 : (zI ((1065353216 : Nat) : Int)).toUInt32 = FP.fconst1 := by decide
  rw [e1] at e
  rw [e]
  by_cases z : a < 1065353216
  · rw [if_pos z]
    apply propext
    constructor
    · intro h; exact absurd h (by decide)
    · intro h; omega
  · rw [if_neg z]
    apply propext
    by_cases y : a = 1065353216
    · rw [if_pos y]; exact ⟨fun _ => by omega, fun _ => by decide⟩
    · rw [if_neg y]; exact ⟨fun _ => by omega, fun _ => by decide⟩
section
variable {c n0 : Nat} {M : Mem} {μ : Sl}
theorem cool_l {n S k t s : Nat} (hk : k < 2) (ht : 2 ≤ t) (ht2 : t < 1000) (h6 : M 0 0 6 = zI (t : Int)) {μ0 : Sl} (hTX : ∀ δ' μ', QU μ0 μ' → TX (setS M t δ') k μ' n S) (hs : s < n) : ∀ (m i f g : Nat) (δ μ1 : Sl) (σ : Nat → Nat) (bn : Nat) (B : Nat → Int) (A : Ab) (dep : Nat → Nat) (J : List Jb) (N e : Int), i + m = 100 → m < f → m < g → RC n S δ σ bn B A dep J N → WX (e, 0) n S δ B → δ 10 0 = zI (k : Int) → TR0 μ0 μ1 →
    ∃ (r : Int32) (δ' μ' : Sl), Fh_cool_26 f (zI (s : Int)) (zI (i : Int)) (setS M t δ) = some (r, setS M t δ') ∧ Mo_cool_21 g (zI (s : Int)) (zI (i : Int)) (bst μ1 1 B) = some (r, wr μ' 34 25 (0 : Int32)) ∧ TR0 μ0 μ' := by
  have d6 : ∀ δ, setS M t δ 0 0 6 = zI (t : Int) := fun δ => by rw [setS_ne _ _ (by omega)]; exact h6
  intro m
  induction m with
  | zero =>
    intro i f g δ μ1 σ bn B A dep J N e hi hf hg hR hX h10 hT
    obtain ⟨f', rfl⟩ : ∃ f', f = f' + 1 := ⟨f - 1, by omega⟩
    obtain ⟨g', rfl⟩ : ∃ g', g = g' + 1 := ⟨g - 1, by omega⟩
    have hi' : i = 100 := by omega
    subst hi'
    refine ⟨(-2 : Int32), δ, bst μ1 1 B, ?_, ?_, TR_bst hT B⟩
    · rw [Fh_cool_26, if_pos (by decide)]
    · rw [Mo_cool_21, if_pos (by decide), Mo_cool_48, bnd_ap, if_pos (by decide)]
  | succ m ih =>
    intro i f g δ μ1 σ bn B A dep J N e hi hf hg hR hX h10 hT
    obtain ⟨f', rfl⟩ : ∃ f', f = f' + 1 := ⟨f - 1, by omega⟩
    obtain ⟨g', rfl⟩ : ∃ g', g = g' + 1 := ⟨g - 1, by omega⟩
    have hTx := hTX δ μ1 hT.1
    obtain ⟨qv, pv, wv, cc, wb, dc, sd, kd, xx, ⟨_, y5, y6, -⟩, ⟨⟨z1, z2, -⟩, hn, -⟩, -, ⟨d1, d2, d3, d4⟩, -⟩ := hTx
    have hn6 := hn.1
    obtain ⟨v, w1, w2, w3⟩ := warm_on hT.2.1 hR.1 hR.2.1 hR.2.2.1 z2 (s := s) (by omega)
    have p59 : pB 59 < 2139095040 := by decide
    have ed : dc = ((dc.toNat : Nat) : Int) := by omega
    rw [ed] at d1 d2
    by_cases z : 1065353216 ≤ v
    · obtain ⟨δ', B', A', r1, r2, r4, r5, r7, r8, r9⟩ := tick_on hR hX hT.2.1 (v := dc.toNat) (by omega) d2
      obtain ⟨r, δ2, μ2, t1, t2, t3⟩ := ih (i + 1) f' g' δ' μ1 σ bn B' A' dep J N e (by omega) (by omega) (by omega) r4 r5 (by rw [r7]; exact h10) hT
      refine ⟨r, δ2, μ2, ?_, ?_, t3⟩
      · rw [Fh_cool_26, if_neg (by rw [show (99 : Int32) = zI 99 from rfl, zI_lt (by omega) (by omega) (by omega) (by omega)]; omega), d6, gref_z (by omega), setS_at, w2, bp_some, if_pos (by rw [f1_cmp (by omega)]; exact z), gref_z (by omega), gref_z (by omega), setS_at, h10, gref_z (by omega), d1, r1, lft_some, bd_some, setS_setS, bnd_ap, zI_s1, t1]
      · rw [Mo_cool_21, if_neg (by rw [zI_lit, zI_le (by omega) (by omega) (by omega) (by omega)]; omega), w3, bp_some, if_neg (by rw [show (1065353216 : Int32) = zI 1065353216 from rfl, zI_lt (by omega) (by omega) (by omega) (by omega)]; omega), r2, bd_some, bnd_ap, zI_s1, t2]
    · refine ⟨zI (i : Int), δ, bst μ1 1 B, ?_, ?_, TR_bst hT B⟩
      · rw [Fh_cool_26, if_neg (by rw [show (99 : Int32) = zI 99 from rfl, zI_lt (by omega) (by omega) (by omega) (by omega)]; omega), d6, gref_z (by omega), setS_at, w2, bp_some, if_neg (by rw [f1_cmp (by omega)]; exact z)]
      · rw [Mo_cool_21, if_neg (by rw [zI_lit, zI_le (by omega) (by omega) (by omega) (by omega)]; omega), w3, bp_some, if_pos (by rw [show (1065353216 : Int32) = zI 1065353216 from rfl, zI_lt (by omega) (by omega) (by omega) (by omega)]; omega), Mo_cool_48, bnd_ap, if_neg (by rw [zI_lit, zI_eq (by omega) (by omega) (by omega) (by omega)]; omega)]
theorem top_cool (hI : Inv c n0 M μ) (a1 : Int32) : TopM c n0 (Fh_cool M a1) (Mo_cool μ a1) := by
  obtain ⟨n, S, k, w, t, B, σ, bn, A, dep, J, N, e, qv, pv, wv, δt, ⟨a, a2', a3, a4, a5⟩, ⟨b1, b2, b3, b4⟩, ⟨hR, hX⟩, ⟨hR1, hX1, h10⟩, hcp, hSB, ⟨f1, f2, f3⟩, ⟨hN, hW⟩, hTX, hbad, hfin⟩ := top_try hI
  obtain ⟨x1, i1, rfl⟩ := zI_ex a1
  obtain ⟨μ1, u1, u2, u3⟩ := asNow_on f3
  have hb := hbad (M t)
  rw [setS_self] at hb
  by_cases z : 0 ≤ x1 ∧ x1 < (n : Int)
  · obtain ⟨s, rfl⟩ : ∃ s : Nat, x1 = (s : Int) := ⟨x1.toNat, by omega⟩
    obtain ⟨r, δ', μ', g1, g2, g3⟩ := cool_l a4 b3 b2 b1 hTX (s := s) (by omega) 100 0 FU FU δt μ1 σ bn B A dep J N e (by omega) (FU_gt (by omega)) (FU_gt (by omega)) hR1 hX1 h10 u3
    have z0 : zI ((0 : Nat) : Int) = (0 : Int32) := rfl
    rw [z0] at g1
    rw [z0, u2] at g2
    refine ⟨r, setS M t δ', wr μ' 34 25 (0 : Int32), ?_, ?_, hfin _ δ' μ' (QU_refl _) (fun i => by rw [wr_ap, if_neg (by omega)]) (by rw [wr_ap, if_neg (by omega)]) g3⟩
    · rw [Fh_cool, a, gref_z (by omega), c_isSpace hSB.1 hSB.2.2.1 i1, bp_some, bI_if, if_pos (decide_eq_true z), b1, gref_z (by omega), gref_z (by omega), hcp, bd_some, bnd_ap, g1]
    · rw [Mo_cool, bnd_ap, m_isSpace hSB.2.1 hSB.2.2.1 i1, bp_some, bI_if, if_pos (decide_eq_true z), u1, bd_some, bnd_ap, g2]
  · refine ⟨(-1 : Int32), M, wr μ 34 2 (0 : Int32), ?_, ?_, hb⟩
    · rw [Fh_cool, a, gref_z (by omega), c_isSpace hSB.1 hSB.2.2.1 i1, bp_some, bI_if, if_neg (by rw [decide_eq_true_eq]; exact z)]
    · rw [Mo_cool, bnd_ap, m_isSpace hSB.2.1 hSB.2.2.1 i1, bp_some, bI_if, if_neg (by rw [decide_eq_true_eq]; exact z)]
end
