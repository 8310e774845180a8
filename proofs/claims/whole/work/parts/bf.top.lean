theorem inv_keep {c n0 n0' n S k w s t nx κ s' : Nat} {M M3 : Mem} {μ μ3 : Sl} {B B' : Nat → Int} {C : Nat → Nat → Int} (hR : RG n0 M w s t nx κ) (hk : k < 2 ∧ M 0 0 2 = zI ((1 - k : Nat) : Int)) (hT : TX M k μ n S) (hP : TP M μ) (hTB : TB M μ) (hK : KP n S k M nx κ C (100 * (c : Int)) ∧ QA μ n S κ B C)
    (e0 : M3 0 = rgK (M 0) nx κ s s') (e1 : M3 1 = M 1) (eo : ∀ p, 2 ≤ p → p < n0 → p ≠ w → p ≠ s → M3 p = M p) (hs' : (n0' = n0 ∧ M 0 3 nx = zI (s' : Int) ∧ s' < n0) ∨ (n0' = n0 + 1 ∧ s' = n0)) (h0 : n0' ≤ 5 + (c + 1)) (hn : n0' < 1000)
    (hws : WH n S k (M3 s) B (100 * (c : Int))) (hw' : WH n S k (M3 w) B' (100 * ((c + 1 : Nat) : Int))) (hq : QU μ μ3) (hb : MB μ3 0) (hB : BK μ3 0 B') (hH : BH μ3 (if κ < 20 then κ + 1 else 20) (ckp κ C B)) (hQ : QJ μ3 n S B') : Inv (c + 1) n0' M3 μ3 := by
  have m0 : ∀ a i, a ≠ 3 → ¬ (a = 0 ∧ (i = 5 ∨ i = 8 ∨ i = 9)) → M3 0 a i = M 0 a i := fun a i h1 h2 => by rw [e0, rgK_ne h1 h2]
  refine ⟨n, S, k, w, s', t, (nx + 1) % 20, (if κ < 20 then κ + 1 else 20), B', ckp κ C B, h0, RG_keep hR e0 hs' hn, ⟨hk.1, ?_⟩, TX_keep hT (fun a i g1 g2 => ?_) hq, TP_keep hP (m0 _ _ (by omega) (by omega)) (fun i => m0 _ _ (by omega) (by omega)) (m0 _ _ (by omega) (by omega)) (m0 _ _ (by omega) (by omega)) hq, TB_keep hTB (fun a i g => m0 _ _ (by omega) (by omega)) (fun i => hq _ _ (by omega) (by omega) (by omega) (by omega)), ⟨hb, hB, hH⟩, hw', KP_keep hR hK.1 (by omega) e0 eo hws, hQ, fun j hj => ?_⟩
  · rw [m0 _ _ (by omega) (by omega)]; exact hk.2
  · have : k = 0 ∨ k = 1 := by omega
    rcases this with rfl | rfl
    · exact m0 a i (by omega) (by omega)
    · rw [e1]
  · unfold ckp
    by_cases z : κ < 20
    · rw [if_pos z] at hj
      rw [if_pos z]
      by_cases y : j = κ
      · rw [if_pos y]; exact QJ_QU hK.2.1 hq
      · rw [if_neg y]; exact QJ_QU (hK.2.2 j (by omega)) hq
    · rw [if_neg z] at hj
      rw [if_neg z]
      by_cases y : j = 19
      · rw [if_pos y]; exact QJ_QU hK.2.1 hq
      · rw [if_neg y]
        have := hR.2.1.2.1
        exact QJ_QU (hK.2.2 (j + 1) (by omega)) hq
/-- nothing but the spare world and what was thrown changes -/
theorem inv_same {c n0 : Nat} {M M' : Mem} {μ μ' : Sl} (hI : Inv c n0 M μ) (e0 : M' 0 = M 0) (e1 : M' 1 = M 1) (eo : ∀ p : Nat, (∃ i, i < 20 ∧ M 0 3 i = zI (p : Int)) ∨ M 0 0 4 = zI (p : Int) → p < 1000 → M' p = M p) (hq : QU μ μ') (hb : ∀ u B, u ≠ 1 → BK μ u B → BK μ' u B) (h25 : μ' 34 25 = μ 34 25) (h26 : μ' 34 26 = μ 34 26) : Inv (c + 1) n0 M' μ' := by
  obtain ⟨n, S, k, w, s, t, nx, κ, B, C, h0, hR, hk, hT, hP, hTB, ⟨h1, h2, h3⟩, hw, hK⟩ := hI
  obtain ⟨⟨a1, a2, a3, a4, a5⟩, ⟨b1, b2, b3, b4, b5, b6, b7, b8, b9, b10, b11, b12⟩, hc, hi⟩ := id hR
  refine ⟨n, S, k, w, s, t, nx, κ, B, C, by omega, ?_, ⟨hk.1, by rw [e0]; exact hk.2⟩, TX_keep hT (fun a i g1 g2 => ?_) hq, TP_keep hP (by rw [e0]) (fun i => by rw [e0]) (by rw [e0]) (by rw [e0]) hq, TB_keep hTB (fun a i g => by rw [e0]) (fun i => hq _ _ (by omega) (by omega) (by omega) (by omega)), ⟨⟨by rw [h25]; exact h1.1, h1.2⟩, hb _ _ (by omega) h2, by rw [h26]; exact h3.1, h3.2.1, fun i hi => hb _ _ (by omega) (h3.2.2 i hi)⟩, ?_, fun j hj => ?_, QA_QU hK.2 hq⟩
  · unfold RG
    rw [e0]; exact hR
  · have : k = 0 ∨ k = 1 := by omega
    rcases this with rfl | rfl
    · rw [e0]
    · rw [e1]
  · rw [eo w (.inr a1) (by omega)]; exact WH_mono hw (by omega)
  · obtain ⟨p, p1, p2, p3⟩ := hK.1 j hj
    exact ⟨p, by rw [e0]; exact p1, p2, by rw [eo p (.inl ⟨_, by omega, p1⟩) p2]; exact WH_mono p3 (by omega)⟩
theorem top_keep {c n0 : Nat} {M : Mem} {μ : Sl} (hI : Inv c n0 M μ) (hc : c < 600) :
    ∃ (n S k w : Nat) (M1 : Mem) (B : Nat → Int) (μ1 : Sl), Fh_remember M = some ((), M1) ∧ (M1 0 0 4 = zI (w : Int) ∧ w < 1000 ∧ M1 w 10 0 = zI (k : Int) ∧ k < 2 ∧ 2 ≤ w) ∧ Mo_canUndo (wr μ 34 2 (0 : Int32)) = some ((), μ1) ∧ (MB μ1 0 ∧ bst μ1 0 B = μ1 ∧ TX M1 k μ1 n S) ∧ (MB (wr μ 34 2 (0 : Int32)) 0 ∧ bst (wr μ 34 2 (0 : Int32)) 0 B = wr μ 34 2 (0 : Int32) ∧ TX M1 k (wr μ 34 2 (0 : Int32)) n S) ∧ WH n S k (M1 w) B (100 * (c : Int)) ∧
      (∀ (v : Int) (δ' μ' : Sl) (B' : Nat → Int), i32 v → v ≠ -1 → SC μ1 μ' → WH n S k δ' B' (100 * ((c + 1 : Nat) : Int)) → QMq μ1 n S B B' → ∃ n0' M3, Fh_keep n0 (setS M1 w δ') (zI v) = some (zI v, n0', M3) ∧ Inv (c + 1) n0' M3 (bst μ' 0 B')) ∧
      Inv (c + 1) n0 M1 (wr μ 34 2 (0 : Int32)) ∧ Fh_keep n0 (setS M1 w (M1 w)) (zI (-1)) = some (zI (-1), n0, M1) := by
  obtain ⟨n, S, k, w, s, t, nx, κ, B, C, h0, hR, hk, hT, hP, hTB, ⟨h1, h2, h3⟩, hw, hK⟩ := id hI
  obtain ⟨⟨a1, a2, a3, a4, a5⟩, ⟨b1, b2, b3, b4, b5, b6, b7, b8, b9, b10, b11, b12⟩, hc1, hi⟩ := id hR
  obtain ⟨σ, bn, A, dep, J, N, e, w1, w2, w3, w4, w5⟩ := id hw
  have hbn : bn ≤ 192 := w1.2.1.1.1
  have hL : M w 17 16 = zI (bn : Int) := w1.2.1.1.2.1
  obtain ⟨δs, r1, r2⟩ := rem_on a1 a2 (by omega) (by omega) b9 hbn hL w3 (by omega)
  have m0 : setS M s δs 0 = M 0 := setS_ne M δs (by omega)
  have m1 : setS M s δs 1 = M 1 := setS_ne M δs (by omega)
  have mw : setS M s δs w = M w := setS_ne M δs b9
  have hB0 : BK (wr μ 34 2 (0 : Int32)) 0 B := BK_wr h2 (by omega)
  have hH0 : BH (wr μ 34 2 (0 : Int32)) κ C := ⟨by rw [wr_ap, if_neg (by omega)]; exact h3.1, h3.2.1, fun i hi => BK_wr (h3.2.2 i hi) (by omega)⟩
  have hb0 : MB (wr μ 34 2 (0 : Int32)) 0 := ⟨by rw [wr_ap, if_neg (by omega)]; exact h1.1, h1.2⟩
  obtain ⟨μ1, u1, u2, u3, u4⟩ := m_canUndo hH0 hB0
  have hq1 : QU μ (wr μ 34 2 (0 : Int32)) := QU_wr μ (i := 2) 0 (by omega)
  have hq2 : QU (wr μ 34 2 (0 : Int32)) μ1 := fun a i x _ _ y => u4 a i x (fun z => y ⟨z.1, by omega⟩)
  have hb1 : MB μ1 0 := ⟨by rw [u4 34 25 (by omega) (by omega)]; exact hb0.1, hb0.2⟩
  have ek : ∀ a i, 4 ≤ a → a ≤ 9 → setS M s δs k a i = M k a i := fun a i _ _ => by rw [setS_ne M δs (by omega)]
  have hws : WH n S k δs B (100 * (c : Int)) := ⟨σ, bn, A, dep, J, N, e, RC_copy w1 r2, WX_copy w2 r2, by rw [r2 10 0 (.inr (.inr (.inr (.inl ⟨rfl, .inl rfl⟩))))]; exact w3, w4, w5⟩
  have hno : Inv (c + 1) n0 (setS M s δs) (wr μ 34 2 (0 : Int32)) := by
    refine inv_same hI m0 m1 (fun p hp hp2 => setS_ne M δs ?_) hq1 (fun u D _ hD => BK_wr hD (by omega)) (by rw [wr_ap, if_neg (by omega)]) (by rw [wr_ap, if_neg (by omega)])
    rcases hp with ⟨i, i1, i2⟩ | hp
    · rcases hc1 i i1 with z | ⟨p', z1, z2, z3, z4, z5, z6⟩
      · exact absurd (i2.symm.trans z) (zNm (by omega))
      · have := zN (by omega) (by omega) (i2.symm.trans z1)
        omega
    · have := zN (by omega) (by omega) (hp.symm.trans a1)
      omega
  refine ⟨n, S, k, w, setS M s δs, B, μ1, r1, ⟨by rw [m0]; exact a1, by omega, by rw [mw]; exact w3, hk.1, b3⟩, u1, ⟨hb1, bst_BK u3, TX_keep hT ek (QU_trans hq1 hq2)⟩, ⟨hb0, bst_BK hB0, TX_keep hT ek hq1⟩, by rw [mw]; exact hw, fun v δ' μ' B' hv hv1 hsc hW hQM => ?_, hno, ?_⟩
  · have x0 : setS (setS M s δs) w δ' 0 = M 0 := by rw [setS_ne _ _ (by omega)]; exact m0
    have x1 : setS (setS M s δs) w δ' 1 = M 1 := by rw [setS_ne _ _ (by omega)]; exact m1
    have xs : setS (setS M s δs) w δ' s = δs := by rw [setS_ne _ _ (by omega), setS_at]
    have xw : setS (setS M s δs) w δ' w = δ' := setS_at _ _ _
    have xo : ∀ p, p ≠ w → p ≠ s → setS (setS M s δs) w δ' p = M p := fun p y1 y2 => by rw [setS_ne _ _ y1, setS_ne _ _ y2]
    have hb3 : MB (bst μ' 0 B') 0 := ⟨by rw [bst_ne _ _ _ (by omega)]; exact (SC_MB hsc hb1).1, by omega⟩
    have hq3 : QU μ (bst μ' 0 B') := QU_trans (QU_trans hq1 hq2) (QU_trans (QU_SC hsc) (QU_bst μ' 0 B'))
    have hQ3 : QJ (bst μ' 0 B') n S B' := QJ_QU (QJ_QM (QJ_QU hK.2.1 (QU_trans hq1 hq2)) hQM) (QU_trans (QU_SC hsc) (QU_bst μ' 0 B'))
    have hH3 : BH (bst μ' 0 B') (if κ < 20 then κ + 1 else 20) (ckp κ C B) := ⟨by rw [bst_ne _ _ _ (by omega), hsc 34 26 (by omega) (by omega) (by omega)]; exact u2.1, u2.2.1, fun i hi => BK_other (BK_SC (u2.2.2 i hi) hsc) (by omega)⟩
    rcases hc1 nx b1 with z | ⟨p, z1, z2, z3, z4, z5, z6⟩
    · have hkp := keep_a (M := setS (setS M s δs) w δ') (ρ := setS (setS M s δs) w δ' 0) (n0 := n0) (nx := nx) (κ := κ) (s := s) (w := w) (ks := k) (v := v) (by rw [x0]; exact a4) b1 (by rw [x0]; exact a2) (by omega) (by rw [x0]; exact a5) b2 (by rw [x0]; exact z) (by rw [x0]; exact a1) (by omega) (by
        rw [xw]
        obtain ⟨_, _, _, _, _, _, _, _, _, q, _⟩ := hW
        exact q) (by omega) b12 (by omega) (by omega) (by omega) hv hv1
      rw [setS_self] at hkp
      refine ⟨n0 + 1, _, hkp, ?_⟩
      refine inv_keep (w := w) (s := s) (t := t) (nx := nx) (κ := κ) (s' := n0) (C := C) (B := B) (B' := B') hR hk hT hP hTB hK ?_ ?_ (fun p y1 y2 y3 y4 => ?_) (.inr ⟨rfl, rfl⟩) (by omega) (by omega) ?_ ?_ hq3 hb3 (BK_bst μ' 0 B') hH3 hQ3
      · rw [setS_at, x0]
      · rw [setS_ne _ _ (by omega), setS_ne _ _ (by omega), x1]
      · rw [setS_ne _ _ (by omega), setS_ne _ _ (by omega), xo p y3 y4]
      · rw [setS_ne _ _ (by omega), setS_ne _ _ (by omega), xs]; exact hws
      · rw [setS_ne _ _ (by omega), setS_ne _ _ (by omega), xw]; exact hW
    · have hkp := keep_b (M := setS (setS M s δs) w δ') (ρ := setS (setS M s δs) w δ' 0) (n0 := n0) (nx := nx) (κ := κ) (s := s) (p := p) (v := v) (by rw [x0]; exact a4) b1 (by rw [x0]; exact a2) (by omega) (by rw [x0]; exact a5) b2 (by rw [x0]; exact z1) (by omega) hv hv1
      rw [setS_self] at hkp
      refine ⟨n0, _, hkp, ?_⟩
      refine inv_keep (w := w) (s := s) (t := t) (nx := nx) (κ := κ) (s' := p) (C := C) (B := B) (B' := B') hR hk hT hP hTB hK ?_ ?_ (fun p y1 y2 y3 y4 => ?_) (.inl ⟨rfl, z1, z3⟩) (by omega) (by omega) ?_ ?_ hq3 hb3 (BK_bst μ' 0 B') hH3 hQ3
      · rw [setS_at, x0]
      · rw [setS_ne _ _ (by omega), x1]
      · rw [setS_ne _ _ (by omega), xo p y3 y4]
      · rw [setS_ne _ _ (by omega), xs]; exact hws
      · rw [setS_ne _ _ (by omega), xw]; exact hW
  · rw [setS_self, Fh_keep, if_pos (show zI (-1) = (-1 : Int32) from rfl)]
