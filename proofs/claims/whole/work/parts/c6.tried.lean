/-! ===== tried ===== -/
section
variable {c n0 : Nat} {M : Mem} {μ : Sl}
theorem top_tried (hI : Inv c n0 M μ) (hc : c < 600) (a1 : Int32) : TopM c n0 (Fh_tried M a1) (Mo_tried μ a1) := by
  obtain ⟨n, S, k, w, t, B, σ, bn, A, dep, J, N, e, qv, pv, wv, δt, ⟨a, a2', a3, a4, a5⟩, ⟨b1, b2, b3, b4⟩, ⟨hR, hX⟩, ⟨hR1, hX1, h10⟩, hcp, hSB, ⟨f1, f2, f3⟩, ⟨hN, hW⟩, hTX, hbad, hfin⟩ := top_try hI
  obtain ⟨x1, ⟨i1, i2⟩, rfl⟩ := zI_ex a1
  obtain ⟨μ1, u1, u2, u3⟩ := asNow_on f3
  have hn6 := hSB.2.2.1.1
  obtain ⟨qv', pv', wv', cc', wb', kd', x', s1, s2, s3, s4⟩ := TX_SB (hTX δt μ1 u3.1)
  have hSB1 := s1 _ h10
  have d6 : ∀ δ, setS M t δ 0 0 6 = zI (t : Int) := fun δ => by rw [setS_ne _ _ (by omega)]; exact b1
  have d4 : ∀ δ, setS M t δ 0 0 4 = zI (w : Int) := fun δ => by rw [setS_ne _ _ (by omega)]; exact a
  have dw : ∀ δ, setS M t δ w = M w := fun δ => setS_ne _ _ (fun z => b4 z.symm)
  have fin : ∀ δ' μ', TR0 (wr μ 34 2 (0 : Int32)) μ' → Inv (c + 1) n0 (setS M t δ') (wr μ' 34 25 (0 : Int32)) := fun δ' μ' h => hfin _ δ' μ' (QU_refl _) (fun i => by rw [wr_ap, if_neg (by omega)]) (by rw [wr_ap, if_neg (by omega)]) h
  have hJ := hR.2.2.2.2.2.1
  have hpd := m_pend u3.2.1 hR.2.2.2.2.2.2.2.1 hJ.1.1
  have hof := m_of u3.2.1 B (k := 2200) (by omega) (by omega)
  rw [u2] at hpd hof
  have hcd := c_do hR.1 hR.2.1 hJ (by omega)
  have hjl : (jL J).length ≤ 192 := jL_len hJ
  have hall : ∀ (δ' μ' : Sl) (σ' : Nat → Nat) (bn' : Nat) (B' : Nat → Int) (A' : Ab) (dep' : Nat → Nat) (J' : List Jb) (N' : Int), RC n S δ' σ' bn' B' A' dep' J' N' → SC μ1 μ' → ∃ r, De_pagesOfAll δ' = some r ∧ Mo_pagesAll (bst μ' 1 B') = some r := fun δ' μ' σ' bn' B' A' dep' J' N' h hs => by
    have hmb : MB μ' 1 := (TR_SC u3 hs).2.1
    obtain ⟨qv2, _, _, _, _, _, _, _, _, hm2, _⟩ := TX_SB (hTX δt μ' (TR_SC u3 hs).1)
    exact ⟨_, c_all h.1 h.2.1, m_all hmb h.1 h.2.2.1 hm2⟩
  have mo0 : ∀ x : Int, 0 ≤ x → x ≤ 4 → Mo_tried μ (zI x) = if (2 : Int32) ≤ zI x then (Mo_tried_43 (zI x) (zI (B 2200)) (zI ((jL J).length : Int)) μ1) else (bd (Mo_settles μ1) fun r20 d21 => Mo_tried_43 (zI x) (zI (B 2200)) (zI ((jL J).length : Int)) d21) := fun x y1 y2 => by
    rw [Mo_tried, bnd_ap, show (0 : Int32) = zI 0 from rfl, show (4 : Int32) = zI 4 from rfl, m_isIn ⟨by omega, by omega⟩ ⟨by omega, by omega⟩ ⟨by omega, by omega⟩, bp_some]
    rw [show (zI 0 : Int32) = (0 : Int32) from rfl, bI_if, if_pos (decide_eq_true ⟨y1, y2⟩), u1, bd_some, show (2200 : Int32) = zI 2200 from rfl, hof, bp_some, bnd_ap, hpd, bp_some, bnd_ap]
    rfl
  by_cases z : 0 ≤ x1 ∧ x1 ≤ 4
  · have hcase : x1 = 0 ∨ x1 = 1 ∨ x1 = 2 ∨ x1 = 3 ∨ x1 = 4 := by omega
    rcases hcase with rfl | rfl | rfl | rfl | rfl
    · obtain ⟨cn, δ', μ', σ', bn', B', A', dep', v1, r1, r2, r4, r5, r6, r7, r8⟩ := settle_on (M := setS M t δt) hR1 hX1 (by omega) (by omega) u3.2.1 hSB1
      rw [u2] at r2
      obtain ⟨r, g1, g2⟩ := hall δ' μ' _ _ B' _ _ _ _ r4 r6
      refine ⟨r, setS M t δ', wr (bst μ' 1 B') 34 25 (0 : Int32), ?_, ?_, fin _ _ (TR_bst (TR_SC u3 r6) B')⟩
      · rw [Fh_tried, if_pos (by decide), b1, gref_z (by omega), a, gref_z (by omega), hcp, bd_some, d6, gref_z (by omega), setS_at, r1, lft_some, bd_some, setS_setS, d6, gref_z (by omega), setS_at, g1, bp_some]
      · rw [mo0 0 (by omega) (by omega), if_neg (by decide), r2, bd_some, Mo_tried_43, if_neg (by decide), tried_54 (n := n) (by decide), Mo_tried_84, if_neg (by decide), if_neg (by decide), if_neg (by decide), g2, bp_some, Mo_tried_126, bnd_ap, bnd_ap]
    · obtain ⟨cn, δ', μ', σ', bn', B', A', dep', v1, r1, r2, r4, r5, r6, r7, r8⟩ := settle_on (M := setS M t δt) hR1 hX1 (by omega) (by omega) u3.2.1 hSB1
      rw [u2] at r2
      have ho := m_of (TR_SC u3 r6).2.1 B' (k := 2200) (by omega) (by omega)
      have q1 : δ' 10 13 = zI (B' 2200) := r5.2.2.2.1.2.1
      have q2 : M w 10 13 = zI (B 2200) := hX.2.2.2.1.2.1
      refine ⟨zI (B' 2200) - zI (B 2200), setS M t δ', wr (bst μ' 1 B') 34 25 (0 : Int32), ?_, ?_, fin _ _ (TR_bst (TR_SC u3 r6) B')⟩
      · rw [Fh_tried, if_neg (by decide), if_pos (by decide), b1, gref_z (by omega), a, gref_z (by omega), hcp, bd_some, d6, gref_z (by omega), setS_at, r1, lft_some, bd_some, setS_setS, d6, gref_z (by omega), d4, gref_z (by omega), setS_at, dw, q1, q2]
      · rw [mo0 1 (by omega) (by omega), if_neg (by decide), r2, bd_some, Mo_tried_43, if_neg (by decide), tried_54 (n := n) (by decide), Mo_tried_84, if_pos (by decide), show (2200 : Int32) = zI 2200 from rfl, ho, bp_some, Mo_tried_126, bnd_ap, bnd_ap]
        rfl
    · have hi := fin (M t) μ1 u3
      rw [setS_self] at hi
      refine ⟨zI ((jL J).length : Int), M, wr μ1 34 25 (0 : Int32), ?_, ?_, hi⟩
      · rw [Fh_tried, if_neg (by decide), if_neg (by decide), if_pos (by decide), a, gref_z (by omega), hcd, bp_some]
      · rw [mo0 2 (by omega) (by omega), if_pos (by decide), Mo_tried_43, if_neg (by decide), tried_54 (n := n) (by decide), Mo_tried_84, if_neg (by decide), if_pos (by decide), Mo_tried_126, bnd_ap, bnd_ap]
    · obtain ⟨v, δ', σ', bn', μ', B', A', dep', J', N', k1, k2, -, k3, k4, k5, k6, k7, k8⟩ := work_wo (M := setS M t δt) hR1 hX1 (by omega) u3.2.1 (w := ((jL J).length : Int)) (by omega) (by omega)
      rw [u2] at k2
      obtain ⟨r, g1, g2⟩ := hall δ' μ' _ _ B' _ _ _ _ k3 k5
      refine ⟨r, setS M t δ', wr (bst μ' 1 B') 34 25 (0 : Int32), ?_, ?_, fin _ _ (TR_bst (TR_SC u3 k5) B')⟩
      · rw [Fh_tried, if_neg (by decide), if_neg (by decide), if_neg (by decide), if_pos (by decide), b1, gref_z (by omega), a, gref_z (by omega), hcp, bd_some, d6, gref_z (by omega), d4, gref_z (by omega), dw, hcd, bp_some, setS_at, k1, lft_some, bd_some, setS_setS, d6, gref_z (by omega), setS_at, g1, bp_some]
      · rw [mo0 3 (by omega) (by omega), if_pos (by decide), Mo_tried_43, if_pos (by decide), k2, bd_some, tried_54 (n := n) (by decide), Mo_tried_84, if_neg (by decide), if_neg (by decide), if_neg (by decide), g2, bp_some, Mo_tried_126, bnd_ap, bnd_ap]
    · obtain ⟨r, δ', μ', g1, g2, g3⟩ := tried_l (v2 := zI (B 2200)) (v3 := zI ((jL J).length : Int)) a4 b3 b2 b1 hTX hn6 n 0 FU FU δt μ1 σ bn B A dep J N e (by omega) (FU_gt (by omega)) (FU_gt (by omega)) hR1 hX1 h10 (by omega) u3
      have z0 : zI ((0 : Nat) : Int) = (0 : Int32) := rfl
      rw [z0] at g1
      rw [z0, u2] at g2
      refine ⟨r, setS M t δ', wr μ' 34 25 (0 : Int32), ?_, ?_, fin _ _ g3⟩
      · rw [Fh_tried, if_neg (by decide), if_neg (by decide), if_neg (by decide), if_neg (by decide), if_pos (by decide), b1, gref_z (by omega), a, gref_z (by omega), hcp, bd_some, bnd_ap, g1]
      · rw [mo0 4 (by omega) (by omega), if_pos (by decide), Mo_tried_43, if_neg (by decide), Mo_tried_54, bnd_ap, show zI 4 = (4 : Int32) from rfl, g2]
  · have ne : ∀ j : Int, 0 ≤ j → j ≤ 4 → ¬ zI x1 = zI j := fun j j1 j2 => by rw [zI_eq (by omega) (by omega) (by omega) (by omega)]; omega
    have hb := hbad (M t)
    rw [setS_self] at hb
    refine ⟨(-1 : Int32), M, wr μ 34 2 (0 : Int32), ?_, ?_, hb⟩
    · rw [Fh_tried, if_neg (show ¬ zI x1 = (0 : Int32) from ne 0 (by omega) (by omega)), if_neg (show ¬ zI x1 = (1 : Int32) from ne 1 (by omega) (by omega)), if_neg (show ¬ zI x1 = (2 : Int32) from ne 2 (by omega) (by omega)), if_neg (show ¬ zI x1 = (3 : Int32) from ne 3 (by omega) (by omega)), if_neg (show ¬ zI x1 = (4 : Int32) from ne 4 (by omega) (by omega))]
    · have hin : Mo_isIn (zI x1) (0 : Int32) (4 : Int32) = some (bI (decide ((0 : Int) ≤ x1 ∧ x1 ≤ 4))) := m_isIn (lo := 0) (hi := 4) ⟨i1, i2⟩ ⟨by omega, by omega⟩ ⟨by omega, by omega⟩
      rw [Mo_tried, bnd_ap, hin, bp_some, bI_if, if_neg (by rw [decide_eq_true_eq]; exact z)]
end
