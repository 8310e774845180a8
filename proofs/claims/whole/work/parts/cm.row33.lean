/-! ===== row 33 of a world means nothing ===== -/
theorem WH_33 {n S k : Nat} {δ δ' : Sl} {B : Nat → Int} {L : Int} (h : WH n S k δ B L) (e : ∀ a i, a ≠ 33 → δ' a i = δ a i) : WH n S k δ' B L := by
  obtain ⟨σ, bn, A, dep, J, N, ee, hR, hX, h10, hN, hW⟩ := h
  refine ⟨σ, bn, A, dep, J, N, ee, RC_fld hR (fun a i z => e a i (by omega)) (e _ _ (by omega)) (e _ _ (by omega)), WX_keep hX (fun a i z => e a i (by omega)) (fun i z => e _ _ (by omega)) (fun _ _ _ _ _ => rfl) ?_ ?_, by rw [e _ _ (by omega)]; exact h10, hN, hW⟩
  · rw [e _ _ (by omega)]; exact hX.2.2.2.1.2.2.1
  · rw [e _ _ (by omega)]; exact hX.2.2.2.1.2.2.2
theorem inv_33 {c n0 : Nat} {M : Mem} {μ μ' : Sl} {w : Nat} {δ' : Sl} (hI : Inv c n0 M μ) (hw : M 0 0 4 = zI (w : Int)) (hw2 : w < 1000) (e : ∀ a i, a ≠ 33 → δ' a i = M w a i) (hs : SC (wr μ 34 2 (0 : Int32)) μ') : Inv (c + 1) n0 (setS M w δ') μ' := by
  obtain ⟨n, S, k, w', s, t, nx, κ, B, C, h0, hR, hk, hT, hP, hTB, ⟨h1, h2, h3⟩, hwh, hK⟩ := hI
  obtain ⟨⟨a1, a2, a3, a4, a5⟩, ⟨b1, b2, b3, b4, b5, b6, b7, b8, b9, b10, b11, b12⟩, hc, hi⟩ := id hR
  have ew : w' = w := zN (by omega) (by omega) (a1.symm.trans hw)
  subst ew
  have hq : QU μ μ' := QU_trans (QU_wr μ (i := 2) 0 (by omega)) (QU_SC hs)
  have hb : ∀ u D, BK μ u D → BK μ' u D := fun u D hD => BK_SC (BK_wr hD (by omega)) hs
  have m0 : setS M w' δ' 0 = M 0 := setS_ne _ _ (by omega)
  have mk : setS M w' δ' k = M k := setS_ne _ _ (by have := hk.1; omega)
  refine ⟨n, S, k, w', s, t, nx, κ, B, C, by omega, ?_, ⟨hk.1, by rw [m0]; exact hk.2⟩, TX_keep hT (fun a i _ _ => by rw [mk]) hq, TP_keep hP (by rw [m0]) (fun i => by rw [m0]) (by rw [m0]) (by rw [m0]) hq, TB_keep hTB (fun a i g => by rw [m0]) (fun i => hq _ _ (by omega) (by omega) (by omega) (by omega)), ⟨⟨?_, h1.2⟩, hb _ _ h2, ?_, h3.2.1, fun i hi => hb _ _ (h3.2.2 i hi)⟩, ?_, fun j hj => ?_, QA_QU hK.2 hq⟩
  · unfold RG; rw [m0]; exact hR
  · rw [hs _ _ (by omega) (by omega) (by omega), wr_ap, if_neg (by omega)]; exact h1.1
  · rw [hs _ _ (by omega) (by omega) (by omega), wr_ap, if_neg (by omega)]; exact h3.1
  · rw [setS_at]; exact WH_mono (WH_33 hwh e) (by omega)
  · obtain ⟨p, p1, p2, p3⟩ := hK.1 j hj
    have hne : p ≠ w' := by
      rcases hc ((nx + 20 - κ + j) % 20) (Nat.mod_lt _ (by omega)) with z | ⟨p', z1, z2, z3, z4, -⟩
      · exact absurd (p1.symm.trans z) (zNm (by omega))
      · have := zN (by omega) (by omega) (p1.symm.trans z1)
        omega
    exact ⟨p, by rw [m0]; exact p1, p2, by rw [setS_ne _ _ hne]; exact WH_mono p3 (by omega)⟩
