/-! ===== undo; what the questions start from ===== -/
def TopM (c n0 : Nat) (R1 : Option (Int32 × Mem)) (R2 : Option (Int32 × Sl)) : Prop := ∃ (r : Int32) (M' : Mem) (μ' : Sl), R1 = some (r, M') ∧ R2 = some (r, μ') ∧ Inv (c + 1) n0 M' μ'
def TopQ (c n0 : Nat) (M : Mem) (R1 : Option Int32) (R2 : Option (Int32 × Sl)) : Prop := ∃ (r : Int32) (μ' : Sl), R1 = some r ∧ R2 = some (r, μ') ∧ Inv (c + 1) n0 M μ'
theorem rgU_ne {ρ : Sl} {nx κ w p a i : Nat} (h1 : a ≠ 3) (h2 : ¬ (a = 0 ∧ (i = 4 ∨ i = 8 ∨ i = 9))) : rgU ρ nx κ w p a i = ρ a i := by
  rw [rgU, wr_ap, if_neg (by omega), wr_ap, if_neg (by omega), wr_ap, if_neg (by omega), wr_ap, if_neg (by omega)]
theorem rgU_3 {ρ : Sl} {nx κ w p : Nat} (i : Nat) : rgU ρ nx κ w p 3 i = if i = (nx + 19) % 20 then zI (w : Int) else ρ 3 i := by
  rw [rgU, wr_ap, if_neg (by omega), wr_ap, if_neg (by omega), wr_ap, if_neg (by omega), wr_ap]
  by_cases g : i = (nx + 19) % 20
  · rw [if_pos ⟨rfl, g⟩, if_pos g]
  · rw [if_neg (fun z => g z.2), if_neg g]
theorem top_undo {c n0 : Nat} {M : Mem} {μ : Sl} (hI : Inv c n0 M μ) : TopM c n0 (Fh_undo M) (Mo_undo μ) := by
  obtain ⟨n, S, k, w, s, t, nx, κ, B, C, h0, hR, hk, hT, hP, hTB, ⟨h1, h2, h3⟩, hw, hK⟩ := id hI
  obtain ⟨⟨a1, a2, a3, a4, a5⟩, ⟨b1, b2, b3, b4, b5, b6, b7, b8, b9, b10, b11, b12⟩, hc1, hi⟩ := id hR
  by_cases z : κ = 0
  · subst z
    have u1 := undo_a (M := M) (ρ := M 0) a5
    rw [setS_self] at u1
    exact ⟨_, _, _, u1, m_undo_a h3.1, inv_wr hI 0⟩
  · obtain ⟨p, p1, p2, p3⟩ := hK.1 (κ - 1) (by omega)
    have es : (nx + 20 - κ + (κ - 1)) % 20 = (nx + 19) % 20 := by omega
    rw [es] at p1
    obtain ⟨q1, q2, q3, q4, q5⟩ : 2 ≤ p ∧ p < n0 ∧ p ≠ w ∧ p ≠ s ∧ p ≠ t := by
      rcases hc1 ((nx + 19) % 20) (by omega) with y | ⟨p', y1, y2, y3, y4, y5, y6⟩
      · exact absurd (p1.symm.trans y) (zNm (by omega))
      · have := zN (by omega) (by omega) (p1.symm.trans y1)
        omega
    have u1 := undo_b (M := M) (ρ := M 0) (nx := nx) (κ := κ) (w := w) (p := p) a4 b1 a1 (by omega) a5 b2 (by omega) p1 (by omega)
    rw [setS_self] at u1
    obtain ⟨μ', m1, m2, m3, m4, m5⟩ := m_undo_b h3 (by omega)
    have hq : QU μ μ' := fun a i x _ _ y => m5 a i x (fun g => y ⟨g.1, by omega⟩)
    refine ⟨_, _, _, u1, m1, ?_⟩
    have e0 : setS M 0 (rgU (M 0) nx κ w p) 0 = rgU (M 0) nx κ w p := setS_at _ _ _
    have eo : ∀ j, j ≠ 0 → setS M 0 (rgU (M 0) nx κ w p) j = M j := fun j hj => setS_ne _ _ hj
    have m0 : ∀ a i, a ≠ 3 → ¬ (a = 0 ∧ (i = 4 ∨ i = 8 ∨ i = 9)) → setS M 0 (rgU (M 0) nx κ w p) 0 a i = M 0 a i := fun a i y1 y2 => by rw [e0, rgU_ne y1 y2]
    have r3 : ∀ i, setS M 0 (rgU (M 0) nx κ w p) 0 3 i = if i = (nx + 19) % 20 then zI (w : Int) else M 0 3 i := fun i => by rw [e0, rgU_3]
    have hr : ∀ (j q : Nat), j < 20 → q < 2147483648 → M 0 3 j = zI (q : Int) → q < n0 ∧ q ≠ w := by
      intro j q hj hq hz
      rcases hc1 j hj with y | ⟨p', y1, y2, y3, y4, y5, y6⟩
      · exact absurd (hz.symm.trans y) (zNm hq)
      · have := zN hq (by omega) (hz.symm.trans y1)
        omega
    refine ⟨n, S, k, p, s, t, (nx + 19) % 20, κ - 1, C (κ - 1), C, by omega, ⟨⟨?_, ?_, ?_, ?_, ?_⟩, ⟨by omega, by omega, q1, q2, b5, b6, b7, b8, q4, q5, b11, b12⟩, fun i hi1 => ?_, fun i j q g1 g2 g3 g4 g5 => ?_⟩, ⟨hk.1, ?_⟩, TX_keep hT (fun a i g1 g2 => ?_) hq, TP_keep hP (m0 _ _ (by omega) (by omega)) (fun i => m0 _ _ (by omega) (by omega)) (m0 _ _ (by omega) (by omega)) (m0 _ _ (by omega) (by omega)) hq, TB_keep hTB (fun a i g => m0 _ _ (by omega) (by omega)) (fun i => hq _ _ (by omega) (by omega) (by omega) (by omega)), ⟨⟨by rw [m5 34 25 (by omega) (by omega)]; exact h1.1, by omega⟩, m3, m2⟩, ?_, fun j hj => ?_, QJ_QU (hK.2.2 _ (by omega)) hq, fun j hj => QJ_QU (hK.2.2 j (by omega)) hq⟩
    · rw [e0, rgU, wr_ap, if_neg (by omega), wr_ap, if_neg (by omega), wr_ap, if_pos ⟨rfl, rfl⟩]
    · rw [m0 _ _ (by omega) (by omega)]; exact a2
    · rw [m0 _ _ (by omega) (by omega)]; exact a3
    · rw [e0, rgU, wr_ap, if_neg (by omega), wr_ap, if_pos ⟨rfl, rfl⟩]
    · rw [e0, rgU, wr_ap, if_pos ⟨rfl, rfl⟩]
    · rw [r3]
      by_cases g : i = (nx + 19) % 20
      · rw [if_pos g]; exact .inr ⟨w, rfl, b3, b4, fun y => q3 y.symm, b9, b10⟩
      · rw [if_neg g]
        rcases hc1 i hi1 with y | ⟨p', y1, y2, y3, y4, y5, y6⟩
        · exact .inl y
        · refine .inr ⟨p', y1, y2, y3, fun e => g (hi i ((nx + 19) % 20) p hi1 (by omega) q2 (by rw [← e]; exact y1) p1), y5, y6⟩
    · rw [r3] at g4 g5
      by_cases x : i = (nx + 19) % 20 <;> by_cases y : j = (nx + 19) % 20
      · omega
      · rw [if_pos x] at g4
        rw [if_neg y] at g5
        have := zN (by omega) (by omega) g4
        have := hr j q g2 (by omega) g5
        omega
      · rw [if_neg x] at g4
        rw [if_pos y] at g5
        have := zN (by omega) (by omega) g5
        have := hr i q g1 (by omega) g4
        omega
      · rw [if_neg x] at g4
        rw [if_neg y] at g5
        exact hi i j q g1 g2 g3 g4 g5
    · rw [m0 _ _ (by omega) (by omega)]; exact hk.2
    · have : k = 0 ∨ k = 1 := by omega
      rcases this with rfl | rfl
      · exact m0 a i (by omega) (by omega)
      · rw [eo 1 (by omega)]
    · rw [eo p (by omega)]; exact WH_mono p3 (by omega)
    · obtain ⟨p', y1, y2, y3⟩ := hK.1 j (by omega)
      have e1 : ((nx + 19) % 20 + 20 - (κ - 1) + j) % 20 = (nx + 20 - κ + j) % 20 := by omega
      have hp' : p' ≠ 0 := by
        rcases hc1 ((nx + 20 - κ + j) % 20) (by omega) with y | ⟨p'', v1, v2, v3, v4, v5, v6⟩
        · exact absurd (y1.symm.trans y) (zNm (by omega))
        · have := zN (by omega) (by omega) (y1.symm.trans v1)
          omega
      refine ⟨p', ?_, y2, ?_⟩
      · rw [e1, r3, if_neg (by omega)]; exact y1
      · rw [eo p' hp']; exact WH_mono y3 (by omega)
/-- what a question starts from -/
theorem top_q {c n0 : Nat} {M : Mem} {μ : Sl} (hI : Inv c n0 M μ) :
    ∃ (n S k w t : Nat) (B : Nat → Int) (σ : Nat → Nat) (bn : Nat) (A : Ab) (dep : Nat → Nat) (J : List Jb) (N e : Int) (qv pv wv : Nat → Int), (M 0 0 4 = zI (w : Int) ∧ w < 1000 ∧ M w 10 0 = zI (k : Int) ∧ k < 2 ∧ 2 ≤ w) ∧ (M 0 0 6 = zI (t : Int) ∧ t < 1000 ∧ 2 ≤ t ∧ t ≠ w) ∧ (RC n S (M w) σ bn B A dep J N ∧ WX (e, 0) n S (M w) B) ∧ SB M (M w) (wr μ 34 2 (0 : Int32)) n S qv pv wv ∧ (MB (wr μ 34 2 (0 : Int32)) 0 ∧ bst (wr μ 34 2 (0 : Int32)) 0 B = wr μ 34 2 (0 : Int32)) ∧ (N ≤ 100 * (c : Int) ∧ B 2196 ≤ 100 * (c : Int)) ∧ TX M k (wr μ 34 2 (0 : Int32)) n S ∧ (∀ μ', SC (wr μ 34 2 (0 : Int32)) μ' → Inv (c + 1) n0 M μ') ∧ ∀ (δ' μ' : Sl), QU (wr μ 34 2 (0 : Int32)) μ' → μ' 34 25 = zI 0 → μ' 34 26 = μ 34 26 → (∀ i, ¬ (2227 ≤ i ∧ i < 4454) → μ' 45 i = μ 45 i) → Inv (c + 1) n0 (setS M t δ') μ' := by
  obtain ⟨n, S, k, w, s, t, nx, κ, B, C, h0, hR, hk, hT, hP, hTB, ⟨h1, h2, h3⟩, hw, hK⟩ := id hI
  obtain ⟨⟨a1, a2, a3, a4, a5⟩, ⟨b1, b2, b3, b4, b5, b6, b7, b8, b9, b10, b11, b12⟩, hc1, hi⟩ := id hR
  obtain ⟨σ, bn, A, dep, J, N, e, w1, w2, w3, w4, w5⟩ := id hw
  have hq1 : QU μ (wr μ 34 2 (0 : Int32)) := QU_wr μ (i := 2) 0 (by omega)
  have hT0 : TX M k (wr μ 34 2 (0 : Int32)) n S := TX_keep hT (fun _ _ _ _ => rfl) hq1
  obtain ⟨qv, pv, wv, cc, wb, kd, x, t1, t2, t3, t4⟩ := TX_SB hT0
  refine ⟨n, S, k, w, t, B, σ, bn, A, dep, J, N, e, qv, pv, wv, ⟨a1, by omega, w3, hk.1, b3⟩, ⟨a3, by omega, b7, fun z => b10 z.symm⟩, ⟨w1, w2⟩, t1 _ w3, ⟨⟨by rw [wr_ap, if_neg (by omega)]; exact h1.1, h1.2⟩, bst_BK (BK_wr h2 (by omega))⟩, ⟨w4, w5⟩, hT0, fun μ' hs => ?_, fun δ' μ' hq g25 g26 g45 => ?_⟩
  · exact inv_same hI rfl rfl (fun _ _ _ => rfl) (QU_trans hq1 (QU_SC hs)) (fun u D _ hD => BK_SC (BK_wr hD (by omega)) hs) (by rw [hs 34 25 (by omega) (by omega) (by omega), wr_ap, if_neg (by omega)]) (by rw [hs 34 26 (by omega) (by omega) (by omega), wr_ap, if_neg (by omega)])
  · refine inv_same hI (setS_ne M δ' (by omega)) (setS_ne M δ' (by omega)) (fun p hp hp2 => setS_ne M δ' ?_) (QU_trans hq1 hq) (fun u D hu hD i hi => ?_) (by rw [g25]; exact h1.1.symm) g26
    · rcases hp with ⟨i, i1, i2⟩ | hp
      · rcases hc1 i i1 with z | ⟨p', z1, z2, z3, z4, z5, z6⟩
        · exact absurd (i2.symm.trans z) (zNm (by omega))
        · have := zN (by omega) (by omega) (i2.symm.trans z1)
          omega
      · have := zN (by omega) (by omega) (hp.symm.trans a1)
        omega
    · rw [g45 _ (by omega)]; exact hD i hi
