/-! ===== text: both sides ===== -/
theorem top_text {c n0 : Nat} {M : Mem} {μ : Sl} (hI : Inv c n0 M μ) (a1 : Int32) : TopM c n0 (Fh_text M a1) (Mo_text μ a1) := by
  obtain ⟨x, hx, rfl⟩ := zI_ex a1
  have hI0 := hI
  obtain ⟨n, S, k, w, s, t, nx, κ, B, C, h0, hR, hk, hT, hP, hTB, ⟨h1, h2, h3⟩, hw, hK⟩ := hI
  obtain ⟨⟨r1, r2, r3, r4, r5⟩, ⟨b1, b2, b3, b4, b5, b6, b7, b8, b9, b10, b11, b12⟩, hc, hi⟩ := id hR
  obtain ⟨tt, g1, g2, g3, g4, g5, g6⟩ := hP
  have w31 : wr μ 34 2 (0 : Int32) 34 1 = zI (tt : Int) := by rw [wr_ap, if_neg (by omega)]; exact g3
  by_cases z : 0 ≤ x ∧ x ≤ (tt : Int)
  · obtain ⟨a, rfl⟩ : ∃ a : Nat, x = (a : Int) := ⟨x.toNat, by omega⟩
    obtain ⟨T, M2, μ2, s1, s2, s3, s4, s5, s6, ⟨s7, s8, s9, s10⟩, ⟨s11, s12⟩, s13, s14⟩ := start_on (M := M) (μ := μ) (q := 1 - k) (a := a) (t := 0) (by omega) (by omega) g4 hTB hk.2
    rw [if_neg (by rw [zI_lit, zI_lt (by omega) (by omega) (by omega) (by omega)]; omega), if_pos (by rw [g2, zI_le (by omega) (by omega) (by omega) (by omega)]; omega)] at s1
    rw [if_neg (by rw [zI_lit, zI_lt (by omega) (by omega) (by omega) (by omega)]; omega), if_pos (by rw [w31, zI_le (by omega) (by omega) (by omega) (by omega)]; omega)] at s2
    have tl := text_loop (a + 1) 0 0 FU FU M2 μ2 (by omega) (Nat.le_of_lt (FU_gt (by omega))) (Nat.le_of_lt (FU_gt (by omega))) (by omega) s3 s4 s5 s6
    have z0 : zI ((0 : Nat) : Int) = (0 : Int32) := rfl
    rw [z0] at tl
    rw [s1, s2]
    rcases tl with ⟨M', μ', e1, e2, e3, e4, e5⟩ | ⟨M', μ', j, e1, e2, e3, e4, e5, e6, ⟨y1, y2, y3, y4⟩, e7, e8⟩
    · have hB' := RBs_fr s4 e4 e5
      have mp : ∀ p, 2 ≤ p → M' p = M p := fun p hp => by
        funext b i
        rw [e4 _ _ _ (by omega) (by omega), s13 _ _ _ (by omega) (by omega) (by omega)]
      have m0 : ∀ b i, b ≠ 2 → (b < 4 ∨ 9 < b) → ¬ (b = 0 ∧ i = 1) → M' 0 b i = M 0 b i := fun b i u1 u2 u3 => by
        rw [e4 _ _ _ (by omega) (by omega), s13 _ _ _ (by omega) (by omega) (by omega)]
      have mm : ∀ b i, ¬ (b = 34 ∧ (i = 1 ∨ i = 2 ∨ (4 ≤ i ∧ i ≤ 10) ∨ i = 12 ∨ i = 14 ∨ i = 23)) → ¬ (37 ≤ b ∧ b ≤ 40 ∧ 6 ≤ i) → ¬ (b = 41 ∧ 7 ≤ i) → b ≠ 42 → ¬ (b = 43 ∧ 24 ≤ i) → ¬ (b = 44 ∧ 144 ≤ i) → μ' b i = μ b i := fun b i u1 u2 u3 u4 u5 u6 => by
        rw [e5 _ _ (by omega) u2 u3 u4 u5 u6, s14 _ _ (by omega) (by omega) u4]
      refine ⟨(-1 : Int32), M', μ', e1, e2, n, S, k, w, s, t, nx, κ, B, C, by omega, RG_low hR (fun i h => m0 _ _ (by omega) (by omega) (by omega)) (by rw [m0 _ _ (by omega) (by omega) (by omega)]; exact r5) b2 (fun i => m0 _ _ (by omega) (by omega) (by omega)), ⟨hk.1, by rw [m0 _ _ (by omega) (by omega) (by omega)]; exact hk.2⟩, TX_low hT (fun b i u1 u2 => ?_) (fun b i u => mm _ _ (by omega) (by omega) (by omega) (by omega) (by omega) (by omega)), ⟨0, by omega, ?_, ?_, fun i hi => ?_, e3.1, e3.2⟩, hB'.2.2.2.2.1, ⟨⟨by rw [mm _ _ (by omega) (by omega) (by omega) (by omega) (by omega) (by omega)]; exact h1.1, h1.2⟩, fun i hi => by rw [mm _ _ (by omega) (by omega) (by omega) (by omega) (by omega) (by omega)]; exact h2 i hi, by rw [mm _ _ (by omega) (by omega) (by omega) (by omega) (by omega) (by omega)]; exact h3.1, h3.2.1, fun i hi l hl => by rw [mm _ _ (by omega) (by omega) (by omega) (by omega) (by omega) (by omega)]; exact h3.2.2 i hi l hl⟩, ?_, fun l hl => ?_, QA_of hK.2 (mm _ _ (by omega) (by omega) (by omega) (by omega) (by omega) (by omega)) (mm _ _ (by omega) (by omega) (by omega) (by omega) (by omega) (by omega)) (fun s hs => mm _ _ (by omega) (by omega) (by omega) (by omega) (by omega) (by omega))⟩
      · rw [e4 _ _ _ (by omega) (by omega), s13 _ _ _ (by omega) (by omega) (by omega)]
      · rw [e4 _ _ _ (by omega) (by omega)]; exact s11
      · rw [e5 _ _ (by omega) (by omega) (by omega) (by omega) (by omega) (by omega)]; exact s12
      · rw [m0 _ _ (by omega) (by omega) (by omega), mm _ _ (by omega) (by omega) (by omega) (by omega) (by omega) (by omega)]; exact g4 i hi
      · rw [mp w b3]; exact WH_mono hw (by omega)
      · obtain ⟨p, p1, p2, p3⟩ := hK.1 l hl
        have hp2 : 2 ≤ p := by
          rcases hc ((nx + 20 - κ + l) % 20) (Nat.mod_lt _ (by omega)) with e | ⟨p', u1, u2, u3, -⟩
          · rw [p1] at e
            have := (zI_eq (by omega) (by omega) (by omega) (by omega)).mp e
            omega
          · rw [p1] at u1
            have := zN (by omega) (by omega) u1
            omega
        exact ⟨p, by rw [m0 _ _ (by omega) (by omega) (by omega)]; exact p1, p2, by rw [mp p hp2]; exact WH_mono p3 (by omega)⟩
    · have mp : ∀ p, 2 ≤ p → M' p = M p := fun p hp => by
        funext b i
        rw [e7 _ _ _ (by omega) (by omega), s13 _ _ _ (by omega) (by omega) (by omega)]
      have m0 : ∀ b i, b ≠ 2 → (b < 4 ∨ 9 < b) → ¬ (b = 0 ∧ i = 1) → M' 0 b i = M 0 b i := fun b i u1 u2 u3 => by
        rw [e7 _ _ _ (by omega) (by omega), s13 _ _ _ (by omega) (by omega) (by omega)]
      obtain ⟨σw, bnw, Aw, depw, Jw, Nw, ew, -, -, hw10, -, -⟩ := id hw
      obtain ⟨nr, pv, wv, qv, qt, S', wb, dc, sd, tb, cs, kd, xx, hP', hT', hU'⟩ := e4
      obtain ⟨⟨p1, p2, p3⟩, -, p7⟩ := hP'
      obtain ⟨⟨q1, q2, q3⟩, ⟨q4, q5, q6, q7⟩, ⟨q8, q9, q10, q11⟩, ⟨q12, q13, q14, q15⟩, -, -⟩ := hT'
      obtain ⟨⟨u1, u2, u3⟩, u4⟩ := hU'
      obtain ⟨μ1, B1, v1, v2, ⟨v3, v4, v5, v6, v7⟩, v8, v9, v10, v11, v12⟩ := keepText_on μ'
      have hb1 : MB μ1 0 := ⟨v5, by omega⟩
      have c02 : M' 0 0 2 = zI ((1 - k : Nat) : Int) := by rw [m0 _ _ (by omega) (by omega) (by omega)]; exact hk.2
      have c04 : ∀ v, wrM M' 0 0 2 v 0 0 4 = zI (w : Int) := fun v => by rw [wrM_ap, if_neg (by omega), m0 _ _ (by omega) (by omega) (by omega)]; exact r1
      have c04' : M' 0 0 4 = zI (w : Int) := by rw [m0 _ _ (by omega) (by omega) (by omega)]; exact r1
      have cw10 : M' w 10 0 = zI (k : Int) := by rw [mp w b3]; exact hw10
      obtain ⟨D, hD⟩ : ∃ D, wrM M' 0 0 2 (nI k) = D := ⟨_, rfl⟩
      have dD : ∀ j b i, ¬ (j = 0 ∧ b = 0 ∧ i = 2) → D j b i = M' j b i := fun j b i y => by rw [← hD, wrM_ap, if_neg y]
      have d2 : D 0 0 2 = zI (k : Int) := by rw [← hD, wrM_ap, if_pos ⟨rfl, rfl, rfl⟩]; exact zI_nI k
      obtain ⟨δ', B', t1, t2, t3, t4⟩ := begin_on (M := D) (q := 1 - k) (n := nr) (S := S') (μ := μ1) (B := B1) (by rw [dD _ _ _ (by omega)]; exact p2) (by rw [dD _ _ _ (by omega)]; exact q1) p1 q3 hb1 (by rw [v3]; exact p3) (by rw [v9 3 (by omega)]; exact q2) v2 (D w)
      have md : ∀ j b i, j ≠ w → ¬ (j = 0 ∧ b = 0 ∧ (i = 2 ∨ i = 9)) → wrM (setS D w δ') 0 0 9 (0 : Int32) j b i = M' j b i := fun j b i y1 y2 => by
        rw [wrM_ap, if_neg (by omega), setS_ne _ _ y1, dD _ _ _ (by omega)]
      have mw' : wrM (setS D w δ') 0 0 9 (0 : Int32) w = δ' := by
        funext b i
        rw [wrM_ap, if_neg (by omega), setS_at]
      have n2 : wrM (setS D w δ') 0 0 9 (0 : Int32) 0 0 2 = zI (k : Int) := by rw [wrM_ap, if_neg (by omega), setS_ne _ _ (by omega)]; exact d2
      have n9 : wrM (setS D w δ') 0 0 9 (0 : Int32) 0 0 9 = zI ((0 : Nat) : Int) := by rw [wrM_ap, if_pos ⟨rfl, rfl, rfl⟩]; rfl
      have cl : Fh_text_67 M' = some (zI (j : Int), wrM (setS D w δ') 0 0 9 (0 : Int32)) := by
        have ee : wrM (setS D w δ') 0 0 9 (0 : Int32) (1 - k) 4 11 = zI (j : Int) := by rw [md _ _ _ (by omega) (by omega)]; exact e6
        rw [Fh_text_67, c02, gref_z (by omega), c04', gref_z (by omega), cw10, gref_z (by omega), bnd_ap, c04, gref_z (by omega), hD, t1, lft_some, bd_some, bnd_ap, ee]
      generalize wrM (setS D w δ') 0 0 9 (0 : Int32) = M8 at *
      have lb : ∀ b i, b ≠ 45 → bst μ1 0 B' b i = μ1 b i := fun b i y => bst_ne _ _ _ y
      refine ⟨zI (j : Int), M8, bst μ1 0 B', by rw [e1, cl], by rw [e2, v1, t2, bd_some], nr, S', 1 - k, w, s, t, nx, 0, B', C, by omega, RG_low hR (fun i h => ?_) n9 (by omega) (fun i => ?_), ⟨by omega, by rw [n2, show 1 - (1 - k) = k by have := hk.1; omega]⟩, ⟨qv, pv, wv, cs, wb, dc, sd, kd, xx, ⟨by omega, ?_, ?_, fun s h1 h2 => ?_, fun s hs => ?_, fun s hs => ?_, fun s hs => ?_⟩, ⟨⟨?_, ?_, fun s h1 h2 => ?_⟩, ⟨p1, q3, fun s h1 h2 => ⟨(p7 s h2).2.2.2.2.1, (p7 s h2).2.2.2.2.2.1⟩⟩, fun s hs => ?_, fun s hs => ⟨(p7 s hs).2.1.2.2.1, (p7 s hs).2.1.2.2.2⟩, fun s hs => ?_, fun s hs => ⟨(p7 s hs).2.2.1.2.2.1, (p7 s hs).2.2.1.2.2.2⟩⟩, ⟨?_, ?_, ?_, ?_, ⟨by omega, by omega, by omega, by omega⟩, fun i hi => ?_⟩, ⟨?_, ?_, q10, q11⟩, ?_, ?_, q14, q15⟩, ⟨0, by omega, ?_, ?_, fun i hi => ?_, ?_, ?_⟩, ?_, ⟨⟨by rw [lb _ _ (by omega)]; exact v5, by omega⟩, BK_bst μ1 0 B', by rw [lb _ _ (by omega)]; exact v6, by omega, fun i hi => absurd hi (by omega)⟩, by rw [mw']; exact WH_mono t3 (by omega), fun l hl => absurd hl (by omega), QJ_zero t4, fun l hl => absurd hl (by omega)⟩
      · rw [md _ _ _ (by omega) (by omega), m0 _ _ (by omega) (by omega) (by omega)]
      · rw [md _ _ _ (by omega) (by omega), m0 _ _ (by omega) (by omega) (by omega)]
      · rw [md _ _ _ (by omega) (by omega)]; exact p2
      · rw [md _ _ _ (by omega) (by omega)]; exact q1
      · rw [md _ _ _ (by omega) (by omega)]; exact (p7 s h2).2.2.2.1
      · rw [md _ _ _ (by omega) (by omega)]; exact (p7 s hs).2.1.1
      · rw [md _ _ _ (by omega) (by omega)]; exact (p7 s hs).2.2.1.1
      · rw [md _ _ _ (by omega) (by omega), lb _ _ (by omega), v8 _ _ (by omega) (by omega) (by omega)]; exact (p7 s hs).1
      · rw [lb _ _ (by omega), v3]; exact p3
      · rw [lb _ _ (by omega), v9 _ (by omega)]; exact q2
      · rw [lb _ _ (by omega), v8 _ _ (by omega) (by omega) (by omega)]
        cases hqt : qt s with
        | true => exact .inl ((p7 s h2).2.2.2.2.2.2.1 hqt)
        | false => exact .inr ((p7 s h2).2.2.2.2.2.2.2 hqt)
      · rw [lb _ _ (by omega), v8 _ _ (by omega) (by omega) (by omega)]; exact (p7 s hs).2.1.2.1
      · rw [lb _ _ (by omega), v8 _ _ (by omega) (by omega) (by omega)]; exact (p7 s hs).2.2.1.2.1
      · rw [md _ _ _ (by omega) (by omega)]; exact u2
      · rw [md _ _ _ (by omega) (by omega)]; exact q4
      · rw [lb _ _ (by omega), v4]; exact u3
      · rw [lb _ _ (by omega), v9 _ (by omega)]; exact q5
      · obtain ⟨f1, f2, f3, f4, f5⟩ := u4 i (by omega)
        exact ⟨by rw [md _ _ _ (by omega) (by omega)]; exact f1, fun j hj => by rw [md _ _ _ (by omega) (by omega)]; exact f2 j hj, by rw [lb _ _ (by omega), v10 _ (by omega)]; exact f3, fun j hj => by rw [lb _ _ (by omega), v11 _ (by omega)]; exact f4 j hj, f5⟩
      · rw [md _ _ _ (by omega) (by omega)]; exact q8
      · rw [lb _ _ (by omega), v9 _ (by omega)]; exact q9
      · rw [md _ _ _ (by omega) (by omega)]; exact q12
      · rw [lb _ _ (by omega), v9 _ (by omega)]; exact q13
      · rw [md _ _ _ (by omega) (by omega), e7 _ _ _ (by omega) (by omega)]; exact s11
      · rw [lb _ _ (by omega), v7 _ (by omega) (by omega) (by omega) (by omega), e8 _ _ (by omega) (by omega) (by omega) (by omega) (by omega) (by omega)]; exact s12
      · rw [md _ _ _ (by omega) (by omega), m0 _ _ (by omega) (by omega) (by omega), lb _ _ (by omega), v12 _ _ (by omega), e8 _ _ (by omega) (by omega) (by omega) (by omega) (by omega) (by omega), s14 _ _ (by omega) (by omega) (by omega)]; exact g4 i hi
      · rw [md _ _ _ (by omega) (by omega), y1, s7, lb _ _ (by omega), v7 _ (by omega) (by omega) (by omega) (by omega), y3, s9]
      · rw [md _ _ _ (by omega) (by omega), y2, s8, lb _ _ (by omega), v7 _ (by omega) (by omega) (by omega) (by omega), y4, s10]
      · exact TB_keep e3.2.2.2.2.1 (fun b i g => md _ _ _ (by omega) (by omega)) (fun i => by rw [lb _ _ (by omega), v12 _ _ (by omega)])
  · have hI1 := inv_wr hI0 (0 : Int32)
    refine ⟨(-2 : Int32), M, wr μ 34 2 (0 : Int32), ?_, ?_, hI1⟩
    · rw [Fh_text]
      by_cases y : x < 0
      · rw [if_pos (by rw [zI_lit, zI_lt (by have := hx.1; omega) (by have := hx.2; omega) (by omega) (by omega)]; omega)]
      · rw [if_neg (by rw [zI_lit, zI_lt (by have := hx.1; omega) (by have := hx.2; omega) (by omega) (by omega)]; omega), if_neg (by rw [g2, zI_le (by have := hx.1; omega) (by have := hx.2; omega) (by omega) (by omega)]; omega)]
    · rw [Mo_text, bnd_ap]
      by_cases y : x < 0
      · rw [if_pos (by rw [zI_lit, zI_lt (by have := hx.1; omega) (by have := hx.2; omega) (by omega) (by omega)]; omega)]
      · rw [if_neg (by rw [zI_lit, zI_lt (by have := hx.1; omega) (by have := hx.2; omega) (by omega) (by omega)]; omega), if_neg (by rw [w31, zI_le (by have := hx.1; omega) (by have := hx.2; omega) (by omega) (by omega)]; omega)]
