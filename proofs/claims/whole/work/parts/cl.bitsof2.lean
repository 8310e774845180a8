/-! ===== bitsOf: the whole ===== -/
theorem sh23 : ∀ E : Fin 255, zI (E.val : Int) <<< ((23 : Int32) &&& 31) = zI ((E.val * 8388608 : Nat) : Int) := by decide +kernel
theorem b75_i {x : UInt64} {m w k : Nat} {q : Int} (h : DD x m q) (hq : q = -(k : Int) - 23) (hk : k ≤ 900) (hk2 : 29 ≤ k) (hw : m = w * 2 ^ k) (hw2 : w < 2147483648) : nn64 (FP.dmul x 4710765210229538816) ∧ FP.d2i (FP.dmul x 4710765210229538816) = zI (w : Int) := by
  have hd := dd_mul h (y := 4710765210229538816) (r := 23) (by rw [v23]; rfl) (by omega) (by omega)
  refine ⟨dd_nn hd, ?_⟩
  have nx : FP.Core.val64 (FP.dmul x 4710765210229538816) ≠ FP.Core.Datum.nan := by rw [hd.1]; exact FP.Core.Datum.noConfusion
  have t := FP.Core.d2i_val nx
  have q2 : FP.Core.b64.qmin = -1074 := by decide
  have zx : FP.Core.zmag FP.Core.b64 (FP.Core.val64 (FP.dmul x 4710765210229538816)) = m * 2 ^ (1074 - k) := by
    rw [hd.1]
    show m * 2 ^ (q + 23 - FP.Core.b64.qmin).toNat = _
    rw [q2, show (q + 23 - -1074).toNat = 1074 - k by omega]
  have sg : FP.Core.sgn (FP.Core.val64 (FP.dmul x 4710765210229538816)) = false := by rw [hd.1]; rfl
  have dv : m * 2 ^ (1074 - k) / FP.Core.one64 = w := by
    unfold FP.Core.one64
    rw [hw, Nat.mul_assoc, ← Nat.pow_add, show k + (1074 - k) = 1074 by omega]
    exact Nat.mul_div_cancel _ (Nat.two_pow_pos _)
  rw [zx, sg, dv] at t
  have e : (FP.d2i (FP.dmul x 4710765210229538816)).toInt = (w : Int) := by
    show (FP.Core.d2i _).toInt = _
    rw [t]
    show max (-2 ^ 31 : Int) (min (2 ^ 31 - 1) (w : Int)) = _
    omega
  rw [← e, zI_of]
theorem bits_on {a : Nat} (ha : a < 2139095040) : Fh_bitsOf (zI (a : Int)).toUInt32 = some (zI (a : Int)) := by
  by_cases z : a = 0
  · rw [Fh_bitsOf, if_neg (by rw [f0_cmp ha]; omega), z]; rfl
  · have e := f_cmp (a := a) (b := 2139095039) ha (by omega)
    have e1 : (zI ((2139095039 : Nat) : Int)).toUInt32 = (2139095039 : UInt32) := by decide
    rw [e1] at e
    have c2 : (Op.cmpValue (FP.fcmp (zI (a : Int)).toUInt32 (2139095039 : UInt32)) .l) ≤ 0 := by
      rw [e]
      by_cases y : a < 2139095039
      · rw [if_pos y]; decide
      · rw [if_neg y, if_pos (by omega)]; decide
    obtain ⟨f, hf⟩ : ∃ f, FU = f + 1 := ⟨999999, rfl⟩
    have wl := wh_lt a
    have pr := pw_rng ha
    rw [Fh_bitsOf, if_pos (by rw [f0_cmp ha]; omega), if_pos c2]
    by_cases n : a / 8388608 = 0
    · -- a denormal
      have ew : whB a = a := by unfold whB; rw [if_pos n]
      have ep : pwB a = -149 := by unfold pwB; rw [if_pos n]
      have l1 : 2 ^ a.log2 ≤ a := Nat.log2_self_le z
      have l2 : a < 2 ^ (a.log2 + 1) := Nat.lt_log2_self
      have l3 : a.log2 < 23 := (Nat.pow_lt_pow_iff_right (by decide : 1 < 2)).mp (Nat.lt_of_le_of_lt l1 (by omega))
      generalize a.log2 = L at *
      have hd := dd_f2d ha (L := L) (by omega) (by rw [ew]; exact l1) (by rw [ew]; exact l2)
      rw [ew, ep] at hd
      obtain ⟨x', d1, d2⟩ := b51 126 FU _ _ 0 hd (by omega) (by omega) (by omega) (.inr (by omega)) (FU_gt (by omega))
      obtain ⟨r1, r2⟩ := b75_i (w := a) (k := 52 - L) d1 (by omega) (by omega) (by omega) rfl (by omega)
      have c := (dd_lt d1 v1 (by omega)).1 (by omega)
      have z0 : (0 : Int32) = zI 0 := rfl
      rw [if_pos (dd_nn hd), bnd_ap, bnd_ap, hf, b25_no hd (by omega), z0, d2, Fh_bitsOf_75, if_pos r1, bnd_ap, c, if_neg (by decide), r2]
    · have ew : whB a = a % 8388608 + 8388608 := by unfold whB; rw [if_neg n]
      have ep : pwB a = ((a / 8388608 : Nat) : Int) - 150 := by unfold pwB; rw [if_neg n]
      have hd := dd_f2d ha (L := 23) (by omega) (by rw [ew]; omega) (by rw [ew]; omega)
      have hq : pwB a - (52 - ((23 : Nat) : Int)) = ((a / 8388608 : Nat) : Int) - 179 := by omega
      rw [hq] at hd
      have hE : a / 8388608 < 255 := by omega
      obtain ⟨E, hEe⟩ : ∃ E, a / 8388608 = E := ⟨_, rfl⟩
      rw [hEe] at hd ep hE n
      -- both loops end at -52 with v = E - 127
      have key : ∃ x', DD x' (whB a * 2 ^ (52 - 23)) (-52) ∧ Fh_bitsOf_25 FU (FP.f2d (zI (a : Int)).toUInt32) (0 : Int32) = Fh_bitsOf_75 x' (zI ((E : Int) - 127)) := by
        by_cases y : 127 ≤ E
        · have hd' : DD (FP.f2d (zI (a : Int)).toUInt32) (whB a * 2 ^ (52 - 23)) (-52 + ((E - 127 : Nat) : Int)) := by
            rw [show (-52 : Int) + ((E - 127 : Nat) : Int) = (E : Int) - 179 by omega]; exact hd
          obtain ⟨x1, i1, i2⟩ := b25 (E - 127) FU _ 0 hd' (by omega) (by omega) (FU_gt (by omega))
          obtain ⟨x2, j1, j2⟩ := b51 0 FU x1 (-52) ((E : Int) - 127) i1 (by omega) (by omega) (by omega) (.inl (by omega)) (FU_gt (by omega))
          refine ⟨x2, by rw [show (-52 : Int) = -52 + ((0 : Nat) : Int) by omega]; exact j1, ?_⟩
          rw [show (0 : Int32) = zI 0 from rfl, i2, show (0 : Int) + ((E - 127 : Nat) : Int) = (E : Int) - 127 by omega, j2, show (E : Int) - 127 - ((0 : Nat) : Int) = (E : Int) - 127 by omega]
        · obtain ⟨x2, j1, j2⟩ := b51 (127 - E) FU _ _ 0 hd (by omega) (by omega) (by omega) (.inl (by omega)) (FU_gt (by omega))
          refine ⟨x2, by rw [show (E : Int) - 179 + ((127 - E : Nat) : Int) = -52 by omega] at j1; exact j1, ?_⟩
          rw [hf, b25_no hd (by omega), show (0 : Int32) = zI 0 from rfl, j2, show (0 : Int) - ((127 - E : Nat) : Int) = (E : Int) - 127 by omega]
      obtain ⟨x', d1, d2⟩ := key
      obtain ⟨r1, r2⟩ := b75_i (w := whB a) (k := 29) d1 (by omega) (by omega) (by omega) rfl (by omega)
      have c := (dd_lt d1 v1 (by omega)).2 (by omega)
      have c' : 0 ≤ (Op.cmpValue (FP.dcmp x' FP.dconst1) .g) := by rcases c with c | c <;> rw [c] <;> decide
      have sh := sh23 ⟨E - 1, by omega⟩
      dsimp only at sh
      rw [if_pos (dd_nn hd), bnd_ap, bnd_ap, d2, Fh_bitsOf_75, if_pos r1, bnd_ap, if_pos c', r2, show (126 : Int32) = zI 126 from rfl, zI_add, show (E : Int) - 127 + 126 = ((E - 1 : Nat) : Int) by omega, sh, zI_add, ew]
      congr 2
      omega
theorem top_warmth {c n0 : Nat} {M : Mem} {μ : Sl} (hI : Inv c n0 M μ) (a1 : Int32) : TopQ c n0 M (Fh_warmth M a1) (Mo_warmth μ a1) := by
  obtain ⟨n, S, k, w, t, B, σ, bn, A, dep, J, N, e, qv, pv, wv, ⟨a, a2', a3, a4, a5⟩, -, ⟨⟨hW, hC, hM, -, -, hJ, hJC, hJM, -, -⟩, hX⟩, hSB, ⟨f1, f2⟩, ⟨hN, -⟩, hT, hq, -⟩ := top_q hI
  obtain ⟨x1, i1, rfl⟩ := zI_ex a1
  have iw := inv_wr hI (0 : Int32)
  have hn6 := hSB.2.2.1.1
  by_cases z1 : 0 ≤ x1 ∧ x1 < (n : Int)
  · obtain ⟨s1, rfl⟩ : ∃ s1 : Nat, x1 = (s1 : Int) := ⟨x1.toNat, by omega⟩
    obtain ⟨v, p1, p2, p3⟩ := warm_on f1 hW hC hM hSB.2.1.2.1 (s := s1) (by omega)
    rw [f2] at p3
    have p59 : pB 59 < 2139095040 := by decide
    refine ⟨zI (v : Int), wr μ 34 2 (0 : Int32), ?_, ?_, iw⟩
    · rw [Fh_warmth, a, gref_z (by omega), c_isSpace hSB.1 hSB.2.2.1 i1, bp_some, bI_if, if_pos (decide_eq_true z1), gref_z (by omega), p2, bp_some, bits_on (by omega), bp_some]
    · rw [Mo_warmth, bnd_ap, m_isSpace hSB.2.1 hSB.2.2.1 i1, bp_some, bI_if, if_pos (decide_eq_true z1), p3, bp_some]
  · refine ⟨(-1 : Int32), wr μ 34 2 (0 : Int32), ?_, ?_, iw⟩
    · rw [Fh_warmth, a, gref_z (by omega), c_isSpace hSB.1 hSB.2.2.1 i1, bp_some, bI_if, if_neg (by rw [decide_eq_true_eq]; exact z1)]
    · rw [Mo_warmth, bnd_ap, m_isSpace hSB.2.1 hSB.2.2.1 i1, bp_some, bI_if, if_neg (by rw [decide_eq_true_eq]; exact z1)]
theorem top_age {c n0 : Nat} {M : Mem} {μ : Sl} (hI : Inv c n0 M μ) (a1 a2 : Int32) : TopQ c n0 M (Fh_age M a1 a2) (Mo_age μ a1 a2) := by
  obtain ⟨n, S, k, w, t, B, σ, bn, A, dep, J, N, e, qv, pv, wv, ⟨a, a2', a3, a4, a5⟩, -, ⟨⟨hW, hC, hM, -, -, hJ, hJC, hJM, -, -⟩, hX⟩, hSB, ⟨f1, f2⟩, ⟨hN, -⟩, hT, hq, -⟩ := top_q hI
  obtain ⟨x1, i1, rfl⟩ := zI_ex a1
  obtain ⟨x2, i2, rfl⟩ := zI_ex a2
  have iw := inv_wr hI (0 : Int32)
  have hn6 := hSB.2.2.1.1
  have hS := hSB.2.2.1.2.1
  have cl : Fh_age M (zI x1) (zI x2) = if (decide (0 ≤ x1 ∧ x1 < (n : Int)) && decide (0 ≤ x2 ∧ x2 < (S : Int))) = true then (bp (De_find (M w) (zI x1) (zI x2)) fun r4 => bnd r4 fun v3_5 => if 0 ≤ v3_5 then (if inb v3_5 192 then bp (Fh_bitsOf ((M w 31 (ix v3_5)).toUInt32)) fun r7 => some r7 else none) else some (-2 : Int32)) else some (-1 : Int32) := by
    rw [Fh_age, a, gref_z (by omega), c_isPlace hSB.1 hSB.2.2.1 i1 i2, bp_some, bI_if, gref_z (by omega)]
    simp only [gref_z (show w < 2147483648 by omega)]
  have mo : Mo_age μ (zI x1) (zI x2) = if decide (0 ≤ x1 ∧ x1 < (n : Int)) = true then (if decide (0 ≤ x2 ∧ x2 < (S : Int)) = true then (bp (Mo_cover (wr μ 34 2 (0 : Int32)) (zI x1) (zI x2)) fun r4 => bnd r4 fun v3_5 => if 0 ≤ v3_5 then (bp (Mo_of (wr μ 34 2 (0 : Int32)) ((1536 : Int32) + v3_5)) fun r6 => some (r6, wr μ 34 2 (0 : Int32))) else some ((-2 : Int32), wr μ 34 2 (0 : Int32))) else some ((-1 : Int32), wr μ 34 2 (0 : Int32))) else some ((-1 : Int32), wr μ 34 2 (0 : Int32)) := by
    rw [Mo_age, bnd_ap, m_isSpace hSB.2.1 hSB.2.2.1 i1, bp_some, bI_if, m_isPlace hSB.2.1 hSB.2.2.1 i2, bp_some, bI_if]
  rw [cl, mo]
  by_cases z1 : 0 ≤ x1 ∧ x1 < (n : Int)
  · by_cases z2 : 0 ≤ x2 ∧ x2 < (S : Int)
    · rw [if_pos (by rw [decide_eq_true z1, decide_eq_true z2]; rfl), if_pos (decide_eq_true z1), if_pos (decide_eq_true z2)]
      have hfd := cr_find hC.2.1 (s := x1) (p := x2) (by omega) (by omega) (by omega) (by omega)
      have hcv := m_cover f1 (A := A) (B := B) (fun x hx => ⟨hM.1 x hx, hW.2.2.2.2.2.2.2 x hx, by
        by_cases z : 0 < A.1 0 x
        · exact (hW.2.2.2.1 x ⟨hx, z⟩).1
        · omega⟩) (s := x1) (p := x2) (by omega) (by omega) (by omega) (by omega)
      rw [f2] at hcv
      rw [hfd, bp_some, bnd_ap, hcv, bp_some, bnd_ap]
      cases hc : cov A (32 * x1 + x2).toNat with
      | none =>
        rw [show sc σ none = -1 from rfl, show cv none = -1 from rfl, if_neg zI_np, if_neg zI_np]
        exact ⟨_, _, rfl, rfl, iw⟩
      | some d =>
        obtain ⟨c1, c2, c3⟩ := cs_some (by omega) hc
        have b1 := cr_lt hC c1
        have hd1 := c1.1
        obtain ⟨g1, g2, g3, g4, g5, g6, g7, g8, g9⟩ := hC.2.2.1 d c1
        obtain ⟨t1, t2, t3, t4, t5⟩ := hM.2.1 d c1
        obtain ⟨w1, w2, w3, w4⟩ := wm_le hW c1
        have p24 : pB 24 < 2139095040 := by decide
        have e8 : A.1 8 d = (((A.1 8 d).toNat : Nat) : Int) := by omega
        have e15 : Mo_of (wr μ 34 2 (0 : Int32)) ((1536 : Int32) + zI (d : Int)) = some (zI (A.1 8 d)) := by
          have o := m_of f1 B (k := 1536 + (d : Int)) (by omega) (by omega)
          rw [f2, show (1536 + (d : Int)).toNat = 1536 + d by omega, t4] at o
          rw [show (1536 : Int32) = zI 1536 from rfl, zI_add, o]
        refine ⟨zI (A.1 8 d), wr μ 34 2 (0 : Int32), ?_, ?_, iw⟩
        · rw [show sc σ (some d) = (σ d : Int) from rfl, if_pos (zI_p0 (by omega)), if_pos (zI_in b1 (by omega)), zI_ixn (by omega), g9, e8, bits_on (by omega), bp_some]
        · rw [show cv (some d) = (d : Int) from rfl, if_pos (zI_p0 (by omega)), e15, bp_some]
    · rw [if_neg (by rw [decide_eq_false z2, Bool.and_false]; decide), if_pos (decide_eq_true z1), if_neg (by rw [decide_eq_true_eq]; exact z2)]
      exact ⟨_, _, rfl, rfl, iw⟩
  · rw [if_neg (by rw [decide_eq_false z1, Bool.false_and]; decide), if_neg (by rw [decide_eq_true_eq]; exact z1)]
    exact ⟨_, _, rfl, rfl, iw⟩
