/-! ===== ratio ===== -/
theorem cut_on {k : Nat} (h : k ≤ 2139095040) : Mo_cutOf (zI (k : Int)) = some (FP.f2i (zI (k : Int)).toUInt32) := by
  rw [Mo_cutOf, m_power (by omega), bp_some, bnd_ap]
  by_cases z : k = 2139095040
  · subst z; decide
  · have hk : k < 2139095040 := by omega
    have pr := pw_rng hk
    have wl := wh_lt k
    have fi : FP.f2i (zI (k : Int)).toUInt32 = zI (max (-2 ^ 31) (min (2 ^ 31 - 1) (((whB k * 2 ^ (pwB k).toNat / 2 ^ (-(pwB k)).toNat : Nat) : Int)))) := by
      show FP.Core.toI (FP.Core.decode FP.Core.b32 (zI (k : Int)).toUInt32.toNat) = _
      rw [zI_u (by omega), dec_f hk]
      rfl
    rw [fi]
    by_cases z7 : pwB k ≤ 7
    · rw [if_pos (by rw [show (7 : Int32) = zI 7 from rfl, zI_le (by omega) (by omega) (by omega) (by omega)]; omega)]
      by_cases z0 : pwB k < 0
      · rw [if_pos (by rw [zI_lit, zI_lt (by omega) (by omega) (by omega) (by omega)]; omega)]
        have e0 : (pwB k).toNat = 0 := by omega
        by_cases z30 : -30 ≤ pwB k
        · rw [if_pos (by rw [show (-30 : Int32) = zI (-30) from rfl, zI_le (by omega) (by omega) (by omega) (by omega)]; omega), m_whole (by omega), bp_some, zI_neg, zL_32 (by omega) (by omega)]
          have es := zL_shr (a := (whB k : Int)) (k := (-(pwB k)).toNat) (by omega) (by omega) (by omega)
          rw [show ((((-(pwB k)).toNat : Nat)) : Int) = -(pwB k) by omega] at es
          have hle : whB k / 2 ^ (-(pwB k)).toNat ≤ whB k := Nat.div_le_self _ _
          have ec : (whB k : Int) / 2 ^ (-(pwB k)).toNat = ((whB k / 2 ^ (-(pwB k)).toNat : Nat) : Int) := by
            rw [Int.natCast_ediv, Int.natCast_pow]; rfl
          rw [es, ec, e0, Nat.pow_zero, Nat.mul_one]
          clear es ec
          generalize whB k / 2 ^ (-(pwB k)).toNat = g at *
          rw [zL_to32 (by omega) (by omega)]
          congr 2
          omega
        · rw [if_neg (by rw [show (-30 : Int32) = zI (-30) from rfl, zI_le (by omega) (by omega) (by omega) (by omega)]; omega)]
          have h31 : 2 ^ 31 ≤ 2 ^ (-(pwB k)).toNat := Nat.pow_le_pow_right (by omega) (by omega)
          have ez : whB k * 2 ^ (pwB k).toNat / 2 ^ (-(pwB k)).toNat = 0 := by
            rw [e0, Nat.pow_zero, Nat.mul_one]
            exact Nat.div_eq_of_lt (by omega)
          rw [ez]; rfl
      · rw [if_neg (by rw [zI_lit, zI_lt (by omega) (by omega) (by omega) (by omega)]; omega), m_whole (by omega), bp_some]
        obtain ⟨j, hj⟩ : ∃ j : Nat, pwB k = (j : Int) := ⟨(pwB k).toNat, by omega⟩
        have hj7 : j ≤ 7 := by omega
        have hpw : 2 ^ j ≤ 2 ^ 7 := Nat.pow_le_pow_right (by omega) hj7
        have hm : whB k * 2 ^ j ≤ 16777215 * 2 ^ 7 := Nat.mul_le_mul (by omega) hpw
        have es := zL_shl (a := whB k) (k := j) (by omega) (by omega)
        rw [hj, zL_32 (by omega) (by omega), es, zL_to32 (by omega) (by omega), show ((j : Int)).toNat = j by omega, show (-(j : Int)).toNat = 0 by omega, Nat.pow_zero, Nat.div_one]
        congr 2
        omega
    · rw [if_neg (by rw [show (7 : Int32) = zI 7 from rfl, zI_le (by omega) (by omega) (by omega) (by omega)]; omega)]
      have hw : 8388608 ≤ whB k := by
        unfold pwB at z7
        unfold whB
        split
        · rename_i c; rw [if_pos c] at z7; omega
        · omega
      obtain ⟨j, hj⟩ : ∃ j : Nat, pwB k = (j : Int) := ⟨(pwB k).toNat, by omega⟩
      have hpw : 2 ^ 8 ≤ 2 ^ j := Nat.pow_le_pow_right (by omega) (by omega)
      have hm : 8388608 * 2 ^ 8 ≤ whB k * 2 ^ j := Nat.mul_le_mul hw hpw
      rw [hj, show ((j : Int)).toNat = j by omega, show (-(j : Int)).toNat = 0 by omega, Nat.pow_zero, Nat.div_one]
      have : max (-2 ^ 31 : Int) (min (2 ^ 31 - 1) ((whB k * 2 ^ j : Nat) : Int)) = 2147483647 := by omega
      rw [this]; rfl
theorem f31_cmp {k : Nat} (h : k ≤ 2139095040) : (if (Op.cmpValue (FP.fcmp (zI (k : Int)).toUInt32 (1325400064 : UInt32)) .l) < 0 then some (FP.f2i (zI (k : Int)).toUInt32) else some (2147483647 : Int32)) = some (FP.f2i (zI (k : Int)).toUInt32) := by
  by_cases z : k = 2139095040
  · subst z; decide
  · have e := f_cmp (a := k) (b := 1325400064) (by omega) (by omega)
    have e1 : (zI ((1325400064 : Nat) : Int)).toUInt32 = (1325400064 : UInt32) := by decide
    rw [e1] at e
    by_cases c1 : k < 1325400064
    · rw [if_pos c1] at e
      rw [e, if_pos (by decide)]
    · rw [if_neg c1] at e
      have hi : FP.f2i (zI (k : Int)).toUInt32 = 2147483647 := by
        apply FP.Core.f2i_hi
        by_cases c2 : k = 1325400064
        · rw [if_pos c2] at e; exact .inr e
        · rw [if_neg c2] at e; exact .inl e
      rw [hi]
      split <;> rfl
theorem f0_cmp {a : Nat} (ha : a < 2139095040) : (0 < (Op.cmpValue (FP.fcmp (zI (a : Int)).toUInt32 FP.fconst0) .l)) = (0 < a) := by
  have e := f_cmp (a := a) (b := 0) ha (by omega)
  have e1 : (zI ((0 : Nat) : Int)).toUInt32 = FP.fconst0 := by decide
  rw [e1] at e
  rw [e, if_neg (by omega)]
  apply propext
  by_cases y : a = 0
  · rw [if_pos y]; exact ⟨fun h => absurd h (by decide), fun h => by omega⟩
  · rw [if_neg y]; exact ⟨fun _ => by omega, fun _ => by decide⟩
theorem top_ratio {c n0 : Nat} {M : Mem} {μ : Sl} (hI : Inv c n0 M μ) (a1 a2 : Int32) : TopQ c n0 M (Fh_ratio M a1 a2) (Mo_ratio μ a1 a2) := by
  obtain ⟨n, S, k, w, t, B, σ, bn, A, dep, J, N, e, qv, pv, wv, ⟨a, a2', a3, a4, a5⟩, -, ⟨⟨hW, hC, hM, -, -, hJ, hJC, hJM, -, -⟩, hX⟩, hSB, ⟨f1, f2⟩, ⟨hN, -⟩, hT, hq, -⟩ := top_q hI
  obtain ⟨x1, i1, rfl⟩ := zI_ex a1
  obtain ⟨x2, i2, rfl⟩ := zI_ex a2
  have iw := inv_wr hI (0 : Int32)
  have hn6 := hSB.2.2.1.1
  by_cases z1 : 0 ≤ x1 ∧ x1 < (n : Int)
  · by_cases z2 : 0 ≤ x2 ∧ x2 < (n : Int)
    · obtain ⟨s1, rfl⟩ : ∃ s1 : Nat, x1 = (s1 : Int) := ⟨x1.toNat, by omega⟩
      obtain ⟨s2, rfl⟩ : ∃ s2 : Nat, x2 = (s2 : Int) := ⟨x2.toNat, by omega⟩
      obtain ⟨v1, p1, p2, p3⟩ := warm_on f1 hW hC hM hSB.2.1.2.1 (s := s1) (by omega)
      obtain ⟨v2, q1, q2, q3⟩ := warm_on f1 hW hC hM hSB.2.1.2.1 (s := s2) (by omega)
      rw [f2] at p3 q3
      have p59 : pB 59 < 2139095040 := by decide
      have cl0 : Fh_ratio M (zI (s1 : Int)) (zI (s2 : Int)) = if 0 < (Op.cmpValue (FP.fcmp (zI (v2 : Int)).toUInt32 FP.fconst0) .l) then (if nn32 (FP.fmul (zI (v1 : Int)).toUInt32 (1120403456 : UInt32)) then bnd (FP.fmul (zI (v1 : Int)).toUInt32 (1120403456 : UInt32)) fun v4_10 => if nn32 (FP.fdiv v4_10 (zI (v2 : Int)).toUInt32) then bnd (FP.fdiv v4_10 (zI (v2 : Int)).toUInt32) fun v5_11 => if (Op.cmpValue (FP.fcmp v5_11 (1325400064 : UInt32)) .l) < 0 then (some (FP.f2i v5_11)) else (some (2147483647 : Int32)) else none else none) else some (-2 : Int32) := by
        rw [Fh_ratio, a, gref_z (by omega), c_isSpace hSB.1 hSB.2.2.1 i1, bp_some, bI_if, if_pos (decide_eq_true z1), gref_z (by omega), c_isSpace hSB.1 hSB.2.2.1 i2, bp_some, bI_if, if_pos (decide_eq_true z2), gref_z (by omega), q2, bp_some, bnd_ap, gref_z (by omega), p2, bp_some]
      have mo0 : Mo_ratio μ (zI (s1 : Int)) (zI (s2 : Int)) = if zI (v2 : Int) = 0 then (some ((-2 : Int32), wr μ 34 2 (0 : Int32))) else (bp (Mo_floatOf (100 : Int32)) fun r7 => bp (Mo_times (zI (v1 : Int)) r7) fun r8 => bp (Mo_divided r8 (zI (v2 : Int))) fun r9 => bp (Mo_cutOf r9) fun r10 => some (r10, wr μ 34 2 (0 : Int32))) := by
        rw [Mo_ratio, bnd_ap, m_isSpace hSB.2.1 hSB.2.2.1 i1, bp_some, bI_if, if_pos (decide_eq_true z1), m_isSpace hSB.2.1 hSB.2.2.1 i2, bp_some, bI_if, if_pos (decide_eq_true z2), q3, bp_some, bnd_ap, p3, bp_some]
      rw [cl0, mo0]
      by_cases z3 : 0 < v2
      · have f100 := F_int (n := 100) (by omega)
        have e100 : rdB 100 1 0 = 1120403456 := by decide +kernel
        rw [e100] at f100
        have i7 : rdB 100 1 0 ≤ pB 7 := int_le (by omega)
        rw [e100] at i7
        have fm := F_mul (a := v1) (b := 1120403456) (by omega) (by omega)
        have ml := ml_pow p1 i7
        have p66 : pB (59 + 7) < 2139095040 := by decide
        generalize rdB (whB v1 * whB 1120403456) 1 (pwB v1 + pwB 1120403456) = r at *
        have e1 : (zI ((1120403456 : Nat) : Int)).toUInt32 = (1120403456 : UInt32) := by decide
        rw [e1] at fm
        have nm := nn_of (k := r) (by omega) fm.2
        have um := u_of (k := r) (by omega) fm.2
        have fd := F_div (a := r) (b := v2) (by omega) (by omega) z3
        have hwb : 0 < whB v2 := by unfold whB; split <;> omega
        have rc := (rd_cases (whB r) hwb (pwB r - pwB v2)).2
        generalize rdB (whB r) (whB v2) (pwB r - pwB v2) = y at *
        have nd := nn_of (k := y) rc fd.2
        have ud := u_of (k := y) (by omega) fd.2
        refine ⟨FP.f2i (zI (y : Int)).toUInt32, wr μ 34 2 (0 : Int32), ?_, ?_, iw⟩
        · rw [if_pos (by rw [f0_cmp (by omega)]; exact z3), if_pos nm, bnd_ap, um, if_pos nd, bnd_ap, ud, f31_cmp rc]
        · have f100' : Mo_floatOf (100 : Int32) = some (zI ((1120403456 : Nat) : Int)) := f100.1
          rw [if_neg (by rw [zI_lit, zI_eq (by omega) (by omega) (by omega) (by omega)]; omega), f100', bp_some, fm.1, bp_some, fd.1, bp_some, cut_on rc, bp_some]
      · refine ⟨(-2 : Int32), wr μ 34 2 (0 : Int32), ?_, ?_, iw⟩
        · rw [if_neg (by rw [f0_cmp (by omega)]; exact z3)]
        · rw [if_pos (by rw [show v2 = 0 by omega]; decide)]
    · refine ⟨(-1 : Int32), wr μ 34 2 (0 : Int32), ?_, ?_, iw⟩
      · rw [Fh_ratio, a, gref_z (by omega), c_isSpace hSB.1 hSB.2.2.1 i1, bp_some, bI_if, if_pos (decide_eq_true z1), gref_z (by omega), c_isSpace hSB.1 hSB.2.2.1 i2, bp_some, bI_if, if_neg (by rw [decide_eq_true_eq]; exact z2)]
      · rw [Mo_ratio, bnd_ap, m_isSpace hSB.2.1 hSB.2.2.1 i1, bp_some, bI_if, if_pos (decide_eq_true z1), m_isSpace hSB.2.1 hSB.2.2.1 i2, bp_some, bI_if, if_neg (by rw [decide_eq_true_eq]; exact z2)]
  · refine ⟨(-1 : Int32), wr μ 34 2 (0 : Int32), ?_, ?_, iw⟩
    · rw [Fh_ratio, a, gref_z (by omega), c_isSpace hSB.1 hSB.2.2.1 i1, bp_some, bI_if, if_neg (by rw [decide_eq_true_eq]; exact z1)]
    · rw [Mo_ratio, bnd_ap, m_isSpace hSB.2.1 hSB.2.2.1 i1, bp_some, bI_if, if_neg (by rw [decide_eq_true_eq]; exact z1)]
