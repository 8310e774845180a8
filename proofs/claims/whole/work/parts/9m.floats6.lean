/-! ===== floats: quotients ===== -/
theorem zL_div {a b : Nat} (ha : a < 9223372036854775808) (hb : b < 9223372036854775808) : zL (a : Int) / zL (b : Int) = zL ((a / b : Nat) : Int) := by
  unfold zL
  rw [Int.natCast_ediv, ← Int.tdiv_eq_ediv_of_nonneg (by omega)]
  exact (Int64.ofInt_tdiv (by show -9223372036854775808 ≤ (a : Int); omega) (by show (a : Int) ≤ 9223372036854775807; omega) (by show -9223372036854775808 ≤ (b : Int); omega) (by show (b : Int) ≤ 9223372036854775807; omega)).symm
theorem or_one (n : Nat) : n ||| 1 = 2 * (n / 2) + 1 := by
  have h : ∀ x : Nat, 2 * x ||| 1 = 2 * x + 1 := fun x => by
    have := Nat.shiftLeft_add_eq_or_of_lt (b := 1) (i := 1) (by decide) x
    rw [Nat.shiftLeft_eq, Nat.pow_one, Nat.mul_comm] at this
    exact this.symm
  rcases Nat.mod_two_eq_zero_or_one n with c | c
  · have e : n = 2 * (n / 2) := by omega
    have h2 := h (n / 2)
    rw [← e] at h2
    rw [h2]; omega
  · have e : n = 2 * (n / 2) + 1 := by omega
    have h2 := h (n / 2)
    rw [← e] at h2
    rw [← h2, Nat.or_assoc, Nat.or_self, h2]
    have h3 := h (n / 2)
    omega
theorem zL_or1 {n : Nat} (h : n < 9223372036854775808) : zL (n : Int) ||| (1 : Int64) = zL ((2 * (n / 2) + 1 : Nat) : Int) := by
  apply Int64.toBitVec_inj.mp
  apply BitVec.eq_of_toNat_eq
  have t : ∀ n : Nat, n < 9223372036854775808 → (zL (n : Int)).toBitVec.toNat = n := fun n hn => by
    show (BitVec.ofInt 64 (n : Int)).toNat = n
    rw [BitVec.ofInt_natCast, BitVec.toNat_ofNat, Nat.mod_eq_of_lt (by omega)]
  have e1 : (1 : Int64).toBitVec.toNat = 1 := by decide
  rw [Int64.toBitVec_or, BitVec.toNat_or, t n h, e1, t _ (by omega), or_one]
theorem zL_or0 (n : Int) : zL n ||| (0 : Int64) = zL n := by
  apply Int64.toBitVec_inj.mp
  rw [Int64.toBitVec_or]
  exact BitVec.or_zero
theorem rd_half {n : Nat} {e : Int} (h : 134217728 ≤ n) : FP.Core.roundRatio FP.Core.b32 false (2 * n + 1) 1 (e - 1) = FP.Core.roundRatio FP.Core.b32 false (2 * (n / 2) + 1) 1 e := by
  have h1 := rd_st (A := 2 * n + 1) (B := 4) (e := e + 1) (by omega) (by omega)
  rw [show (2 * n + 1) / 4 = n / 2 by omega, if_neg (by omega), show e + 1 - 1 = e by omega] at h1
  rw [← h1]
  refine FP.Core.roundRatio_congr (by omega) (by omega) ?_
  rw [show (e - 1 - (e + 1)).toNat = 0 by omega, show (e + 1 - (e - 1)).toNat = 2 by omega]
  omega
theorem dv_68 {b l : Nat} {e : Int} (hb : b < 2139095040) (hb0 : 0 < b) (hl1 : 8388608 ≤ l) (hl2 : l < 16777216) (he1 : -300 ≤ e) (he2 : e ≤ 300) (is : Int32) (his : (is = 0) ↔ l * 2 ^ 38 % whB b = 0) :
    Mo_divided_68 (zI (b : Int)) (zI e) (zL ((l * 2 ^ 38 / whB b : Nat) : Int)) is = some (zI (rdB (l * 2 ^ 38) (whB b) (e - pwB b - 38) : Int)) := by
  have w := wh_lt b
  have w0 : 0 < whB b := by unfold whB; split <;> omega
  have p := pw_rng hb
  have hA : 33554432 * whB b ≤ l * 2 ^ 38 := by
    have h1 : 8388608 * 2 ^ 38 ≤ l * 2 ^ 38 := Nat.mul_le_mul_right _ hl1
    omega
  have hst := rd_st (A := l * 2 ^ 38) (B := whB b) (e := e - pwB b - 38) w0 hA
  have hn1 : l * 2 ^ 38 / whB b < 4611686018427387904 := by
    refine Nat.lt_of_le_of_lt (Nat.div_le_self _ _) ?_
    have h1 : l * 2 ^ 38 ≤ 16777215 * 2 ^ 38 := Nat.mul_le_mul_right _ (by omega)
    omega
  unfold rdB
  generalize hN : l * 2 ^ 38 / whB b = n at *
  generalize hR : l * 2 ^ 38 % whB b = R at *
  unfold Mo_divided_68
  rw [bnd_ap]
  by_cases c1 : 1152921504606846976 ≤ n
  · rw [if_pos (by rw [show (1152921504606846976 : Int64) = zL 1152921504606846976 from rfl, zL_ge (by omega) (by omega) (by omega) (by omega)]; omega)]
    by_cases c2 : R = 0
    · rw [if_pos (his.mpr c2), Mo_divided_122, m_power (by omega), bp_some, zI_sub, show (38 : Int32) = zI 38 from rfl, zI_sub, zL_or0, m_pk hn1 (by omega) (by omega), bp_some]
      rw [hst, if_pos c2, Nat.add_zero]
      congr 4
      refine FP.Core.roundRatio_congr (by omega) (by omega) ?_
      rw [show (e - pwB b - 38 - (e - pwB b - 38 - 1)).toNat = 1 by omega, show (e - pwB b - 38 - 1 - (e - pwB b - 38)).toNat = 0 by omega]
      omega
    · rw [if_neg (fun z => c2 (his.mp z)), Mo_divided_122, m_power (by omega), bp_some, zI_sub, show (38 : Int32) = zI 38 from rfl, zI_sub, zL_or1 (by omega), m_pk (by omega) (by omega) (by omega), bp_some]
      rw [hst, if_neg c2, rd_half (by omega)]
  · rw [if_neg (by rw [show (1152921504606846976 : Int64) = zL 1152921504606846976 from rfl, zL_ge (by omega) (by omega) (by omega) (by omega)]; omega)]
    have hfin : ∀ t : Nat, t ≤ 1 → Mo_divided_95 (zI (b : Int)) (zI e) (zL (t : Int)) ((2 : Int64) * zL (n : Int)) = some (zI ((FP.Core.encode FP.Core.b32 (FP.Core.roundRatio FP.Core.b32 false (2 * n + t) 1 (e - pwB b - 38 - 1)) : Nat) : Int)) := fun t ht => by
      rw [Mo_divided_95, m_power (by omega), bp_some, zI_sub, show (39 : Int32) = zI 39 from rfl, zI_sub, show (2 : Int64) = zL 2 from rfl, zL_mul, zL_add, show 2 * (n : Int) + (t : Int) = ((2 * n + t : Nat) : Int) by omega, m_pk (by omega) (by omega) (by omega), bp_some, show e - pwB b - 38 - 1 = e - pwB b - 39 by omega]
    rw [hst]
    by_cases c2 : R = 0
    · rw [if_pos (his.mpr c2), if_pos c2]; exact hfin 0 (by omega)
    · rw [if_neg (fun z => c2 (his.mp z)), if_neg c2]; exact hfin 1 (by omega)
theorem dv_17 {b : Nat} (hb : b < 2139095040) (hb0 : 0 < b) : ∀ (m k l : Nat) (e : Int), 0 < l → l < 16777216 → 8388608 ≤ l * 2 ^ m → m < k → m ≤ 30 → -250 + (m : Int) ≤ e → e ≤ 250 →
    ∃ j : Nat, 8388608 ≤ l * 2 ^ j ∧ Mo_divided_17 k (zI (b : Int)) (zL (l : Int)) (zI e) = some (zI (rdB (l * 2 ^ j * 2 ^ 38) (whB b) (e - j - pwB b - 38) : Int)) := by
  have w := wh_lt b
  have w0 : 0 < whB b := by unfold whB; split <;> omega
  intro m
  have fin : ∀ (k l : Nat) (e : Int), 8388608 ≤ l → l < 16777216 → -300 ≤ e → e ≤ 300 → Mo_divided_17 (k + 1) (zI (b : Int)) (zL (l : Int)) (zI e) = some (zI (rdB (l * 2 ^ 38) (whB b) (e - pwB b - 38) : Int)) := fun k l e h1 h2 h3 h4 => by
    have hsl := zL_shl (a := l) (k := 38) (by omega) (by have : l * 2 ^ 38 ≤ 16777215 * 2 ^ 38 := Nat.mul_le_mul_right _ (by omega)
                                                         omega)
    have hsl' : zL (l : Int) <<< (Int32.toInt64 (38 : Int32) &&& 63) = zL ((l * 2 ^ 38 : Nat) : Int) := hsl
    have hl38 : l * 2 ^ 38 ≤ 16777215 * 2 ^ 38 := Nat.mul_le_mul_right _ (by omega)
    have hml := Nat.div_mul_le_self (l * 2 ^ 38) (whB b)
    have hdm := Nat.div_add_mod (l * 2 ^ 38) (whB b)
    rw [Nat.mul_comm] at hdm
    rw [Mo_divided_17, if_pos (by rw [show (8388608 : Int64) = zL 8388608 from rfl, zL_ge (by omega) (by omega) (by omega) (by omega)]; omega), m_whole (by omega), bp_some, if_pos (by
      intro z
      have := (lg_cmp_eq (zL (whB b : Int)) 0).mpr z
      rw [show (0 : Int64) = zL 0 from rfl, zL_eq (by omega) (by omega) (by omega) (by omega)] at this
      omega), hsl', zL_div (by omega) (by omega), bnd_ap, bp_some, zL_mul, show ((l * 2 ^ 38 / whB b : Nat) : Int) * (whB b : Int) = ((l * 2 ^ 38 / whB b * whB b : Nat) : Int) by rw [Int.natCast_mul]]
    by_cases c : l * 2 ^ 38 % whB b = 0
    · rw [if_pos (by rw [zL_eq (by omega) (by omega) (by omega) (by omega)]; omega)]
      exact dv_68 hb hb0 h1 h2 h3 h4 0 ⟨fun _ => c, fun _ => rfl⟩
    · rw [if_neg (by rw [zL_eq (by omega) (by omega) (by omega) (by omega)]; omega)]
      exact dv_68 hb hb0 h1 h2 h3 h4 1 ⟨fun z => absurd z (by decide), fun z => absurd z c⟩
  induction m with
  | zero =>
    intro k l e h1 h2 h3 h4 h5 h6 h7
    obtain ⟨c, rfl⟩ : ∃ c, k = c + 1 := ⟨k - 1, by omega⟩
    rw [Nat.pow_zero, Nat.mul_one] at h3
    refine ⟨0, by rw [Nat.pow_zero, Nat.mul_one]; exact h3, ?_⟩
    rw [fin c l e h3 h2 (by omega) (by omega), Nat.pow_zero, Nat.mul_one]
    simp
  | succ m ih =>
    intro k l e h1 h2 h3 h4 h5 h6 h7
    obtain ⟨c, rfl⟩ : ∃ c, k = c + 1 := ⟨k - 1, by omega⟩
    by_cases c1 : 8388608 ≤ l
    · refine ⟨0, by rw [Nat.pow_zero, Nat.mul_one]; exact c1, ?_⟩
      rw [fin c l e c1 h2 (by omega) (by omega), Nat.pow_zero, Nat.mul_one]
      simp
    · obtain ⟨j, g1, g2⟩ := ih c (l * 2) (e - 1) (by omega) (by omega) (by rw [Nat.mul_assoc, ← Nat.pow_succ']; exact h3) (by omega) (by omega) (by push_cast at h6; omega) (by omega)
      refine ⟨j + 1, by rw [Nat.pow_succ', ← Nat.mul_assoc]; exact g1, ?_⟩
      rw [Mo_divided_17, if_neg (by rw [show (8388608 : Int64) = zL 8388608 from rfl, zL_ge (by omega) (by omega) (by omega) (by omega)]; omega), show (2 : Int64) = zL 2 from rfl, zL_mul, bnd_ap, show (-1 : Int32) = zI (-1) from rfl, zI_add, bnd_ap, show (l : Int) * 2 = ((l * 2 : Nat) : Int) by omega, show e + -1 = e - 1 by omega, g2, show l * 2 ^ (j + 1) = l * 2 * 2 ^ j by rw [Nat.pow_succ', Nat.mul_assoc], show e - 1 - (j : Int) = e - ((j + 1 : Nat) : Int) by omega]
theorem F_div {a b : Nat} (ha : a < 2139095040) (hb : b < 2139095040) (hb0 : 0 < b) : Mo_divided (zI (a : Int)) (zI (b : Int)) = some (zI (rdB (whB a) (whB b) (pwB a - pwB b) : Int)) ∧ (FP.fdiv (zI (a : Int)).toUInt32 (zI (b : Int)).toUInt32).toInt32 = zI (rdB (whB a) (whB b) (pwB a - pwB b) : Int) := by
  have w1 := wh_lt a
  have w2 := wh_lt b
  have w0 : 0 < whB b := by unfold whB; split <;> omega
  have p1 := pw_rng ha
  have p2 := pw_rng hb
  constructor
  · unfold Mo_divided
    by_cases c0 : a = 0
    · subst c0
      rw [if_pos (by rfl)]
      have e : whB 0 = 0 := by decide
      unfold rdB FP.Core.roundRatio
      rw [e, if_pos rfl]
      rfl
    · rw [if_neg (by rw [zI_lit, zI_eq (by omega) (by omega) (by omega) (by omega)]; omega), m_whole (by omega), bp_some, bnd_ap, m_power (by omega), bp_some, bnd_ap]
      have wa0 : 0 < whB a := by unfold whB; split <;> omega
      obtain ⟨j, g1, g2⟩ := dv_17 hb hb0 23 FU (whB a) (pwB a) wa0 w1 (by
        have : 1 * 2 ^ 23 ≤ whB a * 2 ^ 23 := Nat.mul_le_mul_right _ wa0
        omega) (by decide) (by omega) (by omega) (by omega)
      rw [g2]
      congr 3
      unfold rdB
      congr 1
      refine FP.Core.roundRatio_congr w0 w0 ?_
      rw [show (pwB a - (j : Int) - pwB b - 38 - (pwB a - pwB b)).toNat = 0 by omega, show (pwB a - pwB b - (pwB a - (j : Int) - pwB b - 38)).toNat = j + 38 by omega, Nat.pow_zero, Nat.mul_one, Nat.pow_add]
      ac_rfl
  · show (UInt32.ofNat (FP.Core.div FP.Core.b32 (zI (a : Int)).toUInt32.toNat (zI (b : Int)).toUInt32.toNat)).toInt32 = _
    rw [u_zI, zI_u (by omega), zI_u (by omega)]
    unfold FP.Core.div
    rw [dec_f ha, dec_f hb]
    have hq : FP.Core.quotient FP.Core.b32 (FP.Core.Datum.fin false (whB a) (pwB a)) (FP.Core.Datum.fin false (whB b) (pwB b)) = if whB b = 0 then (if whB a = 0 then FP.Core.Datum.nan else FP.Core.Datum.inf (false != false)) else FP.Core.roundRatio FP.Core.b32 (false != false) (whB a) (whB b) (pwB a - pwB b) := rfl
    rw [hq, if_neg (by omega)]
    rfl
/-- half of it -/
theorem F_half {a : Nat} (ha : a < 2139095040) : Mo_times (zI (a : Int)) (1056964608 : Int32) = some (zI (rdB (whB a) 8388608 (pwB a + 22) : Int)) ∧ (FP.fdiv (zI (a : Int)).toUInt32 FP.fconst2).toInt32 = zI (rdB (whB a) 8388608 (pwB a + 22) : Int) := by
  have e1 : whB 1056964608 = 8388608 := by decide
  have e2 : pwB 1056964608 = -24 := by decide
  have e3 : whB 1073741824 = 8388608 := by decide
  have e4 : pwB 1073741824 = -22 := by decide
  constructor
  · have := (F_mul ha (show 1056964608 < 2139095040 by omega)).1
    rw [e1, e2] at this
    have h2 : Mo_times (zI (a : Int)) (1056964608 : Int32) = _ := this
    rw [h2]
    congr 3
    unfold rdB
    congr 1
    refine FP.Core.roundRatio_congr (by omega) (by omega) ?_
    rw [show (pwB a + -24 - (pwB a + 22)).toNat = 0 by omega, show (pwB a + 22 - (pwB a + -24)).toNat = 46 by omega]
    omega
  · have := (F_div ha (show 1073741824 < 2139095040 by omega) (by omega)).2
    rw [e3, e4, show pwB a - -22 = pwB a + 22 by omega] at this
    exact this
theorem half_le {a k : Nat} (h : a ≤ pB (k + 1)) : rdB (whB a) 8388608 (pwB a + 22) ≤ pB k := by
  have h1 := un_mono h
  have h2 := pw_ge a
  rw [pB_u] at h1
  refine rd_le (by omega) (e0 := -149) (by omega) (by omega) ?_
  rw [pB_u, show (-149 - -149 : Int).toNat = 0 by rfl, Nat.pow_zero, Nat.mul_one, show (pwB a + 22 - -149).toNat = (pwB a + 149).toNat + 22 by omega, Nat.pow_add, ← Nat.mul_assoc]
  refine Nat.le_trans (Nat.mul_le_mul_right _ h1) (Nat.le_of_eq ?_)
  rw [show (8388608 : Nat) = 2 ^ 23 from rfl, ← Nat.pow_add, ← Nat.pow_add]
/-- whole numbers -/
theorem F_int {n : Nat} (h : n < 2147483648) : Mo_floatOf (zI (n : Int)) = some (zI (rdB n 1 0 : Int)) ∧ (FP.i2f (zI (n : Int))).toInt32 = zI (rdB n 1 0 : Int) := by
  constructor
  · unfold Mo_floatOf
    rw [zL_32 (by omega) (by omega)]
    have := m_pk (N := n) (e := 0) (by omega) (by omega) (by omega)
    have h2 : Mo_packedFloat (zL (n : Int)) (0 : Int32) = _ := this
    rw [h2, bp_some]
    rfl
  · show (UInt32.ofNat (FP.Core.fromInt FP.Core.b32 (zI (n : Int)).toInt)).toInt32 = _
    rw [u_zI, zI_toInt (by omega) (by omega)]
    unfold FP.Core.fromInt FP.Core.ofInt
    rw [show decide ((n : Int) < 0) = false by simp, Int.natAbs_natCast]
    rfl
theorem int_le {n k : Nat} (h : n ≤ 2 ^ k) : rdB n 1 0 ≤ pB k := by
  refine rd_le (by omega) (e0 := -149) (by omega) (by omega) ?_
  rw [pB_u, show (-149 - -149 : Int).toNat = 0 by rfl, Nat.pow_zero, Nat.mul_one, Nat.mul_one, Nat.pow_add]
  exact Nat.mul_le_mul_right _ h
