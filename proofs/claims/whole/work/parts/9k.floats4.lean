/-! ===== floats: sums and quotients ===== -/
theorem sum_f (c d : Nat) (q r : Int) : FP.Core.round FP.Core.b32 (FP.Core.exactSum (FP.Core.Datum.fin false c q) (FP.Core.Datum.fin false d r)) = FP.Core.roundRatio FP.Core.b32 false (c * 2 ^ (q - min q r).toNat + d * 2 ^ (r - min q r).toNat) 1 (min q r) := by
  have e1 : FP.Core.sumUnits false c q false d r (min q r) = ((c * 2 ^ (q - min q r).toNat + d * 2 ^ (r - min q r).toNat : Nat) : Int) := by
    unfold FP.Core.sumUnits FP.Core.signed FP.Core.inUnits
    simp
  show FP.Core.roundRatio FP.Core.b32 (FP.Core.sumSign false false (FP.Core.sumUnits false c q false d r (min q r))) (FP.Core.sumUnits false c q false d r (min q r)).natAbs 1 (min q r) = _
  rw [e1, Int.natAbs_natCast]
  have e2 : ∀ n : Nat, FP.Core.sumSign false false (n : Int) = false := fun n => by
    unfold FP.Core.sumSign
    split
    · rfl
    · simp
  rw [e2]
/-- the sum of the greater and the less -/
def adB (g l : Nat) : Nat := rdB (whB g * 2 ^ (pwB g - pwB l).toNat + whB l) 1 (pwB l)
theorem pw_mono {g l : Nat} (h : l ≤ g) : pwB l ≤ pwB g := by
  unfold pwB
  have := Nat.div_le_div_right (c := 8388608) h
  split <;> split <;> omega
theorem fadd_f {g l : Nat} (hg : g < 2139095040) (hl : l ≤ g) : FP.Core.encode FP.Core.b32 (FP.Core.round FP.Core.b32 (FP.Core.exactSum (FP.Core.decode FP.Core.b32 g) (FP.Core.decode FP.Core.b32 l))) = adB g l := by
  have hm := pw_mono hl
  rw [dec_f hg, dec_f (by omega), sum_f, show min (pwB g) (pwB l) = pwB l by omega]
  unfold adB rdB
  rw [show (pwB l - pwB l).toNat = 0 by omega, Nat.pow_zero, Nat.mul_one]
theorem ad_0 {g : Nat} (hg : g < 2139095040) : adB g 0 = g := by
  have h := fadd_f hg (Nat.zero_le g)
  rw [← h]
  have hv : FP.Core.val32 (zI (g : Int)).toUInt32 ≠ FP.Core.Datum.nan := by
    unfold FP.Core.val32
    rw [zI_u (by omega), dec_f hg]
    exact FP.Core.Datum.noConfusion
  have hz : (zI (g : Int)).toUInt32 ≠ FP.Core.fzeroNeg := fun e => by
    have := congrArg UInt32.toNat e
    rw [zI_u (by omega)] at this
    have h2 : FP.Core.fzeroNeg.toNat = 2147483648 := by decide
    omega
  have h2 := FP.Core.fadd_zero hv hz
  have h3 : (FP.Core.fadd (zI (g : Int)).toUInt32 FP.Core.fconst0).toNat = (zI (g : Int)).toUInt32.toNat := by rw [h2]
  rw [zI_u (by omega)] at h3
  have h4 : (FP.Core.fadd (zI (g : Int)).toUInt32 FP.Core.fconst0) = UInt32.ofNat (FP.Core.encode FP.Core.b32 (FP.Core.round FP.Core.b32 (FP.Core.exactSum (FP.Core.decode FP.Core.b32 g) (FP.Core.decode FP.Core.b32 0)))) := by
    show UInt32.ofNat (FP.Core.add FP.Core.b32 (zI (g : Int)).toUInt32.toNat 0) = _
    rw [zI_u (by omega)]
    rfl
  rw [h4] at h3
  have h5 := FP.Core.encode_lt FP.Core.good_b32 _ (FP.Core.round_fits FP.Core.good_b32 (FP.Core.exactSum (FP.Core.decode FP.Core.b32 g) (FP.Core.decode FP.Core.b32 0)))
  rw [FP.Core.size_b32] at h5
  rw [UInt32.toNat_ofNat', Nat.mod_eq_of_lt h5] at h3
  exact h3
theorem m_add21 {g l : Nat} (hg : g < 2139095040) (hl : l ≤ g) : Mo_added_21 (zI (g : Int)) (zI (l : Int)) = some (zI (adB g l : Int)) := by
  have w1 := wh_lt g
  have w2 := wh_lt l
  have p1 := pw_rng hg
  have p2 := pw_rng (show l < 2139095040 by omega)
  have hm := pw_mono hl
  unfold Mo_added_21
  rw [bnd_ap]
  by_cases c0 : l = 0
  · subst c0
    rw [if_pos (by rfl), ad_0 hg]
  · rw [if_neg (by rw [zI_lit, zI_eq (by omega) (by omega) (by omega) (by omega)]; omega), m_power (by omega), bp_some, m_power (by omega), bp_some, zI_sub, bnd_ap, m_whole (by omega), bp_some]
    obtain ⟨y, hy⟩ : ∃ y : Nat, pwB g - pwB l = (y : Int) := ⟨(pwB g - pwB l).toNat, by omega⟩
    have hsl := zL_shl (a := whB g) (k := 30) (by omega) (by have : whB g * 2 ^ 30 ≤ 16777216 * 2 ^ 30 := Nat.mul_le_mul_right _ (by omega)
                                                             omega)
    have hsl' : zL (whB g : Int) <<< (Int32.toInt64 (30 : Int32) &&& 63) = zL ((whB g * 2 ^ 30 : Nat) : Int) := hsl
    rw [hsl', bnd_ap, m_whole (by omega), bp_some, bnd_ap, hy]
    unfold adB
    rw [hy, Int.toNat_natCast]
    have hg30 : whB g * 2 ^ 30 ≤ 16777215 * 2 ^ 30 := Nat.mul_le_mul_right _ (by omega)
    by_cases c1 : 30 < y
    · rw [if_pos (by rw [zI_lit, zI_lt (by omega) (by omega) (by omega) (by omega)]; omega)]
      -- what is left of the less
      have hwl : 0 < whB l := by unfold whB; split <;> omega
      have hwg : 8388608 ≤ whB g := by
        unfold pwB at hy
        unfold whB
        split
        · rename_i z
          rw [if_pos z] at hy
          split at hy <;> omega
        · omega
      have hyl : y ≤ 253 := by omega
      have hst : rdB (whB g * 2 ^ y + whB l) 1 (pwB l) = rdB (2 * (whB g * 2 ^ 30 + whB l / 2 ^ (y - 30)) + (if whB l % 2 ^ (y - 30) = 0 then 0 else 1)) 1 (pwB g - 31) := by
        have hpk := Nat.two_pow_pos (y - 30)
        have hspl : whB g * 2 ^ y = whB g * 2 ^ 30 * 2 ^ (y - 30) := by rw [Nat.mul_assoc, ← Nat.pow_add]; congr 2; omega
        unfold rdB
        rw [FP.Core.roundRatio_congr (A' := whB g * 2 ^ y + whB l) (B' := 2 ^ (y - 30)) (e' := pwB l + (y - 30 : Nat)) (by omega) hpk (by
          rw [show (pwB l - (pwB l + (y - 30 : Nat))).toNat = 0 by omega, show (pwB l + (y - 30 : Nat) - pwB l).toNat = y - 30 by omega]
          simp)]
        rw [rd_st hpk (by
          rw [hspl]
          have : 33554432 ≤ whB g * 2 ^ 30 := by
            have : 8388608 * 2 ^ 30 ≤ whB g * 2 ^ 30 := Nat.mul_le_mul_right _ hwg
            omega
          have := Nat.mul_le_mul_right (2 ^ (y - 30)) this
          omega)]
        have e1 : (whB g * 2 ^ y + whB l) / 2 ^ (y - 30) = whB g * 2 ^ 30 + whB l / 2 ^ (y - 30) := by
          rw [hspl, Nat.mul_comm (whB g * 2 ^ 30), Nat.mul_add_div hpk]
        have e2 : (whB g * 2 ^ y + whB l) % 2 ^ (y - 30) = whB l % 2 ^ (y - 30) := by
          rw [hspl, Nat.mul_comm (whB g * 2 ^ 30), Nat.mul_add_mod]
        rw [e1, e2, show pwB l + ((y - 30 : Nat) : Int) - 1 = pwB g - 31 by omega]
      rw [hst]
      have hfin : ∀ (kept is : Nat), kept ≤ whB l → is ≤ 1 → kept = whB l / 2 ^ (y - 30) → is = (if whB l % 2 ^ (y - 30) = 0 then 0 else 1) → Mo_added_151 (zI (g : Int)) (zL (is : Int)) ((2 : Int64) * (zL ((whB g * 2 ^ 30 : Nat) : Int) + zL (kept : Int))) = some (zI (rdB (2 * (whB g * 2 ^ 30 + whB l / 2 ^ (y - 30)) + (if whB l % 2 ^ (y - 30) = 0 then 0 else 1)) 1 (pwB g - 31) : Int)) := fun kept is hk1 hi1 hk hi => by
        rw [← hk, ← hi, Mo_added_151, m_power (by omega), bp_some, zL_add, show (2 : Int64) = zL 2 from rfl, zL_mul, zL_add, show (31 : Int32) = zI 31 from rfl, zI_sub]
        rw [show 2 * (((whB g * 2 ^ 30 : Nat) : Int) + (kept : Int)) + (is : Int) = ((2 * (whB g * 2 ^ 30 + kept) + is : Nat) : Int) by omega, m_pk (by omega) (by omega) (by omega), bp_some]
        rfl
      by_cases c2 : y ≤ 62
      · rw [if_pos (by rw [zI_lit, zI_le (by omega) (by omega) (by omega) (by omega)]; omega)]
        have hsb : (zI (y : Int)) - (30 : Int32) = zI ((y - 30 : Nat) : Int) := by rw [show (30 : Int32) = zI 30 from rfl, zI_sub]; congr 1; omega
        have hsr := zL_shr (a := (whB l : Int)) (k := y - 30) (by omega) (by omega) (by omega)
        have hd : (whB l : Int) / 2 ^ (y - 30) = ((whB l / 2 ^ (y - 30) : Nat) : Int) := by rw [Int.natCast_ediv, Int.natCast_pow]; rfl
        have hdl : whB l / 2 ^ (y - 30) ≤ whB l := Nat.div_le_self _ _
        have hml : whB l / 2 ^ (y - 30) * 2 ^ (y - 30) ≤ whB l := Nat.div_mul_le_self _ _
        have hsl2 := zL_shl (a := whB l / 2 ^ (y - 30)) (k := y - 30) (by omega) (by omega)
        have hdm := Nat.div_add_mod (whB l) (2 ^ (y - 30))
        rw [hsb, zL_32 (by omega) (by omega), hsr, hd, Mo_added_102, bnd_ap, if_neg (by rw [zI_lit, zI_lt (by omega) (by omega) (by omega) (by omega)]; omega), hsb, zL_32 (by omega) (by omega), hsl2]
        by_cases c3 : whB l % 2 ^ (y - 30) = 0
        · rw [if_pos (by rw [zL_eq (by omega) (by omega) (by omega) (by omega), Nat.mul_comm]; omega), Mo_added_130, bnd_ap, if_pos rfl]
          exact hfin _ 0 hdl (by omega) rfl (by rw [if_pos c3])
        · rw [if_neg (by rw [zL_eq (by omega) (by omega) (by omega) (by omega), Nat.mul_comm]; omega), Mo_added_125, Mo_added_130, bnd_ap, if_neg (by decide)]
          exact hfin _ 1 hdl (by omega) rfl (by rw [if_neg c3])
      · rw [if_neg (by rw [zI_lit, zI_le (by omega) (by omega) (by omega) (by omega)]; omega), Mo_added_102, bnd_ap, if_pos (by rw [zI_lit, zI_lt (by omega) (by omega) (by omega) (by omega)]; omega), Mo_added_125, Mo_added_130, bnd_ap, if_neg (by decide)]
        have hpl : 2 ^ 33 ≤ 2 ^ (y - 30) := Nat.pow_le_pow_right (by omega) (by omega)
        have e33 : (2 : Nat) ^ 33 = 8589934592 := by decide
        exact hfin 0 1 (by omega) (by omega) (by rw [Nat.div_eq_of_lt (by omega)]) (by rw [Nat.mod_eq_of_lt (by omega), if_neg (by omega)])
    · rw [if_neg (by rw [zI_lit, zI_lt (by omega) (by omega) (by omega) (by omega)]; omega), bp_some]
      have hsb : (30 : Int32) - zI (y : Int) = zI ((30 - y : Nat) : Int) := by rw [show (30 : Int32) = zI 30 from rfl, zI_sub]; congr 1; omega
      have hpl : 2 ^ (30 - y) ≤ 2 ^ 30 := Nat.pow_le_pow_right (by omega) (by omega)
      have hl30 : whB l * 2 ^ (30 - y) ≤ 16777215 * 2 ^ 30 := Nat.mul_le_mul (by omega) hpl
      have hsl2 := zL_shl (a := whB l) (k := 30 - y) (by omega) (by omega)
      rw [hsb, zL_32 (by omega) (by omega), hsl2, zL_add, show (30 : Int32) = zI 30 from rfl, zI_sub, show ((whB g * 2 ^ 30 : Nat) : Int) + ((whB l * 2 ^ (30 - y) : Nat) : Int) = ((whB g * 2 ^ 30 + whB l * 2 ^ (30 - y) : Nat) : Int) by omega, m_pk (by omega) (by omega) (by omega), bp_some]
      congr 3
      unfold rdB
      congr 1
      refine FP.Core.roundRatio_congr (by omega) (by omega) ?_
      rw [Nat.mul_one, Nat.mul_one, show (pwB g - 30 - pwB l).toNat = 0 by omega, show (pwB l - (pwB g - 30)).toNat = 30 - y by omega, Nat.pow_zero, Nat.mul_one, Nat.add_mul, Nat.mul_assoc, ← Nat.pow_add, show y + (30 - y) = 30 by omega]
/-- the sum's bits -/
def sdB (a b : Nat) : Nat := if a ≤ b then adB b a else adB a b
theorem F_add {a b : Nat} (ha : a < 2139095040) (hb : b < 2139095040) : Mo_added (zI (a : Int)) (zI (b : Int)) = some (zI (sdB a b : Int)) ∧ (FP.fadd (zI (a : Int)).toUInt32 (zI (b : Int)).toUInt32).toInt32 = zI (sdB a b : Int) := by
  constructor
  · unfold Mo_added Mo_added_10 sdB
    by_cases c : a ≤ b
    · rw [if_pos (by rw [zI_le (by omega) (by omega) (by omega) (by omega)]; omega), bnd_ap, if_pos (by rw [zI_le (by omega) (by omega) (by omega) (by omega)]; omega), if_pos c]
      exact m_add21 hb c
    · rw [if_neg (by rw [zI_le (by omega) (by omega) (by omega) (by omega)]; omega), bnd_ap, if_neg (by rw [zI_le (by omega) (by omega) (by omega) (by omega)]; omega), if_neg c]
      exact m_add21 ha (by omega)
  · show (UInt32.ofNat (FP.Core.add FP.Core.b32 (zI (a : Int)).toUInt32.toNat (zI (b : Int)).toUInt32.toNat)).toInt32 = _
    rw [u_zI, zI_u (by omega), zI_u (by omega)]
    unfold FP.Core.add sdB
    by_cases c : a ≤ b
    · rw [if_pos c, FP.Core.exactSum_comm, fadd_f hb c]
    · rw [if_neg c, fadd_f ha (by omega)]
