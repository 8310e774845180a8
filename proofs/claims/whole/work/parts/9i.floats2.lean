/-! ===== floats: packing ===== -/
theorem pk10 {N : Nat} {e : Int} (hN : 0 < N) (hN2 : N < 4611686018427387904) : ∀ (m i k : Nat), i + m = 62 → m < k → (i = 0 ∨ 2 ^ (i - 1) ≤ N) →
    ∃ s : Nat, Mo_packedFloat_10 k (zL (N : Int)) (zI e) (zI (i : Int)) = Mo_packedFloat_30 (zL (N : Int)) (zI e) (zI (s : Int)) ∧ N < 2 ^ s ∧ 1 ≤ s ∧ s ≤ 62 ∧ 2 ^ (s - 1) ≤ N := by
  intro m
  induction m with
  | zero =>
    intro i k hi hk hb
    obtain ⟨c, rfl⟩ : ∃ c, k = c + 1 := ⟨k - 1, by omega⟩
    have : i = 62 := by omega
    subst this
    refine ⟨62, ?_, by simpa using hN2, by omega, by omega, by rcases hb with h | h; · omega
                                                               · exact h⟩
    rw [Mo_packedFloat_10, if_pos (by decide)]
  | succ m ih =>
    intro i k hi hk hb
    obtain ⟨c, rfl⟩ : ∃ c, k = c + 1 := ⟨k - 1, by omega⟩
    have hp := Nat.two_pow_pos i
    have hsh := zL_shr (a := (N : Int)) (k := i) (by omega) (by omega) (by omega)
    have hd : (N : Int) / 2 ^ i = ((N / 2 ^ i : Nat) : Int) := by rw [Int.natCast_ediv, Int.natCast_pow]; rfl
    have hle : N / 2 ^ i ≤ N := Nat.div_le_self _ _
    rw [Mo_packedFloat_10, if_neg (by rw [zI_lit, zI_le (by omega) (by omega) (by omega) (by omega)]; omega), zL_32 (by omega) (by omega), hsh, hd]
    by_cases c1 : N < 2 ^ i
    · refine ⟨i, ?_, c1, ?_, by omega, ?_⟩
      · rw [Nat.div_eq_of_lt c1, if_pos (by decide)]
      · rcases hb with h | h
        · subst h; simp at c1; omega
        · refine Nat.pos_of_ne_zero (fun z => ?_)
          subst z; simp at c1; omega
      · rcases hb with h | h
        · subst h; simp at c1; omega
        · exact h
    · have hpos : 0 < N / 2 ^ i := Nat.div_pos (by omega) hp
      obtain ⟨s, g1, g2⟩ := ih (i + 1) c (by omega) (by omega) (.inr (by simpa using Nat.le_of_not_lt c1))
      refine ⟨s, ?_, g2⟩
      rw [if_neg, bnd_ap, show (1 : Int32) = zI 1 from rfl, zI_add, show (i : Int) + 1 = ((i + 1 : Nat) : Int) by omega, g1]
      rw [show (0 : Int64) = zL 0 from rfl, zL_le (by omega) (by omega) (by omega) (by omega)]
      omega
theorem pk155 {e by' : Int} {m : Nat} (h1 : -149 ≤ e + by') (h2 : e + by' ≤ 2000) (h3 : -3000 ≤ e) (h4 : e ≤ 3000) (hm : m < 16777216) (hc : e + by' = -149 ∨ 8388608 ≤ m) :
    Mo_packedFloat_155 (zI e) (zI by') (zL (m : Int)) = some (zI ((FP.Core.encode FP.Core.b32 (FP.Core.bound FP.Core.b32 false m (e + by')) : Nat) : Int)) := by
  have q1 : FP.Core.b32.qmax = 104 := by decide
  have q2 : FP.Core.b32.qmin = -149 := by decide
  have q3 : FP.Core.b32.tails = 8388608 := by decide
  have q4 : FP.Core.b32.exps = 256 := by decide
  unfold Mo_packedFloat_155 FP.Core.bound
  rw [zI_add, q1]
  by_cases c1 : e + by' ≤ 104
  · rw [if_pos (by rw [zI_lit, zI_le (by omega) (by omega) (by omega) (by omega)]; exact c1), if_pos c1]
    have henc : FP.Core.encode FP.Core.b32 (FP.Core.Datum.fin false m (e + by')) = if m < FP.Core.b32.tails then FP.Core.assemble FP.Core.b32 false 0 m else FP.Core.assemble FP.Core.b32 false ((e + by' - FP.Core.b32.qmin).toNat + 1) (m - FP.Core.b32.tails) := rfl
    rw [henc, q3, q2]
    by_cases c2 : m < 8388608
    · rw [if_neg (by rw [show (8388608 : Int64) = zL 8388608 from rfl, zL_ge (by omega) (by omega) (by omega) (by omega)]; omega), if_pos c2, zL_to32 (by omega) (by omega)]
      unfold FP.Core.assemble
      rw [q3, q4]; simp
    · rw [if_pos (by rw [show (8388608 : Int64) = zL 8388608 from rfl, zL_ge (by omega) (by omega) (by omega) (by omega)]; omega), if_neg c2, show (8388608 : Int64) = zL 8388608 from rfl, zL_sub, show (m : Int) - 8388608 = ((m - 8388608 : Nat) : Int) by omega, zL_to32 (by omega) (by omega), show (150 : Int32) = zI 150 from rfl, zI_add]
      obtain ⟨x, hx⟩ : ∃ x : Nat, e + by' + 150 = (x : Int) := ⟨(e + by' + 150).toNat, by omega⟩
      rw [hx, zI_pack (by omega) (by omega)]
      unfold FP.Core.assemble
      rw [q3, q4, show (e + by' - -149).toNat + 1 = x by omega]
      simp
  · rw [if_neg (by rw [zI_lit, zI_le (by omega) (by omega) (by omega) (by omega)]; exact c1), if_neg c1]
    unfold FP.Core.encode FP.Core.assemble
    rw [q3, q4]
    rfl
theorem pk138 {e by' : Int} {m : Nat} (h1 : -149 ≤ e + by') (h2 : e + by' ≤ 1900) (h3 : -3000 ≤ e) (h4 : e ≤ 3000) (hm : m ≤ 16777216) (hc : e + by' = -149 ∨ 8388608 ≤ m) :
    Mo_packedFloat_138 (zI e) (zI by') (zL (m : Int)) = some (zI ((FP.Core.encode FP.Core.b32 (FP.Core.settle FP.Core.b32 false m (e + by')) : Nat) : Int)) := by
  have q3 : FP.Core.b32.tails = 8388608 := by decide
  have q5 : (2 : Nat) ^ FP.Core.b32.p = 16777216 := by decide
  unfold Mo_packedFloat_138 FP.Core.settle
  rw [q5, q3]
  by_cases c : m = 16777216
  · subst c
    rw [if_pos (by decide), if_neg (by omega), bnd_ap, bnd_ap, show (1 : Int32) = zI 1 from rfl, zI_add]
    have := pk155 (e := e) (by' := by' + 1) (m := 8388608) (by omega) (by omega) h3 h4 (by omega) (by omega)
    rw [show e + by' + 1 = e + (by' + 1) by omega]
    exact this
  · rw [if_neg (by rw [show (16777216 : Int64) = zL 16777216 from rfl, zL_eq (by omega) (by omega) (by omega) (by omega)]; omega), if_pos (by omega)]
    exact pk155 h1 (by omega) h3 h4 (by omega) hc
theorem pk53 {N : Nat} {e by' : Int} (hN : 0 < N) (hN2 : N < 4611686018427387904) (h1 : -149 ≤ e + by') (h2 : e + by' ≤ 1900) (h3 : -2000 ≤ e) (h4 : e ≤ 2000) (hb : -23 ≤ by') (hb2 : by' ≤ 3000)
    (hs : (N : Nat) * 2 ^ (-by').toNat ≤ 16777216 * 2 ^ by'.toNat) (hc : e + by' = -149 ∨ 8388608 * 2 ^ by'.toNat ≤ N * 2 ^ (-by').toNat) :
    Mo_packedFloat_53 (zL (N : Int)) (zI e) (zI by') = some (zI ((FP.Core.encode FP.Core.b32 (FP.Core.settle FP.Core.b32 false (FP.Core.nearest (N * 2 ^ (-by').toNat) (2 ^ by'.toNat)) (e + by')) : Nat) : Int)) := by
  have hbp := Nat.two_pow_pos by'.toNat
  have hnle : FP.Core.nearest (N * 2 ^ (-by').toNat) (2 ^ by'.toNat) ≤ 16777216 := FP.Core.nearest_le hbp hs
  have hnge : e + by' = -149 ∨ 8388608 ≤ FP.Core.nearest (N * 2 ^ (-by').toNat) (2 ^ by'.toNat) := by
    rcases hc with h | h
    · exact .inl h
    · exact .inr (FP.Core.nearest_ge hbp h)
  have hfin := pk138 (m := FP.Core.nearest (N * 2 ^ (-by').toNat) (2 ^ by'.toNat)) h1 h2 (by omega) (by omega) hnle hnge
  unfold Mo_packedFloat_53
  rw [bnd_ap]
  by_cases c1 : 0 < by'
  · rw [if_pos (by rw [zI_lit, zI_lt (by omega) (by omega) (by omega) (by omega)]; exact c1)]
    obtain ⟨k, hk⟩ : ∃ k : Nat, by' = (k : Int) := ⟨by'.toNat, by omega⟩
    subst hk
    rw [show (-(k : Int)).toNat = 0 by omega, Nat.pow_zero, Nat.mul_one, Int.toNat_natCast] at hfin hnle hs ⊢
    rw [Int.toNat_natCast] at hbp
    by_cases c2 : k ≤ 62
    · rw [if_pos (by rw [zI_lit, zI_le (by omega) (by omega) (by omega) (by omega)]; omega)]
      have hsh := zL_shr (a := (N : Int)) (k := k) (by omega) (by omega) (by omega)
      have hd : (N : Int) / 2 ^ k = ((N / 2 ^ k : Nat) : Int) := by rw [Int.natCast_ediv, Int.natCast_pow]; rfl
      have hdm := Nat.div_add_mod N (2 ^ k)
      have hml : N / 2 ^ k * 2 ^ k ≤ N := Nat.div_mul_le_self _ _
      have hsl := zL_shl (a := N / 2 ^ k) (k := k) (by omega) (by omega)
      have hml2 := Nat.mod_lt N hbp
      obtain ⟨k', rfl⟩ : ∃ k', k = k' + 1 := ⟨k - 1, by omega⟩
      have hp' := Nat.two_pow_pos k'
      have hpow : 2 ^ (k' + 1) = 2 * 2 ^ k' := by rw [Nat.pow_succ]; omega
      have hpl : 2 ^ k' ≤ 2 ^ 61 := Nat.pow_le_pow_right (by omega) (by omega)
      have hhf := zL_shl (a := 1) (k := k') (by omega) (by rw [Nat.one_mul]; omega)
      have hle : N / 2 ^ (k' + 1) ≤ N := Nat.div_le_self _ _
      rw [zL_32 (by omega) (by omega), hsh, hd, bnd_ap, hsl, zL_sub, bnd_ap, show (1 : Int32) = zI 1 from rfl, zI_sub, show ((k' + 1 : Nat) : Int) - 1 = (k' : Int) by omega, zL_32 (by omega) (by omega)]
      have hhf' : (1 : Int64) <<< (zL (k' : Int) &&& 63) = zL ((2 ^ k' : Nat) : Int) := by
        have := hhf
        rw [Nat.one_mul] at this
        exact this
      rw [hhf', bnd_ap]
      have hrest : (N : Int) - ((N / 2 ^ (k' + 1) * 2 ^ (k' + 1) : Nat) : Int) = ((N % 2 ^ (k' + 1) : Nat) : Int) := by
        rw [Nat.mul_comm] at hml ⊢
        omega
      rw [hrest]
      have h132 : ∀ (m : Nat), m ≤ N → Mo_packedFloat_132 (zI e) (zI ((k' + 1 : Nat) : Int)) (zL (m : Int)) = Mo_packedFloat_138 (zI e) (zI ((k' + 1 : Nat) : Int)) (zL ((m + 1 : Nat) : Int)) := fun m hm => by
        rw [Mo_packedFloat_132, bnd_ap, show (1 : Int64) = zL 1 from rfl, zL_add]
        rfl
      by_cases c3 : 2 ^ k' < N % 2 ^ (k' + 1)
      · have hne : FP.Core.nearest N (2 ^ (k' + 1)) = N / 2 ^ (k' + 1) + 1 := by unfold FP.Core.nearest; rw [if_neg (by omega), if_pos (by omega)]
        rw [if_pos (by rw [zL_gt (by omega) (by omega) (by omega) (by omega)]; omega), h132 _ hle]
        rw [hne] at hfin ⊢
        exact hfin
      · rw [if_neg (by rw [zL_gt (by omega) (by omega) (by omega) (by omega)]; omega)]
        by_cases c4 : N % 2 ^ (k' + 1) = 2 ^ k'
        · have hne : FP.Core.nearest N (2 ^ (k' + 1)) = N / 2 ^ (k' + 1) + N / 2 ^ (k' + 1) % 2 := by unfold FP.Core.nearest; rw [if_neg (by omega), if_neg (by omega)]
          rw [if_pos (by rw [zL_eq (by omega) (by omega) (by omega) (by omega)]; omega)]
          have hand : zL ((N / 2 ^ (k' + 1) : Nat) : Int) &&& (1 : Int64) = zL ((N / 2 ^ (k' + 1) % 2 : Nat) : Int) := by
            apply Int64.toBitVec_inj.mp
            apply BitVec.eq_of_toNat_eq
            have t : ∀ n : Nat, n < 9223372036854775808 → (zL (n : Int)).toBitVec.toNat = n := fun n hn => by
              show (BitVec.ofInt 64 (n : Int)).toNat = n
              rw [BitVec.ofInt_natCast, BitVec.toNat_ofNat, Nat.mod_eq_of_lt (by omega)]
            have e1 : (1 : Int64).toBitVec.toNat = 2 ^ 1 - 1 := by decide
            have hlt : N / 2 ^ (k' + 1) < 9223372036854775808 := by omega
            generalize N / 2 ^ (k' + 1) = X at hlt
            rw [Int64.toBitVec_and, BitVec.toNat_and, t _ hlt, e1, t _ (by omega), Nat.and_two_pow_sub_one_eq_mod]
          rw [hand]
          rw [hne] at hfin ⊢
          have hle' := hle
          generalize N / 2 ^ (k' + 1) = X at *
          by_cases c5 : X % 2 = 1
          · rw [if_pos (by rw [show (1 : Int64) = zL 1 from rfl, zL_eq (by omega) (by omega) (by omega) (by omega)]; omega), h132 _ hle']
            rw [c5] at hfin ⊢
            exact hfin
          · rw [if_neg (by rw [show (1 : Int64) = zL 1 from rfl, zL_eq (by omega) (by omega) (by omega) (by omega)]; omega)]
            rw [show X % 2 = 0 by omega] at hfin ⊢
            exact hfin
        · have hne : FP.Core.nearest N (2 ^ (k' + 1)) = N / 2 ^ (k' + 1) := by unfold FP.Core.nearest; rw [if_pos (by omega)]
          rw [if_neg (by rw [zL_eq (by omega) (by omega) (by omega) (by omega)]; omega)]
          rw [hne] at hfin ⊢
          exact hfin
    · rw [if_neg (by rw [zI_lit, zI_le (by omega) (by omega) (by omega) (by omega)]; omega), bnd_ap]
      have hpl : 2 ^ 63 ≤ 2 ^ k := Nat.pow_le_pow_right (by omega) (by omega)
      have e0 : FP.Core.nearest N (2 ^ k) = 0 := by
        unfold FP.Core.nearest
        rw [Nat.mod_eq_of_lt (by omega), if_pos (by omega), Nat.div_eq_of_lt (by omega)]
      rw [e0] at hfin ⊢
      exact hfin
  · rw [if_neg (by rw [zI_lit, zI_lt (by omega) (by omega) (by omega) (by omega)]; exact c1)]
    obtain ⟨k, hk⟩ : ∃ k : Nat, by' = -(k : Int) := ⟨(-by').toNat, by omega⟩
    subst hk
    have e0 : (-(k : Int)).toNat = 0 := by omega
    have e1 : (-(-(k : Int))).toNat = k := by omega
    rw [e0, e1, Nat.pow_zero] at hfin hnle hs ⊢
    have hn1 : FP.Core.nearest (N * 2 ^ k) 1 = N * 2 ^ k := by
      have := FP.Core.nearest_exact (B := 1) (N * 2 ^ k) (by decide)
      rw [Nat.mul_one] at this; exact this
    rw [hn1] at hfin ⊢
    have hsl := zL_shl (a := N) (k := k) (by omega) (by omega)
    rw [zI_neg, show -(-(k : Int)) = (k : Int) by omega, zL_32 (by omega) (by omega), hsl, bnd_ap]
    exact hfin
theorem m_pk {N : Nat} {e : Int} (hN2 : N < 4611686018427387904) (h3 : -1000 ≤ e) (h4 : e ≤ 1000) :
    Mo_packedFloat (zL (N : Int)) (zI e) = some (zI ((FP.Core.encode FP.Core.b32 (FP.Core.roundRatio FP.Core.b32 false N 1 e) : Nat) : Int)) := by
  have q2 : FP.Core.b32.qmin = -149 := by decide
  unfold Mo_packedFloat FP.Core.roundRatio
  by_cases c0 : N = 0
  · subst c0
    rw [if_pos (by decide), if_pos rfl]
    rfl
  · rw [if_neg (by rw [show (0 : Int64) = zL 0 from rfl, zL_eq (by omega) (by omega) (by omega) (by omega)]; omega), if_neg c0, bnd_ap]
    obtain ⟨s, g1, g2, g3, g4, g5⟩ := pk10 (e := e) (show 0 < N by omega) hN2 62 0 FU (by omega) (by decide) (.inl rfl)
    have g1' : Mo_packedFloat_10 FU (zL (N : Int)) (zI e) (0 : Int32) = _ := g1
    rw [g1', Mo_packedFloat_30, show (24 : Int32) = zI 24 from rfl, zI_sub, bnd_ap, zI_add]
    have key : ∀ by' : Int, by' = max ((s : Int) - 24) (-149 - e) → Mo_packedFloat_53 (zL (N : Int)) (zI e) (zI by') = some (zI ((FP.Core.encode FP.Core.b32 (FP.Core.roundAt FP.Core.b32 false N 1 e (FP.Core.quantum FP.Core.b32 N 1 e)) : Nat) : Int)) := fun by' hb => by
      have hq : FP.Core.quantum FP.Core.b32 N 1 e = e + by' := by
        refine FP.Core.quantum_eq (by omega) (by omega) (by rw [q2]; omega) ?_ ?_
        · obtain ⟨j, hj⟩ : ∃ j : Nat, e + by' - e + FP.Core.b32.p = (j : Int) := ⟨(by' + 24).toNat, by show e + by' - e + ((24 : Nat) : Int) = _; omega⟩
          have hj' : by' + 24 = (j : Int) := by
            have : e + by' - e + ((24 : Nat) : Int) = (j : Int) := hj
            omega
          rw [hj]
          unfold FP.Core.Below
          rw [show (-(j : Int)).toNat = 0 by omega, Int.toNat_natCast, Nat.pow_zero, Nat.mul_one, Nat.one_mul]
          exact Nat.lt_of_lt_of_le g2 (Nat.pow_le_pow_right (by omega) (by omega))
        · rw [q2]
          by_cases c : e + by' = -149
          · exact .inl c
          · refine .inr ?_
            have hj : e + by' - e + ((FP.Core.b32.p : Int) - 1) = ((s - 1 : Nat) : Int) := by
              show e + by' - e + (((24 : Nat) : Int) - 1) = _
              omega
            rw [hj]
            unfold FP.Core.Below
            rw [show (-((s - 1 : Nat) : Int)).toNat = 0 by omega, Int.toNat_natCast, Nat.pow_zero, Nat.mul_one, Nat.one_mul]
            omega
      rw [hq]
      unfold FP.Core.roundAt FP.Core.unitsNum FP.Core.unitsDen
      rw [show e - (e + by') = -by' by omega, show e + by' - e = by' by omega, Nat.one_mul]
      refine pk53 (by omega) hN2 (by omega) (by omega) (by omega) (by omega) (by omega) (by omega) ?_ ?_
      · -- below 2^24 units
        by_cases c : 0 ≤ by'
        · obtain ⟨k, hk⟩ : ∃ k : Nat, by' = (k : Int) := ⟨by'.toNat, by omega⟩
          subst hk
          rw [show (-(k : Int)).toNat = 0 by omega, Int.toNat_natCast, Nat.pow_zero, Nat.mul_one]
          have : 2 ^ s ≤ 2 ^ (24 + k) := Nat.pow_le_pow_right (by omega) (by omega)
          rw [Nat.pow_add] at this
          have e24 : (2 : Nat) ^ 24 = 16777216 := by decide
          rw [e24] at this
          omega
        · obtain ⟨k, hk⟩ : ∃ k : Nat, by' = -(k : Int) := ⟨(-by').toNat, by omega⟩
          subst hk
          rw [show (-(-(k : Int))).toNat = k by omega, show (-(k : Int)).toNat = 0 by omega, Nat.pow_zero, Nat.mul_one]
          have h5 : N * 2 ^ k ≤ 2 ^ s * 2 ^ k := Nat.mul_le_mul_right _ (Nat.le_of_lt g2)
          rw [← Nat.pow_add] at h5
          have : 2 ^ (s + k) ≤ 2 ^ 24 := Nat.pow_le_pow_right (by omega) (by omega)
          have e24 : (2 : Nat) ^ 24 = 16777216 := by decide
          omega
      · by_cases c : e + by' = -149
        · exact .inl c
        · refine .inr ?_
          have hb' : by' = (s : Int) - 24 := by omega
          by_cases c2 : 0 ≤ by'
          · obtain ⟨k, hk⟩ : ∃ k : Nat, by' = (k : Int) := ⟨by'.toNat, by omega⟩
            subst hk
            rw [show (-(k : Int)).toNat = 0 by omega, Int.toNat_natCast, Nat.pow_zero, Nat.mul_one]
            have : 2 ^ (s - 1) = 2 ^ 23 * 2 ^ k := by rw [← Nat.pow_add]; congr 1; omega
            have e23 : (2 : Nat) ^ 23 = 8388608 := by decide
            rw [e23] at this
            omega
          · obtain ⟨k, hk⟩ : ∃ k : Nat, by' = -(k : Int) := ⟨(-by').toNat, by omega⟩
            subst hk
            rw [show (-(-(k : Int))).toNat = k by omega, show (-(k : Int)).toNat = 0 by omega, Nat.pow_zero, Nat.mul_one]
            have h5 : 2 ^ (s - 1) * 2 ^ k ≤ N * 2 ^ k := Nat.mul_le_mul_right _ g5
            rw [← Nat.pow_add] at h5
            have : 2 ^ (s - 1 + k) = 2 ^ 23 := by congr 1; omega
            have e23 : (2 : Nat) ^ 23 = 8388608 := by decide
            omega
    by_cases c1 : -149 ≤ e + ((s : Int) - 24)
    · rw [if_pos (by rw [show (-149 : Int32) = zI (-149) from rfl, zI_le (by omega) (by omega) (by omega) (by omega)]; exact c1)]
      exact key _ (by omega)
    · rw [if_neg (by rw [show (-149 : Int32) = zI (-149) from rfl, zI_le (by omega) (by omega) (by omega) (by omega)]; exact c1), show (-149 : Int32) = zI (-149) from rfl, zI_sub, bnd_ap]
      exact key _ (by omega)
