/-! ===== above, heir, waits, gap, coldest, kept, count ===== -/
theorem qof {μ0 : Sl} {B : Nat → Int} (f1 : MB μ0 0) (f2 : bst μ0 0 B = μ0) {q : Int} (h1 : 0 ≤ q) (h2 : q < 2227) : Mo_of μ0 (zI q) = some (zI (B q.toNat)) := by
  have t := m_of f1 B h1 h2
  rw [f2] at t; exact t
theorem ord4 {n S : Nat} {A : Ab} {dep : Nat → Nat} {B : Nat → Int} (hW : WF n S A dep) (hM : MRep B A) : ∀ x, x < 192 → B x = A.1 0 x ∧ 0 ≤ A.1 0 x ∧ A.1 0 x ≤ 4 := fun x hx => ⟨hM.1 x hx, hW.2.2.2.2.2.2.2 x hx, by
  by_cases q : 0 < A.1 0 x
  · exact (hW.2.2.2.1 x ⟨hx, q⟩).1
  · omega⟩
section
variable {n S : Nat} {A : Ab} {dep : Nat → Nat} {δ : Sl} {σ : Nat → Nat} {bn : Nat} {μ : Sl} {b : Nat} {B : Nat → Int}
theorem ab_lock (hb : MB μ b) (h : WF n S A dep) (hC : CRep δ σ bn A) (hM : MRep B A) {a3 : Int} (ha : i32 a3) (v5 v1 v2 : Int32) : ∀ (m x i k1 k2 : Nat), dep x = m → Lv A x → i + m ≤ 191 → m + 1 < k1 → m + 1 < k2 → ∃ v : Int, (v = 0 ∨ ∃ y : Nat, v = (y : Int) + 1 ∧ Lv A y) ∧ Qu_placeAbove_28 δ k1 (zI a3) (zI (σ x : Int)) v5 (zI (i : Int)) = Qu_placeAbove_62 δ (enc σ v) v5 ∧ Mo_above_39 k2 v1 v2 (zI a3) (zI (x : Int)) (zI (i : Int)) (bst μ b B) = Mo_above_64 v1 v2 (zI (v - 1)) (bst μ b B) := by
  obtain ⟨ha1, ha2⟩ := ha
  intro m
  induction m with
  | zero =>
    intro x i k1 k2 hm hx hi h1 h2
    obtain ⟨c1, rfl⟩ : ∃ c, k1 = c + 2 := ⟨k1 - 2, by omega⟩
    obtain ⟨c2, rfl⟩ : ∃ c, k2 = c + 2 := ⟨k2 - 2, by omega⟩
    have b1 := cr_lt hC hx
    have hx1 := hx.1
    by_cases c : a3 ≤ (i : Int)
    · have q : zI a3 ≤ zI (i : Int) := by rw [zI_le (by omega) (by omega) (by omega) (by omega)]; exact c
      exact ⟨(x : Int) + 1, .inr ⟨x, rfl, hx⟩, by rw [Qu_placeAbove_28, if_pos q, enc_s], by rw [Mo_above_39, if_pos q, show (x : Int) + 1 - 1 = (x : Int) by omega]⟩
    · have q : ¬ zI a3 ≤ zI (i : Int) := by rw [zI_le (by omega) (by omega) (by omega) (by omega)]; exact c
      have hgv := cr_giver hC hx
      obtain ⟨t1, t2, t3, t4, t5⟩ := hM.2.1 x hx
      rcases gv_or h hx with ⟨g1, -⟩ | ⟨g, g1, g2, g3⟩
      · rw [g1, enc_0] at hgv
        refine ⟨0, .inl rfl, ?_, ?_⟩
        · rw [Qu_placeAbove_28, if_neg q, if_neg (by rw [zI_lit, zI_le (by omega) (by omega) (by omega) (by omega)]; omega), if_neg (zI_n0 (by omega)), if_pos (zI_in b1 (by omega)), zI_ixn (by omega), bnd_ap, hgv, bnd_ap, zI_s1, Qu_placeAbove_28, if_pos zI_m1, enc_0]
          by_cases q1 : zI a3 ≤ zI ((i + 1 : Nat) : Int)
          · rw [if_pos q1]
          · rw [if_neg q1]
            by_cases q2 : (192 : Int32) ≤ zI ((i + 1 : Nat) : Int)
            · rw [if_pos q2]
            · rw [if_neg q2]
        · rw [Mo_above_39, if_neg q, if_neg (zI_n0 (by omega)), m_giver hb hx1, bp_some, bnd_ap, t3, g1, bnd_ap, zI_s1, Mo_above_39, if_pos (show zI (0 - 1) < (0 : Int32) from zI_m1)]
          by_cases q1 : zI a3 ≤ zI ((i + 1 : Nat) : Int)
          · rw [if_pos q1]
          · rw [if_neg q1]
      · omega
  | succ m ih =>
    intro x i k1 k2 hm hx hi h1 h2
    obtain ⟨c1, rfl⟩ : ∃ c, k1 = c + 1 := ⟨k1 - 1, by omega⟩
    obtain ⟨c2, rfl⟩ : ∃ c, k2 = c + 1 := ⟨k2 - 1, by omega⟩
    have b1 := cr_lt hC hx
    have hx1 := hx.1
    by_cases c : a3 ≤ (i : Int)
    · have q : zI a3 ≤ zI (i : Int) := by rw [zI_le (by omega) (by omega) (by omega) (by omega)]; exact c
      exact ⟨(x : Int) + 1, .inr ⟨x, rfl, hx⟩, by rw [Qu_placeAbove_28, if_pos q, enc_s], by rw [Mo_above_39, if_pos q, show (x : Int) + 1 - 1 = (x : Int) by omega]⟩
    · have q : ¬ zI a3 ≤ zI (i : Int) := by rw [zI_le (by omega) (by omega) (by omega) (by omega)]; exact c
      have hgv := cr_giver hC hx
      obtain ⟨t1, t2, t3, t4, t5⟩ := hM.2.1 x hx
      rcases gv_or h hx with ⟨g1, g0⟩ | ⟨g, g1, g2, g3⟩
      · omega
      · rw [g1, enc_s] at hgv
        obtain ⟨v, v1', v2', v3'⟩ := ih g (i + 1) c1 c2 (by omega) g2 (by omega) (by omega) (by omega)
        refine ⟨v, v1', ?_, ?_⟩
        · rw [Qu_placeAbove_28, if_neg q, if_neg (by rw [zI_lit, zI_le (by omega) (by omega) (by omega) (by omega)]; omega), if_neg (zI_n0 (by omega)), if_pos (zI_in b1 (by omega)), zI_ixn (by omega), bnd_ap, hgv, bnd_ap, zI_s1]; exact v2'
        · rw [Mo_above_39, if_neg q, if_neg (zI_n0 (by omega)), m_giver hb hx1, bp_some, bnd_ap, t3, g1, show (g : Int) + 1 - 1 = (g : Int) by omega, bnd_ap, zI_s1]; exact v3'
theorem hr_lock (hb : MB μ b) (h : WF n S A dep) (hC : CRep δ σ bn A) (hM : MRep B A) {a3 : Int} (ha : i32 a3) {x : Nat} (hx : Lv A x) : ∀ (l2 l1 : List Nat) (k1 k2 : Nat), A.2 x = l1 ++ l2 → l2.length < k1 → l2.length < k2 → ∃ v : Int, (v = 0 ∨ ∃ y : Nat, v = (y : Int) + 1 ∧ Lv A y) ∧ Qu_placeOfHeir_28 δ k1 (zI a3) (enc σ (hd1 l2)) (zI (l1.length : Int)) = Qu_placeOfHeir_62 δ (enc σ v) ∧ Mo_heir_54 k2 (zI a3) (zI (hd1 l2 - 1)) (zI (l1.length : Int)) (bst μ b B) = Mo_heir_79 (zI (v - 1)) (bst μ b B) := by
  obtain ⟨ha1, ha2⟩ := ha
  have hl := kids_len h hx
  intro l2
  induction l2 with
  | nil =>
    intro l1 k1 k2 e h1 h2
    obtain ⟨c1, rfl⟩ : ∃ c, k1 = c + 1 := ⟨k1 - 1, by omega⟩
    obtain ⟨c2, rfl⟩ : ∃ c, k2 = c + 1 := ⟨k2 - 1, by omega⟩
    refine ⟨0, .inl rfl, ?_, ?_⟩
    · rw [show hd1 [] = 0 from rfl, enc_0, Qu_placeOfHeir_28, if_pos zI_m1]
      by_cases q1 : zI a3 ≤ zI (l1.length : Int)
      · rw [if_pos q1]
      · rw [if_neg q1]
        by_cases q2 : (192 : Int32) ≤ zI (l1.length : Int)
        · rw [if_pos q2]
        · rw [if_neg q2]
    · rw [show hd1 [] - 1 = 0 - 1 from rfl, Mo_heir_54, if_pos (show zI (0 - 1) < (0 : Int32) from zI_m1)]
      by_cases q1 : zI a3 ≤ zI (l1.length : Int)
      · rw [if_pos q1]
      · rw [if_neg q1]
  | cons y l2 ih =>
    intro l1 k1 k2 e h1 h2
    obtain ⟨c1, rfl⟩ : ∃ c, k1 = c + 1 := ⟨k1 - 1, by omega⟩
    obtain ⟨c2, rfl⟩ : ∃ c, k2 = c + 1 := ⟨k2 - 1, by omega⟩
    obtain ⟨hy, e26⟩ := ck_next h hC hx e
    have b1 := cr_lt hC hy
    have hy1 := hy.1
    have hlen : (A.2 x).length = l1.length + (l2.length + 1) := by rw [e, List.length_append, List.length_cons]
    rw [List.length_cons] at h1 h2
    have ey : hd1 (y :: l2) = (y : Int) + 1 := rfl
    have ey2 : hd1 (y :: l2) - 1 = (y : Int) := by rw [ey]; omega
    by_cases c : a3 ≤ (l1.length : Int)
    · have q : zI a3 ≤ zI (l1.length : Int) := by rw [zI_le (by omega) (by omega) (by omega) (by omega)]; exact c
      exact ⟨(y : Int) + 1, .inr ⟨y, rfl, hy⟩, by rw [Qu_placeOfHeir_28, if_pos q, ey], by rw [Mo_heir_54, if_pos q, ey]⟩
    · have q : ¬ zI a3 ≤ zI (l1.length : Int) := by rw [zI_le (by omega) (by omega) (by omega) (by omega)]; exact c
      obtain ⟨v, v1, v2, v3⟩ := ih (l1 ++ [y]) c1 c2 (by rw [e, List.append_assoc]; rfl) (by omega) (by omega)
      rw [List.length_append, List.length_singleton] at v2 v3
      refine ⟨v, v1, ?_, ?_⟩
      · rw [ey, enc_s, Qu_placeOfHeir_28, if_neg q, if_neg (by rw [zI_lit, zI_le (by omega) (by omega) (by omega) (by omega)]; omega), if_neg (zI_n0 (by omega)), if_pos (zI_in b1 (by omega)), zI_ixn (by omega), bnd_ap, e26, bnd_ap, zI_s1]; exact v2
      · rw [ey2, Mo_heir_54, if_neg q, if_neg (zI_n0 (by omega)), m_next hb hy1, bp_some, bnd_ap, mk_next hM hx e, bnd_ap, zI_s1]; exact v3
end
section
variable {c n0 : Nat} {M : Mem} {μ : Sl}
theorem top_above (hI : Inv c n0 M μ) (a1 a2 a3 : Int32) : TopQ c n0 M (Fh_above M a1 a2 a3) (Mo_above μ a1 a2 a3) := by
  obtain ⟨n, S, k, w, t, B, σ, bn, A, dep, J, N, e, qv, pv, wv, ⟨b1, b2, b3, b4, b5⟩, -, ⟨⟨hW, hC, hM, -⟩, hX⟩, ⟨hK, hm, hn, -⟩, ⟨f1, f2⟩, -, hT, hq, -⟩ := top_q hI
  obtain ⟨x1, i1, rfl⟩ := zI_ex a1
  obtain ⟨x2, i2, rfl⟩ := zI_ex a2
  obtain ⟨x3, i3, rfl⟩ := zI_ex a3
  obtain ⟨i31, i32'⟩ := id i3
  have hn6 := hn.1
  have hS := hW.2.1
  have bad : ∀ R1 R2, R1 = some (-1 : Int32) → R2 = some ((-1 : Int32), wr μ 34 2 (0 : Int32)) → TopQ c n0 M R1 R2 := fun R1 R2 r1 r2 => ⟨-1, _, r1, r2, inv_wr hI 0⟩
  have cl : Fh_above M (zI x1) (zI x2) (zI x3) = if (decide (0 ≤ x1 ∧ x1 < (n : Int)) && decide (0 ≤ x2 ∧ x2 < (S : Int))) = true then (if (1 : Int32) ≤ zI x3 then (bp (Qu_placeAbove (M w) (zI x1) (zI x2) (zI x3)) fun r => some r) else some (-1 : Int32)) else some (-1 : Int32) := by
    rw [Fh_above, b1, gref_z (by omega), c_isPlace hK hn i1 i2, bp_some, bI_if, gref_z (by omega)]
  have mo : Mo_above μ (zI x1) (zI x2) (zI x3) = if (decide (0 ≤ x1 ∧ x1 < (n : Int)) && decide (0 ≤ x2 ∧ x2 < (S : Int))) = true then (if (1 : Int32) ≤ zI x3 then (bp (Mo_cover (wr μ 34 2 (0 : Int32)) (zI x1) (zI x2)) fun r => Mo_above_39 FU (zI x1) (zI x2) (zI x3) r (0 : Int32) (wr μ 34 2 (0 : Int32))) else some ((-1 : Int32), wr μ 34 2 (0 : Int32))) else some ((-1 : Int32), wr μ 34 2 (0 : Int32)) := by
    rw [Mo_above, bnd_ap, m_isSpace hm hn i1, bp_some, bI_if, m_isPlace hm hn i2, bp_some, bI_if]
    cases decide (0 ≤ x1 ∧ x1 < (n : Int)) <;> cases decide (0 ≤ x2 ∧ x2 < (S : Int)) <;> rfl
  rw [cl, mo]
  by_cases g : 0 ≤ x1 ∧ x1 < (n : Int) ∧ 0 ≤ x2 ∧ x2 < (S : Int)
  · obtain ⟨g1, g2, g3, g4⟩ := g
    rw [decide_eq_true ⟨g1, g2⟩, decide_eq_true ⟨g3, g4⟩, Bool.and_self, if_pos rfl, if_pos rfl]
    by_cases v : 1 ≤ x3
    · have vz : (1 : Int32) ≤ zI x3 := by rw [zI_lit, zI_le (by omega) (by omega) (by omega) (by omega)]; exact v
      rw [if_pos vz, if_pos vz]
      have hcv := m_cover f1 (B := B) (A := A) (ord4 hW hM) (s := x1) (p := x2) g1 (by omega) g3 (by omega)
      rw [f2] at hcv
      have hfd := cr_find hC.2.1 (s := x1) (p := x2) g1 (by omega) g3 (by omega)
      have eq : (32 * x1 + x2).toNat = 32 * x1.toNat + x2.toNat := by omega
      rw [eq] at hcv hfd
      rw [Qu_placeAbove, hfd, bp_some, bnd_ap, hcv, bp_some]
      cases hcov : cov A (32 * x1.toNat + x2.toNat) with
      | none =>
        refine ⟨-2, _, by rw [show sc σ none = -1 from rfl, if_neg zI_np, bp_some], ?_, inv_wr hI 0⟩
        show Mo_above_39 (999999 + 1) (zI x1) (zI x2) (zI x3) (zI (-1)) (0 : Int32) _ = _
        rw [Mo_above_39, if_neg (by rw [zI_lit, zI_le (by omega) (by omega) (by omega) (by omega)]; omega), if_pos zI_m1, Mo_above_64, if_neg zI_np]
      | some d =>
        obtain ⟨hd, hd1', hd2⟩ := cov_some hW (by omega) hcov
        have bd := cr_lt hC hd
        have hdp := dep_lt hW hd
        have hd192 := hd.1
        have e1 := c_frAt hW hC (s := x1.toNat) (p := x2.toNat) (by omega) (by omega) hcov
        have e2 := m_frAt f1 hW hM (s := x1.toNat) (p := x2.toNat) (by omega) (by omega)
        rw [show ((x2.toNat : Nat) : Int) = x2 by omega] at e1
        rw [show ((x1.toNat : Nat) : Int) = x1 by omega, show ((x2.toNat : Nat) : Int) = x2 by omega, f2] at e2
        rw [show sc σ (some d) = (σ d : Int) from rfl, if_pos (zI_p0 (by omega)), e1, bp_some, bnd_ap, bnd_ap, show cv (some d) = (d : Int) from rfl]
        obtain ⟨u, u1, u2, u3⟩ := ab_lock f1 hW hC hM i3 (zI (fAt A (32 * x1.toNat + x2.toNat))) (zI x1) (zI x2) (dep d) d 0 1000000 1000000 rfl hd (by omega) (by omega) (by omega)
        rw [f2] at u3
        have u2' : Qu_placeAbove_28 (M w) FU (zI x3) (zI (σ d : Int)) (zI (fAt A (32 * x1.toNat + x2.toNat))) (0 : Int32) = _ := u2
        have u3' : Mo_above_39 FU (zI x1) (zI x2) (zI x3) (zI (d : Int)) (0 : Int32) (wr μ 34 2 (0 : Int32)) = _ := u3
        rw [u2', u3']
        rcases u1 with rfl | ⟨y, rfl, hy⟩
        · refine ⟨-2, _, by rw [enc_0, Qu_placeAbove_62, if_neg zI_np, bp_some], ?_, inv_wr hI 0⟩
          rw [show zI (0 - 1) = zI (-1) from rfl, Mo_above_64, if_neg zI_np]
        · have by1 := cr_lt hC hy
          have hy1 := hy.1
          obtain ⟨q18, q19, q20, -⟩ := hC.2.2.1 y hy
          obtain ⟨t1, -⟩ := hM.2.1 y hy
          have e3 := qof f1 f2 (q := 192 + (y : Int)) (by omega) (by omega)
          rw [show (192 + (y : Int)).toNat = 192 + y by omega, t1, ← zI_add] at e3
          have e3' : Mo_of (wr μ 34 2 (0 : Int32)) ((192 : Int32) + zI (y : Int)) = some (zI (A.1 1 y)) := e3
          refine ⟨zI ((y : Int) + fAt A (32 * x1.toNat + x2.toNat) - A.1 1 y), _, ?_, ?_, inv_wr hI 0⟩
          · rw [enc_s, Qu_placeAbove_62, if_pos (zI_p0 (by omega)), if_pos (zI_in by1 (by omega)), if_pos (zI_in by1 (by omega)), if_pos (zI_in by1 (by omega)), zI_ixn (by omega), q18, q19, q20, show (32 : Int32) = zI 32 from rfl, zI_mul, zI_add, zI_add, zI_sub, bp_some]
            congr 2; omega
          · rw [show (y : Int) + 1 - 1 = (y : Int) by omega, Mo_above_64, if_pos (zI_p0 (by omega)), e2, bp_some, e3', bp_some, zI_add, zI_sub]
    · have vz : ¬ (1 : Int32) ≤ zI x3 := by rw [zI_lit, zI_le (by omega) (by omega) (by omega) (by omega)]; exact v
      rw [if_neg vz, if_neg vz]
      exact bad _ _ rfl rfl
  · have gf : (decide (0 ≤ x1 ∧ x1 < (n : Int)) && decide (0 ≤ x2 ∧ x2 < (S : Int))) = false := by
      rw [Bool.and_eq_false_iff, decide_eq_false_iff_not, decide_eq_false_iff_not]; omega
    rw [gf, if_neg (by decide), if_neg (by decide)]
    exact bad _ _ rfl rfl
theorem top_heir (hI : Inv c n0 M μ) (a1 a2 a3 : Int32) : TopQ c n0 M (Fh_heir M a1 a2 a3) (Mo_heir μ a1 a2 a3) := by
  obtain ⟨n, S, k, w, t, B, σ, bn, A, dep, J, N, e, qv, pv, wv, ⟨b1, b2, b3, b4, b5⟩, -, ⟨⟨hW, hC, hM, -⟩, hX⟩, ⟨hK, hm, hn, -⟩, ⟨f1, f2⟩, -, hT, hq, -⟩ := top_q hI
  obtain ⟨x1, i1, rfl⟩ := zI_ex a1
  obtain ⟨x2, i2, rfl⟩ := zI_ex a2
  obtain ⟨x3, i3, rfl⟩ := zI_ex a3
  obtain ⟨i31, i32'⟩ := id i3
  have hn6 := hn.1
  have hS := hW.2.1
  have bad : ∀ R1 R2, R1 = some (-1 : Int32) → R2 = some ((-1 : Int32), wr μ 34 2 (0 : Int32)) → TopQ c n0 M R1 R2 := fun R1 R2 r1 r2 => ⟨-1, _, r1, r2, inv_wr hI 0⟩
  have cl : Fh_heir M (zI x1) (zI x2) (zI x3) = if (decide (0 ≤ x1 ∧ x1 < (n : Int)) && decide (0 ≤ x2 ∧ x2 < (S : Int))) = true then (if (0 : Int32) ≤ zI x3 then (bp (Qu_placeOfHeir (M w) (zI x1) (zI x2) (zI x3)) fun r => some r) else some (-1 : Int32)) else some (-1 : Int32) := by
    rw [Fh_heir, b1, gref_z (by omega), c_isPlace hK hn i1 i2, bp_some, bI_if, gref_z (by omega)]
  have mo : Mo_heir μ (zI x1) (zI x2) (zI x3) = if (decide (0 ≤ x1 ∧ x1 < (n : Int)) && decide (0 ≤ x2 ∧ x2 < (S : Int))) = true then (if (0 : Int32) ≤ zI x3 then (bp (Mo_cover (wr μ 34 2 (0 : Int32)) (zI x1) (zI x2)) fun r => if 0 ≤ r then (bp (Mo_firstOf (wr μ 34 2 (0 : Int32)) r) fun r9 => Mo_heir_54 FU (zI x3) r9 (0 : Int32) (wr μ 34 2 (0 : Int32))) else some ((-2 : Int32), wr μ 34 2 (0 : Int32))) else some ((-1 : Int32), wr μ 34 2 (0 : Int32))) else some ((-1 : Int32), wr μ 34 2 (0 : Int32)) := by
    rw [Mo_heir, bnd_ap, m_isSpace hm hn i1, bp_some, bI_if, m_isPlace hm hn i2, bp_some, bI_if]
    cases decide (0 ≤ x1 ∧ x1 < (n : Int)) <;> cases decide (0 ≤ x2 ∧ x2 < (S : Int)) <;> rfl
  rw [cl, mo]
  by_cases g : 0 ≤ x1 ∧ x1 < (n : Int) ∧ 0 ≤ x2 ∧ x2 < (S : Int)
  · obtain ⟨g1, g2, g3, g4⟩ := g
    rw [decide_eq_true ⟨g1, g2⟩, decide_eq_true ⟨g3, g4⟩, Bool.and_self, if_pos rfl, if_pos rfl]
    by_cases v : 0 ≤ x3
    · have vz : (0 : Int32) ≤ zI x3 := by rw [zI_lit, zI_le (by omega) (by omega) (by omega) (by omega)]; exact v
      rw [if_pos vz, if_pos vz]
      have hcv := m_cover f1 (B := B) (A := A) (ord4 hW hM) (s := x1) (p := x2) g1 (by omega) g3 (by omega)
      rw [f2] at hcv
      have hfd := cr_find hC.2.1 (s := x1) (p := x2) g1 (by omega) g3 (by omega)
      have eq : (32 * x1 + x2).toNat = 32 * x1.toNat + x2.toNat := by omega
      rw [eq] at hcv hfd
      rw [Qu_placeOfHeir, hfd, bp_some, bnd_ap, hcv, bp_some]
      cases hcov : cov A (32 * x1.toNat + x2.toNat) with
      | none =>
        exact ⟨-2, _, by rw [show sc σ none = -1 from rfl, if_neg zI_np, bp_some], by rw [show cv none = -1 from rfl, if_neg zI_np], inv_wr hI 0⟩
      | some d =>
        obtain ⟨hd, hd1', hd2⟩ := cov_some hW (by omega) hcov
        have bd := cr_lt hC hd
        have hd192 := hd.1
        have hkl := kids_len hW hd
        have ef := m_first f1 (B := B) hd192
        rw [f2, mk_first hM hd] at ef
        rw [show sc σ (some d) = (σ d : Int) from rfl, if_pos (zI_p0 (by omega)), if_pos (zI_in bd (by omega)), zI_ixn (by omega), ck_first hC hd, bnd_ap, bnd_ap, show cv (some d) = (d : Int) from rfl, if_pos (zI_p0 (by omega)), ef, bp_some]
        obtain ⟨u, u1, u2, u3⟩ := hr_lock f1 hW hC hM i3 hd (A.2 d) [] 1000000 1000000 rfl (by omega) (by omega)
        rw [f2] at u3
        have u2' : Qu_placeOfHeir_28 (M w) FU (zI x3) (enc σ (hd1 (A.2 d))) (0 : Int32) = _ := u2
        have u3' : Mo_heir_54 FU (zI x3) (zI (hd1 (A.2 d) - 1)) (0 : Int32) (wr μ 34 2 (0 : Int32)) = _ := u3
        rw [u2', u3']
        rcases u1 with rfl | ⟨y, rfl, hy⟩
        · refine ⟨-2, _, by rw [enc_0, Qu_placeOfHeir_62, if_neg zI_np, bp_some], ?_, inv_wr hI 0⟩
          rw [show zI (0 - 1) = zI (-1) from rfl, Mo_heir_79, if_neg zI_np]
        · have by1 := cr_lt hC hy
          have hy1 := hy.1
          obtain ⟨q18, q19, -⟩ := hC.2.2.1 y hy
          refine ⟨zI (y : Int), _, ?_, ?_, inv_wr hI 0⟩
          · rw [enc_s, Qu_placeOfHeir_62, if_pos (zI_p0 (by omega)), if_pos (zI_in by1 (by omega)), if_pos (zI_in by1 (by omega)), zI_ixn (by omega), q18, q19, show (32 : Int32) = zI 32 from rfl, zI_mul, zI_add, bp_some]
            congr 2; omega
          · rw [show (y : Int) + 1 - 1 = (y : Int) by omega, Mo_heir_79, if_pos (zI_p0 (by omega))]
    · have vz : ¬ (0 : Int32) ≤ zI x3 := by rw [zI_lit, zI_le (by omega) (by omega) (by omega) (by omega)]; exact v
      rw [if_neg vz, if_neg vz]
      exact bad _ _ rfl rfl
  · have gf : (decide (0 ≤ x1 ∧ x1 < (n : Int)) && decide (0 ≤ x2 ∧ x2 < (S : Int))) = false := by
      rw [Bool.and_eq_false_iff, decide_eq_false_iff_not, decide_eq_false_iff_not]; omega
    rw [gf, if_neg (by decide), if_neg (by decide)]
    exact bad _ _ rfl rfl
theorem top_coldest (hI : Inv c n0 M μ) (hc : c < 600) (a1 : Int32) : TopQ c n0 M (Fh_coldest M a1) (Mo_coldest μ a1) := by
  obtain ⟨n, S, k, w, t, B, σ, bn, A, dep, J, N, e, qv, pv, wv, ⟨b1, b2, b3, b4, b5⟩, -, ⟨hR, hX⟩, ⟨hK, hm, hn, -⟩, ⟨f1, f2⟩, ⟨hN, -⟩, hT, hq, -⟩ := top_q hI
  have h9 := RC_T9 hR (by omega)
  obtain ⟨hW, hC, hM, -⟩ := hR
  obtain ⟨x1, i1, rfl⟩ := zI_ex a1
  have hn6 := hn.1
  rw [Fh_coldest, b1, gref_z (by omega), c_isSpace hK hn i1, bp_some, bI_if, Mo_coldest, bnd_ap, m_isSpace hm hn i1, bp_some, bI_if]
  by_cases g : 0 ≤ x1 ∧ x1 < (n : Int)
  · rw [if_pos (decide_eq_true g), if_pos (decide_eq_true g), gref_z (by omega)]
    have e1 := c_cold hW hC (s := x1.toNat) (by omega) (0 : Int32)
    have e2 := m_cold f1 hW hM h9 hm.2.1 (s := x1.toNat) (by omega) (0 : Int32)
    rw [show ((x1.toNat : Nat) : Int) = x1 by omega] at e1 e2
    rw [f2] at e2
    rw [e1, bp_some, bnd_ap, e2, bp_some, bnd_ap]
    cases hcl : cld A 0 x1.toNat with
    | none => exact ⟨-2, _, by rw [show sc σ none = -1 from rfl, if_neg zI_np], by rw [show cv none = -1 from rfl, if_neg zI_np], inv_wr hI 0⟩
    | some d =>
      obtain ⟨hd, -⟩ := cld_lv (by omega) hcl
      have bd := cr_lt hC hd
      have hd192 := hd.1
      obtain ⟨q18, q19, -⟩ := hC.2.2.1 d hd
      refine ⟨zI ((d % 32 : Nat) : Int), _, ?_, ?_, inv_wr hI 0⟩
      · rw [show sc σ (some d) = (σ d : Int) from rfl, if_pos (zI_p0 (by omega)), gref_z (by omega), if_pos (zI_in bd (by omega)), zI_ixn (by omega), q19]
      · rw [show cv (some d) = (d : Int) from rfl, if_pos (zI_p0 (by omega)), if_pos (by decide), show (32 : Int32) = zI 32 from rfl, zI_div (by omega) (by omega) (by omega) (by omega), zI_mul, zI_sub]
        congr 3; omega
  · rw [if_neg (by rw [decide_eq_true_eq]; exact g), if_neg (by rw [decide_eq_true_eq]; exact g)]
    exact ⟨-1, _, rfl, rfl, inv_wr hI 0⟩
end
