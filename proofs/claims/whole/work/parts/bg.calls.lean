/-! ===== the calls that can be undone ===== -/
def TopR (c : Nat) (R1 : Option (Int32 × Nat × Mem)) (R2 : Option (Int32 × Sl)) : Prop := ∃ (r : Int32) (n0' : Nat) (M' : Mem) (μ' : Sl), R1 = some (r, n0', M') ∧ R2 = some (r, μ') ∧ Inv (c + 1) n0' M' μ'
def HY (c n0 n S k w : Nat) (M1 : Mem) (μ1 : Sl) (B : Nat → Int) : Prop := ∀ (v : Int) (δ' μ' : Sl) (B' : Nat → Int), i32 v → v ≠ -1 → SC μ1 μ' → WH n S k δ' B' (100 * ((c + 1 : Nat) : Int)) → QMq μ1 n S B B' → ∃ n0' M3, Fh_keep n0 (setS M1 w δ') (zI v) = some (zI v, n0', M3) ∧ Inv (c + 1) n0' M3 (bst μ' 0 B')
theorem zI_ex (a : Int32) : ∃ x : Int, i32 x ∧ a = zI x := ⟨a.toInt, i32_of a, (zI_of a).symm⟩
theorem m_isIn {x lo hi : Int} (h : i32 x) (h1 : i32 lo) (h2 : i32 hi) : Mo_isIn (zI x) (zI lo) (zI hi) = some (bI (decide (lo ≤ x ∧ x ≤ hi))) := by
  obtain ⟨x1, x2⟩ := h
  obtain ⟨l1, l2⟩ := h1
  obtain ⟨u1, u2⟩ := h2
  unfold Mo_isIn
  by_cases z : x < lo
  · rw [if_pos (by rw [zI_lt (by omega) (by omega) (by omega) (by omega)]; exact z), decide_eq_false (by omega)]; rfl
  · rw [if_neg (by rw [zI_lt (by omega) (by omega) (by omega) (by omega)]; exact z)]
    by_cases w : hi < x
    · rw [if_pos (by rw [zI_lt (by omega) (by omega) (by omega) (by omega)]; exact w), decide_eq_false (by omega)]; rfl
    · rw [if_neg (by rw [zI_lt (by omega) (by omega) (by omega) (by omega)]; exact w), decide_eq_true (by omega)]; rfl
theorem if2_f {τ : Type} {b1 b2 : Bool} (h : (b1 && b2) = false) (X Y : τ) : (if b1 = true then if b2 = true then X else Y else Y) = Y := by
  cases b1 <;> cases b2 <;> simp at h ⊢
theorem if3_f {τ : Type} {b1 b2 b3 : Bool} (h : ((b1 && b2) && b3) = false) (X Y : τ) : (if b1 = true then if b2 = true then if b3 = true then X else Y else Y else Y) = Y := by
  cases b1 <;> cases b2 <;> cases b3 <;> simp at h ⊢
theorem inv_wr {c n0 : Nat} {M : Mem} {μ : Sl} (hI : Inv c n0 M μ) (v : Int32) : Inv (c + 1) n0 M (wr μ 34 2 v) :=
  inv_same hI rfl rfl (fun _ _ _ => rfl) (QU_wr μ (i := 2) v (by omega)) (fun u D _ hD => BK_wr hD (by omega)) (by rw [wr_ap, if_neg (by omega)]) (by rw [wr_ap, if_neg (by omega)])
theorem lft_some {M : Mem} {k : Nat} {ρ : Type} (r : ρ) (d : Sl) : lft M k (some (r, d)) = some (r, setS M k d) := rfl
section
variable {c n0 n S k w : Nat} {M M1 : Mem} {μ μ1 : Sl} {δ : Sl} {B : Nat → Int} {N : Int} {ee : Int × Int}
theorem fin_wh (hy : HY c n0 n S k w M1 μ1 B) {v : Int} {δ' μ' : Sl} {B' : Nat → Int} {R1 R2 : Option (Int32 × Sl)} (r1 : R1 = some (zI v, δ')) (r2 : R2 = some (zI v, bst μ' 0 B')) (hv : i32 v) (hv1 : v ≠ -1) (hs : SC μ1 μ') (hW : WH n S k δ' B' (100 * ((c + 1 : Nat) : Int))) (hQ : QMq μ1 n S B B') : TopR c (bd (lft M1 w R1) fun r d => Fh_keep n0 d r) (bd R2 fun r d => some (r, d)) := by
  obtain ⟨n0', M3, k1, k2⟩ := hy v δ' μ' B' hv hv1 hs hW hQ
  exact ⟨zI v, n0', M3, bst μ' 0 B', by rw [r1, lft_some, bd_some]; exact k1, by rw [r2, bd_some], k2⟩
theorem fin_wo (hy : HY c n0 n S k w M1 μ1 B) (h4 : δ 10 0 = zI (k : Int)) (hN : N ≤ 100 * (c : Int)) (hW : B 2196 ≤ 100 * (c : Int)) {e : Int} {R1 R2 : Option (Int32 × Sl)} (h : WO (e, 0) n S δ μ1 0 B N R1 R2) : TopR c (bd (lft M1 w R1) fun r d => Fh_keep n0 d r) (bd R2 fun r d => some (r, d)) := by
  obtain ⟨v, δ', σ', bn', μ', B', A', dep', J', N', r1, r2, ⟨v1, v2, v3⟩, r4, r5, r6, r7, r8, r9, r10⟩ := h
  exact fin_wh hy r1 r2 ⟨by omega, by omega⟩ v3 r6 ⟨σ', bn', A', dep', J', N', e, r4, r5, by rw [r7]; exact h4, by omega, by omega⟩ r10
theorem fin_bad (h1 : Inv (c + 1) n0 M1 (wr μ 34 2 (0 : Int32))) (h2 : Fh_keep n0 (setS M1 w (M1 w)) (zI (-1)) = some (zI (-1), n0, M1)) {R1 : Option (Int32 × Sl)} {R2 : Option (Int32 × Sl)} (r1 : R1 = some (zI (-1), M1 w)) (r2 : R2 = some ((-1 : Int32), wr μ 34 2 (0 : Int32))) : TopR c (bd (lft M1 w R1) fun r d => Fh_keep n0 d r) R2 :=
  ⟨zI (-1), n0, M1, wr μ 34 2 (0 : Int32), by rw [r1, lft_some, bd_some]; exact h2, by rw [r2]; rfl, h1⟩
theorem top_map (hI : Inv c n0 M μ) (hc : c < 600) (a1 a2 a3 a4 a5 : Int32) : TopR c (Fh_map n0 M a1 a2 a3 a4 a5) (Mo_map μ a1 a2 a3 a4 a5) := by
  obtain ⟨n, S, k, w, M1, B, μ1, h1, ⟨h2, h3, h4, h5, h6⟩, h7, ⟨g1, g2, g3⟩, ⟨f1, f2, f3⟩, hw, hyes, hno1, hno2⟩ := top_keep hI hc
  obtain ⟨qv, pv, wv, cc, wb, kd, x, t1, t2, t3, t4⟩ := TX_SB g3
  obtain ⟨qv', pv', wv', cc', wb', kd', x', s1, s2, s3, s4⟩ := TX_SB f3
  obtain ⟨σ, bn, A, dep, J, N, e, w1, w2, w3, w4, w5⟩ := hw
  obtain ⟨hK, hm, hn, -⟩ := t1 _ h4
  obtain ⟨x1, i1, rfl⟩ := zI_ex a1
  obtain ⟨x2, i2, rfl⟩ := zI_ex a2
  obtain ⟨x3, i3, rfl⟩ := zI_ex a3
  obtain ⟨x4, i4, rfl⟩ := zI_ex a4
  obtain ⟨x5, i5, rfl⟩ := zI_ex a5
  have hcl : Fh_map n0 M (zI x1) (zI x2) (zI x3) (zI x4) (zI x5) = bd (lft M1 w (Wo_handOn M1 (M1 w) (zI x1) (zI x2) (zI x3) (zI x4) (zI x5))) fun r d => Fh_keep n0 d r := by
    rw [Fh_map, h1, bd_some, h2, gref_z (by omega)]
  have hmo : Mo_map μ (zI x1) (zI x2) (zI x3) (zI x4) (zI x5) = if psB n S x1 x2 x3 x4 = true then if decide (1 ≤ x5 ∧ x5 ≤ 7) = true then (bd (Mo_mapped μ1 (zI x1) (zI x2) (zI x3) (zI x4) (zI x5)) fun r d => some (r, d)) else some ((-1 : Int32), wr μ 34 2 (0 : Int32)) else some ((-1 : Int32), wr μ 34 2 (0 : Int32)) := by
    rw [Mo_map, bnd_ap, m_pass s3 s4 i1 i2 i3 i4, bp_some, bI_if, m_rights, c_rights i5, bp_some, bI_if, h7, bd_some]
  rw [hcl, hmo]
  cases c1 : (psB n S x1 x2 x3 x4 && decide (1 ≤ x5 ∧ x5 ≤ 7)) with
  | false => exact fin_bad hno1 hno2 (hand_bad hK hn i1 i2 i3 i4 i5 c1) (if2_f c1 _ _)
  | true =>
    rw [Bool.and_eq_true] at c1
    obtain ⟨c2, c3⟩ := c1
    have c4 := of_decide_eq_true c3
    obtain ⟨sf, st, p, p1, t, hh, e1, e2, e3, e4⟩ := ps_good c2
    have kk := map_wo w1 w2 (by omega) g1 hK hm hn (HN_r hh c4.1 c4.2)
    rw [← e1, ← e2, ← e3, ← e4, g2] at kk
    rw [if_pos c2, if_pos c3]
    exact fin_wo hyes h4 w4 w5 kk
theorem top_grant (hI : Inv c n0 M μ) (hc : c < 600) (a1 a2 a3 a4 : Int32) : TopR c (Fh_grant n0 M a1 a2 a3 a4) (Mo_grant μ a1 a2 a3 a4) := by
  obtain ⟨n, S, k, w, M1, B, μ1, h1, ⟨h2, h3, h4, h5, h6⟩, h7, ⟨g1, g2, g3⟩, ⟨f1, f2, f3⟩, hw, hyes, hno1, hno2⟩ := top_keep hI hc
  obtain ⟨qv, pv, wv, cc, wb, kd, x, t1, t2, t3, t4⟩ := TX_SB g3
  obtain ⟨qv', pv', wv', cc', wb', kd', x', s1, s2, s3, s4⟩ := TX_SB f3
  obtain ⟨σ, bn, A, dep, J, N, e, w1, w2, w3, w4, w5⟩ := hw
  obtain ⟨hK, hm, hn, -⟩ := t1 _ h4
  obtain ⟨x1, i1, rfl⟩ := zI_ex a1
  obtain ⟨x2, i2, rfl⟩ := zI_ex a2
  obtain ⟨x3, i3, rfl⟩ := zI_ex a3
  obtain ⟨x4, i4, rfl⟩ := zI_ex a4
  have hcl : Fh_grant n0 M (zI x1) (zI x2) (zI x3) (zI x4) = bd (lft M1 w (Wo_giveAway M1 (M1 w) (zI x1) (zI x2) (zI x3) (zI x4))) fun r d => Fh_keep n0 d r := by
    rw [Fh_grant, h1, bd_some, h2, gref_z (by omega)]
  have hmo : Mo_grant μ (zI x1) (zI x2) (zI x3) (zI x4) = if psB n S x1 x2 x3 x4 = true then (bd (Mo_granted μ1 (zI x1) (zI x2) (zI x3) (zI x4)) fun r d => some (r, d)) else some ((-1 : Int32), wr μ 34 2 (0 : Int32)) := by
    rw [Mo_grant, bnd_ap, m_pass s3 s4 i1 i2 i3 i4, bp_some, bI_if, h7, bd_some]
  rw [hcl, hmo]
  cases c1 : psB n S x1 x2 x3 x4 with
  | false => exact fin_bad hno1 hno2 (give_bad hK hn i1 i2 i3 i4 c1) (if_neg (by decide))
  | true =>
    obtain ⟨sf, st, p, p1, t, hh, e1, e2, e3, e4⟩ := ps_good c1
    have kk := grant_wo w1 w2 (by omega) g1 hK hm hn hh
    rw [← e1, ← e2, ← e3, ← e4, g2] at kk
    rw [if_pos rfl]
    exact fin_wo hyes h4 w4 w5 kk
theorem top_flush (hI : Inv c n0 M μ) (hc : c < 600) (a1 a2 a3 a4 : Int32) : TopR c (Fh_flush n0 M a1 a2 a3 a4) (Mo_flush μ a1 a2 a3 a4) := by
  obtain ⟨n, S, k, w, M1, B, μ1, h1, ⟨h2, h3, h4, h5, h6⟩, h7, ⟨g1, g2, g3⟩, ⟨f1, f2, f3⟩, hw, hyes, hno1, hno2⟩ := top_keep hI hc
  obtain ⟨qv, pv, wv, cc, wb, kd, x, t1, t2, t3, t4⟩ := TX_SB g3
  obtain ⟨qv', pv', wv', cc', wb', kd', x', s1, s2, s3, s4⟩ := TX_SB f3
  obtain ⟨σ, bn, A, dep, J, N, e, w1, w2, w3, w4, w5⟩ := hw
  obtain ⟨hK, hm, hn, -⟩ := t1 _ h4
  obtain ⟨x1, i1, rfl⟩ := zI_ex a1
  obtain ⟨x2, i2, rfl⟩ := zI_ex a2
  obtain ⟨x3, i3, rfl⟩ := zI_ex a3
  have hcl : Fh_flush n0 M (zI x1) (zI x2) (zI x3) a4 = bd (lft M1 w (Wo_startFlush M1 (M1 w) (zI x1) (zI x2) (zI x3) a4)) fun r d => Fh_keep n0 d r := by
    rw [Fh_flush, h1, bd_some, h2, gref_z (by omega)]
  have hmo : Mo_flush μ (zI x1) (zI x2) (zI x3) a4 = if decide (0 ≤ x1 ∧ x1 < (n : Int)) = true then if (decide (0 ≤ x2) && rgB S (x2 / 4) (x2 % 4 + 1)) = true then if decide (1 ≤ x3 ∧ x3 ≤ 7) = true then (bd (Mo_flushed μ1 (zI x1) (zI x2) (zI x3) a4) fun r d => some (r, d)) else some ((-1 : Int32), wr μ 34 2 (0 : Int32)) else some ((-1 : Int32), wr μ 34 2 (0 : Int32)) else some ((-1 : Int32), wr μ 34 2 (0 : Int32)) := by
    rw [Mo_flush, bnd_ap, m_isSpace s3 s4 i1, bp_some, bI_if, m_isRegion s3 s4 i2, bp_some, bI_if, m_rights, c_rights i3, bp_some, bI_if, h7, bd_some]
  rw [hcl, hmo]
  cases c1 : fzB n S x1 x2 x3 with
  | false => exact fin_bad hno1 hno2 (flush_bad hK hn i1 i2 i3 a4 c1) (if3_f c1 _ _)
  | true =>
    obtain ⟨sf, p, t, hh, e1, e2⟩ := fl_good c1
    have kk := flush_wo w1 w2 (by omega) g1 hK hn hh a4
    rw [← e1, ← e2, g2] at kk
    unfold fzB at c1
    rw [Bool.and_eq_true, Bool.and_eq_true] at c1
    rw [if_pos c1.1.1, if_pos c1.1.2, if_pos c1.2]
    exact fin_wo hyes h4 w4 w5 kk
theorem top_work (hI : Inv c n0 M μ) (hc : c < 600) (a1 : Int32) : TopR c (Fh_work n0 M a1) (Mo_work μ a1) := by
  obtain ⟨n, S, k, w, M1, B, μ1, h1, ⟨h2, h3, h4, h5, h6⟩, h7, ⟨g1, g2, g3⟩, ⟨f1, f2, f3⟩, hw, hyes, hno1, hno2⟩ := top_keep hI hc
  obtain ⟨σ, bn, A, dep, J, N, e, w1, w2, w3, w4, w5⟩ := hw
  obtain ⟨x1, ⟨i1, i2⟩, rfl⟩ := zI_ex a1
  have hmo : Mo_work μ (zI x1) = if decide (0 ≤ x1 ∧ x1 ≤ 99) = true then (bd (Mo_worked μ1 (zI x1)) fun r d => some (r, d)) else some ((-1 : Int32), wr μ 34 2 (0 : Int32)) := by
    have t := m_isIn (x := x1) (lo := 0) (hi := 99) ⟨i1, i2⟩ ⟨by omega, by omega⟩ ⟨by omega, by omega⟩
    rw [Mo_work, bnd_ap, show (0 : Int32) = zI 0 from rfl, show (99 : Int32) = zI 99 from rfl, t, bp_some]
    rw [show zI 0 = (0 : Int32) from rfl, bI_if, h7, bd_some]
  by_cases z : 0 ≤ x1 ∧ x1 ≤ 99
  · have hcl : Fh_work n0 M (zI x1) = bd (lft M1 w (Wo_workOn M1 (M1 w) (zI x1))) fun r d => Fh_keep n0 d r := by
      rw [Fh_work, if_neg (by rw [zI_lit, zI_lt (by omega) (by omega) (by omega) (by omega)]; omega), if_pos (by rw [zI_lit, zI_le (by omega) (by omega) (by omega) (by omega)]; omega), h1, bd_some, h2, gref_z (by omega)]
    rw [hcl, hmo, if_pos (decide_eq_true z)]
    have kk := work_wo (M := M1) w1 w2 (by omega) g1 (w := x1) i1 i2
    rw [g2] at kk
    exact fin_wo hyes h4 w4 w5 kk
  · refine ⟨zI (-1), n0, M, wr μ 34 2 (0 : Int32), ?_, ?_, inv_wr hI 0⟩
    · by_cases y : x1 < 0
      · rw [Fh_work, if_pos (by rw [zI_lit, zI_lt (by omega) (by omega) (by omega) (by omega)]; omega)]; rfl
      · rw [Fh_work, if_neg (by rw [zI_lit, zI_lt (by omega) (by omega) (by omega) (by omega)]; omega), if_neg (by rw [zI_lit, zI_le (by omega) (by omega) (by omega) (by omega)]; omega)]; rfl
    · rw [hmo, if_neg (by rw [decide_eq_true_eq]; exact z)]; rfl
theorem top_touch (hI : Inv c n0 M μ) (hc : c < 600) (a1 a2 a3 : Int32) : TopR c (Fh_touch n0 M a1 a2 a3) (Mo_touch μ a1 a2 a3) := by
  obtain ⟨n, S, k, w, M1, B, μ1, h1, ⟨h2, h3, h4, h5, h6⟩, h7, ⟨g1, g2, g3⟩, ⟨f1, f2, f3⟩, hw, hyes, hno1, hno2⟩ := top_keep hI hc
  obtain ⟨qv, pv, wv, cc, wb, kd, x, t1, t2, t3, t4⟩ := TX_SB g3
  obtain ⟨qv', pv', wv', cc', wb', kd', x', s1, s2, s3, s4⟩ := TX_SB f3
  obtain ⟨σ, bn, A, dep, J, N, e, w1, w2, w3, w4, w5⟩ := hw
  obtain ⟨hK, hm, hn, hpk, hpm, hpn, -⟩ := t1 _ h4
  obtain ⟨x1, i1, rfl⟩ := zI_ex a1
  obtain ⟨x2, i2, rfl⟩ := zI_ex a2
  obtain ⟨x3, i3, rfl⟩ := zI_ex a3
  have hcl : Fh_touch n0 M (zI x1) (zI x2) (zI x3) = bd (lft M1 w (Wo_touchPage M1 (M1 w) (zI x1) (zI x2) (zI x3))) fun r d => Fh_keep n0 d r := by
    rw [Fh_touch, h1, bd_some, h2, gref_z (by omega)]
  have ht := m_isTouch f1 w2 s3 s4 i1 i2 i3
  rw [f2] at ht
  have hmo : Mo_touch μ (zI x1) (zI x2) (zI x3) = if tcB n S B x1 x2 x3 = true then (bd (Mo_touched μ1 (zI x1) (zI x2) (zI x3)) fun r d => some (r, d)) else some ((-1 : Int32), wr μ 34 2 (0 : Int32)) := by
    rw [Mo_touch, bnd_ap, ht, bp_some, bI_if, h7, bd_some]
  rw [hcl, hmo]
  cases c1 : tcB n S B x1 x2 x3 with
  | false => exact fin_bad hno1 hno2 (touch_bad w2 (by omega) hK hn i1 i2 i3 c1) (if_neg (by decide))
  | true =>
    rw [if_pos rfl]
    unfold tcB at c1
    simp only [Bool.and_eq_true, decide_eq_true_eq] at c1
    obtain ⟨⟨b1, b2⟩, ⟨b3, b4⟩, b5, b6⟩ := c1
    have kk := touch_wo (N := N) w1 w2 g1 hK hn hpk hpm hpn (s := x1.toNat) (p := x2.toNat) (r := x3) (by omega) (by omega) b5 b6
    rw [show ((x1.toNat : Nat) : Int) = x1 by omega, show ((x2.toNat : Nat) : Int) = x2 by omega, g2] at kk
    exact fin_wo hyes h4 w4 w5 kk
theorem top_serve (hI : Inv c n0 M μ) (hc : c < 600) (a1 : Int32) : TopR c (Fh_serve n0 M a1) (Mo_serve μ a1) := by
  obtain ⟨n, S, k, w, M1, B, μ1, h1, ⟨h2, h3, h4, h5, h6⟩, h7, ⟨g1, g2, g3⟩, ⟨f1, f2, f3⟩, hw, hyes, hno1, hno2⟩ := top_keep hI hc
  obtain ⟨qv, pv, wv, cc, wb, kd, x, t1, t2, t3, t4⟩ := TX_SB g3
  obtain ⟨qv', pv', wv', cc', wb', kd', x', s1, s2, s3, s4⟩ := TX_SB f3
  obtain ⟨σ, bn, A, dep, J, N, e, w1, w2, w3, w4, w5⟩ := hw
  obtain ⟨hK, hm, hn, hpk, hpm, hpn, hwk, hwm, hwn⟩ := t1 _ h4
  obtain ⟨x1, i1, rfl⟩ := zI_ex a1
  have hcl : Fh_serve n0 M (zI x1) = bd (lft M1 w (Wo_serveFirst M1 (M1 w) (zI x1))) fun r d => Fh_keep n0 d r := by
    rw [Fh_serve, h1, bd_some, h2, gref_z (by omega)]
  have hmo : Mo_serve μ (zI x1) = if decide (0 ≤ x1 ∧ x1 < (n : Int)) = true then (bd (Mo_served μ1 (zI x1)) fun r d => some (r, d)) else some ((-1 : Int32), wr μ 34 2 (0 : Int32)) := by
    rw [Mo_serve, bnd_ap, m_isSpace s3 s4 i1, bp_some, bI_if, h7, bd_some]
  rw [hcl, hmo]
  by_cases z : 0 ≤ x1 ∧ x1 < (n : Int)
  · rw [if_pos (decide_eq_true z)]
    obtain ⟨v, δ', σ', bn', μ', B', A', dep', r1, r2, ⟨v1, v2, v3⟩, -, r4, r5, r6, r7, r8⟩ := serve_on (M := M1) w1 w2 (by omega) (by omega) g1 hK hm hn hpk hpm hpn hwk hwm hwn (a := x1.toNat) (by omega)
    rw [show ((x1.toNat : Nat) : Int) = x1 by omega] at r1 r2
    rw [g2] at r2
    exact fin_wh hyes r1 r2 ⟨by omega, by omega⟩ v3 r6 ⟨σ', bn', A', dep', J, N, e, r4, r5, by rw [r7]; exact h4, by omega, by omega⟩ r8.2
  · exact fin_bad hno1 hno2 (serve_bad hK hn i1 z) (if_neg (by rw [decide_eq_true_eq]; exact z))
theorem top_settle (hI : Inv c n0 M μ) (hc : c < 600) : TopR c (Fh_settle n0 M) (Mo_settle μ) := by
  obtain ⟨n, S, k, w, M1, B, μ1, h1, ⟨h2, h3, h4, h5, h6⟩, h7, ⟨g1, g2, g3⟩, ⟨f1, f2, f3⟩, hw, hyes, hno1, hno2⟩ := top_keep hI hc
  obtain ⟨qv, pv, wv, cc, wb, kd, x, t1, t2, t3, t4⟩ := TX_SB g3
  obtain ⟨σ, bn, A, dep, J, N, e, w1, w2, w3, w4, w5⟩ := hw
  have hcl : Fh_settle n0 M = bd (lft M1 w (Wo_settleAll M1 (M1 w))) fun r d => Fh_keep n0 d r := by
    rw [Fh_settle, h1, bd_some, h2, gref_z (by omega)]
  have hmo : Mo_settle μ = bd (Mo_settles μ1) fun r d => some (r, d) := by
    rw [Mo_settle, bnd_ap, h7, bd_some]
  rw [hcl, hmo]
  obtain ⟨v, δ', μ', σ', bn', B', A', dep', v1, r1, r2, r4, r5, r6, r7, r8⟩ := settle_on (M := M1) w1 w2 (by omega) (by omega) g1 (t1 _ h4)
  rw [g2] at r2
  exact fin_wh hyes r1 r2 ⟨by omega, by omega⟩ (by omega) r6 ⟨σ', bn', A', dep', J, N, e, r4, r5, by rw [r7]; exact h4, by omega, by omega⟩ r8.2
theorem top_tick (hI : Inv c n0 M μ) (hc : c < 600) : TopR c (Fh_tick n0 M) (Mo_tick μ) := by
  obtain ⟨n, S, k, w, M1, B, μ1, h1, ⟨h2, h3, h4, h5, h6⟩, h7, ⟨g1, g2, g3⟩, ⟨f1, f2, f3⟩, hw, hyes, hno1, hno2⟩ := top_keep hI hc
  obtain ⟨qv, pv, wv, cc, wb, dc, sd, kd, x, -, -, -, ⟨d1, d2, d3, d4⟩, -⟩ := g3
  obtain ⟨σ, bn, A, dep, J, N, e, w1, w2, w3, w4, w5⟩ := hw
  have ed : dc = ((dc.toNat : Nat) : Int) := by omega
  rw [ed] at d1 d2
  obtain ⟨δ', B', A', r1, r2, r4, r5, r7, r8, r9, r10⟩ := tick_on w1 w2 g1 (v := dc.toNat) (by omega) d2
  rw [g2] at r2
  have hnl : nlv A' ≤ 192 := fb_ct_le _ _
  obtain ⟨n0', M3, k1, k2⟩ := hyes (nlv A' : Int) δ' μ1 B' ⟨by omega, by omega⟩ (by omega) (SC_refl μ1) ⟨σ, bn, A', dep, J, N, e, r4, r5, by rw [r7]; exact h4, by omega, by omega⟩ r10
  refine ⟨zI (nlv A' : Int), n0', M3, bst μ1 0 B', ?_, ?_, k2⟩
  · rw [Fh_tick, h1, bd_some, h2, gref_z (by omega), gref_z (by omega), h4, gref_z (by omega), d1, r1, lft_some, bd_some, setS_ne _ _ (by omega), h2, gref_z (by omega), setS_at, r9]
    exact k1
  · rw [Mo_tick, bnd_ap, h7, bd_some, r2, bd_some, m_many g1 r4.1 r4.2.2.1, bp_some]
theorem top_tidy (hI : Inv c n0 M μ) (hc : c < 600) (a1 : Int32) : TopR c (Fh_tidy n0 M a1) (Mo_tidy μ a1) := by
  obtain ⟨n, S, k, w, M1, B, μ1, h1, ⟨h2, h3, h4, h5, h6⟩, h7, ⟨g1, g2, g3⟩, ⟨f1, f2, f3⟩, hw, hyes, hno1, hno2⟩ := top_keep hI hc
  obtain ⟨qv, pv, wv, cc, wb, kd, x, t1, t2, t3, t4⟩ := TX_SB g3
  obtain ⟨qv', pv', wv', cc', wb', kd', x', s1, s2, s3, s4⟩ := TX_SB f3
  obtain ⟨σ, bn, A, dep, J, N, e, w1, w2, w3, w4, w5⟩ := hw
  obtain ⟨hK, hm, hn, -⟩ := t1 _ h4
  obtain ⟨x1, i1, rfl⟩ := zI_ex a1
  have hcl : Fh_tidy n0 M (zI x1) = bd (lft M1 w (Wo_joinAll M1 (M1 w) (zI x1))) fun r d => Fh_keep n0 d r := by
    rw [Fh_tidy, h1, bd_some, h2, gref_z (by omega)]
  have hmo : Mo_tidy μ (zI x1) = if decide (0 ≤ x1 ∧ x1 < (n : Int)) = true then (bd (Mo_tidies μ1 (zI x1)) fun r d => some (r, d)) else some ((-1 : Int32), wr μ 34 2 (0 : Int32)) := by
    rw [Mo_tidy, bnd_ap, m_isSpace s3 s4 i1, bp_some, bI_if, h7, bd_some]
  rw [hcl, hmo]
  by_cases z : 0 ≤ x1 ∧ x1 < (n : Int)
  · rw [if_pos (decide_eq_true z)]
    have kk := tidy_on (M := M1) w1 w2 (by omega) g1 hK hm hn (s := x1.toNat) (by omega)
    rw [show ((x1.toNat : Nat) : Int) = x1 by omega, g2] at kk
    exact fin_wo hyes h4 w4 w5 kk
  · refine fin_bad hno1 hno2 ?_ (if_neg (by rw [decide_eq_true_eq]; exact z))
    rw [Wo_joinAll, c_isSpace hK hn i1, bp_some, bI_if, if_neg (by rw [decide_eq_true_eq]; exact z)]; rfl
theorem top_run (hI : Inv c n0 M μ) (hc : c < 600) (a1 : Int32) : TopR c (Fh_run n0 M a1) (Mo_run μ a1) := by
  obtain ⟨n, S, k, w, M1, B, μ1, h1, ⟨h2, h3, h4, h5, h6⟩, h7, ⟨g1, g2, g3⟩, ⟨f1, f2, f3⟩, hw, hyes, hno1, hno2⟩ := top_keep hI hc
  obtain ⟨qv, pv, wv, cc, wb, kd, x, t1, t2, t3, t4⟩ := TX_SB g3
  obtain ⟨σ, bn, A, dep, J, N, e, w1, w2, w3, w4, w5⟩ := hw
  obtain ⟨x1, ⟨i1, i2⟩, rfl⟩ := zI_ex a1
  have hmo : Mo_run μ (zI x1) = if decide (0 ≤ x1 ∧ x1 ≤ 24) = true then Mo_run_23 FU (zI x1) (zI 0) μ1 else some ((-1 : Int32), wr μ 34 2 (0 : Int32)) := by
    have t := m_isIn (x := x1) (lo := 0) (hi := 24) ⟨i1, i2⟩ ⟨by omega, by omega⟩ ⟨by omega, by omega⟩
    rw [Mo_run, bnd_ap, show (0 : Int32) = zI 0 from rfl, show (24 : Int32) = zI 24 from rfl, t, bp_some]
    rw [show zI 0 = (0 : Int32) from rfl, bI_if, h7, bd_some, bnd_ap]
  by_cases z : 0 ≤ x1 ∧ x1 ≤ 24
  · obtain ⟨v, e', δ', σ', bn', μ', B', A', dep', J', N', p1, p2, p3, p4, p5, p6, p7, p8, p9, p10⟩ := run_loop (b := 0) n0 (w := w) (k := k) (by omega) (by omega) (by omega) (by omega) (v1 := x1) z.2 24 M1 μ1 σ bn B A dep J N 0 e FU FU (by omega) (FU_gt (by omega)) (FU_gt (by omega)) (by omega) (by omega) z.1 h2 h4 t2 (t1 _ h4) g1 w1 w2 (by omega) (by omega)
    rw [g2] at p2
    obtain ⟨n0', M3, k1, k2⟩ := hyes v δ' μ' B' ⟨by omega, by omega⟩ (by omega) p6 ⟨σ', bn', A', dep', J', N', e', p4, p5, by rw [p7]; exact h4, by omega, by omega⟩ p10
    refine ⟨zI v, n0', M3, bst μ' 0 B', ?_, ?_, k2⟩
    · rw [Fh_run, if_neg (by rw [zI_lit, zI_lt (by omega) (by omega) (by omega) (by omega)]; omega), if_pos (by rw [zI_lit, zI_le (by omega) (by omega) (by omega) (by omega)]; omega), h1, bd_some, bnd_ap]
      exact p1.trans k1
    · rw [hmo, if_pos (decide_eq_true z)]; exact p2
  · refine ⟨zI (-1), n0, M, wr μ 34 2 (0 : Int32), ?_, ?_, inv_wr hI 0⟩
    · by_cases y : x1 < 0
      · rw [Fh_run, if_pos (by rw [zI_lit, zI_lt (by omega) (by omega) (by omega) (by omega)]; omega)]; rfl
      · rw [Fh_run, if_neg (by rw [zI_lit, zI_lt (by omega) (by omega) (by omega) (by omega)]; omega), if_neg (by rw [zI_lit, zI_le (by omega) (by omega) (by omega) (by omega)]; omega)]; rfl
    · rw [hmo, if_neg (by rw [decide_eq_true_eq]; exact z)]; rfl
end
