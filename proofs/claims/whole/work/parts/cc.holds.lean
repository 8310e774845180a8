/-! ===== holds ===== -/
/-- deed d has frame g with rights r -/
def hcB (A : Ab) (g : Nat) (r : Int) (d : Nat) : Bool := hasF A g d && decide (la (A.1 2 d) r = r)
section
variable {n S : Nat} {A : Ab} {dep : Nat → Nat} {δ : Sl} {σ : Nat → Nat} {bn : Nat} {μ : Sl} {b : Nat} {B : Nat → Int}
theorem c_hold_l (h : WF n S A dep) (hC : CRep δ σ bn A) {g : Nat} (hg : g < 32) {r : Int} (hr1 : 1 ≤ r) (hr2 : r ≤ 7) : ∀ (m i k : Nat) (w : Int32), i + m = bn → m < k → ∃ w', Qu_holders_5 δ k (zI (g : Int)) (zI r) w (zI (i : Int)) = some w' ∧ ∀ s : Nat, s < 32 → (w'.toBitVec.getLsbD s = true ↔ w.toBitVec.getLsbD s = true ∨ ∃ d, Lv A d ∧ i ≤ σ d ∧ d / 32 = s ∧ hcB A g r d = true) := by
  have hbn := hC.1.1
  have e16 := hC.1.2.1
  intro m
  induction m with
  | zero =>
    intro i k w hi hk
    obtain ⟨c, rfl⟩ : ∃ c, k = c + 1 := ⟨k - 1, by omega⟩
    refine ⟨w, by rw [Qu_holders_5, e16, if_pos (by rw [zI_le (by omega) (by omega) (by omega) (by omega)]; omega)], fun s hs => ⟨fun t => .inl t, fun t => ?_⟩⟩
    rcases t with t | ⟨d, d1, d2, -⟩
    · exact t
    · have := hC.1.2.2.1 d d1; omega
  | succ m ih =>
    intro i k w hi hk
    obtain ⟨c, rfl⟩ : ∃ c, k = c + 1 := ⟨k - 1, by omega⟩
    have hib : inb (zI (i : Int)) 192 := by rw [zI_inb (by omega) (by omega)]; omega
    rw [Qu_holders_5, e16, if_neg (by rw [zI_le (by omega) (by omega) (by omega) (by omega)]; omega), if_pos hib, zI_ixn (by omega)]
    have skip : (∀ d, Lv A d → σ d = i → hcB A g r d = false) → ∃ w', Qu_holders_62 (Qu_holders_5 δ c) δ (zI (g : Int)) (zI r) w (zI (i : Int)) = some w' ∧ ∀ s : Nat, s < 32 → (w'.toBitVec.getLsbD s = true ↔ w.toBitVec.getLsbD s = true ∨ ∃ d, Lv A d ∧ i ≤ σ d ∧ d / 32 = s ∧ hcB A g r d = true) := fun hno => by
      obtain ⟨w', t1, t2⟩ := ih (i + 1) c w (by omega) (by omega)
      refine ⟨w', by rw [Qu_holders_62, bnd_ap, zI_s1, t1], fun s hs => ?_⟩
      rw [t2 s hs]
      constructor
      · rintro (t | ⟨d, d1, d2, d3⟩)
        · exact .inl t
        · exact .inr ⟨d, d1, by omega, d3⟩
      · rintro (t | ⟨d, d1, d2, d3, d4⟩)
        · exact .inl t
        · by_cases z : σ d = i
          · rw [hno d d1 z] at d4; exact absurd d4 (by decide)
          · exact .inr ⟨d, d1, by omega, d3, d4⟩
    by_cases hu : δ 21 i < 0
    · rw [if_pos hu]
      refine skip (fun d d1 d2 => ?_)
      exfalso
      have e21 := (hC.2.2.1 d d1).2.2.2.1
      have := d1.2
      have := (h.2.2.2.1 d d1).1
      rw [d2] at e21
      rw [e21, zI_lit, zI_lt (by omega) (by omega) (by omega) (by omega)] at hu
      omega
    · obtain ⟨x, hx, he⟩ := hC.1.2.2.2.2 i (by omega) hu
      have uq : ∀ d, Lv A d → σ d = i → d = x := fun d d1 d2 => hC.1.2.2.2.1 d x d1 hx (by omega)
      obtain ⟨g1, g2, g3, g4, g5, -⟩ := hC.2.2.1 x hx
      obtain ⟨w5, hw1, hw2⟩ := c_framesIn h hC hx hg
      rw [he] at g1 g5 hw1
      have hx1 := hx.1
      have wr8 := (h.2.2.2.1 x hx).2.2.2.2.2.2.2
      obtain ⟨l1, l2, l3⟩ := zI_and7 (a := A.1 2 x) (c := r) wr8.1 wr8.2.1 (by omega) (by omega)
      rw [if_neg hu, if_pos hib, g5, l1, hw1, bp_some]
      by_cases z : la (A.1 2 x) r = r
      · rw [if_pos (by rw [z])]
        by_cases y : hasF A g x = true
        · rw [if_neg (fun t => by rw [hw2] at t; rw [t] at y; exact absurd y (by decide)), if_pos hib, g1, bnd_ap, Qu_holders_62, bnd_ap, zI_s1]
          obtain ⟨w', t1, t2⟩ := ih (i + 1) c (w ||| ((1 : Int32) <<< (zI ((x / 32 : Nat) : Int) &&& 31))) (by omega) (by omega)
          refine ⟨w', t1, fun s hs => ?_⟩
          rw [t2 s hs, bt_or hs (by omega)]
          have hcx : hcB A g r x = true := by unfold hcB; rw [y, Bool.true_and]; exact decide_eq_true z
          constructor
          · rintro (t | ⟨d, d1, d2, d3⟩)
            · rw [Bool.or_eq_true, decide_eq_true_eq] at t
              rcases t with t | t
              · exact .inl t
              · exact .inr ⟨x, hx, by omega, t.symm, hcx⟩
            · exact .inr ⟨d, d1, by omega, d3⟩
          · rintro (t | ⟨d, d1, d2, d3, d4⟩)
            · exact .inl (by rw [t, Bool.true_or])
            · by_cases zz : σ d = i
              · have := uq d d1 zz
                subst this
                exact .inl (by rw [decide_eq_true d3.symm, Bool.or_true])
              · exact .inr ⟨d, d1, by omega, d3, d4⟩
        · have y' : hasF A g x = false := by cases hh : hasF A g x with | true => exact absurd hh y | false => rfl
          rw [if_pos (hw2.mpr y')]
          exact skip (fun d d1 d2 => by rw [uq d d1 d2]; unfold hcB; rw [y', Bool.false_and])
      · rw [if_neg (by rw [zI_eq (by omega) (by omega) (by omega) (by omega)]; exact z)]
        exact skip (fun d d1 d2 => by rw [uq d d1 d2]; unfold hcB; rw [decide_eq_false z, Bool.and_false])
/-- place p of space s shows frame g with rights r -/
def hpB (A : Ab) (g : Nat) (r : Int) (q : Nat) : Prop := ∃ d, cov A q = some d ∧ fAt A q = (g : Int) ∧ la (A.1 2 d) r = r
theorem m_hold_42 (hb : MB μ b) (h : WF n S A dep) (hM : MRep B A) (hsz : μ 41 3 = zI (S : Int)) {s g : Nat} (hs : s < 6) (hg : g < 32) {r : Int} (hr1 : 1 ≤ r) (hr2 : r ≤ 7) (K : Int32 → Int32 → Int32 → Int32 → Sl → Option (Int32 × Sl)) : ∀ (m p k : Nat) (w : Int32), p + m = S → m < k → ∃ w', Mo_holds_42 K k (zI (g : Int)) (zI r) w (zI (s : Int)) (zI (p : Int)) (bst μ b B) = K (zI (g : Int)) (zI r) w' (zI ((s + 1 : Nat) : Int)) (bst μ b B) ∧ ∀ u : Nat, u < 32 → (w'.toBitVec.getLsbD u = true ↔ w.toBitVec.getLsbD u = true ∨ (u = s ∧ ∃ q, p ≤ q ∧ q < S ∧ hpB A g r (32 * s + q))) := by
  have hS := h.2.1
  have sz : Mo_size (bst μ b B) = some (zI (S : Int)) := by rw [Mo_size, if_pos (by decide), show ix (3 : Int32) = 3 from by decide, bst_ne _ _ _ (by omega), hsz]
  intro m
  induction m with
  | zero =>
    intro p k w hp hk
    obtain ⟨c, rfl⟩ : ∃ c, k = c + 1 := ⟨k - 1, by omega⟩
    refine ⟨w, by rw [Mo_holds_42, sz, bp_some, if_pos (by rw [zI_le (by omega) (by omega) (by omega) (by omega)]; omega), bnd_ap, zI_s1], fun u hu => ⟨fun t => .inl t, fun t => ?_⟩⟩
    rcases t with t | ⟨-, q, q1, q2, -⟩
    · exact t
    · omega
  | succ m ih =>
    intro p k w hp hk
    obtain ⟨c, rfl⟩ : ∃ c, k = c + 1 := ⟨k - 1, by omega⟩
    have hcv := m_cover hb (A := A) (B := B) (fun x hx => ⟨hM.1 x hx, h.2.2.2.2.2.2.2 x hx, by
      by_cases z : 0 < A.1 0 x
      · exact (h.2.2.2.1 x ⟨hx, z⟩).1
      · omega⟩) (s := (s : Int)) (p := (p : Int)) (by omega) (by omega) (by omega) (by omega)
    rw [show (32 * (s : Int) + (p : Int)).toNat = 32 * s + p by omega] at hcv
    have skip : ¬ hpB A g r (32 * s + p) → ∃ w', Mo_holds_101 K (Mo_holds_42 K c) (zI (g : Int)) (zI r) w (zI (s : Int)) (zI (p : Int)) (bst μ b B) = K (zI (g : Int)) (zI r) w' (zI ((s + 1 : Nat) : Int)) (bst μ b B) ∧ ∀ u : Nat, u < 32 → (w'.toBitVec.getLsbD u = true ↔ w.toBitVec.getLsbD u = true ∨ (u = s ∧ ∃ q, p ≤ q ∧ q < S ∧ hpB A g r (32 * s + q))) := fun hno => by
      obtain ⟨w', t1, t2⟩ := ih (p + 1) c w (by omega) (by omega)
      refine ⟨w', by rw [Mo_holds_101, bnd_ap, zI_s1, t1], fun u hu => ?_⟩
      rw [t2 u hu]
      constructor
      · rintro (t | ⟨t, q, q1, q2⟩)
        · exact .inl t
        · exact .inr ⟨t, q, by omega, q2⟩
      · rintro (t | ⟨t, q, q1, q2, q3⟩)
        · exact .inl t
        · by_cases z : q = p
          · rw [z] at q3; exact absurd q3 hno
          · exact .inr ⟨t, q, by omega, q2, q3⟩
    rw [Mo_holds_42, sz, bp_some, if_neg (by rw [zI_le (by omega) (by omega) (by omega) (by omega)]; omega), hcv, bp_some, bnd_ap]
    cases hc : cov A (32 * s + p) with
    | none =>
      rw [show cv none = -1 from rfl, if_pos zI_m1]
      exact skip (fun ⟨d, d1, _⟩ => by rw [hc] at d1; exact absurd d1 (by simp))
    | some d =>
      obtain ⟨c1, c2, c3⟩ := cs_some (by omega) hc
      have hd1 := c1.1
      obtain ⟨t1, t2, -⟩ := hM.2.1 d c1
      have w8 := (h.2.2.2.1 d c1).2.2.2.2.2.2.2
      obtain ⟨l1, l2, l3⟩ := zI_and7 (a := A.1 2 d) (c := r) w8.1 w8.2.1 (by omega) (by omega)
      have rg : -1 ≤ fAt A (32 * s + p) ∧ fAt A (32 * s + p) < 64 := by
        unfold fAt
        rw [hc]
        have w := h.2.2.2.1 d c1
        have w5 := w.2.2.2.2.1
        have w7 := w.2.2.2.2.2.2.1
        dsimp only; omega
      have e38 : Mo_of (bst μ b B) ((384 : Int32) + zI (d : Int)) = some (zI (A.1 2 d)) := by
        rw [show (384 : Int32) = zI 384 from rfl, zI_add, m_of hb B (by omega) (by omega), show (384 + (d : Int)).toNat = 384 + d by omega, t2]
      rw [show cv (some d) = (d : Int) from rfl, if_neg (zI_n0 (by omega)), m_frAt hb h hM hs (by omega), bp_some, e38, bp_some, l1]
      by_cases z : fAt A (32 * s + p) = (g : Int)
      · rw [if_pos (by rw [z])]
        by_cases y : la (A.1 2 d) r = r
        · rw [if_pos (by rw [y]), bnd_ap, Mo_holds_101, bnd_ap, zI_s1]
          obtain ⟨w', v1, v2⟩ := ih (p + 1) c (w ||| ((1 : Int32) <<< (zI (s : Int) &&& 31))) (by omega) (by omega)
          refine ⟨w', v1, fun u hu => ?_⟩
          rw [v2 u hu, bt_or hu (by omega)]
          constructor
          · rintro (t | ⟨t, q, q1, q2⟩)
            · rw [Bool.or_eq_true, decide_eq_true_eq] at t
              rcases t with t | t
              · exact .inl t
              · exact .inr ⟨t, p, Nat.le_refl _, by omega, d, hc, z, y⟩
            · exact .inr ⟨t, q, by omega, q2⟩
          · rintro (t | ⟨t, q, q1, q2, q3⟩)
            · exact .inl (by rw [t, Bool.true_or])
            · exact .inl (by rw [decide_eq_true t, Bool.or_true])
        · rw [if_neg (by rw [zI_eq (by omega) (by omega) (by omega) (by omega)]; exact y)]
          exact skip (fun ⟨d', d1, _, d3⟩ => by
            rw [hc] at d1
            have := Option.some.inj d1
            rw [← this] at d3; exact y d3)
      · rw [if_neg (by rw [zI_eq (by omega) (by omega) (by omega) (by omega)]; exact z)]
        exact skip (fun ⟨d', d1, d2, d3⟩ => z d2)
theorem m_hold_l (hb : MB μ b) (h : WF n S A dep) (hM : MRep B A) (hsz : μ 41 3 = zI (S : Int)) (hn : μ 34 11 = zI (n : Int)) {g : Nat} (hg : g < 32) {r : Int} (hr1 : 1 ≤ r) (hr2 : r ≤ 7) : ∀ (m s k : Nat) (w : Int32), s + m = n → m < k → ∃ w', Mo_holds_30 k (zI (g : Int)) (zI r) w (zI (s : Int)) (bst μ b B) = some (w', bst μ b B) ∧ ∀ u : Nat, u < 32 → (w'.toBitVec.getLsbD u = true ↔ w.toBitVec.getLsbD u = true ∨ (s ≤ u ∧ u < n ∧ ∃ q, q < S ∧ hpB A g r (32 * u + q))) := by
  have hn6 := h.1
  have hS := h.2.1
  have e11 : bst μ b B 34 11 = zI (n : Int) := by rw [bst_ne _ _ _ (by omega)]; exact hn
  intro m
  induction m with
  | zero =>
    intro s k w hs hk
    obtain ⟨c, rfl⟩ : ∃ c, k = c + 1 := ⟨k - 1, by omega⟩
    refine ⟨w, by rw [Mo_holds_30, e11, if_pos (by rw [zI_le (by omega) (by omega) (by omega) (by omega)]; omega)], fun u hu => ⟨fun t => .inl t, fun t => ?_⟩⟩
    rcases t with t | ⟨t1, t2, -⟩
    · exact t
    · omega
  | succ m ih =>
    intro s k w hs hk
    obtain ⟨c, rfl⟩ : ∃ c, k = c + 1 := ⟨k - 1, by omega⟩
    obtain ⟨w1, a1, a2⟩ := m_hold_42 hb h hM hsz (s := s) (by omega) hg hr1 hr2 (Mo_holds_30 c) S 0 FU w (by omega) (FU_gt (by omega))
    obtain ⟨w', b1, b2⟩ := ih (s + 1) c w1 (by omega) (by omega)
    have z0 : zI ((0 : Nat) : Int) = (0 : Int32) := rfl
    rw [z0] at a1
    refine ⟨w', by rw [Mo_holds_30, e11, if_neg (by rw [zI_le (by omega) (by omega) (by omega) (by omega)]; omega), bnd_ap, a1, b1], fun u hu => ?_⟩
    rw [b2 u hu, a2 u hu]
    constructor
    · rintro ((t | ⟨t, q, q1, q2, q3⟩) | ⟨t1, t2, t3⟩)
      · exact .inl t
      · subst t; exact .inr ⟨by omega, by omega, q, q2, q3⟩
      · exact .inr ⟨by omega, t2, t3⟩
    · rintro (t | ⟨t1, t2, q, q1, q2⟩)
      · exact .inl (.inl t)
      · by_cases z : u = s
        · subst z; exact .inl (.inr ⟨rfl, q, by omega, q1, q2⟩)
        · exact .inr ⟨by omega, t2, q, q1, q2⟩
theorem hold_eq (h : WF n S A dep) {g : Nat} {r : Int} (u : Nat) : (∃ d, Lv A d ∧ d / 32 = u ∧ hcB A g r d = true) ↔ (u < n ∧ ∃ q, q < S ∧ hpB A g r (32 * u + q)) := by
  have hS := h.2.1
  have hn := h.1
  have hWS := WF_WS h
  constructor
  · rintro ⟨d, d1, d2, d3⟩
    unfold hcB at d3
    rw [Bool.and_eq_true, decide_eq_true_eq] at d3
    have e := of_decide_eq_true d3.1
    have w := h.2.2.2.1 d d1
    have w3 := w.2.2.1
    have w4 := w.2.2.2.1
    have hd1 := d1.1
    have hc := cs_of hWS d1 (q := d + ((g : Int) - A.1 1 d).toNat) (by omega) (by omega)
    have eq : 32 * u + (d % 32 + ((g : Int) - A.1 1 d).toNat) = d + ((g : Int) - A.1 1 d).toNat := by omega
    refine ⟨by omega, d % 32 + ((g : Int) - A.1 1 d).toNat, by omega, d, ?_, ?_, d3.2⟩
    · rw [eq]; exact hc
    · rw [eq]; unfold fAt; rw [hc]; dsimp only; omega
  · rintro ⟨t1, q, q1, d, d1, d2, d3⟩
    obtain ⟨c1, c2, c3⟩ := cs_some (by omega) d1
    have w4 := (h.2.2.2.1 d c1).2.2.2.1
    unfold fAt at d2
    rw [d1] at d2
    dsimp only at d2
    refine ⟨d, c1, by omega, ?_⟩
    unfold hcB hasF
    rw [Bool.and_eq_true]
    exact ⟨decide_eq_true ⟨by omega, by omega⟩, decide_eq_true d3⟩
end
theorem top_holds {c n0 : Nat} {M : Mem} {μ : Sl} (hI : Inv c n0 M μ) (a1 a2 : Int32) : TopQ c n0 M (Fh_holds M a1 a2) (Mo_holds μ a1 a2) := by
  obtain ⟨n, S, k, w, t, B, σ, bn, A, dep, J, N, e, qv, pv, wv, ⟨a, a2', a3, a4, a5⟩, -, ⟨⟨hW, hC, hM, -, -, hJ, hJC, hJM, -, -⟩, hX⟩, hSB, ⟨f1, f2⟩, ⟨hN, -⟩, hT, hq, -⟩ := top_q hI
  obtain ⟨x1, i1, rfl⟩ := zI_ex a1
  obtain ⟨x2, i2, rfl⟩ := zI_ex a2
  have iw := inv_wr hI (0 : Int32)
  have hn6 := hSB.2.2.1.1
  have hS := hSB.2.2.1.2.1
  have hbn := hC.1.1
  have cl : Fh_holds M (zI x1) (zI x2) = if decide (0 ≤ x1 ∧ x1 < (S : Int)) = true then (if decide (1 ≤ x2 ∧ x2 ≤ 7) = true then (bp (Qu_holders (M w) (zI x1) (zI x2)) fun r => some r) else some (-1 : Int32)) else some (-1 : Int32) := by
    rw [Fh_holds, a, gref_z (by omega), c_isFrame hSB.1 hSB.2.2.1 i1, bp_some, bI_if, c_rights i2, bp_some, bI_if, gref_z (by omega)]
  have mo : Mo_holds μ (zI x1) (zI x2) = if decide (0 ≤ x1 ∧ x1 < (S : Int)) = true then (if decide (1 ≤ x2 ∧ x2 ≤ 7) = true then (Mo_holds_30 FU (zI x1) (zI x2) (0 : Int32) (0 : Int32) (wr μ 34 2 (0 : Int32))) else some ((-1 : Int32), wr μ 34 2 (0 : Int32))) else some ((-1 : Int32), wr μ 34 2 (0 : Int32)) := by
    rw [Mo_holds, bnd_ap, m_isPlace hSB.2.1 hSB.2.2.1 i1, bp_some, bI_if, m_rights, c_rights i2, bp_some, bI_if, bnd_ap, bnd_ap]
  rw [cl, mo]
  by_cases z1 : 0 ≤ x1 ∧ x1 < (S : Int)
  · rw [if_pos (decide_eq_true z1), if_pos (decide_eq_true z1)]
    by_cases z2 : 1 ≤ x2 ∧ x2 ≤ 7
    · rw [if_pos (decide_eq_true z2), if_pos (decide_eq_true z2)]
      obtain ⟨g, rfl⟩ : ∃ g : Nat, x1 = (g : Int) := ⟨x1.toNat, by omega⟩
      obtain ⟨w1, t1, t2⟩ := c_hold_l hW hC (g := g) (by omega) z2.1 z2.2 bn 0 FU (0 : Int32) (by omega) (FU_gt (by omega))
      obtain ⟨w2, u1, u2⟩ := m_hold_l f1 hW hM hSB.2.1.2.1 hSB.2.1.1 (g := g) (by omega) z2.1 z2.2 n 0 FU (0 : Int32) (by omega) (FU_gt (by omega))
      have z0 : zI ((0 : Nat) : Int) = (0 : Int32) := rfl
      rw [z0] at t1
      rw [z0, f2] at u1
      have ew : w1 = w2 := by
        apply Int32.toBitVec_inj.mp
        apply BitVec.eq_of_getLsbD_eq
        intro s hs
        have q1 := t2 s hs
        have q2 := u2 s hs
        have q3 := hold_eq hW (g := g) (r := x2) s
        have q4 : w1.toBitVec.getLsbD s = true ↔ w2.toBitVec.getLsbD s = true := by
          rw [q1, q2]
          constructor
          · rintro (v | ⟨d, d1, -, d2⟩)
            · exact .inl v
            · have := q3.mp ⟨d, d1, d2⟩
              exact .inr ⟨by omega, this⟩
          · rintro (v | ⟨-, v⟩)
            · exact .inl v
            · obtain ⟨d, d1, d2⟩ := q3.mpr v
              exact .inr ⟨d, d1, by omega, d2⟩
        cases h1 : w1.toBitVec.getLsbD s with
        | true => exact (q4.mp h1).symm
        | false =>
          cases h2 : w2.toBitVec.getLsbD s with
          | true => rw [q4.mpr h2] at h1; exact h1.symm
          | false => rfl
      exact ⟨w1, _, by rw [Qu_holders, bnd_ap, bnd_ap, t1, bp_some], by rw [u1, ew], iw⟩
    · rw [if_neg (by rw [decide_eq_true_eq]; exact z2), if_neg (by rw [decide_eq_true_eq]; exact z2)]
      exact ⟨_, _, rfl, rfl, iw⟩
  · rw [if_neg (by rw [decide_eq_true_eq]; exact z1), if_neg (by rw [decide_eq_true_eq]; exact z1)]
    exact ⟨_, _, rfl, rfl, iw⟩
