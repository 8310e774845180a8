/-! ===== shared ===== -/
theorem fb_ct_sp (P : Nat → Bool) (m n : Nat) : fb_ct P (m + n) = fb_ct P m + fb_ct (fun k => P (m + k)) n := by
  rw [← ct_sm, fb_sm_split, ct_sm, ct_sm]
theorem cnt8 (a n : Nat) : fb_ct (fun i => Nat.testBit a i) (8 + n) = pb (a % 256) + fb_ct (fun i => Nat.testBit (a / 256) i) n := by
  rw [fb_ct_sp]
  have t := (gb_f ⟨a % 256, by omega⟩).2.2.2.2.2
  dsimp only at t
  rw [← t]
  congr 1
  · exact fb_ct_cong (fun k hk => by rw [show 256 = 2 ^ 8 from rfl, Nat.testBit_mod_two_pow, decide_eq_true hk, Bool.true_and])
  · exact fb_ct_cong (fun k hk => by rw [show 256 = 2 ^ 8 from rfl, Nat.testBit_div_two_pow, Nat.add_comm])
theorem bitc_ct (w : Int32) : Jk_bitCount_0f7a4 w = some (zI (fb_ct (fun i => w.toBitVec.getLsbD i) 32 : Int)) := by
  have ha : w.toBitVec.toNat < 4294967296 := w.toBitVec.isLt
  have e : w = zI (w.toBitVec.toNat : Int) := by
    rw [← zI_nI]
    apply Int32.toBitVec_inj.mp
    apply BitVec.eq_of_toNat_eq
    show w.toBitVec.toNat = (BitVec.ofNat 32 w.toBitVec.toNat).toNat
    rw [BitVec.toNat_ofNat, Nat.mod_eq_of_lt (by omega)]
  have c : fb_ct (fun i => w.toBitVec.getLsbD i) 32 = fb_ct (fun i => Nat.testBit w.toBitVec.toNat i) 32 := fb_ct_cong (fun k _ => by rw [BitVec.testBit_toNat])
  rw [c]
  generalize w.toBitVec.toNat = a at *
  have t := bitc_on (a := a) (b0 := a % 256) (b1 := a / 256 % 256) (b2 := a / 256 / 256 % 256) (b3 := a / 256 / 256 / 256) (by omega) (by omega) (by omega) (by omega) (by omega)
  have q : fb_ct (fun i => Nat.testBit a i) 32 = pb (a % 256) + pb (a / 256 % 256) + pb (a / 256 / 256 % 256) + pb (a / 256 / 256 / 256) := by
    have f3 : fb_ct (fun i => Nat.testBit (a / 256 / 256 / 256) i) 8 = pb (a / 256 / 256 / 256) := (gb_f ⟨a / 256 / 256 / 256, by omega⟩).2.2.2.2.2
    rw [show 32 = 8 + (8 + (8 + 8)) from rfl, cnt8, cnt8, cnt8, f3]
    omega
  rw [e, t, q]
section
variable {n S : Nat} {A : Ab} {dep : Nat → Nat} {δ : Sl} {σ : Nat → Nat} {bn : Nat} {μ : Sl} {b : Nat} {B : Nat → Int}
/-- frame f is shown in space s -/
def shF (A : Ab) (s f S : Nat) : Bool := decide (0 < fb_ct (fun p => decide (fAt A (32 * s + p) = (f : Int))) S)
theorem fb_ctpos {P : Nat → Bool} : ∀ {n : Nat}, 0 < fb_ct P n ↔ ∃ k, k < n ∧ P k = true
  | 0 => ⟨fun h => absurd h (Nat.lt_irrefl 0), fun ⟨k, hk, _⟩ => absurd hk (Nat.not_lt_zero k)⟩
  | n + 1 => by
    rw [fb_ct_succ]
    constructor
    · intro h
      by_cases z : P n = true
      · exact ⟨n, by omega, z⟩
      · rw [if_neg z, Nat.add_zero] at h
        obtain ⟨k, k1, k2⟩ := (fb_ctpos (n := n)).mp h
        exact ⟨k, by omega, k2⟩
    · rintro ⟨k, k1, k2⟩
      by_cases z : k = n
      · rw [z] at k2; rw [if_pos k2]; omega
      · have := (fb_ctpos (n := n)).mpr ⟨k, by omega, k2⟩
        omega
theorem fAt_S (h : WF n S A dep) {s p : Nat} {f : Nat} (hs : s < 6) (hp : p < 32) (e : fAt A (32 * s + p) = (f : Int)) : p < S ∧ f < S := by
  unfold fAt at e
  cases hc : cov A (32 * s + p) with
  | none => rw [hc] at e; dsimp only at e; omega
  | some d =>
    rw [hc] at e
    dsimp only at e
    obtain ⟨c1, c2, c3⟩ := cs_some (by omega) hc
    have w := h.2.2.2.1 d c1
    have w4 := w.2.2.2.1
    have w5 := w.2.2.2.2.1
    have w7 := w.2.2.2.2.2.2.1
    have hS := h.2.1
    omega
theorem m_sh_l (hb : MB μ b) (h : WF n S A dep) (hM : MRep B A) (hsz : μ 41 3 = zI (S : Int)) {s1 s2 : Nat} (h1 : s1 < 6) (h2 : s2 < 6) : ∀ (m j k a : Nat), j + m = S → m < k → Mo_shared_28 k (zI (s1 : Int)) (zI (s2 : Int)) (zI (a : Int)) (zI (j : Int)) (bst μ b B) = some (zI ((a + fb_ct (fun p => shF A s1 (j + p) S && shF A s2 (j + p) S) m : Nat) : Int), bst μ b B) := by
  have hS := h.2.1
  have sz : Mo_size (bst μ b B) = some (zI (S : Int)) := by rw [Mo_size, if_pos (by decide), show ix (3 : Int32) = 3 from by decide, bst_ne _ _ _ (by omega), hsz]
  have add0 : ∀ a : Nat, zI (a : Int) + (0 : Int32) = zI (a : Int) := fun a => by rw [show (0 : Int32) = zI 0 from rfl, zI_add, Int.add_zero]
  intro m
  induction m with
  | zero =>
    intro j k a hj hk
    obtain ⟨c, rfl⟩ : ∃ c, k = c + 1 := ⟨k - 1, by omega⟩
    rw [Mo_shared_28, sz, bp_some, if_pos (by rw [zI_le (by omega) (by omega) (by omega) (by omega)]; omega)]; rfl
  | succ m ih =>
    intro j k a hj hk
    obtain ⟨c, rfl⟩ : ∃ c, k = c + 1 := ⟨k - 1, by omega⟩
    have sp : fb_ct (fun p => shF A s1 (j + p) S && shF A s2 (j + p) S) (m + 1) = (if (shF A s1 j S && shF A s2 j S) = true then 1 else 0) + fb_ct (fun p => shF A s1 (j + 1 + p) S && shF A s2 (j + 1 + p) S) m := by
      have e := fb_ct_sp (fun p => shF A s1 (j + p) S && shF A s2 (j + p) S) 1 m
      rw [show 1 + m = m + 1 by omega] at e
      rw [e]
      congr 1
      · show 0 + (if (shF A s1 (j + 0) S && shF A s2 (j + 0) S) = true then 1 else 0) = _
        rw [Nat.zero_add, Nat.add_zero]
      · exact fb_ct_cong (fun k _ => by rw [Nat.add_assoc])
    have c1 : fb_ct (fun p => decide (fAt A (32 * s1 + p) = (j : Int))) S ≤ S := fb_ct_le _ _
    have c2 : fb_ct (fun p => decide (fAt A (32 * s2 + p) = (j : Int))) S ≤ S := fb_ct_le _ _
    rw [Mo_shared_28, sz, bp_some, if_neg (by rw [zI_le (by omega) (by omega) (by omega) (by omega)]; omega), m_alA hb h hM hsz h1 (by omega), bp_some, m_alA hb h hM hsz h2 (by omega), bp_some, sp]
    by_cases z1 : 0 < fb_ct (fun p => decide (fAt A (32 * s1 + p) = (j : Int))) S
    · rw [if_neg (by rw [zI_lit, zI_le (by omega) (by omega) (by omega) (by omega)]; omega)]
      by_cases z2 : 0 < fb_ct (fun p => decide (fAt A (32 * s2 + p) = (j : Int))) S
      · rw [if_neg (by rw [zI_lit, zI_le (by omega) (by omega) (by omega) (by omega)]; omega), Mo_shared_63, bnd_ap, bnd_ap, zI_s1, zI_s1, ih (j + 1) c _ (by omega) (by omega), if_pos (by unfold shF; rw [decide_eq_true z1, decide_eq_true z2]; rfl), Nat.add_assoc]
      · rw [if_pos (by rw [zI_lit, zI_le (by omega) (by omega) (by omega) (by omega)]; omega), Mo_shared_62, Mo_shared_63, bnd_ap, bnd_ap, zI_s1, add0, ih (j + 1) c a (by omega) (by omega), if_neg (by unfold shF; rw [decide_eq_false z2, Bool.and_false]; decide), Nat.zero_add]
    · rw [if_pos (by rw [zI_lit, zI_le (by omega) (by omega) (by omega) (by omega)]; omega), Mo_shared_62, Mo_shared_63, bnd_ap, bnd_ap, zI_s1, add0, ih (j + 1) c a (by omega) (by omega), if_neg (by unfold shF; rw [decide_eq_false z1, Bool.false_and]; decide), Nat.zero_add]
theorem sh_bit (h : WF n S A dep) {s : Nat} (hs : s < 6) {w : Int32} (hw : ∀ f : Nat, f < 32 → (w.toBitVec.getLsbD f = true ↔ ∃ j, j < 32 ∧ fAt A (32 * s + j) = (f : Int))) {f : Nat} (hf : f < 32) : w.toBitVec.getLsbD f = shF A s f S := by
  have hS := h.2.1
  have e : w.toBitVec.getLsbD f = true ↔ shF A s f S = true := by
    rw [hw f hf]
    unfold shF
    rw [decide_eq_true_eq, fb_ctpos]
    constructor
    · rintro ⟨j, j1, j2⟩; exact ⟨j, (fAt_S h hs j1 j2).1, decide_eq_true j2⟩
    · rintro ⟨j, j1, j2⟩; exact ⟨j, by omega, of_decide_eq_true j2⟩
  cases h1 : w.toBitVec.getLsbD f with
  | true => exact (e.mp h1).symm
  | false =>
    cases h2 : shF A s f S with
    | true => rw [e.mpr h2] at h1; exact h1.symm
    | false => rfl
end
theorem top_shared {c n0 : Nat} {M : Mem} {μ : Sl} (hI : Inv c n0 M μ) (a1 a2 : Int32) : TopQ c n0 M (Fh_shared M a1 a2) (Mo_shared μ a1 a2) := by
  obtain ⟨n, S, k, w, t, B, σ, bn, A, dep, J, N, e, qv, pv, wv, ⟨a, a2', a3, a4, a5⟩, -, ⟨⟨hW, hC, hM, -, -, hJ, hJC, hJM, -, -⟩, hX⟩, hSB, ⟨f1, f2⟩, ⟨hN, -⟩, hT, hq, -⟩ := top_q hI
  obtain ⟨x1, i1, rfl⟩ := zI_ex a1
  obtain ⟨x2, i2, rfl⟩ := zI_ex a2
  have iw := inv_wr hI (0 : Int32)
  have hn6 := hSB.2.2.1.1
  have hS := hW.2.1
  have cl : Fh_shared M (zI x1) (zI x2) = if decide (0 ≤ x1 ∧ x1 < (n : Int)) = true then (if decide (0 ≤ x2 ∧ x2 < (n : Int)) = true then (bp (Qu_framesOf (M w) (zI x1)) fun r6 => bp (Qu_framesOf (M w) (zI x2)) fun r8 => bp (Jk_bitCount_0f7a4 (r6 &&& r8)) fun r9 => some r9) else some (-1 : Int32)) else some (-1 : Int32) := by
    rw [Fh_shared, a, gref_z (by omega), c_isSpace hSB.1 hSB.2.2.1 i1, bp_some, bI_if, gref_z (by omega), c_isSpace hSB.1 hSB.2.2.1 i2, bp_some, bI_if, gref_z (by omega)]
    simp only [gref_z (show w < 2147483648 by omega)]
  have mo : Mo_shared μ (zI x1) (zI x2) = if decide (0 ≤ x1 ∧ x1 < (n : Int)) = true then (if decide (0 ≤ x2 ∧ x2 < (n : Int)) = true then (Mo_shared_28 FU (zI x1) (zI x2) (0 : Int32) (0 : Int32) (wr μ 34 2 (0 : Int32))) else some ((-1 : Int32), wr μ 34 2 (0 : Int32))) else some ((-1 : Int32), wr μ 34 2 (0 : Int32)) := by
    rw [Mo_shared, bnd_ap, m_isSpace hSB.2.1 hSB.2.2.1 i1, bp_some, bI_if, m_isSpace hSB.2.1 hSB.2.2.1 i2, bp_some, bI_if, bnd_ap, bnd_ap]
  rw [cl, mo]
  by_cases z1 : 0 ≤ x1 ∧ x1 < (n : Int)
  · rw [if_pos (decide_eq_true z1), if_pos (decide_eq_true z1)]
    by_cases z2 : 0 ≤ x2 ∧ x2 < (n : Int)
    · rw [if_pos (decide_eq_true z2), if_pos (decide_eq_true z2)]
      obtain ⟨s1, rfl⟩ : ∃ s1 : Nat, x1 = (s1 : Int) := ⟨x1.toNat, by omega⟩
      obtain ⟨s2, rfl⟩ : ∃ s2 : Nat, x2 = (s2 : Int) := ⟨x2.toNat, by omega⟩
      obtain ⟨w1, t1, t2⟩ := c_frames hW hC (s := s1) (by omega)
      obtain ⟨w2, u1, u2⟩ := c_frames hW hC (s := s2) (by omega)
      have t3 := m_sh_l f1 hW hM hSB.2.1.2.1 (s1 := s1) (s2 := s2) (by omega) (by omega) S 0 FU 0 (by omega) (FU_gt (by omega))
      have z0 : zI ((0 : Nat) : Int) = (0 : Int32) := rfl
      rw [z0, f2] at t3
      simp only [Nat.zero_add] at t3
      have ec : fb_ct (fun i => (w1 &&& w2).toBitVec.getLsbD i) 32 = fb_ct (fun p => shF A s1 p S && shF A s2 p S) S := by
        have e1 : fb_ct (fun i => (w1 &&& w2).toBitVec.getLsbD i) 32 = fb_ct (fun p => shF A s1 p S && shF A s2 p S) 32 := fb_ct_cong (fun k hk => by
          rw [Int32.toBitVec_and, BitVec.getLsbD_and, sh_bit hW (by omega) t2 hk, sh_bit hW (by omega) u2 hk])
        have e2 := fb_ct_sp (fun p => shF A s1 p S && shF A s2 p S) S (32 - S)
        rw [show S + (32 - S) = 32 by omega] at e2
        have e3 : fb_ct (fun k => shF A s1 (S + k) S && shF A s2 (S + k) S) (32 - S) = 0 := by
          rw [fb_ct_cong (q := fun _ => false) (fun k hk => ?_)]
          · exact fb_ct_f _
          · have : shF A s1 (S + k) S = false := by
              unfold shF
              rw [decide_eq_false]
              rw [fb_ctpos]
              rintro ⟨p, p1, p2⟩
              have := (fAt_S hW (s := s1) (p := p) (f := S + k) (by omega) (by omega) (of_decide_eq_true p2)).2
              omega
            rw [this, Bool.false_and]
        omega
      refine ⟨_, _, ?_, t3, iw⟩
      rw [t1, bp_some, u1, bp_some, bitc_ct, bp_some, ec]
    · rw [if_neg (by rw [decide_eq_true_eq]; exact z2), if_neg (by rw [decide_eq_true_eq]; exact z2)]
      exact ⟨_, _, rfl, rfl, iw⟩
  · rw [if_neg (by rw [decide_eq_true_eq]; exact z1), if_neg (by rw [decide_eq_true_eq]; exact z1)]
    exact ⟨_, _, rfl, rfl, iw⟩
