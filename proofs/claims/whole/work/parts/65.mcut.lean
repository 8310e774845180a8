/-! ===== the reference: the deed that has a place, cutting ===== -/
def cv (o : Option Nat) : Int := match o with
  | some d => (d : Int)
  | none => -1
theorem sh0 : zI 1 <<< (zI 0 &&& zI 31) = zI 1 := by decide +kernel
theorem sh1 : zI 1 <<< (zI 1 &&& zI 31) = zI 2 := by decide +kernel
theorem sh2 : zI 1 <<< (zI 2 &&& zI 31) = zI 4 := by decide +kernel
theorem sh3 : zI 1 <<< (zI 3 &&& zI 31) = zI 8 := by decide +kernel
theorem m_cover {μ : Sl} {b : Nat} (hb : MB μ b) {B : Nat → Int} {A : Ab} (hB : ∀ x, x < 192 → B x = A.1 0 x ∧ 0 ≤ A.1 0 x ∧ A.1 0 x ≤ 4) {s p : Int} (h1 : 0 ≤ s) (h2 : s < 6) (h3 : 0 ≤ p) (h4 : p < 32) :
    Mo_cover (bst μ b B) (zI s) (zI p) = some (zI (cv (cov A (32 * s + p).toNat))) := by
  have hq : (32 * s + p).toNat < 192 := by omega
  have e0 := hB (32 * s + p).toNat hq
  have e1 := hB ((32 * s + p).toNat - (32 * s + p).toNat % 2) (by omega)
  have e2 := hB ((32 * s + p).toNat - (32 * s + p).toNat % 4) (by omega)
  have e3 := hB ((32 * s + p).toNat - (32 * s + p).toNat % 8) (by omega)
  have z1 : zI 0 + zI 1 = zI 1 := rfl
  have z2 : zI 1 + zI 1 = zI 2 := rfl
  have z3 : zI 2 + zI 1 = zI 3 := rfl
  have z4 : zI 3 + zI 1 = zI 4 := rfl
  have i0 : (0 + (32 * s + p - (p - p / 1 * 1))).toNat = (32 * s + p).toNat := by omega
  have i1 : (0 + (32 * s + p - (p - p / 2 * 2))).toNat = (32 * s + p).toNat - (32 * s + p).toNat % 2 := by omega
  have i2 : (0 + (32 * s + p - (p - p / 4 * 4))).toNat = (32 * s + p).toNat - (32 * s + p).toNat % 4 := by omega
  have i3 : (0 + (32 * s + p - (p - p / 8 * 8))).toNat = (32 * s + p).toNat - (32 * s + p).toNat % 8 := by omega
  have r0 : Mo_of (bst μ b B) (zI (0 + (32 * s + p - (p - p / 1 * 1)))) = some (zI (A.1 0 (32 * s + p).toNat)) := by rw [m_of hb B (by omega) (by omega), i0, e0.1]
  have r1 : Mo_of (bst μ b B) (zI (0 + (32 * s + p - (p - p / 2 * 2)))) = some (zI (A.1 0 ((32 * s + p).toNat - (32 * s + p).toNat % 2))) := by rw [m_of hb B (by omega) (by omega), i1, e1.1]
  have r2 : Mo_of (bst μ b B) (zI (0 + (32 * s + p - (p - p / 4 * 4)))) = some (zI (A.1 0 ((32 * s + p).toNat - (32 * s + p).toNat % 4))) := by rw [m_of hb B (by omega) (by omega), i2, e2.1]
  have r3 : Mo_of (bst μ b B) (zI (0 + (32 * s + p - (p - p / 8 * 8)))) = some (zI (A.1 0 ((32 * s + p).toNat - (32 * s + p).toNat % 8))) := by rw [m_of hb B (by omega) (by omega), i3, e3.1]
  unfold Mo_cover
  show Mo_cover_2 (bst μ b B) (999995 + 1 + 1 + 1 + 1 + 1) (zI s) (zI p) (0 : Int32) = _
  unfold cov
  rw [Mo_cover_2]
  simp (disch := omega) only [zI_lit, zI_le, if_neg, sh0, zI_eq, if_pos, bnd_ap, zI_mul, zI_add, zI_div, zI_sub, r0, bp_some]
  by_cases q0 : A.1 0 (32 * s + p).toNat = 1
  · rw [if_pos (by omega), if_pos q0]
    show _ = some (zI ((32 * s + p).toNat : Int))
    congr 2; omega
  · rw [if_neg (by omega), if_neg q0, Mo_cover_2]
    simp (disch := omega) only [zI_lit, zI_le, if_neg, show (0 : Int) + 1 = 1 from rfl, sh1, zI_eq, if_pos, bnd_ap, zI_mul, zI_add, zI_div, zI_sub, r1, bp_some]
    by_cases q1 : A.1 0 ((32 * s + p).toNat - (32 * s + p).toNat % 2) = 2
    · rw [if_pos (by omega), if_pos q1]
      show _ = some (zI (((32 * s + p).toNat - (32 * s + p).toNat % 2 : Nat) : Int))
      congr 2; omega
    · rw [if_neg (by omega), if_neg q1, Mo_cover_2]
      simp (disch := omega) only [zI_lit, zI_le, if_neg, show (1 : Int) + 1 = 2 from rfl, sh2, zI_eq, if_pos, bnd_ap, zI_mul, zI_add, zI_div, zI_sub, r2, bp_some]
      by_cases q2 : A.1 0 ((32 * s + p).toNat - (32 * s + p).toNat % 4) = 3
      · rw [if_pos (by omega), if_pos q2]
        show _ = some (zI (((32 * s + p).toNat - (32 * s + p).toNat % 4 : Nat) : Int))
        congr 2; omega
      · rw [if_neg (by omega), if_neg q2, Mo_cover_2]
        simp (disch := omega) only [zI_lit, zI_le, if_neg, show (2 : Int) + 1 = 3 from rfl, sh3, zI_eq, if_pos, bnd_ap, zI_mul, zI_add, zI_div, zI_sub, r3, bp_some]
        by_cases q3 : A.1 0 ((32 * s + p).toNat - (32 * s + p).toNat % 8) = 4
        · rw [if_pos (by omega), if_pos q3]
          show _ = some (zI (((32 * s + p).toNat - (32 * s + p).toNat % 8 : Nat) : Int))
          congr 2; omega
        · rw [if_neg (by omega), if_neg q3, Mo_cover_2]
          simp (disch := omega) only [zI_lit, zI_le, if_pos, show (3 : Int) + 1 = 4 from rfl]
          rfl
theorem MR_0 {n S : Nat} {A : Ab} {dep : Nat → Nat} {B : Nat → Int} (hW : WF n S A dep) (hM : MRep B A) : ∀ x, x < 192 → B x = A.1 0 x ∧ 0 ≤ A.1 0 x ∧ A.1 0 x ≤ 4 := fun x hx => by
  have h0 := hW.2.2.2.2.2.2.2 x hx
  refine ⟨hM.1 x hx, h0, ?_⟩
  by_cases q : 0 < A.1 0 x
  · exact (hW.2.2.2.1 x ⟨hx, q⟩).1
  · omega
theorem mr_cut_loop {n S b : Nat} {s p t : Int} (hs1 : 0 ≤ s) (hs2 : s < 6) (hp1 : 0 ≤ p) (hp2 : p < 32) (ht1 : 1 ≤ t) (ht2 : t ≤ 4) : ∀ (m k : Nat) (μ : Sl) (B : Nat → Int) (A : Ab) (dep : Nat → Nat), m < k → MB μ b → WF n S A dep → MRep B A → WD B A → (∀ d, cov A (32 * s + p).toNat = some d → NTs A d ∧ A.1 0 d ≤ t + m) →
    ∃ μ' B', Mo_cuts_8 k (zI s) (zI p) (zI (t - 1)) (zI (cv (cov A (32 * s + p).toNat))) (bst μ b B) = some ((), bst μ' b B') ∧ SC μ μ' ∧ MRep B' (aCut t (32 * s + p).toNat m A) ∧ WD B' (aCut t (32 * s + p).toNat m A) ∧ (∀ k, 1920 ≤ k → k ≠ 2198 → B' k = B k) ∧ B' 2198 = B 2198 + (nCut t (32 * s + p).toNat m A : Int) := by
  have hq : (32 * s + p).toNat < 192 := by omega
  intro m
  induction m with
  | zero =>
    intro k μ B A dep hk hb hW hM hw hN
    obtain ⟨c, rfl⟩ : ∃ c, k = c + 1 := ⟨k - 1, by omega⟩
    refine ⟨μ, B, ?_, SC_refl μ, hM, hw, fun _ _ _ => rfl, by simp [nCut]⟩
    rw [Mo_cuts_8]
    cases hc : cov A (32 * s + p).toNat with
    | none => simp (disch := omega) only [cv, zI_lit, zI_lt, if_pos]
    | some d =>
      have hd := (cs_some hq hc).1
      have hd1 := hd.1
      have hd2 := hd.2
      have h1 := (hN d hc).2
      have h2 := (hW.2.2.2.1 d hd).1
      have h0 := hM.1 d hd1
      simp only [cv, Mo_orderOf, m_of0 hb hd1, bp_some, h0]
      simp (disch := omega) only [zI_lit, zI_lt, zI_sub, zI_le, if_pos, if_neg]
  | succ m ih =>
    intro k μ B A dep hk hb hW hM hw hN
    obtain ⟨c, rfl⟩ : ∃ c, k = c + 1 := ⟨k - 1, by omega⟩
    unfold aCut nCut
    rw [Mo_cuts_8]
    cases hc : cov A (32 * s + p).toNat with
    | none =>
      refine ⟨μ, B, ?_, SC_refl μ, hM, hw, fun _ _ _ => rfl, by simp⟩
      simp (disch := omega) only [cv, zI_lit, zI_lt, if_pos]
    | some d =>
      have hd := (cs_some hq hc).1
      have hd1 := hd.1
      have hd2 := hd.2
      obtain ⟨h1, h1'⟩ := hN d hc
      have h2 := (hW.2.2.2.1 d hd).1
      have h0 := hM.1 d hd1
      by_cases hlt : t < A.1 0 d
      · simp only [if_pos hlt]
        obtain ⟨μ1, B1, a1, a2, a3, a4, a5, a6⟩ := mr_split hb hW hM hd (by omega) h1 hw
        obtain ⟨dep2, s1, s2, s3, s4, s5, s6, s7, s8⟩ := split_ok hW hd (by omega) h1
        obtain ⟨e, g1, g2, g3, g4⟩ := s7 _ hq hc
        have hb1 := SC_MB a2 hb
        have hcv := m_cover hb1 (MR_0 s1 a3) hs1 hs2 hp1 hp2
        obtain ⟨μ2, B2, c1, c2, c3, c4, c5, c6⟩ := ih c μ1 B1 (aSplit A d) dep2 (by omega) hb1 s1 a3 a4 (fun e' he' => by
          rw [g1] at he'; cases he'; exact ⟨g3, by rw [g2]; push_cast at h1'; omega⟩)
        refine ⟨μ2, B2, ?_, SC_trans a2 c2, c3, c4, fun k hk hk2 => by rw [c5 k hk hk2, a5 k hk hk2], by rw [c6, a6]; push_cast; omega⟩
        simp only [cv, Mo_orderOf, m_of0 hb hd1, bp_some, h0]
        simp (disch := omega) only [zI_lit, zI_lt, zI_sub, zI_le, if_neg, a1, bd_some, hcv, bp_some, bnd_ap]
        exact c1
      · simp only [if_neg hlt]
        refine ⟨μ, B, ?_, SC_refl μ, hM, hw, fun _ _ _ => rfl, by simp⟩
        simp only [cv, Mo_orderOf, m_of0 hb hd1, bp_some, h0]
        simp (disch := omega) only [zI_lit, zI_lt, zI_sub, zI_le, if_pos, if_neg]
theorem mr_cut {n S b : Nat} {s p t : Int} (hs1 : 0 ≤ s) (hs2 : s < 6) (hp1 : 0 ≤ p) (hp2 : p < 32) (ht1 : 1 ≤ t) (ht2 : t ≤ 4) {μ : Sl} {B : Nat → Int} {A : Ab} {dep : Nat → Nat} (hb : MB μ b) (hW : WF n S A dep) (hM : MRep B A) (hw : WD B A) (hN : ∀ d, cov A (32 * s + p).toNat = some d → NTs A d) :
    ∃ μ' B', Mo_cuts (bst μ b B) (zI s) (zI p) (zI (t - 1)) = some ((), bst μ' b B') ∧ SC μ μ' ∧ MRep B' (aCut t (32 * s + p).toNat 3 A) ∧ WD B' (aCut t (32 * s + p).toNat 3 A) ∧ (∀ k, 1920 ≤ k → k ≠ 2198 → B' k = B k) ∧ B' 2198 = B 2198 + (nCut t (32 * s + p).toNat 3 A : Int) := by
  have hcv := m_cover hb (MR_0 hW hM) hs1 hs2 hp1 hp2
  obtain ⟨μ', B', h⟩ := mr_cut_loop (b := b) hs1 hs2 hp1 hp2 ht1 ht2 3 FU μ B A dep (FU_gt (by omega)) hb hW hM hw (fun d hd => ⟨hN d hd, by have := (hW.2.2.2.1 d (cs_some (by omega) hd).1).1; push_cast; omega⟩)
  refine ⟨μ', B', ?_, h.2⟩
  simp only [Mo_cuts, hcv, bp_some, bnd_ap]
  exact h.1
