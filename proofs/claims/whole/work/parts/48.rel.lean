/-! ===== a slot is made empty ===== -/
def CB (δ : Sl) (σ : Nat → Nat) (bn : Nat) (A : Ab) : Prop := CS δ σ bn A ∧ CQ δ σ A ∧ (∀ d, Lv A d → CF δ σ A d) ∧ CN δ A
theorem aZ_lv {A : Ab} {d x : Nat} : Lv (setA A 0 d 0) x ↔ Lv A x ∧ x ≠ d := by
  unfold Lv
  show x < 192 ∧ (0 < if 0 = 0 ∧ x = d then 0 else A.1 0 x) ↔ _
  by_cases q : x = d
  · rw [if_pos ⟨rfl, q⟩]; simp [q]
  · rw [if_neg (fun z => q z.2)]; simp [q]
theorem aZ_n {A : Ab} {d x j : Nat} (h : x ≠ d ∨ j ≠ 0) : (setA A 0 d 0).1 j x = A.1 j x := if_neg (fun z => by omega)
theorem WS_z {A : Ab} (h : WS A) (d : Nat) : WS (setA A 0 d 0) := by
  have ep : ∀ x, x ≠ d → pgs (setA A 0 d 0) x = pgs A x := fun x q => by unfold pgs; rw [aZ_n (.inl q)]
  refine ⟨fun x hx => ?_, fun x y hx hy hxy => ?_, fun x hx => ?_⟩
  · obtain ⟨h1, h2⟩ := aZ_lv.mp hx
    rw [aZ_n (.inl h2), ep x h2]; exact h.1 x h1
  · obtain ⟨h1, h2⟩ := aZ_lv.mp hx
    obtain ⟨h3, h4⟩ := aZ_lv.mp hy
    rw [ep x h2, ep y h4]; exact h.2.1 x y h1 h3 hxy
  · by_cases q : x = d
    · subst q; show 0 ≤ if 0 = 0 ∧ x = x then 0 else _; rw [if_pos ⟨rfl, rfl⟩]; omega
    · rw [aZ_n (.inl q)]; exact h.2.2 x hx
theorem rel_step {δ : Sl} {σ : Nat → Nat} {bn : Nat} {A : Ab} (hW : WS A) (h : CB δ σ bn A) {d : Nat} (hd : Lv A d) :
    De_release δ (zI (σ d : Int)) = some ((), relS δ (σ d) d (A.1 0 d)) ∧ CB (relS δ (σ d) d (A.1 0 d)) σ bn (setA A 0 d 0) ∧ (∀ a i, a ≠ 32 → a ≠ 21 → a ≠ 17 → relS δ (σ d) d (A.1 0 d) a i = δ a i) ∧ ∀ i, i ≠ 17 → i ≠ 18 → relS δ (σ d) d (A.1 0 d) 17 i = δ 17 i := by
  obtain ⟨⟨s1, s2, s3, s4, s5⟩, hq, hf, n1, n2, n3⟩ := h
  have hb := s3 d hd
  obtain ⟨w1, w2, w3⟩ := hW.1 d hd
  have hd2 := hd.2
  obtain ⟨c1, c2, c3, c4, c5, c6, c7, c8, c9⟩ := hf d hd
  have r1 : ∀ a i, a ≠ 32 → a ≠ 21 → a ≠ 17 → relS δ (σ d) d (A.1 0 d) a i = δ a i := fun a i h1 h2 h3 => by
    unfold relS; rw [if_neg (by omega), if_neg (by omega), if_neg (by omega), if_neg (by omega)]
  have r2 : ∀ i, i ≠ 17 → i ≠ 18 → relS δ (σ d) d (A.1 0 d) 17 i = δ 17 i := fun i h1 h2 => by
    unfold relS; rw [if_neg (by omega), if_neg (by omega), if_neg (by omega), if_neg (by omega)]
  have r21 : ∀ i, relS δ (σ d) d (A.1 0 d) 21 i = if i = σ d then zI (-1) else δ 21 i := fun i => by
    unfold relS; rw [if_neg (by omega)]
    by_cases q : i = σ d
    · rw [if_pos ⟨rfl, q⟩, if_pos q]
    · rw [if_neg (fun z => q z.2), if_neg q, if_neg (by omega), if_neg (by omega)]
  have r32 : ∀ q, relS δ (σ d) d (A.1 0 d) 32 q = if d ≤ q ∧ q < d + pgs A d then zI (-1) else δ 32 q := fun q => by
    unfold relS pgs
    by_cases z : d ≤ q ∧ q < d + pg (A.1 0 d)
    · rw [if_pos ⟨rfl, z⟩, if_pos z]
    · rw [if_neg (fun w => z w.2), if_neg z, if_neg (by omega), if_neg (by omega), if_neg (by omega)]
  refine ⟨release_eq (by omega) c1 c2 c4 (by omega) w1 w3, ⟨⟨s1, by rw [r2 16 (by decide) (by decide)]; exact s2, fun x hx => s3 x (aZ_lv.mp hx).1, fun x y hx hy => s4 x y (aZ_lv.mp hx).1 (aZ_lv.mp hy).1, fun j h1 h2 => ?_⟩, fun q hq1 => ?_, fun x hx => ?_, ?_, ?_, fun x hx => ?_⟩, r1, r2⟩
  · rw [r21] at h2
    by_cases q : j = σ d
    · rw [if_pos q, zI_lit, zI_lt (by omega) (by omega) (by omega) (by omega)] at h2; omega
    · rw [if_neg q] at h2
      obtain ⟨x, hx, e⟩ := s5 j h1 h2
      exact ⟨x, aZ_lv.mpr ⟨hx, fun z => q (by rw [← e, z])⟩, e⟩
  · rw [r32]
    have hWz := WS_z hW d
    by_cases hin : d ≤ q ∧ q < d + pgs A d
    · rw [if_pos hin]
      cases hc : cov (setA A 0 d 0) q with
      | none => rfl
      | some e =>
        obtain ⟨z1, z2, z3⟩ := cs_some hq1 hc
        obtain ⟨z4, z5⟩ := aZ_lv.mp z1
        have ep : pgs (setA A 0 d 0) e = pgs A e := by unfold pgs; rw [aZ_n (.inl z5)]
        have := hW.2.1 e d z4 hd z5
        omega
    · rw [if_neg hin, hq q hq1]
      congr 2
      cases hc : cov A q with
      | none =>
        cases hc' : cov (setA A 0 d 0) q with
        | none => rfl
        | some e =>
          obtain ⟨z1, z2, z3⟩ := cs_some hq1 hc'
          obtain ⟨z4, z5⟩ := aZ_lv.mp z1
          have ep : pgs (setA A 0 d 0) e = pgs A e := by unfold pgs; rw [aZ_n (.inl z5)]
          have := cs_none hW hc z4
          omega
      | some e =>
        obtain ⟨z1, z2, z3⟩ := cs_some hq1 hc
        have z5 : e ≠ d := fun z => by subst z; exact hin ⟨z2, z3⟩
        have ep : pgs (setA A 0 d 0) e = pgs A e := by unfold pgs; rw [aZ_n (.inl z5)]
        exact (cs_of hWz (aZ_lv.mpr ⟨z1, z5⟩) z2 (by rw [ep]; exact z3)).symm
  · obtain ⟨hx1, hx2⟩ := aZ_lv.mp hx
    unfold CF
    rw [r1 18 _ (by decide) (by decide) (by decide), r1 19 _ (by decide) (by decide) (by decide), r1 20 _ (by decide) (by decide) (by decide), r1 22 _ (by decide) (by decide) (by decide), r1 28 _ (by decide) (by decide) (by decide), r1 29 _ (by decide) (by decide) (by decide), r1 30 _ (by decide) (by decide) (by decide), r1 31 _ (by decide) (by decide) (by decide), r21, if_neg (fun z => hx2 (s4 x d hx1 hd z)), aZ_n (.inl hx2), aZ_n (.inl hx2), aZ_n (.inl hx2), aZ_n (.inl hx2), aZ_n (.inl hx2), aZ_n (.inl hx2), aZ_n (.inl hx2)]
    exact hf x hx1
  · have h1 := nlv_up (A := A) (A' := setA A 0 d 0) hd.1 (fun x hx => aZ_n (.inl hx))
    have h0 : (setA A 0 d 0).1 0 d = 0 := if_pos ⟨rfl, rfl⟩
    rw [if_pos hd2, h0, if_neg (by omega)] at h1
    have e17 : relS δ (σ d) d (A.1 0 d) 17 17 = δ 17 17 - zI 1 := by
      unfold relS; rw [if_neg (by omega), if_neg (by omega), if_pos ⟨rfl, rfl⟩]
    rw [e17, n1, zI_sub, show (nlv A : Int) - 1 = (nlv (setA A 0 d 0) : Int) by omega]
  · have h1 := ntp_up (A := A) (A' := setA A 0 d 0) hd.1 (fun x hx => ⟨aZ_n (.inl hx), aZ_n (.inl hx)⟩)
    have h0 : (setA A 0 d 0).1 0 d = 0 := if_pos ⟨rfl, rfl⟩
    rw [h0, if_neg (c := 0 < (0 : Int) ∧ _) (by omega)] at h1
    have e18 : relS δ (σ d) d (A.1 0 d) 17 18 = δ 17 18 - (if δ 28 (σ d) = 0 then zI 0 else zI 1) := by
      unfold relS; rw [if_neg (by omega), if_neg (by omega), if_neg (by omega), if_pos ⟨rfl, rfl⟩]
    have n3d := n3 d hd
    have hz : zI (A.1 9 d) = zI 0 ↔ A.1 9 d = 0 := by rw [zI_eq n3d.1 n3d.2 (by omega) (by omega)]
    rw [e18, n2, c6, zI_lit]
    by_cases ht : A.1 9 d = 0
    · rw [if_neg (fun z => z.2 ht)] at h1
      rw [if_pos (hz.mpr ht), zI_sub, show (ntp A : Int) - 0 = (ntp (setA A 0 d 0) : Int) by omega]
    · rw [if_pos ⟨hd2, ht⟩] at h1
      rw [if_neg (fun z => ht (hz.mp z)), zI_sub, show (ntp A : Int) - 1 = (ntp (setA A 0 d 0) : Int) by omega]
  · obtain ⟨hx1, hx2⟩ := aZ_lv.mp hx
    rw [aZ_n (.inl hx2)]; exact n3 x hx1
