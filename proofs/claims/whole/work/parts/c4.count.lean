/-! ===== count ===== -/
section
variable {n S : Nat} {A : Ab} {dep : Nat → Nat} {δ : Sl} {σ : Nat → Nat} {bn : Nat} {μ : Sl} {b : Nat} {B : Nat → Int}
theorem c_most (h : WF n S A dep) (hC : CRep δ σ bn A) : ∀ (m j v f : Nat), j + m = bn → m < f → v < 192 → ∃ r : Nat, Qu_mostAbove_4 δ f (zI (v : Int)) (zI (j : Int)) = some (zI (r : Int)) ∧ v ≤ r ∧ (∀ x, Lv A x → j ≤ σ x → dep x ≤ r) ∧ (r = v ∨ ∃ x, Lv A x ∧ dep x = r) := by
  have hbn := hC.1.1
  have e16 := hC.1.2.1
  intro m
  induction m with
  | zero =>
    intro j v f hj hf hv
    obtain ⟨f', rfl⟩ : ∃ f', f = f' + 1 := ⟨f - 1, by omega⟩
    refine ⟨v, ?_, Nat.le_refl _, fun x hx hj2 => ?_, .inl rfl⟩
    · rw [Qu_mostAbove_4, e16, if_pos (by rw [zI_le (by omega) (by omega) (by omega) (by omega)]; omega)]
    · have := hC.1.2.2.1 x hx; omega
  | succ m ih =>
    intro j v f hj hf hv
    obtain ⟨f', rfl⟩ : ∃ f', f = f' + 1 := ⟨f - 1, by omega⟩
    have s0 : Qu_mostAbove_4 δ (f' + 1) (zI (v : Int)) (zI (j : Int)) = if (δ 21 j) < 0 then Qu_mostAbove_4 δ f' (zI (v : Int)) (zI ((j + 1 : Nat) : Int)) else (bp (Qu_aboveOf δ (zI (j : Int))) fun r2 => bnd (if zI (v : Int) < r2 then r2 else zI (v : Int)) fun v1_3 => Qu_mostAbove_31 (Qu_mostAbove_4 δ f') δ v1_3 (zI (j : Int))) := by
      rw [Qu_mostAbove_4, e16, if_neg (by rw [zI_le (by omega) (by omega) (by omega) (by omega)]; omega), if_pos (zI_in (by omega) (by omega)), zI_ixn (by omega), Qu_mostAbove_31, bnd_ap, zI_s1]
    rw [s0]
    by_cases hu : δ 21 j < 0
    · rw [if_pos hu]
      obtain ⟨r, t1, t2, t3, t4⟩ := ih (j + 1) v f' (by omega) (by omega) hv
      refine ⟨r, t1, t2, fun x hx hj2 => ?_, t4⟩
      by_cases z : σ x = j
      · exfalso
        have e21 := (hC.2.2.1 x hx).2.2.2.1
        have := hx.2
        have := (h.2.2.2.1 x hx).1
        rw [z] at e21
        rw [e21, zI_lit, zI_lt (by omega) (by omega) (by omega) (by omega)] at hu
        omega
      · exact t3 x hx (by omega)
    · obtain ⟨x, hx, he⟩ := hC.1.2.2.2.2 j (by omega) hu
      have hd := dep_lt h hx
      have ab := c_above h hC hx
      rw [he] at ab
      have e1 : (if zI (v : Int) < zI (dep x : Int) then zI (dep x : Int) else zI (v : Int)) = zI ((max v (dep x) : Nat) : Int) := by
        by_cases z : v < dep x
        · rw [if_pos (by rw [zI_lt (by omega) (by omega) (by omega) (by omega)]; omega), Nat.max_eq_right (by omega)]
        · rw [if_neg (by rw [zI_lt (by omega) (by omega) (by omega) (by omega)]; omega), Nat.max_eq_left (by omega)]
      rw [if_neg hu, ab, bp_some, e1, bnd_ap, Qu_mostAbove_31, bnd_ap, zI_s1]
      obtain ⟨r, t1, t2, t3, t4⟩ := ih (j + 1) (max v (dep x)) f' (by omega) (by omega) (by omega)
      refine ⟨r, t1, by omega, fun y hy hj2 => ?_, ?_⟩
      · by_cases z : σ y = j
        · have := hC.1.2.2.2.1 y x hy hx (by omega)
          subst this; omega
        · exact t3 y hy (by omega)
      · rcases t4 with e | e
        · by_cases z : v < dep x
          · exact .inr ⟨x, hx, by omega⟩
          · exact .inl (by omega)
        · exact .inr e
theorem m_most151 (hb : MB μ b) (h : WF n S A dep) (hM : MRep B A) : ∀ (m j v f : Nat), j + m = 192 → m < f → v < 192 → ∃ r : Nat, Mo_count_151 f (zI (v : Int)) (zI (j : Int)) (bst μ b B) = some (zI (r : Int), bst μ b B) ∧ v ≤ r ∧ (∀ x, Lv A x → j ≤ x → dep x ≤ r) ∧ (r = v ∨ ∃ x, Lv A x ∧ dep x = r) := by
  intro m
  induction m with
  | zero =>
    intro j v f hj hf hv
    obtain ⟨f', rfl⟩ : ∃ f', f = f' + 1 := ⟨f - 1, by omega⟩
    refine ⟨v, ?_, Nat.le_refl _, fun x hx hj2 => ?_, .inl rfl⟩
    · rw [Mo_count_151, if_pos (by rw [zI_lit, zI_le (by omega) (by omega) (by omega) (by omega)]; omega)]
    · have := hx.1; omega
  | succ m ih =>
    intro j v f hj hf hv
    obtain ⟨f', rfl⟩ : ∃ f', f = f' + 1 := ⟨f - 1, by omega⟩
    rw [Mo_count_151, if_neg (by rw [zI_lit, zI_le (by omega) (by omega) (by omega) (by omega)]; omega), m_deed hb h hM (by omega), bp_some]
    by_cases hu : 0 < A.1 0 j
    · have hx : Lv A j := ⟨by omega, hu⟩
      have hd := dep_lt h hx
      rw [if_neg (by rw [decide_eq_true hu]; decide), m_aboveM hb h hM hx, bp_some, bp_some]
      by_cases z : dep j ≤ v
      · rw [if_pos (by rw [zI_le (by omega) (by omega) (by omega) (by omega)]; omega), Mo_count_183, Mo_count_184, bnd_ap, bnd_ap, zI_s1]
        obtain ⟨r, t1, t2, t3, t4⟩ := ih (j + 1) v f' (by omega) (by omega) hv
        refine ⟨r, t1, t2, fun x hx hj2 => ?_, t4⟩
        by_cases y : x = j
        · rw [y]; omega
        · exact t3 x hx (by omega)
      · rw [if_neg (by rw [zI_le (by omega) (by omega) (by omega) (by omega)]; omega), Mo_count_184, bnd_ap, bnd_ap, zI_s1]
        obtain ⟨r, t1, t2, t3, t4⟩ := ih (j + 1) (dep j) f' (by omega) (by omega) hd
        refine ⟨r, t1, by omega, fun x hx hj2 => ?_, ?_⟩
        · by_cases y : x = j
          · rw [y]; omega
          · exact t3 x hx (by omega)
        · rcases t4 with e | e
          · exact .inr ⟨j, hx, by omega⟩
          · exact .inr e
    · rw [if_pos (by rw [decide_eq_false hu]; decide), Mo_count_183, Mo_count_184, bnd_ap, bnd_ap, zI_s1]
      obtain ⟨r, t1, t2, t3, t4⟩ := ih (j + 1) v f' (by omega) (by omega) hv
      refine ⟨r, t1, t2, fun x hx hj2 => ?_, t4⟩
      by_cases y : x = j
      · exact absurd (y ▸ hx.2) hu
      · exact t3 x hx (by omega)
theorem most_on (hb : MB μ b) (h : WF n S A dep) (hC : CRep δ σ bn A) (hM : MRep B A) : ∃ r : Int32, Qu_mostAbove δ = some r ∧ Mo_count_151 FU (0 : Int32) (0 : Int32) (bst μ b B) = some (r, bst μ b B) := by
  have hbn := hC.1.1
  obtain ⟨r, t1, t2, t3, t4⟩ := c_most h hC bn 0 0 FU (by omega) (FU_gt (by omega)) (by omega)
  obtain ⟨r', u1, u2, u3, u4⟩ := m_most151 hb h hM 192 0 0 FU (by omega) (FU_gt (by omega)) (by omega)
  have z0 : zI ((0 : Nat) : Int) = (0 : Int32) := rfl
  rw [z0] at t1 u1
  have e : r = r' := by
    have a1 : r ≤ r' := by
      rcases t4 with e | ⟨x, hx, e⟩
      · omega
      · have := u3 x hx (by omega); omega
    have a2 : r' ≤ r := by
      rcases u4 with e | ⟨x, hx, e⟩
      · omega
      · have := t3 x hx (by omega); omega
    omega
  refine ⟨zI (r : Int), ?_, ?_⟩
  · rw [Qu_mostAbove, bnd_ap, bnd_ap, t1]
  · rw [u1, e]
end
theorem top_count {c n0 : Nat} {M : Mem} {μ : Sl} (hI : Inv c n0 M μ) (a1 : Int32) : TopQ c n0 M (Fh_count M a1) (Mo_count μ a1) := by
  obtain ⟨n, S, k, w, t, B, σ, bn, A, dep, J, N, e, qv, pv, wv, ⟨a, a2', a3, a4, a5⟩, -, ⟨⟨hW, hC, hM, -, -, hJ, hJC, hJM, -, -⟩, hX⟩, hSB, ⟨f1, f2⟩, ⟨hN, -⟩, hT, hq, -⟩ := top_q hI
  have i1 := inv_wr hI (0 : Int32)
  have of : ∀ q : Int, 0 ≤ q → q < 2227 → Mo_of (wr μ 34 2 (0 : Int32)) (zI q) = some (zI (B q.toNat)) := fun q q1 q2 => by
    have := m_of f1 B q1 q2
    rw [f2] at this; exact this
  obtain ⟨_, _, _, cc, wb, dc, sd, kd, xx, ⟨_, x1, x2, -⟩, ⟨⟨y1, y2, -⟩, -⟩, ⟨z1, z2, z3, z4, -⟩, -⟩ := id hT
  have k26 : M 0 0 9 = wr μ 34 2 (0 : Int32) 34 26 := by
    obtain ⟨_, _, _, _, _, _, _, κ, _, _, _, ⟨⟨-, -, -, -, r5⟩, -⟩, -, -, -, -, ⟨-, -, h3⟩, -⟩ := hI
    rw [wr_ap, if_neg (by omega), r5, h3.1]
  have q0 : ∀ r : Int32, ∀ R1 R2, R1 = some r → R2 = some (r, wr μ 34 2 (0 : Int32)) → TopQ c n0 M R1 R2 := fun r R1 R2 h1 h2 => ⟨r, _, h1, h2, i1⟩
  have m2 := m_many f1 hW hM
  have m3 := m_all f1 hW hM hSB.2.1
  rw [f2] at m2 m3
  obtain ⟨r11, c11, m11⟩ := most_on f1 hW hC hM
  rw [f2] at m11
  obtain ⟨-, -, -, ⟨w1, w2, w3, w4⟩, ⟨w5, w6, -⟩, -⟩ := hX
  by_cases z100 : a1 = (0 : Int32)
  · exact q0 (zI (n : Int)) _ _ (by rw [Fh_count, if_pos z100, a, gref_z (by omega), a3, gref_z (by omega), x1]) (by rw [Mo_count, bnd_ap, bnd_ap, if_pos z100, y1])
  by_cases z101 : a1 = (1 : Int32)
  · exact q0 (zI (S : Int)) _ _ (by rw [Fh_count, if_neg z100, if_pos z101, a, gref_z (by omega), a3, gref_z (by omega), x2]) (by rw [Mo_count, bnd_ap, bnd_ap, if_neg z100, if_pos z101, Mo_size, if_pos (by decide), bp_some, show ix (3 : Int32) = 3 from by decide, y2])
  by_cases z102 : a1 = (2 : Int32)
  · exact q0 _ _ _ (by rw [Fh_count, if_neg z100, if_neg z101, if_pos z102, a, gref_z (by omega), hC.2.2.2.1.1]) (by rw [Mo_count, bnd_ap, bnd_ap, if_neg z100, if_neg z101, if_pos z102, m2, bp_some])
  by_cases z103 : a1 = (3 : Int32)
  · exact q0 _ _ _ (by rw [Fh_count, if_neg z100, if_neg z101, if_neg z102, if_pos z103, a, gref_z (by omega), c_all hW hC, bp_some]) (by rw [Mo_count, bnd_ap, bnd_ap, if_neg z100, if_neg z101, if_neg z102, if_pos z103, m3, bp_some])
  by_cases z104 : a1 = (4 : Int32)
  · have o := of 1944 (by omega) (by omega)
    rw [show (1944 : Int).toNat = 1944 from rfl, hJM.1, show zI 1944 = (1944 : Int32) from rfl] at o
    exact q0 _ _ _ (by rw [Fh_count, if_neg z100, if_neg z101, if_neg z102, if_neg z103, if_pos z104, a, gref_z (by omega), hJC.1]) (by rw [Mo_count, bnd_ap, bnd_ap, if_neg z100, if_neg z101, if_neg z102, if_neg z103, if_pos z104, o, bp_some])
  by_cases z105 : a1 = (5 : Int32)
  · exact q0 _ _ _ (by rw [Fh_count, if_neg z100, if_neg z101, if_neg z102, if_neg z103, if_neg z104, if_pos z105, a, gref_z (by omega), a3, gref_z (by omega), z1]) (by rw [Mo_count, bnd_ap, bnd_ap, if_neg z100, if_neg z101, if_neg z102, if_neg z103, if_neg z104, if_pos z105, z3])
  by_cases z106 : a1 = (6 : Int32)
  · have o := of 2202 (by omega) (by omega)
    rw [show (2202 : Int).toNat = 2202 from rfl, w6, show zI 2202 = (2202 : Int32) from rfl] at o
    exact q0 _ _ _ (by rw [Fh_count, if_neg z100, if_neg z101, if_neg z102, if_neg z103, if_neg z104, if_neg z105, if_pos z106, a, gref_z (by omega), w5]) (by rw [Mo_count, bnd_ap, bnd_ap, if_neg z100, if_neg z101, if_neg z102, if_neg z103, if_neg z104, if_neg z105, if_pos z106, o, bp_some, Int.add_zero])
  by_cases z107 : a1 = (7 : Int32)
  · have o := of 2198 (by omega) (by omega)
    rw [show (2198 : Int).toNat = 2198 from rfl, show zI 2198 = (2198 : Int32) from rfl] at o
    exact q0 _ _ _ (by rw [Fh_count, if_neg z100, if_neg z101, if_neg z102, if_neg z103, if_neg z104, if_neg z105, if_neg z106, if_pos z107, a, gref_z (by omega), w4]) (by rw [Mo_count, bnd_ap, bnd_ap, if_neg z100, if_neg z101, if_neg z102, if_neg z103, if_neg z104, if_neg z105, if_neg z106, if_pos z107, o, bp_some])
  by_cases z108 : a1 = (8 : Int32)
  · have o := of 2199 (by omega) (by omega)
    rw [show (2199 : Int).toNat = 2199 from rfl, show zI 2199 = (2199 : Int32) from rfl] at o
    exact q0 _ _ _ (by rw [Fh_count, if_neg z100, if_neg z101, if_neg z102, if_neg z103, if_neg z104, if_neg z105, if_neg z106, if_neg z107, if_pos z108, a, gref_z (by omega), w1]) (by rw [Mo_count, bnd_ap, bnd_ap, if_neg z100, if_neg z101, if_neg z102, if_neg z103, if_neg z104, if_neg z105, if_neg z106, if_neg z107, if_pos z108, o, bp_some])
  by_cases z109 : a1 = (9 : Int32)
  · have o := of 2200 (by omega) (by omega)
    rw [show (2200 : Int).toNat = 2200 from rfl, show zI 2200 = (2200 : Int32) from rfl] at o
    exact q0 _ _ _ (by rw [Fh_count, if_neg z100, if_neg z101, if_neg z102, if_neg z103, if_neg z104, if_neg z105, if_neg z106, if_neg z107, if_neg z108, if_pos z109, a, gref_z (by omega), w2]) (by rw [Mo_count, bnd_ap, bnd_ap, if_neg z100, if_neg z101, if_neg z102, if_neg z103, if_neg z104, if_neg z105, if_neg z106, if_neg z107, if_neg z108, if_pos z109, o, bp_some])
  by_cases z110 : a1 = (10 : Int32)
  · have o := of 2201 (by omega) (by omega)
    rw [show (2201 : Int).toNat = 2201 from rfl, show zI 2201 = (2201 : Int32) from rfl] at o
    exact q0 _ _ _ (by rw [Fh_count, if_neg z100, if_neg z101, if_neg z102, if_neg z103, if_neg z104, if_neg z105, if_neg z106, if_neg z107, if_neg z108, if_neg z109, if_pos z110, a, gref_z (by omega), w3]) (by rw [Mo_count, bnd_ap, bnd_ap, if_neg z100, if_neg z101, if_neg z102, if_neg z103, if_neg z104, if_neg z105, if_neg z106, if_neg z107, if_neg z108, if_neg z109, if_pos z110, o, bp_some])
  by_cases z111 : a1 = (11 : Int32)
  · exact q0 _ _ _ (by rw [Fh_count, if_neg z100, if_neg z101, if_neg z102, if_neg z103, if_neg z104, if_neg z105, if_neg z106, if_neg z107, if_neg z108, if_neg z109, if_neg z110, if_pos z111, a, gref_z (by omega), c11, bp_some]) (by rw [Mo_count, bnd_ap, bnd_ap, if_neg z100, if_neg z101, if_neg z102, if_neg z103, if_neg z104, if_neg z105, if_neg z106, if_neg z107, if_neg z108, if_neg z109, if_neg z110, if_pos z111, bnd_ap, m11])
  by_cases z112 : a1 = (12 : Int32)
  · exact q0 _ _ _ (by rw [Fh_count, if_neg z100, if_neg z101, if_neg z102, if_neg z103, if_neg z104, if_neg z105, if_neg z106, if_neg z107, if_neg z108, if_neg z109, if_neg z110, if_neg z111, if_pos z112, k26]) (by rw [Mo_count, bnd_ap, bnd_ap, if_neg z100, if_neg z101, if_neg z102, if_neg z103, if_neg z104, if_neg z105, if_neg z106, if_neg z107, if_neg z108, if_neg z109, if_neg z110, if_neg z111, if_pos z112])
  exact q0 (-1 : Int32) _ _ (by rw [Fh_count, if_neg z100, if_neg z101, if_neg z102, if_neg z103, if_neg z104, if_neg z105, if_neg z106, if_neg z107, if_neg z108, if_neg z109, if_neg z110, if_neg z111, if_neg z112]) (by rw [Mo_count, bnd_ap, bnd_ap, if_neg z100, if_neg z101, if_neg z102, if_neg z103, if_neg z104, if_neg z105, if_neg z106, if_neg z107, if_neg z108, if_neg z109, if_neg z110, if_neg z111, if_neg z112])
