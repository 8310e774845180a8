/-! ===== gates: the reference's count ===== -/
/-- y is a top gate to s1 and its tree reaches s2 -/
def gtB (A : Ab) (dep : Nat → Nat) (s1 s2 y : Nat) : Bool := decide (0 < A.1 0 y) && (topG A dep s1 y && (tre A y).any (fun x => decide (x / 32 = s2)))
section
variable {n S : Nat} {A : Ab} {dep : Nat → Nat} {b : Nat} {B : Nat → Int}
theorem m_gates_l (h : WF n S A dep) (hM : MRep B A) {s1 s2 : Nat} (h1 : s1 < 6) (h2 : s2 < 6) : ∀ (m j k a : Nat) (μ : Sl), MB μ b → j + m = 192 → m < k → ∃ μ', Mo_gates_33 k (zI (s1 : Int)) (zI (s2 : Int)) (zI (a : Int)) (zI (j : Int)) (bst μ b B) = some (zI ((a + fb_ct (fun p => gtB A dep s1 s2 (j + p)) m : Nat) : Int), bst μ' b B) ∧ SC μ μ' := by
  intro m
  induction m with
  | zero =>
    intro j k a μ hb hj hk
    obtain ⟨c, rfl⟩ : ∃ c, k = c + 1 := ⟨k - 1, by omega⟩
    exact ⟨μ, by rw [Mo_gates_33, if_pos (by rw [zI_lit, zI_le (by omega) (by omega) (by omega) (by omega)]; omega)]; rfl, SC_refl μ⟩
  | succ m ih =>
    intro j k a μ hb hj hk
    obtain ⟨c, rfl⟩ : ∃ c, k = c + 1 := ⟨k - 1, by omega⟩
    have sp : fb_ct (fun p => gtB A dep s1 s2 (j + p)) (m + 1) = (if gtB A dep s1 s2 j = true then 1 else 0) + fb_ct (fun p => gtB A dep s1 s2 (j + 1 + p)) m := by
      have e := fb_ct_sp (fun p => gtB A dep s1 s2 (j + p)) 1 m
      rw [show 1 + m = m + 1 by omega] at e
      rw [e]
      congr 1
      · show 0 + (if gtB A dep s1 s2 (j + 0) = true then 1 else 0) = _
        rw [Nat.zero_add, Nat.add_zero]
      · exact fb_ct_cong (fun k _ => by rw [Nat.add_assoc])
    rw [sp]
    have skip : gtB A dep s1 s2 j = false → ∃ μ', Mo_gates_117 (Mo_gates_33 c) (zI (s1 : Int)) (zI (s2 : Int)) (zI (a : Int)) (zI (j : Int)) (bst μ b B) = some (zI ((a + ((if gtB A dep s1 s2 j = true then 1 else 0) + fb_ct (fun p => gtB A dep s1 s2 (j + 1 + p)) m) : Nat) : Int), bst μ' b B) ∧ SC μ μ' := fun hf => by
      obtain ⟨μ', t1, t2⟩ := ih (j + 1) c a μ hb (by omega) (by omega)
      refine ⟨μ', ?_, t2⟩
      rw [Mo_gates_117, bnd_ap, zI_s1, t1, hf, if_neg (by decide), Nat.zero_add]
    rw [Mo_gates_33, if_neg (by rw [zI_lit, zI_le (by omega) (by omega) (by omega) (by omega)]; omega), m_deed hb h hM (by omega), bp_some, bI_if]
    by_cases z : 0 < A.1 0 j
    · have hx : Lv A j := ⟨by omega, z⟩
      rw [if_pos (decide_eq_true z), m_topGate hb h hM h1 hx, bp_some, bI_if]
      by_cases y : topG A dep s1 j = true
      · rw [if_pos y]
        obtain ⟨μ1, r1, r2, r3⟩ := m_tree hb h hx (MR_MT hM j)
        have hb1 : MB μ1 b := ⟨by rw [r3 _ _ (by omega) (by omega) (by omega)]; exact hb.1, hb.2⟩
        have g := g75 (K := Mo_gates_33 c) (b := b) (B := B) r2 (tre_len h hx).2 (fun x hx2 => ((tre_mem h hx).mp hx2).1.1) h2 (zI (s1 : Int)) (zI (a : Int)) (zI (j : Int)) (tre A j).length 0 FU false (by omega) (FU_gt (by have := (tre_len h hx).2; omega))
        rw [List.drop_zero, Bool.false_or] at g
        have z0 : zI ((0 : Nat) : Int) = (0 : Int32) := rfl
        rw [z0, show bI false = (0 : Int32) from rfl] at g
        have eg : gtB A dep s1 s2 j = (tre A j).any (fun x => decide (x / 32 = s2)) := by
          unfold gtB; rw [decide_eq_true z, y, Bool.true_and, Bool.true_and]
        rw [← eg] at g
        have ea : zI (a : Int) + bI (gtB A dep s1 s2 j) = zI ((a + (if gtB A dep s1 s2 j = true then 1 else 0) : Nat) : Int) := by
          unfold bI
          rw [zI_add]
          by_cases q : gtB A dep s1 s2 j = true
          · rw [if_pos q, if_pos q]; rfl
          · rw [if_neg q, if_neg q]; rfl
        obtain ⟨μ', t1, t2⟩ := ih (j + 1) c (a + (if gtB A dep s1 s2 j = true then 1 else 0)) μ1 hb1 (by omega) (by omega)
        refine ⟨μ', ?_, SC_trans r3 t2⟩
        rw [r1, bd_some, bnd_ap, bnd_ap, g, ea, Mo_gates_117, bnd_ap, zI_s1, t1, Nat.add_assoc]
      · rw [if_neg y]
        refine skip ?_
        unfold gtB
        cases hh : topG A dep s1 j with
        | true => exact absurd hh y
        | false => rw [Bool.false_and, Bool.and_false]
    · rw [if_neg (by rw [decide_eq_true_eq]; exact z)]
      exact skip (by unfold gtB; rw [decide_eq_false z, Bool.false_and])
end
