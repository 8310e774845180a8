/-! ===== gates: the reference's top gates ===== -/
def isG (A : Ab) (dep : Nat → Nat) (s x : Nat) : Bool := !decide (x / 32 = s) && haB A dep s x
/-- x and all above it are no gates -/
def ngF (A : Ab) (dep : Nat → Nat) (s : Nat) : Nat → Nat → Bool
  | 0, x => !isG A dep s x
  | k + 1, x => !isG A dep s x && ngF A dep s k (A.1 3 x - 1).toNat
def topG (A : Ab) (dep : Nat → Nat) (s x : Nat) : Bool := isG A dep s x && (decide (A.1 3 x = 0) || ngF A dep s (dep x - 1) (A.1 3 x - 1).toNat)
section
variable {n S : Nat} {A : Ab} {dep : Nat → Nat} {μ : Sl} {b : Nat} {B : Nat → Int}
theorem m_isGate (hb : MB μ b) (h : WF n S A dep) (hM : MRep B A) {s x : Nat} (hs : s < 6) (hx : Lv A x) : Mo_isGate (bst μ b B) (zI (x : Int)) (zI (s : Int)) = some (bI (isG A dep s x)) := by
  have hx1 := hx.1
  have d32 : zI (x : Int) / (32 : Int32) = zI ((x / 32 : Nat) : Int) := by
    rw [show (32 : Int32) = zI 32 from rfl, zI_div (by omega) (by omega) (by omega) (by omega)]; congr 1
  rw [Mo_isGate, if_pos (by decide), d32, m_hasA hb h hM hs hx, bp_some, bI_if]
  unfold isG
  by_cases z : x / 32 = s
  · rw [if_pos (by rw [z]), decide_eq_true z]; rfl
  · rw [if_neg (by rw [zI_eq (by omega) (by omega) (by omega) (by omega)]; omega), decide_eq_false z]
    cases haB A dep s x with
    | true => rfl
    | false => rfl
theorem m_top_0 (D : Sl) (k : Nat) (s : Int32) : Mo_isTopGate_17 D (k + 1) s (zI (0 - 1)) = some (1 : Int32) := by
  rw [Mo_isTopGate_17, if_pos (by exact zI_m1)]
theorem m_top_l (hb : MB μ b) (h : WF n S A dep) (hM : MRep B A) {s : Nat} (hs : s < 6) : ∀ (m k x : Nat), dep x = m → Lv A x → m + 1 < k → Mo_isTopGate_17 (bst μ b B) k (zI (s : Int)) (zI (x : Int)) = some (bI (ngF A dep s m x)) := by
  intro m
  induction m with
  | zero =>
    intro k x hm hx hk
    obtain ⟨c, rfl⟩ : ∃ c, k = c + 2 := ⟨k - 2, by omega⟩
    have hx1 := hx.1
    obtain ⟨t1, t2, t3, t4, t5⟩ := hM.2.1 x hx
    rcases gv_or h hx with ⟨g1, -⟩ | ⟨g, g1, g2, g3⟩
    · rw [Mo_isTopGate_17, if_neg (zI_n0 (by omega)), m_isGate hb h hM hs hx, bp_some, bI_if, m_giver hb hx1, bp_some, bnd_ap, t3, g1, m_top_0, ngF]
      cases isG A dep s x with
      | true => rfl
      | false => rfl
    · omega
  | succ m ih =>
    intro k x hm hx hk
    obtain ⟨c, rfl⟩ : ∃ c, k = c + 1 := ⟨k - 1, by omega⟩
    have hx1 := hx.1
    obtain ⟨t1, t2, t3, t4, t5⟩ := hM.2.1 x hx
    rcases gv_or h hx with ⟨g1, g0⟩ | ⟨g, g1, g2, g3⟩
    · omega
    · rw [Mo_isTopGate_17, if_neg (zI_n0 (by omega)), m_isGate hb h hM hs hx, bp_some, bI_if, m_giver hb hx1, bp_some, bnd_ap, t3, g1, show (g : Int) + 1 - 1 = (g : Int) by omega, ih c g (by omega) g2 (by omega), ngF, g1, show ((g : Int) + 1 - 1).toNat = g by omega]
      cases isG A dep s x with
      | true => rfl
      | false => rfl
theorem m_topGate (hb : MB μ b) (h : WF n S A dep) (hM : MRep B A) {s x : Nat} (hs : s < 6) (hx : Lv A x) : Mo_isTopGate (bst μ b B) (zI (x : Int)) (zI (s : Int)) = some (bI (topG A dep s x)) := by
  have hx1 := hx.1
  obtain ⟨t1, t2, t3, t4, t5⟩ := hM.2.1 x hx
  rw [Mo_isTopGate, m_isGate hb h hM hs hx, bp_some, bI_if, m_giver hb hx1, bp_some, bnd_ap, t3]
  unfold topG
  rcases gv_or h hx with ⟨g1, -⟩ | ⟨g, g1, g2, g3⟩
  · obtain ⟨f, hf⟩ : ∃ f, FU = f + 1 := ⟨999999, rfl⟩
    rw [g1, hf, m_top_0, decide_eq_true rfl, Bool.true_or]
    cases isG A dep s x with
    | true => rfl
    | false => rfl
  · have hd := dep_lt h g2
    rw [g1, show (g : Int) + 1 - 1 = (g : Int) by omega, m_top_l hb h hM hs (dep g) FU g rfl g2 (FU_gt (by omega)), show ((g : Int)).toNat = g by omega, decide_eq_false (show ¬ (g : Int) + 1 = 0 by omega), Bool.false_or, show dep x - 1 = dep g by omega]
    cases isG A dep s x with
    | true => rfl
    | false => rfl
end
