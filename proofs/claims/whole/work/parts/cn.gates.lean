/-! ===== gates: the class's walk up ===== -/
/-- from x up: the last deed outside space s below the last deed inside it -/
def hgF (A : Ab) (s : Nat) : Nat → Option Nat → Option Nat → Nat → Option Nat
  | 0, v3, v4, x => if x / 32 = s then v4 else v3
  | k + 1, v3, v4, x => if x / 32 = s then hgF A s k v4 v4 (A.1 3 x - 1).toNat else hgF A s k v3 (some x) (A.1 3 x - 1).toNat
def eo (σ : Nat → Nat) (o : Option Nat) : Int32 := match o with
  | none => zI (-1)
  | some y => zI (σ y : Int)
section
variable {n S : Nat} {A : Ab} {dep : Nat → Nat} {δ : Sl} {σ : Nat → Nat} {bn : Nat}
theorem c_high_l (h : WF n S A dep) (hC : CRep δ σ bn A) {s : Nat} (hs : s < 6) : ∀ (m k i x : Nat) (v3 v4 : Option Nat), dep x = m → Lv A x → m + 1 < k → i + m ≤ 191 → Qu_highestGate_11 δ k (zI (s : Int)) (eo σ v3) (eo σ v4) (zI (σ x : Int)) (zI (i : Int)) = some (eo σ (hgF A s m v3 v4 x)) := by
  intro m
  induction m with
  | zero =>
    intro k i x v3 v4 hm hx hk hi
    obtain ⟨c, rfl⟩ : ∃ c, k = c + 2 := ⟨k - 2, by omega⟩
    have b1 := cr_lt hC hx
    have hgv := cr_giver hC hx
    have e18 := (hC.2.2.1 x hx).1
    have hx1 := hx.1
    rcases gv_or h hx with ⟨g1, -⟩ | ⟨g, g1, g2, g3⟩
    · rw [g1, enc_0] at hgv
      have up : ∀ w3 w4, Qu_highestGate_45 (Qu_highestGate_11 δ (c + 1)) δ (zI (s : Int)) w3 w4 (zI (σ x : Int)) (zI (i : Int)) = some w3 := fun w3 w4 => by
        rw [Qu_highestGate_45, if_pos (zI_in b1 (by omega)), zI_ixn (by omega), hgv, bnd_ap, bnd_ap, Qu_highestGate_11, if_pos zI_m1]
        split <;> rfl
      rw [Qu_highestGate_11, if_neg (by rw [zI_lit, zI_le (by omega) (by omega) (by omega) (by omega)]; omega), if_neg (zI_n0 (by omega)), if_pos (zI_in b1 (by omega)), zI_ixn (by omega), e18, bnd_ap, bnd_ap, up, up]
      unfold hgF
      by_cases z : x / 32 = s
      · rw [if_pos (by rw [z]), if_pos z]
      · rw [if_neg (by rw [zI_eq (by omega) (by omega) (by omega) (by omega)]; omega), if_neg z]
    · omega
  | succ m ih =>
    intro k i x v3 v4 hm hx hk hi
    obtain ⟨c, rfl⟩ : ∃ c, k = c + 1 := ⟨k - 1, by omega⟩
    have b1 := cr_lt hC hx
    have hgv := cr_giver hC hx
    have e18 := (hC.2.2.1 x hx).1
    have hx1 := hx.1
    rcases gv_or h hx with ⟨g1, g0⟩ | ⟨g, g1, g2, g3⟩
    · omega
    · rw [g1, enc_s] at hgv
      have up : ∀ w3 w4, Qu_highestGate_45 (Qu_highestGate_11 δ c) δ (zI (s : Int)) (eo σ w3) (eo σ w4) (zI (σ x : Int)) (zI (i : Int)) = some (eo σ (hgF A s m w3 w4 g)) := fun w3 w4 => by
        rw [Qu_highestGate_45, if_pos (zI_in b1 (by omega)), zI_ixn (by omega), hgv, bnd_ap, bnd_ap, zI_s1, ih c (i + 1) g w3 w4 (by omega) g2 (by omega) (by omega)]
      have ex : zI (σ x : Int) = eo σ (some x) := rfl
      rw [Qu_highestGate_11, if_neg (by rw [zI_lit, zI_le (by omega) (by omega) (by omega) (by omega)]; omega), if_neg (zI_n0 (by omega)), if_pos (zI_in b1 (by omega)), zI_ixn (by omega), e18, bnd_ap, bnd_ap, up]
      have up2 := up v3 (some x)
      rw [← ex] at up2
      rw [up2, hgF, g1, show ((g : Int) + 1 - 1).toNat = g by omega]
      by_cases z : x / 32 = s
      · rw [if_pos (by rw [z]), if_pos z]
      · rw [if_neg (by rw [zI_eq (by omega) (by omega) (by omega) (by omega)]; omega), if_neg z]
theorem c_high (h : WF n S A dep) (hC : CRep δ σ bn A) {s x : Nat} (hs : s < 6) (hx : Lv A x) : Qu_highestGate δ (zI (σ x : Int)) (zI (s : Int)) = some (eo σ (hgF A s (dep x) none none x)) := by
  have hd := dep_lt h hx
  have t := c_high_l h hC hs (dep x) FU 0 x none none rfl hx (FU_gt (by omega)) (by omega)
  rw [Qu_highestGate, bnd_ap, bnd_ap, bnd_ap, bnd_ap]
  exact t
end
