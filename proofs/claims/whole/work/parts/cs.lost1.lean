/-! ===== lost: the frames of a region, who is beneath it; the class ===== -/
/-- frame f is shown at one of the w places from q on -/
def rgF (A : Ab) (q w f : Nat) : Bool := decide (0 < fb_ct (fun j => decide (fAt A (q + j) = (f : Int))) w)
/-- y lies over places p .. of space s -/
def inR (A : Ab) (s p w y : Nat) : Bool := decide (y / 32 = s ∧ y % 32 < p + w ∧ p < y % 32 + pgs A y)
def bnR (A : Ab) (s p w x : Nat) : Bool := decide (0 < A.1 3 x) && any1 (inR A s p w) A (A.1 3 x - 1).toNat
/-- how many frames of x are of the region -/
def lcF (A : Ab) (q w x : Nat) : Nat := fb_ct (fun i => rgF A q w ((A.1 1 x).toNat + i)) (pgs A x)
def lsB (A : Ab) (s p w x : Nat) : Bool := bnR A s p w x && decide (0 < lcF A (32 * s + p) w x)
def lsF (A : Ab) (s p w x : Nat) : Nat := if bnR A s p w x = true then lcF A (32 * s + p) w x else 0
theorem rgF_iff {A : Ab} {q w f : Nat} : rgF A q w f = true ↔ ∃ j, j < w ∧ fAt A (q + j) = (f : Int) := by
  unfold rgF
  rw [decide_eq_true_eq, fb_ctpos]
  constructor
  · rintro ⟨j, j1, j2⟩; exact ⟨j, j1, of_decide_eq_true j2⟩
  · rintro ⟨j, j1, j2⟩; exact ⟨j, j1, decide_eq_true j2⟩
section
variable {n S : Nat} {A : Ab} {dep : Nat → Nat} {δ : Sl} {σ : Nat → Nat} {bn : Nat}
theorem lv_sp (h : WF n S A dep) {x : Nat} (hx : Lv A x) : x / 32 < n ∧ x % 32 + pgs A x ≤ S ∧ 0 < pgs A x ∧ pgs A x ≤ 8 ∧ 0 ≤ A.1 1 x ∧ A.1 1 x + (pgs A x : Int) ≤ (S : Int) := by
  obtain ⟨p1, p2, p3⟩ := pgs_2 h hx
  have w := h.2.2.2.1 x hx
  have hp : 0 < pgs A x := by rw [p1]; exact Nat.two_pow_pos _
  have hp8 : pgs A x ≤ 8 := by
    rw [p1]
    have : (A.1 0 x - 1).toNat ≤ 3 := by omega
    exact Nat.pow_le_pow_right (by omega) this
  exact ⟨w.2.2.1, w.2.2.2.1, hp, hp8, w.2.2.2.2.1, w.2.2.2.2.2.2.1⟩
theorem in_thr (h : WF n S A dep) {s p : Nat} {t : Int} (hs : s < 6) (ht1 : 1 ≤ t) (ht2 : t ≤ 4) (hp : p + pg t ≤ S) (hal : p % pg t = 0) (hpg : 0 < pg t) (ha2 : (32 * s + p) % pg t = 0) {y : Nat} (hy : Lv A y) : inR A s p (pg t) y = true ↔ y ∈ thr A (32 * s + p) t := by
  have hS := h.2.1
  have hWS := WF_WS h
  obtain ⟨l1, l2, l3, l4, -⟩ := lv_sp h hy
  have hy1 := hy.1
  have hqS : (32 * s + p) % 32 + pg t ≤ S := by omega
  unfold inR
  rw [decide_eq_true_eq]
  constructor
  · rintro ⟨e1, e2, e3⟩
    by_cases z : y ≤ 32 * s + p
    · exact thr_cov h ht1 ht2 (by omega) ha2 (cs_of hWS hy z (by omega))
    · unfold thr
      cases hc : cov A (32 * s + p) with
      | none =>
        dsimp only
        exact stL_mem.mpr ⟨by omega, by omega, hy.2⟩
      | some d =>
        dsimp only
        by_cases zt : t < A.1 0 d
        · exfalso
          have hd := thr_cov h ht1 ht2 (by omega) ha2 hc
          rcases thr_cases h ht1 ht2 (by omega) ha2 hqS hd with ⟨-, -, u1, u2⟩ | ⟨u, -⟩
          · obtain ⟨c1, c2, c3⟩ := cs_some (by omega) hc
            have v1 := cs_of hWS c1 (q := y) (by omega) (by omega)
            have v2 := cs_of hWS hy (q := y) (by omega) (by omega)
            rw [v1] at v2
            have := Option.some.inj v2
            omega
          · exact u zt
        · rw [if_neg zt]
          exact stL_mem.mpr ⟨by omega, by omega, hy.2⟩
  · intro hm
    rcases thr_cases h ht1 ht2 (by omega) ha2 hqS hm with ⟨-, -, u1, u2⟩ | ⟨-, u1, u2, -⟩
    · omega
    · omega
theorem bn_thr (h : WF n S A dep) {s p : Nat} {t : Int} (hs : s < 6) (ht1 : 1 ≤ t) (ht2 : t ≤ 4) (hp : p + pg t ≤ S) (hal : p % pg t = 0) (hpg : 0 < pg t) (ha2 : (32 * s + p) % pg t = 0) {x : Nat} (hx : Lv A x) : bnR A s p (pg t) x = true ↔ ∃ y, y ∈ thr A (32 * s + p) t ∧ blS A y x = true := by
  have hS := h.2.1
  unfold bnR blS
  rcases gv_or h hx with ⟨g1, -⟩ | ⟨g, g1, g2, g3⟩
  · rw [g1]
    constructor
    · intro z; simp at z
    · rintro ⟨y, -, z⟩; simp at z
  · rw [g1, show ((g : Int) + 1 - 1).toNat = g by omega, decide_eq_true (show (0 : Int) < (g : Int) + 1 by omega), Bool.true_and, any1_iff h _ (dep g) g (Nat.le_refl _) g2]
    constructor
    · rintro ⟨y, y1, y2, y3⟩
      exact ⟨y, (in_thr h hs ht1 ht2 hp hal hpg ha2 y1).mp y3, by rw [y2]; rfl⟩
    · rintro ⟨y, y1, y2⟩
      have hy := thr_mem h ht1 ht2 (by omega) y1
      rw [Bool.true_and] at y2
      exact ⟨y, hy, y2, (in_thr h hs ht1 ht2 hp hal hpg ha2 hy).mpr y1⟩
theorem fr_in (h : WF n S A dep) {y : Nat} : ∀ (k x : Nat), dep x ≤ k → Lv A x → bl A y x = true → A.1 1 y ≤ A.1 1 x ∧ A.1 1 x + (pgs A x : Int) ≤ A.1 1 y + (pgs A y : Int) := by
  intro k
  induction k with
  | zero =>
    intro x hk hx hb
    rcases h.2.2.2.2.1 x hx with ⟨g1, -⟩ | ⟨g, g1, g2, -, g3, -⟩
    · rw [bl_root g1] at hb
      have : x = y := by simpa using hb
      subst this; exact ⟨by omega, by omega⟩
    · omega
  | succ k ih =>
    intro x hk hx hb
    rcases h.2.2.2.2.1 x hx with ⟨g1, -⟩ | ⟨g, g1, g2, -, g3, -, g4, g5⟩
    · rw [bl_root g1] at hb
      have : x = y := by simpa using hb
      subst this; exact ⟨by omega, by omega⟩
    · rw [bl_step h y hx g1, Bool.or_eq_true] at hb
      rcases hb with hb | hb
      · have : x = y := by simpa using hb
        subst this; exact ⟨by omega, by omega⟩
      · obtain ⟨i1, i2⟩ := ih g (by omega) g2 hb
        exact ⟨by omega, by omega⟩
/-- the bits of the region's frames -/
theorem c_lf (h : WF n S A dep) (hC : CRep δ σ bn A) {s p w : Nat} (hs : s < 6) (hp : p + w ≤ 32) (a3 : Int32) : ∀ (m i k : Nat) (v : Int32), i + m = w → m < k → (∀ f : Nat, f < 32 → (v.toBitVec.getLsbD f = true ↔ ∃ j, j < i ∧ fAt A (32 * s + p + j) = (f : Int))) →
    ∃ V : Int32, Qu_loss_22 δ k (zI (s : Int)) a3 (zI (p : Int)) (zI ((p + w : Nat) : Int)) v (zI ((p + i : Nat) : Int)) = (if V = 0 then some (-2 : Int32) else Qu_loss_81 δ FU (zI (s : Int)) a3 (zI (p : Int)) (zI ((p + w : Nat) : Int)) V (0 : Int32) (0 : Int32) (0 : Int32)) ∧ ∀ f : Nat, f < 32 → V.toBitVec.getLsbD f = rgF A (32 * s + p) w f := by
  have hS32 := h.2.1
  intro m
  induction m with
  | zero =>
    intro i k v hi hk hv
    obtain ⟨c, rfl⟩ : ∃ c, k = c + 1 := ⟨k - 1, by omega⟩
    have : i = w := by omega
    subst this
    refine ⟨v, by rw [Qu_loss_22, if_pos (by rw [zI_le (by omega) (by omega) (by omega) (by omega)]; omega), bnd_ap, bnd_ap, bnd_ap], fun f hf => ?_⟩
    rw [Bool.eq_iff_iff, hv f hf, rgF_iff]
  | succ m ih =>
    intro i k v hi hk hv
    obtain ⟨c, rfl⟩ : ∃ c, k = c + 1 := ⟨k - 1, by omega⟩
    have hfd := cr_find hC.2.1 (s := (s : Int)) (p := ((p + i : Nat) : Int)) (by omega) (by omega) (by omega) (by omega)
    rw [show (32 * (s : Int) + ((p + i : Nat) : Int)).toNat = 32 * s + (p + i) by omega] at hfd
    have hnext : ∀ v', (∀ f : Nat, f < 32 → (v'.toBitVec.getLsbD f = true ↔ ∃ j, j < i + 1 ∧ fAt A (32 * s + p + j) = (f : Int))) → ∃ V : Int32, Qu_loss_58 (Qu_loss_22 δ c) δ (zI (s : Int)) a3 (zI (p : Int)) (zI ((p + w : Nat) : Int)) v' (zI ((p + i : Nat) : Int)) = (if V = 0 then some (-2 : Int32) else Qu_loss_81 δ FU (zI (s : Int)) a3 (zI (p : Int)) (zI ((p + w : Nat) : Int)) V (0 : Int32) (0 : Int32) (0 : Int32)) ∧ ∀ f : Nat, f < 32 → V.toBitVec.getLsbD f = rgF A (32 * s + p) w f := fun v' hv' => by
      obtain ⟨V, w1, w2⟩ := ih (i + 1) c v' (by omega) (by omega) hv'
      exact ⟨V, by rw [Qu_loss_58, bnd_ap, zI_s1, ← w1, Nat.add_assoc], w2⟩
    rw [Qu_loss_22, if_neg (by rw [zI_le (by omega) (by omega) (by omega) (by omega)]; omega), hfd, bp_some, bnd_ap]
    rw [← Nat.add_assoc]
    cases hcv : cov A (32 * s + p + i) with
    | none =>
      rw [show sc σ none = (-1 : Int) from rfl, if_pos (by decide)]
      refine hnext v (fun f hf => ?_)
      rw [hv f hf]
      have hno : fAt A (32 * s + p + i) = -1 := by unfold fAt; rw [hcv]
      constructor
      · rintro ⟨j, j1, j2⟩; exact ⟨j, by omega, j2⟩
      · rintro ⟨j, j1, j2⟩
        have : j ≠ i := fun z => by rw [z, hno] at j2; omega
        exact ⟨j, by omega, j2⟩
    | some d =>
      obtain ⟨d1, d2, d3⟩ := cs_some (by omega) hcv
      have b1 := cr_lt hC d1
      have hr := fAt_rng h (q := 32 * s + p + i) (by omega)
      have hr0 := hr.2.2 (by rw [hcv]; simp)
      obtain ⟨g, hg⟩ : ∃ g : Nat, fAt A (32 * s + p + i) = (g : Int) := ⟨(fAt A (32 * s + p + i)).toNat, by omega⟩
      have hfr := c_frAt h hC hs (p := p + i) (by omega) (d := d) (by rw [← Nat.add_assoc]; exact hcv)
      rw [← Nat.add_assoc] at hfr
      rw [show sc σ (some d) = (σ d : Int) from rfl, if_neg (by rw [zI_lit, zI_lt (by omega) (by omega) (by omega) (by omega)]; omega), hfr, bp_some, bnd_ap, hg]
      refine hnext _ (fun f hf => ?_)
      rw [bt_or hf (by omega), Bool.or_eq_true, hv f hf, decide_eq_true_eq]
      constructor
      · rintro (⟨j, j1, j2⟩ | z)
        · exact ⟨j, by omega, j2⟩
        · exact ⟨i, by omega, by rw [hg, z]⟩
      · rintro ⟨j, j1, j2⟩
        by_cases c1 : j = i
        · right; rw [c1, hg] at j2; omega
        · exact .inl ⟨j, by omega, j2⟩
theorem c_bn_0 (k : Nat) (a b c : Int32) {i : Nat} (hi : i ≤ 1000) : Qu_isBeneathRegion_11 δ (k + 1) a b c (zI (-1)) (zI (i : Int)) = some (0 : Int32) := by
  rw [Qu_isBeneathRegion_11, if_pos zI_m1]
  split <;> rfl
/-- one step of the walk up -/
theorem c_bn_s (h : WF n S A dep) (hC : CRep δ σ bn A) {s p w : Nat} (hs : s < 6) (hp : p + w ≤ 32) {c i x : Nat} (hx : Lv A x) (hi : i ≤ 191) {r r' : Int32} (up : Qu_isBeneathRegion_69 (Qu_isBeneathRegion_11 δ c) δ (zI (s : Int)) (zI (p : Int)) (zI ((p + w : Nat) : Int)) (zI (σ x : Int)) (zI (i : Int)) = some r) (hr : (if inR A s p w x = true then (1 : Int32) else r) = r') : Qu_isBeneathRegion_11 δ (c + 1) (zI (s : Int)) (zI (p : Int)) (zI ((p + w : Nat) : Int)) (zI (σ x : Int)) (zI (i : Int)) = some r' := by
  have b1 := cr_lt hC hx
  obtain ⟨g1, g2, -, g4, -⟩ := hC.2.2.1 x hx
  obtain ⟨l1, l2, l3, l4, -⟩ := lv_sp h hx
  obtain ⟨p1, p2, p3⟩ := pgs_2 h hx
  have hx1 := hx.1
  have hS := h.2.1
  have hn := h.1
  have hw : (1 : Int32) <<< (zI (A.1 0 x - 1) &&& 31) = zI (pgs A x : Int) := zI_pg p2 p3
  have ea : zI ((x % 32 : Nat) : Int) + zI (pgs A x : Int) = zI ((x % 32 + pgs A x : Nat) : Int) := by rw [zI_add]; congr 1
  rw [Qu_isBeneathRegion_11, if_neg (by rw [zI_lit, zI_le (by omega) (by omega) (by omega) (by omega)]; omega), if_neg (zI_n0 (by omega)), if_pos (zI_in b1 (by omega)), zI_ixn (by omega), bnd_ap, if_pos (zI_in b1 (by omega)), g1, g2, if_pos (zI_in b1 (by omega)), g4, hw, ea, up, ← hr]
  unfold inR
  by_cases z1 : x / 32 = s
  · rw [if_pos (by rw [z1])]
    by_cases z2 : p + w ≤ x % 32
    · rw [if_pos (by rw [zI_le (by omega) (by omega) (by omega) (by omega)]; omega), if_neg (by rw [decide_eq_true_eq]; omega)]
    · rw [if_neg (by rw [zI_le (by omega) (by omega) (by omega) (by omega)]; omega)]
      by_cases z3 : x % 32 + pgs A x ≤ p
      · rw [if_pos (by rw [zI_le (by omega) (by omega) (by omega) (by omega)]; omega), if_neg (by rw [decide_eq_true_eq]; omega)]
      · rw [if_neg (by rw [zI_le (by omega) (by omega) (by omega) (by omega)]; omega), if_pos (by rw [decide_eq_true_eq]; omega)]
  · rw [if_neg (by rw [zI_eq (by omega) (by omega) (by omega) (by omega)]; omega), if_neg (by rw [decide_eq_true_eq]; omega)]
theorem c_bn_l (h : WF n S A dep) (hC : CRep δ σ bn A) {s p w : Nat} (hs : s < 6) (hp : p + w ≤ 32) : ∀ (m k i x : Nat), dep x = m → Lv A x → m + 1 < k → i + m ≤ 191 → Qu_isBeneathRegion_11 δ k (zI (s : Int)) (zI (p : Int)) (zI ((p + w : Nat) : Int)) (zI (σ x : Int)) (zI (i : Int)) = some (bI (any1 (inR A s p w) A x)) := by
  intro m
  induction m with
  | zero =>
    intro k i x hm hx hk hi
    obtain ⟨c, rfl⟩ : ∃ c, k = c + 2 := ⟨k - 2, by omega⟩
    rcases gv_or h hx with ⟨g1, -⟩ | ⟨g, g1, g2, g3⟩
    · rw [any1_root g1]
      have hgv := cr_giver hC hx
      rw [g1, enc_0] at hgv
      have b1 := cr_lt hC hx
      have up : Qu_isBeneathRegion_69 (Qu_isBeneathRegion_11 δ (c + 1)) δ (zI (s : Int)) (zI (p : Int)) (zI ((p + w : Nat) : Int)) (zI (σ x : Int)) (zI (i : Int)) = some (0 : Int32) := by
        rw [Qu_isBeneathRegion_69, if_pos (zI_in b1 (by omega)), zI_ixn (by omega), hgv, bnd_ap, bnd_ap, zI_s1, c_bn_0 _ _ _ _ (by omega)]
      exact c_bn_s h hC hs hp hx (by omega) up (by cases inR A s p w x <;> rfl)
    · omega
  | succ m ih =>
    intro k i x hm hx hk hi
    obtain ⟨c, rfl⟩ : ∃ c, k = c + 1 := ⟨k - 1, by omega⟩
    rcases gv_or h hx with ⟨g1, g0⟩ | ⟨g, g1, g2, g3⟩
    · omega
    · rw [any1_step h _ hx g1]
      have hgv := cr_giver hC hx
      rw [g1, enc_s] at hgv
      have b1 := cr_lt hC hx
      have up : Qu_isBeneathRegion_69 (Qu_isBeneathRegion_11 δ c) δ (zI (s : Int)) (zI (p : Int)) (zI ((p + w : Nat) : Int)) (zI (σ x : Int)) (zI (i : Int)) = some (bI (any1 (inR A s p w) A g)) := by
        rw [Qu_isBeneathRegion_69, if_pos (zI_in b1 (by omega)), zI_ixn (by omega), hgv, bnd_ap, bnd_ap, zI_s1, ih c (i + 1) g (by omega) g2 (by omega) (by omega)]
      exact c_bn_s h hC hs hp hx (by omega) up (by cases inR A s p w x <;> rfl)
end
