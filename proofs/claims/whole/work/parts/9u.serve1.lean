/-! ===== who is served, from where ===== -/
def stB (B : Nat → Int) (s : Nat) : Option Nat → Bool
  | none => true
  | some x => decide (B (2190 + s) < B (2190 + x))
def fwS (B : Nat → Int) (pv : Nat → Int) (a : Int) (b : Option Nat) (s : Nat) : Option Nat := if B (2172 + s) = 1 ∧ pv s = a ∧ stB B s b = true then some s else b
def fwL (B : Nat → Int) (pv : Nat → Int) (a : Int) : Nat → Nat → Option Nat → Option Nat
  | 0, _, b => b
  | m + 1, i, b => fwL B pv a m (i + 1) (fwS B pv a b i)
theorem fw_mem {B : Nat → Int} {pv : Nat → Int} {a : Int} : ∀ (m i : Nat) (b : Option Nat) (x : Nat), fwL B pv a m i b = some x → b = some x ∨ (i ≤ x ∧ x < i + m ∧ B (2172 + x) = 1 ∧ pv x = a) := by
  intro m
  induction m with
  | zero => intro i b x hx; exact .inl hx
  | succ m ih =>
    intro i b x hx
    rcases ih (i + 1) _ x hx with z | z
    · unfold fwS at z
      split at z
      · rename_i w
        cases z
        exact .inr ⟨by omega, by omega, w.1, w.2.1⟩
      · exact .inl z
    · exact .inr ⟨by omega, by omega, z.2.2⟩
def idN (x : Nat) : Nat := x
theorem fw_keep {ee : Int × Int} {n S : Nat} {δ : Sl} {B : Nat → Int} {pv : Nat → Int} {a : Int} {b : Option Nat} {i : Nat} (hX : WX ee n S δ B) (hi : i < 6) (hb : ∀ x, b = some x → x < 6 ∧ B (2172 + x) = 1) : ∀ x, fwS B pv a b i = some x → x < 6 ∧ B (2172 + x) = 1 := fun x hx => by
  unfold fwS at hx
  split at hx
  · rename_i w
    cases hx
    exact ⟨hi, w.1⟩
  · exact hb x hx
theorem wx_w {ee : Int × Int} {n S : Nat} {δ : Sl} {B : Nat → Int} (hX : WX ee n S δ B) {x : Nat} (hx : x < 6) (h1 : B (2172 + x) = 1) : δ 14 x = zI (B (2190 + x)) ∧ 0 < B (2190 + x) ∧ B (2190 + x) ≤ B 2196 ∧ δ 12 x = zI (B (2178 + x)) ∧ 0 ≤ B (2178 + x) ∧ B (2178 + x) < (S : Int) ∧ δ 13 x = zI (B (2184 + x)) ∧ (B (2184 + x) = 1 ∨ B (2184 + x) = 2 ∨ B (2184 + x) = 4) ∧ x < n := by
  rcases hX.1 x hx with z | ⟨z1, z2, z3, z4, z5, z6, z7, z8, z9, z10⟩
  · have := z.1; omega
  · exact ⟨z3, z4, z5, z6, z7, z8, z9, z10, z2⟩
theorem wx_z {ee : Int × Int} {n S : Nat} {δ : Sl} {B : Nat → Int} (hX : WX ee n S δ B) (hW : B 2196 < 2147483648) {x : Nat} (hx : x < 6) : (δ 14 x = 0 ↔ B (2172 + x) ≠ 1) ∧ (B (2172 + x) = 0 ∨ B (2172 + x) = 1) := by
  rcases hX.1 x hx with ⟨z1, z2⟩ | ⟨z1, z2, z3, z4, z5, z6⟩
  · exact ⟨⟨fun _ => by omega, fun _ => z2⟩, .inl z1⟩
  · refine ⟨⟨fun z => ?_, fun z => absurd z1 z⟩, .inr z1⟩
    rw [z3, zI_lit, zI_eq (by omega) (by omega) (by omega) (by omega)] at z
    omega
theorem c_fw_loop {ee : Int × Int} {n S : Nat} {M : Mem} {δ : Sl} {B : Nat → Int} {qv pv : Nat → Int} (hX : WX ee n S δ B) (hW : B 2196 < 2147483648) (hK : SK M δ n S qv) (hpk : PK M δ n pv) (hpn : PN n pv) (hn6 : n ≤ 6) {a : Nat} (ha : a < n) : ∀ (m i k : Nat) (b : Option Nat), i + m = n → m < k → (∀ x, b = some x → x < 6 ∧ B (2172 + x) = 1) →
    Wo_firstWaiting_4 M δ k (zI (a : Int)) (zI (cv b)) (zI (i : Int)) = some (zI (cv (fwL B pv (a : Int) m i b))) := by
  obtain ⟨k0, k1, k2, k3, k4, k5⟩ := hK
  obtain ⟨p0, p1, p2, p3⟩ := hpk
  have hk0 : k0 = p0 := by
    rw [k1, zI_eq (by omega) (by omega) (by omega) (by omega)] at p1
    omega
  subst hk0
  intro m
  induction m with
  | zero =>
    intro i k b hi hk hb
    obtain ⟨c, rfl⟩ : ∃ c, k = c + 1 := ⟨k - 1, by omega⟩
    rw [Wo_firstWaiting_4, k1, gref_z k2, k3, if_pos (by rw [zI_le (by omega) (by omega) (by omega) (by omega)]; omega)]
    rfl
  | succ m ih =>
    intro i k b hi hk hb
    obtain ⟨c, rfl⟩ : ∃ c, k = c + 1 := ⟨k - 1, by omega⟩
    have hib : inb (zI (i : Int)) 6 := by rw [zI_inb (by omega) (by omega)]; omega
    have h58 : ∀ b' : Option Nat, fwS B pv (a : Int) b i = b' → Wo_firstWaiting_58 (Wo_firstWaiting_4 M δ c) M δ (zI (a : Int)) (zI (cv b')) (zI (i : Int)) = some (zI (cv (fwL B pv (a : Int) (m + 1) i b))) := fun b' hb' => by
      rw [Wo_firstWaiting_58, bnd_ap, show (1 : Int32) = zI 1 from rfl, zI_add, show (i : Int) + 1 = ((i + 1 : Nat) : Int) by omega]
      have := ih (i + 1) c b' (by omega) (by omega) (by rw [← hb']; exact fw_keep hX (by omega) hb)
      rw [this, ← hb']
      rfl
    have h56 : Wo_firstWaiting_56 (Wo_firstWaiting_4 M δ c) M δ (zI (a : Int)) (zI (i : Int)) = Wo_firstWaiting_58 (Wo_firstWaiting_4 M δ c) M δ (zI (a : Int)) (zI (cv (some i))) (zI (i : Int)) := by rw [Wo_firstWaiting_56, bnd_ap]; rfl
    have hpv := hpn i (by omega)
    obtain ⟨w1, w2⟩ := wx_z hX hW (x := i) (by omega)
    rw [Wo_firstWaiting_4, k1, gref_z k2, k3, if_neg (by rw [zI_le (by omega) (by omega) (by omega) (by omega)]; omega), if_pos hib, zI_ix (by omega) (by omega), Int.toNat_natCast]
    by_cases c1 : B (2172 + i) = 1
    · rw [if_neg (fun z => (w1.mp z) c1), gref_z k2, if_pos hib, p3 i (by omega)]
      by_cases c2 : pv i = (a : Int)
      · rw [if_pos (by rw [c2])]
        have hwi := wx_w hX (show i < 6 by omega) c1
        cases hbb : b with
        | none =>
          subst hbb
          rw [show cv none = (-1 : Int) from rfl, if_pos (by decide), h56]
          exact h58 _ (by unfold fwS; rw [if_pos ⟨c1, c2, rfl⟩])
        | some x =>
          subst hbb
          obtain ⟨x1, x2⟩ := hb x rfl
          have hwx := wx_w hX x1 x2
          have hskip := h58 (some x)
          rw [show cv (some x) = (x : Int) from rfl] at hskip ⊢
          rw [if_neg (by rw [zI_lit, zI_lt (by omega) (by omega) (by omega) (by omega)]; omega), if_pos hib, if_pos (by rw [zI_inb (by omega) (by omega)]; omega), zI_ix (by omega) (by omega), Int.toNat_natCast, hwi.1, hwx.1]
          by_cases c3 : B (2190 + x) ≤ B (2190 + i)
          · rw [if_pos (by rw [zI_le (by omega) (by omega) (by omega) (by omega)]; exact c3)]
            exact hskip (by
              unfold fwS
              rw [if_neg (fun z => by
                have z2 : B (2190 + i) < B (2190 + x) := of_decide_eq_true z.2.2
                omega)])
          · rw [if_neg (by rw [zI_le (by omega) (by omega) (by omega) (by omega)]; exact c3), h56]
            exact h58 _ (by unfold fwS; rw [if_pos ⟨c1, c2, decide_eq_true (show B (2190 + i) < B (2190 + x) by omega)⟩])
      · rw [if_neg (by rw [zI_eq (by omega) (by omega) (by omega) (by omega)]; exact c2)]
        exact h58 b (by unfold fwS; rw [if_neg (fun z => c2 z.2.1)])
    · rw [if_pos (w1.mpr c1)]
      exact h58 b (by unfold fwS; rw [if_neg (fun z => c1 z.1)])
theorem m_wtg {ee : Int × Int} {n S : Nat} {δ μ : Sl} {b : Nat} {B : Nat → Int} (hb : MB μ b) (hX : WX ee n S δ B) {i : Nat} (hi : i < 6) : Mo_isWaiting (bst μ b B) (zI (i : Int)) = some (bI (decide (B (2172 + i) = 1))) := by
  have o := m_of hb B (k := ((2172 + i : Nat) : Int)) (by omega) (by omega)
  rw [Int.toNat_natCast] at o
  rw [Mo_isWaiting, show (2172 : Int32) = zI 2172 from rfl, zI_add, show (2172 : Int) + (i : Int) = ((2172 + i : Nat) : Int) by omega, o, bp_some]
  rcases hX.1 i hi with ⟨z1, z2⟩ | ⟨z1, z2⟩
  · rw [z1, if_neg (by decide)]; rfl
  · rw [z1, if_pos (by rfl)]; rfl
theorem m_fw_loop {ee : Int × Int} {n S : Nat} {δ μ : Sl} {b : Nat} {B : Nat → Int} {pv : Nat → Int} (hmb : MB μ b) (hX : WX ee n S δ B) (hW : B 2196 < 2147483648) (h11 : μ 34 11 = zI (n : Int)) (hpm : PM μ n pv) (hpn : PN n pv) (hn6 : n ≤ 6) {a : Nat} (ha : a < n) : ∀ (m i k : Nat) (bt : Option Nat), i + m = n → m < k → (∀ x, bt = some x → x < 6 ∧ B (2172 + x) = 1) →
    Mo_firstFor_4 (bst μ b B) k (zI (a : Int)) (zI (cv bt)) (zI (i : Int)) = some (zI (cv (fwL B pv (a : Int) m i bt))) := by
  have e11 : bst μ b B 34 11 = zI (n : Int) := by rw [bst_ne _ _ _ (by decide), h11]
  intro m
  induction m with
  | zero =>
    intro i k bt hi hk hb
    obtain ⟨c, rfl⟩ : ∃ c, k = c + 1 := ⟨k - 1, by omega⟩
    rw [Mo_firstFor_4, e11, if_pos (by rw [zI_le (by omega) (by omega) (by omega) (by omega)]; omega)]
    rfl
  | succ m ih =>
    intro i k bt hi hk hb
    obtain ⟨c, rfl⟩ : ∃ c, k = c + 1 := ⟨k - 1, by omega⟩
    have h60 : ∀ b' : Option Nat, fwS B pv (a : Int) bt i = b' → Mo_firstFor_60 (Mo_firstFor_4 (bst μ b B) c) (bst μ b B) (zI (a : Int)) (zI (cv b')) (zI (i : Int)) = some (zI (cv (fwL B pv (a : Int) (m + 1) i bt))) := fun b' hb' => by
      rw [Mo_firstFor_60, bnd_ap, show (1 : Int32) = zI 1 from rfl, zI_add, show (i : Int) + 1 = ((i + 1 : Nat) : Int) by omega]
      have := ih (i + 1) c b' (by omega) (by omega) (by rw [← hb']; exact fw_keep hX (by omega) hb)
      rw [this, ← hb']
      rfl
    have h58 : Mo_firstFor_58 (Mo_firstFor_4 (bst μ b B) c) (bst μ b B) (zI (a : Int)) (zI (i : Int)) = Mo_firstFor_60 (Mo_firstFor_4 (bst μ b B) c) (bst μ b B) (zI (a : Int)) (zI (cv (some i))) (zI (i : Int)) := by rw [Mo_firstFor_58, bnd_ap]; rfl
    have hpv := hpn i (by omega)
    have e38 : bst μ b B 38 i = zI (pv i) := by rw [bst_ne _ _ _ (by decide)]; exact hpm i (by omega)
    rw [Mo_firstFor_4, e11, if_neg (by rw [zI_le (by omega) (by omega) (by omega) (by omega)]; omega), if_pos (by rw [zI_inb (by omega) (by omega)]; omega), zI_ix (by omega) (by omega), Int.toNat_natCast, e38]
    by_cases c2 : pv i = (a : Int)
    · rw [if_pos (by rw [c2]), m_wtg hmb hX (by omega), bp_some, bI_if]
      by_cases c1 : B (2172 + i) = 1
      · rw [decide_eq_true c1, if_pos rfl]
        have hwi := wx_w hX (show i < 6 by omega) c1
        cases hbb : bt with
        | none =>
          subst hbb
          rw [show cv none = (-1 : Int) from rfl, if_pos (by decide), h58]
          exact h60 _ (by unfold fwS; rw [if_pos ⟨c1, c2, rfl⟩])
        | some x =>
          subst hbb
          obtain ⟨x1, x2⟩ := hb x rfl
          have hwx := wx_w hX x1 x2
          have hskip := h60 (some x)
          have o1 := m_of hmb B (k := ((2190 + i : Nat) : Int)) (by omega) (by omega)
          have o2 := m_of hmb B (k := ((2190 + x : Nat) : Int)) (by omega) (by omega)
          rw [Int.toNat_natCast] at o1 o2
          rw [show cv (some x) = (x : Int) from rfl] at hskip ⊢
          rw [if_neg (by rw [zI_lit, zI_lt (by omega) (by omega) (by omega) (by omega)]; omega), show (2190 : Int32) = zI 2190 from rfl, zI_add, zI_add, show (2190 : Int) + (i : Int) = ((2190 + i : Nat) : Int) by omega, show (2190 : Int) + (x : Int) = ((2190 + x : Nat) : Int) by omega, o1, bp_some, o2, bp_some]
          by_cases c3 : B (2190 + x) ≤ B (2190 + i)
          · rw [if_pos (by rw [zI_le (by omega) (by omega) (by omega) (by omega)]; exact c3)]
            exact hskip (by
              unfold fwS
              rw [if_neg (fun z => by
                have z2 : B (2190 + i) < B (2190 + x) := of_decide_eq_true z.2.2
                omega)])
          · rw [if_neg (by rw [zI_le (by omega) (by omega) (by omega) (by omega)]; exact c3), h58]
            exact h60 _ (by unfold fwS; rw [if_pos ⟨c1, c2, decide_eq_true (show B (2190 + i) < B (2190 + x) by omega)⟩])
      · rw [decide_eq_false c1, if_neg (by simp)]
        exact h60 bt (by unfold fwS; rw [if_neg (fun z => c1 z.1)])
    · rw [if_neg (by rw [zI_eq (by omega) (by omega) (by omega) (by omega)]; exact c2)]
      exact h60 bt (by unfold fwS; rw [if_neg (fun z => c2 z.2.1)])
def fwt (B : Nat → Int) (pv : Nat → Int) (n a : Nat) : Option Nat := fwL B pv (a : Int) n 0 none
theorem c_fw {ee : Int × Int} {n S : Nat} {M : Mem} {δ : Sl} {B : Nat → Int} {qv pv : Nat → Int} (hX : WX ee n S δ B) (hW : B 2196 < 2147483648) (hK : SK M δ n S qv) (hpk : PK M δ n pv) (hpn : PN n pv) (hn6 : n ≤ 6) {a : Nat} (ha : a < n) : Wo_firstWaiting M δ (zI (a : Int)) = some (zI (cv (fwt B pv n a))) := by
  have := c_fw_loop hX hW hK hpk hpn hn6 ha n 0 FU none (by omega) (FU_gt (by omega)) (fun x hx => by cases hx)
  unfold Wo_firstWaiting
  rw [bnd_ap, bnd_ap]
  exact this
theorem m_fw {ee : Int × Int} {n S : Nat} {δ μ : Sl} {b : Nat} {B : Nat → Int} {pv : Nat → Int} (hmb : MB μ b) (hX : WX ee n S δ B) (hW : B 2196 < 2147483648) (h11 : μ 34 11 = zI (n : Int)) (hpm : PM μ n pv) (hpn : PN n pv) (hn6 : n ≤ 6) {a : Nat} (ha : a < n) : Mo_firstFor (bst μ b B) (zI (a : Int)) = some (zI (cv (fwt B pv n a))) := by
  have := m_fw_loop hmb hX hW h11 hpm hpn hn6 ha n 0 FU none (by omega) (FU_gt (by omega)) (fun x hx => by cases hx)
  unfold Mo_firstFor
  rw [bnd_ap, bnd_ap]
  exact this
/-! where a page comes from -/
theorem c_with {n S : Nat} {A : Ab} {dep : Nat → Nat} {δ : Sl} {σ : Nat → Nat} {bn : Nat} (M : Mem) (h : WF n S A dep) (hC : CRep δ σ bn A) {s p : Nat} {r : Int} (hs : s < 6) (hp : p < 32) (hr1 : 0 ≤ r) (hr2 : r ≤ 7) : Wo_withRight M δ (zI (s : Int)) (zI (p : Int)) (zI r) = some (zI (if hsB A (32 * s + p) r = true then sc σ (cov A (32 * s + p)) else -1)) := by
  have hfd := cr_find hC.2.1 (s := (s : Int)) (p := (p : Int)) (by omega) (by omega) (by omega) (by omega)
  rw [show (32 * (s : Int) + (p : Int)).toNat = 32 * s + p by omega] at hfd
  rw [Wo_withRight, hfd, bp_some, bnd_ap]
  unfold hsB
  cases hcv : cov A (32 * s + p) with
  | none => rw [show sc σ none = (-1 : Int) from rfl, if_pos (by decide)]; simp; rfl
  | some d =>
    obtain ⟨d1, d2, d3⟩ := cs_some (by omega) hcv
    have b1 := cr_lt hC d1
    have hwa := h.2.2.2.1 d d1
    have h2a : 0 ≤ A.1 2 d ∧ A.1 2 d ≤ 7 := ⟨hwa.2.2.2.2.2.2.2.1, hwa.2.2.2.2.2.2.2.2.1⟩
    obtain ⟨l1, l2, l3⟩ := zI_and7 h2a.1 h2a.2 hr1 hr2
    have e22 := (hC.2.2.1 d d1).2.2.2.2.1
    rw [show sc σ (some d) = (σ d : Int) from rfl, if_neg (by rw [zI_lit, zI_lt (by omega) (by omega) (by omega) (by omega)]; omega), if_pos (by rw [zI_inb (by omega) (by omega)]; omega), zI_ix (by omega) (by omega), Int.toNat_natCast, e22, l1]
    by_cases c : la (A.1 2 d) r = 0
    · rw [if_pos (by rw [c]; rfl), if_neg (by simp [c])]; rfl
    · rw [if_neg (by rw [zI_lit, zI_eq (by omega) (by omega) (by omega) (by omega)]; exact c), if_pos (by simp [c])]
