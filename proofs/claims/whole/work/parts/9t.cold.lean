/-! ===== frames, the coldest ===== -/
def fAt (A : Ab) (q : Nat) : Int := match cov A q with
  | none => -1
  | some d => A.1 1 d + ((q : Int) - (d : Int))
theorem fAt_rng {n S : Nat} {A : Ab} {dep : Nat → Nat} (h : WF n S A dep) {q : Nat} (hq : q < 192) : -1 ≤ fAt A q ∧ fAt A q < (S : Int) ∧ (cov A q ≠ none → 0 ≤ fAt A q) := by
  unfold fAt
  cases hc : cov A q with
  | none => dsimp only; exact ⟨by omega, by omega, fun z => absurd rfl z⟩
  | some d =>
    obtain ⟨d1, d2, d3⟩ := cs_some hq hc
    have hwa := h.2.2.2.1 d d1
    have h1 := hwa.2.2.2.2.1
    have h2 := hwa.2.2.2.2.2.2.1
    dsimp only
    exact ⟨by omega, by omega, fun _ => by omega⟩
theorem c_frAt {n S : Nat} {A : Ab} {dep : Nat → Nat} {δ : Sl} {σ : Nat → Nat} {bn : Nat} (h : WF n S A dep) (hC : CRep δ σ bn A) {s p d : Nat} (hs : s < 6) (hp : p < 32) (hc : cov A (32 * s + p) = some d) : Qu_frameAt δ (zI (σ d : Int)) (zI (p : Int)) = some (zI (fAt A (32 * s + p))) := by
  obtain ⟨d1, d2, d3⟩ := cs_some (by omega) hc
  have b1 := cr_lt hC d1
  have hcf := hC.2.2.1 d d1
  have hwa := h.2.2.2.1 d d1
  have hm := hwa.2.2.2.1
  have hS := h.2.1
  have hibd : inb (zI (σ d : Int)) 192 := by rw [zI_inb (by omega) (by omega)]; omega
  have e : fAt A (32 * s + p) = A.1 1 d + (((32 * s + p : Nat) : Int) - (d : Int)) := by unfold fAt; rw [hc]
  rw [Qu_frameAt, if_pos hibd, if_pos hibd, zI_ix (by omega) (by omega), Int.toNat_natCast, hcf.2.2.1, hcf.2.1, zI_add, zI_sub, e]
  congr 2
  omega
theorem m_frAt {n S : Nat} {A : Ab} {dep : Nat → Nat} {μ : Sl} {b : Nat} {B : Nat → Int} (hb : MB μ b) (h : WF n S A dep) (hM : MRep B A) {s p : Nat} (hs : s < 6) (hp : p < 32) : Mo_frameAt (bst μ b B) (zI (s : Int)) (zI (p : Int)) = some (zI (fAt A (32 * s + p))) := by
  have hcov := m_cover hb (MR_0 h hM) (s := (s : Int)) (p := (p : Int)) (by omega) (by omega) (by omega) (by omega)
  rw [show (32 * (s : Int) + (p : Int)).toNat = 32 * s + p by omega] at hcov
  rw [Mo_frameAt, hcov, bp_some, bnd_ap]
  unfold fAt
  cases hc : cov A (32 * s + p) with
  | none => rw [show cv none = (-1 : Int) from rfl, if_neg (by decide)]; rfl
  | some d =>
    obtain ⟨d1, d2, d3⟩ := cs_some (by omega) hc
    have hd1 := d1.1
    have o3 := m_of hb B (k := ((192 + d : Nat) : Int)) (by omega) (by omega)
    rw [Int.toNat_natCast, (hM.2.1 d d1).1] at o3
    rw [show cv (some d) = (d : Int) from rfl, if_pos (by rw [zI_lit, zI_le (by omega) (by omega) (by omega) (by omega)]; omega), show (192 : Int32) = zI 192 from rfl, zI_add, show (192 : Int) + (d : Int) = ((192 + d : Nat) : Int) by omega, o3, bp_some, show (32 : Int32) = zI 32 from rfl, zI_mul, zI_add, zI_add, zI_sub]
    congr 2
    dsimp only
    omega
/-- may it go -/
def okG (A : Ab) (v2 : Int32) (d : Nat) : Bool := decide (v2 = 0) || (decide (A.1 3 d ≠ 0) && !td A d)
def ltB (A : Ab) (d : Nat) : Option Nat → Bool
  | none => true
  | some x => decide (A.1 8 d < A.1 8 x)
def clS (A : Ab) (v2 : Int32) (s : Nat) (b : Option Nat) (i : Nat) : Option Nat :=
  if 0 < A.1 0 (32 * s + i) ∧ okG A v2 (32 * s + i) = true ∧ ltB A (32 * s + i) b = true then some (32 * s + i) else b
def clL (A : Ab) (v2 : Int32) (s : Nat) : Nat → Nat → Option Nat → Option Nat
  | 0, _, b => b
  | m + 1, i, b => clL A v2 s m (i + 1) (clS A v2 s b i)
theorem clS_none {A : Ab} {v2 : Int32} {s i : Nat} {b : Option Nat} (h : ¬ 0 < A.1 0 (32 * s + i)) : clS A v2 s b i = b := by
  unfold clS; rw [if_neg (fun z => h z.1)]
theorem clS_lv {A : Ab} {v2 : Int32} {s i : Nat} {b : Option Nat} (hs : s < 6) (hi : i < 32) (hb : ∀ x, b = some x → Lv A x) : ∀ x, clS A v2 s b i = some x → Lv A x := fun x hx => by
  unfold clS at hx
  split at hx
  · rename_i z
    cases hx
    exact ⟨by omega, z.1⟩
  · exact hb x hx
theorem c_cold_loop {n S : Nat} {A : Ab} {dep : Nat → Nat} {δ : Sl} {σ : Nat → Nat} {bn : Nat} (h : WF n S A dep) (hC : CRep δ σ bn A) {s : Nat} (hs : s < 6) (v2 : Int32) : ∀ (m i k : Nat) (b : Option Nat), i + m = 32 → m < k → (∀ x, b = some x → Lv A x) →
    De_coldestOf_5 δ k (zI (s : Int)) v2 (zI (sc σ b)) (zI (i : Int)) = some (zI (sc σ (clL A v2 s m i b))) := by
  have h8 : ∀ x, Lv A x → 0 ≤ A.1 8 x ∧ A.1 8 x ≤ 1266679808 := fun x hx => by
    have := h.2.2.2.1 x hx
    exact ⟨this.2.2.2.2.2.2.2.2.2.1, this.2.2.2.2.2.2.2.2.2.2⟩
  intro m
  induction m with
  | zero =>
    intro i k b hi hk hb
    obtain ⟨c, rfl⟩ : ∃ c, k = c + 1 := ⟨k - 1, by omega⟩
    have : i = 32 := by omega
    subst this
    rw [De_coldestOf_5, if_pos (by decide)]
    rfl
  | succ m ih =>
    intro i k b hi hk hb
    obtain ⟨c, rfl⟩ : ∃ c, k = c + 1 := ⟨k - 1, by omega⟩
    have hfd := cr_find hC.2.1 (s := (s : Int)) (p := (i : Int)) (by omega) (by omega) (by omega) (by omega)
    rw [show (32 * (s : Int) + (i : Int)).toNat = 32 * s + i by omega] at hfd
    have hws := WF_WS h
    have h88 : ∀ b' : Option Nat, clS A v2 s b i = b' → De_coldestOf_88 (De_coldestOf_5 δ c) δ (zI (s : Int)) v2 (zI (sc σ b')) (zI (i : Int)) = some (zI (sc σ (clL A v2 s (m + 1) i b))) := fun b' hb' => by
      rw [De_coldestOf_88, bnd_ap, show (1 : Int32) = zI 1 from rfl, zI_add, show (i : Int) + 1 = ((i + 1 : Nat) : Int) by omega]
      have := ih (i + 1) c b' (by omega) (by omega) (by rw [← hb']; exact clS_lv hs (by omega) hb)
      rw [this, ← hb']
      rfl
    rw [De_coldestOf_5, if_neg (by rw [zI_lit, zI_le (by omega) (by omega) (by omega) (by omega)]; omega), hfd, bp_some, bnd_ap]
    cases hcv : cov A (32 * s + i) with
    | none =>
      rw [show sc σ none = (-1 : Int) from rfl, if_pos (by decide)]
      exact h88 b (clS_none (fun z => by
        have := cs_self hws (d := 32 * s + i) ⟨by omega, z⟩
        rw [hcv] at this; cases this))
    | some d =>
      obtain ⟨d1, d2, d3⟩ := cs_some (by omega) hcv
      have b1 := cr_lt hC d1
      have e19 := (hC.2.2.1 d d1).2.1
      have hwa := h.2.2.2.1 d d1
      have hm32 := hwa.2.2.2.1
      have hS32 := h.2.1
      have hibd : inb (zI (σ d : Int)) 192 := by rw [zI_inb (by omega) (by omega)]; omega
      rw [show sc σ (some d) = (σ d : Int) from rfl, if_neg (by rw [zI_lit, zI_lt (by omega) (by omega) (by omega) (by omega)]; omega), if_pos hibd, zI_ix (by omega) (by omega), Int.toNat_natCast, e19]
      by_cases hde : d = 32 * s + i
      · rw [if_pos (by rw [hde]; congr 1; omega)]
        have h62 : ltB A (32 * s + i) b = true → De_coldestOf_62 (De_coldestOf_5 δ c) δ (zI (s : Int)) v2 (zI (sc σ b)) (zI (i : Int)) (zI (σ d : Int)) = some (zI (sc σ (clL A v2 s (m + 1) i b))) := fun hbest => by
          have h85 : De_coldestOf_85 (De_coldestOf_5 δ c) δ (zI (s : Int)) v2 (zI (i : Int)) (zI (σ d : Int)) = De_coldestOf_88 (De_coldestOf_5 δ c) δ (zI (s : Int)) v2 (zI (sc σ (some d))) (zI (i : Int)) := by rw [De_coldestOf_85, bnd_ap]; rfl
          rw [De_coldestOf_62]
          by_cases c1 : v2 = 0
          · rw [if_pos c1, h85]
            exact h88 (some d) (by unfold clS; rw [if_pos ⟨by rw [← hde]; exact d1.2, by unfold okG; simp [c1], hbest⟩, hde])
          · rw [if_neg c1, if_pos hibd, zI_ix (by omega) (by omega), Int.toNat_natCast, cr_giver hC d1]
            rcases gv_or h d1 with ⟨g1, -⟩ | ⟨g, g1, g2, -⟩
            · rw [g1, enc_0, if_pos (by decide)]
              exact h88 b (by unfold clS; rw [if_neg (fun z => by have := z.2.1; unfold okG at this; rw [← hde] at this; simp [c1, g1] at this)])
            · have bg := cr_lt hC g2
              rw [g1, enc_s, if_neg (by rw [zI_lit, zI_lt (by omega) (by omega) (by omega) (by omega)]; omega), c_tied h hC d1, bp_some, bI_if]
              by_cases c2 : td A d = true
              · rw [if_pos c2]
                exact h88 b (by unfold clS; rw [if_neg (fun z => by have := z.2.1; unfold okG at this; rw [← hde] at this; simp [c1, c2] at this)])
              · rw [if_neg c2, h85]
                exact h88 (some d) (by
                  unfold clS
                  rw [if_pos ⟨by rw [← hde]; exact d1.2, by
                    unfold okG
                    rw [← hde]
                    have : A.1 3 d ≠ 0 := by omega
                    simp [this, c2], hbest⟩, hde])
        cases hbb : b with
        | none =>
          subst hbb
          rw [show sc σ none = (-1 : Int) from rfl, if_pos (by decide)]
          exact h62 rfl
        | some x =>
          subst hbb
          have hx := hb x rfl
          have bx := cr_lt hC hx
          have e31d := (hC.2.2.1 d d1).2.2.2.2.2.2.2.2
          have e31x := (hC.2.2.1 x hx).2.2.2.2.2.2.2.2
          have r1 := h8 d d1
          have r2 := h8 x hx
          obtain ⟨a, ha⟩ : ∃ a : Nat, A.1 8 d = (a : Int) := ⟨(A.1 8 d).toNat, by omega⟩
          obtain ⟨a', ha'⟩ : ∃ a : Nat, A.1 8 x = (a : Int) := ⟨(A.1 8 x).toNat, by omega⟩
          rw [show sc σ (some x) = (σ x : Int) from rfl, if_neg (by rw [zI_lit, zI_lt (by omega) (by omega) (by omega) (by omega)]; omega), if_pos hibd, if_pos (by rw [zI_inb (by omega) (by omega)]; omega), zI_ix (by omega) (by omega), Int.toNat_natCast, e31d, e31x, ha, ha', f_cmp (by omega) (by omega)]
          have h62' := h62
          rw [show sc σ (some x) = (σ x : Int) from rfl] at h62'
          have hskip := h88 (some x)
          rw [show sc σ (some x) = (σ x : Int) from rfl] at hskip
          by_cases c1 : a < a'
          · rw [if_pos c1, if_pos (by decide)]
            exact h62' (by show decide (A.1 8 (32 * s + i) < A.1 8 x) = true; rw [← hde, ha, ha']; exact decide_eq_true (by omega))
          · have hn : ¬ (ltB A (32 * s + i) (some x) = true) := by
              show ¬ (decide (A.1 8 (32 * s + i) < A.1 8 x) = true)
              rw [← hde, ha, ha']; simp; omega
            rw [if_neg c1]
            by_cases c2 : a = a'
            · rw [if_pos c2, if_neg (by decide)]
              exact hskip (by unfold clS; rw [if_neg (fun z => hn z.2.2)])
            · rw [if_neg c2, if_neg (by decide)]
              exact hskip (by unfold clS; rw [if_neg (fun z => hn z.2.2)])
      · rw [if_neg (by rw [zI_eq (by omega) (by omega) (by omega) (by omega)]; omega)]
        exact h88 b (clS_none (fun z => hde (by
          have := cs_self hws (d := 32 * s + i) ⟨by omega, z⟩
          rw [hcv] at this; cases this; rfl)))
theorem clL_top {n S : Nat} {A : Ab} {dep : Nat → Nat} (h : WF n S A dep) (v2 : Int32) {s : Nat} (hs : s < 6) : ∀ (m i : Nat) (b : Option Nat), S ≤ i → i + m ≤ 32 → clL A v2 s m i b = b := by
  intro m
  induction m with
  | zero => intro i b _ _; rfl
  | succ m ih =>
    intro i b hi hm
    show clL A v2 s m (i + 1) (clS A v2 s b i) = b
    rw [clS_none (fun z => by
      have := (h.2.2.2.1 (32 * s + i) ⟨by omega, z⟩).2.2.2.1
      have hp := pgs_pos h (show Lv A (32 * s + i) from ⟨by omega, z⟩)
      omega), ih (i + 1) b (by omega) (by omega)]
theorem clL_add (A : Ab) (v2 : Int32) (s : Nat) : ∀ (m1 m2 i : Nat) (b : Option Nat), clL A v2 s (m1 + m2) i b = clL A v2 s m2 (i + m1) (clL A v2 s m1 i b) := by
  intro m1
  induction m1 with
  | zero => intro m2 i b; rw [Nat.zero_add]; rfl
  | succ m1 ih =>
    intro m2 i b
    rw [show m1 + 1 + m2 = (m1 + m2) + 1 by omega]
    show clL A v2 s (m1 + m2) (i + 1) (clS A v2 s b i) = _
    rw [ih, show i + 1 + m1 = i + (m1 + 1) by omega]
    rfl
def cld (A : Ab) (v2 : Int32) (s : Nat) : Option Nat := clL A v2 s 32 0 none
theorem c_cold {n S : Nat} {A : Ab} {dep : Nat → Nat} {δ : Sl} {σ : Nat → Nat} {bn : Nat} (h : WF n S A dep) (hC : CRep δ σ bn A) {s : Nat} (hs : s < 6) (v2 : Int32) : De_coldestOf δ (zI (s : Int)) v2 = some (zI (sc σ (cld A v2 s))) := by
  have := c_cold_loop h hC hs v2 32 0 FU none (by omega) (FU_gt (by omega)) (fun x hx => by cases hx)
  unfold De_coldestOf
  rw [bnd_ap, bnd_ap]
  exact this
theorem m_cold_loop {n S : Nat} {A : Ab} {dep : Nat → Nat} {μ : Sl} {b : Nat} {B : Nat → Int} (hmb : MB μ b) (h : WF n S A dep) (hM : MRep B A) (h9 : T9 A) (hS : μ 41 3 = zI (S : Int)) {s : Nat} (hs : s < 6) (v2 : Int32) : ∀ (m i k : Nat) (bt : Option Nat), i + m = S → m < k → (∀ x, bt = some x → Lv A x) →
    Mo_coldestOf_5 (bst μ b B) k (zI (s : Int)) v2 (zI (cv bt)) (zI (i : Int)) = some (zI (cv (clL A v2 s m i bt))) := by
  have hS32 := h.2.1
  have h8 : ∀ x, Lv A x → 0 ≤ A.1 8 x ∧ A.1 8 x ≤ 1266679808 := fun x hx => by
    have := h.2.2.2.1 x hx
    exact ⟨this.2.2.2.2.2.2.2.2.2.1, this.2.2.2.2.2.2.2.2.2.2⟩
  have hsz : Mo_size (bst μ b B) = some (zI (S : Int)) := by
    rw [Mo_size, if_pos (by decide), show ix (3 : Int32) = 3 from rfl, bst_ne _ _ _ (by decide), hS]
  intro m
  induction m with
  | zero =>
    intro i k bt hi hk hb
    obtain ⟨c, rfl⟩ : ∃ c, k = c + 1 := ⟨k - 1, by omega⟩
    rw [Mo_coldestOf_5, hsz, bp_some, if_pos (by rw [zI_le (by omega) (by omega) (by omega) (by omega)]; omega)]
    rfl
  | succ m ih =>
    intro i k bt hi hk hb
    obtain ⟨c, rfl⟩ : ∃ c, k = c + 1 := ⟨k - 1, by omega⟩
    have hdd := m_deed hmb h hM (x := 32 * s + i) (by omega)
    have h86 : ∀ b' : Option Nat, clS A v2 s bt i = b' → Mo_coldestOf_86 (Mo_coldestOf_5 (bst μ b B) c) (bst μ b B) (zI (s : Int)) v2 (zI (cv b')) (zI (i : Int)) = some (zI (cv (clL A v2 s (m + 1) i bt))) := fun b' hb' => by
      rw [Mo_coldestOf_86, bnd_ap, show (1 : Int32) = zI 1 from rfl, zI_add, show (i : Int) + 1 = ((i + 1 : Nat) : Int) by omega]
      have := ih (i + 1) c b' (by omega) (by omega) (by rw [← hb']; exact clS_lv hs (by omega) hb)
      rw [this, ← hb']
      rfl
    rw [Mo_coldestOf_5, hsz, bp_some, if_neg (by rw [zI_le (by omega) (by omega) (by omega) (by omega)]; omega), show (32 : Int32) = zI 32 from rfl, zI_mul, zI_add, show 32 * (s : Int) + (i : Int) = ((32 * s + i : Nat) : Int) by omega, bnd_ap, hdd, bp_some, bI_if]
    by_cases c0 : 0 < A.1 0 (32 * s + i)
    · have hd : Lv A (32 * s + i) := ⟨by omega, c0⟩
      rw [decide_eq_true c0, if_pos rfl]
      have h57 : okG A v2 (32 * s + i) = true → Mo_coldestOf_57 (Mo_coldestOf_5 (bst μ b B) c) (bst μ b B) (zI (s : Int)) v2 (zI (cv bt)) (zI (i : Int)) (zI ((32 * s + i : Nat) : Int)) = some (zI (cv (clL A v2 s (m + 1) i bt))) := fun hok => by
        have h83 : Mo_coldestOf_83 (Mo_coldestOf_5 (bst μ b B) c) (bst μ b B) (zI (s : Int)) v2 (zI (i : Int)) (zI ((32 * s + i : Nat) : Int)) = Mo_coldestOf_86 (Mo_coldestOf_5 (bst μ b B) c) (bst μ b B) (zI (s : Int)) v2 (zI (cv (some (32 * s + i)))) (zI (i : Int)) := by rw [Mo_coldestOf_83, bnd_ap]; rfl
        rw [Mo_coldestOf_57]
        cases hbb : bt with
        | none =>
          subst hbb
          rw [show cv none = (-1 : Int) from rfl, if_pos (by decide), h83]
          exact h86 _ (by unfold clS; rw [if_pos ⟨c0, hok, rfl⟩])
        | some x =>
          subst hbb
          have hx := hb x rfl
          have hx1 := hx.1
          have r1 := h8 _ hd
          have r2 := h8 x hx
          have o1 := m_of hmb B (k := ((1536 + (32 * s + i) : Nat) : Int)) (by omega) (by omega)
          rw [Int.toNat_natCast, (hM.2.1 _ hd).2.2.2.1] at o1
          have o2 := m_of hmb B (k := ((1536 + x : Nat) : Int)) (by omega) (by omega)
          rw [Int.toNat_natCast, (hM.2.1 x hx).2.2.2.1] at o2
          have hskip := h86 (some x)
          rw [show cv (some x) = (x : Int) from rfl] at hskip ⊢
          rw [if_neg (by rw [zI_lit, zI_lt (by omega) (by omega) (by omega) (by omega)]; omega), show (1536 : Int32) = zI 1536 from rfl, zI_add, show (1536 : Int) + ((32 * s + i : Nat) : Int) = ((1536 + (32 * s + i) : Nat) : Int) by omega, o1, bp_some, zI_add, show (1536 : Int) + (x : Int) = ((1536 + x : Nat) : Int) by omega, o2, bp_some]
          by_cases c1 : A.1 8 x ≤ A.1 8 (32 * s + i)
          · rw [if_pos (by rw [zI_le (by omega) (by omega) (by omega) (by omega)]; exact c1)]
            exact hskip (by
              unfold clS
              rw [if_neg (fun z => by
                have z2 : A.1 8 (32 * s + i) < A.1 8 x := of_decide_eq_true z.2.2
                omega)])
          · rw [if_neg (by rw [zI_le (by omega) (by omega) (by omega) (by omega)]; exact c1), h83]
            exact h86 _ (by unfold clS; rw [if_pos ⟨c0, hok, decide_eq_true (show A.1 8 (32 * s + i) < A.1 8 x by omega)⟩])
      by_cases c1 : v2 = 0
      · rw [if_pos c1]
        exact h57 (by unfold okG; simp [c1])
      · rw [if_neg c1, m_giver hmb (by omega), bp_some, (hM.2.1 _ hd).2.2.1]
        rcases gv_or h hd with ⟨g1, -⟩ | ⟨g, g1, g2, -⟩
        · rw [g1, if_pos (by decide)]
          exact h86 bt (by unfold clS; rw [if_neg (fun z => by have := z.2.1; unfold okG at this; simp [c1, g1] at this)])
        · have hg1 := g2.1
          rw [g1, if_neg (by rw [zI_lit, zI_lt (by omega) (by omega) (by omega) (by omega)]; omega), m_below hmb h hM h9 hd, bp_some, bI_if]
          by_cases c2 : td A (32 * s + i) = true
          · rw [if_pos c2]
            exact h86 bt (by unfold clS; rw [if_neg (fun z => by have := z.2.1; unfold okG at this; simp [c1, c2] at this)])
          · rw [if_neg c2]
            exact h57 (by
              unfold okG
              have : A.1 3 (32 * s + i) ≠ 0 := by omega
              simp [this, c2])
    · rw [decide_eq_false c0, if_neg (by simp)]
      exact h86 bt (clS_none c0)
theorem m_cold {n S : Nat} {A : Ab} {dep : Nat → Nat} {μ : Sl} {b : Nat} {B : Nat → Int} (hmb : MB μ b) (h : WF n S A dep) (hM : MRep B A) (h9 : T9 A) (hS : μ 41 3 = zI (S : Int)) {s : Nat} (hs : s < 6) (v2 : Int32) : Mo_coldestOf (bst μ b B) (zI (s : Int)) v2 = some (zI (cv (cld A v2 s))) := by
  have hS32 := h.2.1
  have := m_cold_loop hmb h hM h9 hS hs v2 S 0 FU none (by omega) (FU_gt (by omega)) (fun x hx => by cases hx)
  have e : cld A v2 s = clL A v2 s S 0 none := by
    unfold cld
    rw [show 32 = S + (32 - S) by omega, clL_add, clL_top h v2 hs _ _ _ (by omega) (by omega)]
  rw [← e] at this
  unfold Mo_coldestOf
  rw [bnd_ap, bnd_ap]
  exact this
theorem cld_lv {A : Ab} {v2 : Int32} {s x : Nat} (hs : s < 6) (h : cld A v2 s = some x) : Lv A x ∧ okG A v2 x = true ∧ 32 * s ≤ x ∧ x < 32 * s + 32 := by
  have key : ∀ (m i : Nat) (b : Option Nat), i + m = 32 → (∀ y, b = some y → Lv A y ∧ okG A v2 y = true ∧ 32 * s ≤ y ∧ y < 32 * s + 32) → ∀ y, clL A v2 s m i b = some y → Lv A y ∧ okG A v2 y = true ∧ 32 * s ≤ y ∧ y < 32 * s + 32 := by
    intro m
    induction m with
    | zero => intro i b _ hb y hy; exact hb y hy
    | succ m ih =>
      intro i b hi hb y hy
      refine ih (i + 1) (clS A v2 s b i) (by omega) (fun z hz => ?_) y hy
      unfold clS at hz
      split at hz
      · rename_i w
        cases hz
        exact ⟨⟨by omega, w.1⟩, w.2.1, by omega, by omega⟩
      · exact hb z hz
  exact key 32 0 none (by omega) (fun y hy => by cases hy) x h
