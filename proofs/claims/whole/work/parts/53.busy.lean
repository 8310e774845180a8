/-! ===== who is above: busy, tied ===== -/
def anyC (p : Nat → Bool) (A : Ab) : Nat → Nat → Bool
  | 0, x => p x
  | n + 1, x => p x || (decide (0 < A.1 3 x) && anyC p A n (A.1 3 x - 1).toNat)
theorem anyC_succ (p : Nat → Bool) (A : Ab) (n x : Nat) : anyC p A (n + 1) x = (p x || (decide (0 < A.1 3 x) && anyC p A n (A.1 3 x - 1).toNat)) := rfl
theorem anyC_fuel {n S : Nat} {A : Ab} {dep : Nat → Nat} (h : WF n S A dep) (p : Nat → Bool) : ∀ (a b x : Nat), Lv A x → dep x ≤ a → dep x ≤ b → anyC p A a x = anyC p A b x := by
  intro a
  induction a with
  | zero =>
    intro b x hx h1 h2
    cases b with
    | zero => rfl
    | succ b =>
      rcases gv_or h hx with ⟨g1, -⟩ | ⟨g, g1, g2, g3⟩
      · simp [anyC, g1]
      · omega
  | succ a ih =>
    intro b x hx h1 h2
    rcases gv_or h hx with ⟨g1, -⟩ | ⟨g, g1, g2, g3⟩
    · cases b <;> simp [anyC, g1]
    · cases b with
      | zero => omega
      | succ b =>
        have e : (A.1 3 x - 1).toNat = g := by omega
        simp only [anyC, e]
        rw [ih b g g2 (by omega) (by omega)]
/-- one of it and those above it has p -/
def any1 (p : Nat → Bool) (A : Ab) (x : Nat) : Bool := anyC p A 192 x
theorem any1_root {p : Nat → Bool} {A : Ab} {x : Nat} (h : A.1 3 x = 0) : any1 p A x = p x := by
  show anyC p A (191 + 1) x = _
  rw [anyC_succ, h]; simp
theorem any1_step {n S : Nat} {A : Ab} {dep : Nat → Nat} (h : WF n S A dep) (p : Nat → Bool) {x g : Nat} (hx : Lv A x) (hg : A.1 3 x = (g : Int) + 1) : any1 p A x = (p x || any1 p A g) := by
  have h1 := gv_live h hx hg
  have h2 := dep_lt h hx
  show anyC p A (191 + 1) x = _
  have e : (A.1 3 x - 1).toNat = g := by omega
  have e2 : (decide (0 < A.1 3 x)) = true := by simp; omega
  rw [anyC_succ, e, e2, Bool.true_and]
  rw [anyC_fuel h p 191 192 g h1.1 (by omega) (by omega)]
  rfl
theorem any1_iff {n S : Nat} {A : Ab} {dep : Nat → Nat} (h : WF n S A dep) (p : Nat → Bool) : ∀ (k x : Nat), dep x ≤ k → Lv A x → (any1 p A x = true ↔ ∃ y, Lv A y ∧ bl A y x = true ∧ p y = true) := by
  intro k
  induction k with
  | zero =>
    intro x hk hx
    rcases gv_or h hx with ⟨g1, -⟩ | ⟨g, g1, g2, g3⟩
    · rw [any1_root g1]
      constructor
      · intro hp; exact ⟨x, hx, bl_self A x, hp⟩
      · rintro ⟨y, y1, y2, y3⟩
        rw [bl_root g1] at y2; simp at y2; subst y2; exact y3
    · omega
  | succ k ih =>
    intro x hk hx
    rcases gv_or h hx with ⟨g1, -⟩ | ⟨g, g1, g2, g3⟩
    · rw [any1_root g1]
      constructor
      · intro hp; exact ⟨x, hx, bl_self A x, hp⟩
      · rintro ⟨y, y1, y2, y3⟩
        rw [bl_root g1] at y2; simp at y2; subst y2; exact y3
    · rw [any1_step h p hx g1, Bool.or_eq_true, ih g (by omega) g2]
      constructor
      · rintro (hp | ⟨y, y1, y2, y3⟩)
        · exact ⟨x, hx, bl_self A x, hp⟩
        · exact ⟨y, y1, by rw [bl_step h y hx g1, y2]; simp, y3⟩
      · rintro ⟨y, y1, y2, y3⟩
        rw [bl_step h y hx g1] at y2
        simp at y2
        rcases y2 with e | y2
        · subst e; exact .inl y3
        · exact .inr ⟨y, y1, y2, y3⟩
def bsy (A : Ab) (x : Nat) : Bool := any1 (fun y => decide (A.1 9 y ≠ 0)) A x
theorem bl_any {n S : Nat} {A : Ab} {dep : Nat → Nat} (h : WF n S A dep) (d : Nat) : ∀ (k x : Nat), dep x ≤ k → Lv A x → bl A d x = any1 (fun y => y == d) A x := by
  intro k
  induction k with
  | zero =>
    intro x hk hx
    rcases gv_or h hx with ⟨g1, -⟩ | ⟨g, g1, g2, g3⟩
    · rw [any1_root g1, bl_root g1]
    · omega
  | succ k ih =>
    intro x hk hx
    rcases gv_or h hx with ⟨g1, -⟩ | ⟨g, g1, g2, g3⟩
    · rw [any1_root g1, bl_root g1]
    · rw [any1_step h _ hx g1, bl_step h d hx g1, ih g (by omega) g2]
/-- a Bool as the class answers it -/
def bI (b : Bool) : Int32 := zI (if b then 1 else 0)
theorem bI_t : bI true = zI 1 := rfl
theorem bI_f : bI false = zI 0 := rfl
theorem c_busy_loop {n S : Nat} {A : Ab} {dep : Nat → Nat} {δ : Sl} {σ : Nat → Nat} {bn : Nat} (h : WF n S A dep) (hC : CRep δ σ bn A) (ht : 0 < ntp A) : ∀ (m k i x : Nat), dep x = m → Lv A x → m + 1 < k → i + m ≤ 191 → De_isBusy_4 δ k (zI (σ x : Int)) (zI (i : Int)) = some (bI (bsy A x)) := by
  have hn := hC.2.2.2.1.2.1
  have hnl := ntp_le A
  intro m
  induction m with
  | zero =>
    intro k i x hm hx hk hi
    obtain ⟨c, rfl⟩ : ∃ c, k = c + 2 := ⟨k - 2, by omega⟩
    have b1 := cr_lt hC hx
    have ht9 := (hC.2.2.1 x hx).2.2.2.2.2.1
    have h9 := hC.2.2.2.1.2.2 x hx
    have hgv := cr_giver hC hx
    rcases gv_or h hx with ⟨g1, -⟩ | ⟨g, g1, g2, g3⟩
    · rw [g1, enc_0] at hgv
      unfold bsy
      rw [any1_root g1, De_isBusy_4]
      by_cases h0 : A.1 9 x = 0
      · rw [h0] at ht9
        simp (disch := omega) only [zI_lit, zI_le, zI_lt, zI_eq, if_neg, if_pos, if_true, zI_inb, zI_ix, Int.toNat_natCast, hn, ht9, hgv, bnd_ap, h0]
        rw [De_isBusy_4]
        simp (disch := omega) only [zI_lit, zI_lt, if_pos]
        split <;> simp [bI]
      · simp (disch := omega) only [zI_lit, zI_le, zI_lt, zI_eq, if_neg, if_pos, zI_inb, zI_ix, Int.toNat_natCast, hn, ht9]
        simp [bI, h0]
    · omega
  | succ m ih =>
    intro k i x hm hx hk hi
    obtain ⟨c, rfl⟩ : ∃ c, k = c + 1 := ⟨k - 1, by omega⟩
    have b1 := cr_lt hC hx
    have ht9 := (hC.2.2.1 x hx).2.2.2.2.2.1
    have h9 := hC.2.2.2.1.2.2 x hx
    have hgv := cr_giver hC hx
    rcases gv_or h hx with ⟨g1, g0⟩ | ⟨g, g1, g2, g3⟩
    · omega
    · rw [g1, enc_s] at hgv
      unfold bsy
      rw [any1_step h _ hx g1, De_isBusy_4]
      by_cases h0 : A.1 9 x = 0
      · rw [h0] at ht9
        have := ih c (i + 1) g (by omega) g2 (by omega) (by omega)
        simp (disch := omega) only [zI_lit, zI_le, zI_lt, zI_eq, if_neg, if_pos, if_true, zI_inb, zI_ix, Int.toNat_natCast, hn, ht9, hgv, bnd_ap, zI_add]
        simp only [h0, ne_eq, not_true_eq_false, decide_false, Bool.false_or]
        exact this
      · simp (disch := omega) only [zI_lit, zI_le, zI_lt, zI_eq, if_neg, if_pos, zI_inb, zI_ix, Int.toNat_natCast, hn, ht9]
        simp [bI, h0]
theorem ntp_0 {A : Ab} (h : ntp A = 0) {x : Nat} (hx : Lv A x) : A.1 9 x = 0 := by
  have := (fb_ct_zero (p := fun d => decide (0 < A.1 0 d) && decide (A.1 9 d ≠ 0)) (n := 192)).mp h x hx.1
  have h2 := hx.2
  simp [h2] at this; exact this
theorem c_busy {n S : Nat} {A : Ab} {dep : Nat → Nat} {δ : Sl} {σ : Nat → Nat} {bn : Nat} (h : WF n S A dep) (hC : CRep δ σ bn A) {x : Nat} (hx : Lv A x) : De_isBusy δ (zI (σ x : Int)) = some (bI (bsy A x)) := by
  have hd := dep_lt h hx
  by_cases ht : 0 < ntp A
  · exact c_busy_loop h hC ht (dep x) FU 0 x rfl hx (FU_gt (by omega)) (by omega)
  · have hn := hC.2.2.2.1.2.1
    have h0 : ntp A = 0 := by omega
    have hb : bsy A x = false := by
      cases hbb : bsy A x with
      | false => rfl
      | true =>
        obtain ⟨y, y1, y2, y3⟩ := (any1_iff h _ (dep x) x (Nat.le_refl _) hx).mp hbb
        simp [ntp_0 h0 y1] at y3
    rw [hb]
    have b1 := cr_lt hC hx
    simp only [De_isBusy, bnd_ap]
    show De_isBusy_4 δ (999999 + 1) _ _ = _
    rw [De_isBusy_4]
    rw [h0] at hn
    simp (disch := omega) only [zI_lit, zI_le, zI_lt, if_neg, if_pos, hn]
    rfl
/-- one beneath another one -/
def blS (A : Ab) (d x : Nat) : Bool := decide (0 < A.1 3 x) && bl A d (A.1 3 x - 1).toNat
theorem blS_root {A : Ab} {d x : Nat} (h : A.1 3 x = 0) : blS A d x = false := by unfold blS; rw [h]; simp
theorem blS_step {A : Ab} {d x g : Nat} (h : A.1 3 x = (g : Int) + 1) : blS A d x = bl A d g := by
  unfold blS
  rw [show (A.1 3 x - 1).toNat = g by omega, show decide (0 < A.1 3 x) = true by simp; omega, Bool.true_and]
theorem blS_iff {n S : Nat} {A : Ab} {dep : Nat → Nat} (h : WF n S A dep) {d x : Nat} (hx : Lv A x) : blS A d x = true ↔ (bl A d x = true ∧ x ≠ d) := by
  rcases gv_or h hx with ⟨g1, g0⟩ | ⟨g, g1, g2, g3⟩
  · rw [blS_root g1, bl_root g1]; simp
  · rw [blS_step g1, bl_step h d hx g1]
    constructor
    · intro hb
      have := bl_dep h (dep g) g (Nat.le_refl _) g2 hb
      exact ⟨by rw [hb]; simp, fun e => by subst e; omega⟩
    · rintro ⟨hb, hn⟩
      simpa [hn] using hb
theorem c_ben_loop {n S : Nat} {A : Ab} {dep : Nat → Nat} {δ : Sl} {σ : Nat → Nat} {bn o : Nat} (h : WF n S A dep) (hC : CRep δ σ bn A) (ho : Lv A o) : ∀ (m k i x : Nat), dep x = m → Lv A x → m + 1 < k → i + m ≤ 191 → De_isBeneath_10 δ k (zI (σ o : Int)) (zI (σ x : Int)) (zI (i : Int)) = some (bI (bl A o x)) := by
  have b2 := cr_lt hC ho
  intro m
  induction m with
  | zero =>
    intro k i x hm hx hk hi
    obtain ⟨c, rfl⟩ : ∃ c, k = c + 2 := ⟨k - 2, by omega⟩
    have b1 := cr_lt hC hx
    have hgv := cr_giver hC hx
    rcases gv_or h hx with ⟨g1, -⟩ | ⟨g, g1, g2, g3⟩
    · rw [g1, enc_0] at hgv
      rw [bl_root g1, De_isBeneath_10]
      by_cases h0 : x = o
      · subst h0
        simp (disch := omega) only [zI_lit, zI_le, zI_lt, if_neg, if_true]
        simp [bI]
      · have hs : σ x ≠ σ o := fun e => h0 ((CS_SV hC.1).2 x o hx ho e)
        simp (disch := omega) only [zI_lit, zI_le, zI_lt, zI_eq, if_neg, if_pos, zI_inb, zI_ix, Int.toNat_natCast, hgv, bnd_ap]
        rw [De_isBeneath_10]
        simp (disch := omega) only [zI_lit, zI_lt, if_pos]
        split <;> simp [bI, h0]
    · omega
  | succ m ih =>
    intro k i x hm hx hk hi
    obtain ⟨c, rfl⟩ : ∃ c, k = c + 1 := ⟨k - 1, by omega⟩
    have b1 := cr_lt hC hx
    have hgv := cr_giver hC hx
    rcases gv_or h hx with ⟨g1, g0⟩ | ⟨g, g1, g2, g3⟩
    · omega
    · rw [g1, enc_s] at hgv
      rw [bl_step h o hx g1, De_isBeneath_10]
      by_cases h0 : x = o
      · subst h0
        simp (disch := omega) only [zI_lit, zI_le, zI_lt, if_neg, if_true]
        simp [bI]
      · have hs : σ x ≠ σ o := fun e => h0 ((CS_SV hC.1).2 x o hx ho e)
        have := ih c (i + 1) g (by omega) g2 (by omega) (by omega)
        simp (disch := omega) only [zI_lit, zI_le, zI_lt, zI_eq, if_neg, if_pos, zI_inb, zI_ix, Int.toNat_natCast, hgv, bnd_ap, zI_add]
        have e0 : (x == o) = false := by simpa using h0
        rw [e0, Bool.false_or]; exact this
theorem c_beneath {n S : Nat} {A : Ab} {dep : Nat → Nat} {δ : Sl} {σ : Nat → Nat} {bn o x : Nat} (h : WF n S A dep) (hC : CRep δ σ bn A) (ho : Lv A o) (hx : Lv A x) : De_isBeneath δ (zI (σ x : Int)) (zI (σ o : Int)) = some (bI (blS A o x)) := by
  have b1 := cr_lt hC hx
  have hgv := cr_giver hC hx
  have hd := dep_lt h hx
  rcases gv_or h hx with ⟨g1, g0⟩ | ⟨g, g1, g2, g3⟩
  · rw [g1, enc_0] at hgv
    rw [blS_root g1]
    simp (disch := omega) only [De_isBeneath, zI_inb, if_pos, zI_ix, Int.toNat_natCast, hgv, bnd_ap]
    show De_isBeneath_10 δ (999999 + 1) _ _ _ = _
    rw [De_isBeneath_10]
    simp (disch := omega) only [zI_lit, zI_lt, if_pos]
    split <;> simp [bI]
  · rw [g1, enc_s] at hgv
    rw [blS_step g1]
    simp (disch := omega) only [De_isBeneath, zI_inb, if_pos, zI_ix, Int.toNat_natCast, hgv, bnd_ap]
    exact c_ben_loop h hC ho (dep g) FU 0 g rfl g2 (FU_gt (by omega)) (by omega)
/-- it is busy, or one beneath it is -/
def td (A : Ab) (d : Nat) : Bool := bsy A d || (List.range 192).any (fun t => decide (0 < A.1 0 t) && (decide (A.1 9 t ≠ 0) && blS A d t))
theorem td_iff {A : Ab} {d : Nat} : td A d = true ↔ bsy A d = true ∨ ∃ t, Lv A t ∧ A.1 9 t ≠ 0 ∧ blS A d t = true := by
  unfold td
  rw [Bool.or_eq_true, List.any_eq_true]
  constructor
  · rintro (hb | ⟨t, t1, t2⟩)
    · exact .inl hb
    · simp at t1 t2; exact .inr ⟨t, ⟨t1, t2.1⟩, t2.2.1, t2.2.2⟩
  · rintro (hb | ⟨t, t1, t2, t3⟩)
    · exact .inl hb
    · exact .inr ⟨t, by simp; exact t1.1, by simp; exact ⟨t1.2, t2, t3⟩⟩
theorem td_NTs {n S : Nat} {A : Ab} {dep : Nat → Nat} (h : WF n S A dep) {d : Nat} (hd : Lv A d) (ht : td A d = false) : NTs A d ∧ bsy A d = false := by
  have hn : ¬ (bsy A d = true ∨ ∃ t, Lv A t ∧ A.1 9 t ≠ 0 ∧ blS A d t = true) := fun z => by rw [td_iff.mpr z] at ht; cases ht
  have hb : bsy A d = false := by
    cases hbb : bsy A d with
    | false => rfl
    | true => exact absurd (.inl hbb) hn
  refine ⟨fun y hy hby => ?_, hb⟩
  refine Classical.byContradiction fun h9 => ?_
  by_cases e : y = d
  · subst e
    exact hn (.inl ((any1_iff h _ (dep y) y (Nat.le_refl _) hy).mpr ⟨y, hy, bl_self A y, by simpa using h9⟩))
  · exact hn (.inr ⟨y, hy, h9, (blS_iff h hy).mpr ⟨hby, e⟩⟩)
theorem c_tied_loop {n S : Nat} {A : Ab} {dep : Nat → Nat} {δ : Sl} {σ : Nat → Nat} {bn d : Nat} (h : WF n S A dep) (hC : CRep δ σ bn A) (hd : Lv A d) (ht : 0 < ntp A) : ∀ (m k i : Nat), i + m = bn → m < k → ∃ r, De_isTied_12 δ k (zI (σ d : Int)) (zI (i : Int)) = some (bI r) ∧ (r = true ↔ ∃ t, Lv A t ∧ i ≤ σ t ∧ A.1 9 t ≠ 0 ∧ blS A d t = true) := by
  have hn := hC.2.2.2.1.2.1
  have hnl := ntp_le A
  have hb := hC.1.2.1
  have hb2 := hC.1.1
  intro m
  induction m with
  | zero =>
    intro k i hm hk
    obtain ⟨c, rfl⟩ : ∃ c, k = c + 1 := ⟨k - 1, by omega⟩
    refine ⟨false, ?_, ?_⟩
    · rw [De_isTied_12]
      simp (disch := omega) only [hb, zI_le, if_pos]
      rfl
    · constructor
      · intro z; cases z
      · rintro ⟨t, t1, t2, -⟩
        have := hC.1.2.2.1 t t1; omega
  | succ m ih =>
    intro k i hm hk
    obtain ⟨c, rfl⟩ : ∃ c, k = c + 1 := ⟨k - 1, by omega⟩
    obtain ⟨r, r1, r2⟩ := ih c (i + 1) (by omega) (by omega)
    have step : De_isTied_56 (De_isTied_12 δ c) δ (zI (σ d : Int)) (zI (i : Int)) = some (bI r) := by
      simp only [De_isTied_56, bnd_ap, zI_lit, zI_add]; exact r1
    rw [De_isTied_12]
    simp (disch := omega) only [hb, zI_lit, zI_le, if_neg, hn, zI_inb, if_pos, zI_ix, Int.toNat_natCast]
    by_cases hu : δ 21 i < zI 0
    · rw [if_pos hu]
      refine ⟨r, step, r2.trans ⟨fun ⟨t, t1, t2, t3⟩ => ⟨t, t1, by omega, t3⟩, fun ⟨t, t1, t2, t3⟩ => ⟨t, t1, ?_, t3⟩⟩⟩
      refine Classical.byContradiction fun hx => ?_
      have e : σ t = i := by omega
      have := (hC.2.2.1 t t1).2.2.2.1
      rw [e] at this
      rw [this, zI_lt (by have := t1.2; omega) (by have := (h.2.2.2.1 t t1).1; omega) (by omega) (by omega)] at hu
      have := t1.2; omega
    · rw [if_neg hu]
      obtain ⟨t, t1, t2⟩ := hC.1.2.2.2.2 i (by omega) (by rw [zI_lit]; exact hu)
      have h9 := hC.2.2.2.1.2.2 t t1
      have ht9 := (hC.2.2.1 t t1).2.2.2.2.2.1
      have hben := c_beneath h hC hd t1
      rw [t2] at ht9 hben
      have huniq : ∀ y, Lv A y → i ≤ σ y → i + 1 ≤ σ y ∨ y = t := fun y y1 y2 => by
        by_cases e : σ y = i
        · right; exact (CS_SV hC.1).2 y t y1 t1 (by omega)
        · left; omega
      by_cases h0 : A.1 9 t = 0
      · rw [h0] at ht9
        simp (disch := omega) only [ht9, if_true]
        refine ⟨r, step, r2.trans ⟨fun ⟨y, y1, y2, y3⟩ => ⟨y, y1, by omega, y3⟩, fun ⟨y, y1, y2, y3, y4⟩ => ⟨y, y1, ?_, y3, y4⟩⟩⟩
        rcases huniq y y1 y2 with z | z
        · exact z
        · subst z; exact absurd h0 y3
      · simp (disch := omega) only [ht9, zI_eq, if_neg, hben, bp_some]
        cases hbs : blS A d t with
        | true =>
          refine ⟨true, ?_, ?_⟩
          · rw [bI_t, if_neg (by rw [zI_eq (by omega) (by omega) (by omega) (by omega)]; decide)]
          · simp; exact ⟨t, t1, by omega, h0, hbs⟩
        | false =>
          refine ⟨r, ?_, r2.trans ⟨fun ⟨y, y1, y2, y3⟩ => ⟨y, y1, by omega, y3⟩, fun ⟨y, y1, y2, y3, y4⟩ => ⟨y, y1, ?_, y3, y4⟩⟩⟩
          · rw [bI_f, if_pos rfl]; exact step
          · rcases huniq y y1 y2 with z | z
            · exact z
            · subst z; rw [hbs] at y4; cases y4
theorem c_tied {n S : Nat} {A : Ab} {dep : Nat → Nat} {δ : Sl} {σ : Nat → Nat} {bn d : Nat} (h : WF n S A dep) (hC : CRep δ σ bn A) (hd : Lv A d) : De_isTied δ (zI (σ d : Int)) = some (bI (td A d)) := by
  have hb := c_busy h hC hd
  simp only [De_isTied, hb, bp_some, bnd_ap]
  cases hbb : bsy A d with
  | true =>
    have : td A d = true := td_iff.mpr (.inl hbb)
    rw [this, bI_t, if_neg (by rw [zI_lit, zI_eq (by omega) (by omega) (by omega) (by omega)]; decide)]
    rfl
  | false =>
    rw [bI_f, if_pos (show zI 0 = 0 from rfl)]
    by_cases ht : 0 < ntp A
    · obtain ⟨r, r1, r2⟩ := c_tied_loop h hC hd ht bn FU 0 (by omega) (FU_gt (by have := hC.1.1; omega))
      have e0 : (0 : Int32) = zI ((0 : Nat) : Int) := rfl
      rw [e0, r1]
      congr 2
      rw [Bool.eq_iff_iff, r2, td_iff, hbb]
      simp
    · have h0 : ntp A = 0 := by omega
      have hn := hC.2.2.2.1.2.1
      have htd : td A d = false := by
        cases hh : td A d with
        | false => rfl
        | true =>
          rcases td_iff.mp hh with z | ⟨t, t1, t2, t3⟩
          · rw [hbb] at z; cases z
          · exact absurd (ntp_0 h0 t1) t2
      rw [htd]
      show De_isTied_12 δ (999999 + 1) _ _ = _
      rw [De_isTied_12]
      rw [h0] at hn
      simp (disch := omega) only [zI_lit, zI_le, if_pos, hn]
      split <;> rfl
