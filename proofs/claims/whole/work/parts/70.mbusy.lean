/-! ===== the reference: who is above, busy ===== -/
def T9 (A : Ab) : Prop := ∀ x, Lv A x → 0 ≤ A.1 9 x ∧ A.1 9 x < 2147483648
theorem m_busy_loop {n S : Nat} {A : Ab} {dep : Nat → Nat} {μ : Sl} {b : Nat} {B : Nat → Int} (hb : MB μ b) (h : WF n S A dep) (hM : MRep B A) (h9 : T9 A) : ∀ (m k x : Nat), dep x = m → Lv A x → m + 1 < k → Mo_isBusy_2 (bst μ b B) k (zI (x : Int)) = some (bI (bsy A x)) := by
  intro m
  induction m with
  | zero =>
    intro k x hm hx hk
    obtain ⟨c, rfl⟩ : ∃ c, k = c + 2 := ⟨k - 2, by omega⟩
    have hx192 := hx.1
    obtain ⟨t1, t2, t3, t4, t5⟩ := hM.2.1 x hx
    have h9x := h9 x hx
    have hof : Mo_of (bst μ b B) (zI (1728 + (x : Int))) = some (zI (A.1 9 x)) := by rw [m_of hb B (by omega) (by omega), show (1728 + (x : Int)).toNat = 1728 + x by omega, t5]
    rcases gv_or h hx with ⟨g1, -⟩ | ⟨g, g1, g2, g3⟩
    · unfold bsy
      rw [any1_root g1, Mo_isBusy_2]
      by_cases h0 : A.1 9 x = 0
      · rw [h0] at hof
        simp (disch := omega) only [zI_lit, zI_lt, if_neg, if_true, zI_add, hof, bp_some, m_giver hb hx192, t3, g1, bnd_ap]
        rw [Mo_isBusy_2]
        simp (disch := omega) only [zI_lit, zI_lt, if_pos, Mo_isBusy_27]
        simp [bI, h0]
      · simp (disch := omega) only [zI_lit, zI_lt, zI_eq, if_neg, zI_add, hof, bp_some, Mo_isBusy_27]
        simp [bI, h0]
    · omega
  | succ m ih =>
    intro k x hm hx hk
    obtain ⟨c, rfl⟩ : ∃ c, k = c + 1 := ⟨k - 1, by omega⟩
    have hx192 := hx.1
    obtain ⟨t1, t2, t3, t4, t5⟩ := hM.2.1 x hx
    have h9x := h9 x hx
    have hof : Mo_of (bst μ b B) (zI (1728 + (x : Int))) = some (zI (A.1 9 x)) := by rw [m_of hb B (by omega) (by omega), show (1728 + (x : Int)).toNat = 1728 + x by omega, t5]
    rcases gv_or h hx with ⟨g1, g0⟩ | ⟨g, g1, g2, g3⟩
    · omega
    · unfold bsy
      rw [any1_step h _ hx g1, Mo_isBusy_2]
      by_cases h0 : A.1 9 x = 0
      · rw [h0] at hof
        have := ih c g (by omega) g2 (by omega)
        simp (disch := omega) only [zI_lit, zI_lt, if_neg, if_true, zI_add, hof, bp_some, m_giver hb hx192, t3, g1, bnd_ap]
        rw [show (g : Int) + 1 - 1 = (g : Int) by omega]
        simp only [h0, ne_eq, not_true_eq_false, decide_false, Bool.false_or]
        exact this
      · simp (disch := omega) only [zI_lit, zI_lt, zI_eq, if_neg, zI_add, hof, bp_some, Mo_isBusy_27]
        simp [bI, h0]
theorem m_busy {n S : Nat} {A : Ab} {dep : Nat → Nat} {μ : Sl} {b : Nat} {B : Nat → Int} (hb : MB μ b) (h : WF n S A dep) (hM : MRep B A) (h9 : T9 A) {x : Nat} (hx : Lv A x) : Mo_isBusy (bst μ b B) (zI (x : Int)) = some (bI (bsy A x)) := by
  have hd := dep_lt h hx
  exact m_busy_loop hb h hM h9 (dep x) FU x rfl hx (FU_gt (by omega))
theorem m_above_loop {n S : Nat} {A : Ab} {dep : Nat → Nat} {μ : Sl} {b o : Nat} {B : Nat → Int} (hb : MB μ b) (h : WF n S A dep) (hM : MRep B A) (ho : o < 192) : ∀ (m k x : Nat), dep x = m → Lv A x → m + 1 < k → Mo_isAbove_6 (bst μ b B) k (zI (o : Int)) (zI (x : Int)) = some (bI (bl A o x)) := by
  intro m
  induction m with
  | zero =>
    intro k x hm hx hk
    obtain ⟨c, rfl⟩ : ∃ c, k = c + 2 := ⟨k - 2, by omega⟩
    have hx192 := hx.1
    obtain ⟨t1, t2, t3, t4, t5⟩ := hM.2.1 x hx
    rcases gv_or h hx with ⟨g1, -⟩ | ⟨g, g1, g2, g3⟩
    · rw [bl_root g1, Mo_isAbove_6]
      by_cases h0 : x = o
      · subst h0
        simp (disch := omega) only [zI_lit, zI_lt, if_neg, if_true, Mo_isAbove_24]
        simp [bI]
      · simp (disch := omega) only [zI_lit, zI_lt, zI_eq, if_neg, m_giver hb hx192, t3, g1, bp_some, bnd_ap]
        rw [Mo_isAbove_6]
        simp (disch := omega) only [zI_lit, zI_lt, if_pos, Mo_isAbove_24]
        simp [bI, h0]
    · omega
  | succ m ih =>
    intro k x hm hx hk
    obtain ⟨c, rfl⟩ : ∃ c, k = c + 1 := ⟨k - 1, by omega⟩
    have hx192 := hx.1
    obtain ⟨t1, t2, t3, t4, t5⟩ := hM.2.1 x hx
    rcases gv_or h hx with ⟨g1, g0⟩ | ⟨g, g1, g2, g3⟩
    · omega
    · rw [bl_step h o hx g1, Mo_isAbove_6]
      by_cases h0 : x = o
      · subst h0
        simp (disch := omega) only [zI_lit, zI_lt, if_neg, if_true, Mo_isAbove_24]
        simp [bI]
      · have := ih c g (by omega) g2 (by omega)
        simp (disch := omega) only [zI_lit, zI_lt, zI_eq, if_neg, m_giver hb hx192, t3, g1, bp_some, bnd_ap]
        rw [show (g : Int) + 1 - 1 = (g : Int) by omega]
        have e0 : (x == o) = false := by simpa using h0
        rw [e0, Bool.false_or]; exact this
theorem m_above {n S : Nat} {A : Ab} {dep : Nat → Nat} {μ : Sl} {b o x : Nat} {B : Nat → Int} (hb : MB μ b) (h : WF n S A dep) (hM : MRep B A) (ho : o < 192) (hx : Lv A x) : Mo_isAbove (bst μ b B) (zI (o : Int)) (zI (x : Int)) = some (bI (blS A o x)) := by
  have hd := dep_lt h hx
  obtain ⟨t1, t2, t3, t4, t5⟩ := hM.2.1 x hx
  rcases gv_or h hx with ⟨g1, g0⟩ | ⟨g, g1, g2, g3⟩
  · rw [blS_root g1]
    simp (disch := omega) only [Mo_isAbove, m_giver hb hx.1, t3, g1, bp_some, bnd_ap]
    show Mo_isAbove_6 _ (999999 + 1) _ _ = _
    rw [Mo_isAbove_6]
    simp (disch := omega) only [zI_lit, zI_lt, if_pos, Mo_isAbove_24]
    rfl
  · rw [blS_step g1]
    simp (disch := omega) only [Mo_isAbove, m_giver hb hx.1, t3, g1, bp_some, bnd_ap]
    rw [show (g : Int) + 1 - 1 = (g : Int) by omega]
    exact m_above_loop hb h hM ho (dep g) FU g rfl g2 (FU_gt (by omega))
theorem m_deed {n S : Nat} {A : Ab} {dep : Nat → Nat} {μ : Sl} {b : Nat} {B : Nat → Int} (hb : MB μ b) (h : WF n S A dep) (hM : MRep B A) {x : Nat} (hx : x < 192) : Mo_isDeed (bst μ b B) (zI (x : Int)) = some (bI (decide (0 < A.1 0 x))) := by
  obtain ⟨e1, e2, e3⟩ := MR_0 h hM x hx
  unfold Mo_isDeed
  rw [m_of0 hb hx, bp_some, e1]
  by_cases q : 0 < A.1 0 x
  · simp (disch := omega) only [zI_lit, zI_le, if_neg]; simp [bI, q]
  · simp (disch := omega) only [zI_lit, zI_le, if_pos]; simp [bI, q]
theorem bI_ne {c : Bool} : (bI c = 0) = (c = false) := by
  cases c
  · rw [bI_f]; simp [show zI 0 = (0 : Int32) from rfl]
  · rw [bI_t, zI_lit, zI_eq (by omega) (by omega) (by omega) (by omega)]; simp
theorem m_below_loop {n S : Nat} {A : Ab} {dep : Nat → Nat} {μ : Sl} {b d : Nat} {B : Nat → Int} (hb : MB μ b) (h : WF n S A dep) (hM : MRep B A) (h9 : T9 A) (hd : Lv A d) : ∀ (m k i : Nat), i + m = 192 → m < k → ∃ r, Mo_isBusyBelow_12 (bst μ b B) k (zI (d : Int)) (zI (i : Int)) = some (bI r) ∧ (r = true ↔ ∃ t, Lv A t ∧ i ≤ t ∧ A.1 9 t ≠ 0 ∧ blS A d t = true) := by
  intro m
  induction m with
  | zero =>
    intro k i hm hk
    obtain ⟨c, rfl⟩ : ∃ c, k = c + 1 := ⟨k - 1, by omega⟩
    refine ⟨false, ?_, ?_⟩
    · rw [Mo_isBusyBelow_12]
      simp (disch := omega) only [zI_lit, zI_le, if_pos]
      rfl
    · constructor
      · intro z; cases z
      · rintro ⟨t, t1, t2, -⟩; have := t1.1; omega
  | succ m ih =>
    intro k i hm hk
    obtain ⟨c, rfl⟩ : ∃ c, k = c + 1 := ⟨k - 1, by omega⟩
    obtain ⟨r, r1, r2⟩ := ih c (i + 1) (by omega) (by omega)
    have step : Mo_isBusyBelow_50 (Mo_isBusyBelow_12 (bst μ b B) c) (bst μ b B) (zI (d : Int)) (zI (i : Int)) = some (bI r) := by
      simp only [Mo_isBusyBelow_50, bnd_ap, zI_lit, zI_add]; exact r1
    have hde := m_deed hb h hM (x := i) (by omega)
    rw [Mo_isBusyBelow_12]
    simp (disch := omega) only [zI_lit, zI_le, if_neg, hde, bp_some]
    by_cases hl : Lv A i
    · have e0 : decide (0 < A.1 0 i) = true := by simpa using hl.2
      have hof : Mo_of (bst μ b B) (zI (1728 + (i : Int))) = some (zI (A.1 9 i)) := by rw [m_of hb B (by omega) (by omega), show (1728 + (i : Int)).toNat = 1728 + i by omega, (hM.2.1 i hl).2.2.2.2]
      have h9i := h9 i hl
      rw [e0, bI_t]
      simp (disch := omega) only [zI_eq, if_neg, zI_add, hof, bp_some]
      by_cases h0 : A.1 9 i = 0
      · rw [h0]
        simp (disch := omega) only [zI_le, if_pos]
        refine ⟨r, step, r2.trans ⟨fun ⟨t, t1, t2, t3⟩ => ⟨t, t1, by omega, t3⟩, fun ⟨t, t1, t2, t3, t4⟩ => ⟨t, t1, ?_, t3, t4⟩⟩⟩
        by_cases e : t = i
        · subst e; exact absurd h0 t3
        · omega
      · simp (disch := omega) only [zI_le, if_neg, m_above hb h hM hd.1 hl, bp_some]
        cases hbs : blS A d i with
        | true =>
          refine ⟨true, ?_, ?_⟩
          · rw [bI_t, if_neg (by rw [zI_eq (by omega) (by omega) (by omega) (by omega)]; decide)]
          · simp; exact ⟨i, hl, by omega, h0, hbs⟩
        | false =>
          refine ⟨r, ?_, r2.trans ⟨fun ⟨t, t1, t2, t3⟩ => ⟨t, t1, by omega, t3⟩, fun ⟨t, t1, t2, t3, t4⟩ => ⟨t, t1, ?_, t3, t4⟩⟩⟩
          · rw [bI_f, if_pos rfl]; exact step
          · by_cases e : t = i
            · subst e; rw [hbs] at t4; cases t4
            · omega
    · have e0 : decide (0 < A.1 0 i) = false := by simp; exact Int.not_lt.mp (fun z => hl ⟨by omega, z⟩)
      rw [e0, bI_f, if_pos rfl]
      refine ⟨r, step, r2.trans ⟨fun ⟨t, t1, t2, t3⟩ => ⟨t, t1, by omega, t3⟩, fun ⟨t, t1, t2, t3, t4⟩ => ⟨t, t1, ?_, t3, t4⟩⟩⟩
      by_cases e : t = i
      · subst e; exact absurd t1 hl
      · omega
theorem m_below {n S : Nat} {A : Ab} {dep : Nat → Nat} {μ : Sl} {b d : Nat} {B : Nat → Int} (hb : MB μ b) (h : WF n S A dep) (hM : MRep B A) (h9 : T9 A) (hd : Lv A d) : Mo_isBusyBelow (bst μ b B) (zI (d : Int)) = some (bI (td A d)) := by
  simp only [Mo_isBusyBelow, m_busy hb h hM h9 hd, bp_some, bnd_ap]
  cases hbb : bsy A d with
  | true =>
    have : td A d = true := td_iff.mpr (.inl hbb)
    rw [this, bI_t, if_neg (by rw [zI_lit, zI_eq (by omega) (by omega) (by omega) (by omega)]; decide)]
    rfl
  | false =>
    rw [bI_f, if_pos (show zI 0 = 0 from rfl)]
    obtain ⟨r, r1, r2⟩ := m_below_loop hb h hM h9 hd 192 FU 0 (by omega) (FU_gt (by omega))
    have e0 : (0 : Int32) = zI ((0 : Nat) : Int) := rfl
    rw [e0, r1]
    congr 2
    rw [Bool.eq_iff_iff, r2, td_iff, hbb]
    simp
