/-! ===== fresh frames ===== -/
theorem bt_one : ∀ g f : Fin 32, ((1 : Int32) <<< (zI (g.val : Int) &&& 31)).toBitVec.getLsbD f.val = decide (f.val = g.val) := by decide +kernel
theorem bt_or {v : Int32} {f g : Nat} (hf : f < 32) (hg : g < 32) : (v ||| ((1 : Int32) <<< (zI (g : Int) &&& 31))).toBitVec.getLsbD f = (v.toBitVec.getLsbD f || decide (f = g)) := by
  rw [Int32.toBitVec_or, BitVec.getLsbD_or]
  have := bt_one ⟨g, hg⟩ ⟨f, hf⟩
  simp only at this
  rw [this]
theorem bt_sh {v : Int32} {f : Nat} (hf : f < 32) : ((v >>> (zI (f : Int) &&& 31)) &&& (1 : Int32) = 0) ↔ v.toBitVec.getLsbD f = false := by
  have e : (v >>> (zI (f : Int) &&& 31)).toBitVec = v.toBitVec.sshiftRight f := by
    show v.toBitVec.sshiftRight' ((zI (f : Int) &&& 31).toBitVec.smod 32) = _
    have := sh_n ⟨f, hf⟩
    rw [BitVec.sshiftRight_eq']
    exact congrArg _ this
  rw [← Int32.toBitVec_inj, Int32.toBitVec_and, e]
  have e1 : (1 : Int32).toBitVec = 1#32 := rfl
  have e0 : (0 : Int32).toBitVec = 0#32 := rfl
  rw [e1, e0, BitVec.and_one_eq_setWidth_ofBool_getLsbD, BitVec.getLsbD_sshiftRight]
  simp [hf]
  generalize v.toBitVec[f] = q
  cases q <;> decide
def hsF (A : Ab) (s : Nat) (f : Int) : Nat → Bool := fun i => decide (fAt A (32 * s + i) = f)
theorem c_frames_loop {n S : Nat} {A : Ab} {dep : Nat → Nat} {δ : Sl} {σ : Nat → Nat} {bn : Nat} (h : WF n S A dep) (hC : CRep δ σ bn A) {s : Nat} (hs : s < 6) : ∀ (m i k : Nat) (v : Int32), i + m = 32 → m < k → (∀ f : Nat, f < 32 → (v.toBitVec.getLsbD f = true ↔ ∃ j, j < i ∧ fAt A (32 * s + j) = (f : Int))) →
    ∃ w, Qu_framesOf_4 δ k (zI (s : Int)) v (zI (i : Int)) = some w ∧ ∀ f : Nat, f < 32 → (w.toBitVec.getLsbD f = true ↔ ∃ j, j < 32 ∧ fAt A (32 * s + j) = (f : Int)) := by
  have hS32 := h.2.1
  intro m
  induction m with
  | zero =>
    intro i k v hi hk hv
    obtain ⟨c, rfl⟩ : ∃ c, k = c + 1 := ⟨k - 1, by omega⟩
    have : i = 32 := by omega
    subst this
    exact ⟨v, by rw [Qu_framesOf_4, if_pos (by decide)], hv⟩
  | succ m ih =>
    intro i k v hi hk hv
    obtain ⟨c, rfl⟩ : ∃ c, k = c + 1 := ⟨k - 1, by omega⟩
    have hfd := cr_find hC.2.1 (s := (s : Int)) (p := (i : Int)) (by omega) (by omega) (by omega) (by omega)
    rw [show (32 * (s : Int) + (i : Int)).toNat = 32 * s + i by omega] at hfd
    have hnext : ∀ v', (∀ f : Nat, f < 32 → (v'.toBitVec.getLsbD f = true ↔ ∃ j, j < i + 1 ∧ fAt A (32 * s + j) = (f : Int))) → ∃ w, Qu_framesOf_35 (Qu_framesOf_4 δ c) δ (zI (s : Int)) v' (zI (i : Int)) = some w ∧ ∀ f : Nat, f < 32 → (w.toBitVec.getLsbD f = true ↔ ∃ j, j < 32 ∧ fAt A (32 * s + j) = (f : Int)) := fun v' hv' => by
      obtain ⟨w, w1, w2⟩ := ih (i + 1) c v' (by omega) (by omega) hv'
      exact ⟨w, by rw [Qu_framesOf_35, bnd_ap, show (1 : Int32) = zI 1 from rfl, zI_add, show (i : Int) + 1 = ((i + 1 : Nat) : Int) by omega, w1], w2⟩
    rw [Qu_framesOf_4, if_neg (by rw [zI_lit, zI_le (by omega) (by omega) (by omega) (by omega)]; omega), hfd, bp_some, bnd_ap]
    cases hcv : cov A (32 * s + i) with
    | none =>
      rw [show sc σ none = (-1 : Int) from rfl, if_pos (by decide)]
      refine hnext v (fun f hf => ?_)
      rw [hv f hf]
      have hno : fAt A (32 * s + i) = -1 := by unfold fAt; rw [hcv]
      constructor
      · rintro ⟨j, j1, j2⟩; exact ⟨j, by omega, j2⟩
      · rintro ⟨j, j1, j2⟩
        have : j ≠ i := fun z => by rw [z, hno] at j2; omega
        exact ⟨j, by omega, j2⟩
    | some d =>
      obtain ⟨d1, d2, d3⟩ := cs_some (by omega) hcv
      have b1 := cr_lt hC d1
      have hr := fAt_rng h (q := 32 * s + i) (by omega)
      have hr0 := hr.2.2 (by rw [hcv]; simp)
      obtain ⟨g, hg⟩ : ∃ g : Nat, fAt A (32 * s + i) = (g : Int) := ⟨(fAt A (32 * s + i)).toNat, by omega⟩
      rw [show sc σ (some d) = (σ d : Int) from rfl, if_neg (by rw [zI_lit, zI_lt (by omega) (by omega) (by omega) (by omega)]; omega), c_frAt h hC hs (by omega) hcv, bp_some, bnd_ap, hg]
      refine hnext _ (fun f hf => ?_)
      rw [bt_or hf (by omega), Bool.or_eq_true, hv f hf, decide_eq_true_eq]
      constructor
      · rintro (⟨j, j1, j2⟩ | z)
        · exact ⟨j, by omega, j2⟩
        · exact ⟨i, by omega, by rw [hg, z]⟩
      · rintro ⟨j, j1, j2⟩
        by_cases c1 : j = i
        · right; rw [c1, hg] at j2; omega
        · exact .inl ⟨j, by omega, j2⟩
theorem c_frames {n S : Nat} {A : Ab} {dep : Nat → Nat} {δ : Sl} {σ : Nat → Nat} {bn : Nat} (h : WF n S A dep) (hC : CRep δ σ bn A) {s : Nat} (hs : s < 6) : ∃ w, Qu_framesOf δ (zI (s : Int)) = some w ∧ ∀ f : Nat, f < 32 → (w.toBitVec.getLsbD f = true ↔ ∃ j, j < 32 ∧ fAt A (32 * s + j) = (f : Int)) := by
  obtain ⟨w, w1, w2⟩ := c_frames_loop h hC hs 32 0 FU 0 (by omega) (FU_gt (by omega)) (fun f hf => by
    have : (0 : Int32).toBitVec.getLsbD f = false := by
      show (0#32).getLsbD f = false
      simp
    rw [this]
    exact ⟨fun z => absurd z (by decide), fun ⟨j, j1, _⟩ => by omega⟩)
  refine ⟨w, ?_, w2⟩
  unfold Qu_framesOf
  rw [bnd_ap, bnd_ap]
  exact w1
theorem m_al_loop {n S : Nat} {A : Ab} {dep : Nat → Nat} {μ : Sl} {b : Nat} {B : Nat → Int} (hmb : MB μ b) (h : WF n S A dep) (hM : MRep B A) (hS : μ 41 3 = zI (S : Int)) {s : Nat} (hs : s < 6) {f : Int} (hf1 : -2147483648 ≤ f) (hf2 : f < 2147483648) : ∀ (m i k : Nat), i + m = S → m < k →
    Mo_aliasesOf_5 (bst μ b B) k (zI (s : Int)) (zI f) (zI (fb_ct (hsF A s f) i : Int)) (zI (i : Int)) = some (zI (fb_ct (hsF A s f) S : Int)) := by
  have hS32 := h.2.1
  have hsz : Mo_size (bst μ b B) = some (zI (S : Int)) := by
    rw [Mo_size, if_pos (by decide), show ix (3 : Int32) = 3 from rfl, bst_ne _ _ _ (by decide), hS]
  intro m
  induction m with
  | zero =>
    intro i k hi hk
    obtain ⟨c, rfl⟩ : ∃ c, k = c + 1 := ⟨k - 1, by omega⟩
    rw [Mo_aliasesOf_5, hsz, bp_some, if_pos (by rw [zI_le (by omega) (by omega) (by omega) (by omega)]; omega), show i = S by omega]
  | succ m ih =>
    intro i k hi hk
    obtain ⟨c, rfl⟩ : ∃ c, k = c + 1 := ⟨k - 1, by omega⟩
    have hr := fAt_rng h (q := 32 * s + i) (by omega)
    have h31 : ∀ t : Nat, fb_ct (hsF A s f) (i + 1) = fb_ct (hsF A s f) i + t → Mo_aliasesOf_31 (Mo_aliasesOf_5 (bst μ b B) c) (bst μ b B) (zI (s : Int)) (zI f) (zI (i : Int)) (zI (t : Int)) (zI (fb_ct (hsF A s f) i : Int)) = some (zI (fb_ct (hsF A s f) S : Int)) := fun t ht => by
      rw [Mo_aliasesOf_31, bnd_ap, bnd_ap, zI_add, show (1 : Int32) = zI 1 from rfl, zI_add, show (i : Int) + 1 = ((i + 1 : Nat) : Int) by omega, show ((fb_ct (hsF A s f) i : Nat) : Int) + (t : Int) = ((fb_ct (hsF A s f) (i + 1) : Nat) : Int) by omega]
      exact ih (i + 1) c (by omega) (by omega)
    rw [Mo_aliasesOf_5, hsz, bp_some, if_neg (by rw [zI_le (by omega) (by omega) (by omega) (by omega)]; omega), m_frAt hmb h hM hs (by omega), bp_some]
    by_cases c1 : fAt A (32 * s + i) = f
    · rw [if_pos (by rw [c1])]
      exact h31 1 (by rw [fb_ct_succ]; unfold hsF; rw [decide_eq_true c1]; rfl)
    · rw [if_neg (by rw [zI_eq (by omega) (by omega) (by omega) (by omega)]; exact c1)]
      exact h31 0 (by rw [fb_ct_succ]; unfold hsF; rw [decide_eq_false c1]; rfl)
theorem m_al {n S : Nat} {A : Ab} {dep : Nat → Nat} {μ : Sl} {b : Nat} {B : Nat → Int} (hmb : MB μ b) (h : WF n S A dep) (hM : MRep B A) (hS : μ 41 3 = zI (S : Int)) {s : Nat} (hs : s < 6) {f : Int} (hf1 : -2147483648 ≤ f) (hf2 : f < 2147483648) : Mo_aliasesOf (bst μ b B) (zI (s : Int)) (zI f) = some (zI (fb_ct (hsF A s f) S : Int)) := by
  have hS32 := h.2.1
  have := m_al_loop hmb h hM hS hs hf1 hf2 S 0 FU (by omega) (FU_gt (by omega))
  unfold Mo_aliasesOf
  rw [bnd_ap, bnd_ap]
  exact this
/-- is the page's frame one that the space hasn't -/
def fsB (A : Ab) (s a : Nat) (r : Int) (p : Nat) : Bool := hsB A (32 * a + p) r && (List.range 32).all (fun j => decide (fAt A (32 * s + j) ≠ fAt A (32 * a + p)))
def ffL (A : Ab) (s a : Nat) (r : Int) (p0 : Nat) : Nat → Nat → Nat
  | 0, _ => p0
  | m + 1, i => if fsB A s a r i = true then i else ffL A s a r p0 m (i + 1)
theorem ff_lt {A : Ab} {s a : Nat} {r : Int} {p0 S : Nat} (h0 : p0 < S) : ∀ (m i : Nat), i + m ≤ S → ffL A s a r p0 m i < S := by
  intro m
  induction m with
  | zero => intro i _; exact h0
  | succ m ih =>
    intro i hi
    show (if fsB A s a r i = true then i else ffL A s a r p0 m (i + 1)) < S
    split
    · omega
    · exact ih (i + 1) (by omega)
theorem c_ff_loop {n S : Nat} {A : Ab} {dep : Nat → Nat} {δ : Sl} {σ : Nat → Nat} {bn : Nat} {M : Mem} {qv : Nat → Int} (h : WF n S A dep) (hC : CRep δ σ bn A) (hK : SK M δ n S qv) {s a : Nat} (hs : s < 6) (ha : a < 6) {r : Int} (hr1 : 0 ≤ r) (hr2 : r ≤ 7) (h13 : δ 13 s = zI r) {w : Int32} (hw : ∀ f : Nat, f < 32 → (w.toBitVec.getLsbD f = true ↔ ∃ j, j < 32 ∧ fAt A (32 * s + j) = (f : Int))) (p0 : Nat) : ∀ (m i k : Nat), i + m = S → m < k →
    Wo_firstFresh_13 M δ k (zI (s : Int)) (zI (a : Int)) (zI (p0 : Int)) w (zI (i : Int)) = some (zI (ffL A s a r p0 m i : Int)) := by
  have hS32 := h.2.1
  obtain ⟨k0, k1, k2, k3, k4, k5⟩ := hK
  intro m
  induction m with
  | zero =>
    intro i k hi hk
    obtain ⟨c, rfl⟩ : ∃ c, k = c + 1 := ⟨k - 1, by omega⟩
    rw [Wo_firstFresh_13, k1, gref_z k2, k4, if_pos (by rw [zI_le (by omega) (by omega) (by omega) (by omega)]; omega)]
    rfl
  | succ m ih =>
    intro i k hi hk
    obtain ⟨c, rfl⟩ : ∃ c, k = c + 1 := ⟨k - 1, by omega⟩
    have h67 : fsB A s a r i = false → Wo_firstFresh_67 (Wo_firstFresh_13 M δ c) M δ (zI (s : Int)) (zI (a : Int)) (zI (p0 : Int)) w (zI (i : Int)) = some (zI (ffL A s a r p0 (m + 1) i : Int)) := fun hf => by
      rw [Wo_firstFresh_67, bnd_ap, show (1 : Int32) = zI 1 from rfl, zI_add, show (i : Int) + 1 = ((i + 1 : Nat) : Int) by omega, ih (i + 1) c (by omega) (by omega)]
      show _ = some (zI ((if fsB A s a r i = true then i else ffL A s a r p0 m (i + 1) : Nat) : Int))
      rw [hf]; rfl
    rw [Wo_firstFresh_13, k1, gref_z k2, k4, if_neg (by rw [zI_le (by omega) (by omega) (by omega) (by omega)]; omega), if_pos (by rw [zI_inb (by omega) (by omega)]; omega), zI_ix (by omega) (by omega), Int.toNat_natCast, h13, c_with M h hC ha (by omega) hr1 hr2, bp_some, bnd_ap]
    by_cases c1 : hsB A (32 * a + i) r = true
    · rw [if_pos c1]
      have hcov : ∃ d, cov A (32 * a + i) = some d := by
        unfold hsB at c1
        cases hcv : cov A (32 * a + i) with
        | none => rw [hcv] at c1; simp at c1
        | some d => exact ⟨d, rfl⟩
      obtain ⟨d, hcv⟩ := hcov
      obtain ⟨d1, d2, d3⟩ := cs_some (by omega) hcv
      have b1 := cr_lt hC d1
      have hr := fAt_rng h (q := 32 * a + i) (by omega)
      have hr0 := hr.2.2 (by rw [hcv]; simp)
      obtain ⟨g, hg⟩ : ∃ g : Nat, fAt A (32 * a + i) = (g : Int) := ⟨(fAt A (32 * a + i)).toNat, by omega⟩
      rw [hcv, show sc σ (some d) = (σ d : Int) from rfl, if_neg (by rw [zI_lit, zI_lt (by omega) (by omega) (by omega) (by omega)]; omega), c_frAt h hC ha (by omega) hcv, bp_some, hg]
      have hall : (List.range 32).all (fun j => decide (fAt A (32 * s + j) ≠ fAt A (32 * a + i))) = true ↔ w.toBitVec.getLsbD g = false := by
        rw [List.all_eq_true]
        constructor
        · intro z
          cases hb : w.toBitVec.getLsbD g with
          | false => rfl
          | true =>
            obtain ⟨j, j1, j2⟩ := (hw g (by omega)).mp hb
            have := of_decide_eq_true (z j (List.mem_range.mpr j1))
            rw [hg] at this; exact absurd j2 this
        · intro z j hj
          refine decide_eq_true (fun e => ?_)
          have := (hw g (by omega)).mpr ⟨j, List.mem_range.mp hj, by rw [e, hg]⟩
          rw [z] at this; cases this
      by_cases c2 : w.toBitVec.getLsbD g = false
      · rw [if_pos ((bt_sh (by omega)).mpr c2)]
        show _ = some (zI ((if fsB A s a r i = true then i else ffL A s a r p0 m (i + 1) : Nat) : Int))
        rw [if_pos (by unfold fsB; rw [c1, hall.mpr c2]; rfl)]
      · rw [if_neg (fun z => c2 ((bt_sh (by omega)).mp z))]
        refine h67 ?_
        unfold fsB
        rw [c1, Bool.true_and]
        cases hx : (List.range 32).all (fun j => decide (fAt A (32 * s + j) ≠ fAt A (32 * a + i))) with
        | false => rfl
        | true => exact absurd (hall.mp hx) c2
    · rw [if_neg c1, if_pos (by decide)]
      refine h67 ?_
      unfold fsB
      cases hx : hsB A (32 * a + i) r with
      | false => rfl
      | true => exact absurd hx c1
theorem m_ff_loop {n S : Nat} {A : Ab} {dep : Nat → Nat} {μ : Sl} {b : Nat} {B : Nat → Int} (hmb : MB μ b) (h : WF n S A dep) (hM : MRep B A) (hS : μ 41 3 = zI (S : Int)) {s a : Nat} (hs : s < 6) (ha : a < 6) {r : Int} (hr1 : 0 ≤ r) (hr2 : r ≤ 7) (p0 : Nat) : ∀ (m i k : Nat), i + m = S → m < k →
    Mo_placeBy_60 (bst μ b B) k (zI (a : Int)) (zI (s : Int)) (zI (p0 : Int)) (zI r) (zI (i : Int)) = some (zI (ffL A s a r p0 m i : Int)) := by
  have hS32 := h.2.1
  have hsz : Mo_size (bst μ b B) = some (zI (S : Int)) := by
    rw [Mo_size, if_pos (by decide), show ix (3 : Int32) = 3 from rfl, bst_ne _ _ _ (by decide), hS]
  intro m
  induction m with
  | zero =>
    intro i k hi hk
    obtain ⟨c, rfl⟩ : ∃ c, k = c + 1 := ⟨k - 1, by omega⟩
    rw [Mo_placeBy_60, hsz, bp_some, if_pos (by rw [zI_le (by omega) (by omega) (by omega) (by omega)]; omega)]
    rfl
  | succ m ih =>
    intro i k hi hk
    obtain ⟨c, rfl⟩ : ∃ c, k = c + 1 := ⟨k - 1, by omega⟩
    have h99 : fsB A s a r i = false → Mo_placeBy_99 (Mo_placeBy_60 (bst μ b B) c) (bst μ b B) (zI (a : Int)) (zI (s : Int)) (zI (p0 : Int)) (zI r) (zI (i : Int)) = some (zI (ffL A s a r p0 (m + 1) i : Int)) := fun hf => by
      rw [Mo_placeBy_99, bnd_ap, show (1 : Int32) = zI 1 from rfl, zI_add, show (i : Int) + 1 = ((i + 1 : Nat) : Int) by omega, ih (i + 1) c (by omega) (by omega)]
      show _ = some (zI ((if fsB A s a r i = true then i else ffL A s a r p0 m (i + 1) : Nat) : Int))
      rw [hf]; rfl
    rw [Mo_placeBy_60, hsz, bp_some, if_neg (by rw [zI_le (by omega) (by omega) (by omega) (by omega)]; omega), m_has hmb h hM ha (by omega) hr1 hr2, bp_some, bI_if]
    by_cases c1 : hsB A (32 * a + i) r = true
    · rw [if_pos c1]
      have hr := fAt_rng h (q := 32 * a + i) (by omega)
      have hcov : cov A (32 * a + i) ≠ none := by
        unfold hsB at c1
        intro z
        rw [z] at c1; simp at c1
      have hr0 := hr.2.2 hcov
      have hcl := fb_ct_le (hsF A s (fAt A (32 * a + i))) S
      rw [m_frAt hmb h hM ha (by omega), bp_some, m_al hmb h hM hS hs (by omega) (by omega), bp_some]
      have hall : (List.range 32).all (fun j => decide (fAt A (32 * s + j) ≠ fAt A (32 * a + i))) = true ↔ fb_ct (hsF A s (fAt A (32 * a + i))) S = 0 := by
        rw [List.all_eq_true, fb_ct_zero]
        constructor
        · intro z j hj
          have := of_decide_eq_true (z j (List.mem_range.mpr (by omega)))
          unfold hsF; exact decide_eq_false this
        · intro z j hj
          refine decide_eq_true (fun e => ?_)
          by_cases c3 : j < S
          · have := z j c3
            unfold hsF at this
            exact (of_decide_eq_false this) e
          · have hj32 := List.mem_range.mp hj
            have hnone : fAt A (32 * s + j) = -1 := by
              unfold fAt
              cases hcv : cov A (32 * s + j) with
              | none => rfl
              | some d =>
                obtain ⟨d1, d2, d3⟩ := cs_some (by omega) hcv
                have hwa := (h.2.2.2.1 d d1).2.2.2.1
                omega
            rw [hnone] at e; omega
      by_cases c2 : fb_ct (hsF A s (fAt A (32 * a + i))) S = 0
      · rw [if_pos (by rw [c2]; rfl)]
        show _ = some (zI ((if fsB A s a r i = true then i else ffL A s a r p0 m (i + 1) : Nat) : Int))
        rw [if_pos (by unfold fsB; rw [c1, hall.mpr c2]; rfl)]
      · rw [if_neg (by rw [zI_lit, zI_eq (by omega) (by omega) (by omega) (by omega)]; omega)]
        refine h99 ?_
        unfold fsB
        rw [c1, Bool.true_and]
        cases hx : (List.range 32).all (fun j => decide (fAt A (32 * s + j) ≠ fAt A (32 * a + i))) with
        | false => rfl
        | true => exact absurd (hall.mp hx) c2
    · rw [if_neg c1]
      refine h99 ?_
      unfold fsB
      cases hx : hsB A (32 * a + i) r with
      | false => rfl
      | true => exact absurd hx c1
