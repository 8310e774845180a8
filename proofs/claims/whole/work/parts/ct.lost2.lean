/-! ===== lost: the loops ===== -/
theorem sh_n2 {v : Int32} {f : Nat} (hf : f < 32) : (v >>> (zI (f : Int) &&& 31)) &&& (1 : Int32) = bI (v.toBitVec.getLsbD f) := by
  cases hb : v.toBitVec.getLsbD f with
  | false => exact (bt_sh hf).mpr hb
  | true =>
    have n0 : ¬ ((v >>> (zI (f : Int) &&& 31)) &&& (1 : Int32) = 0) := fun t => by rw [(bt_sh hf).mp t] at hb; exact absurd hb (by decide)
    generalize v >>> (zI (f : Int) &&& 31) = y at n0 ⊢
    have e : (y &&& (1 : Int32)).toBitVec = 0#32 ∨ (y &&& (1 : Int32)).toBitVec = 1#32 := by
      rw [Int32.toBitVec_and, show (1 : Int32).toBitVec = 1#32 from rfl, BitVec.and_one_eq_setWidth_ofBool_getLsbD]
      cases y.toBitVec.getLsbD 0
      · left; decide
      · right; decide
    rcases e with e | e
    · exact absurd (Int32.toBitVec_inj.mp (e.trans (show 0#32 = (0 : Int32).toBitVec from rfl))) n0
    · exact Int32.toBitVec_inj.mp (e.trans (show 1#32 = (bI true).toBitVec from rfl))
section
variable {n S : Nat} {A : Ab} {dep : Nat → Nat} {δ : Sl} {σ : Nat → Nat} {bn : Nat} {μ : Sl} {b : Nat} {B : Nat → Int}
theorem c_fi (h : WF n S A dep) (hC : CRep δ σ bn A) {d : Nat} (hd : Lv A d) : ∃ v, Qu_framesIn δ (zI (σ d : Int)) = some v ∧ ∀ f : Nat, f < 32 → v.toBitVec.getLsbD f = hasF A f d := by
  obtain ⟨v, v1, -⟩ := c_framesIn h hC hd (f := 0) (by omega)
  refine ⟨v, v1, fun f hf => ?_⟩
  obtain ⟨v', u1, u2⟩ := c_framesIn h hC hd hf
  rw [v1] at u1
  have := Option.some.inj u1
  subst this
  rw [bt_sh hf] at u2
  cases h1 : v.toBitVec.getLsbD f with
  | false => exact (u2.mp h1).symm
  | true =>
    cases h2 : hasF A f d with
    | true => rfl
    | false => rw [u2.mpr h2] at h1; exact h1.symm
theorem lc_ct (h : WF n S A dep) {q w x : Nat} (hx : Lv A x) : fb_ct (fun f => hasF A f x && rgF A q w f) 32 = lcF A q w x := by
  obtain ⟨l1, l2, l3, l4, l5, l6⟩ := lv_sp h hx
  have hS := h.2.1
  obtain ⟨r, hr⟩ : ∃ r, 32 = (A.1 1 x).toNat + (pgs A x + r) := ⟨32 - ((A.1 1 x).toNat + pgs A x), by omega⟩
  rw [hr, fb_ct_sp, fb_ct_sp]
  have e1 : fb_ct (fun f => hasF A f x && rgF A q w f) (A.1 1 x).toNat = 0 := by
    rw [fb_ct_cong (q := fun _ => false) (fun k hk => ?_)]
    · exact fb_ct_f _
    · unfold hasF; rw [decide_eq_false (by omega), Bool.false_and]
  have e3 : fb_ct (fun k => hasF A ((A.1 1 x).toNat + (pgs A x + k)) x && rgF A q w ((A.1 1 x).toNat + (pgs A x + k))) r = 0 := by
    rw [fb_ct_cong (q := fun _ => false) (fun k hk => ?_)]
    · exact fb_ct_f _
    · unfold hasF; rw [decide_eq_false (by omega), Bool.false_and]
  have e2 : fb_ct (fun k => hasF A ((A.1 1 x).toNat + k) x && rgF A q w ((A.1 1 x).toNat + k)) (pgs A x) = lcF A q w x := by
    unfold lcF
    refine fb_ct_cong (fun k hk => ?_)
    unfold hasF; rw [decide_eq_true (by omega), Bool.true_and]
  rw [e1, e2, e3]
  omega
theorem c_ls_l (h : WF n S A dep) (hC : CRep δ σ bn A) {s p w : Nat} (hs : s < 6) (hp : p + w ≤ 32) (a3 : Int32) {V : Int32} (hV : ∀ f : Nat, f < 32 → V.toBitVec.getLsbD f = rgF A (32 * s + p) w f) : ∀ (m i k a : Nat) (W : Int32), i + m = bn → m < k → ∃ W' : Int32, Qu_loss_81 δ k (zI (s : Int)) a3 (zI (p : Int)) (zI ((p + w : Nat) : Int)) V (zI (a : Int)) W (zI (i : Int)) = (if a3 = 0 then some (zI ((a + sml (lsF A s p w) (ldf σ A i m) : Nat) : Int)) else (bp (Jk_bitCount_0f7a4 W') fun r3 => some r3)) ∧ ∀ g : Nat, g < 32 → (W'.toBitVec.getLsbD g = true ↔ W.toBitVec.getLsbD g = true ∨ ∃ x, x ∈ ldf σ A i m ∧ lsB A s p w x = true ∧ x / 32 = g) := by
  have hbn := hC.1.1
  have e16 := hC.1.2.1
  intro m
  induction m with
  | zero =>
    intro i k a W hi hk
    obtain ⟨c, rfl⟩ : ∃ c, k = c + 1 := ⟨k - 1, by omega⟩
    refine ⟨W, ?_, fun g hg => ⟨fun t => .inl t, fun t => ?_⟩⟩
    · rw [Qu_loss_81, e16, if_pos (by rw [zI_le (by omega) (by omega) (by omega) (by omega)]; omega), ldf_0, sml_nil]; rfl
    · rcases t with t | ⟨x, t, -⟩
      · exact t
      · rw [ldf_0] at t; simp at t
  | succ m ih =>
    intro i k a W hi hk
    obtain ⟨c, rfl⟩ : ∃ c, k = c + 1 := ⟨k - 1, by omega⟩
    have hib : inb (zI (i : Int)) 192 := by rw [zI_inb (by omega) (by omega)]; omega
    rw [Qu_loss_81, e16, if_neg (by rw [zI_le (by omega) (by omega) (by omega) (by omega)]; omega), if_pos hib, zI_ixn (by omega)]
    by_cases hu : δ 21 i < 0
    · obtain ⟨W', t1, t2⟩ := ih (i + 1) c a W (by omega) (by omega)
      rw [if_pos hu, Qu_loss_158, bnd_ap, zI_s1, t1, ldf_none (sl_none hC (wf4 h) hu)]
      exact ⟨W', rfl, t2⟩
    · obtain ⟨x, e, hx, he⟩ := sl_live hC (by omega) hu
      obtain ⟨l1, l2, l3, l4, l5, l6⟩ := lv_sp h hx
      have hn6 := h.1
      have e18 := (hC.2.2.1 x hx).1
      have hbn2 : Qu_isBeneathRegion δ (zI (σ x : Int)) (zI (s : Int)) (zI (p : Int)) (zI ((p + w : Nat) : Int)) = some (bI (bnR A s p w x)) := by
        have b1 := cr_lt hC hx
        have hgv := cr_giver hC hx
        rw [Qu_isBeneathRegion, if_pos (zI_in b1 (by omega)), zI_ixn (by omega), hgv, bnd_ap, bnd_ap]
        unfold bnR
        rcases gv_or h hx with ⟨g1, -⟩ | ⟨g, g1, g2, g3⟩
        · rw [g1, enc_0]
          have t := c_bn_0 (δ := δ) 999999 (zI (s : Int)) (zI (p : Int)) (zI ((p + w : Nat) : Int)) (i := 0) (by omega)
          have z0 : zI ((0 : Nat) : Int) = (0 : Int32) := rfl
          rw [z0] at t
          exact t
        · have hdg := dep_lt h g2
          have t := c_bn_l h hC hs hp (dep g) FU 0 g rfl g2 (FU_gt (by omega)) (by omega)
          have z0 : zI ((0 : Nat) : Int) = (0 : Int32) := rfl
          rw [z0] at t
          rw [g1, enc_s, t, decide_eq_true (show (0 : Int) < (g : Int) + 1 by omega), Bool.true_and, show ((g : Int) + 1 - 1).toNat = g by omega]
      obtain ⟨v, v1, v2⟩ := c_fi h hC hx
      have bt : ∀ f : Nat, f < 32 → (v &&& V).toBitVec.getLsbD f = (hasF A f x && rgF A (32 * s + p) w f) := fun f hf => by
        rw [Int32.toBitVec_and, BitVec.getLsbD_and, v2 f hf, hV f hf]
      have bc : Jk_bitCount_0f7a4 (v &&& V) = some (zI (lcF A (32 * s + p) w x : Int)) := by
        rw [bitc_ct, ← lc_ct h hx, fb_ct_cong (fun f hf => bt f hf)]
      have v0 : (v &&& V = 0) ↔ lcF A (32 * s + p) w x = 0 := by
        rw [← lc_ct h hx, fb_ct_zero]
        constructor
        · intro t f hf
          rw [← bt f hf, t]
          show (0#32).getLsbD f = false
          exact BitVec.getLsbD_zero
        · intro t
          apply Int32.toBitVec_inj.mp
          apply BitVec.eq_of_getLsbD_eq
          intro f hf
          rw [bt f hf, t f hf]
          show false = (0#32).getLsbD f
          exact BitVec.getLsbD_zero.symm
      rw [he] at e18 hbn2 v1
      rw [if_neg hu, hbn2, bp_some, bI_if, ldf_some e, sml_cons]
      have hx1 := hx.1
      by_cases z : bnR A s p w x = true
      · rw [if_pos z, v1, bp_some, bnd_ap, bc, bp_some, bnd_ap, zI_add, show ((a : Int) + (lcF A (32 * s + p) w x : Int)) = ((a + lcF A (32 * s + p) w x : Nat) : Int) by omega]
        have eF : lsF A s p w x = lcF A (32 * s + p) w x := by unfold lsF; rw [if_pos z]
        rw [eF]
        by_cases y : lcF A (32 * s + p) w x = 0
        · obtain ⟨W', t1, t2⟩ := ih (i + 1) c (a + lcF A (32 * s + p) w x) W (by omega) (by omega)
          have e0 : W ||| (0 : Int32) = W := by
            apply Int32.toBitVec_inj.mp
            rw [Int32.toBitVec_or]
            show W.toBitVec ||| 0#32 = _
            exact BitVec.or_zero
          rw [if_pos (v0.mpr y), Qu_loss_155, bnd_ap, e0, Qu_loss_158, bnd_ap, zI_s1, t1, Nat.add_assoc]
          refine ⟨W', rfl, fun g hg => ?_⟩
          rw [t2 g hg]
          constructor
          · rintro (t | ⟨x', x1, x2⟩)
            · exact .inl t
            · exact .inr ⟨x', by simp [x1], x2⟩
          · rintro (t | ⟨x', x1, x2, x3⟩)
            · exact .inl t
            · rw [List.mem_cons] at x1
              rcases x1 with x1 | x1
              · rw [x1] at x2; unfold lsB at x2; rw [y, Bool.and_eq_true] at x2; exact absurd x2.2 (by decide)
              · exact .inr ⟨x', x1, x2, x3⟩
        · obtain ⟨W', t1, t2⟩ := ih (i + 1) c (a + lcF A (32 * s + p) w x) (W ||| ((1 : Int32) <<< (zI ((x / 32 : Nat) : Int) &&& 31))) (by omega) (by omega)
          rw [if_neg (fun t => y (v0.mp t)), if_pos hib, e18, Qu_loss_155, bnd_ap, Qu_loss_158, bnd_ap, zI_s1, t1, Nat.add_assoc]
          refine ⟨W', rfl, fun g hg => ?_⟩
          rw [t2 g hg, bt_or hg (by omega), Bool.or_eq_true, decide_eq_true_eq]
          constructor
          · rintro ((t | t) | ⟨x', x1, x2⟩)
            · exact .inl t
            · exact .inr ⟨x, by simp, by unfold lsB; rw [z, decide_eq_true (by omega)]; rfl, by omega⟩
            · exact .inr ⟨x', by simp [x1], x2⟩
          · rintro (t | ⟨x', x1, x2, x3⟩)
            · exact .inl (.inl t)
            · rw [List.mem_cons] at x1
              rcases x1 with x1 | x1
              · exact .inl (.inr (by rw [x1] at x3; omega))
              · exact .inr ⟨x', x1, x2, x3⟩
      · obtain ⟨W', t1, t2⟩ := ih (i + 1) c a W (by omega) (by omega)
        have eF : lsF A s p w x = 0 := by unfold lsF; rw [if_neg z]
        rw [if_neg z, Qu_loss_158, bnd_ap, zI_s1, t1, eF, Nat.zero_add]
        refine ⟨W', rfl, fun g hg => ?_⟩
        rw [t2 g hg]
        constructor
        · rintro (t | ⟨x', x1, x2⟩)
          · exact .inl t
          · exact .inr ⟨x', by simp [x1], x2⟩
        · rintro (t | ⟨x', x1, x2, x3⟩)
          · exact .inl t
          · rw [List.mem_cons] at x1
            rcases x1 with x1 | x1
            · rw [x1] at x2; unfold lsB at x2; rw [Bool.and_eq_true] at x2; exact absurd x2.1 z
            · exact .inr ⟨x', x1, x2, x3⟩
/-- the reference's pages of one deed -/
theorem m124 (hb : MB μ b) (h : WF n S A dep) (hM : MRep B A) {K : Int32 → Int32 → Int32 → Int32 → Int32 → Int32 → Int32 → Int32 → Sl → Option (Int32 × Sl)} {s p x : Nat} {t : Int} (hs : s < 6) (hp : p + pg t ≤ 32) (hpg : 0 < pg t) (ht1 : 1 ≤ t) (ht2 : t ≤ 4) (hx : Lv A x) (a3 : Int32) (big : Bool) (hb0 : big = false → ∀ i, i < pgs A x → rgF A (32 * s + p) (pg t) ((A.1 1 x).toNat + i) = true) (hb1 : big = true → ∃ F : Nat, fAt A (32 * s + p) = (F : Int) ∧ F ≤ 64 ∧ ∀ f, rgF A (32 * s + p) (pg t) f = decide (F ≤ f ∧ f < F + pg t)) : ∀ (m i k a : Nat) (W : Int32), i + m = pgs A x → m < k → ∃ W', Mo_lost_124 K k (zI (s : Int)) a3 (zI (t - 1)) (zI (p : Int)) (bI big) (zI (a : Int)) W (zI (x : Int)) (zI (i : Int)) (bst μ b B) = Mo_lost_208 K (zI (s : Int)) a3 (zI (t - 1)) (zI (p : Int)) (bI big) (zI ((a + fb_ct (fun j => rgF A (32 * s + p) (pg t) ((A.1 1 x).toNat + (i + j))) m : Nat) : Int)) W' (zI (x : Int)) (bst μ b B) ∧ ∀ g : Nat, g < 32 → (W'.toBitVec.getLsbD g = true ↔ W.toBitVec.getLsbD g = true ∨ (0 < fb_ct (fun j => rgF A (32 * s + p) (pg t) ((A.1 1 x).toNat + (i + j))) m ∧ x / 32 = g)) := by
  obtain ⟨l1, l2, l3, l4, l5, l6⟩ := lv_sp h hx
  have hx1 := hx.1
  have hS := h.2.1
  have hn6 := h.1
  have hpx : Mo_pagesOf (bst μ b B) (zI (x : Int)) = some (zI (pgs A x : Int)) := m_pages hb h hM hx1
  have h192 : Mo_of (bst μ b B) ((192 : Int32) + zI (x : Int)) = some (zI (A.1 1 x)) := by
    rw [show (192 : Int32) = zI 192 from rfl, zI_add, m_of hb B (by omega) (by omega), show (192 + (x : Int)).toNat = 192 + x by omega, (hM.2.1 x hx).1]
  have d32 : zI (x : Int) / (32 : Int32) = zI ((x / 32 : Nat) : Int) := by
    rw [show (32 : Int32) = zI 32 from rfl, zI_div (by omega) (by omega) (by omega) (by omega)]; congr 1
  have hpw : (1 : Int32) <<< (zI (t - 1) &&& 31) = zI (pg t : Int) := zI_pg ht1 ht2
  intro m
  induction m with
  | zero =>
    intro i k a W hi hk
    obtain ⟨c, rfl⟩ : ∃ c, k = c + 1 := ⟨k - 1, by omega⟩
    refine ⟨W, ?_, fun g hg => ⟨fun t => .inl t, fun t => ?_⟩⟩
    · rw [Mo_lost_124, hpx, bp_some, if_pos (by rw [zI_le (by omega) (by omega) (by omega) (by omega)]; omega)]; rfl
    · rcases t with t | ⟨t, -⟩
      · exact t
      · exact absurd t (Nat.lt_irrefl 0)
  | succ m ih =>
    intro i k a W hi hk
    obtain ⟨c, rfl⟩ : ∃ c, k = c + 1 := ⟨k - 1, by omega⟩
    have sp : fb_ct (fun j => rgF A (32 * s + p) (pg t) ((A.1 1 x).toNat + (i + j))) (m + 1) = (if rgF A (32 * s + p) (pg t) ((A.1 1 x).toNat + i) = true then 1 else 0) + fb_ct (fun j => rgF A (32 * s + p) (pg t) ((A.1 1 x).toNat + (i + 1 + j))) m := by
      have e := fb_ct_sp (fun j => rgF A (32 * s + p) (pg t) ((A.1 1 x).toNat + (i + j))) 1 m
      rw [show 1 + m = m + 1 by omega] at e
      rw [e]
      congr 1
      · show 0 + (if rgF A (32 * s + p) (pg t) ((A.1 1 x).toNat + (i + 0)) = true then 1 else 0) = _
        rw [Nat.zero_add, Nat.add_zero]
      · exact fb_ct_cong (fun k _ => by rw [Nat.add_assoc i])
    rw [sp]
    have yes : rgF A (32 * s + p) (pg t) ((A.1 1 x).toNat + i) = true → ∃ W', Mo_lost_187 K (Mo_lost_124 K c) (zI (s : Int)) a3 (zI (t - 1)) (zI (p : Int)) (bI big) (zI (a : Int)) W (zI (x : Int)) (zI (i : Int)) (bst μ b B) = Mo_lost_208 K (zI (s : Int)) a3 (zI (t - 1)) (zI (p : Int)) (bI big) (zI ((a + ((if rgF A (32 * s + p) (pg t) ((A.1 1 x).toNat + i) = true then 1 else 0) + fb_ct (fun j => rgF A (32 * s + p) (pg t) ((A.1 1 x).toNat + (i + 1 + j))) m) : Nat) : Int)) W' (zI (x : Int)) (bst μ b B) ∧ ∀ g : Nat, g < 32 → (W'.toBitVec.getLsbD g = true ↔ W.toBitVec.getLsbD g = true ∨ (0 < ((if rgF A (32 * s + p) (pg t) ((A.1 1 x).toNat + i) = true then 1 else 0) + fb_ct (fun j => rgF A (32 * s + p) (pg t) ((A.1 1 x).toNat + (i + 1 + j))) m) ∧ x / 32 = g)) := fun hf => by
      obtain ⟨W', t1, t2⟩ := ih (i + 1) c (a + 1) (W ||| ((1 : Int32) <<< (zI ((x / 32 : Nat) : Int) &&& 31))) (by omega) (by omega)
      refine ⟨W', ?_, fun g hg => ?_⟩
      · rw [Mo_lost_187, bnd_ap, zI_s1, if_pos (by decide), d32, bnd_ap, Mo_lost_202, bnd_ap, zI_s1, t1, hf, if_pos rfl, Nat.add_assoc]
      · rw [t2 g hg, bt_or hg (by omega), Bool.or_eq_true, decide_eq_true_eq, hf, if_pos rfl]
        constructor
        · rintro ((q | q) | ⟨q1, q2⟩)
          · exact .inl q
          · exact .inr ⟨by omega, by omega⟩
          · exact .inr ⟨by omega, q2⟩
        · rintro (q | ⟨q1, q2⟩)
          · exact .inl (.inl q)
          · exact .inl (.inr (by omega))
    have no : rgF A (32 * s + p) (pg t) ((A.1 1 x).toNat + i) = false → ∃ W', Mo_lost_202 K (Mo_lost_124 K c) (zI (s : Int)) a3 (zI (t - 1)) (zI (p : Int)) (bI big) (zI (a : Int)) W (zI (x : Int)) (zI (i : Int)) (bst μ b B) = Mo_lost_208 K (zI (s : Int)) a3 (zI (t - 1)) (zI (p : Int)) (bI big) (zI ((a + ((if rgF A (32 * s + p) (pg t) ((A.1 1 x).toNat + i) = true then 1 else 0) + fb_ct (fun j => rgF A (32 * s + p) (pg t) ((A.1 1 x).toNat + (i + 1 + j))) m) : Nat) : Int)) W' (zI (x : Int)) (bst μ b B) ∧ ∀ g : Nat, g < 32 → (W'.toBitVec.getLsbD g = true ↔ W.toBitVec.getLsbD g = true ∨ (0 < ((if rgF A (32 * s + p) (pg t) ((A.1 1 x).toNat + i) = true then 1 else 0) + fb_ct (fun j => rgF A (32 * s + p) (pg t) ((A.1 1 x).toNat + (i + 1 + j))) m) ∧ x / 32 = g)) := fun hf => by
      obtain ⟨W', t1, t2⟩ := ih (i + 1) c a W (by omega) (by omega)
      refine ⟨W', ?_, fun g hg => ?_⟩
      · rw [Mo_lost_202, bnd_ap, zI_s1, t1, hf, if_neg (by decide), Nat.zero_add]
      · rw [t2 g hg, hf, if_neg (by decide), Nat.zero_add]
    have e11 : zI (A.1 1 x) + zI (i : Int) = zI (((A.1 1 x).toNat + i : Nat) : Int) := by rw [zI_add]; congr 1; omega
    rw [Mo_lost_124, hpx, bp_some, if_neg (by rw [zI_le (by omega) (by omega) (by omega) (by omega)]; omega), h192, bp_some, bnd_ap, e11]
    cases big with
    | false =>
      rw [if_pos (show bI false = 0 from rfl)]
      exact yes (hb0 rfl i (by omega))
    | true =>
      obtain ⟨F, F1, F2, F3⟩ := hb1 rfl
      have hfa := m_frAt hb h hM hs (p := p) (by omega)
      rw [if_neg (by decide), hfa, bp_some, bp_some, F1, hpw, zI_add, show (F : Int) + (pg t : Int) = ((F + pg t : Nat) : Int) by omega]
      by_cases y1 : (A.1 1 x).toNat + i < F
      · rw [if_pos (by rw [zI_lt (by omega) (by omega) (by omega) (by omega)]; omega)]
        exact no (by rw [F3, decide_eq_false (by omega)])
      · rw [if_neg (by rw [zI_lt (by omega) (by omega) (by omega) (by omega)]; omega)]
        by_cases y2 : (A.1 1 x).toNat + i < F + pg t
        · rw [if_pos (by rw [zI_lt (by omega) (by omega) (by omega) (by omega)]; omega)]
          exact yes (by rw [F3, decide_eq_true (by omega)])
        · rw [if_neg (by rw [zI_lt (by omega) (by omega) (by omega) (by omega)]; omega)]
          exact no (by rw [F3, decide_eq_false (by omega)])
theorem m_bth (hb : MB μ b) (h : WF n S A dep) (hM : MRep B A) {l : List Nat} (hT : TH μ l) (hl : l.length ≤ 8) (hlv : ∀ y, y ∈ l → Lv A y) {x : Nat} (hx : Lv A x) : ∀ (q p : List Nat) (k : Nat), l = p ++ q → q.length < k → Mo_isBelowThere_2 (bst μ b B) k (zI (x : Int)) (zI (p.length : Int)) = some (bI (q.any (fun y => blS A y x))) := by
  have e30 : bst μ b B 34 30 = zI (l.length : Int) := by rw [bst_ne _ _ _ (by decide)]; exact hT.1
  intro q
  induction q with
  | nil =>
    intro p k he hk
    obtain ⟨c, rfl⟩ : ∃ c, k = c + 1 := ⟨k - 1, by omega⟩
    simp at he; subst he
    rw [Mo_isBelowThere_2, e30, if_pos (by rw [zI_le (by omega) (by omega) (by omega) (by omega)]; omega)]
    rfl
  | cons y q ih =>
    intro p k he hk
    obtain ⟨c, rfl⟩ : ∃ c, k = c + 1 := ⟨k - 1, by omega⟩
    have hlen : l.length = p.length + q.length + 1 := by rw [he]; simp; omega
    have hy := hlv y (by rw [he]; simp)
    have hlx : bst μ b B 47 p.length = zI (y : Int) := by rw [bst_ne _ _ _ (by decide)]; exact hT.2 p.length y (by rw [he]; simp)
    have hrec := ih (p ++ [y]) c (by rw [he]; simp) (by simp at hk; omega)
    rw [Mo_isBelowThere_2, e30, if_neg (by rw [zI_le (by omega) (by omega) (by omega) (by omega)]; omega), if_pos (by rw [zI_inb (by omega) (by omega)]; omega), zI_ixn (by omega), hlx, m_above hb h hM hy.1 hx, bp_some, bI_if, bnd_ap, zI_s1, show p.length + 1 = (p ++ [y]).length by simp, hrec]
    cases hbx : blS A y x with
    | true =>
      rw [if_pos rfl, List.any_cons, hbx]; rfl
    | false =>
      rw [if_neg (by decide), List.any_cons, hbx, Bool.false_or]
theorem m92 (hb : MB μ b) (h : WF n S A dep) (hM : MRep B A) {s p : Nat} {t : Int} (hs : s < 6) (hp : p + pg t ≤ S) (hpg : 0 < pg t) (ht1 : 1 ≤ t) (ht2 : t ≤ 4) (hal : p % pg t = 0) (ha2 : (32 * s + p) % pg t = 0) (hT : TH μ (thr A (32 * s + p) t)) (a3 : Int32) (big : Bool) (hb0 : big = false → ∀ x, Lv A x → bnR A s p (pg t) x = true → ∀ i, i < pgs A x → rgF A (32 * s + p) (pg t) ((A.1 1 x).toNat + i) = true) (hb1 : big = true → ∃ F : Nat, fAt A (32 * s + p) = (F : Int) ∧ F ≤ 64 ∧ ∀ f, rgF A (32 * s + p) (pg t) f = decide (F ≤ f ∧ f < F + pg t)) : ∀ (m j k a : Nat) (W : Int32), j + m = 192 → m < k → ∃ W', Mo_lost_92 k (zI (s : Int)) a3 (zI (t - 1)) (zI (p : Int)) (bI big) (zI (a : Int)) W (zI (j : Int)) (bst μ b B) = Mo_lost_220 FU a3 (zI ((a + fb_sm (fun i => if 0 < A.1 0 (j + i) then lsF A s p (pg t) (j + i) else 0) m : Nat) : Int)) W' (0 : Int32) (0 : Int32) (bst μ b B) ∧ ∀ g : Nat, g < 32 → (W'.toBitVec.getLsbD g = true ↔ W.toBitVec.getLsbD g = true ∨ ∃ x, j ≤ x ∧ Lv A x ∧ lsB A s p (pg t) x = true ∧ x / 32 = g) := by
  have hS := h.2.1
  intro m
  induction m with
  | zero =>
    intro j k a W hj hk
    obtain ⟨c, rfl⟩ : ∃ c, k = c + 1 := ⟨k - 1, by omega⟩
    refine ⟨W, ?_, fun g hg => ⟨fun t => .inl t, fun t => ?_⟩⟩
    · rw [Mo_lost_92, if_pos (by rw [zI_lit, zI_le (by omega) (by omega) (by omega) (by omega)]; omega), bnd_ap, bnd_ap]; rfl
    · rcases t with t | ⟨x, t1, t2, -⟩
      · exact t
      · have := t2.1; omega
  | succ m ih =>
    intro j k a W hj hk
    obtain ⟨c, rfl⟩ : ∃ c, k = c + 1 := ⟨k - 1, by omega⟩
    have sp : fb_sm (fun i => if 0 < A.1 0 (j + i) then lsF A s p (pg t) (j + i) else 0) (m + 1) = (if 0 < A.1 0 j then lsF A s p (pg t) j else 0) + fb_sm (fun i => if 0 < A.1 0 (j + 1 + i) then lsF A s p (pg t) (j + 1 + i) else 0) m := by
      have e := fb_sm_split (fun i => if 0 < A.1 0 (j + i) then lsF A s p (pg t) (j + i) else 0) 1 m
      rw [show 1 + m = m + 1 by omega] at e
      rw [e]
      congr 1
      · show 0 + (if 0 < A.1 0 (j + 0) then lsF A s p (pg t) (j + 0) else 0) = _
        rw [Nat.zero_add, Nat.add_zero]
      · exact fb_sm_cong (fun k _ => by rw [Nat.add_assoc])
    rw [sp]
    have skip : (∀ x, x = j → Lv A x → bnR A s p (pg t) x = false) → ∃ W', Mo_lost_208 (Mo_lost_92 c) (zI (s : Int)) a3 (zI (t - 1)) (zI (p : Int)) (bI big) (zI (a : Int)) W (zI (j : Int)) (bst μ b B) = Mo_lost_220 FU a3 (zI ((a + ((if 0 < A.1 0 j then lsF A s p (pg t) j else 0) + fb_sm (fun i => if 0 < A.1 0 (j + 1 + i) then lsF A s p (pg t) (j + 1 + i) else 0) m) : Nat) : Int)) W' (0 : Int32) (0 : Int32) (bst μ b B) ∧ ∀ g : Nat, g < 32 → (W'.toBitVec.getLsbD g = true ↔ W.toBitVec.getLsbD g = true ∨ ∃ x, j ≤ x ∧ Lv A x ∧ lsB A s p (pg t) x = true ∧ x / 32 = g) := fun hno => by
      obtain ⟨W', t1, t2⟩ := ih (j + 1) c a W (by omega) (by omega)
      have e0 : (if 0 < A.1 0 j then lsF A s p (pg t) j else 0) = 0 := by
        by_cases z : 0 < A.1 0 j
        · rw [if_pos z]; unfold lsF; rw [hno j rfl ⟨by omega, z⟩, if_neg (by decide)]
        · rw [if_neg z]
      refine ⟨W', by rw [Mo_lost_208, bnd_ap, zI_s1, t1, e0, Nat.zero_add], fun g hg => ?_⟩
      rw [t2 g hg]
      constructor
      · rintro (q | ⟨x, x1, x2⟩)
        · exact .inl q
        · exact .inr ⟨x, by omega, x2⟩
      · rintro (q | ⟨x, x1, x2, x3, x4⟩)
        · exact .inl q
        · by_cases z : x = j
          · unfold lsB at x3; rw [hno x z x2, Bool.false_and] at x3; exact absurd x3 (by decide)
          · exact .inr ⟨x, by omega, x2, x3, x4⟩
    rw [Mo_lost_92, if_neg (by rw [zI_lit, zI_le (by omega) (by omega) (by omega) (by omega)]; omega), m_deed hb h hM (by omega), bp_some, bI_if]
    by_cases z : 0 < A.1 0 j
    · have hx : Lv A j := ⟨by omega, z⟩
      have hbt := m_bth hb h hM hT (thr_len ht1 ht2) (fun y hy => thr_mem h ht1 ht2 (by omega) hy) hx (thr A (32 * s + p) t) [] FU rfl (FU_gt (by have := thr_len (A := A) (q := 32 * s + p) ht1 ht2; omega))
      have z0 : zI ((([] : List Nat).length : Nat) : Int) = (0 : Int32) := rfl
      rw [z0] at hbt
      have ebn : (thr A (32 * s + p) t).any (fun y => blS A y j) = bnR A s p (pg t) j := by
        rw [Bool.eq_iff_iff, bn_thr h hs ht1 ht2 hp hal hpg ha2 hx, List.any_eq_true]
      rw [ebn] at hbt
      rw [if_pos (decide_eq_true z), Mo_isBelowThere, bnd_ap, hbt, bp_some, bI_if]
      by_cases y : bnR A s p (pg t) j = true
      · rw [if_pos y, bnd_ap]
        obtain ⟨W1, t1, t2⟩ := m124 hb h hM (K := Mo_lost_92 c) hs (by omega) hpg ht1 ht2 hx a3 big (fun e => hb0 e j hx y) hb1 (pgs A j) 0 FU a W (by omega) (FU_gt (by have := (lv_sp h hx).2.2.2.1; omega))
        have z0 : zI ((0 : Nat) : Int) = (0 : Int32) := rfl
        rw [z0] at t1
        simp only [Nat.zero_add] at t1 t2
        obtain ⟨W2, u1, u2⟩ := ih (j + 1) c (a + lcF A (32 * s + p) (pg t) j) W1 (by omega) (by omega)
        have eF : (if 0 < A.1 0 j then lsF A s p (pg t) j else 0) = lcF A (32 * s + p) (pg t) j := by rw [if_pos z]; unfold lsF; rw [if_pos y]
        refine ⟨W2, ?_, fun g hg => ?_⟩
        · rw [t1, Mo_lost_208, bnd_ap, zI_s1, eF, ← Nat.add_assoc]
          exact u1
        · rw [u2 g hg, t2 g hg]
          constructor
          · rintro ((q | ⟨q1, q2⟩) | ⟨x, x1, x2⟩)
            · exact .inl q
            · exact .inr ⟨j, by omega, hx, by unfold lsB; rw [y, Bool.true_and]; exact decide_eq_true q1, q2⟩
            · exact .inr ⟨x, by omega, x2⟩
          · rintro (q | ⟨x, x1, x2, x3, x4⟩)
            · exact .inl (.inl q)
            · by_cases zz : x = j
              · subst zz
                unfold lsB at x3
                rw [Bool.and_eq_true] at x3
                exact .inl (.inr ⟨of_decide_eq_true x3.2, x4⟩)
              · exact .inr ⟨x, by omega, x2, x3, x4⟩
      · rw [if_neg y]
        refine skip (fun x ex _ => ?_)
        rw [ex]
        cases hh : bnR A s p (pg t) j with
        | true => exact absurd hh y
        | false => rfl
    · rw [if_neg (by rw [decide_eq_true_eq]; exact z)]
      exact skip (fun x ex hx => by rw [ex] at hx; exact absurd hx.2 z)
theorem m220 (hn : n ≤ 6) (e11 : δ 34 11 = zI (n : Int)) (a3 v7 W : Int32) : ∀ (m j k a : Nat), j + m = n → m < k → Mo_lost_220 k a3 v7 W (zI (a : Int)) (zI (j : Int)) δ = some (if a3 = 0 then v7 else zI ((a + fb_ct (fun i => W.toBitVec.getLsbD (j + i)) m : Nat) : Int), δ) := by
  intro m
  induction m with
  | zero =>
    intro j k a hj hk
    obtain ⟨c, rfl⟩ : ∃ c, k = c + 1 := ⟨k - 1, by omega⟩
    rw [Mo_lost_220, e11, if_pos (by rw [zI_le (by omega) (by omega) (by omega) (by omega)]; omega)]
    by_cases z : a3 = 0
    · rw [if_pos z, if_pos z]
    · rw [if_neg z, if_neg z]; rfl
  | succ m ih =>
    intro j k a hj hk
    obtain ⟨c, rfl⟩ : ∃ c, k = c + 1 := ⟨k - 1, by omega⟩
    have sp : fb_ct (fun i => W.toBitVec.getLsbD (j + i)) (m + 1) = (if W.toBitVec.getLsbD j = true then 1 else 0) + fb_ct (fun i => W.toBitVec.getLsbD (j + 1 + i)) m := by
      have e := fb_ct_sp (fun i => W.toBitVec.getLsbD (j + i)) 1 m
      rw [show 1 + m = m + 1 by omega] at e
      rw [e]
      congr 1
      · show 0 + (if W.toBitVec.getLsbD (j + 0) = true then 1 else 0) = _
        rw [Nat.zero_add, Nat.add_zero]
      · exact fb_ct_cong (fun k _ => by rw [Nat.add_assoc])
    have ea : zI (a : Int) + bI (W.toBitVec.getLsbD j) = zI ((a + (if W.toBitVec.getLsbD j = true then 1 else 0) : Nat) : Int) := by
      unfold bI
      rw [zI_add]
      by_cases q : W.toBitVec.getLsbD j = true
      · rw [if_pos q, if_pos q]; rfl
      · rw [if_neg q, if_neg q]; rfl
    rw [Mo_lost_220, e11, if_neg (by rw [zI_le (by omega) (by omega) (by omega) (by omega)]; omega), sh_n2 (by omega), bnd_ap, bnd_ap, zI_s1, ea, ih (j + 1) c _ (by omega) (by omega), sp, Nat.add_assoc]
end
