/-! ===== aliases, holds ===== -/
theorem fi_bt : ∀ (o : Fin 4) (fr f : Fin 32), ((((1 : Int32) <<< (((1 : Int32) <<< (zI (o.val : Int) &&& 31)) &&& 31)) - (1 : Int32)) <<< (zI (fr.val : Int) &&& 31)).toBitVec.getLsbD f.val = decide (fr.val ≤ f.val ∧ f.val < fr.val + 2 ^ o.val) := by decide +kernel
theorem cnt_le : ∀ (n m : Nat) (P Q : Nat → Bool) (F : Nat → Nat), (∀ i, i < n → P i = true → F i < m ∧ Q (F i) = true) → (∀ i j, i < n → j < n → P i = true → P j = true → F i = F j → i = j) → fb_ct P n ≤ fb_ct Q m := by
  intro n
  induction n with
  | zero => intro m P Q F _ _; exact Nat.zero_le _
  | succ n ih =>
    intro m P Q F h1 h2
    rw [fb_ct_succ]
    by_cases z : P n = true
    · obtain ⟨y1, y2⟩ := h1 n (by omega) z
      have u := fb_ct_upd Q false (i := F n) (n := m) y1
      rw [if_pos y2, if_neg (by decide)] at u
      have t := ih m P (fun k => if k = F n then false else Q k) F (fun i hi hp => ?_) (fun i j hi hj => h2 i j (by omega) (by omega))
      · rw [if_pos z]; omega
      · obtain ⟨x1, x2⟩ := h1 i (by omega) hp
        refine ⟨x1, ?_⟩
        rw [if_neg (fun e => by have := h2 i n (by omega) (by omega) hp z e; omega)]; exact x2
    · rw [if_neg z, Nat.add_zero]
      exact ih m P Q F (fun i hi => h1 i (by omega)) (fun i j hi hj => h2 i j (by omega) (by omega))
theorem ct_sm (P : Nat → Bool) : ∀ n, fb_sm (fun i => if P i = true then 1 else 0) n = fb_ct P n := by
  intro n
  induction n with
  | zero => rfl
  | succ n ih => rw [fb_sm_succ, fb_ct_succ, ih]
/-- deed d has frame f -/
def hasF (A : Ab) (f d : Nat) : Bool := decide (A.1 1 d ≤ (f : Int) ∧ (f : Int) < A.1 1 d + (pgs A d : Int))
section
variable {n S : Nat} {A : Ab} {dep : Nat → Nat} {δ : Sl} {σ : Nat → Nat} {bn : Nat} {μ : Sl} {b : Nat} {B : Nat → Int}
theorem pgs_2 (h : WF n S A dep) {d : Nat} (hd : Lv A d) : pgs A d = 2 ^ (A.1 0 d - 1).toNat ∧ 1 ≤ A.1 0 d ∧ A.1 0 d ≤ 4 := by
  have := hd.2
  have := (h.2.2.2.1 d hd).1
  have hc : A.1 0 d = 1 ∨ A.1 0 d = 2 ∨ A.1 0 d = 3 ∨ A.1 0 d = 4 := by omega
  refine ⟨?_, by omega, by omega⟩
  unfold pgs
  rcases hc with e | e | e | e <;> rw [e] <;> decide
theorem c_framesIn (h : WF n S A dep) (hC : CRep δ σ bn A) {d f : Nat} (hd : Lv A d) (hf : f < 32) : ∃ w, Qu_framesIn δ (zI (σ d : Int)) = some w ∧ (((w >>> (zI (f : Int) &&& 31)) &&& (1 : Int32)) = 0 ↔ hasF A f d = false) := by
  have b1 := cr_lt hC hd
  obtain ⟨g1, g2, g3, g4, -⟩ := hC.2.2.1 d hd
  obtain ⟨p1, p2, p3⟩ := pgs_2 h hd
  have w := h.2.2.2.1 d hd
  have hS := h.2.1
  have w5 := w.2.2.2.2.1
  have w7 := w.2.2.2.2.2.2.1
  have hp : 0 < pgs A d := by rw [p1]; exact Nat.two_pow_pos _
  refine ⟨_, by rw [Qu_framesIn, if_pos (zI_in b1 (by omega)), if_pos (zI_in b1 (by omega)), zI_ixn (by omega)], ?_⟩
  rw [bt_sh hf, g3, g4]
  have t := fi_bt ⟨(A.1 0 d - 1).toNat, by omega⟩ ⟨(A.1 1 d).toNat, by omega⟩ ⟨f, hf⟩
  dsimp only at t
  rw [show (((A.1 0 d - 1).toNat : Nat) : Int) = A.1 0 d - 1 by omega, show (((A.1 1 d).toNat : Nat) : Int) = A.1 1 d by omega, ← p1] at t
  rw [t]
  unfold hasF
  rw [decide_eq_false_iff_not, decide_eq_false_iff_not]
  omega
/-- places of one space that show frame f are as many as its deeds that have it -/
theorem al_eq (h : WF n S A dep) {s f : Nat} (hs : s < 6) : fb_ct (fun p => decide (fAt A (32 * s + p) = (f : Int))) S = fb_ct (fun p => decide (0 < A.1 0 (32 * s + p)) && hasF A f (32 * s + p)) 32 := by
  have hS := h.2.1
  have hWS := WF_WS h
  have one : ∀ p, p < 32 → fAt A (32 * s + p) = (f : Int) → ∃ d, cov A (32 * s + p) = some d ∧ Lv A d ∧ 32 * s ≤ d ∧ d ≤ 32 * s + p ∧ A.1 1 d + ((32 * s + p : Nat) : Int) - (d : Int) = (f : Int) ∧ 32 * s + p < d + pgs A d := fun p hp hf => by
    unfold fAt at hf
    cases hc : cov A (32 * s + p) with
    | none => rw [hc] at hf; dsimp only at hf; omega
    | some d =>
      rw [hc] at hf
      dsimp only at hf
      obtain ⟨c1, c2, c3⟩ := cs_some (by omega) hc
      have := (h.2.2.2.1 d c1).2.2.2.1
      exact ⟨d, rfl, c1, by omega, c2, by omega, c3⟩
  apply Nat.le_antisymm
  · refine cnt_le S 32 _ _ (fun p => (match cov A (32 * s + p) with | some d => d | none => 0) - 32 * s) (fun p hp hP => ?_) (fun p p' hp hp' hP hP' e => ?_)
    · obtain ⟨d, d1, d2, d3, d4, d5, d6⟩ := one p (by omega) (of_decide_eq_true hP)
      rw [d1]
      dsimp only
      rw [show 32 * s + (d - 32 * s) = d by omega, decide_eq_true d2.2, Bool.true_and]
      refine ⟨by omega, decide_eq_true ?_⟩
      omega
    · obtain ⟨d, d1, d2, d3, d4, d5, d6⟩ := one p (by omega) (of_decide_eq_true hP)
      obtain ⟨d', d1', d2', d3', d4', d5', d6'⟩ := one p' (by omega) (of_decide_eq_true hP')
      rw [d1, d1'] at e
      dsimp only at e
      have : d = d' := by omega
      subst this
      omega
  · have two : ∀ q, q < 32 → (decide (0 < A.1 0 (32 * s + q)) && hasF A f (32 * s + q)) = true → Lv A (32 * s + q) ∧ A.1 1 (32 * s + q) ≤ (f : Int) ∧ (f : Int) < A.1 1 (32 * s + q) + (pgs A (32 * s + q) : Int) ∧ q + pgs A (32 * s + q) ≤ S := fun q hq hQ => by
      rw [Bool.and_eq_true, decide_eq_true_eq] at hQ
      have hl : Lv A (32 * s + q) := ⟨by omega, hQ.1⟩
      have h2 := of_decide_eq_true hQ.2
      have := (h.2.2.2.1 _ hl).2.2.2.1
      exact ⟨hl, h2.1, h2.2, by omega⟩
    refine cnt_le 32 S _ _ (fun q => q + ((f : Int) - A.1 1 (32 * s + q)).toNat) (fun q hq hQ => ?_) (fun q q' hq hq' hQ hQ' e => ?_)
    · obtain ⟨t1, t2, t3, t4⟩ := two q hq hQ
      have hc := cs_of hWS t1 (q := 32 * s + (q + ((f : Int) - A.1 1 (32 * s + q)).toNat)) (by omega) (by omega)
      refine ⟨by omega, decide_eq_true ?_⟩
      unfold fAt
      rw [hc]
      dsimp only
      omega
    · obtain ⟨t1, t2, t3, t4⟩ := two q hq hQ
      obtain ⟨t1', t2', t3', t4'⟩ := two q' hq' hQ'
      have hc := cs_of hWS t1 (q := 32 * s + (q + ((f : Int) - A.1 1 (32 * s + q)).toNat)) (by omega) (by omega)
      have hc' := cs_of hWS t1' (q := 32 * s + (q' + ((f : Int) - A.1 1 (32 * s + q')).toNat)) (by omega) (by omega)
      rw [← e, hc] at hc'
      have := Option.some.inj hc'
      omega
theorem c_al_l (h : WF n S A dep) (hC : CRep δ σ bn A) {s g : Nat} (hs : s < 6) (hg : g < 32) : ∀ (m i k a : Nat), i + m = bn → m < k → Qu_placesOf_5 δ k (zI (s : Int)) (zI (g : Int)) (zI (a : Int)) (zI (i : Int)) = some (zI ((a + sml (fun d => if d / 32 = s then (if hasF A g d = true then 1 else 0) else 0) (ldf σ A i m) : Nat) : Int)) := by
  have hbn := hC.1.1
  have e16 := hC.1.2.1
  intro m
  induction m with
  | zero =>
    intro i k a hi hk
    obtain ⟨c, rfl⟩ : ∃ c, k = c + 1 := ⟨k - 1, by omega⟩
    rw [Qu_placesOf_5, e16, if_pos (by rw [zI_le (by omega) (by omega) (by omega) (by omega)]; omega), ldf_0, sml_nil]; rfl
  | succ m ih =>
    intro i k a hi hk
    obtain ⟨c, rfl⟩ : ∃ c, k = c + 1 := ⟨k - 1, by omega⟩
    have hib : inb (zI (i : Int)) 192 := by rw [zI_inb (by omega) (by omega)]; omega
    rw [Qu_placesOf_5, e16, if_neg (by rw [zI_le (by omega) (by omega) (by omega) (by omega)]; omega), if_pos hib, zI_ixn (by omega)]
    by_cases hu : δ 21 i < 0
    · rw [if_pos hu, Qu_placesOf_51, bnd_ap, zI_s1, ih (i + 1) c a (by omega) (by omega), ldf_none (sl_none hC (wf4 h) hu)]
    · obtain ⟨x, e, hx, he⟩ := sl_live hC (by omega) hu
      have e18 := (hC.2.2.1 x hx).1
      obtain ⟨w, hw1, hw2⟩ := c_framesIn h hC hx hg
      rw [he] at e18 hw1
      have hx1 := hx.1
      rw [if_neg hu, if_pos hib, e18, hw1, bp_some, ldf_some e, sml_cons]
      by_cases z : x / 32 = s
      · rw [if_pos (by rw [z]), if_pos z]
        by_cases y : hasF A g x = true
        · rw [if_neg (fun t => by rw [hw2] at t; rw [t] at y; exact absurd y (by decide)), if_pos y, bnd_ap, zI_s1, Qu_placesOf_51, bnd_ap, zI_s1, ih (i + 1) c _ (by omega) (by omega), Nat.add_assoc]
        · rw [if_pos (hw2.mpr (by cases hh : hasF A g x with | true => exact absurd hh y | false => rfl)), if_neg y, Qu_placesOf_51, bnd_ap, zI_s1, ih (i + 1) c a (by omega) (by omega), Nat.zero_add]
      · rw [if_neg (by rw [zI_eq (by omega) (by omega) (by omega) (by omega)]; omega), if_neg z, Qu_placesOf_51, bnd_ap, zI_s1, ih (i + 1) c a (by omega) (by omega), Nat.zero_add]
theorem m_al_l (hb : MB μ b) (h : WF n S A dep) (hM : MRep B A) (hsz : μ 41 3 = zI (S : Int)) {s g : Nat} (hs : s < 6) (hg : g < 32) : ∀ (m j k a : Nat), j + m = S → m < k → Mo_aliasesOf_5 (bst μ b B) k (zI (s : Int)) (zI (g : Int)) (zI (a : Int)) (zI (j : Int)) = some (zI ((a + fb_ct (fun p => decide (fAt A (32 * s + (j + p)) = (g : Int))) m : Nat) : Int)) := by
  have hS := h.2.1
  have sz : Mo_size (bst μ b B) = some (zI (S : Int)) := by rw [Mo_size, if_pos (by decide), show ix (3 : Int32) = 3 from by decide, bst_ne _ _ _ (by omega), hsz]
  intro m
  induction m with
  | zero =>
    intro j k a hj hk
    obtain ⟨c, rfl⟩ : ∃ c, k = c + 1 := ⟨k - 1, by omega⟩
    rw [Mo_aliasesOf_5, sz, bp_some, if_pos (by rw [zI_le (by omega) (by omega) (by omega) (by omega)]; omega)]; rfl
  | succ m ih =>
    intro j k a hj hk
    obtain ⟨c, rfl⟩ : ∃ c, k = c + 1 := ⟨k - 1, by omega⟩
    have sp : fb_ct (fun p => decide (fAt A (32 * s + (j + p)) = (g : Int))) (m + 1) = (if fAt A (32 * s + j) = (g : Int) then 1 else 0) + fb_ct (fun p => decide (fAt A (32 * s + (j + 1 + p)) = (g : Int))) m := by
      have e := fb_sm_split (fun p => if decide (fAt A (32 * s + (j + p)) = (g : Int)) = true then 1 else 0) 1 m
      rw [show 1 + m = m + 1 by omega, ct_sm] at e
      rw [e]
      congr 1
      · show 0 + (if decide (fAt A (32 * s + (j + 0)) = (g : Int)) = true then 1 else 0) = _
        rw [Nat.zero_add, Nat.add_zero]
        by_cases z : fAt A (32 * s + j) = (g : Int)
        · rw [if_pos (decide_eq_true z), if_pos z]
        · rw [if_neg (by rw [decide_eq_true_eq]; exact z), if_neg z]
      · rw [← ct_sm]
        exact fb_sm_cong (fun k _ => by rw [Nat.add_assoc])
    have rg : -1 ≤ fAt A (32 * s + j) ∧ fAt A (32 * s + j) < 64 := by
      unfold fAt
      cases hc : cov A (32 * s + j) with
      | none => dsimp only; omega
      | some d =>
        obtain ⟨c1, c2, c3⟩ := cs_some (by omega) hc
        have w := h.2.2.2.1 d c1
        have w5 := w.2.2.2.2.1
        have w7 := w.2.2.2.2.2.2.1
        dsimp only; omega
    have add0 : ∀ a : Nat, zI (a : Int) + (0 : Int32) = zI (a : Int) := fun a => by rw [show (0 : Int32) = zI 0 from rfl, zI_add, Int.add_zero]
    rw [Mo_aliasesOf_5, sz, bp_some, if_neg (by rw [zI_le (by omega) (by omega) (by omega) (by omega)]; omega), m_frAt hb h hM hs (by omega), bp_some, sp]
    by_cases z : fAt A (32 * s + j) = (g : Int)
    · rw [if_pos (by rw [z]), if_pos z, Mo_aliasesOf_31, bnd_ap, bnd_ap, zI_s1, zI_s1, ih (j + 1) c _ (by omega) (by omega), Nat.add_assoc]
    · rw [if_neg (by rw [zI_eq (by omega) (by omega) (by omega) (by omega)]; exact z), if_neg z, Mo_aliasesOf_31, bnd_ap, bnd_ap, zI_s1, add0, ih (j + 1) c a (by omega) (by omega), Nat.zero_add]
theorem m_alA (hb : MB μ b) (h : WF n S A dep) (hM : MRep B A) (hsz : μ 41 3 = zI (S : Int)) {s g : Nat} (hs : s < 6) (hg : g < 32) : Mo_aliasesOf (bst μ b B) (zI (s : Int)) (zI (g : Int)) = some (zI ((fb_ct (fun p => decide (fAt A (32 * s + p) = (g : Int))) S : Nat) : Int)) := by
  have hS := h.2.1
  have t := m_al_l hb h hM hsz hs hg S 0 FU 0 (by omega) (FU_gt (by omega))
  have z0 : zI ((0 : Nat) : Int) = (0 : Int32) := rfl
  rw [z0] at t
  simp only [Nat.zero_add] at t
  rw [Mo_aliasesOf, bnd_ap, bnd_ap, t]
theorem c_alA (h : WF n S A dep) (hC : CRep δ σ bn A) {s g : Nat} (hs : s < 6) (hg : g < 32) : Qu_placesOf δ (zI (s : Int)) (zI (g : Int)) = some (zI ((fb_ct (fun p => decide (fAt A (32 * s + p) = (g : Int))) S : Nat) : Int)) := by
  have hbn := hC.1.1
  have t := c_al_l h hC hs hg bn 0 FU 0 (by omega) (FU_gt (by omega))
  have z0 : zI ((0 : Nat) : Int) = (0 : Int32) := rfl
  rw [sum_space hC _ hs, Nat.zero_add, z0] at t
  have e : fb_sm (fun p => if 0 < A.1 0 (32 * s + p) then (if hasF A g (32 * s + p) = true then 1 else 0) else 0) 32 = fb_ct (fun p => decide (0 < A.1 0 (32 * s + p)) && hasF A g (32 * s + p)) 32 := by
    rw [← ct_sm]
    apply fb_sm_cong
    intro p hp
    by_cases z : 0 < A.1 0 (32 * s + p)
    · rw [if_pos z, decide_eq_true z, Bool.true_and]
    · rw [if_neg z, decide_eq_false z, Bool.false_and, if_neg (by decide)]
  rw [e, ← al_eq h hs] at t
  rw [Qu_placesOf, bnd_ap, bnd_ap, t]
end
theorem c_isFrame {M : Mem} {δ : Sl} {n S : Nat} {qv : Nat → Int} (h : SK M δ n S qv) (hn : SN n S qv) {y : Int} (hy : i32 y) : Wo_isFrame M δ (zI y) = some (bI (decide (0 ≤ y ∧ y < (S : Int)))) := by
  obtain ⟨k, k1, k2, k3, k4, -⟩ := h
  have hS := hn.2.1
  obtain ⟨y1, y2⟩ := hy
  rw [Wo_isFrame, k1, gref_z k2, k4]
  by_cases z : y < 0
  · rw [if_pos (by rw [zI_lit, zI_lt (by omega) (by omega) (by omega) (by omega)]; omega), decide_eq_false (by omega)]; rfl
  · rw [if_neg (by rw [zI_lit, zI_lt (by omega) (by omega) (by omega) (by omega)]; omega)]
    by_cases x : (S : Int) ≤ y
    · rw [if_pos (by rw [zI_le (by omega) (by omega) (by omega) (by omega)]; omega), decide_eq_false (by omega)]; rfl
    · rw [if_neg (by rw [zI_le (by omega) (by omega) (by omega) (by omega)]; omega), decide_eq_true (by omega)]; rfl
theorem top_aliases {c n0 : Nat} {M : Mem} {μ : Sl} (hI : Inv c n0 M μ) (a1 a2 : Int32) : TopQ c n0 M (Fh_aliases M a1 a2) (Mo_aliases μ a1 a2) := by
  obtain ⟨n, S, k, w, t, B, σ, bn, A, dep, J, N, e, qv, pv, wv, ⟨a, a2', a3, a4, a5⟩, -, ⟨⟨hW, hC, hM, -, -, hJ, hJC, hJM, -, -⟩, hX⟩, hSB, ⟨f1, f2⟩, ⟨hN, -⟩, hT, hq, -⟩ := top_q hI
  obtain ⟨x1, i1, rfl⟩ := zI_ex a1
  obtain ⟨x2, i2, rfl⟩ := zI_ex a2
  have iw := inv_wr hI (0 : Int32)
  have hn6 := hSB.2.2.1.1
  have hS := hSB.2.2.1.2.1
  have cl : Fh_aliases M (zI x1) (zI x2) = if decide (0 ≤ x1 ∧ x1 < (n : Int)) = true then (if decide (0 ≤ x2 ∧ x2 < (S : Int)) = true then (bp (Qu_placesOf (M w) (zI x1) (zI x2)) fun r => some r) else some (-1 : Int32)) else some (-1 : Int32) := by
    rw [Fh_aliases, a, gref_z (by omega), c_isSpace hSB.1 hSB.2.2.1 i1, bp_some, bI_if, gref_z (by omega), c_isFrame hSB.1 hSB.2.2.1 i2, bp_some, bI_if, gref_z (by omega)]
  have mo : Mo_aliases μ (zI x1) (zI x2) = if decide (0 ≤ x1 ∧ x1 < (n : Int)) = true then (if decide (0 ≤ x2 ∧ x2 < (S : Int)) = true then (bp (Mo_aliasesOf (wr μ 34 2 (0 : Int32)) (zI x1) (zI x2)) fun r => some (r, wr μ 34 2 (0 : Int32))) else some ((-1 : Int32), wr μ 34 2 (0 : Int32))) else some ((-1 : Int32), wr μ 34 2 (0 : Int32)) := by
    rw [Mo_aliases, bnd_ap, m_isSpace hSB.2.1 hSB.2.2.1 i1, bp_some, bI_if, m_isPlace hSB.2.1 hSB.2.2.1 i2, bp_some, bI_if]
  rw [cl, mo]
  by_cases z1 : 0 ≤ x1 ∧ x1 < (n : Int)
  · rw [if_pos (decide_eq_true z1), if_pos (decide_eq_true z1)]
    by_cases z2 : 0 ≤ x2 ∧ x2 < (S : Int)
    · rw [if_pos (decide_eq_true z2), if_pos (decide_eq_true z2)]
      obtain ⟨s1, rfl⟩ : ∃ s1 : Nat, x1 = (s1 : Int) := ⟨x1.toNat, by omega⟩
      obtain ⟨g, rfl⟩ : ∃ g : Nat, x2 = (g : Int) := ⟨x2.toNat, by omega⟩
      have t1 := c_alA hW hC (s := s1) (g := g) (by omega) (by omega)
      have t2 := m_alA f1 hW hM hSB.2.1.2.1 (s := s1) (g := g) (by omega) (by omega)
      rw [f2] at t2
      exact ⟨_, _, by rw [t1, bp_some], by rw [t2, bp_some], iw⟩
    · rw [if_neg (by rw [decide_eq_true_eq]; exact z2), if_neg (by rw [decide_eq_true_eq]; exact z2)]
      exact ⟨_, _, rfl, rfl, iw⟩
  · rw [if_neg (by rw [decide_eq_true_eq]; exact z1), if_neg (by rw [decide_eq_true_eq]; exact z1)]
    exact ⟨_, _, rfl, rfl, iw⟩
