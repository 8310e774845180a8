/-! ===== waits, gap, kept, count ===== -/
section
variable {n S : Nat} {A : Ab} {dep : Nat → Nat} {δ : Sl} {σ : Nat → Nat} {bn : Nat} {μ : Sl} {b : Nat} {B : Nat → Int} {M : Mem} {qv pv : Nat → Int} {ee : Int × Int}
/-- who waits ahead of s -/
def ahB (B : Nat → Int) (pv : Nat → Int) (s k : Nat) : Bool := decide (B (2172 + k) = 1) && (decide (pv k = pv s) && decide (B (2190 + k) < B (2190 + s)))
theorem c_ahead (hX : WX ee n S δ B) (hW : B 2196 < 2147483648) (hK : SK M δ n S qv) (hn : n ≤ 6) (hpk : PK M δ n pv) (hpn : PN n pv) {s : Nat} (hs : s < n) (h1 : B (2172 + s) = 1) : ∀ (m i k a : Nat), i + m = n → a ≤ i → m < k → Wo_waitingAhead_4 M δ k (zI (s : Int)) (zI (a : Int)) (zI (i : Int)) = some (zI ((a + fb_ct (fun j => ahB B pv s (i + j)) m : Nat) : Int)) := by
  obtain ⟨ks, k1, k2, k3, -⟩ := hK
  obtain ⟨ks', l1, l2, l3⟩ := hpk
  have : ks' = ks := zN l2 k2 (l1.symm.trans k1)
  subst this
  obtain ⟨-, s3, s4, s5, -⟩ : B (2172 + s) = 1 ∧ δ 14 s = zI (B (2190 + s)) ∧ 0 < B (2190 + s) ∧ B (2190 + s) ≤ B 2196 ∧ True := by
    rcases hX.1 s (by omega) with ⟨z, -⟩ | ⟨z1, z2, z3, z4, z5, z6⟩
    · omega
    · exact ⟨z1, z3, z4, z5, trivial⟩
  intro m
  induction m with
  | zero =>
    intro i k a hi ha hk
    obtain ⟨c, rfl⟩ : ∃ c, k = c + 1 := ⟨k - 1, by omega⟩
    rw [Wo_waitingAhead_4, k1, gref_z k2, k3, if_pos (by rw [zI_le (by omega) (by omega) (by omega) (by omega)]; omega)]; rfl
  | succ m ih =>
    intro i k a hi ha hk
    obtain ⟨c, rfl⟩ : ∃ c, k = c + 1 := ⟨k - 1, by omega⟩
    have sp : fb_ct (fun j => ahB B pv s (i + j)) (m + 1) = (if ahB B pv s i = true then 1 else 0) + fb_ct (fun j => ahB B pv s (i + 1 + j)) m := by
      have e := fb_ct_split (fun j => ahB B pv s (i + j)) 1 m
      rw [show 1 + m = m + 1 by omega] at e
      rw [e, fb_ct_cong (p := fun k => ahB B pv s (i + (1 + k))) (q := fun j => ahB B pv s (i + 1 + j)) (fun k _ => by rw [Nat.add_assoc])]
      congr 1
      show 0 + (if ahB B pv s (i + 0) = true then 1 else 0) = _
      rw [Nat.zero_add, Nat.add_zero]
    have i6 : inb (zI (i : Int)) 6 := zI_in (by omega) (by omega)
    have s6 : inb (zI (s : Int)) 6 := zI_in (by omega) (by omega)
    have go : ∀ a' : Nat, a' ≤ i + 1 → Wo_waitingAhead_63 (Wo_waitingAhead_4 M δ c) M δ (zI (s : Int)) (zI (a' : Int)) (zI (i : Int)) = some (zI ((a' + fb_ct (fun j => ahB B pv s (i + 1 + j)) m : Nat) : Int)) := fun a' ha' => by
      rw [Wo_waitingAhead_63, bnd_ap, zI_s1, ih (i + 1) c a' (by omega) ha' (by omega)]
    rw [Wo_waitingAhead_4, k1, gref_z k2, k3, if_neg (by rw [zI_le (by omega) (by omega) (by omega) (by omega)]; omega), if_pos i6, if_pos i6, if_pos s6, zI_ixn (by omega), zI_ixn (by omega), gref_z k2, if_pos i6, gref_z k2, if_pos s6, l3 i (by omega), l3 s hs, sp, s3]
    have pi := hpn i (by omega)
    have ps := hpn s hs
    have go0 := go a (by omega)
    have go1 := go (a + 1) (by omega)
    rcases hX.1 i (by omega) with ⟨z, y⟩ | ⟨z1, z2, z3, z4, z5, z6⟩
    · have e : ahB B pv s i = false := by unfold ahB; rw [decide_eq_false (by omega)]; rfl
      rw [y, if_pos (show zI 0 = (0 : Int32) from rfl), go0, e, if_neg (by decide), Nat.zero_add]
    · rw [z3, if_neg (by rw [zI_lit, zI_eq (by omega) (by omega) (by omega) (by omega)]; omega)]
      by_cases q1 : B (2190 + s) ≤ B (2190 + i)
      · have e : ahB B pv s i = false := by unfold ahB; rw [decide_eq_false (p := B (2190 + i) < B (2190 + s)) (by omega), Bool.and_false, Bool.and_false]
        rw [if_pos (by rw [zI_le (by omega) (by omega) (by omega) (by omega)]; exact q1), go0, e, if_neg (by decide), Nat.zero_add]
      · rw [if_neg (by rw [zI_le (by omega) (by omega) (by omega) (by omega)]; exact q1)]
        by_cases q2 : pv i = pv s
        · have e : ahB B pv s i = true := by unfold ahB; rw [decide_eq_true z1, decide_eq_true q2, decide_eq_true (by omega)]; rfl
          rw [if_pos (by rw [q2]), bnd_ap, zI_s1, go1, e, if_pos rfl, Nat.add_assoc]
        · have e : ahB B pv s i = false := by unfold ahB; rw [decide_eq_false q2, Bool.false_and, Bool.and_false]
          rw [if_neg (by rw [zI_eq (by omega) (by omega) (by omega) (by omega)]; exact q2), go0, e, if_neg (by decide), Nat.zero_add]
theorem m_ahead (hb : MB μ b) (hX : WX ee n S δ B) (hW : B 2196 < 2147483648) (hm : SM μ n S qv) (hn : n ≤ 6) (hpm : PM μ n pv) (hpn : PN n pv) {s : Nat} (hs : s < n) (h1 : B (2172 + s) = 1) : ∀ (m i k a : Nat), i + m = n → m < k → Mo_waits_86 k (zI (s : Int)) (zI (a : Int)) (zI (i : Int)) (bst μ b B) = some (zI ((a + fb_ct (fun j => ahB B pv s (i + j)) m : Nat) : Int), bst μ b B) := by
  have e11 : bst μ b B 34 11 = zI (n : Int) := by rw [bst_ne _ _ _ (by omega)]; exact hm.1
  have e38 : ∀ i, i < n → bst μ b B 38 i = zI (pv i) := fun i hi => by rw [bst_ne _ _ _ (by omega)]; exact hpm i hi
  obtain ⟨s3, s4⟩ : 0 < B (2190 + s) ∧ B (2190 + s) ≤ B 2196 := by
    rcases hX.1 s (by omega) with ⟨z, -⟩ | ⟨z1, z2, z3, z4, z5, z6⟩
    · omega
    · exact ⟨z4, z5⟩
  intro m
  induction m with
  | zero =>
    intro i k a hi hk
    obtain ⟨c, rfl⟩ : ∃ c, k = c + 1 := ⟨k - 1, by omega⟩
    rw [Mo_waits_86, e11, if_pos (by rw [zI_le (by omega) (by omega) (by omega) (by omega)]; omega)]; rfl
  | succ m ih =>
    intro i k a hi hk
    obtain ⟨c, rfl⟩ : ∃ c, k = c + 1 := ⟨k - 1, by omega⟩
    have sp : fb_ct (fun j => ahB B pv s (i + j)) (m + 1) = (if ahB B pv s i = true then 1 else 0) + fb_ct (fun j => ahB B pv s (i + 1 + j)) m := by
      have e := fb_ct_split (fun j => ahB B pv s (i + j)) 1 m
      rw [show 1 + m = m + 1 by omega] at e
      rw [e, fb_ct_cong (p := fun k => ahB B pv s (i + (1 + k))) (q := fun j => ahB B pv s (i + 1 + j)) (fun k _ => by rw [Nat.add_assoc])]
      congr 1
      show 0 + (if ahB B pv s (i + 0) = true then 1 else 0) = _
      rw [Nat.zero_add, Nat.add_zero]
    have i12 : inb (zI (i : Int)) 12 := zI_in (by omega) (by omega)
    have s12 : inb (zI (s : Int)) 12 := zI_in (by omega) (by omega)
    have go0 : Mo_waits_147 (Mo_waits_86 c) (zI (s : Int)) (zI (i : Int)) (zI (a : Int)) (bst μ b B) = some (zI ((a + fb_ct (fun j => ahB B pv s (i + 1 + j)) m : Nat) : Int), bst μ b B) := by
      rw [Mo_waits_147, Mo_waits_148, bnd_ap, show (0 : Int32) = zI 0 from rfl, zI_add, Int.add_zero, bnd_ap, zI_s1, ih (i + 1) c a (by omega) (by omega)]
    have go1 : Mo_waits_148 (Mo_waits_86 c) (zI (s : Int)) (zI (i : Int)) (1 : Int32) (zI (a : Int)) (bst μ b B) = some (zI ((a + 1 + fb_ct (fun j => ahB B pv s (i + 1 + j)) m : Nat) : Int), bst μ b B) := by
      rw [Mo_waits_148, bnd_ap, zI_s1, bnd_ap, zI_s1, ih (i + 1) c (a + 1) (by omega) (by omega)]
    have of : ∀ j : Nat, j < 6 → Mo_of (bst μ b B) ((2190 : Int32) + zI (j : Int)) = some (zI (B (2190 + j))) := fun j hj => by
      have t := m_of hb B (k := 2190 + (j : Int)) (by omega) (by omega)
      rw [← zI_add, show (2190 + (j : Int)).toNat = 2190 + j by omega] at t
      exact t
    rw [Mo_waits_86, e11, if_neg (by rw [zI_le (by omega) (by omega) (by omega) (by omega)]; omega), m_wtg hb hX (i := i) (by omega), bp_some, bI_if, if_pos i12, if_pos s12, zI_ixn (by omega), zI_ixn (by omega), e38 i (by omega), e38 s hs, of i (by omega), bp_some, of s (by omega), bp_some, sp, go0, go1]
    have pi := hpn i (by omega)
    have ps := hpn s hs
    rcases hX.1 i (by omega) with ⟨z, y⟩ | ⟨z1, z2, z3, z4, z5, z6⟩
    · have e : ahB B pv s i = false := by unfold ahB; rw [decide_eq_false (by omega)]; rfl
      rw [if_neg (by rw [decide_eq_true_eq]; omega), e, if_neg (by decide), Nat.zero_add]
    · rw [if_pos (decide_eq_true z1)]
      by_cases q2 : pv i = pv s
      · rw [if_pos (by rw [q2])]
        by_cases q1 : B (2190 + s) ≤ B (2190 + i)
        · have e : ahB B pv s i = false := by unfold ahB; rw [decide_eq_false (p := B (2190 + i) < B (2190 + s)) (by omega), Bool.and_false, Bool.and_false]
          rw [if_pos (by rw [zI_le (by omega) (by omega) (by omega) (by omega)]; exact q1), e, if_neg (by decide), Nat.zero_add]
        · have e : ahB B pv s i = true := by unfold ahB; rw [decide_eq_true z1, decide_eq_true q2, decide_eq_true (by omega)]; rfl
          rw [if_neg (by rw [zI_le (by omega) (by omega) (by omega) (by omega)]; exact q1), e, if_pos rfl, Nat.add_assoc]
      · have e : ahB B pv s i = false := by unfold ahB; rw [decide_eq_false q2, Bool.false_and, Bool.and_false]
        rw [if_neg (by rw [zI_eq (by omega) (by omega) (by omega) (by omega)]; exact q2), e, if_neg (by decide), Nat.zero_add]
/-- the first gap -/
def gpL (A : Ab) (s w : Nat) : Nat → Nat → Int
  | 0, _ => -2
  | m + 1, p => if pgc A (32 * s + p) w = 0 then (p : Int) else gpL A s w m (p + w)
theorem c_gap (hC : CRep δ σ bn A) (hK : SK M δ n S qv) (hS : S ≤ 32) {s w : Nat} (hs : s < 6) (hw : 1 ≤ w) (hw2 : w ≤ 8) : ∀ (m p k : Nat), p + m * w = S → m < k → Wo_firstGap_7 M δ k (zI (s : Int)) (zI (w : Int)) (zI (p : Int)) = some (zI (gpL A s w m p)) := by
  obtain ⟨ks, k1, k2, k3, k4, -⟩ := hK
  intro m
  induction m with
  | zero =>
    intro p k hp hk
    obtain ⟨c, rfl⟩ : ∃ c, k = c + 1 := ⟨k - 1, by omega⟩
    rw [Wo_firstGap_7, k1, gref_z k2, k4, if_pos (by rw [zI_le (by omega) (by omega) (by omega) (by omega)]; omega)]; rfl
  | succ m ih =>
    intro p k hp hk
    obtain ⟨c, rfl⟩ : ∃ c, k = c + 1 := ⟨k - 1, by omega⟩
    rw [Nat.succ_mul] at hp
    have hc := fb_ct_le (fun i => (cov A (32 * s + p + i)).isSome) w
    have hpg : pgc A (32 * s + p) w ≤ w := hc
    rw [Wo_firstGap_7, k1, gref_z k2, k4, if_neg (by rw [zI_le (by omega) (by omega) (by omega) (by omega)]; omega), c_pagesIn hC hs (by omega), bp_some, bnd_ap, zI_add, show (p : Int) + (w : Int) = ((p + w : Nat) : Int) by omega, ih (p + w) c (by omega) (by omega)]
    show _ = some (zI (if pgc A (32 * s + p) w = 0 then (p : Int) else gpL A s w m (p + w)))
    by_cases q : pgc A (32 * s + p) w = 0
    · rw [if_pos (by rw [q]; rfl), if_pos q]
    · rw [if_neg (by rw [zI_lit, zI_eq (by omega) (by omega) (by omega) (by omega)]; omega), if_neg q]
theorem m_gap (hb : MB μ b) (h : WF n S A dep) (hM : MRep B A) (hm : SM μ n S qv) {s : Nat} {t : Int} (hs : s < 6) (ht1 : 1 ≤ t) (ht2 : t ≤ 4) : ∀ (m p k : Nat), p + m * pg t = S → m < k → Mo_gap_26 k (zI (s : Int)) (zI (t - 1)) (zI (p : Int)) (bst μ b B) = some (zI (gpL A s (pg t) m p), bst μ b B) := by
  have hS := h.2.1
  have hpg := pg_pos ht1 ht2
  have e3 : Mo_size (bst μ b B) = some (zI (S : Int)) := by
    rw [Mo_size, if_pos (by decide), bst_ne _ _ _ (by omega)]
    exact congrArg some hm.2.1
  intro m
  induction m with
  | zero =>
    intro p k hp hk
    obtain ⟨c, rfl⟩ : ∃ c, k = c + 1 := ⟨k - 1, by omega⟩
    rw [Mo_gap_26, e3, bp_some, if_pos (by rw [zI_le (by omega) (by omega) (by omega) (by omega)]; omega)]; rfl
  | succ m ih =>
    intro p k hp hk
    obtain ⟨c, rfl⟩ : ∃ c, k = c + 1 := ⟨k - 1, by omega⟩
    rw [Nat.succ_mul] at hp
    rw [Mo_gap_26, e3, bp_some, if_neg (by rw [zI_le (by omega) (by omega) (by omega) (by omega)]; omega), m_free hb h hM hs ht1 ht2 (p := p) (by omega), bp_some, bI_if, show (31 : Int32) = zI 31 from rfl, show (1 : Int32) <<< (zI (t - 1) &&& zI 31) = zI (pg t : Int) from zI_pg ht1 ht2, bnd_ap, zI_add, show (p : Int) + (pg t : Int) = ((p + pg t : Nat) : Int) by omega, ih (p + pg t) c (by omega) (by omega)]
    show _ = some (zI (if pgc A (32 * s + p) (pg t) = 0 then (p : Int) else gpL A s (pg t) m (p + pg t)), _)
    by_cases q : pgc A (32 * s + p) (pg t) = 0
    · rw [if_pos (decide_eq_true q), if_pos q]
    · rw [if_neg (by rw [decide_eq_true_eq]; exact q), if_neg q]
/-- the cells of a space's lines -/
def kpF (A : Ab) (B : Nat → Int) (s l : Nat) : Nat := if zI (B (1920 + 4 * s + l)) = zI 1 then 16 else if pgc A (32 * s + 8 * l) 8 = 0 then 0 else 8
theorem svv_sh : ∀ (l : Fin 4) b0 b1 b2 b3, ((svv b0 b1 b2 b3 >>> (zI (l.val : Int) &&& 31)) &&& (1 : Int32) = 0) = ((if l.val = 0 then b0 else if l.val = 1 then b1 else if l.val = 2 then b2 else b3) = false) := by
  intro l b0 b1 b2 b3
  refine propext ⟨fun h => ?_, fun h => ?_⟩ <;> revert h <;> revert l b0 b1 b2 b3 <;> decide +kernel
theorem wb_sh (hW : WB δ B) {s l : Nat} (hs : s < 6) (hl : l < 4) : ((δ 15 s >>> (zI (l : Int) &&& 31)) &&& (1 : Int32) = 0) = ¬ (zI (B (1920 + 4 * s + l)) = zI 1) := by
  rw [hW s hs, svv_sh ⟨l, hl⟩]
  have : l = 0 ∨ l = 1 ∨ l = 2 ∨ l = 3 := by omega
  rcases this with rfl | rfl | rfl | rfl
  · simp
  · rw [show 1920 + 4 * s + 1 = 1921 + 4 * s by omega]; simp
  · rw [show 1920 + 4 * s + 2 = 1922 + 4 * s by omega]; simp
  · rw [show 1920 + 4 * s + 3 = 1923 + 4 * s by omega]; simp
theorem c_kept (hC : CRep δ σ bn A) (hWB : WB δ B) (hK : SK M δ n S qv) (hS : S ≤ 32) {s : Nat} (hs : s < 6) : ∀ (m l k a : Nat), 8 * l + 8 * m = S → m < k → Wo_keptFor_4 M δ k (zI (s : Int)) (zI (a : Int)) (zI ((8 * l : Nat) : Int)) = some (zI ((a + fb_sm (fun j => kpF A B s (l + j)) m : Nat) : Int)) := by
  obtain ⟨ks, k1, k2, k3, k4, -⟩ := hK
  intro m
  induction m with
  | zero =>
    intro l k a hl hk
    obtain ⟨c, rfl⟩ : ∃ c, k = c + 1 := ⟨k - 1, by omega⟩
    rw [Wo_keptFor_4, k1, gref_z k2, k4, if_pos (by rw [zI_le (by omega) (by omega) (by omega) (by omega)]; omega)]; rfl
  | succ m ih =>
    intro l k a hl hk
    obtain ⟨c, rfl⟩ : ∃ c, k = c + 1 := ⟨k - 1, by omega⟩
    have sp : fb_sm (fun j => kpF A B s (l + j)) (m + 1) = kpF A B s l + fb_sm (fun j => kpF A B s (l + 1 + j)) m := by
      have e := fb_sm_split (fun j => kpF A B s (l + j)) 1 m
      rw [show 1 + m = m + 1 by omega] at e
      rw [e, fb_sm_cong (f := fun k => kpF A B s (l + (1 + k))) (g := fun j => kpF A B s (l + 1 + j)) (fun k _ => by rw [Nat.add_assoc])]
      congr 1
      show 0 + kpF A B s (l + 0) = _
      rw [Nat.zero_add, Nat.add_zero]
    have go : ∀ a' : Nat, Wo_keptFor_54 (Wo_keptFor_4 M δ c) M δ (zI (s : Int)) (zI (a' : Int)) (zI ((8 * l : Nat) : Int)) = some (zI ((a' + fb_sm (fun j => kpF A B s (l + 1 + j)) m : Nat) : Int)) := fun a' => by
      rw [Wo_keptFor_54, bnd_ap, show (8 : Int32) = zI 8 from rfl, zI_add, show ((8 * l : Nat) : Int) + 8 = ((8 * (l + 1) : Nat) : Int) by omega, ih (l + 1) c a' (by omega) (by omega)]
    have d8 : zI ((8 * l : Nat) : Int) / (8 : Int32) = zI (l : Int) := by
      rw [show (8 : Int32) = zI 8 from rfl, zI_div (by omega) (by omega) (by omega) (by omega)]; congr 1; omega
    have hpi := c_pagesIn hC hs (fr := 8 * l) (n := 8) (by omega)
    have hle : pgc A (32 * s + 8 * l) 8 ≤ 8 := fb_ct_le _ _
    have hpi' : De_pagesIn δ (zI (s : Int)) (zI ((8 * l : Nat) : Int)) (8 : Int32) = _ := hpi
    have a8 : ∀ v : Nat, zI (a : Int) + zI (v : Int) = zI ((a + v : Nat) : Int) := fun v => by rw [zI_add]; congr 1
    rw [Wo_keptFor_4, k1, gref_z k2, k4, if_neg (by rw [zI_le (by omega) (by omega) (by omega) (by omega)]; omega), if_pos (zI_in hs (by omega)), if_pos (by decide), zI_ixn (by omega), d8, hpi', bp_some, bnd_ap, bnd_ap, show zI (a : Int) + (8 : Int32) = zI ((a + 8 : Nat) : Int) from a8 8, show zI (a : Int) + (16 : Int32) = zI ((a + 16 : Nat) : Int) from a8 16, go, go, go, sp]
    by_cases q : zI (B (1920 + 4 * s + l)) = zI 1
    · rw [if_neg (by rw [wb_sh hWB hs (by omega)]; exact fun z => z q), kpF, if_pos q, Nat.add_assoc]
    · rw [if_pos (by rw [wb_sh hWB hs (by omega)]; exact q), kpF, if_neg q]
      by_cases q2 : pgc A (32 * s + 8 * l) 8 = 0
      · rw [if_pos (by rw [zI_lit, zI_le (by omega) (by omega) (by omega) (by omega)]; omega), if_pos q2, Nat.zero_add]
      · rw [if_neg (by rw [zI_lit, zI_le (by omega) (by omega) (by omega) (by omega)]; omega), if_neg q2, Nat.add_assoc]
theorem m_kept (hb : MB μ b) (h : WF n S A dep) (hM : MRep B A) (hWB : WB δ B) (hm : SM μ n S qv) {s : Nat} (hs : s < 6) : ∀ (m l k a : Nat), 8 * l + 8 * m = S → m < k → Mo_kept_19 k (zI (s : Int)) (zI (a : Int)) (zI (l : Int)) (bst μ b B) = some (zI ((a + fb_sm (fun j => kpF A B s (l + j)) m : Nat) : Int), bst μ b B) := by
  have hS := h.2.1
  have e3 : Mo_size (bst μ b B) = some (zI (S : Int)) := by
    rw [Mo_size, if_pos (by decide), bst_ne _ _ _ (by omega)]
    exact congrArg some hm.2.1
  intro m
  induction m with
  | zero =>
    intro l k a hl hk
    obtain ⟨c, rfl⟩ : ∃ c, k = c + 1 := ⟨k - 1, by omega⟩
    rw [Mo_kept_19, e3, bp_some, if_pos (by decide), show (8 : Int32) = zI 8 from rfl, zI_div (by omega) (by omega) (by omega) (by omega), if_pos (by rw [zI_le (by omega) (by omega) (by omega) (by omega)]; omega)]; rfl
  | succ m ih =>
    intro l k a hl hk
    obtain ⟨c, rfl⟩ : ∃ c, k = c + 1 := ⟨k - 1, by omega⟩
    have sp : fb_sm (fun j => kpF A B s (l + j)) (m + 1) = kpF A B s l + fb_sm (fun j => kpF A B s (l + 1 + j)) m := by
      have e := fb_sm_split (fun j => kpF A B s (l + j)) 1 m
      rw [show 1 + m = m + 1 by omega] at e
      rw [e, fb_sm_cong (f := fun k => kpF A B s (l + (1 + k))) (g := fun j => kpF A B s (l + 1 + j)) (fun k _ => by rw [Nat.add_assoc])]
      congr 1
      show 0 + kpF A B s (l + 0) = _
      rw [Nat.zero_add, Nat.add_zero]
    have go : ∀ v : Nat, Mo_kept_72 (Mo_kept_19 c) (zI (s : Int)) (zI (l : Int)) (zI (v : Int)) (zI (a : Int)) (bst μ b B) = some (zI ((a + v + fb_sm (fun j => kpF A B s (l + 1 + j)) m : Nat) : Int), bst μ b B) := fun v => by
      rw [Mo_kept_72, bnd_ap, zI_add, bnd_ap, zI_s1, show (a : Int) + (v : Int) = ((a + v : Nat) : Int) by omega, ih (l + 1) c (a + v) (by omega) (by omega)]
    have g16 : Mo_kept_72 (Mo_kept_19 c) (zI (s : Int)) (zI (l : Int)) (16 : Int32) (zI (a : Int)) (bst μ b B) = _ := go 16
    have g8 : Mo_kept_72 (Mo_kept_19 c) (zI (s : Int)) (zI (l : Int)) (8 : Int32) (zI (a : Int)) (bst μ b B) = _ := go 8
    have g0 : Mo_kept_72 (Mo_kept_19 c) (zI (s : Int)) (zI (l : Int)) (0 : Int32) (zI (a : Int)) (bst μ b B) = _ := go 0
    have ow := m_of hb B (k := 1920 + 4 * (s : Int) + (l : Int)) (by omega) (by omega)
    rw [← zI_add, ← zI_add, ← zI_mul, show (1920 + 4 * (s : Int) + (l : Int)).toNat = 1920 + 4 * s + l by omega] at ow
    have ow' : Mo_of (bst μ b B) (((1920 : Int32) + ((4 : Int32) * zI (s : Int))) + zI (l : Int)) = some (zI (B (1920 + 4 * s + l))) := ow
    have hf := m_free hb h hM hs (p := 8 * l) (t := 4) (by omega) (by omega) (by show 8 * l + 8 ≤ 32; omega)
    have hf' : Mo_isFree (bst μ b B) (zI (s : Int)) ((8 : Int32) * zI (l : Int)) (3 : Int32) = some (bI (decide (pgc A (32 * s + 8 * l) 8 = 0))) := by
      rw [show (8 : Int32) = zI 8 from rfl, zI_mul, show (8 : Int) * (l : Int) = ((8 * l : Nat) : Int) by omega]; exact hf
    have d8 : zI (S : Int) / (8 : Int32) = zI ((S : Int) / 8) := by rw [show (8 : Int32) = zI 8 from rfl, zI_div (by omega) (by omega) (by omega) (by omega)]
    rw [Mo_kept_19, e3, bp_some, if_pos (by decide), d8, if_neg (by rw [zI_le (by omega) (by omega) (by omega) (by omega)]; omega), ow', bp_some, hf', bp_some, bI_if, g16, g8, g0, sp]
    by_cases q : zI (B (1920 + 4 * s + l)) = zI 1
    · rw [if_pos (show zI (B (1920 + 4 * s + l)) = (1 : Int32) from q), kpF, if_pos q, Nat.add_assoc]
    · rw [if_neg (show ¬ zI (B (1920 + 4 * s + l)) = (1 : Int32) from q), kpF, if_neg q]
      by_cases q2 : pgc A (32 * s + 8 * l) 8 = 0
      · rw [if_pos (decide_eq_true q2), if_pos q2, Nat.add_assoc]
      · rw [if_neg (by rw [decide_eq_true_eq]; exact q2), if_neg q2, Nat.add_assoc]
end
section
variable {c n0 : Nat} {M : Mem} {μ : Sl}
theorem top_waits (hI : Inv c n0 M μ) (hc : c < 600) (a1 a2 : Int32) : TopQ c n0 M (Fh_waits M a1 a2) (Mo_waits μ a1 a2) := by
  obtain ⟨n, S, k, w, t, B, σ, bn, A, dep, J, N, e, qv, pv, wv, ⟨b1, b2, b3, b4, b5⟩, -, ⟨hR, hX⟩, ⟨hK, hm, hn, hpk, hpm, hpn, -⟩, ⟨f1, f2⟩, ⟨-, hB⟩, hT, hq, -⟩ := top_q hI
  obtain ⟨x1, i1, rfl⟩ := zI_ex a1
  obtain ⟨x2, i2, rfl⟩ := zI_ex a2
  obtain ⟨j1, j2⟩ := id i2
  have hn6 := hn.1
  have bad : ∀ R1 R2, R1 = some (-1 : Int32) → R2 = some ((-1 : Int32), wr μ 34 2 (0 : Int32)) → TopQ c n0 M R1 R2 := fun R1 R2 r1 r2 => ⟨-1, _, r1, r2, inv_wr hI 0⟩
  have t3 := m_isIn (x := x2) (lo := 0) (hi := 3) i2 ⟨by omega, by omega⟩ ⟨by omega, by omega⟩
  have t3' : Mo_isIn (zI x2) (0 : Int32) (3 : Int32) = _ := t3
  rw [Fh_waits, b1, gref_z (by omega), c_isSpace hK hn i1, bp_some, bI_if, Mo_waits, bnd_ap, m_isSpace hm hn i1, bp_some, bI_if, t3', bp_some, bI_if]
  by_cases g : 0 ≤ x1 ∧ x1 < (n : Int)
  · rw [if_pos (decide_eq_true g), if_pos (decide_eq_true g)]
    by_cases v : 0 ≤ x2 ∧ x2 ≤ 3
    · rw [if_neg (by rw [zI_lit, zI_lt (by omega) (by omega) (by omega) (by omega)]; omega), if_pos (by rw [zI_lit, zI_le (by omega) (by omega) (by omega) (by omega)]; omega), if_pos (decide_eq_true v), gref_z (by omega)]
      obtain ⟨s, rfl⟩ : ∃ s : Nat, x1 = (s : Int) := ⟨x1.toNat, by omega⟩
      have hs6 : s < 6 := by omega
      have ofs : ∀ o : Int, 0 ≤ o → o < 2200 → Mo_of (wr μ 34 2 (0 : Int32)) (zI o + zI (s : Int)) = some (zI (B (o.toNat + s))) := fun o o1 o2 => by
        rw [zI_add, qof f1 f2 (by omega) (by omega), show (o + (s : Int)).toNat = o.toNat + s by omega]
      have o72 : Mo_of (wr μ 34 2 (0 : Int32)) ((2172 : Int32) + zI (s : Int)) = some (zI (B (2172 + s))) := ofs 2172 (by omega) (by omega)
      have o78 : Mo_of (wr μ 34 2 (0 : Int32)) ((2178 : Int32) + zI (s : Int)) = some (zI (B (2178 + s))) := ofs 2178 (by omega) (by omega)
      have o84 : Mo_of (wr μ 34 2 (0 : Int32)) ((2184 : Int32) + zI (s : Int)) = some (zI (B (2184 + s))) := ofs 2184 (by omega) (by omega)
      have wt := m_wtg f1 hX hs6
      rw [f2] at wt
      rw [Wo_tellWait, if_pos (zI_in hs6 (by omega)), zI_ixn (by omega), o72, bp_some, o78, bp_some, o84, bp_some, wt, bp_some, bI_if]
      rcases hX.1 s hs6 with ⟨z, y⟩ | ⟨z1, z2, z3, z4, z5, z6, z7, z8, z9, z10⟩
      · rw [y, if_pos (show zI 0 = (0 : Int32) from rfl), Wo_tellWait_14, bnd_ap, if_pos rfl, if_pos rfl, z, if_neg (show ¬ decide ((0 : Int) = 1) = true by decide)]
        by_cases q : x2 = 0
        · subst q
          exact ⟨zI 0, _, rfl, rfl, inv_wr hI 0⟩
        · have q0 : ¬ zI x2 = (0 : Int32) := by rw [zI_lit, zI_eq (by omega) (by omega) (by omega) (by omega)]; exact q
          rw [if_neg q0, if_neg q0]
          exact ⟨-2, _, rfl, rfl, inv_wr hI 0⟩
      · have ah1 := c_ahead hX (by omega) hK hn6 hpk hpn (s := s) (by omega) z1 n 0 1000000 0 (by omega) (by omega) (by omega)
        have ah2 := m_ahead f1 hX (by omega) hm hn6 hpm hpn (s := s) (by omega) z1 n 0 1000000 0 (by omega) (by omega)
        rw [f2] at ah2
        have ah1' : Wo_waitingAhead M (M w) (zI (s : Int)) = _ := ah1
        have ah2' : Mo_waits_86 FU (zI (s : Int)) (0 : Int32) (0 : Int32) (wr μ 34 2 (0 : Int32)) = _ := ah2
        rw [z3, if_neg (by rw [zI_lit, zI_eq (by omega) (by omega) (by omega) (by omega)]; omega), Wo_tellWait_14, bnd_ap, if_neg (show ¬ (1 : Int32) = 0 by decide), if_neg (show ¬ (1 : Int32) = 0 by decide), z1, if_pos (show decide ((1 : Int) = 1) = true by decide), if_pos (zI_in hs6 (by omega)), if_pos (zI_in hs6 (by omega)), zI_ixn (by omega), z6, z9, ah1', bp_some, bnd_ap, bnd_ap, ah2']
        have : x2 = 0 ∨ x2 = 1 ∨ x2 = 2 ∨ x2 = 3 := by omega
        rcases this with rfl | rfl | rfl | rfl
        · exact ⟨zI 1, _, rfl, rfl, inv_wr hI 0⟩
        · exact ⟨zI (B (2178 + s)), _, rfl, rfl, inv_wr hI 0⟩
        · exact ⟨zI (B (2184 + s)), _, rfl, rfl, inv_wr hI 0⟩
        · exact ⟨_, _, rfl, rfl, inv_wr hI 0⟩
    · rw [if_neg (show ¬ decide (0 ≤ x2 ∧ x2 ≤ 3) = true by rw [decide_eq_true_eq]; exact v)]
      by_cases u : x2 < 0
      · rw [if_pos (by rw [zI_lit, zI_lt (by omega) (by omega) (by omega) (by omega)]; omega)]
        exact bad _ _ rfl rfl
      · rw [if_neg (by rw [zI_lit, zI_lt (by omega) (by omega) (by omega) (by omega)]; omega), if_neg (by rw [zI_lit, zI_le (by omega) (by omega) (by omega) (by omega)]; omega)]
        exact bad _ _ rfl rfl
  · rw [if_neg (by rw [decide_eq_true_eq]; exact g), if_neg (by rw [decide_eq_true_eq]; exact g)]
    exact bad _ _ rfl rfl
theorem top_gap (hI : Inv c n0 M μ) (a1 a2 : Int32) : TopQ c n0 M (Fh_gap M a1 a2) (Mo_gap μ a1 a2) := by
  obtain ⟨n, S, k, w, t, B, σ, bn, A, dep, J, N, e, qv, pv, wv, ⟨b1, b2, b3, b4, b5⟩, -, ⟨⟨hW, hC, hM, -⟩, hX⟩, ⟨hK, hm, hn, -⟩, ⟨f1, f2⟩, -, hT, hq, -⟩ := top_q hI
  obtain ⟨x1, i1, rfl⟩ := zI_ex a1
  obtain ⟨x2, i2, rfl⟩ := zI_ex a2
  obtain ⟨j1, j2⟩ := id i2
  have hn6 := hn.1
  have bad : ∀ R1 R2, R1 = some (-1 : Int32) → R2 = some ((-1 : Int32), wr μ 34 2 (0 : Int32)) → TopQ c n0 M R1 R2 := fun R1 R2 r1 r2 => ⟨-1, _, r1, r2, inv_wr hI 0⟩
  have t3 := m_isIn (x := x2) (lo := 0) (hi := 3) i2 ⟨by omega, by omega⟩ ⟨by omega, by omega⟩
  have t3' : Mo_isIn (zI x2) (0 : Int32) (3 : Int32) = _ := t3
  rw [Fh_gap, b1, gref_z (by omega), c_isSpace hK hn i1, bp_some, bI_if, Mo_gap, bnd_ap, m_isSpace hm hn i1, bp_some, bI_if, t3', bp_some, bI_if, bnd_ap]
  by_cases g : 0 ≤ x1 ∧ x1 < (n : Int)
  · rw [if_pos (decide_eq_true g), if_pos (decide_eq_true g)]
    by_cases v : 0 ≤ x2 ∧ x2 ≤ 3
    · rw [if_neg (by rw [zI_lit, zI_lt (by omega) (by omega) (by omega) (by omega)]; omega), if_pos (by rw [zI_lit, zI_le (by omega) (by omega) (by omega) (by omega)]; omega), if_pos (decide_eq_true v), gref_z (by omega)]
      obtain ⟨s, rfl⟩ : ∃ s : Nat, x1 = (s : Int) := ⟨x1.toNat, by omega⟩
      obtain ⟨tt, rfl⟩ : ∃ tt : Int, x2 = tt - 1 := ⟨x2 + 1, by omega⟩
      have hpg := pg_pos (o := tt) (by omega) (by omega)
      obtain ⟨m, hm1⟩ : ∃ m, 0 + m * pg tt = S := by
        refine ⟨S / pg tt, ?_⟩
        rw [Nat.zero_add]
        refine Nat.div_mul_cancel ?_
        have h8 : S = 8 ∨ S = 16 ∨ S = 32 := hn.2.1
        rcases pg_cases (o := tt) (by omega) (by omega) with ⟨-, e⟩ | ⟨-, e⟩ | ⟨-, e⟩ | ⟨-, e⟩ <;> rw [e] <;> rcases h8 with rfl | rfl | rfl <;> decide
      have hm2 : m < 1000000 := by
        have h8 : S ≤ 32 := hW.2.1
        have := Nat.le_mul_of_pos_right m (show 0 < pg tt by omega)
        omega
      have e1 := c_gap hC hK hW.2.1 (s := s) (w := pg tt) (by omega) hpg.1 hpg.2 m 0 1000000 hm1 hm2
      have e2 := m_gap f1 hW hM hm (s := s) (t := tt) (by omega) (by omega) (by omega) m 0 1000000 hm1 hm2
      rw [f2] at e2
      have e1' : Wo_firstGap M (M w) (zI (s : Int)) (zI (tt - 1)) = some (zI (gpL A s (pg tt) m 0)) := by
        rw [Wo_firstGap, show (31 : Int32) = zI 31 from rfl, show (1 : Int32) <<< (zI (tt - 1) &&& zI 31) = zI (pg tt : Int) from zI_pg (by omega) (by omega), bnd_ap, bnd_ap]
        exact e1
      have e2' : Mo_gap_26 FU (zI (s : Int)) (zI (tt - 1)) (0 : Int32) (wr μ 34 2 (0 : Int32)) = _ := e2
      rw [e1', bp_some, e2']
      exact ⟨_, _, rfl, rfl, inv_wr hI 0⟩
    · rw [if_neg (show ¬ decide (0 ≤ x2 ∧ x2 ≤ 3) = true by rw [decide_eq_true_eq]; exact v)]
      by_cases u : x2 < 0
      · rw [if_pos (by rw [zI_lit, zI_lt (by omega) (by omega) (by omega) (by omega)]; omega)]
        exact bad _ _ rfl rfl
      · rw [if_neg (by rw [zI_lit, zI_lt (by omega) (by omega) (by omega) (by omega)]; omega), if_neg (by rw [zI_lit, zI_le (by omega) (by omega) (by omega) (by omega)]; omega)]
        exact bad _ _ rfl rfl
  · rw [if_neg (by rw [decide_eq_true_eq]; exact g), if_neg (by rw [decide_eq_true_eq]; exact g)]
    exact bad _ _ rfl rfl
theorem top_kept (hI : Inv c n0 M μ) (a1 : Int32) : TopQ c n0 M (Fh_kept M a1) (Mo_kept μ a1) := by
  obtain ⟨n, S, k, w, t, B, σ, bn, A, dep, J, N, e, qv, pv, wv, ⟨b1, b2, b3, b4, b5⟩, -, ⟨⟨hW, hC, hM, hWB, -⟩, hX⟩, ⟨hK, hm, hn, -⟩, ⟨f1, f2⟩, -, hT, hq, -⟩ := top_q hI
  obtain ⟨x1, i1, rfl⟩ := zI_ex a1
  have hn6 := hn.1
  rw [Fh_kept, b1, gref_z (by omega), c_isSpace hK hn i1, bp_some, bI_if, Mo_kept, bnd_ap, m_isSpace hm hn i1, bp_some, bI_if, bnd_ap, bnd_ap]
  by_cases g : 0 ≤ x1 ∧ x1 < (n : Int)
  · rw [if_pos (decide_eq_true g), if_pos (decide_eq_true g), gref_z (by omega)]
    obtain ⟨s, rfl⟩ : ∃ s : Nat, x1 = (s : Int) := ⟨x1.toNat, by omega⟩
    have h8 : S % 8 = 0 := hW.2.2.1
    have hS := hW.2.1
    have e1 := c_kept hC hWB hK hS (s := s) (by omega) (S / 8) 0 1000000 0 (by omega) (by omega)
    have e2 := m_kept f1 hW hM hWB hm (s := s) (by omega) (S / 8) 0 1000000 0 (by omega) (by omega)
    rw [f2] at e2
    have e1' : Wo_keptFor M (M w) (zI (s : Int)) = _ := e1
    have e2' : Mo_kept_19 FU (zI (s : Int)) (0 : Int32) (0 : Int32) (wr μ 34 2 (0 : Int32)) = _ := e2
    rw [e1', bp_some, e2']
    exact ⟨_, _, rfl, rfl, inv_wr hI 0⟩
  · rw [if_neg (by rw [decide_eq_true_eq]; exact g), if_neg (by rw [decide_eq_true_eq]; exact g)]
    exact ⟨-1, _, rfl, rfl, inv_wr hI 0⟩
end
