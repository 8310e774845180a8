/-! ===== the reference looks at a region ===== -/
def TH (μ : Sl) (l : List Nat) : Prop := μ 34 30 = zI (l.length : Int) ∧ ∀ (k x : Nat), l[k]? = some x → μ 47 k = zI (x : Int)
theorem TH_snoc {μ : Sl} {l : List Nat} (h : TH μ l) (x : Nat) : TH (wr (wr μ 47 l.length (zI (x : Int))) 34 30 (zI ((l.length : Int) + 1))) (l ++ [x]) := by
  refine ⟨by rw [wr_ap, if_pos ⟨rfl, rfl⟩]; simp, fun k y hk => ?_⟩
  rw [wr_ap, if_neg (by omega), wr_ap]
  by_cases q : k = l.length
  · subst q; simp at hk; subst hk; simp
  · rw [if_neg (fun z => q z.2)]
    refine h.2 k y ?_
    rw [List.getElem?_append_left] at hk
    · exact hk
    · have := (List.getElem?_eq_some_iff.mp hk).1; simp at this; omega
theorem stL_succ (A : Ab) (q i : Nat) : stL A q (i + 1) = stL A q i ++ (if 0 < A.1 0 (q + i) then [q + i] else []) := by
  unfold stL
  rw [List.range_succ, List.filterMap_append]
  congr 1
  by_cases z : 0 < A.1 0 (q + i)
  · simp [z]
  · simp [z]
theorem stL_len (A : Ab) (q i : Nat) : (stL A q i).length ≤ i := by
  unfold stL
  have := List.length_filterMap_le (fun k => if 0 < A.1 0 (q + k) then some (q + k) else none) (List.range i)
  simpa using this
theorem m_looks_loop {n S : Nat} {A : Ab} {dep : Nat → Nat} {b : Nat} {B : Nat → Int} (h : WF n S A dep) (hM : MRep B A) {s p : Nat} {t : Int} (hs : s < 6) (ht1 : 1 ≤ t) (ht2 : t ≤ 4) (hp : p + pg t ≤ 32) : ∀ (m k i : Nat) (μ : Sl), MB μ b → i + m = pg t → m < k → TH μ (stL A (32 * s + p) i) →
    ∃ μ', Mo_looks_45 k (zI (s : Int)) (zI (p : Int)) (zI (t - 1)) (zI (i : Int)) (bst μ b B) = some ((), bst μ' b B) ∧ TH μ' (stL A (32 * s + p) (pg t)) ∧ SC μ μ' := by
  have hpp := pg_pos ht1 ht2
  intro m
  induction m with
  | zero =>
    intro k i μ hb hm hk hT
    obtain ⟨c, rfl⟩ : ∃ c, k = c + 1 := ⟨k - 1, by omega⟩
    have : i = pg t := by omega
    subst this
    refine ⟨μ, ?_, hT, SC_refl μ⟩
    rw [Mo_looks_45]
    simp (disch := omega) only [zI_lit, zI_pg, zI_le, if_pos]
  | succ m ih =>
    intro k i μ hb hm hk hT
    obtain ⟨c, rfl⟩ : ∃ c, k = c + 1 := ⟨k - 1, by omega⟩
    have hde := m_deed hb h hM (x := 32 * s + p + i) (by omega)
    have hcast : ((32 * s + p + i : Nat) : Int) = 32 * (s : Int) + (p : Int) + (i : Int) := by omega
    rw [hcast] at hde
    have hl := stL_len A (32 * s + p) i
    have e30 : bst μ b B 34 30 = zI ((stL A (32 * s + p) i).length : Int) := by rw [bst_ne _ _ _ (by decide)]; exact hT.1
    rw [Mo_looks_45]
    simp (disch := omega) only [zI_lit, zI_pg, zI_le, if_neg, zI_mul, zI_add, hde, bp_some]
    by_cases q : 0 < A.1 0 (32 * s + p + i)
    · have e0 : decide (0 < A.1 0 (32 * s + p + i)) = true := by simpa using q
      have hT2 := TH_snoc hT (32 * s + p + i)
      have hst : stL A (32 * s + p) (i + 1) = stL A (32 * s + p) i ++ [32 * s + p + i] := by rw [stL_succ, if_pos q]
      rw [← hst] at hT2
      have hSC : SC μ (wr (wr μ 47 (stL A (32 * s + p) i).length (zI ((32 * s + p + i : Nat) : Int))) 34 30 (zI (((stL A (32 * s + p) i).length : Int) + 1))) := fun a j h1 h2 h3 => by
        rw [wr_ap, if_neg (by omega), wr_ap, if_neg (by omega)]
      obtain ⟨μ', f1, f2, f3⟩ := ih c (i + 1) _ (SC_MB hSC hb) (by omega) (by omega) hT2
      refine ⟨μ', ?_, f2, SC_trans hSC f3⟩
      rw [e0, bI_t]
      simp (disch := omega) only [zI_eq, if_neg, e30, zI_inb, if_pos, zI_ix, Int.toNat_natCast, bnd_ap, wr_ap, zI_add, Mo_looks_100, zI_lit]
      rw [bst_wr (by decide), bst_wr (by decide), ← hcast]
      exact f1
    · have e0 : decide (0 < A.1 0 (32 * s + p + i)) = false := by simpa using q
      have hst : stL A (32 * s + p) (i + 1) = stL A (32 * s + p) i := by rw [stL_succ, if_neg q]; simp
      obtain ⟨μ', f1, f2, f3⟩ := ih c (i + 1) μ hb (by omega) (by omega) (by rw [hst]; exact hT)
      refine ⟨μ', ?_, f2, f3⟩
      rw [e0, bI_f, if_pos rfl]
      simp only [Mo_looks_100, bnd_ap, zI_lit, zI_add]
      exact f1
theorem m_looks {n S : Nat} {A : Ab} {dep : Nat → Nat} {b : Nat} {B : Nat → Int} {μ : Sl} (hb : MB μ b) (h : WF n S A dep) (hM : MRep B A) {s p : Nat} {t : Int} (hs : s < 6) (ht1 : 1 ≤ t) (ht2 : t ≤ 4) (hp : p + pg t ≤ 32) :
    ∃ μ', Mo_looks (bst μ b B) (zI (s : Int)) (zI (p : Int)) (zI (t - 1)) = some ((), bst μ' b B) ∧ TH μ' (thr A (32 * s + p) t) ∧ SC μ μ' := by
  have hpp := pg_pos ht1 ht2
  have hSC0 : SC μ (wr μ 34 30 (zI 0)) := fun a j h1 h2 h3 => by rw [wr_ap, if_neg (by omega)]
  have hb0 := SC_MB hSC0 hb
  have hT0 : TH (wr μ 34 30 (zI 0)) (stL A (32 * s + p) 0) := ⟨by rw [wr_ap, if_pos ⟨rfl, rfl⟩]; rfl, fun k x hk => by simp [stL] at hk⟩
  have hcv := m_cover hb0 (MR_0 h hM) (s := (s : Int)) (p := (p : Int)) (by omega) (by omega) (by omega) (by omega)
  have hcast : (32 * (s : Int) + (p : Int)).toNat = 32 * s + p := by omega
  rw [hcast] at hcv
  obtain ⟨μ1, f1, f2, f3⟩ := m_looks_loop (b := b) h hM hs ht1 ht2 hp (pg t) FU 0 _ hb0 (by omega) (FU_gt (by omega)) hT0
  have h42 : Mo_looks_42 (zI (s : Int)) (zI (p : Int)) (zI (t - 1)) (bst (wr μ 34 30 (zI 0)) b B) = some ((), bst μ1 b B) := f1
  unfold Mo_looks
  simp only [bnd_ap, zI_lit]
  rw [bst_wr (by decide), hcv, bp_some]
  unfold thr
  cases hc : cov A (32 * s + p) with
  | none =>
    refine ⟨μ1, ?_, f2, SC_trans hSC0 f3⟩
    rw [if_pos (show zI (cv none) < zI 0 by show zI (-1) < zI 0; rw [zI_lt (by omega) (by omega) (by omega) (by omega)]; decide)]
    exact h42
  | some d =>
    have hd := (cs_some (by omega) hc).1
    have hd192 := hd.1
    obtain ⟨e1, e2, e3⟩ := MR_0 h hM d hd192
    simp only [cv, Mo_orderOf, m_of0 hb0 hd192, bp_some, e1]
    by_cases hlt : t < A.1 0 d
    · simp only [if_pos hlt]
      refine ⟨wr (wr (wr μ 34 30 (zI 0)) 47 0 (zI (d : Int))) 34 30 (zI 1), ?_, ⟨by rw [wr_ap, if_pos ⟨rfl, rfl⟩]; rfl, fun k x hk => ?_⟩, fun a j h1 h2 h3 => by rw [wr_ap, if_neg (by omega), wr_ap, if_neg (by omega), wr_ap, if_neg (by omega)]⟩
      · simp (disch := omega) only [zI_lt, if_neg, zI_lit, zI_sub, zI_le, zI_inb, if_pos, zI_ix]
        rw [bst_wr (by decide), bst_wr (by decide)]
        rfl
      · have hk0 := (List.getElem?_eq_some_iff.mp hk).1
        simp at hk0
        subst hk0
        simp at hk; subst hk
        rw [wr_ap, if_neg (by omega), wr_ap, if_pos ⟨rfl, rfl⟩]
    · simp only [if_neg hlt]
      refine ⟨μ1, ?_, f2, SC_trans hSC0 f3⟩
      simp (disch := omega) only [zI_lt, if_neg, zI_lit, zI_sub, zI_le, if_pos]
      exact h42
theorem m_busyThere {n S : Nat} {A : Ab} {dep : Nat → Nat} {b : Nat} {B : Nat → Int} {μ : Sl} (hb : MB μ b) (h : WF n S A dep) (hM : MRep B A) (h9 : T9 A) {l : List Nat} (hT : TH μ l) (hl : l.length ≤ 8) (hlv : ∀ x, x ∈ l → Lv A x) : ∀ (q p : List Nat) (k : Nat), l = p ++ q → q.length < k → Mo_isBusyThere_2 (bst μ b B) k (zI (p.length : Int)) = some (bI (q.any (bsy A))) := by
  have e30 : bst μ b B 34 30 = zI (l.length : Int) := by rw [bst_ne _ _ _ (by decide)]; exact hT.1
  intro q
  induction q with
  | nil =>
    intro p k he hk
    obtain ⟨c, rfl⟩ : ∃ c, k = c + 1 := ⟨k - 1, by omega⟩
    simp at he; subst he
    rw [Mo_isBusyThere_2]
    simp (disch := omega) only [e30, zI_le, if_pos]
    rfl
  | cons x q ih =>
    intro p k he hk
    obtain ⟨c, rfl⟩ : ∃ c, k = c + 1 := ⟨k - 1, by omega⟩
    have hlen : l.length = p.length + q.length + 1 := by rw [he]; simp; omega
    have hx := hlv x (by rw [he]; simp)
    have hlx : bst μ b B 47 p.length = zI (x : Int) := by rw [bst_ne _ _ _ (by decide)]; exact hT.2 p.length x (by rw [he]; simp)
    have hrec := ih (p ++ [x]) c (by rw [he]; simp) (by simp at hk; omega)
    rw [Mo_isBusyThere_2]
    simp (disch := omega) only [e30, zI_le, if_neg, zI_inb, if_pos, zI_ix, Int.toNat_natCast, hlx, m_busy hb h hM h9 hx, bp_some]
    cases hbx : bsy A x with
    | true =>
      rw [bI_t, if_neg (by rw [zI_lit, zI_eq (by omega) (by omega) (by omega) (by omega)]; decide)]
      simp [hbx, bI_t, zI_lit]
    | false =>
      rw [bI_f, if_pos (show zI 0 = 0 from rfl)]
      simp only [bnd_ap, zI_lit, zI_add]
      rw [show (p.length : Int) + 1 = ((p ++ [x]).length : Int) by simp, hrec]
      simp [hbx]
theorem m_belowThere {n S : Nat} {A : Ab} {dep : Nat → Nat} {b : Nat} {B : Nat → Int} {μ : Sl} (hb : MB μ b) (h : WF n S A dep) (hM : MRep B A) (h9 : T9 A) {l : List Nat} (hT : TH μ l) (hl : l.length ≤ 8) (hlv : ∀ x, x ∈ l → Lv A x) : ∀ (q p : List Nat) (k : Nat), l = p ++ q → q.length < k → Mo_isBusyBelowThere_2 (bst μ b B) k (zI (p.length : Int)) = some (bI (q.any (td A))) := by
  have e30 : bst μ b B 34 30 = zI (l.length : Int) := by rw [bst_ne _ _ _ (by decide)]; exact hT.1
  intro q
  induction q with
  | nil =>
    intro p k he hk
    obtain ⟨c, rfl⟩ : ∃ c, k = c + 1 := ⟨k - 1, by omega⟩
    simp at he; subst he
    rw [Mo_isBusyBelowThere_2]
    simp (disch := omega) only [e30, zI_le, if_pos]
    rfl
  | cons x q ih =>
    intro p k he hk
    obtain ⟨c, rfl⟩ : ∃ c, k = c + 1 := ⟨k - 1, by omega⟩
    have hlen : l.length = p.length + q.length + 1 := by rw [he]; simp; omega
    have hx := hlv x (by rw [he]; simp)
    have hlx : bst μ b B 47 p.length = zI (x : Int) := by rw [bst_ne _ _ _ (by decide)]; exact hT.2 p.length x (by rw [he]; simp)
    have hrec := ih (p ++ [x]) c (by rw [he]; simp) (by simp at hk; omega)
    rw [Mo_isBusyBelowThere_2]
    simp (disch := omega) only [e30, zI_le, if_neg, zI_inb, if_pos, zI_ix, Int.toNat_natCast, hlx, m_below hb h hM h9 hx, bp_some]
    cases hbx : td A x with
    | true =>
      rw [bI_t, if_neg (by rw [zI_lit, zI_eq (by omega) (by omega) (by omega) (by omega)]; decide)]
      simp [hbx, bI_t, zI_lit]
    | false =>
      rw [bI_f, if_pos (show zI 0 = 0 from rfl)]
      simp only [bnd_ap, zI_lit, zI_add]
      rw [show (p.length : Int) + 1 = ((p ++ [x]).length : Int) by simp, hrec]
      simp [hbx]
theorem m_free_loop {n S : Nat} {A : Ab} {dep : Nat → Nat} {b : Nat} {B : Nat → Int} {μ : Sl} (hb : MB μ b) (h : WF n S A dep) (hM : MRep B A) {s p : Nat} {t : Int} (hs : s < 6) (ht1 : 1 ≤ t) (ht2 : t ≤ 4) (hp : p + pg t ≤ 32) : ∀ (m k i : Nat), i + m = pg t → m < k → pgc A (32 * s + p) i = 0 → Mo_isFree_3 (bst μ b B) k (zI (s : Int)) (zI (p : Int)) (zI (t - 1)) (zI (i : Int)) = some (bI (decide (pgc A (32 * s + p) (pg t) = 0))) := by
  have hpp := pg_pos ht1 ht2
  intro m
  induction m with
  | zero =>
    intro k i hm hk h0
    obtain ⟨c, rfl⟩ : ∃ c, k = c + 1 := ⟨k - 1, by omega⟩
    have : i = pg t := by omega
    subst this
    rw [Mo_isFree_3]
    simp (disch := omega) only [zI_lit, zI_pg, zI_le, if_pos]
    simp [h0, bI]
  | succ m ih =>
    intro k i hm hk h0
    obtain ⟨c, rfl⟩ : ∃ c, k = c + 1 := ⟨k - 1, by omega⟩
    have hcv := m_cover hb (MR_0 h hM) (s := (s : Int)) (p := (p : Int) + (i : Int)) (by omega) (by omega) (by omega) (by omega)
    rw [show (32 * (s : Int) + ((p : Int) + (i : Int))).toNat = 32 * s + p + i by omega] at hcv
    have hsucc : pgc A (32 * s + p) (i + 1) = pgc A (32 * s + p) i + (if (cov A (32 * s + p + i)).isSome then 1 else 0) := rfl
    rw [Mo_isFree_3]
    simp (disch := omega) only [zI_lit, zI_pg, zI_le, if_neg, zI_add, hcv, bp_some]
    cases hc : cov A (32 * s + p + i) with
    | none =>
      rw [hc] at hsucc
      rw [if_pos (show zI (cv none) < zI 0 by show zI (-1) < zI 0; rw [zI_lt (by omega) (by omega) (by omega) (by omega)]; decide)]
      exact ih c (i + 1) (by omega) (by omega) (by rw [hsucc, h0]; rfl)
    | some d =>
      have hd := (cs_some (by omega) hc).1.1
      rw [hc] at hsucc
      have hmono : pgc A (32 * s + p) (i + 1) ≤ pgc A (32 * s + p) (pg t) := fb_ct_mono _ (by omega)
      have : pgc A (32 * s + p) (pg t) ≠ 0 := by simp at hsucc; omega
      simp (disch := omega) only [cv, zI_lt, if_neg]
      simp [this, bI]
theorem m_free {n S : Nat} {A : Ab} {dep : Nat → Nat} {b : Nat} {B : Nat → Int} {μ : Sl} (hb : MB μ b) (h : WF n S A dep) (hM : MRep B A) {s p : Nat} {t : Int} (hs : s < 6) (ht1 : 1 ≤ t) (ht2 : t ≤ 4) (hp : p + pg t ≤ 32) : Mo_isFree (bst μ b B) (zI (s : Int)) (zI (p : Int)) (zI (t - 1)) = some (bI (decide (pgc A (32 * s + p) (pg t) = 0))) :=
  m_free_loop hb h hM hs ht1 ht2 hp (pg t) FU 0 (by omega) (FU_gt (by have := pg_pos ht1 ht2; omega)) rfl
theorem m_pagesIn {n S : Nat} {A : Ab} {dep : Nat → Nat} {b : Nat} {B : Nat → Int} {μ : Sl} (hb : MB μ b) (h : WF n S A dep) (hM : MRep B A) (hS : μ 41 3 = zI (S : Int)) {s : Nat} (hs : s < 6) : Mo_pagesIn (bst μ b B) (zI (s : Int)) = some (zI (pgc A (32 * s) 32 : Int)) := by
  have hS32 := h.2.1
  have hsz : Mo_size (bst μ b B) = some (zI (S : Int)) := by
    unfold Mo_size
    rw [bst_ne _ _ _ (by decide)]
    simp (disch := omega) only [zI_lit, zI_inb, if_pos, zI_ix]
    exact congrArg some hS
  have hpg : ∀ x, x < 192 → pg (A.1 0 x) ≤ 8 := fun x hx => by
    obtain ⟨-, e2, e3⟩ := MR_0 h hM x hx
    by_cases q : A.1 0 x = 0
    · rw [q]; decide
    · exact (pg_pos (by omega) e3).2
  have hbd : ∀ i, i ≤ 32 → fb_sm (fun p => pg (A.1 0 (32 * s + p))) i ≤ i * 8 := fun i hi => fb_sm_bound (fun k hk => hpg _ (by omega))
  have key : ∀ (m k i : Nat), i + m = S → m < k → Mo_pagesIn_4 (bst μ b B) k (zI (s : Int)) (zI (fb_sm (fun p => pg (A.1 0 (32 * s + p))) i : Int)) (zI (i : Int)) = some (zI (fb_sm (fun p => pg (A.1 0 (32 * s + p))) S : Int)) := by
    intro m
    induction m with
    | zero =>
      intro k i hm hk
      obtain ⟨c, rfl⟩ : ∃ c, k = c + 1 := ⟨k - 1, by omega⟩
      have : i = S := by omega
      subst this
      rw [Mo_pagesIn_4]
      simp (disch := omega) only [hsz, bp_some, zI_le, if_pos]
    | succ m ih =>
      intro k i hm hk
      obtain ⟨c, rfl⟩ : ∃ c, k = c + 1 := ⟨k - 1, by omega⟩
      have hp := m_pages hb h hM (x := 32 * s + i) (by omega)
      rw [show ((32 * s + i : Nat) : Int) = 32 * (s : Int) + (i : Int) by omega] at hp
      have hrec := ih c (i + 1) (by omega) (by omega)
      have e1 : fb_sm (fun p => pg (A.1 0 (32 * s + p))) (i + 1) = fb_sm (fun p => pg (A.1 0 (32 * s + p))) i + pg (A.1 0 (32 * s + i)) := rfl
      rw [Mo_pagesIn_4]
      simp (disch := omega) only [hsz, bp_some, zI_le, if_neg, zI_lit, zI_mul, zI_add, hp, bnd_ap]
      rw [← hrec, e1]; rfl
  have := key S FU 0 (by omega) (FU_gt (by omega))
  rw [pages_sum h hs] at this
  exact this
