/-! ===== the deeds that are seen in a region ===== -/
theorem fm_congr {f g : Nat → Option Nat} : ∀ (l : List Nat), (∀ k, k ∈ l → f k = g k) → l.filterMap f = l.filterMap g
  | [], _ => rfl
  | x :: l, h => by
    rw [List.filterMap_cons, List.filterMap_cons, h x (by simp), fm_congr l (fun k hk => h k (by simp [hk]))]
def stL (A : Ab) (q w : Nat) : List Nat := (List.range w).filterMap (fun k => if 0 < A.1 0 (q + k) then some (q + k) else none)
def thr (A : Ab) (q : Nat) (t : Int) : List Nat := match cov A q with
  | some d => if t < A.1 0 d then [d] else stL A q (pg t)
  | none => stL A q (pg t)
def vis (A : Ab) (q k : Nat) : Option Nat := match cov A (q + k) with
  | some d => if k = 0 ∨ d = q + k then some d else none
  | none => none
theorem big_cov {n S : Nat} {A : Ab} {dep : Nat → Nat} (h : WF n S A dep) {q d : Nat} {t : Int} (ht1 : 1 ≤ t) (ht2 : t ≤ 4) (hq : q < 192) (hal : q % pg t = 0) (hc : cov A q = some d) : (t < A.1 0 d → q + pg t ≤ d + pgs A d) ∧ (¬ t < A.1 0 d → d = q) := by
  obtain ⟨a1, a2, a3⟩ := cs_some hq hc
  have had := (h.2.2.2.1 d a1).2.1
  have hp := pgs_cases h a1
  have ht := pg_cases ht1 ht2
  constructor
  · intro hlt
    rcases hp with ⟨e1, e2⟩ | ⟨e1, e2⟩ | ⟨e1, e2⟩ | ⟨e1, e2⟩ <;> rcases ht with ⟨f1, f2⟩ | ⟨f1, f2⟩ | ⟨f1, f2⟩ | ⟨f1, f2⟩ <;> rw [e2] at had a3 ⊢ <;> rw [f2] at hal ⊢ <;> omega
  · intro hlt
    rcases hp with ⟨e1, e2⟩ | ⟨e1, e2⟩ | ⟨e1, e2⟩ | ⟨e1, e2⟩ <;> rcases ht with ⟨f1, f2⟩ | ⟨f1, f2⟩ | ⟨f1, f2⟩ | ⟨f1, f2⟩ <;> rw [e2] at had a3 <;> rw [f2] at hal <;> omega
theorem thr_vis {n S : Nat} {A : Ab} {dep : Nat → Nat} (h : WF n S A dep) {q : Nat} {t : Int} (ht1 : 1 ≤ t) (ht2 : t ≤ 4) (hq : q + pg t ≤ 192) (hal : q % pg t = 0) : (List.range (pg t)).filterMap (vis A q) = thr A q t := by
  have hWS := WF_WS h
  have hp := pg_pos ht1 ht2
  have small : (∀ d, cov A q = some d → ¬ t < A.1 0 d) → (List.range (pg t)).filterMap (vis A q) = stL A q (pg t) := fun hs => by
    unfold stL
    refine fm_congr _ (fun k hk => ?_)
    have hk' : k < pg t := by simpa using hk
    unfold vis
    by_cases hl : Lv A (q + k)
    · rw [cs_self hWS hl, if_pos hl.2]; simp
    · have h0 : ¬ 0 < A.1 0 (q + k) := fun z => hl ⟨by omega, z⟩
      rw [if_neg h0]
      cases hc : cov A (q + k) with
      | none => rfl
      | some d =>
        dsimp only
        rw [if_neg]
        rintro (e | e)
        · subst e
          have := (big_cov h ht1 ht2 (by omega) hal hc).2 (hs d hc)
          exact hl (by rw [show q + 0 = q by omega] at hc ⊢; rw [← this]; exact (cs_some (by omega) hc).1)
        · exact hl (e ▸ (cs_some (by omega) hc).1)
  unfold thr
  cases hc : cov A q with
  | none => exact small (fun d hd => by rw [hc] at hd; cases hd)
  | some d =>
    dsimp only
    by_cases hlt : t < A.1 0 d
    · rw [if_pos hlt]
      have hb := (big_cov h ht1 ht2 (by omega) hal hc).1 hlt
      obtain ⟨a1, a2, a3⟩ := cs_some (by omega) hc
      obtain ⟨w, hw⟩ : ∃ w, pg t = w + 1 := ⟨pg t - 1, by omega⟩
      have e0 : vis A q 0 = some d := by unfold vis; rw [show q + 0 = q by omega, hc]; simp
      have ek : ∀ k, k < w → vis A q (k + 1) = none := fun k hk => by
        unfold vis
        rw [cs_of hWS a1 (q := q + (k + 1)) (by omega) (by omega)]
        dsimp only; rw [if_neg (by omega)]
      rw [hw, List.range_succ_eq_map, List.filterMap_cons, e0, List.filterMap_map]
      have : (List.range w).filterMap (vis A q ∘ Nat.succ) = [] := by
        rw [List.filterMap_eq_nil_iff]
        intro k hk
        exact ek k (by simpa using hk)
      rw [this]
    · rw [if_neg hlt]
      exact small (fun d' hd' => by rw [hc] at hd'; cases hd'; exact hlt)
theorem thr_mem {n S : Nat} {A : Ab} {dep : Nat → Nat} (h : WF n S A dep) {q : Nat} {t : Int} (ht1 : 1 ≤ t) (ht2 : t ≤ 4) (hq : q + pg t ≤ 192) {x : Nat} (hx : x ∈ thr A q t) : Lv A x := by
  have hs : x ∈ stL A q (pg t) → Lv A x := fun hx => by
    unfold stL at hx
    obtain ⟨k, hk, he⟩ := List.mem_filterMap.mp hx
    split at he
    · cases he; exact ⟨by simp at hk; omega, by assumption⟩
    · cases he
  unfold thr at hx
  have hp := pg_pos ht1 ht2
  cases hc : cov A q with
  | none => rw [hc] at hx; exact hs hx
  | some d =>
    rw [hc] at hx
    dsimp only at hx
    split at hx
    · simp at hx; subst hx; exact (cs_some (by omega) hc).1
    · exact hs hx
theorem thr_len {A : Ab} {q : Nat} {t : Int} (ht1 : 1 ≤ t) (ht2 : t ≤ 4) : (thr A q t).length ≤ 8 := by
  have hp := pg_pos ht1 ht2
  have hs : (stL A q (pg t)).length ≤ 8 := by
    unfold stL
    have := List.length_filterMap_le (fun k => if 0 < A.1 0 (q + k) then some (q + k) else none) (List.range (pg t))
    simp at this; omega
  unfold thr
  split
  · split
    · simp
    · exact hs
  · exact hs
/-! the class -/
def svv (b0 b1 b2 b3 : Bool) : Int32 := zI ((if b0 then 1 else 0) + (if b1 then 2 else 0) + (if b2 then 4 else 0) + (if b3 then 8 else 0))
theorem svv_1 : ∀ b0 b1 b2 b3, svv b0 b1 b2 b3 ||| (1 : Int32) = svv true b1 b2 b3 := by decide +kernel
theorem svv_4 : ∀ b0 b1 b2 b3, svv b0 b1 b2 b3 ||| (4 : Int32) = svv b0 b1 true b3 := by decide +kernel
theorem svv_6 : ∀ b0 b1 b2 b3, svv b0 b1 b2 b3 ||| (6 : Int32) = svv b0 true true b3 := by decide +kernel
theorem svv_8 : ∀ b0 b1 b2 b3, svv b0 b1 b2 b3 ||| (8 : Int32) = svv b0 b1 b2 true := by decide +kernel
theorem svv_a1 : ∀ b0 b1 b2 b3, (svv b0 b1 b2 b3 &&& (1 : Int32) = 0) = (b0 = false) := by
  intro b0 b1 b2 b3; rw [eq_iff_iff]; revert b0 b1 b2 b3; decide +kernel
theorem svv_a2 : ∀ b0 b1 b2 b3, (svv b0 b1 b2 b3 &&& (2 : Int32) = 0) = (b1 = false) := by
  intro b0 b1 b2 b3; rw [eq_iff_iff]; revert b0 b1 b2 b3; decide +kernel
theorem svv_a4 : ∀ b0 b1 b2 b3, (svv b0 b1 b2 b3 &&& (4 : Int32) = 0) = (b2 = false) := by
  intro b0 b1 b2 b3; rw [eq_iff_iff]; revert b0 b1 b2 b3; decide +kernel
theorem svv_a8 : ∀ b0 b1 b2 b3, (svv b0 b1 b2 b3 &&& (8 : Int32) = 0) = (b3 = false) := by
  intro b0 b1 b2 b3; rw [eq_iff_iff]; revert b0 b1 b2 b3; decide +kernel
def snl (A : Ab) (l : List Nat) : Int32 := svv (!l.isEmpty) (l.any (bsy A)) (l.any (td A)) (l.any (fun x => decide (A.1 3 x = 0)))
theorem c_see {n S : Nat} {A : Ab} {dep : Nat → Nat} {δ : Sl} {σ : Nat → Nat} {bn : Nat} (h : WF n S A dep) (hC : CRep δ σ bn A) (M : Mem) (k13 : Int32 → Int32 → Int32 → Int32 → Int32 → Option Int32) (v1 v2 v5 v6 : Int32) (l : List Nat) {d : Nat} (hd : Lv A d) :
    Wo_seenIn_61 k13 M δ v1 v2 (snl A l) v5 v6 (zI (σ d : Int)) = k13 v1 v2 (snl A (l ++ [d])) v5 (v6 + 1) := by
  have b1 := cr_lt hC hd
  have hg := cr_giver hC hd
  have e0 : (!(l ++ [d]).isEmpty) = true := by simp
  have e107 : ∀ c0 c1 c2, Wo_seenIn_107 k13 M δ v1 v2 (svv c0 c1 c2 (l.any (fun x => decide (A.1 3 x = 0)))) v5 v6 (zI (σ d : Int)) = k13 v1 v2 (svv c0 c1 c2 ((l ++ [d]).any (fun x => decide (A.1 3 x = 0)))) v5 (v6 + 1) := fun c0 c1 c2 => by
    unfold Wo_seenIn_107 Wo_seenIn_127
    rcases gv_or h hd with ⟨g1, -⟩ | ⟨g, g1, g2, -⟩
    · rw [g1, enc_0] at hg
      have e8 : zI 8 = (8 : Int32) := rfl
      simp (disch := omega) only [zI_inb, if_pos, zI_ix, Int.toNat_natCast, hg, zI_lit, zI_le, if_neg, bnd_ap]
      rw [e8, svv_8]
      simp [g1, zI_lit]
    · have b2 := cr_lt hC g2
      rw [g1, enc_s] at hg
      have : ¬ A.1 3 d = 0 := by omega
      simp (disch := omega) only [zI_inb, if_pos, zI_ix, Int.toNat_natCast, hg, zI_lit, zI_le, bnd_ap]
      simp [this, zI_lit]
  unfold Wo_seenIn_61
  simp only [bnd_ap, c_busy h hC hd, c_tied h hC hd, bp_some]
  unfold snl
  rw [e0, svv_1]
  cases hb : bsy A d with
  | true =>
    have ht : td A d = true := td_iff.mpr (.inl hb)
    rw [bI_t, if_neg (by rw [zI_lit, zI_eq (by omega) (by omega) (by omega) (by omega)]; decide), svv_6, e107]
    simp [hb, ht]
  | false =>
    rw [bI_f, if_pos (show zI 0 = 0 from rfl)]
    cases ht : td A d with
    | true =>
      rw [bI_t, if_neg (by rw [zI_lit, zI_eq (by omega) (by omega) (by omega) (by omega)]; decide), svv_4, e107]
      simp [hb, ht]
    | false =>
      rw [bI_f, if_pos (show zI 0 = 0 from rfl), e107]
      simp [hb, ht]
theorem c_seen_loop {n S : Nat} {A : Ab} {dep : Nat → Nat} {δ : Sl} {σ : Nat → Nat} {bn : Nat} (h : WF n S A dep) (hC : CRep δ σ bn A) (M : Mem) {s p w : Nat} (hs : s < 6) (hp : p + w ≤ 32) : ∀ (m k i : Nat), i + m = w → m < k → Wo_seenIn_13 M δ k (zI (s : Int)) (zI (p : Int)) (snl A ((List.range i).filterMap (vis A (32 * s + p)))) (zI ((p + w : Nat) : Int)) (zI ((p + i : Nat) : Int)) = some (snl A ((List.range w).filterMap (vis A (32 * s + p)))) := by
  intro m
  induction m with
  | zero =>
    intro k i hm hk
    obtain ⟨c, rfl⟩ : ∃ c, k = c + 1 := ⟨k - 1, by omega⟩
    have : i = w := by omega
    subst this
    rw [Wo_seenIn_13]
    simp (disch := omega) only [zI_le, if_pos]
  | succ m ih =>
    intro k i hm hk
    obtain ⟨c, rfl⟩ : ∃ c, k = c + 1 := ⟨k - 1, by omega⟩
    have hrec := ih c (i + 1) (by omega) (by omega)
    have hf := cr_find hC.2.1 (s := (s : Int)) (p := ((p + i : Nat) : Int)) (by omega) (by omega) (by omega) (by omega)
    rw [show (32 * (s : Int) + ((p + i : Nat) : Int)).toNat = 32 * s + p + i by omega] at hf
    have hstep : (zI ((p + i : Nat) : Int)) + 1 = zI ((p + (i + 1) : Nat) : Int) := by rw [zI_lit, zI_add]; rfl
    have hrs : (List.range (i + 1)).filterMap (vis A (32 * s + p)) = (List.range i).filterMap (vis A (32 * s + p)) ++ (vis A (32 * s + p) i).toList := by
      rw [List.range_succ, List.filterMap_append]; simp [List.filterMap_cons]; cases vis A (32 * s + p) i <;> rfl
    rw [Wo_seenIn_13]
    simp (disch := omega) only [zI_le, if_neg, hf, bp_some, bnd_ap]
    have hskip : vis A (32 * s + p) i = none → Wo_seenIn_127 (Wo_seenIn_13 M δ c) M δ (zI (s : Int)) (zI (p : Int)) (snl A ((List.range i).filterMap (vis A (32 * s + p)))) (zI ((p + w : Nat) : Int)) (zI ((p + i : Nat) : Int)) = some (snl A ((List.range w).filterMap (vis A (32 * s + p)))) := fun hv => by
      unfold Wo_seenIn_127
      rw [bnd_ap, hstep, ← hrec, hrs, hv]; simp
    have hsee : ∀ d, Lv A d → vis A (32 * s + p) i = some d → Wo_seenIn_61 (Wo_seenIn_13 M δ c) M δ (zI (s : Int)) (zI (p : Int)) (snl A ((List.range i).filterMap (vis A (32 * s + p)))) (zI ((p + w : Nat) : Int)) (zI ((p + i : Nat) : Int)) (zI (σ d : Int)) = some (snl A ((List.range w).filterMap (vis A (32 * s + p)))) := fun d hd hv => by
      rw [c_see h hC M _ _ _ _ _ _ hd, hstep, ← hrec, hrs, hv]; rfl
    cases hc : cov A (32 * s + p + i) with
    | none =>
      rw [if_pos (show zI (sc σ none) < 0 by show zI (-1) < 0; rw [zI_lit, zI_lt (by omega) (by omega) (by omega) (by omega)]; decide)]
      exact hskip (by unfold vis; rw [hc])
    | some d =>
      have hd := (cs_some (by omega) hc).1
      have b1 := cr_lt hC hd
      have hpl := (hC.2.2.1 d hd).2.1
      have hd192 := hd.1
      obtain ⟨z1, z2, z3⟩ := cs_some (by omega) hc
      have hwa := h.2.2.2.1 d hd
      have hS := h.2.1
      have hdm : (d % 32 = p + i) ↔ d = 32 * s + p + i := by
        have := hwa.2.2.2.1; omega
      simp (disch := omega) only [sc, zI_lit, zI_lt, if_neg, zI_eq, zI_inb, if_pos, zI_ix, Int.toNat_natCast, hpl]
      by_cases q0 : i = 0
      · rw [if_pos (by omega)]
        exact hsee d hd (by unfold vis; rw [hc]; simp [q0])
      · rw [if_neg (by omega)]
        by_cases q1 : d = 32 * s + p + i
        · rw [if_pos (by have := hdm.mpr q1; omega)]
          exact hsee d hd (by unfold vis; rw [hc]; simp [q1])
        · rw [if_neg (by intro z; exact q1 (hdm.mp (by omega)))]
          exact hskip (by unfold vis; rw [hc]; simp [q0, q1])
theorem c_seen {n S : Nat} {A : Ab} {dep : Nat → Nat} {δ : Sl} {σ : Nat → Nat} {bn : Nat} (h : WF n S A dep) (hC : CRep δ σ bn A) (M : Mem) {s p : Nat} {t : Int} (hs : s < 6) (ht1 : 1 ≤ t) (ht2 : t ≤ 4) (hp : p + pg t ≤ 32) (hal : p % pg t = 0) : Wo_seenIn M δ (zI (s : Int)) (zI (p : Int)) (zI (t - 1)) = some (snl A (thr A (32 * s + p) t)) := by
  have hal2 : (32 * s + p) % pg t = 0 := by
    rcases pg_cases ht1 ht2 with ⟨f1, f2⟩ | ⟨f1, f2⟩ | ⟨f1, f2⟩ | ⟨f1, f2⟩ <;> rw [f2] at hal ⊢ <;> omega
  have := c_seen_loop h hC M (w := pg t) hs hp (pg t) FU 0 (by omega) (FU_gt (by omega))
  rw [thr_vis h ht1 ht2 (by omega) hal2] at this
  unfold Wo_seenIn
  simp (disch := omega) only [bnd_ap, zI_lit, zI_pg, zI_add]
  exact this
