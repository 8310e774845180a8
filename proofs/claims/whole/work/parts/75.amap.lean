/-! ===== handing on: the forest ===== -/
def mo (A : Ab) (t : Int) (x : Nat) : Int := if t < A.1 0 x then t else A.1 0 x
def moff (A : Ab) (t : Int) (q0 x : Nat) : Nat := if t < A.1 0 x then 0 else x - q0
def mfr (A : Ab) (t : Int) (q0 x : Nat) : Int := A.1 1 x + (if t < A.1 0 x then (q0 : Int) - (x : Int) else 0)
def mstep (A0 : Ab) (t r : Int) (q0 e0 : Nat) (A : Ab) (x : Nat) : Ab := if la (A0.1 2 x) r = 0 then A else aAdd A (e0 + moff A0 t q0 x) (mo A0 t x) (mfr A0 t q0 x) (la (A0.1 2 x) r) ((x : Int) + 1) 0
def MI (n S : Nat) (A0 : Ab) (t : Int) (q0 e0 : Nat) (A : Ab) (dep : Nat → Nat) (pre : List Nat) : Prop :=
  WF n S A dep ∧ (∀ x, Lv A0 x → Lv A x ∧ ∀ j, A.1 j x = A0.1 j x) ∧ ∀ e, Lv A e → Lv A0 e ∨ ∃ y, y ∈ pre ∧ e = e0 + moff A0 t q0 y ∧ A.1 0 e = mo A0 t y ∧ A.1 9 e = 0 ∧ A.1 10 e = 0
/-- a region to hand on from, a free one to hand on to -/
def MP (n S : Nat) (A0 : Ab) (dep0 : Nat → Nat) (t r : Int) (q0 e0 : Nat) : Prop :=
  WF n S A0 dep0 ∧ 1 ≤ t ∧ t ≤ 4 ∧ q0 < 192 ∧ q0 % pg t = 0 ∧ q0 % 32 + pg t ≤ S ∧ e0 < 192 ∧ e0 % pg t = 0 ∧ e0 / 32 < n ∧ e0 % 32 + pg t ≤ S ∧ pgc A0 e0 (pg t) = 0 ∧ 0 ≤ r ∧ r ≤ 7
theorem pgc_0 {A : Ab} {lo w : Nat} (h : pgc A lo w = 0) {k : Nat} (hk : k < w) : cov A (lo + k) = none := by
  have := (fb_ct_zero (p := fun i => (cov A (lo + i)).isSome) (n := w)).mp h k hk
  simpa using this
theorem stL_mem {A : Ab} {q w x : Nat} : x ∈ stL A q w ↔ q ≤ x ∧ x < q + w ∧ 0 < A.1 0 x := by
  unfold stL
  rw [List.mem_filterMap]
  constructor
  · rintro ⟨k, hk, he⟩
    simp at hk
    split at he
    · cases he; exact ⟨by omega, by omega, by assumption⟩
    · cases he
  · rintro ⟨h1, h2, h3⟩
    refine ⟨x - q, by simp; omega, ?_⟩
    rw [show q + (x - q) = x by omega, if_pos h3]
theorem stL_nodup (A : Ab) (q w : Nat) : (stL A q w).Nodup := by
  induction w with
  | zero => simp [stL]
  | succ w ih =>
    rw [stL_succ]
    refine List.nodup_append.mpr ⟨ih, by split <;> simp, fun a ha b hb e => ?_⟩
    have := stL_mem.mp ha
    split at hb
    · simp at hb; omega
    · cases hb
theorem thr_nodup (A : Ab) (q : Nat) (t : Int) : (thr A q t).Nodup := by
  unfold thr
  split
  · split
    · simp
    · exact stL_nodup _ _ _
  · exact stL_nodup _ _ _
/-- one of those seen: it has the region, or lies in it -/
theorem thr_cases {n S : Nat} {A : Ab} {dep : Nat → Nat} (h : WF n S A dep) {q : Nat} {t : Int} (ht1 : 1 ≤ t) (ht2 : t ≤ 4) (hq : q < 192) (hal : q % pg t = 0) (hS : q % 32 + pg t ≤ S) {x : Nat} (hx : x ∈ thr A q t) :
    (t < A.1 0 x ∧ thr A q t = [x] ∧ x ≤ q ∧ q + pg t ≤ x + pgs A x) ∨ (¬ t < A.1 0 x ∧ q ≤ x ∧ x + pgs A x ≤ q + pg t ∧ ∀ y, y ∈ thr A q t → ¬ t < A.1 0 y ∧ q ≤ y) := by
  have hWS := WF_WS h
  have hp := pg_pos ht1 ht2
  have hS32 := h.2.1
  have small : (∀ d, cov A q = some d → ¬ t < A.1 0 d) → ∀ y, y ∈ stL A q (pg t) → ¬ t < A.1 0 y ∧ q ≤ y ∧ y + pgs A y ≤ q + pg t := fun hs y hy => by
    obtain ⟨y1, y2, y3⟩ := stL_mem.mp hy
    have hly : Lv A y := ⟨by omega, y3⟩
    have had := (h.2.2.2.1 y hly).2.1
    have hnt : ¬ t < A.1 0 y := fun hlt => by
      have : y = q := by
        rcases pgs_cases h hly with ⟨e1, e2⟩ | ⟨e1, e2⟩ | ⟨e1, e2⟩ | ⟨e1, e2⟩ <;> rcases pg_cases ht1 ht2 with ⟨f1, f2⟩ | ⟨f1, f2⟩ | ⟨f1, f2⟩ | ⟨f1, f2⟩ <;> rw [e2] at had <;> rw [f2] at hal y2 <;> omega
      subst this
      exact hs y (cs_self hWS hly) hlt
    refine ⟨hnt, y1, ?_⟩
    rcases pgs_cases h hly with ⟨e1, e2⟩ | ⟨e1, e2⟩ | ⟨e1, e2⟩ | ⟨e1, e2⟩ <;> rcases pg_cases ht1 ht2 with ⟨f1, f2⟩ | ⟨f1, f2⟩ | ⟨f1, f2⟩ | ⟨f1, f2⟩ <;> rw [e2] at had ⊢ <;> rw [f2] at hal y2 ⊢ <;> omega
  unfold thr at hx ⊢
  cases hc : cov A q with
  | none =>
    rw [hc] at hx
    have hsm := small (fun d hd => by rw [hc] at hd; cases hd)
    exact .inr ⟨(hsm x hx).1, (hsm x hx).2.1, (hsm x hx).2.2, fun y hy => ⟨(hsm y hy).1, (hsm y hy).2.1⟩⟩
  | some d =>
    rw [hc] at hx
    dsimp only at hx ⊢
    by_cases hlt : t < A.1 0 d
    · rw [if_pos hlt] at hx ⊢
      simp at hx; subst hx
      exact .inl ⟨hlt, rfl, (cs_some hq hc).2.1, (big_cov h ht1 ht2 hq hal hc).1 hlt⟩
    · rw [if_neg hlt] at hx ⊢
      have hsm := small (fun d' hd' => by rw [hc] at hd'; cases hd'; exact hlt)
      exact .inr ⟨(hsm x hx).1, (hsm x hx).2.1, (hsm x hx).2.2, fun y hy => ⟨(hsm y hy).1, (hsm y hy).2.1⟩⟩
theorem MI_step {n S : Nat} {A0 A : Ab} {dep0 dep : Nat → Nat} {t r : Int} {q0 e0 : Nat} (hP : MP n S A0 dep0 t r q0 e0) {pre post : List Nat} {x : Nat} (hl : thr A0 q0 t = pre ++ x :: post) (hI : MI n S A0 t q0 e0 A dep pre) :
    Lv A0 x ∧ Lv A x ∧ AddOk n S A (e0 + moff A0 t q0 x) (mo A0 t x) (mfr A0 t q0 x) (la (A0.1 2 x) r) x ∧ ∃ dep', MI n S A0 t q0 e0 (mstep A0 t r q0 e0 A x) dep' (pre ++ [x]) := by
  obtain ⟨h0, ht1, ht2, hq, hqa, hqS, he, hea, hen, heS, hfree, hr1, hr2⟩ := hP
  have hp := pg_pos ht1 ht2
  have hS32 := h0.2.1
  have hn6 := h0.1
  have hx : x ∈ thr A0 q0 t := by rw [hl]; simp
  have hx0 : Lv A0 x := thr_mem h0 ht1 ht2 (by omega) hx
  obtain ⟨hW, hI2, hI3⟩ := hI
  obtain ⟨hxl, hxf⟩ := hI2 x hx0
  have hwx := h0.2.2.2.1 x hx0
  obtain ⟨w1, w2, w3, w4, w5, w6, w7, w8, w9, w10, w11⟩ := hwx
  have hx02 := hx0.2
  have hand := zI_and7 w8 w9 hr1 hr2
  have hpx : pgs A x = pgs A0 x := by unfold pgs; rw [hxf 0]
  have hcase := thr_cases h0 ht1 ht2 hq hqa hqS hx
  -- the new deed's own shape
  have shape : 1 ≤ mo A0 t x ∧ mo A0 t x ≤ 4 ∧ moff A0 t q0 x + pg (mo A0 t x) ≤ pg t ∧ (e0 + moff A0 t q0 x) % pg (mo A0 t x) = 0 ∧ 0 ≤ mfr A0 t q0 x ∧ mfr A0 t q0 x % (pg (mo A0 t x) : Int) = 0 ∧ mfr A0 t q0 x + pg (mo A0 t x) ≤ A0.1 1 x + pgs A0 x ∧ A0.1 1 x ≤ mfr A0 t q0 x ∧ mo A0 t x ≤ A0.1 0 x := by
    rcases hcase with ⟨c1, c2, c3, c4⟩ | ⟨c1, c2, c3, c4⟩
    · have em : mo A0 t x = t := if_pos c1
      have eo : moff A0 t q0 x = 0 := if_pos c1
      have ef : mfr A0 t q0 x = A0.1 1 x + ((q0 : Int) - (x : Int)) := by unfold mfr; rw [if_pos c1]
      rw [em, eo, ef]
      refine ⟨ht1, ht2, by omega, by simpa using hea, by omega, ?_, by omega, by omega, by omega⟩
      rcases pgs_cases h0 hx0 with ⟨e1, e2⟩ | ⟨e1, e2⟩ | ⟨e1, e2⟩ | ⟨e1, e2⟩ <;> rcases pg_cases ht1 ht2 with ⟨f1, f2⟩ | ⟨f1, f2⟩ | ⟨f1, f2⟩ | ⟨f1, f2⟩ <;> rw [e2] at w2 w6 <;> rw [f2] at hqa ⊢ <;> omega
    · have em : mo A0 t x = A0.1 0 x := if_neg c1
      have eo : moff A0 t q0 x = x - q0 := if_neg c1
      have ef : mfr A0 t q0 x = A0.1 1 x := by unfold mfr; rw [if_neg c1]; omega
      have ep : pg (A0.1 0 x) = pgs A0 x := rfl
      rw [em, eo, ef, ep]
      refine ⟨by omega, w1, by omega, ?_, w5, w6, by omega, by omega, by omega⟩
      rcases pgs_cases h0 hx0 with ⟨e1, e2⟩ | ⟨e1, e2⟩ | ⟨e1, e2⟩ | ⟨e1, e2⟩ <;> rcases pg_cases ht1 ht2 with ⟨f1, f2⟩ | ⟨f1, f2⟩ | ⟨f1, f2⟩ | ⟨f1, f2⟩ <;> rw [e2] at w2 ⊢ <;> rw [f2] at hqa hea <;> omega
  obtain ⟨s1, s2, s3, s4, s5, s6, s7, s8, s9⟩ := shape
  have hpm := pg_pos s1 s2
  have hout : ∀ e, Lv A0 e → e + pgs A0 e ≤ e0 ∨ e0 + pg t ≤ e := fun e hle => by
    refine Classical.byContradiction fun hn => ?_
    have hpe := pgs_pos h0 hle
    have hWS := WF_WS h0
    by_cases q : e0 ≤ e
    · have := pgc_0 hfree (k := e - e0) (by omega)
      rw [show e0 + (e - e0) = e by omega, cs_self hWS hle] at this; cases this
    · have := pgc_0 hfree (k := 0) (by omega)
      rw [show e0 + 0 = e0 by omega, cs_of hWS hle (by omega) (by omega)] at this; cases this
  have hnd := thr_nodup A0 q0 t
  rw [hl] at hnd
  have hxp : x ∉ pre := fun z => (List.nodup_append.mp hnd).2.2 x z x (by simp) rfl
  have hfr : ∀ e, Lv A e → e + pgs A e ≤ e0 + moff A0 t q0 x ∨ e0 + moff A0 t q0 x + pg (mo A0 t x) ≤ e := fun e hle => by
    rcases hI3 e hle with h1 | ⟨y, y1, y2, y3, -⟩
    · have : pgs A e = pgs A0 e := by unfold pgs; rw [(hI2 e h1).2 0]
      rw [this]; have := hout e h1; omega
    · have hym : y ∈ thr A0 q0 t := by rw [hl]; simp [y1]
      rcases hcase with ⟨c1, c2, c3, c4⟩ | ⟨c1, c2, c3, c4⟩
      · rw [c2] at hym; simp at hym; subst hym; exact absurd y1 hxp
      · obtain ⟨yn, yq⟩ := c4 y hym
        have hy0 : Lv A0 y := thr_mem h0 ht1 ht2 (by omega) hym
        have hyx : y ≠ x := fun z => hxp (z ▸ y1)
        have hdis := h0.2.2.2.2.2.2.1 y x hy0 hx0 hyx
        have ey : moff A0 t q0 y = y - q0 := if_neg yn
        have ex : moff A0 t q0 x = x - q0 := if_neg c1
        have epe : pgs A e = pgs A0 y := by unfold pgs; rw [y3]; unfold mo; rw [if_neg yn]
        have epx : pg (mo A0 t x) = pgs A0 x := by unfold mo pgs; rw [if_neg c1]
        rw [epe, epx, y2, ey, ex]; omega
  have hok : AddOk n S A (e0 + moff A0 t q0 x) (mo A0 t x) (mfr A0 t q0 x) (la (A0.1 2 x) r) x := by
    refine ⟨by omega, s1, s2, s4, by omega, by omega, s5, s6, by omega, hand.2.1, hand.2.2, hfr, hxl, by rw [hxf 0]; exact s9, by rw [hxf 1]; exact s8, by rw [hxf 1, hpx]; exact s7⟩
  refine ⟨hx0, hxl, hok, ?_⟩
  unfold mstep
  by_cases hz : la (A0.1 2 x) r = 0
  · rw [if_pos hz]
    exact ⟨dep, hW, hI2, fun e hle => (hI3 e hle).elim .inl (fun ⟨y, y1, y2⟩ => .inr ⟨y, by simp [y1], y2⟩)⟩
  · rw [if_neg hz]
    obtain ⟨⟨dep', hW'⟩, hnl⟩ := AddOk_WF (a := 0) hW hok (by omega) (by omega)
    refine ⟨dep', hW', fun y hy => ?_, fun e hle => ?_⟩
    · have hy2 := hI2 y hy
      have hyd : y ≠ e0 + moff A0 t q0 x := fun z => hnl (z ▸ hy2.1)
      have e1 : ∀ j, (aAdd A (e0 + moff A0 t q0 x) (mo A0 t x) (mfr A0 t q0 x) (la (A0.1 2 x) r) ((x : Int) + 1) 0).1 j y = A.1 j y := fun j => if_neg hyd
      exact ⟨⟨hy2.1.1, by rw [e1]; exact hy2.1.2⟩, fun j => by rw [e1]; exact hy2.2 j⟩
    · by_cases q : e = e0 + moff A0 t q0 x
      · right
        refine ⟨x, by simp, q, ?_, ?_, ?_⟩
        · rw [q]; simp [aAdd]
        · rw [q]; simp [aAdd]
        · rw [q]; simp [aAdd]
      · have e1 : ∀ j, (aAdd A (e0 + moff A0 t q0 x) (mo A0 t x) (mfr A0 t q0 x) (la (A0.1 2 x) r) ((x : Int) + 1) 0).1 j e = A.1 j e := fun j => if_neg q
        have hle' : Lv A e := ⟨hle.1, by have := hle.2; rw [e1] at this; exact this⟩
        rcases hI3 e hle' with z | ⟨y, y1, y2, y3, y4, y5⟩
        · exact .inl z
        · exact .inr ⟨y, by simp [y1], y2, by rw [e1]; exact y3, by rw [e1]; exact y4, by rw [e1]; exact y5⟩
theorem MI_start {n S : Nat} {A0 : Ab} {dep0 : Nat → Nat} {t r : Int} {q0 e0 : Nat} (hP : MP n S A0 dep0 t r q0 e0) : MI n S A0 t q0 e0 A0 dep0 [] := ⟨hP.1, fun x hx => ⟨hx, fun _ => rfl⟩, fun e he => .inl he⟩
def aMap (A0 : Ab) (t r : Int) (q0 e0 : Nat) (l : List Nat) : Ab := l.foldl (mstep A0 t r q0 e0) A0
/-- how many heirs -/
def nMap (A0 : Ab) (r : Int) (l : List Nat) : Nat := (l.filter (fun x => decide (la (A0.1 2 x) r ≠ 0))).length
theorem aMap_snoc (A0 : Ab) (t r : Int) (q0 e0 : Nat) (l : List Nat) (x : Nat) : aMap A0 t r q0 e0 (l ++ [x]) = mstep A0 t r q0 e0 (aMap A0 t r q0 e0 l) x := by unfold aMap; simp
theorem nMap_snoc (A0 : Ab) (r : Int) (l : List Nat) (x : Nat) : nMap A0 r (l ++ [x]) = nMap A0 r l + (if la (A0.1 2 x) r = 0 then 0 else 1) := by
  unfold nMap
  by_cases h : la (A0.1 2 x) r = 0
  · simp [h]
  · simp [h]
