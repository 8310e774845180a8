/-! ===== the reference hands on ===== -/
def wM (A0 : Ab) (t r : Int) (q0 e0 : Nat) (l : List Nat) (k : Nat) : Bool := l.any (fun x => decide (la (A0.1 2 x) r ≠ 0) && (decide (1 < mo A0 t x) && decide (k = wdc (e0 + moff A0 t q0 x))))
def wB (A0 : Ab) (t r : Int) (q0 e0 : Nat) (l : List Nat) (B : Nat → Int) : Nat → Int := fun k => if wM A0 t r q0 e0 l k then 1 else B k
theorem wB_nil (A0 : Ab) (t r : Int) (q0 e0 : Nat) (B : Nat → Int) : wB A0 t r q0 e0 [] B = B := by funext k; simp [wB, wM]
theorem wB_snoc (A0 : Ab) (t r : Int) (q0 e0 : Nat) (l : List Nat) (B : Nat → Int) (x k : Nat) : wB A0 t r q0 e0 (l ++ [x]) B k = if la (A0.1 2 x) r = 0 then wB A0 t r q0 e0 l B k else if 1 < mo A0 t x ∧ k = wdc (e0 + moff A0 t q0 x) then 1 else wB A0 t r q0 e0 l B k := by
  unfold wB wM
  rw [List.any_append]
  by_cases h : la (A0.1 2 x) r = 0
  · simp [h]
  · by_cases h2 : 1 < mo A0 t x ∧ k = wdc (e0 + moff A0 t q0 x)
    · rw [if_neg h, if_pos h2]; simp [h, h2]
    · rw [if_neg h, if_neg h2]
      have : ([x].any fun x => decide (la (A0.1 2 x) r ≠ 0) && (decide (1 < mo A0 t x) && decide (k = wdc (e0 + moff A0 t q0 x)))) = false := by
        simp [h]; intro z; exact fun w => h2 ⟨z, w⟩
      rw [this, Bool.or_false]
theorem m_map_loop {n S : Nat} {A0 : Ab} {dep0 : Nat → Nat} {t r : Int} {sf p st p1 b : Nat} {μ : Sl} {B0 : Nat → Int} (hb : MB μ b) (hp32 : p < 32) (hp1 : p1 < 32) (hP : MP n S A0 dep0 t r (32 * sf + p) (32 * st + p1)) (hT : TH μ (thr A0 (32 * sf + p) t)) : ∀ (q pre : List Nat) (k : Nat) (B : Nat → Int) (dep : Nat → Nat), thr A0 (32 * sf + p) t = pre ++ q → q.length < k → MI n S A0 t (32 * sf + p) (32 * st + p1) (aMap A0 t r (32 * sf + p) (32 * st + p1) pre) dep pre → MRep B (aMap A0 t r (32 * sf + p) (32 * st + p1) pre) → (∀ j, 1920 ≤ j → B j = wB A0 t r (32 * sf + p) (32 * st + p1) pre B0 j) →
    ∃ B', Mo_mapped_165 k (zI (st : Int)) (zI (p1 : Int)) (zI r) (zI (t - 1)) (zI (p : Int)) (zI (nMap A0 r pre : Int)) (zI (pre.length : Int)) (bst μ b B) = some (zI (nMap A0 r (thr A0 (32 * sf + p) t) : Int), bst μ b B') ∧ MRep B' (aMap A0 t r (32 * sf + p) (32 * st + p1) (thr A0 (32 * sf + p) t)) ∧ (∃ dep', MI n S A0 t (32 * sf + p) (32 * st + p1) (aMap A0 t r (32 * sf + p) (32 * st + p1) (thr A0 (32 * sf + p) t)) dep' (thr A0 (32 * sf + p) t)) ∧ ∀ j, 1920 ≤ j → B' j = wB A0 t r (32 * sf + p) (32 * st + p1) (thr A0 (32 * sf + p) t) B0 j := by
  have hP' := hP
  obtain ⟨h0, ht1, ht2, hq, hqa, hqS, he, hea, hen, heS, hfree, hr1, hr2⟩ := hP'
  have hS32 := h0.2.1
  have hn6 := h0.1
  have hpt := pg_pos ht1 ht2
  have hlen8 := thr_len (A := A0) (q := 32 * sf + p) ht1 ht2
  generalize hQ : 32 * sf + p = q0 at *
  generalize hE : 32 * st + p1 = e0 at *
  intro q
  induction q with
  | nil =>
    intro pre k B dep hl hk hI hM hB
    obtain ⟨c, rfl⟩ : ∃ c, k = c + 1 := ⟨k - 1, by omega⟩
    simp at hl
    have e30 : bst μ b B 34 30 = zI (pre.length : Int) := by rw [bst_ne _ _ _ (by decide)]; rw [← hl]; exact hT.1
    rw [hl] at hlen8 ⊢
    refine ⟨B, ?_, hM, ⟨dep, hI⟩, hB⟩
    rw [Mo_mapped_165]
    simp (disch := omega) only [e30, zI_le, if_pos]
  | cons x q ih =>
    intro pre k B dep hl hk hI hM hB
    obtain ⟨c, rfl⟩ : ∃ c, k = c + 1 := ⟨k - 1, by omega⟩
    obtain ⟨hx0, hxl, hok, dep', hI'⟩ := MI_step hP hl hI
    have hlen : (thr A0 q0 t).length = pre.length + q.length + 1 := by rw [hl]; simp; omega
    have e30 : bst μ b B 34 30 = zI ((pre.length + q.length + 1 : Nat) : Int) := by rw [bst_ne _ _ _ (by decide), hT.1, hlen]
    have hlx : bst μ b B 47 pre.length = zI (x : Int) := by rw [bst_ne _ _ _ (by decide)]; exact hT.2 pre.length x (by rw [hl]; simp)
    have hx192 := hx0.1
    obtain ⟨w1, w2, w3, w4, w5, w6, w7, w8, w9, w10, w11⟩ := h0.2.2.2.1 x hx0
    have hxf := (hI.2.1 x hx0).2
    obtain ⟨t1, t2, t3, t4, t5⟩ := hM.2.1 x hxl
    have t0 := hM.1 x hx192
    rw [hxf] at t0 t1 t2
    have hand := zI_and7 w8 w9 hr1 hr2
    have hx02 := hx0.2
    have hor : Mo_of (bst μ b B) (zI (384 + (x : Int))) = some (zI (A0.1 2 x)) := by rw [m_of hb B (by omega) (by omega), show (384 + (x : Int)).toNat = 384 + x by omega, t2]
    have hof : Mo_of (bst μ b B) (zI (192 + (x : Int))) = some (zI (A0.1 1 x)) := by rw [m_of hb B (by omega) (by omega), show (192 + (x : Int)).toNat = 192 + x by omega, t1]
    have hoo : Mo_orderOf (bst μ b B) (zI (x : Int)) = some (zI (A0.1 0 x - 1)) := by
      unfold Mo_orderOf; rw [m_of0 hb hx192, bp_some, t0, zI_lit, zI_sub]
    have hnm := nMap_snoc A0 r pre x
    have hnle : nMap A0 r pre ≤ pre.length := by unfold nMap; exact List.length_filter_le _ _
    have hl2 : thr A0 q0 t = (pre ++ [x]) ++ q := by rw [hl]; simp
    have hcase := thr_cases h0 ht1 ht2 hq hqa hqS (x := x) (by rw [hl]; simp)
    rw [Mo_mapped_165]
    have hstep : (zI (pre.length : Int)) + zI 1 = zI ((pre ++ [x]).length : Int) := by rw [zI_add]; simp
    simp (disch := omega) only [e30, zI_le, if_neg, zI_inb, if_pos, zI_ix, Int.toNat_natCast, hlx, bnd_ap, zI_lit, zI_add, hor, bp_some, hand.1]
    by_cases hz : la (A0.1 2 x) r = 0
    · have hA : aMap A0 t r q0 e0 (pre ++ [x]) = aMap A0 t r q0 e0 pre := by rw [aMap_snoc]; unfold mstep; rw [if_pos hz]
      obtain ⟨B', f1, f2, f3, f4⟩ := ih (pre ++ [x]) c B dep' hl2 (by simp at hk; omega) (by rw [aMap_snoc]; exact hI') (by rw [hA]; exact hM) (fun j hj => by rw [wB_snoc, if_pos hz]; exact hB j hj)
      refine ⟨B', ?_, f2, f3, f4⟩
      rw [hz, if_pos rfl, ← f1, hnm, if_pos hz]
      unfold Mo_mapped_313
      rw [bnd_ap, zI_lit, hstep]
      rfl
    · have hA : aMap A0 t r q0 e0 (pre ++ [x]) = aAdd (aMap A0 t r q0 e0 pre) (e0 + moff A0 t q0 x) (mo A0 t x) (mfr A0 t q0 x) (la (A0.1 2 x) r) ((x : Int) + 1) 0 := by rw [aMap_snoc]; unfold mstep; rw [if_neg hz]
      obtain ⟨-, hnl⟩ := AddOk_WF (a := 0) hI.1 hok (by omega) (by omega)
      obtain ⟨m1, m2, m3⟩ := mr_add (a := 0) (f := mfr A0 t q0 x) (r := la (A0.1 2 x) r) (g := (x : Int) + 1) hM (WF_KW hI.1) hok.1 hnl hok.2.1 (.inr ⟨x, rfl, hxl⟩)
      have hcom := m_comes hb B (d := e0 + moff A0 t q0 x) (o := mo A0 t x) (f := mfr A0 t q0 x) (r := la (A0.1 2 x) r) (g := (x : Int) + 1) (a := 0) hok.1 (by have := hok.2.1; omega) hok.2.2.1 (by omega) (by omega) m3
      rw [show (x : Int) + 1 - 1 = (x : Int) by omega] at hcom
      obtain ⟨B', f1, f2, f3, f4⟩ := ih (pre ++ [x]) c _ dep' hl2 (by simp at hk; omega) (by rw [aMap_snoc]; exact hI') (by rw [hA]; exact m1) (fun j hj => by rw [wB_snoc, if_neg hz, m2 j hj, hB j hj])
      refine ⟨B', ?_, f2, f3, f4⟩
      rw [← f1, hnm, if_neg hz]
      have h313 : ∀ s, Mo_mapped_313 (Mo_mapped_165 c) (zI (st : Int)) (zI (p1 : Int)) (zI r) (zI (t - 1)) (zI (p : Int)) (zI ((nMap A0 r pre : Int) + 1)) (zI (pre.length : Int)) s = Mo_mapped_165 c (zI (st : Int)) (zI (p1 : Int)) (zI r) (zI (t - 1)) (zI (p : Int)) (zI ((nMap A0 r pre + 1 : Nat) : Int)) (zI ((pre ++ [x]).length : Int)) s := fun s => by
        unfold Mo_mapped_313; rw [bnd_ap, zI_lit, hstep]; rfl
      have hE2 : 32 * (st : Int) + (p1 : Int) = (e0 : Int) := by omega
      have hmod : (x : Int) - (x : Int) / 32 * 32 = ((x % 32 : Nat) : Int) := by omega
      rcases hcase with ⟨c1, c2, c3, c4⟩ | ⟨c1, c2, c3, c4⟩
      · have em : mo A0 t x = t := if_pos c1
        have eo : moff A0 t q0 x = 0 := if_pos c1
        have ef : mfr A0 t q0 x = A0.1 1 x + ((q0 : Int) - (x : Int)) := by unfold mfr; rw [if_pos c1]
        rw [em, eo, ef] at hcom ⊢
        have hfx : A0.1 1 x + ((p : Int) - ((x % 32 : Nat) : Int)) = A0.1 1 x + ((q0 : Int) - (x : Int)) := by omega
        have hdx : (e0 : Int) + 0 = ((e0 + 0 : Nat) : Int) := by omega
        simp (disch := omega) only [zI_eq, if_neg, hoo, bp_some, zI_le, Mo_mapped_222, Mo_mapped_241, Mo_mapped_270, Mo_mapped_300, bnd_ap, zI_lit, zI_add, hof, if_pos, zI_div, zI_mul, zI_sub, hmod, hE2, hfx, hdx, hcom, bd_some]
        exact h313 _
      · have em : mo A0 t x = A0.1 0 x := if_neg c1
        have eo : moff A0 t q0 x = x - q0 := if_neg c1
        have ef : mfr A0 t q0 x = A0.1 1 x := by unfold mfr; rw [if_neg c1]; omega
        rw [em, eo, ef] at hcom ⊢
        have hfx : A0.1 1 x + 0 = A0.1 1 x := by omega
        have hdx : (e0 : Int) + (((x % 32 : Nat) : Int) - (p : Int)) = ((e0 + (x - q0) : Nat) : Int) := by
          have := h0.2.2.2.1 x hx0; have hpx := pgs_pos h0 hx0; omega
        simp (disch := omega) only [zI_eq, if_neg, if_true, hoo, bp_some, zI_le, Mo_mapped_222, Mo_mapped_241, Mo_mapped_270, Mo_mapped_300, bnd_ap, zI_lit, zI_add, hof, if_pos, zI_div, zI_mul, zI_sub, hmod, hE2, hfx, hdx, hcom, bd_some]
        exact h313 _
