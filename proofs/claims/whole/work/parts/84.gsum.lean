/-! ===== pages of a region, over what is seen in it ===== -/
def pC (A : Ab) (q k : Nat) : Bool := (cov A (q + k)).isSome
def sG (A : Ab) (t : Int) (l : List Nat) : Nat := (l.map (fun x => pg (mo A t x))).sum
theorem sG_snoc (A : Ab) (t : Int) (l : List Nat) (x : Nat) : sG A t (l ++ [x]) = sG A t l + pg (mo A t x) := by unfold sG; simp
theorem pC_run {n S : Nat} {A : Ab} {dep : Nat → Nat} (h : WF n S A dep) {q d i : Nat} (hd : Lv A d) (h1 : d ≤ q + i) : ∀ w, q + i + w ≤ d + pgs A d → fb_ct (pC A q) (i + w) = fb_ct (pC A q) i + w := by
  intro w
  induction w with
  | zero => intro _; simp
  | succ w ih =>
    intro hw
    have e : fb_ct (pC A q) (i + (w + 1)) = fb_ct (pC A q) (i + w) + (if pC A q (i + w) then 1 else 0) := rfl
    have hc : cov A (q + (i + w)) = some d := cs_of (WF_WS h) hd (by omega) (by omega)
    have hp : pC A q (i + w) = true := by unfold pC; rw [hc]; rfl
    rw [e, ih (by omega), hp]
    simp; omega
theorem pC_sum {n S : Nat} {A : Ab} {dep : Nat → Nat} (h : WF n S A dep) {q : Nat} {t : Int} (ht1 : 1 ≤ t) (ht2 : t ≤ 4) (hq : q < 192) (hal : q % pg t = 0) (hS : q % 32 + pg t ≤ S) : fb_ct (pC A q) (pg t) = sG A t (thr A q t) := by
  have hWS := WF_WS h
  have hpt := pg_pos ht1 ht2
  have hS32 := h.2.1
  by_cases hsm : ∀ d, cov A q = some d → ¬ t < A.1 0 d
  · have hthr : thr A q t = stL A q (pg t) := by
      unfold thr
      cases hc : cov A q with
      | none => rfl
      | some d => dsimp only; rw [if_neg (hsm d hc)]
    have key : ∀ (m i : Nat), pg t ≤ i + m → i ≤ pg t → (∀ d, i < pg t → cov A (q + i) = some d → d = q + i) → fb_ct (pC A q) i = sG A t (stL A q i) → fb_ct (pC A q) (pg t) = sG A t (stL A q (pg t)) := by
      intro m
      induction m with
      | zero => intro i h1 h2 _ he; have : i = pg t := by omega
                subst this; exact he
      | succ m ih =>
        intro i h1 h2 hbd he
        by_cases hlt : i = pg t
        · subst hlt; exact he
        · cases hc : cov A (q + i) with
          | none =>
            have hnl : ¬ 0 < A.1 0 (q + i) := fun z => by
              rw [cs_self hWS (d := q + i) ⟨by omega, z⟩] at hc; cases hc
            refine ih (i + 1) (by omega) (by omega) (fun d hd1 hd2 => ?_) ?_
            · obtain ⟨a1, a2, a3⟩ := cs_some (by omega) hd2
              by_cases z : d ≤ q + i
              · rw [cs_of hWS a1 z (by omega)] at hc; cases hc
              · omega
            · have e : fb_ct (pC A q) (i + 1) = fb_ct (pC A q) i + (if pC A q i then 1 else 0) := rfl
              have hp : pC A q i = false := by unfold pC; rw [hc]; rfl
              rw [e, hp, stL_succ, if_neg hnl, he]; simp
          | some d =>
            have hdq := hbd d (by omega) hc
            subst hdq
            have hd0 := (cs_some (by omega) hc).1
            have hmemd : (q + i) ∈ thr A q t := by rw [hthr, stL_mem]; exact ⟨by omega, by omega, hd0.2⟩
            have hpd := pgs_pos h hd0
            have hsmall : ¬ t < A.1 0 (q + i) ∧ i + pgs A (q + i) ≤ pg t := by
              rcases thr_cases h ht1 ht2 hq hal hS hmemd with ⟨c1, c2, c3, c4⟩ | ⟨c1, c2, c3, c4⟩
              · have : i = 0 := by omega
                subst this
                exact absurd c1 (hsm _ (by rw [show q + 0 = q by omega] at hc; exact hc))
              · exact ⟨c1, by omega⟩
            refine ih (i + pgs A (q + i)) (by omega) hsmall.2 (fun d hd1 hd2 => ?_) ?_
            · obtain ⟨z1, z2, z3⟩ := cs_some (by omega) hd2
              by_cases z : d = q + i
              · subst z; omega
              · have := h.2.2.2.2.2.2.1 (q + i) d hd0 z1 (Ne.symm z); omega
            · rw [pC_run h hd0 (Nat.le_refl _) (pgs A (q + i)) (Nat.le_refl _), stL_add, stL_own h hd0, sG_snoc, he]
              have : pg (mo A t (q + i)) = pgs A (q + i) := by unfold mo pgs; rw [if_neg hsmall.1]
              rw [this]
    rw [hthr]
    exact key (pg t) 0 (by omega) (by omega) (fun d _ hd => (big_cov h ht1 ht2 hq hal hd).2 (hsm d hd)) rfl
  · have hsm' : ∃ d, cov A q = some d ∧ t < A.1 0 d := by
      refine Classical.byContradiction fun hn => hsm fun d hd hlt => hn ⟨d, hd, hlt⟩
    obtain ⟨d, hc, hlt⟩ := hsm'
    have hthr : thr A q t = [] ++ [d] := by unfold thr; rw [hc]; dsimp only; rw [if_pos hlt]; rfl
    obtain ⟨a1, a2, a3⟩ := cs_some hq hc
    have hb := (big_cov h ht1 ht2 hq hal hc).1 hlt
    have := pC_run h (q := q) (i := 0) a1 (by omega) (pg t) (by omega)
    rw [Nat.zero_add] at this
    rw [this, hthr, sG_snoc]
    have : mo A t d = t := if_pos hlt
    rw [this]; rfl
theorem sG_pgc {n S : Nat} {A : Ab} {dep : Nat → Nat} (h : WF n S A dep) {q : Nat} {t : Int} (ht1 : 1 ≤ t) (ht2 : t ≤ 4) (hq : q < 192) (hal : q % pg t = 0) (hS : q % 32 + pg t ≤ S) : sG A t (thr A q t) = pgc A q (pg t) := (pC_sum h ht1 ht2 hq hal hS).symm
/-! ===== what handing on keeps ===== -/
theorem WD_add {A : Ab} {B B' : Nat → Int} {e : Nat} {o f r g a : Int} (hw : WD B A) (h1 : 1 < o → B' (wdc e) = 1) (h2 : ∀ k, B k = 1 → B' k = 1) : WD B' (aAdd A e o f r g a) := by
  intro x hx hx1
  by_cases z : x = e
  · subst z
    have : (aAdd A x o f r g a).1 0 x = o := by show (if x = x then (if (0 : Nat) = 0 then o else _) else _) = o; rw [if_pos rfl, if_pos rfl]
    rw [this] at hx1
    exact h1 hx1
  · have : (aAdd A e o f r g a).1 0 x = A.1 0 x := if_neg z
    have hx2 := hx.2
    rw [this] at hx1 hx2
    exact h2 _ (hw x ⟨hx.1, hx2⟩ hx1)
theorem WD_map {A0 : Ab} {B : Nat → Int} {t r : Int} {q0 e0 : Nat} (hw : WD B A0) : ∀ (m : Nat) (l : List Nat), l.length = m → WD (wB A0 t r q0 e0 l B) (aMap A0 t r q0 e0 l) := by
  intro m
  induction m with
  | zero => intro l hl; have := List.length_eq_zero_iff.mp hl; subst this; rw [wB_nil]; exact hw
  | succ m ih =>
    intro l hl
    obtain ⟨pre, x, rfl⟩ : ∃ pre x, l = pre ++ [x] := ⟨l.dropLast, l.getLast (by intro z; subst z; simp at hl), (List.dropLast_concat_getLast _).symm⟩
    have hi := ih pre (by simp at hl; omega)
    rw [aMap_snoc]
    unfold mstep
    by_cases hz : la (A0.1 2 x) r = 0
    · rw [if_pos hz]
      intro y hy hy1
      rw [wB_snoc, if_pos hz]
      exact hi y hy hy1
    · rw [if_neg hz]
      refine WD_add hi (fun ho => ?_) (fun k hk => ?_)
      · rw [wB_snoc, if_neg hz, if_pos ⟨ho, rfl⟩]
      · rw [wB_snoc, if_neg hz]
        split
        · rfl
        · exact hk
theorem T9_map {n S : Nat} {A A' : Ab} {dep : Nat → Nat} {t r : Int} {q0 e0 : Nat} {pre : List Nat} (h9 : T9 A) (hI : MI n S A t q0 e0 A' dep pre) : T9 A' := fun x hx => by
  rcases hI.2.2 x hx with c | ⟨y, -, -, -, c, -⟩
  · rw [(hI.2.1 x c).2]; exact h9 x c
  · rw [c]; omega
