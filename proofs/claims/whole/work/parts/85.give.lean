/-! ===== giving away: the deeds of a region go over, one after another ===== -/
def aGiv (q e : Nat) (A : Ab) (l : List Nat) : Ab := l.foldl (fun A x => aMove A x (e + (x - q))) A
theorem aGiv_snoc (q e : Nat) (A : Ab) (l : List Nat) (x : Nat) : aGiv q e A (l ++ [x]) = aMove (aGiv q e A l) x (e + (x - q)) := by unfold aGiv; simp
theorem aMove_0 (A : Ab) (d e x : Nat) : (aMove A d e).1 0 x = if x = e then A.1 0 d else if x = d then 0 else A.1 0 x := by
  show (if x = e then A.1 0 d else if x = d then (if (0 : Nat) = 0 then 0 else A.1 0 d) else if (0 : Nat) = 3 ∧ A.1 3 x = (d : Int) + 1 then (e : Int) + 1 else A.1 0 x) = _
  rw [if_pos rfl, if_neg (show ¬ ((0 : Nat) = 3 ∧ A.1 3 x = (d : Int) + 1) from fun c => absurd c.1 (by decide))]
def GP (n S : Nat) (A : Ab) (dep : Nat → Nat) (t : Int) (q e : Nat) : Prop :=
  WF n S A dep ∧ 1 ≤ t ∧ t ≤ 4 ∧ q < 192 ∧ q % pg t = 0 ∧ q % 32 + pg t ≤ S ∧ e < 192 ∧ e % pg t = 0 ∧ e / 32 < n ∧ e % 32 + pg t ≤ S ∧ e / 32 ≠ q / 32 ∧ (∀ k, k < pg t → cov A (e + k) = none) ∧ ∀ d, cov A q = some d → ¬ t < A.1 0 d
def GI (n S : Nat) (A1 : Ab) (q e : Nat) (A : Ab) (dep : Nat → Nat) (pre : List Nat) : Prop :=
  WF n S A dep ∧ (∀ y, Lv A1 y → y ∉ pre → Lv A y ∧ A.1 0 y = A1.1 0 y) ∧ ∀ y, Lv A y → (Lv A1 y ∧ y ∉ pre ∧ A.1 0 y = A1.1 0 y) ∨ ∃ x, x ∈ pre ∧ y = e + (x - q) ∧ A.1 0 y = A1.1 0 x
theorem GP_thr {n S : Nat} {A : Ab} {dep : Nat → Nat} {t : Int} {q e : Nat} (h : GP n S A dep t q e) : thr A q t = stL A q (pg t) := by
  obtain ⟨h0, h1, h2, h3, h4, h5, h6, h7, h8, h9, h10, h11, h12⟩ := h
  unfold thr
  cases hc : cov A q with
  | none => rfl
  | some d => dsimp only; rw [if_neg (h12 d hc)]
theorem GP_mem {n S : Nat} {A : Ab} {dep : Nat → Nat} {t : Int} {q e : Nat} (h : GP n S A dep t q e) {x : Nat} (hx : x ∈ stL A q (pg t)) : Lv A x ∧ q ≤ x ∧ x + pgs A x ≤ q + pg t ∧ A.1 0 x ≤ t := by
  have hthr := GP_thr h
  obtain ⟨h0, h1, h2, h3, h4, h5, h6, h7, h8, h9, h10, h11, h12⟩ := h
  have hS := h0.2.1
  obtain ⟨m1, m2, m3⟩ := stL_mem.mp hx
  have hl : Lv A x := ⟨by omega, m3⟩
  rcases thr_cases h0 h1 h2 h3 h4 h5 (x := x) (by rw [hthr]; exact hx) with ⟨c1, c2, c3, c4⟩ | ⟨c1, c2, c3, c4⟩
  · exfalso
    have : x = q := by omega
    subst this
    exact h12 x (cs_self (WF_WS h0) hl) c1
  · exact ⟨hl, c2, c3, by omega⟩
theorem GI_start {n S : Nat} {A : Ab} {dep : Nat → Nat} {t : Int} {q e : Nat} (h : GP n S A dep t q e) : GI n S A q e A dep [] := ⟨h.1, fun y hy _ => ⟨hy, rfl⟩, fun y hy => .inl ⟨hy, by simp, rfl⟩⟩
theorem GI_step {n S : Nat} {A1 A : Ab} {dep1 dep : Nat → Nat} {t : Int} {q e : Nat} (hP : GP n S A1 dep1 t q e) {pre post : List Nat} {x : Nat} (hl : stL A1 q (pg t) = pre ++ x :: post) (hI : GI n S A1 q e A dep pre) :
    Lv A x ∧ A.1 0 x = A1.1 0 x ∧ e + (x - q) < 192 ∧ (e + (x - q)) % pgs A x = 0 ∧ (e + (x - q)) / 32 < n ∧ (e + (x - q)) % 32 + pgs A x ≤ S ∧ (∀ y, Lv A y → y + pgs A y ≤ e + (x - q) ∨ e + (x - q) + pgs A x ≤ y) ∧ ∃ dep', GI n S A1 q e (aMove A x (e + (x - q))) dep' (pre ++ [x]) := by
  have hmem : ∀ y, y ∈ pre ++ [x] → y ∈ stL A1 q (pg t) := fun y hy => by rw [hl]; simp at hy ⊢; rcases hy with c | c; exact .inl c; exact .inr (.inl c)
  have hx := GP_mem hP (hmem x (by simp))
  have hnd := stL_nodup A1 q (pg t)
  rw [hl] at hnd
  have hxp : x ∉ pre := fun c => by
    have := (List.nodup_append.mp hnd).2.2 x c x (by simp); exact this rfl
  obtain ⟨hxl, hx0⟩ := hI.2.1 x hx.1 hxp
  have hpgx : pgs A x = pgs A1 x := by unfold pgs; rw [hx0]
  have hpre : ∀ y, y ∈ pre → Lv A1 y ∧ q ≤ y ∧ y + pgs A1 y ≤ q + pg t ∧ A1.1 0 y ≤ t := fun y hy => GP_mem hP (hmem y (by simp [hy]))
  obtain ⟨h0, h1, h2, h3, h4, h5, h6, h7, h8, h9, h10, h11, h12⟩ := hP
  have hS := h0.2.1
  have hpt := pg_pos h1 h2
  have hpx := pgs_pos h0 hx.1
  have hal0 := (h0.2.2.2.1 x hx.1).2.1
  have hal : (e + (x - q)) % pgs A1 x = 0 := by
    have hx4 := hx.2.2.2
    have hx1 := hx.1.2
    rcases pgs_cases h0 hx.1 with ⟨a, b⟩ | ⟨a, b⟩ | ⟨a, b⟩ | ⟨a, b⟩ <;> rcases pg_cases h1 h2 with ⟨c, d⟩ | ⟨c, d⟩ | ⟨c, d⟩ | ⟨c, d⟩ <;> rw [b] at hal0 ⊢ <;> rw [d] at h4 h7 <;> omega
  have hdis : ∀ y z, Lv A1 y → Lv A1 z → y ≠ z → y + pgs A1 y ≤ z ∨ z + pgs A1 z ≤ y := fun y z hy hz hne => by
    have := h0.2.2.2.2.2.2.1 y z hy hz hne; omega
  have hfree : ∀ y, Lv A y → y + pgs A y ≤ e + (x - q) ∨ e + (x - q) + pgs A x ≤ y := fun y hy => by
    rcases hI.2.2 y hy with ⟨c1, c2, c3⟩ | ⟨z, c1, c2, c3⟩
    · have hpy : pgs A y = pgs A1 y := by unfold pgs; rw [c3]
      rw [hpgx, hpy]
      refine Classical.byContradiction fun hn => ?_
      have hov : ∃ k, k < pg t ∧ y ≤ e + k ∧ e + k < y + pgs A1 y := by
        by_cases u : y ≤ e + (x - q)
        · exact ⟨x - q, by omega, u, by omega⟩
        · exact ⟨y - e, by omega, by omega, by have := pgs_pos h0 c1; omega⟩
      obtain ⟨k, k1, k2, k3⟩ := hov
      have := h11 k k1
      rw [cs_of (WF_WS h0) c1 k2 k3] at this
      cases this
    · have hz := hpre z c1
      have hpy : pgs A y = pgs A1 z := by unfold pgs; rw [c3]
      have hzx : z ≠ x := fun c => hxp (c ▸ c1)
      have := hdis z x hz.1 hx.1 hzx
      rw [hpgx, hpy, c2]
      omega
  have hne : x ≠ e + (x - q) := by omega
  have hnx : ∀ y, y ∈ pre → y ≠ e + (x - q) := fun y hy => by have := hpre y hy; have := pgs_pos h0 this.1; omega
  have hL : ∀ y, Lv A1 y → y ≠ e + (x - q) := fun y hy c => by
    have := h11 (x - q) (by omega)
    rw [← c, cs_self (WF_WS h0) hy] at this
    cases this
  refine ⟨hxl, hx0, by omega, by rw [hpgx]; exact hal, by omega, by rw [hpgx]; omega, hfree, _, WF_move hI.1 hxl (by omega) (by rw [hpgx]; exact hal) (by omega) (by rw [hpgx]; omega) hfree, fun y hy hyp => ?_, fun y hy => ?_⟩
  · simp at hyp
    obtain ⟨g1, g2⟩ := hI.2.1 y hy hyp.1
    have e0 : (aMove A x (e + (x - q))).1 0 y = A.1 0 y := by rw [aMove_0, if_neg (hL y hy), if_neg hyp.2]
    exact ⟨⟨hy.1, by rw [e0]; exact g1.2⟩, by rw [e0, g2]⟩
  · have hy2 := hy.2
    rw [aMove_0] at hy2 ⊢
    by_cases u : y = e + (x - q)
    · rw [if_pos u]
      exact .inr ⟨x, by simp, u, hx0⟩
    · rw [if_neg u] at hy2 ⊢
      by_cases v : y = x
      · rw [if_pos v] at hy2; omega
      · rw [if_neg v] at hy2 ⊢
        rcases hI.2.2 y ⟨hy.1, hy2⟩ with ⟨c1, c2, c3⟩ | ⟨z, c1, c2, c3⟩
        · exact .inl ⟨c1, by simp; exact ⟨c2, v⟩, c3⟩
        · exact .inr ⟨z, by simp [c1], c2, c3⟩
