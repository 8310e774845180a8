/-! ===== what halving leaves as it was ===== -/
theorem hv_3u {n S : Nat} {A : Ab} {dep : Nat → Nat} (_hW : WF n S A dep) (d : Nat) : (aHalve A d).1 3 (d + hfA A d) = A.1 3 d := by
  show (if d + hfA A d = d + hfA A d then (if 3 = 0 then _ else if 3 = 1 then _ else if 10 ≤ 3 then 0 else A.1 3 d) else _) = _
  simp
theorem hv_9u {n S : Nat} {A : Ab} {dep : Nat → Nat} (_hW : WF n S A dep) (d : Nat) : (aHalve A d).1 9 (d + hfA A d) = A.1 9 d := by
  show (if d + hfA A d = d + hfA A d then (if 9 = 0 then _ else if 9 = 1 then _ else if 10 ≤ 9 then 0 else A.1 9 d) else _) = _
  simp
theorem hv_3 {n S : Nat} {A : Ab} {dep : Nat → Nat} (hW : WF n S A dep) {d : Nat} (hd : Lv A d) {x : Nat} (hx : Lv A x) (ho : 2 ≤ A.1 0 d) : (aHalve A d).1 3 x = if A.1 3 x = (d : Int) + 1 ∧ A.1 1 d + hfA A d ≤ A.1 1 x then ((d + hfA A d : Nat) : Int) + 1 else A.1 3 x := by
  have hu := hv_u hW hd ho
  have q1 : x ≠ d + hfA A d := fun e => hu.1 (e ▸ hx)
  show (if x = d + hfA A d then _ else if x = d then (if 3 = 0 then _ else A.1 3 d) else if 3 = 3 ∧ A.1 3 x = (d : Int) + 1 ∧ A.1 1 d + hfA A d ≤ A.1 1 x then ((d + hfA A d : Nat) : Int) + 1 else A.1 3 x) = _
  rw [if_neg q1]
  by_cases q2 : x = d
  · subst q2
    rw [if_pos rfl, if_neg (by decide), if_neg]
    intro z; have := gv_live hW hd z.1; omega
  · rw [if_neg q2]; simp
theorem bl_halve {n S : Nat} {A : Ab} {dep : Nat → Nat} (hW : WF n S A dep) {x : Nat} (hx : Lv A x) (ho : 2 ≤ A.1 0 x) (hk : ∀ y, y ∈ A.2 x → A.1 0 y < A.1 0 x) :
    (∀ t y, Lv A t → Lv A y → t ≠ x → bl (aHalve A x) t y = bl A t y) ∧ (∀ t, Lv A t → t ≠ x → bl (aHalve A x) t (x + hfA A x) = bl A t x) ∧ ∀ t y, (t = x ∨ t = x + hfA A x) → Lv A y → bl (aHalve A x) t y = true → bl A x y = true := by
  have hu := hv_u hW hx ho
  have hW' := WF_halve hW hx ho hk
  have hlu : Lv (aHalve A x) (x + hfA A x) := (hv_lv hW hx ho _).mpr (.inl rfl)
  have key : ∀ (k : Nat), (∀ t y, dep y ≤ k → Lv A t → Lv A y → t ≠ x → bl (aHalve A x) t y = bl A t y) ∧ (∀ t y, dep y ≤ k → (t = x ∨ t = x + hfA A x) → Lv A y → bl (aHalve A x) t y = true → bl A x y = true) ∧ (dep x ≤ k → ∀ t, Lv A t → t ≠ x → bl (aHalve A x) t (x + hfA A x) = bl A t x) ∧ (dep x ≤ k → bl (aHalve A x) x (x + hfA A x) = true → bl A x x = true) := by
    intro k
    induction k with
    | zero =>
      have hroot : ∀ y, dep y ≤ 0 → Lv A y → A.1 3 y = 0 ∧ (aHalve A x).1 3 y = 0 := fun y hy hl => by
        rcases gv_or hW hl with ⟨g1, -⟩ | ⟨g, g1, g2, g3⟩
        · exact ⟨g1, by rw [hv_3 hW hx hl ho, if_neg (by omega)]; exact g1⟩
        · omega
      refine ⟨fun t y hy ht hl hne => ?_, fun t y hy ht hl hb => ?_, fun hk0 t ht hne => ?_, fun _ _ => bl_self A x⟩
      · rw [bl_root (hroot y hy hl).1, bl_root (hroot y hy hl).2]
      · rw [bl_root (hroot y hy hl).2] at hb
        simp at hb; subst hb
        rcases ht with rfl | rfl
        · exact bl_self A y
        · exact absurd hl hu.1
      · have h0 := hroot x hk0 hx
        rw [bl_root (by rw [hv_3u hW]; exact h0.1), bl_root h0.1]
        have e1 : (x + hfA A x == t) = false := by simp; intro e; exact hu.1 (e ▸ ht)
        have e2 : (x == t) = false := by simp; exact fun e => hne e.symm
        rw [e1, e2]
    | succ k ih =>
      obtain ⟨i1, i2, i3, i4⟩ := ih
      have i3' : dep x ≤ k + 1 → ∀ t, Lv A t → t ≠ x → bl (aHalve A x) t (x + hfA A x) = bl A t x := fun hk0 t ht hne => by
        have e1 : (x + hfA A x == t) = false := by simp; intro e; exact hu.1 (e ▸ ht)
        have e2 : (x == t) = false := by simp; exact fun e => hne e.symm
        rcases gv_or hW hx with ⟨g1, -⟩ | ⟨g, g1, g2, g3⟩
        · rw [bl_root (by rw [hv_3u hW]; exact g1), bl_root g1, e1, e2]
        · rw [bl_step hW' t hlu (by rw [hv_3u hW]; exact g1), bl_step hW t hx g1, e1, e2, i1 t g (by omega) ht g2 hne]
      refine ⟨fun t y hy ht hl hne => ?_, fun t y hy ht hl hb => ?_, i3', fun _ _ => bl_self A x⟩
      · have hl' := (hv_lv hW hx ho y).mpr (.inr hl)
        rcases gv_or hW hl with ⟨g1, -⟩ | ⟨g, g1, g2, g3⟩
        · rw [bl_root g1, bl_root (by rw [hv_3 hW hx hl ho, if_neg (by omega)]; exact g1)]
        · by_cases hc : A.1 3 y = (x : Int) + 1 ∧ A.1 1 x + hfA A x ≤ A.1 1 y
          · have hgx : g = x := by omega
            subst hgx
            rw [bl_step hW' t hl' (g := g + hfA A g) (by rw [hv_3 hW hx hl ho, if_pos hc]), bl_step hW t hl g1, i3' (by omega) t ht hne]
          · rw [bl_step hW' t hl' (g := g) (by rw [hv_3 hW hx hl ho, if_neg hc]; exact g1), bl_step hW t hl g1, i1 t g (by omega) ht g2 hne]
      · have hl' := (hv_lv hW hx ho y).mpr (.inr hl)
        rcases gv_or hW hl with ⟨g1, -⟩ | ⟨g, g1, g2, g3⟩
        · rw [bl_root (by rw [hv_3 hW hx hl ho, if_neg (by omega)]; exact g1)] at hb
          simp at hb; subst hb
          rcases ht with rfl | rfl
          · exact bl_self A y
          · exact absurd hl hu.1
        · by_cases hc : A.1 3 y = (x : Int) + 1 ∧ A.1 1 x + hfA A x ≤ A.1 1 y
          · rw [bl_step hW x hl hc.1, bl_self]; simp
          · rw [bl_step hW' t hl' (g := g) (by rw [hv_3 hW hx hl ho, if_neg hc]; exact g1)] at hb
            simp at hb
            rcases hb with e | hb
            · subst e
              rcases ht with e | e
              · rw [e]; exact bl_self A x
              · exact absurd hl (e ▸ hu.1)
            · rw [bl_step hW x hl g1, i2 t g (by omega) ht g2 hb]; simp
  exact ⟨fun t y ht hy hne => (key (dep y)).1 t y (Nat.le_refl _) ht hy hne, fun t ht hne => (key (dep x)).2.2.1 (Nat.le_refl _) t ht hne, fun t y ht hy hb => (key (dep y)).2.1 t y (Nat.le_refl _) ht hy hb⟩
/-- no top in a deed and beneath it -/
def NTs (A : Ab) (d : Nat) : Prop := ∀ y, Lv A y → bl A d y = true → A.1 9 y = 0
/-- what a place has: frame, rights, age, whether its deed has no giver -/
def ctn (A : Ab) (q : Nat) : Option (Int × Int × Int × Bool) := (cov A q).map (fun d => (A.1 1 d + ((q : Int) - d), A.1 2 d, A.1 8 d, decide (A.1 3 d = 0)))
theorem cov_halve {n S : Nat} {A : Ab} {dep : Nat → Nat} (hW : WF n S A dep) {x : Nat} (hx : Lv A x) (ho : 2 ≤ A.1 0 x) (hk : ∀ y, y ∈ A.2 x → A.1 0 y < A.1 0 x) {q : Nat} (hq : q < 192) : cov (aHalve A x) q = if cov A q = some x then (if q < x + hfA A x then some x else some (x + hfA A x)) else cov A q := by
  have hu := hv_u hW hx ho
  have hW' := WF_WS (WF_halve hW hx ho hk)
  have hWS := WF_WS hW
  have hlu : Lv (aHalve A x) (x + hfA A x) := (hv_lv hW hx ho _).mpr (.inl rfl)
  have hlx : Lv (aHalve A x) x := (hv_lv hW hx ho _).mpr (.inr hx)
  have px : pgs (aHalve A x) x = hfA A x := by unfold pgs; rw [hv_0 hW hx ho, if_pos (.inr rfl)]; rfl
  have pu : pgs (aHalve A x) (x + hfA A x) = hfA A x := by unfold pgs; rw [hv_0 hW hx ho, if_pos (.inl rfl)]; rfl
  have pn : ∀ y, Lv A y → y ≠ x → pgs (aHalve A x) y = pgs A y := fun y hy hne => by
    unfold pgs; rw [hv_0 hW hx ho, if_neg]; rintro (e | e)
    · exact hu.1 (e ▸ hy)
    · exact hne e
  cases hc : cov A q with
  | none =>
    rw [if_neg (by simp)]
    cases hc' : cov (aHalve A x) q with
    | none => rfl
    | some e =>
      obtain ⟨c1, c2, c3⟩ := cs_some hq hc'
      have hcx := cs_none hWS hc hx
      rcases (hv_lv hW hx ho e).mp c1 with rfl | c4
      · rw [pu] at c3; omega
      · by_cases q2 : e = x
        · subst q2; rw [px] at c3; omega
        · rw [pn e c4 q2] at c3; have := cs_none hWS hc c4; omega
  | some e =>
    obtain ⟨c1, c2, c3⟩ := cs_some hq hc
    by_cases q2 : e = x
    · subst q2
      rw [if_pos rfl]
      by_cases q3 : q < e + hfA A e
      · rw [if_pos q3]; exact cs_of hW' hlx c2 (by rw [px]; exact q3)
      · rw [if_neg q3]; exact cs_of hW' hlu (by omega) (by rw [pu]; omega)
    · rw [if_neg (by simpa using q2)]
      exact cs_of hW' ((hv_lv hW hx ho e).mpr (.inr c1)) c2 (by rw [pn e c1 q2]; exact c3)
theorem ctn_halve {n S : Nat} {A : Ab} {dep : Nat → Nat} (hW : WF n S A dep) {x : Nat} (hx : Lv A x) (ho : 2 ≤ A.1 0 x) (hk : ∀ y, y ∈ A.2 x → A.1 0 y < A.1 0 x) {q : Nat} (hq : q < 192) : ctn (aHalve A x) q = ctn A q := by
  have hu := hv_u hW hx ho
  unfold ctn
  rw [cov_halve hW hx ho hk hq]
  have r3 : ∀ y, Lv A y → decide ((aHalve A x).1 3 y = 0) = decide (A.1 3 y = 0) := fun y hy => by
    rw [decide_eq_decide, hv_3 hW hx hy ho]; split
    · rename_i z; constructor <;> intro w <;> omega
    · exact Iff.rfl
  by_cases hc : cov A q = some x
  · rw [if_pos hc, hc]
    by_cases q3 : q < x + hfA A x
    · rw [if_pos q3]
      simp only [Option.map_some]
      rw [hv_n hW hx ho (by omega) (by decide) (by decide), hv_n hW hx ho (by omega) (by decide) (by decide), hv_n hW hx ho (by omega) (by decide) (by decide), r3 x hx]
    · rw [if_neg q3]
      simp only [Option.map_some]
      have e1 : (aHalve A x).1 1 (x + hfA A x) = A.1 1 x + hfA A x := by simp [aHalve]
      have e2 : (aHalve A x).1 2 (x + hfA A x) = A.1 2 x := by simp [aHalve]
      have e8 : (aHalve A x).1 8 (x + hfA A x) = A.1 8 x := by simp [aHalve]
      rw [e1, e2, e8, hv_3u hW, show A.1 1 x + (hfA A x : Int) + ((q : Int) - ((x + hfA A x : Nat) : Int)) = A.1 1 x + ((q : Int) - (x : Int)) by omega]
  · rw [if_neg hc]
    cases hc2 : cov A q with
    | none => rfl
    | some e =>
      obtain ⟨c1, c2, c3⟩ := cs_some hq hc2
      have q1 : e ≠ x + hfA A x := fun z => hu.1 (z ▸ c1)
      simp only [Option.map_some]
      rw [hv_n hW hx ho q1 (by decide) (by decide), hv_n hW hx ho q1 (by decide) (by decide), hv_n hW hx ho q1 (by decide) (by decide), r3 e c1]
