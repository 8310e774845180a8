/-! ===== two halves are joined; a: the age then ===== -/
def aJoin (A : Ab) (d u : Nat) (a : Int) : Ab :=
  (fun j x => if x = u ∧ j = 0 then 0 else if x = d ∧ j = 0 then A.1 0 d + 1 else if x = d ∧ j = 8 then a else if j = 3 ∧ A.1 3 x = (u : Int) + 1 then (d : Int) + 1 else A.1 j x,
   fun x => if x = d then A.2 d ++ A.2 u else if A.1 3 d = (x : Int) + 1 then (A.2 x).filter (fun y => decide (y ≠ u)) else A.2 x)
theorem WF_join {n S : Nat} {A : Ab} {dep : Nat → Nat} (h : WF n S A dep) {d u : Nat} {a : Int} (hd : Lv A d) (hl : Lv A u) (hu : u = d + pgs A d) (ho : A.1 0 u = A.1 0 d) (ho3 : A.1 0 d ≤ 3) (hal : d % (2 * pgs A d) = 0) (hfa : A.1 1 d % (2 * (pgs A d : Int)) = 0) (hfu : A.1 1 u = A.1 1 d + pgs A d) (hg : A.1 3 u = A.1 3 d) (ha1 : 0 ≤ a) (ha2 : a ≤ 1266679808) :
    WF n S (aJoin A d u a) dep := by
  have hpd := pgs_pos h hd
  have hpu : pgs A u = pgs A d := by unfold pgs; rw [ho]
  have hdu : d ≠ u := by omega
  have eu : (aJoin A d u a).1 0 u = 0 := by simp [aJoin]
  have ed0 : (aJoin A d u a).1 0 d = A.1 0 d + 1 := by simp [aJoin, hdu]
  have ed8 : (aJoin A d u a).1 8 d = a := by simp [aJoin]
  have en : ∀ j x, x ≠ u → x ≠ d → j ≠ 3 → (aJoin A d u a).1 j x = A.1 j x := fun j x h1 h2 h3 => by
    simp [aJoin, h1, h2, h3]
  have en12 : ∀ j x, j = 1 ∨ j = 2 → (aJoin A d u a).1 j x = A.1 j x := fun j x h1 => by
    rcases h1 with rfl | rfl <;> simp [aJoin]
  have en3 : ∀ x, (aJoin A d u a).1 3 x = if A.1 3 x = (u : Int) + 1 then (d : Int) + 1 else A.1 3 x := fun x => by
    simp [aJoin]
  have kd' : (aJoin A d u a).2 d = A.2 d ++ A.2 u := by simp [aJoin]
  have kn : ∀ x, x ≠ d → (aJoin A d u a).2 x = if A.1 3 d = (x : Int) + 1 then (A.2 x).filter (fun y => decide (y ≠ u)) else A.2 x := fun x h1 => by
    simp [aJoin, h1]
  have hpc := pgs_cases h hd
  have pd : pgs (aJoin A d u a) d = 2 * pgs A d ∧ (pgs A d = 1 ∨ pgs A d = 2 ∨ pgs A d = 4) := by
    have e : pgs (aJoin A d u a) d = pg (A.1 0 d + 1) := by unfold pgs; rw [ed0]
    rw [e]
    rcases hpc with ⟨c1, c2⟩ | ⟨c1, c2⟩ | ⟨c1, c2⟩ | ⟨c1, c2⟩
    · rw [c1, c2]; exact ⟨by decide, by decide⟩
    · rw [c1, c2]; exact ⟨by decide, by decide⟩
    · rw [c1, c2]; exact ⟨by decide, by decide⟩
    · omega
  have pn : ∀ x, x ≠ u → x ≠ d → pgs (aJoin A d u a) x = pgs A x := fun x h1 h2 => by unfold pgs; rw [en 0 x h1 h2 (by decide)]
  have ld : Lv (aJoin A d u a) d := ⟨hd.1, by rw [ed0]; have := hd.2; omega⟩
  have el : ∀ x, Lv (aJoin A d u a) x → x = d ∨ (x ≠ u ∧ x ≠ d ∧ Lv A x) := fun x hx => by
    by_cases q : x = u
    · subst q; have := hx.2; rw [eu] at this; omega
    · by_cases q2 : x = d
      · exact .inl q2
      · refine .inr ⟨q, q2, hx.1, ?_⟩
        have := hx.2; rw [en 0 x q q2 (by decide)] at this; exact this
  have eln : ∀ x, Lv A x → x ≠ u → Lv (aJoin A d u a) x := fun x hx q => by
    by_cases q2 : x = d
    · subst q2; exact ld
    · exact ⟨hx.1, by rw [en 0 x q q2 (by decide)]; exact hx.2⟩
  have kid := fun {x y : Nat} => kid_ne (x := y) (d := x) h
  have hpg := fun {x : Nat} => pgs_cases (d := x) h
  have hdep : dep u = dep d := by
    rcases gv_or h hd with ⟨g1, g2⟩ | ⟨g, g1, g2, g3⟩
    · rw [g2]; exact gv_0 h hl (by omega)
    · have := gv_live h hl (g := g) (by omega); omega
  generalize hA : aJoin A d u a = A' at *
  obtain ⟨h1, h2, h3, h4, h5, h6, h7, h8⟩ := h
  refine ⟨h1, h2, h3, ?_, ?_, ?_, ?_, ?_⟩
  · intro x hx
    rcases el x hx with rfl | ⟨q1, q2, hx1⟩
    · unfold WFa
      rw [pd.1, ed0, ed8, en12 1 x (.inl rfl), en12 2 x (.inr rfl)]
      obtain ⟨a1, a2, a3, a4, a5, a6, a7, a8, a9, a10, a11⟩ := h4 x hd
      obtain ⟨b1, b2, b3, b4, b5, b6, b7, b8, b9, b10, b11⟩ := h4 u hl
      rw [hpu] at b4 b7
      exact ⟨by omega, hal, a3, by rcases pd.2 with e | e | e <;> rw [e] at hal hu b4 ⊢ <;> omega, a5, by exact_mod_cast hfa, by push_cast; omega, a8, a9, ha1, ha2⟩
    · unfold WFa
      rw [pn x q1 q2, en 0 x q1 q2 (by decide), en 8 x q1 q2 (by decide), en12 1 x (.inl rfl), en12 2 x (.inr rfl)]
      exact h4 x hx1
  · intro x hx
    rcases el x hx with rfl | ⟨q1, q2, hx1⟩
    · unfold WFg
      rw [pd.1, en3, ed0, en12 1 x (.inl rfl)]
      rcases h5 x hd with ⟨g1, g2⟩ | ⟨g, g1, g2, g3, g4, g5, g6, g7⟩
      · left; rw [if_neg (by omega)]; exact ⟨g1, g2⟩
      · right
        have qd : g ≠ x := fun q => by subst q; omega
        have qu : g ≠ u := fun q => by subst q; omega
        rw [if_neg (by omega)]
        rcases h5 u hl with ⟨k1, k2⟩ | ⟨g', k1, k2, k3, k4, k5, k6, k7⟩
        · omega
        · have : g' = g := by omega
          subst this
          refine ⟨g', g1, eln g' g2 qu, ?_, g4, ?_, ?_, ?_⟩
          · rw [kn g' qd, if_pos g1, List.mem_filter]; exact ⟨g3, by simpa using hdu⟩
          · rw [en 0 g' qu qd (by decide)]
            rcases hpc with ⟨c1, c2⟩ | ⟨c1, c2⟩ | ⟨c1, c2⟩ | ⟨c1, c2⟩ <;> rcases hpg g2 with ⟨e1, e2⟩ | ⟨e1, e2⟩ | ⟨e1, e2⟩ | ⟨e1, e2⟩ <;> omega
          · rw [en12 1 g' (.inl rfl)]; exact g6
          · rw [en12 1 g' (.inl rfl), pn g' qu qd]; push_cast; omega
    · unfold WFg
      rw [pn x q1 q2, en3, en 0 x q1 q2 (by decide), en12 1 x (.inl rfl)]
      rcases h5 x hx1 with ⟨g1, g2⟩ | ⟨g, g1, g2, g3, g4, g5, g6, g7⟩
      · left; rw [if_neg (by omega)]; exact ⟨g1, g2⟩
      · right
        by_cases gu : g = u
        · subst gu
          rw [if_pos g1]
          refine ⟨d, rfl, ld, by rw [kd']; exact List.mem_append_right _ g3, by omega, by rw [ed0]; omega, by rw [en12 1 d (.inl rfl)]; omega, by rw [en12 1 d (.inl rfl), pd.1]; push_cast; omega⟩
        · rw [if_neg (by omega)]
          by_cases gd : g = d
          · subst gd
            refine ⟨g, g1, ld, by rw [kd']; exact List.mem_append_left _ g3, g4, by rw [ed0]; omega, by rw [en12 1 g (.inl rfl)]; omega, by rw [en12 1 g (.inl rfl), pd.1]; push_cast; omega⟩
          · refine ⟨g, g1, eln g g2 gu, ?_, g4, by rw [en 0 g gu gd (by decide)]; exact g5, by rw [en12 1 g (.inl rfl)]; exact g6, by rw [en12 1 g (.inl rfl), pn g gu gd]; exact g7⟩
            rw [kn g gd]; split
            · rw [List.mem_filter]; exact ⟨g3, by simpa using q1⟩
            · exact g3
  · intro x hx
    rcases el x hx with rfl | ⟨q1, q2, hx1⟩
    · unfold WFk; rw [kd']
      refine ⟨List.nodup_append.mpr ⟨(h6 x hd).1, (h6 u hl).1, fun y hy z hz e => ?_⟩, fun y hy => ?_⟩
      · subst e
        have k1 := (kid hd hy).2.1
        have k2 := (kid hl hz).2.1
        omega
      · rcases List.mem_append.mp hy with hy | hy
        · obtain ⟨k1, k2, k3, k4⟩ := kid hd hy
          exact ⟨eln y k1 (fun q => by subst q; omega), by rw [en3, if_neg (by omega)]; exact k2⟩
        · obtain ⟨k1, k2, k3, k4⟩ := kid hl hy
          exact ⟨eln y k1 k3, by rw [en3, if_pos k2]⟩
    · have old : ∀ y, y ∈ A.2 x → y ≠ u → Lv A' y ∧ A'.1 3 y = (x : Int) + 1 := fun y hy hyd => by
        obtain ⟨k1, k2, k3, k4⟩ := kid hx1 hy
        exact ⟨eln y k1 hyd, by rw [en3, if_neg (by omega)]; exact k2⟩
      unfold WFk; rw [kn x q2]
      split
      · refine ⟨(h6 x hx1).1.filter _, fun y hy => ?_⟩
        rw [List.mem_filter] at hy
        exact old y hy.1 (by simpa using hy.2)
      · rename_i hne
        refine ⟨(h6 x hx1).1, fun y hy => old y hy (fun q => hne ?_)⟩
        subst q; have := (kid hx1 hy).2.1; omega
  · intro x y hx hy hxy
    have base : ∀ z, Lv A z → z ≠ d → z ≠ u → d + 2 * pgs A d ≤ z ∨ z + pgs A z ≤ d := fun z hz hzd hzu => by
      have := h7 d z hd hz (Ne.symm hzd)
      have := h7 u z hl hz (Ne.symm hzu)
      rw [hpu] at this
      have := h7 z d hz hd hzd
      omega
    rcases el x hx with rfl | ⟨q1, q2, hx1⟩ <;> rcases el y hy with rfl | ⟨r1, r2, hy1⟩
    · exact absurd rfl hxy
    · rw [pd.1, pn y r1 r2]; have := base y hy1 r2 r1; omega
    · rw [pd.1, pn x q1 q2]; have := base x hx1 q2 q1; omega
    · rw [pn x q1 q2, pn y r1 r2]; exact h7 x y hx1 hy1 hxy
  · intro x hx
    by_cases q1 : x = u
    · subst q1; rw [eu]; omega
    · by_cases q2 : x = d
      · subst q2; rw [ed0]; have := hd.2; omega
      · rw [en 0 x q1 q2 (by decide)]; exact h8 x hx
