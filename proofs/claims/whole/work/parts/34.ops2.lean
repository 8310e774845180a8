/-! ===== a deed is halved ===== -/
def insA (d u : Nat) (l : List Nat) : List Nat := l.flatMap (fun y => if y = d then [d, u] else [y])
theorem insA_mem {d u y : Nat} {l : List Nat} : y ∈ insA d u l ↔ y ∈ l ∨ (y = u ∧ d ∈ l) := by
  unfold insA
  rw [List.mem_flatMap]
  constructor
  · rintro ⟨z, hz, hy⟩
    split at hy
    · rename_i e; subst e
      simp at hy
      rcases hy with rfl | rfl
      · exact .inl hz
      · exact .inr ⟨rfl, hz⟩
    · simp at hy; subst hy; exact .inl hz
  · rintro (hy | ⟨rfl, hd⟩)
    · refine ⟨y, hy, ?_⟩
      split
      · rename_i e; simp [e]
      · simp
    · exact ⟨d, hd, by simp⟩
theorem insA_not {d u : Nat} {l : List Nat} (h : d ∉ l) : insA d u l = l := by
  unfold insA
  induction l with
  | nil => rfl
  | cons x l ih =>
    simp only [List.flatMap_cons]
    simp at h
    rw [ih h.2, if_neg (fun e => h.1 e.symm)]
    rfl
theorem insA_split {d u : Nat} {l1 l2 : List Nat} (h1 : d ∉ l1) (h2 : d ∉ l2) : insA d u (l1 ++ d :: l2) = l1 ++ d :: u :: l2 := by
  have e1 := insA_not (u := u) h1
  have e2 := insA_not (u := u) h2
  unfold insA at *
  rw [List.flatMap_append, List.flatMap_cons, e1, e2, if_pos rfl]
  rfl
theorem insA_nodup {d u : Nat} {l : List Nat} (h : l.Nodup) (hu : u ∉ l) : (insA d u l).Nodup := by
  by_cases hd : d ∈ l
  · obtain ⟨l1, l2, rfl⟩ := List.append_of_mem hd
    have h0 := List.nodup_append.mp h
    have h2 := List.nodup_cons.mp h0.2.1
    have h1 : d ∉ l1 := fun hm => h0.2.2 d hm d (by simp) rfl
    rw [insA_split h1 h2.1]
    simp at hu
    refine List.nodup_append.mpr ⟨h0.1, List.nodup_cons.mpr ⟨?_, List.nodup_cons.mpr ⟨hu.2.2, h2.2⟩⟩, ?_⟩
    · simp; exact ⟨fun e => hu.2.1 e.symm, h2.1⟩
    · intro a ha b hb e
      subst e
      simp at hb
      rcases hb with rfl | rfl | hb
      · exact h1 ha
      · exact hu.1 ha
      · exact h0.2.2 a ha a (by simp [hb]) rfl
  · rw [insA_not hd]; exact h
def hfA (A : Ab) (d : Nat) : Nat := pg (A.1 0 d - 1)
def aHalve (A : Ab) (d : Nat) : Ab :=
  (fun j x => if x = d + hfA A d then (if j = 0 then A.1 0 d - 1 else if j = 1 then A.1 1 d + hfA A d else if 10 ≤ j then 0 else A.1 j d)
     else if x = d then (if j = 0 then A.1 0 d - 1 else A.1 j d)
     else if j = 3 ∧ A.1 3 x = (d : Int) + 1 ∧ A.1 1 d + hfA A d ≤ A.1 1 x then ((d + hfA A d : Nat) : Int) + 1
     else A.1 j x,
   fun x => if x = d + hfA A d then (A.2 d).filter (fun h => decide (A.1 1 d + hfA A d ≤ A.1 1 h))
     else if x = d then (A.2 d).filter (fun h => decide (A.1 1 h < A.1 1 d + hfA A d))
     else if A.1 3 d = (x : Int) + 1 then insA d (d + hfA A d) (A.2 x) else A.2 x)
theorem hf_cases {n S : Nat} {A : Ab} {dep : Nat → Nat} (h : WF n S A dep) {d : Nat} (hd : Lv A d) (ho : 2 ≤ A.1 0 d) : (A.1 0 d = 2 ∧ pgs A d = 2 ∧ hfA A d = 1) ∨ (A.1 0 d = 3 ∧ pgs A d = 4 ∧ hfA A d = 2) ∨ (A.1 0 d = 4 ∧ pgs A d = 8 ∧ hfA A d = 4) := by
  unfold hfA
  rcases pgs_cases h hd with ⟨a, b⟩ | ⟨a, b⟩ | ⟨a, b⟩ | ⟨a, b⟩
  · omega
  · rw [a]; exact .inl ⟨rfl, b, by decide⟩
  · rw [a]; exact .inr (.inl ⟨rfl, b, by decide⟩)
  · rw [a]; exact .inr (.inr ⟨rfl, b, by decide⟩)
theorem kid_ne {n S : Nat} {A : Ab} {dep : Nat → Nat} (h : WF n S A dep) {d x : Nat} (hd : Lv A d) (hx : x ∈ A.2 d) : Lv A x ∧ A.1 3 x = (d : Int) + 1 ∧ x ≠ d ∧ dep x = dep d + 1 := by
  have h1 := (h.2.2.2.2.2.1 d hd).2 x hx
  have h2 := gv_live h h1.1 h1.2
  exact ⟨h1.1, h1.2, fun e => by subst e; omega, h2.2.2.1⟩
theorem WF_halve {n S : Nat} {A : Ab} {dep : Nat → Nat} (h : WF n S A dep) {d : Nat} (hd : Lv A d) (ho : 2 ≤ A.1 0 d) (hk : ∀ x, x ∈ A.2 d → A.1 0 x < A.1 0 d) :
    WF n S (aHalve A d) (fun x => if x = d + hfA A d then dep d else dep x) := by
  have hc := hf_cases h hd ho
  have hwa := h.2.2.2.1 d hd
  have hpo : 1 ≤ hfA A d ∧ hfA A d + hfA A d = pgs A d := by omega
  have hnu : ¬ Lv A (d + hfA A d) := fun hl => by
    have := h.2.2.2.2.2.2.1 d (d + hfA A d) hd hl (by omega)
    have := pgs_pos h hl
    omega
  generalize hu : d + hfA A d = u at *
  have hud : u ≠ d := by omega
  have eu0 : (aHalve A d).1 0 u = A.1 0 d - 1 := by simp [aHalve, hu]
  have eu1 : (aHalve A d).1 1 u = A.1 1 d + hfA A d := by simp [aHalve, hu]
  have euj : ∀ j, 2 ≤ j → j < 10 → (aHalve A d).1 j u = A.1 j d := fun j h1 h2 => by
    show (if u = d + hfA A d then (if j = 0 then A.1 0 d - 1 else if j = 1 then A.1 1 d + hfA A d else if 10 ≤ j then 0 else A.1 j d) else _) = _
    rw [if_pos hu.symm, if_neg (by omega), if_neg (by omega), if_neg (by omega)]
  have ed0 : (aHalve A d).1 0 d = A.1 0 d - 1 := by
    show (if d = d + hfA A d then _ else if d = d then (if 0 = 0 then A.1 0 d - 1 else A.1 0 d) else _) = _
    rw [if_neg (by omega), if_pos rfl, if_pos rfl]
  have edj : ∀ j, 1 ≤ j → (aHalve A d).1 j d = A.1 j d := fun j h1 => by
    show (if d = d + hfA A d then _ else if d = d then (if j = 0 then A.1 0 d - 1 else A.1 j d) else _) = _
    rw [if_neg (by omega), if_pos rfl, if_neg (by omega)]
  have en : ∀ j x, x ≠ u → x ≠ d → j ≠ 3 → (aHalve A d).1 j x = A.1 j x := fun j x h1 h2 h3 => by
    show (if x = d + hfA A d then _ else if x = d then _ else if j = 3 ∧ _ then _ else A.1 j x) = _
    rw [if_neg (by omega), if_neg h2, if_neg (fun q => h3 q.1)]
  have en3 : ∀ x, x ≠ u → x ≠ d → (aHalve A d).1 3 x = if A.1 3 x = (d : Int) + 1 ∧ A.1 1 d + hfA A d ≤ A.1 1 x then (u : Int) + 1 else A.1 3 x := fun x h1 h2 => by
    show (if x = d + hfA A d then _ else if x = d then _ else if 3 = 3 ∧ A.1 3 x = (d : Int) + 1 ∧ A.1 1 d + hfA A d ≤ A.1 1 x then ((d + hfA A d : Nat) : Int) + 1 else A.1 3 x) = _
    rw [if_neg (by omega), if_neg h2, hu]
    simp
  have ku : (aHalve A d).2 u = (A.2 d).filter (fun h => decide (A.1 1 d + hfA A d ≤ A.1 1 h)) := by
    show (if u = d + hfA A d then _ else _) = _
    rw [if_pos hu.symm]
  have kd' : (aHalve A d).2 d = (A.2 d).filter (fun h => decide (A.1 1 h < A.1 1 d + hfA A d)) := by
    show (if d = d + hfA A d then _ else if d = d then _ else _) = _
    rw [if_neg (by omega), if_pos rfl]
  have kn : ∀ x, x ≠ u → x ≠ d → (aHalve A d).2 x = if A.1 3 d = (x : Int) + 1 then insA d u (A.2 x) else A.2 x := fun x h1 h2 => by
    show (if x = d + hfA A d then _ else if x = d then _ else if A.1 3 d = (x : Int) + 1 then insA d (d + hfA A d) (A.2 x) else A.2 x) = _
    rw [if_neg (by omega), if_neg h2, hu]
  have pu : pgs (aHalve A d) u = hfA A d := by unfold pgs hfA; rw [eu0]
  have pd : pgs (aHalve A d) d = hfA A d := by unfold pgs hfA; rw [ed0]
  have pn : ∀ x, x ≠ u → x ≠ d → pgs (aHalve A d) x = pgs A x := fun x h1 h2 => by unfold pgs; rw [en 0 x h1 h2 (by decide)]
  have lu : Lv (aHalve A d) u := ⟨by have := hwa.2.2.2.1; have := hwa.2.2.1; have := h.1; have := h.2.1; have := hd.1; omega, by rw [eu0]; omega⟩
  have ld : Lv (aHalve A d) d := ⟨hd.1, by rw [ed0]; omega⟩
  have el : ∀ x, Lv (aHalve A d) x → x = u ∨ x = d ∨ (x ≠ u ∧ x ≠ d ∧ Lv A x) := fun x hx => by
    by_cases q : x = u
    · exact .inl q
    · by_cases q2 : x = d
      · exact .inr (.inl q2)
      · refine .inr (.inr ⟨q, q2, hx.1, ?_⟩)
        have := hx.2; rw [en 0 x q q2 (by decide)] at this; exact this
  have lne : ∀ x, Lv A x → x ≠ u := fun x hx e => hnu (e ▸ hx)
  have eln : ∀ x, Lv A x → Lv (aHalve A d) x := fun x hx => by
    by_cases q2 : x = d
    · subst q2; exact ld
    · exact ⟨hx.1, by rw [en 0 x (lne x hx) q2 (by decide)]; exact hx.2⟩
  have kid := fun {x y : Nat} => kid_ne (x := y) (d := x) h
  have gvl := fun {x g : Nat} => gv_live (d := x) (g := g) h
  have hpc := fun {x : Nat} => pgs_cases (d := x) h
  generalize hA : aHalve A d = A' at *
  generalize hhf : hfA A d = hf at *
  obtain ⟨h1, h2, h3, h4, h5, h6, h7, h8⟩ := h
  refine ⟨h1, h2, h3, ?_, ?_, ?_, ?_, ?_⟩
  · intro x hx
    rcases el x hx with rfl | rfl | ⟨q1, q2, hx1⟩
    · unfold WFa
      rw [pu, eu0, eu1, euj 2 (by decide) (by decide), euj 8 (by decide) (by decide)]
      obtain ⟨a1, a2, a3, a4, a5, a6, a7, a8, a9, a10, a11⟩ := hwa
      rcases hc with ⟨c1, c2, c3⟩ | ⟨c1, c2, c3⟩ | ⟨c1, c2, c3⟩ <;> rw [c2] at a2 a4 a6 a7 <;> subst c3 <;> refine ⟨by omega, by omega, by omega, by omega, by omega, by omega, by omega, by omega, by omega, by omega, by omega⟩
    · unfold WFa
      rw [pd, ed0, edj 1 (by decide), edj 2 (by decide), edj 8 (by decide)]
      obtain ⟨a1, a2, a3, a4, a5, a6, a7, a8, a9, a10, a11⟩ := hwa
      rcases hc with ⟨c1, c2, c3⟩ | ⟨c1, c2, c3⟩ | ⟨c1, c2, c3⟩ <;> rw [c2] at a2 a4 a6 a7 <;> subst c3 <;> refine ⟨by omega, by omega, by omega, by omega, by omega, by omega, by omega, by omega, by omega, by omega, by omega⟩
    · unfold WFa
      rw [pn x q1 q2, en 0 x q1 q2 (by decide), en 1 x q1 q2 (by decide), en 2 x q1 q2 (by decide), en 8 x q1 q2 (by decide)]
      exact h4 x hx1
  · intro x hx
    rcases el x hx with rfl | rfl | ⟨q1, q2, hx1⟩
    · unfold WFg
      rw [pu, euj 3 (by decide) (by decide), eu0, eu1]
      rcases h5 d hd with ⟨g1, g2⟩ | ⟨g, g1, g2, g3, g4, g5, g6, g7⟩
      · left; exact ⟨g1, by dsimp only; rw [if_pos rfl]; exact g2⟩
      · right
        have qd : g ≠ d := fun e => by subst e; omega
        have qu := lne g g2
        refine ⟨g, g1, eln g g2, ?_, ?_, ?_, ?_, ?_⟩
        · rw [kn g qu qd, if_pos g1, insA_mem]; exact .inr ⟨rfl, g3⟩
        · dsimp only; rw [if_pos rfl, if_neg qu]; exact g4
        · rw [en 0 g qu qd (by decide)]; omega
        · rw [en 1 g qu qd (by decide)]; omega
        · rw [en 1 g qu qd (by decide), pn g qu qd]; omega
    · unfold WFg
      rw [pd, edj 3 (by decide), ed0, edj 1 (by decide)]
      rcases h5 x hd with ⟨g1, g2⟩ | ⟨g, g1, g2, g3, g4, g5, g6, g7⟩
      · left; exact ⟨g1, by dsimp only; rw [if_neg (Ne.symm hud)]; exact g2⟩
      · right
        have qd : g ≠ x := fun e => by subst e; omega
        have qu := lne g g2
        refine ⟨g, g1, eln g g2, ?_, ?_, ?_, ?_, ?_⟩
        · rw [kn g qu qd, if_pos g1, insA_mem]; exact .inl g3
        · dsimp only; rw [if_neg (Ne.symm hud), if_neg qu]; exact g4
        · rw [en 0 g qu qd (by decide)]; omega
        · rw [en 1 g qu qd (by decide)]; omega
        · rw [en 1 g qu qd (by decide), pn g qu qd]; omega
    · unfold WFg
      rw [pn x q1 q2, en3 x q1 q2, en 0 x q1 q2 (by decide), en 1 x q1 q2 (by decide)]
      rcases h5 x hx1 with ⟨g1, g2⟩ | ⟨g, g1, g2, g3, g4, g5, g6, g7⟩
      · left; rw [if_neg (fun q => by omega)]; exact ⟨g1, by dsimp only; rw [if_neg q1]; exact g2⟩
      · right
        by_cases gd : g = d
        · subst gd
          have hko := hk x g3
          by_cases hff : A.1 1 g + hf ≤ A.1 1 x
          · rw [if_pos ⟨g1, hff⟩]
            refine ⟨u, rfl, lu, ?_, ?_, ?_, ?_, ?_⟩
            · rw [ku, List.mem_filter]; exact ⟨g3, by simpa using hff⟩
            · dsimp only; rw [if_neg q1, if_pos rfl]; exact g4
            · rw [eu0]; omega
            · rw [eu1]; exact hff
            · rw [eu1, pu]; omega
          · rw [if_neg (fun q => hff q.2)]
            refine ⟨g, g1, ld, ?_, ?_, ?_, ?_, ?_⟩
            · rw [kd', List.mem_filter]; exact ⟨g3, by simp; omega⟩
            · dsimp only; rw [if_neg q1, if_neg (Ne.symm hud)]; exact g4
            · rw [ed0]; omega
            · rw [edj 1 (by decide)]; exact g6
            · rw [edj 1 (by decide), pd]
              have ax := (h4 x hx1).2.2.2.2.2.1
              have ad := hwa.2.2.2.2.2.1
              rcases hc with ⟨c1, c2, c3⟩ | ⟨c1, c2, c3⟩ | ⟨c1, c2, c3⟩ <;> rw [c2] at ad <;> subst c3 <;> rcases hpc hx1 with ⟨e1, e2⟩ | ⟨e1, e2⟩ | ⟨e1, e2⟩ | ⟨e1, e2⟩ <;> rw [e2] at ax ⊢ <;> omega
        · have qu := lne g g2
          rw [if_neg (fun q => by omega)]
          refine ⟨g, g1, eln g g2, ?_, ?_, ?_, ?_, ?_⟩
          · rw [kn g qu gd]; split
            · rw [insA_mem]; exact .inl g3
            · exact g3
          · dsimp only; rw [if_neg q1, if_neg qu]; exact g4
          · rw [en 0 g qu gd (by decide)]; exact g5
          · rw [en 1 g qu gd (by decide)]; exact g6
          · rw [en 1 g qu gd (by decide), pn g qu gd]; exact g7
  · intro x hx
    rcases el x hx with rfl | rfl | ⟨q1, q2, hx1⟩
    · unfold WFk; rw [ku]
      refine ⟨(h6 d hd).1.filter _, fun y hy => ?_⟩
      rw [List.mem_filter] at hy
      obtain ⟨k1, k2, k3, k4⟩ := kid hd hy.1
      refine ⟨eln y k1, ?_⟩
      rw [en3 y (lne y k1) k3, if_pos ⟨k2, by simpa using hy.2⟩]
    · unfold WFk; rw [kd']
      refine ⟨(h6 x hd).1.filter _, fun y hy => ?_⟩
      rw [List.mem_filter] at hy
      obtain ⟨k1, k2, k3, k4⟩ := kid hd hy.1
      refine ⟨eln y k1, ?_⟩
      rw [en3 y (lne y k1) k3, if_neg (fun q => by have := hy.2; simp at this; omega)]
      exact k2
    · unfold WFk; rw [kn x q1 q2]
      have hnd := (h6 x hx1).1
      have old : ∀ y, y ∈ A.2 x → Lv A' y ∧ A'.1 3 y = (x : Int) + 1 := fun y hy => by
        obtain ⟨k1, k2, k3, k4⟩ := kid hx1 hy
        refine ⟨eln y k1, ?_⟩
        by_cases yd : y = d
        · subst yd; rw [edj 3 (by decide)]; exact k2
        · rw [en3 y (lne y k1) yd, if_neg (fun q => by omega)]; exact k2
      split
      · rename_i hg
        refine ⟨insA_nodup hnd (fun hm => hnu ((kid hx1 hm).1)), fun y hy => ?_⟩
        rcases insA_mem.mp hy with hy | ⟨rfl, -⟩
        · exact old y hy
        · exact ⟨lu, by rw [euj 3 (by decide) (by decide)]; exact hg⟩
      · exact ⟨hnd, old⟩
  · intro x y hx hy hxy
    have base : ∀ z, Lv A z → z ≠ d → d + (hf + hf) ≤ z ∨ z + pgs A z ≤ d := fun z hz hzd => by
      have := h7 d z hd hz (Ne.symm hzd); omega
    rcases el x hx with rfl | rfl | ⟨q1, q2, hx1⟩ <;> rcases el y hy with rfl | rfl | ⟨r1, r2, hy1⟩
    · exact absurd rfl hxy
    · rw [pu, pd]; omega
    · rw [pu, pn y r1 r2]; have := base y hy1 r2; omega
    · rw [pu, pd]; omega
    · exact absurd rfl hxy
    · rw [pd, pn y r1 r2]; have := base y hy1 r2; omega
    · rw [pu, pn x q1 q2]; have := base x hx1 q2; omega
    · rw [pd, pn x q1 q2]; have := base x hx1 q2; omega
    · rw [pn x q1 q2, pn y r1 r2]; exact h7 x y hx1 hy1 hxy
  · intro x hx
    by_cases q1 : x = u
    · subst q1; rw [eu0]; omega
    · by_cases q2 : x = d
      · subst q2; rw [ed0]; omega
      · rw [en 0 x q1 q2 (by decide)]; exact h8 x hx
