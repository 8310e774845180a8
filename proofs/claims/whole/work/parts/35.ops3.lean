/-! ===== a deed and all beneath it go ===== -/
def onC (A : Ab) (d : Nat) : Nat → Nat → Bool
  | 0, x => x == d
  | n + 1, x => x == d || (decide (0 < A.1 3 x) && onC A d n (A.1 3 x - 1).toNat)
theorem onC_succ (A : Ab) (d n x : Nat) : onC A d (n + 1) x = (x == d || (decide (0 < A.1 3 x) && onC A d n (A.1 3 x - 1).toNat)) := rfl
theorem onC_fuel {n S : Nat} {A : Ab} {dep : Nat → Nat} (h : WF n S A dep) (d : Nat) : ∀ (a b x : Nat), Lv A x → dep x ≤ a → dep x ≤ b → onC A d a x = onC A d b x := by
  intro a
  induction a with
  | zero =>
    intro b x hx h1 h2
    cases b with
    | zero => rfl
    | succ b =>
      rcases gv_or h hx with ⟨g1, -⟩ | ⟨g, g1, g2, g3⟩
      · simp [onC, g1]
      · omega
  | succ a ih =>
    intro b x hx h1 h2
    rcases gv_or h hx with ⟨g1, -⟩ | ⟨g, g1, g2, g3⟩
    · cases b <;> simp [onC, g1]
    · cases b with
      | zero => omega
      | succ b =>
        have e : (A.1 3 x - 1).toNat = g := by omega
        simp only [onC, e]
        rw [ih b g g2 (by omega) (by omega)]
/-- it, or one beneath it -/
def bl (A : Ab) (d x : Nat) : Bool := onC A d 192 x
theorem bl_self (A : Ab) (d : Nat) : bl A d d = true := by
  show onC A d (191 + 1) d = true
  rw [onC_succ]; simp
theorem bl_root {A : Ab} {d x : Nat} (h : A.1 3 x = 0) : bl A d x = (x == d) := by
  show onC A d (191 + 1) x = _
  rw [onC_succ, h]; simp
theorem bl_step {n S : Nat} {A : Ab} {dep : Nat → Nat} (h : WF n S A dep) (d : Nat) {x g : Nat} (hx : Lv A x) (hg : A.1 3 x = (g : Int) + 1) : bl A d x = (x == d || bl A d g) := by
  have h1 := gv_live h hx hg
  have h2 := dep_lt h hx
  show onC A d (191 + 1) x = _
  have e : (A.1 3 x - 1).toNat = g := by omega
  have e2 : (decide (0 < A.1 3 x)) = true := by simp; omega
  rw [onC_succ, e, e2, Bool.true_and]
  rw [onC_fuel h d 191 192 g h1.1 (by omega) (by omega)]
  rfl
theorem bl_dep {n S : Nat} {A : Ab} {dep : Nat → Nat} (h : WF n S A dep) {d : Nat} : ∀ (k x : Nat), dep x ≤ k → Lv A x → bl A d x = true → Lv A d ∧ dep d ≤ dep x ∧ (x = d ∨ dep d < dep x) := by
  intro k
  induction k with
  | zero =>
    intro x hk hx hb
    rcases gv_or h hx with ⟨g1, -⟩ | ⟨g, g1, g2, g3⟩
    · rw [bl_root g1] at hb; simp at hb; subst hb; exact ⟨hx, by omega, .inl rfl⟩
    · omega
  | succ k ih =>
    intro x hk hx hb
    rcases gv_or h hx with ⟨g1, -⟩ | ⟨g, g1, g2, g3⟩
    · rw [bl_root g1] at hb; simp at hb; subst hb; exact ⟨hx, by omega, .inl rfl⟩
    · rw [bl_step h d hx g1] at hb
      simp at hb
      rcases hb with hb | hb
      · subst hb; exact ⟨hx, by omega, .inl rfl⟩
      · have := ih g (by omega) g2 hb
        exact ⟨this.1, by omega, .inr (by omega)⟩
def aGo (A : Ab) (d : Nat) : Ab :=
  (fun j x => if j = 0 ∧ bl A d x = true then 0 else A.1 j x, fun x => if A.1 3 d = (x : Int) + 1 then (A.2 x).filter (fun y => decide (y ≠ d)) else A.2 x)
theorem aGo_lv {A : Ab} {d x : Nat} : Lv (aGo A d) x ↔ Lv A x ∧ bl A d x = false := by
  unfold Lv
  show x < 192 ∧ (0 < if 0 = 0 ∧ bl A d x = true then 0 else A.1 0 x) ↔ _
  by_cases hb : bl A d x = true
  · rw [if_pos ⟨rfl, hb⟩, hb]; simp
  · rw [if_neg (fun q => hb q.2)]; simp at hb; rw [hb]; simp
theorem aGo_0 {A : Ab} {d x : Nat} (h : Lv (aGo A d) x) : (aGo A d).1 0 x = A.1 0 x := by
  show (if 0 = 0 ∧ bl A d x = true then 0 else A.1 0 x) = _
  rw [if_neg]; rw [(aGo_lv.mp h).2]; simp
theorem aGo_j {A : Ab} {d x j : Nat} (h : j ≠ 0) : (aGo A d).1 j x = A.1 j x := if_neg (fun q => h q.1)
theorem WF_go {n S : Nat} {A : Ab} {dep : Nat → Nat} (h : WF n S A dep) {d : Nat} (hd : Lv A d) : WF n S (aGo A d) dep := by
  have ep : ∀ x, Lv (aGo A d) x → pgs (aGo A d) x = pgs A x := fun x hx => by unfold pgs; rw [aGo_0 hx]
  have bst := fun {x g : Nat} => bl_step (x := x) (g := g) h d
  obtain ⟨h1, h2, h3, h4, h5, h6, h7, h8⟩ := h
  refine ⟨h1, h2, h3, ?_, ?_, ?_, ?_, ?_⟩
  · intro x hx
    unfold WFa
    rw [ep x hx, aGo_0 hx, aGo_j (by decide), aGo_j (by decide), aGo_j (by decide)]
    exact h4 x (aGo_lv.mp hx).1
  · intro x hx
    have hx1 := aGo_lv.mp hx
    unfold WFg
    rw [ep x hx, aGo_0 hx, aGo_j (by decide), aGo_j (by decide)]
    rcases h5 x hx1.1 with q | ⟨g, g1, g2, g3, g4, g5, g6, g7⟩
    · exact .inl q
    · have hb := bst hx1.1 g1
      rw [hx1.2] at hb
      simp at hb
      have hg : Lv (aGo A d) g := aGo_lv.mpr ⟨g2, by simpa using hb.2⟩
      refine .inr ⟨g, g1, hg, ?_, g4, by rw [aGo_0 hg]; exact g5, by rw [aGo_j (by decide)]; exact g6, by rw [aGo_j (by decide), ep g hg]; exact g7⟩
      show x ∈ if A.1 3 d = (g : Int) + 1 then (A.2 g).filter (fun y => decide (y ≠ d)) else A.2 g
      split
      · rw [List.mem_filter]; exact ⟨g3, by simpa using hb.1⟩
      · exact g3
  · intro x hx
    have hx1 := aGo_lv.mp hx
    have hk := h6 x hx1.1
    have old : ∀ y, y ∈ A.2 x → y ≠ d → Lv (aGo A d) y ∧ (aGo A d).1 3 y = (x : Int) + 1 := fun y hy hyd => by
      have := hk.2 y hy
      refine ⟨aGo_lv.mpr ⟨this.1, ?_⟩, by rw [aGo_j (by decide)]; exact this.2⟩
      rw [bst this.1 this.2, hx1.2]; simpa using hyd
    unfold WFk
    show (if A.1 3 d = (x : Int) + 1 then (A.2 x).filter (fun y => decide (y ≠ d)) else A.2 x).Nodup ∧ ∀ y, y ∈ (if A.1 3 d = (x : Int) + 1 then (A.2 x).filter (fun y => decide (y ≠ d)) else A.2 x) → _
    split
    · refine ⟨hk.1.filter _, fun y hy => ?_⟩
      rw [List.mem_filter] at hy
      exact old y hy.1 (by simpa using hy.2)
    · rename_i hne
      refine ⟨hk.1, fun y hy => old y hy (fun e => hne ?_)⟩
      subst e; exact (hk.2 y hy).2
  · intro x y hx hy hxy
    rw [ep x hx, ep y hy]
    exact h7 x y (aGo_lv.mp hx).1 (aGo_lv.mp hy).1 hxy
  · intro x hx
    show 0 ≤ if 0 = 0 ∧ bl A d x = true then 0 else A.1 0 x
    split
    · omega
    · exact h8 x hx
/-! ===== a deed goes over to another place ===== -/
def aMove (A : Ab) (d e : Nat) : Ab :=
  (fun j x => if x = e then A.1 j d else if x = d then (if j = 0 then 0 else A.1 j d) else if j = 3 ∧ A.1 3 x = (d : Int) + 1 then (e : Int) + 1 else A.1 j x,
   fun x => if x = e then A.2 d else if A.1 3 d = (x : Int) + 1 then (A.2 x).map (fun y => if y = d then e else y) else A.2 x)
theorem map_ren_nodup {d e : Nat} {l : List Nat} (h : l.Nodup) (he : e ∉ l) : (l.map (fun y => if y = d then e else y)).Nodup := by
  induction l with
  | nil => simp
  | cons x l ih =>
    simp at he h
    simp only [List.map_cons, List.nodup_cons]
    refine ⟨?_, ih h.2 he.2⟩
    intro hm
    obtain ⟨y, hy, hye⟩ := List.mem_map.mp hm
    split at hye <;> split at hye
    · rename_i a b; subst a; subst b; exact h.1 hy
    · subst hye; exact he.1 rfl
    · rename_i a b; exact he.2 (hye ▸ hy)
    · subst hye; exact h.1 hy
theorem WF_move {n S : Nat} {A : Ab} {dep : Nat → Nat} (h : WF n S A dep) {d e : Nat} (hd : Lv A d) (he : e < 192) (hal : e % pgs A d = 0) (hsp : e / 32 < n) (hS : e % 32 + pgs A d ≤ S)
    (hfree : ∀ x, Lv A x → x + pgs A x ≤ e ∨ e + pgs A d ≤ x) : WF n S (aMove A d e) (fun x => if x = e then dep d else dep x) := by
  have hpd := pgs_pos h hd
  have hne : ¬ Lv A e := fun hl => by
    have := hfree e hl
    have := pgs_pos h hl
    omega
  have hde : d ≠ e := fun q => hne (q ▸ hd)
  have ee : ∀ j, (aMove A d e).1 j e = A.1 j d := fun j => if_pos rfl
  have ed : (aMove A d e).1 0 d = 0 := by
    show (if d = e then _ else if d = d then (if 0 = 0 then 0 else A.1 0 d) else _) = _
    rw [if_neg hde, if_pos rfl, if_pos rfl]
  have en : ∀ j x, x ≠ e → x ≠ d → j ≠ 3 → (aMove A d e).1 j x = A.1 j x := fun j x h1 h2 h3 => by
    show (if x = e then _ else if x = d then _ else if j = 3 ∧ _ then _ else A.1 j x) = _
    rw [if_neg h1, if_neg h2, if_neg (fun q => h3 q.1)]
  have en3 : ∀ x, x ≠ e → x ≠ d → (aMove A d e).1 3 x = if A.1 3 x = (d : Int) + 1 then (e : Int) + 1 else A.1 3 x := fun x h1 h2 => by
    show (if x = e then _ else if x = d then _ else if 3 = 3 ∧ A.1 3 x = (d : Int) + 1 then (e : Int) + 1 else A.1 3 x) = _
    rw [if_neg h1, if_neg h2]; simp
  have ke : (aMove A d e).2 e = A.2 d := if_pos rfl
  have kn : ∀ x, x ≠ e → (aMove A d e).2 x = if A.1 3 d = (x : Int) + 1 then (A.2 x).map (fun y => if y = d then e else y) else A.2 x := fun x h1 => if_neg h1
  have pe : pgs (aMove A d e) e = pgs A d := by unfold pgs; rw [ee]
  have pn : ∀ x, x ≠ e → x ≠ d → pgs (aMove A d e) x = pgs A x := fun x h1 h2 => by unfold pgs; rw [en 0 x h1 h2 (by decide)]
  have le : Lv (aMove A d e) e := ⟨he, by rw [ee]; exact hd.2⟩
  have el : ∀ x, Lv (aMove A d e) x → x = e ∨ (x ≠ e ∧ x ≠ d ∧ Lv A x) := fun x hx => by
    by_cases q : x = e
    · exact .inl q
    · by_cases q2 : x = d
      · subst q2; have := hx.2; rw [ed] at this; omega
      · refine .inr ⟨q, q2, hx.1, ?_⟩
        have := hx.2; rw [en 0 x q q2 (by decide)] at this; exact this
  have lne : ∀ x, Lv A x → x ≠ e := fun x hx q => hne (q ▸ hx)
  have eln : ∀ x, Lv A x → x ≠ d → Lv (aMove A d e) x := fun x hx q2 => ⟨hx.1, by rw [en 0 x (lne x hx) q2 (by decide)]; exact hx.2⟩
  have kid := fun {x y : Nat} => kid_ne (x := y) (d := x) h
  generalize hA : aMove A d e = A' at *
  obtain ⟨h1, h2, h3, h4, h5, h6, h7, h8⟩ := h
  have kmem : ∀ x y, x ≠ e → x ≠ d → y ∈ A.2 x → y ≠ d → y ∈ A'.2 x := fun x y q1 q2 hy hyd => by
    rw [kn x q1]; split
    · rw [List.mem_map]; exact ⟨y, hy, if_neg hyd⟩
    · exact hy
  refine ⟨h1, h2, h3, ?_, ?_, ?_, ?_, ?_⟩
  · intro x hx
    rcases el x hx with rfl | ⟨q1, q2, hx1⟩
    · unfold WFa
      rw [pe, ee, ee, ee, ee]
      obtain ⟨a1, a2, a3, a4, a5⟩ := h4 d hd
      exact ⟨a1, hal, hsp, hS, a5⟩
    · unfold WFa
      rw [pn x q1 q2, en 0 x q1 q2 (by decide), en 1 x q1 q2 (by decide), en 2 x q1 q2 (by decide), en 8 x q1 q2 (by decide)]
      exact h4 x hx1
  · intro x hx
    rcases el x hx with rfl | ⟨q1, q2, hx1⟩
    · unfold WFg
      rw [pe, ee, ee, ee]
      rcases h5 d hd with ⟨g1, g2⟩ | ⟨g, g1, g2, g3, g4, g5, g6, g7⟩
      · left; exact ⟨g1, by dsimp only; rw [if_pos rfl]; exact g2⟩
      · right
        have qd : g ≠ d := fun q => by subst q; omega
        have qe := lne g g2
        refine ⟨g, g1, eln g g2 qd, ?_, ?_, ?_, ?_, ?_⟩
        · rw [kn g qe, if_pos g1, List.mem_map]; exact ⟨d, g3, if_pos rfl⟩
        · dsimp only; rw [if_pos rfl, if_neg qe]; exact g4
        · rw [en 0 g qe qd (by decide)]; exact g5
        · rw [en 1 g qe qd (by decide)]; exact g6
        · rw [en 1 g qe qd (by decide), pn g qe qd]; exact g7
    · unfold WFg
      rw [pn x q1 q2, en3 x q1 q2, en 0 x q1 q2 (by decide), en 1 x q1 q2 (by decide)]
      rcases h5 x hx1 with ⟨g1, g2⟩ | ⟨g, g1, g2, g3, g4, g5, g6, g7⟩
      · left; rw [if_neg (by omega)]; exact ⟨g1, by dsimp only; rw [if_neg q1]; exact g2⟩
      · right
        by_cases gd : g = d
        · subst gd
          rw [if_pos g1]
          refine ⟨e, rfl, le, by rw [ke]; exact g3, ?_, ?_, ?_, ?_⟩
          · dsimp only; rw [if_neg q1, if_pos rfl]; exact g4
          · rw [ee]; exact g5
          · rw [ee]; exact g6
          · rw [ee, pe]; exact g7
        · have qe := lne g g2
          rw [if_neg (by omega)]
          refine ⟨g, g1, eln g g2 gd, kmem g x qe gd g3 q2, ?_, ?_, ?_, ?_⟩
          · dsimp only; rw [if_neg q1, if_neg qe]; exact g4
          · rw [en 0 g qe gd (by decide)]; exact g5
          · rw [en 1 g qe gd (by decide)]; exact g6
          · rw [en 1 g qe gd (by decide), pn g qe gd]; exact g7
  · intro x hx
    rcases el x hx with rfl | ⟨q1, q2, hx1⟩
    · unfold WFk; rw [ke]
      refine ⟨(h6 d hd).1, fun y hy => ?_⟩
      obtain ⟨k1, k2, k3, k4⟩ := kid hd hy
      exact ⟨eln y k1 k3, by rw [en3 y (lne y k1) k3, if_pos k2]⟩
    · have old : ∀ y, y ∈ A.2 x → y ≠ d → Lv A' y ∧ A'.1 3 y = (x : Int) + 1 := fun y hy hyd => by
        obtain ⟨k1, k2, k3, k4⟩ := kid hx1 hy
        exact ⟨eln y k1 hyd, by rw [en3 y (lne y k1) hyd, if_neg (by omega)]; exact k2⟩
      unfold WFk; rw [kn x q1]
      split
      · rename_i hg
        refine ⟨map_ren_nodup (h6 x hx1).1 (fun hm => hne (kid hx1 hm).1), fun y hy => ?_⟩
        obtain ⟨z, hz, hzy⟩ := List.mem_map.mp hy
        split at hzy
        · subst hzy; exact ⟨le, by rw [ee]; exact hg⟩
        · subst hzy; rename_i hzd; exact old z hz hzd
      · rename_i hg
        refine ⟨(h6 x hx1).1, fun y hy => old y hy (fun q => hg ?_)⟩
        subst q; exact (kid hx1 hy).2.1
  · intro x y hx hy hxy
    rcases el x hx with rfl | ⟨q1, q2, hx1⟩ <;> rcases el y hy with rfl | ⟨r1, r2, hy1⟩
    · exact absurd rfl hxy
    · rw [pe, pn y r1 r2]; have := hfree y hy1; omega
    · rw [pe, pn x q1 q2]; have := hfree x hx1; omega
    · rw [pn x q1 q2, pn y r1 r2]; exact h7 x y hx1 hy1 hxy
  · intro x hx
    by_cases q1 : x = e
    · subst q1; rw [ee]; exact h8 d hd.1
    · by_cases q2 : x = d
      · subst q2; rw [ed]; omega
      · rw [en 0 x q1 q2 (by decide)]; exact h8 x hx
