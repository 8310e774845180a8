/-! ===== what is done to the forest: one field, a deed comes ===== -/
def setA (A : Ab) (j d : Nat) (v : Int) : Ab := (fun i x => if i = j ∧ x = d then v else A.1 i x, A.2)
theorem WF_set {n S : Nat} {A : Ab} {dep : Nat → Nat} (h : WF n S A dep) (j d : Nat) (v : Int) (hj : j = 2 ∧ 0 ≤ v ∧ v ≤ 7 ∨ j = 8 ∧ 0 ≤ v ∧ v ≤ 1266679808 ∨ 9 ≤ j) : WF n S (setA A j d v) dep := by
  have e0 : ∀ x, (setA A j d v).1 0 x = A.1 0 x := fun x => if_neg (by omega)
  have e1 : ∀ x, (setA A j d v).1 1 x = A.1 1 x := fun x => if_neg (by omega)
  have e3 : ∀ x, (setA A j d v).1 3 x = A.1 3 x := fun x => if_neg (by omega)
  have ep : ∀ x, pgs (setA A j d v) x = pgs A x := fun x => by unfold pgs; rw [e0]
  have el : ∀ x, Lv (setA A j d v) x ↔ Lv A x := fun x => by unfold Lv; rw [e0]
  obtain ⟨h1, h2, h3, h4, h5, h6, h7, h8⟩ := h
  refine ⟨h1, h2, h3, ?_, ?_, ?_, ?_, ?_⟩
  · intro x hx
    obtain ⟨a1, a2, a3, a4, a5, a6, a7, a8, a9, a10, a11⟩ := h4 x ((el x).mp hx)
    refine ⟨by rw [e0]; exact a1, by rw [ep]; exact a2, a3, by rw [ep]; exact a4, by rw [e1]; exact a5, by rw [e1, ep]; exact a6, by rw [e1, ep]; exact a7, ?_, ?_, ?_, ?_⟩
    · show 0 ≤ if 2 = j ∧ x = d then v else A.1 2 x
      split <;> omega
    · show (if 2 = j ∧ x = d then v else A.1 2 x) ≤ 7
      split <;> omega
    · show 0 ≤ if 8 = j ∧ x = d then v else A.1 8 x
      split <;> omega
    · show (if 8 = j ∧ x = d then v else A.1 8 x) ≤ 1266679808
      split <;> omega
  · intro x hx
    rcases h5 x ((el x).mp hx) with q | ⟨g, g1, g2, g3, g4, g5, g6, g7⟩
    · exact .inl (by rw [e3]; exact q)
    · exact .inr ⟨g, by rw [e3]; exact g1, (el g).mpr g2, g3, g4, by rw [e0, e0]; exact g5, by rw [e1, e1]; exact g6, by rw [e1, e1, ep, ep]; exact g7⟩
  · intro x hx
    obtain ⟨q1, q2⟩ := h6 x ((el x).mp hx)
    exact ⟨q1, fun y hy => ⟨(el y).mpr (q2 y hy).1, by rw [e3]; exact (q2 y hy).2⟩⟩
  · intro x y hx hy hxy
    rw [ep, ep]
    exact h7 x y ((el x).mp hx) ((el y).mp hy) hxy
  · intro x hx; rw [e0]; exact h8 x hx
/-- a deed comes as the last heir; g: giver + 1 -/
def aAdd (A : Ab) (d : Nat) (o f r g a : Int) : Ab :=
  (fun j x => if x = d then (if j = 0 then o else if j = 1 then f else if j = 2 then r else if j = 3 then g else if j = 8 then a else 0) else A.1 j x,
   fun x => if x = d then [] else if (x : Int) + 1 = g then A.2 x ++ [d] else A.2 x)
theorem pg_pos {o : Int} (h1 : 1 ≤ o) (h2 : o ≤ 4) : 1 ≤ pg o ∧ pg o ≤ 8 := by
  rcases pg_cases h1 h2 with ⟨-, b⟩ | ⟨-, b⟩ | ⟨-, b⟩ | ⟨-, b⟩ <;> omega
theorem pgs_pos {n S : Nat} {A : Ab} {dep : Nat → Nat} (h : WF n S A dep) {d : Nat} (hd : Lv A d) : 1 ≤ pgs A d ∧ pgs A d ≤ 8 := pg_pos (by have := hd.2; omega) (h.2.2.2.1 d hd).1
theorem WF_add {n S : Nat} {A : Ab} {dep : Nat → Nat} (h : WF n S A dep) {d : Nat} {o f r g a : Int} (hd : d < 192) (ho1 : 1 ≤ o) (ho2 : o ≤ 4) (hal : d % pg o = 0) (hsp : d / 32 < n) (hS : d % 32 + pg o ≤ S)
    (hf0 : 0 ≤ f) (hfa : f % (pg o : Int) = 0) (hfS : f + pg o ≤ S) (hr1 : 0 ≤ r) (hr2 : r ≤ 7) (ha1 : 0 ≤ a) (ha2 : a ≤ 1266679808)
    (hfree : ∀ e, Lv A e → e + pgs A e ≤ d ∨ d + pg o ≤ e)
    (hg : g = 0 ∨ ∃ x : Nat, g = (x : Int) + 1 ∧ Lv A x ∧ o ≤ A.1 0 x ∧ A.1 1 x ≤ f ∧ f + pg o ≤ A.1 1 x + pgs A x) :
    ∃ dep', WF n S (aAdd A d o f r g a) dep' := by
  have hpo := pg_pos ho1 ho2
  have hnl : ¬ Lv A d := fun hl => by
    have := hfree d hl
    have := pgs_pos h hl
    omega
  have en : ∀ j x, x ≠ d → (aAdd A d o f r g a).1 j x = A.1 j x := fun j x hx => if_neg hx
  have e0 : (aAdd A d o f r g a).1 0 d = o := by simp [aAdd]
  have e1 : (aAdd A d o f r g a).1 1 d = f := by simp [aAdd]
  have e2 : (aAdd A d o f r g a).1 2 d = r := by simp [aAdd]
  have e3 : (aAdd A d o f r g a).1 3 d = g := by simp [aAdd]
  have e8 : (aAdd A d o f r g a).1 8 d = a := by simp [aAdd]
  have ek : (aAdd A d o f r g a).2 d = [] := by simp [aAdd]
  have ekn : ∀ x, x ≠ d → (aAdd A d o f r g a).2 x = if (x : Int) + 1 = g then A.2 x ++ [d] else A.2 x := fun x hx => if_neg hx
  have ep : pgs (aAdd A d o f r g a) d = pg o := by unfold pgs; rw [e0]
  have epn : ∀ x, x ≠ d → pgs (aAdd A d o f r g a) x = pgs A x := fun x hx => by unfold pgs; rw [en _ _ hx]
  have el : ∀ x, Lv (aAdd A d o f r g a) x → x = d ∨ x ≠ d ∧ Lv A x := fun x hx => by
    by_cases q : x = d
    · exact .inl q
    · refine .inr ⟨q, hx.1, ?_⟩
      have := hx.2; rw [en _ _ q] at this; exact this
  have eln : ∀ x, Lv A x → x ≠ d ∧ Lv (aAdd A d o f r g a) x := fun x hx => by
    have q : x ≠ d := fun e => hnl (e ▸ hx)
    exact ⟨q, hx.1, by rw [en _ _ q]; exact hx.2⟩
  have eld : Lv (aAdd A d o f r g a) d := ⟨hd, by rw [e0]; omega⟩
  have hkn : ∀ x, Lv A x → d ∉ A.2 x := fun x hx hm => hnl (((h.2.2.2.2.2.1 x hx).2 d hm).1)
  generalize hA : aAdd A d o f r g a = A' at *
  obtain ⟨h1, h2, h3, h4, h5, h6, h7, h8⟩ := h
  refine ⟨fun x => if x = d then (if g = 0 then 0 else dep (g - 1).toNat + 1) else dep x, h1, h2, h3, ?_, ?_, ?_, ?_, ?_⟩
  · intro x hx
    rcases el x hx with rfl | ⟨q, hx1⟩
    · unfold WFa
      rw [ep, e0, e1, e2, e8]
      exact ⟨ho2, hal, hsp, hS, hf0, hfa, hfS, hr1, hr2, ha1, ha2⟩
    · unfold WFa
      rw [epn x q, en _ _ q, en _ _ q, en _ _ q, en _ _ q]
      exact h4 x hx1
  · intro x hx
    rcases el x hx with rfl | ⟨q, hx1⟩
    · unfold WFg
      rw [ep, e3, e0, e1]
      rcases hg with rfl | ⟨y, rfl, y1, y2, y3, y4⟩
      · left; simp
      · right
        have yq := (eln y y1).1
        refine ⟨y, rfl, (eln y y1).2, ?_, ?_, ?_, ?_, ?_⟩
        · rw [ekn y yq, if_pos rfl]; simp
        · dsimp only; rw [if_pos rfl, if_neg (by omega), if_neg yq, show ((y : Int) + 1 - 1).toNat = y by omega]
        · rw [en _ _ yq]; exact y2
        · rw [en _ _ yq]; exact y3
        · rw [en _ _ yq, epn _ yq]; exact y4
    · unfold WFg
      rw [epn x q, en _ _ q, en _ _ q, en _ _ q]
      rcases h5 x hx1 with ⟨p1, p2⟩ | ⟨y, p1, p2, p3, p4, p5, p6, p7⟩
      · left; exact ⟨p1, by dsimp only; rw [if_neg q]; exact p2⟩
      · right
        have yq := (eln y p2).1
        refine ⟨y, p1, (eln y p2).2, ?_, ?_, ?_, ?_, ?_⟩
        · rw [ekn y yq]; split
          · exact List.mem_append_left _ p3
          · exact p3
        · dsimp only; rw [if_neg q, if_neg yq]; exact p4
        · rw [en _ _ yq]; exact p5
        · rw [en _ _ yq]; exact p6
        · rw [en _ _ yq, epn _ yq]; exact p7
  · intro x hx
    rcases el x hx with rfl | ⟨q, hx1⟩
    · unfold WFk; rw [ek]; exact ⟨List.nodup_nil, fun y hy => by cases hy⟩
    · obtain ⟨p1, p2⟩ := h6 x hx1
      unfold WFk; rw [ekn x q]
      split
      · rename_i hxg
        refine ⟨List.nodup_append.mpr ⟨p1, by simp, ?_⟩, ?_⟩
        · intro a ha b hb e
          simp at hb
          exact hkn x hx1 (by rw [← hb, ← e]; exact ha)
        · intro y hy
          rcases List.mem_append.mp hy with hy | hy
          · have := p2 y hy
            exact ⟨(eln y this.1).2, by rw [en _ _ (eln y this.1).1]; exact this.2⟩
          · simp at hy; subst hy; exact ⟨eld, by rw [e3]; exact hxg.symm⟩
      · refine ⟨p1, fun y hy => ?_⟩
        have := p2 y hy
        exact ⟨(eln y this.1).2, by rw [en _ _ (eln y this.1).1]; exact this.2⟩
  · intro x y hx hy hxy
    rcases el x hx with rfl | ⟨q, hx1⟩
    · rcases el y hy with rfl | ⟨q, hy1⟩
      · exact absurd rfl hxy
      · rw [ep, epn y q]; have := hfree y hy1; omega
    · rcases el y hy with rfl | ⟨q2, hy1⟩
      · rw [ep, epn x q]; have := hfree x hx1; omega
      · rw [epn x q, epn y q2]; exact h7 x y hx1 hy1 hxy
  · intro x hx
    by_cases q : x = d
    · subst q; rw [e0]; omega
    · rw [en _ _ q]; exact h8 x hx
