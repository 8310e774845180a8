/-! ===== a deed and those beneath it, each behind its giver ===== -/
def bfs (A : Ab) (f : Nat → Bool) : Nat → List Nat → List Nat → List Nat
  | 0, p, q => p ++ q
  | _ + 1, p, [] => p
  | n + 1, p, x :: q => bfs A f n (p ++ [x]) (q ++ (A.2 x).filter f)
def BI (A : Ab) (dep : Nat → Nat) (f : Nat → Bool) (d : Nat) (p q : List Nat) : Prop :=
  (p ++ q).Nodup ∧ (∀ x, x ∈ p ++ q → Lv A x ∧ bl A d x = true) ∧ (∀ x h, x ∈ p → h ∈ A.2 x → f h = true → h ∈ p ++ q) ∧ (∀ y, y ∈ p ++ q → y = d ∨ (f y = true ∧ ∃ x, x ∈ p ∧ y ∈ A.2 x)) ∧ (p ++ q).Pairwise (fun x y => dep x ≤ dep y) ∧ (∀ x y, x ∈ q → y ∈ q → dep y ≤ dep x + 1) ∧ d ∈ p ++ q
theorem BI_start {n S : Nat} {A : Ab} {dep : Nat → Nat} (_h : WF n S A dep) (f : Nat → Bool) {d : Nat} (hd : Lv A d) : BI A dep f d [] [d] := by
  refine ⟨by simp, fun x hx => ?_, fun x h hx => (by cases hx), fun y hy => ?_, by simp, fun x y hx hy => ?_, by simp⟩
  · simp at hx; subst hx; exact ⟨hd, bl_self A x⟩
  · simp at hy; exact .inl hy
  · simp at hx hy; subst hx; subst hy; omega
theorem BI_step {n S : Nat} {A : Ab} {dep : Nat → Nat} (h : WF n S A dep) {f : Nat → Bool} {d x : Nat} {p q : List Nat} (hb : BI A dep f d p (x :: q)) : BI A dep f d (p ++ [x]) (q ++ (A.2 x).filter f) := by
  obtain ⟨h1, h2, h3, h4, h5, h6, h7⟩ := hb
  have hx := h2 x (by simp)
  have e : p ++ x :: q = (p ++ [x]) ++ q := by simp
  have hnew : ∀ y, y ∈ A.2 x → y ∉ p ++ x :: q := fun y hy hm => by
    have hk := kid_ne h hx.1 hy
    rcases h4 y hm with rfl | ⟨-, z, hz, hyz⟩
    · have := bl_dep h (dep x) x (Nat.le_refl _) hx.1 hx.2
      omega
    · have hz1 := (h2 z (by simp [hz])).1
      have := (kid_ne h hz1 hyz).2.1
      have hzx : z = x := by omega
      subst hzx
      exact (List.nodup_append.mp h1).2.2 z hz z (by simp) rfl
  rw [e] at h1 h2 h3 h4 h5 hnew h7
  refine ⟨?_, ?_, ?_, ?_, ?_, ?_, ?_⟩
  · rw [← List.append_assoc]
    refine List.nodup_append.mpr ⟨h1, (h.2.2.2.2.2.1 x hx.1).1.filter _, fun a ha b hb e => ?_⟩
    subst e; rw [List.mem_filter] at hb; exact hnew a hb.1 ha
  · intro y hy
    rw [← List.append_assoc] at hy
    rcases List.mem_append.mp hy with hy | hy
    · exact h2 y hy
    · rw [List.mem_filter] at hy
      have hk := kid_ne h hx.1 hy.1
      exact ⟨hk.1, by rw [bl_step h d hk.1 hk.2.1, hx.2]; simp⟩
  · intro z y hz hy hf
    rw [← List.append_assoc]
    rcases List.mem_append.mp hz with hz | hz
    · exact List.mem_append_left _ (h3 z y hz hy hf)
    · simp at hz; subst hz
      exact List.mem_append_right _ (List.mem_filter.mpr ⟨hy, hf⟩)
  · intro y hy
    rw [← List.append_assoc] at hy
    rcases List.mem_append.mp hy with hy | hy
    · rcases h4 y hy with e | ⟨e1, z, z1, z2⟩
      · exact .inl e
      · exact .inr ⟨e1, z, by simp [z1], z2⟩
    · rw [List.mem_filter] at hy
      exact .inr ⟨hy.2, x, by simp, hy.1⟩
  · rw [← List.append_assoc]
    refine List.pairwise_append.mpr ⟨h5, ?_, ?_⟩
    · have : ∀ y, y ∈ (A.2 x).filter f → dep y = dep x + 1 := fun y hy => (kid_ne h hx.1 (List.mem_filter.mp hy).1).2.2.2
      exact List.Pairwise.imp_of_mem (R := fun _ _ => True) (fun {a b} ha hb _ => by rw [this a ha, this b hb]; exact Nat.le_refl _) (List.pairwise_of_forall (fun _ _ => trivial))
    · intro a ha b hb
      rw [(kid_ne h hx.1 (List.mem_filter.mp hb).1).2.2.2]
      rcases List.mem_append.mp ha with ha | ha
      · have := (List.pairwise_append.mp h5).1
        rcases List.mem_append.mp ha with ha | ha
        · have := (List.pairwise_append.mp this).2.2 a ha x (by simp); omega
        · simp at ha; subst ha; omega
      · have := h6 x a (by simp) (by simp [ha]); omega
  · have hge : ∀ y, y ∈ q → dep x ≤ dep y := fun y hy => (List.pairwise_append.mp h5).2.2 x (by simp) y hy
    intro a b ha hb
    have da : dep x ≤ dep a := by
      rcases List.mem_append.mp ha with ha | ha
      · exact hge a ha
      · have := (kid_ne h hx.1 (List.mem_filter.mp ha).1).2.2.2; omega
    have db : dep b ≤ dep x + 1 := by
      rcases List.mem_append.mp hb with hb | hb
      · exact h6 x b (by simp) (by simp [hb])
      · have := (kid_ne h hx.1 (List.mem_filter.mp hb).1).2.2.2; omega
    omega
  · rw [← List.append_assoc]; exact List.mem_append_left _ h7
theorem BI_len {A : Ab} {dep : Nat → Nat} {f : Nat → Bool} {d : Nat} {p q : List Nat} (hb : BI A dep f d p q) : p.length + q.length ≤ 192 := by
  have := len192 hb.1 (fun x hx => (hb.2.1 x hx).1.1)
  simpa using this
theorem bfs_end {n S : Nat} {A : Ab} {dep : Nat → Nat} (h : WF n S A dep) {f : Nat → Bool} {d : Nat} : ∀ (m : Nat) (p q : List Nat), BI A dep f d p q → 193 ≤ m + p.length → BI A dep f d (bfs A f m p q) [] := by
  intro m
  induction m with
  | zero => intro p q hb hm; have := BI_len hb; omega
  | succ m ih =>
    intro p q hb hm
    cases q with
    | nil => exact hb
    | cons x q => exact ih _ _ (BI_step h hb) (by simp; omega)
/-- all beneath -/
def tre (A : Ab) (d : Nat) : List Nat := bfs A (fun _ => true) 193 [] [d]
/-- those that must be split with it -/
def alk (A : Ab) (d : Nat) : List Nat := bfs A (fun h => decide (A.1 0 h = A.1 0 d)) 193 [] [d]
theorem tre_mem {n S : Nat} {A : Ab} {dep : Nat → Nat} (h : WF n S A dep) {d : Nat} (hd : Lv A d) {x : Nat} : x ∈ tre A d ↔ Lv A x ∧ bl A d x = true := by
  have hb : BI A dep (fun _ => true) d (tre A d) [] := bfs_end h 193 [] [d] (BI_start h (fun _ => true) hd) (by simp)
  constructor
  · intro hx; exact hb.2.1 x (by simpa using hx)
  · rintro ⟨hx, hbx⟩
    have key : ∀ (k x : Nat), dep x ≤ k → Lv A x → bl A d x = true → x ∈ tre A d := by
      intro k
      induction k with
      | zero =>
        intro x hk hx hbx
        rcases gv_or h hx with ⟨g1, -⟩ | ⟨g, g1, g2, g3⟩
        · rw [bl_root g1] at hbx; simp at hbx; subst hbx; simpa using hb.2.2.2.2.2.2
        · omega
      | succ k ih =>
        intro x hk hx hbx
        rcases gv_or h hx with ⟨g1, -⟩ | ⟨g, g1, g2, g3⟩
        · rw [bl_root g1] at hbx; simp at hbx; subst hbx; simpa using hb.2.2.2.2.2.2
        · rw [bl_step h d hx g1] at hbx
          simp at hbx
          rcases hbx with e | hbx
          · subst e; simpa using hb.2.2.2.2.2.2
          · have hg := ih g (by omega) g2 hbx
            have := hb.2.2.1 g x hg (gv_live h hx g1).2.1 rfl
            simpa using this
    exact key (dep x) x (Nat.le_refl _) hx hbx
