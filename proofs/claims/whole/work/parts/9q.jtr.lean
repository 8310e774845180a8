/-! ===== what map, grant and the like leave of the jobs ===== -/
def Sp (A : Ab) (x : Nat) : Prop := Lv A x ∧ (A.1 9 x ≠ 0 ∨ A.1 10 x ≠ 0)
theorem JA_tr {A A' : Ab} {J : List Jb} {N : Int} (h : JA A J N) (ha : ∀ x, Sp A x → Lv A' x ∧ A'.1 9 x = A.1 9 x ∧ A'.1 10 x = A.1 10 x ∧ A'.1 11 x = A.1 11 x ∧ (A.1 3 x ≠ 0 → A'.1 3 x ≠ 0)) (hb : ∀ x, Sp A' x → Lv A x) (hb2 : ∀ x, Lv A x → Lv A' x → A'.1 9 x = A.1 9 x ∧ A'.1 10 x = A.1 10 x) (hc : ∀ t u, Sp A t → Sp A u → bl A' t u = bl A t u) : JA A' J N := by
  obtain ⟨⟨j1, j2, j3⟩, j4, ⟨j50, j5⟩, p1, p2, p3, p4⟩ := h
  have hs : ∀ x, Sp A' x → Sp A x := fun x hx => by
    have h1 := hb x hx
    obtain ⟨e1, e2⟩ := hb2 x h1 hx.1
    exact ⟨h1, by rw [← e1, ← e2]; exact hx.2⟩
  refine ⟨⟨j1, j2, fun e he => ?_⟩, fun x hx hn => ?_, ⟨j50, fun x hx => ?_⟩, fun x hx hn => ?_, fun t u ht hu h1 h2 hbl => ?_, fun x y hx hy hbl hne h1 h2 => ?_, fun x hx hn => ?_⟩
  · obtain ⟨e1, e2, e3, e4, e5, e6, e7, e8⟩ := j3 e he
    refine ⟨e1, e2, e3, e4, e5, e6, ?_, fun x => ?_⟩
    · refine List.Pairwise.imp_of_mem (fun {a b} ha' hb' hab => ?_) e7
      have sa : Sp A a := by have := (e8 a).mp ha'; exact ⟨this.1, .inr (by omega)⟩
      have sb : Sp A b := by have := (e8 b).mp hb'; exact ⟨this.1, .inr (by omega)⟩
      rw [(ha a sa).2.2.2.1, (ha b sb).2.2.2.1]; exact hab
    · rw [e8 x]
      constructor
      · rintro ⟨z1, z2⟩
        have := ha x ⟨z1, .inr (by omega)⟩
        exact ⟨this.1, by rw [this.2.2.1]; exact z2⟩
      · rintro ⟨z1, z2⟩
        have h1 := hb x ⟨z1, .inr (by omega)⟩
        exact ⟨h1, by rw [← (hb2 x h1 z1).2]; exact z2⟩
  · have h1 := hb x ⟨hx, .inr hn⟩
    have e := (hb2 x h1 hx).2
    rw [e] at hn ⊢
    exact j4 x h1 hn
  · by_cases c : Sp A' x
    · have h1 := hs x c
      obtain ⟨z1, z2, z3, z4, -⟩ := ha x h1
      rw [z2, z3, z4]; exact j5 x h1.1
    · have c9 : A'.1 9 x = 0 := Classical.byContradiction fun z => c ⟨hx, .inl z⟩
      have c10 : A'.1 10 x = 0 := Classical.byContradiction fun z => c ⟨hx, .inr z⟩
      rw [c9, c10]; exact ⟨by omega, j50, fun z => absurd rfl z⟩
  · have sx := hs x ⟨hx, .inr hn⟩
    have e := (hb2 x sx.1 hx).2
    rw [e] at hn ⊢
    obtain ⟨t, t1, t2, t3⟩ := p1 x sx.1 hn
    have st : Sp A t := ⟨t1, .inl (by omega)⟩
    exact ⟨t, (ha t st).1, by rw [hc t x st sx]; exact t2, by rw [(ha t st).2.1]; exact t3⟩
  · have st := hs t ⟨ht, .inl h1⟩
    have su := hs u ⟨hu, .inl h2⟩
    rw [hc t u st su] at hbl
    rw [(ha t st).2.1] at h1 ⊢
    rw [(ha u su).2.1] at h2 ⊢
    exact p2 t u st.1 su.1 h1 h2 hbl
  · have sx := hs x ⟨hx, .inr h1⟩
    have sy := hs y ⟨hy, .inr (by rw [h2]; exact h1)⟩
    rw [hc x y sx sy] at hbl
    rw [(ha x sx).2.2.1] at h1 h2
    rw [(ha y sy).2.2.1] at h2
    rw [(ha x sx).2.2.2.1, (ha y sy).2.2.2.1]
    exact p3 x y sx.1 sy.1 hbl hne h1 h2
  · have sx := hs x ⟨hx, .inr hn⟩
    rw [(ha x sx).2.2.1] at hn
    exact (ha x sx).2.2.2.2 (p4 x sx.1 hn)
theorem bl_live {n S : Nat} {A A' : Ab} {dep : Nat → Nat} (h : WF n S A dep) (e3 : ∀ y, Lv A y → A'.1 3 y = A.1 3 y) (t : Nat) {u : Nat} (hu : Lv A u) : bl A' t u = bl A t u := by
  have key : ∀ (k x : Nat), Lv A x → onC A' t k x = onC A t k x := by
    intro k
    induction k with
    | zero => intro x _; rfl
    | succ k ih =>
      intro x hx
      rw [onC_succ, onC_succ, e3 x hx]
      rcases gv_or h hx with ⟨g1, -⟩ | ⟨g, g1, g2, -⟩
      · rw [g1]; simp
      · rw [g1, show ((g : Int) + 1 - 1).toNat = g by omega, ih g g2]
  exact key 192 u hu
/-- one more, or several, that are neither tops nor to be done -/
theorem JA_more {n S : Nat} {A A' : Ab} {dep : Nat → Nat} {J : List Jb} {N : Int} (h : WF n S A dep) (hJ : JA A J N) (e : ∀ x, Lv A x → Lv A' x ∧ ∀ j, A'.1 j x = A.1 j x) (hn : ∀ x, Lv A' x → Lv A x ∨ A'.1 9 x = 0 ∧ A'.1 10 x = 0) : JA A' J N := by
  refine JA_tr hJ (fun x hx => ?_) (fun x hx => ?_) (fun x hx _ => ⟨(e x hx).2 9, (e x hx).2 10⟩) (fun t u ht hu => bl_live h (fun y hy => (e y hy).2 3) t hu.1)
  · obtain ⟨e1, e2⟩ := e x hx.1
    exact ⟨e1, e2 9, e2 10, e2 11, fun z => by rw [e2 3]; exact z⟩
  · rcases hn x hx.1 with z | z
    · exact z
    · rcases hx.2 with w | w
      · exact absurd z.1 w
      · exact absurd z.2 w
theorem JA_go {n S : Nat} {A : Ab} {dep : Nat → Nat} {N : Int} {x : Nat} {J : List Jb} (hW : WF n S A dep) (hx : Lv A x) (hf : ∀ y, Lv A y → bl A x y = true → A.1 10 y = 0) (h : JA A J N) : JA (aGo A x) J N := by
  obtain ⟨h1, h2⟩ := JA_0.mp h
  exact JA_0.mpr ⟨JA_w2 hW hx hf h1, h2⟩
def rho (d e x : Nat) : Nat := if x = d then e else x
theorem bl_move {n S : Nat} {A : Ab} {dep dep' : Nat → Nat} (h : WF n S A dep) {d e : Nat} (hd : Lv A d) (he : ¬ Lv A e) (he2 : e < 192) (h' : WF n S (aMove A d e) dep') {t : Nat} (ht : Lv A t) : ∀ (k u : Nat), dep u ≤ k → Lv A u → bl (aMove A d e) (rho d e t) (rho d e u) = bl A t u := by
  have hne : ∀ x, Lv A x → x ≠ e := fun x hx z => he (z ▸ hx)
  have hinj : ∀ u, Lv A u → (rho d e u == rho d e t) = (u == t) := fun u hu => by
    have h1 := hne u hu
    have h2 := hne t ht
    rw [Bool.eq_iff_iff]
    simp only [beq_iff_eq]
    unfold rho
    split <;> split <;> omega
  have h3 : ∀ u, Lv A u → (aMove A d e).1 3 (rho d e u) = if A.1 3 u = (d : Int) + 1 then (e : Int) + 1 else A.1 3 u := fun u hu => by
    have hdg : A.1 3 d ≠ (d : Int) + 1 := fun z => by
      have := gv_live h hd z
      have := this.2.2.1; omega
    show (if rho d e u = e then A.1 3 d else if rho d e u = d then (if 3 = 0 then 0 else A.1 3 d) else if 3 = 3 ∧ A.1 3 (rho d e u) = (d : Int) + 1 then (e : Int) + 1 else A.1 3 (rho d e u)) = _
    unfold rho
    by_cases c : u = d
    · subst c
      rw [if_pos rfl, if_pos rfl, if_neg hdg]
    · rw [if_neg c, if_neg (hne u hu), if_neg c]
      simp
  have hlv : ∀ u, Lv A u → Lv (aMove A d e) (rho d e u) := fun u hu => by
    unfold rho
    by_cases c : u = d
    · rw [if_pos c]
      refine ⟨he2, ?_⟩
      rw [aMove_0, if_pos rfl]; exact hd.2
    · rw [if_neg c]
      refine ⟨hu.1, ?_⟩
      rw [aMove_0, if_neg (hne u hu), if_neg c]; exact hu.2
  intro k
  induction k with
  | zero =>
    intro u hk hu
    rcases gv_or h hu with ⟨g1, -⟩ | ⟨g, g1, g2, g3⟩
    · have e3 := h3 u hu
      rw [g1, if_neg (by omega)] at e3
      rw [bl_root g1, bl_root e3, hinj u hu]
    · omega
  | succ k ih =>
    intro u hk hu
    rcases gv_or h hu with ⟨g1, -⟩ | ⟨g, g1, g2, g3⟩
    · have e3 := h3 u hu
      rw [g1, if_neg (by omega)] at e3
      rw [bl_root g1, bl_root e3, hinj u hu]
    · have e3 := h3 u hu
      have e3' : (aMove A d e).1 3 (rho d e u) = ((rho d e g : Nat) : Int) + 1 := by
        rw [e3, g1]
        unfold rho
        by_cases c : g = d
        · rw [if_pos (by omega), if_pos c]
        · rw [if_neg (by omega), if_neg c]
      rw [bl_step h t hu g1, bl_step h' (rho d e t) (hlv u hu) e3', hinj u hu, ih g (by omega) g2]
theorem JA_move {n S : Nat} {A : Ab} {dep dep' : Nat → Nat} {J : List Jb} {N : Int} (h : WF n S A dep) (hJ : JA A J N) {d e : Nat} (hd : Lv A d) (he : ¬ Lv A e) (he2 : e < 192) (h' : WF n S (aMove A d e) dep') (h9 : A.1 9 d = 0) (h10 : A.1 10 d = 0) : JA (aMove A d e) J N := by
  have hne : ∀ x, Lv A x → x ≠ e := fun x hx z => he (z ▸ hx)
  have hnd : ∀ x, Sp A x → x ≠ d := fun x hx z => by
    rcases hx.2 with w | w
    · exact w (z ▸ h9)
    · exact w (z ▸ h10)
  have hj : ∀ j x, j ≠ 3 → x ≠ d → x ≠ e → (aMove A d e).1 j x = A.1 j x := fun j x h1 h2 h3 => by
    show (if x = e then A.1 j d else if x = d then (if j = 0 then 0 else A.1 j d) else if j = 3 ∧ A.1 3 x = (d : Int) + 1 then (e : Int) + 1 else A.1 j x) = _
    rw [if_neg h3, if_neg h2, if_neg (fun z => h1 z.1)]
  have he910 : ∀ j, j ≠ 0 → (aMove A d e).1 j e = A.1 j d := fun j _ => by
    show (if e = e then A.1 j d else _) = _
    rw [if_pos rfl]
  have hnl : ¬ Lv (aMove A d e) d := fun z => by
    have := z.2
    rw [aMove_0] at this
    have hde := hne d hd
    rw [if_neg hde, if_pos rfl] at this
    omega
  refine JA_tr hJ (fun x hx => ?_) (fun x hx => ?_) (fun x hx hx2 => ?_) (fun t u ht hu => ?_)
  · have h1 := hnd x hx
    have h2 := hne x hx.1
    refine ⟨⟨hx.1.1, by rw [hj 0 x (by omega) h1 h2]; exact hx.1.2⟩, hj 9 x (by omega) h1 h2, hj 10 x (by omega) h1 h2, hj 11 x (by omega) h1 h2, fun z => ?_⟩
    show (if x = e then A.1 3 d else if x = d then (if 3 = 0 then 0 else A.1 3 d) else if 3 = 3 ∧ A.1 3 x = (d : Int) + 1 then (e : Int) + 1 else A.1 3 x) ≠ 0
    rw [if_neg h2, if_neg h1]
    split
    · omega
    · exact z
  · by_cases c : x = e
    · subst c
      rcases hx.2 with w | w
      · rw [he910 9 (by omega)] at w; exact absurd h9 w
      · rw [he910 10 (by omega)] at w; exact absurd h10 w
    · have c2 : x ≠ d := fun z => hnl (z ▸ hx.1)
      refine ⟨hx.1.1, ?_⟩
      have := hx.1.2
      rw [hj 0 x (by omega) c2 c] at this; exact this
  · have c2 : x ≠ d := fun z => hnl (z ▸ hx2)
    exact ⟨hj 9 x (by omega) c2 (hne x hx), hj 10 x (by omega) c2 (hne x hx)⟩
  · have := bl_move h hd he he2 h' ht.1 (dep u) u (Nat.le_refl _) hu.1
    unfold rho at this
    rw [if_neg (hnd t ht), if_neg (hnd u hu)] at this
    exact this
theorem JA_giv {n S : Nat} {A1 : Ab} {dep1 : Nat → Nat} {t : Int} {q e : Nat} {J : List Jb} {N : Int} (hP : GP n S A1 dep1 t q e) : ∀ (post pre : List Nat) (A : Ab) (dep : Nat → Nat), stL A1 q (pg t) = pre ++ post → GI n S A1 q e A dep pre → JA A J N → (∀ x, x ∈ post → A.1 9 x = 0 ∧ A.1 10 x = 0) → JA (aGiv q e A post) J N := by
  have hnd := stL_nodup A1 q (pg t)
  intro post
  induction post with
  | nil => intro pre A dep _ _ hJ _; exact hJ
  | cons x post ih =>
    intro pre A dep hl hI hJ h0
    obtain ⟨s1, s2, s3, s4, s5, s6, s7, dep', s8⟩ := GI_step hP hl hI
    have hnl : ¬ Lv A (e + (x - q)) := fun z => by
      have h1 := s7 _ z
      have h2 := pgs_pos hI.1 z
      have h3 := pgs_pos hI.1 s1
      omega
    have hx0 := h0 x (by simp)
    have hJ' := JA_move hI.1 hJ s1 hnl s3 s8.1 hx0.1 hx0.2
    rw [hl] at hnd
    refine ih (pre ++ [x]) _ dep' (by rw [hl]; simp) s8 hJ' (fun y hy => ?_)
    have hyx : y ≠ x := fun z => by
      have := (List.nodup_cons.mp (List.nodup_append.mp hnd).2.1).1
      exact this (z ▸ hy)
    have hyl : Lv A y := by
      refine (hI.2.1 y ?_ ?_).1
      · exact (GP_mem hP (by rw [hl]; simp [hy])).1
      · intro z
        exact (List.nodup_append.mp hnd).2.2 y z y (by simp [hy]) rfl
    have hye : y ≠ e + (x - q) := fun z => hnl (z ▸ hyl)
    have hy0 := h0 y (by simp [hy])
    have hj : ∀ j, j ≠ 3 → (aMove A x (e + (x - q))).1 j y = A.1 j y := fun j h1 => by
      show (if y = e + (x - q) then A.1 j x else if y = x then (if j = 0 then 0 else A.1 j x) else if j = 3 ∧ A.1 3 y = (x : Int) + 1 then ((e + (x - q) : Nat) : Int) + 1 else A.1 j y) = _
      rw [if_neg hye, if_neg hyx, if_neg (fun z => h1 z.1)]
    rw [hj 9 (by omega), hj 10 (by omega)]; exact hy0
theorem JA_map {n S : Nat} {A0 : Ab} {dep0 : Nat → Nat} {t r : Int} {q0 e0 : Nat} {J : List Jb} {N : Int} (hP : MP n S A0 dep0 t r q0 e0) (hJ : JA A0 J N) : ∃ dep', MI n S A0 t q0 e0 (aMap A0 t r q0 e0 (thr A0 q0 t)) dep' (thr A0 q0 t) ∧ JA (aMap A0 t r q0 e0 (thr A0 q0 t)) J N := by
  have key : ∀ (post pre : List Nat) (A : Ab) (dep : Nat → Nat), thr A0 q0 t = pre ++ post → MI n S A0 t q0 e0 A dep pre → ∃ dep', MI n S A0 t q0 e0 (post.foldl (mstep A0 t r q0 e0) A) dep' (pre ++ post) := by
    intro post
    induction post with
    | nil => intro pre A dep _ hI; exact ⟨dep, by simpa using hI⟩
    | cons x post ih =>
      intro pre A dep hl hI
      obtain ⟨-, -, -, dep', s⟩ := MI_step hP hl hI
      obtain ⟨dep'', s'⟩ := ih (pre ++ [x]) _ dep' (by rw [hl]; simp) s
      exact ⟨dep'', by simpa using s'⟩
  obtain ⟨dep', hI⟩ := key (thr A0 q0 t) [] A0 dep0 rfl (MI_start hP)
  refine ⟨dep', hI, JA_more hP.1 hJ hI.2.1 (fun x hx => ?_)⟩
  rcases hI.2.2 x hx with z | ⟨y, -, -, -, z1, z2⟩
  · exact .inl z
  · exact .inr ⟨z1, z2⟩
