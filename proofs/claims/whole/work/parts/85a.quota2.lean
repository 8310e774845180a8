/-! ===== pages of what is given away ===== -/
section
variable {n S : Nat} {A1 : Ab} {dep1 : Nat → Nat} {t : Int} {q e : Nat}
theorem pgF_giv (hP : GP n S A1 dep1 t q e) (s : Nat) : ∀ (post pre : List Nat), stL A1 q (pg t) = pre ++ post → (∃ dep, GI n S A1 q e (aGiv q e A1 pre) dep pre) → pgF ((aGiv q e A1 pre).1 0) s ≤ pgF (A1.1 0) s + (if e / 32 = s then (pre.map (fun x => pg (A1.1 0 x))).sum else 0) → pgF ((aGiv q e A1 (stL A1 q (pg t))).1 0) s ≤ pgF (A1.1 0) s + (if e / 32 = s then ((stL A1 q (pg t)).map (fun x => pg (A1.1 0 x))).sum else 0) := by
  have hS := hP.1.2.1
  intro post
  induction post with
  | nil => intro pre hl hI i2; rw [hl, List.append_nil]; exact i2
  | cons x post ih =>
    intro pre hl hI i2
    obtain ⟨dep', hI⟩ := hI
    obtain ⟨m1, m2, m3, m4, m5, m6, m7, dep2, m8⟩ := GI_step hP hl hI
    have hx := GP_mem hP (x := x) (by rw [hl]; simp)
    have hpx := pgs_pos hP.1 hx.1
    have he1 := hP.2.2.2.2.2.2.2.2.2.1
    have he : (e + (x - q)) / 32 = e / 32 := by omega
    refine ih (pre ++ [x]) (by rw [hl]; simp) ⟨dep2, by rw [aGiv_snoc]; exact m8⟩ ?_
    rw [aGiv_snoc]
    generalize aGiv q e A1 pre = A at *
    have eA : (aMove A x (e + (x - q))).1 0 = updF (updF (A.1 0) x 0) (e + (x - q)) (A1.1 0 x) := by
      funext y
      unfold aMove updF
      dsimp only
      by_cases w : y = e + (x - q)
      · rw [if_pos w, if_pos w, m2]
      · rw [if_neg w, if_neg w]
        by_cases w2 : y = x
        · rw [if_pos w2, if_pos w2, if_pos rfl]
        · rw [if_neg w2, if_neg w2, if_neg (fun z => absurd z.1 (by decide))]
    rw [eA]
    have u1 := pgF_upd (A.1 0) (d := x) 0 s
    have u2 := pgF_upd (updF (A.1 0) x 0) (d := e + (x - q)) (A1.1 0 x) s
    have p0 : pg 0 = 0 := by decide
    rw [p0] at u1
    rw [he] at u2
    rw [List.map_append, List.sum_append, List.map_cons, List.map_nil, List.sum_cons, List.sum_nil]
    have z1 : (if x / 32 = s then 0 else 0) = 0 := by split <;> rfl
    rw [z1] at u1
    by_cases w : e / 32 = s
    · rw [if_pos w, if_pos w] at u2
      rw [if_pos w] at i2 ⊢
      omega
    · rw [if_neg w, if_neg w] at u2
      rw [if_neg w] at i2 ⊢
      omega
theorem give_QL {A : Ab} {dep : Nat → Nat} {qv : Nat → Int} {B B' : Nat → Int} (h : WF n S A dep) (hct : CT n S A A1 dep1 q t) (hP : GP n S A1 dep1 t q e) (hM : MRep B A) (hM' : MRep B' (aGiv q e A1 (stL A1 q (pg t)))) (hq : qxB A qv (e / 32) (pgc A q (pg t)) = false) : QL n qv B B' := fun s h1 h2 => by
  have hn := h.1
  obtain ⟨-, ht1, ht2, g1, g2, g3, -⟩ := id hP
  have hS := h.2.1
  have k := pgF_giv hP s (stL A1 q (pg t)) [] rfl ⟨dep1, GI_start hP⟩ (Nat.le_add_right _ _)
  rw [pgF_MR hM (by omega), pgF_MR hM' (by omega)]
  rw [pgF_cut h hct (by omega)] at k
  have hsum : ((stL A1 q (pg t)).map (fun x => pg (A1.1 0 x))).sum = pgc A q (pg t) := by
    have e1 := sG_pgc hP.1 ht1 ht2 g1 g2 g3
    rw [GP_thr hP] at e1
    have e2 : pgc A1 q (pg t) = pgc A q (pg t) := by
      unfold pgc
      refine fb_ct_cong (fun i hi => ?_)
      have h2 := congrArg Option.isSome (hct.2.2.1 (q + i) (by omega))
      unfold ctn at h2
      rw [Option.isSome_map, Option.isSome_map] at h2
      exact h2
    rw [← e2, ← e1]
    unfold sG
    refine congrArg List.sum (List.map_congr_left (fun x hx => ?_))
    unfold mo
    have := (GP_mem hP hx).2.2.2
    rw [if_neg (by omega)]
  by_cases z : e / 32 = s
  · right
    rw [if_pos z, hsum] at k
    unfold qxB at hq
    rw [decide_eq_false_iff_not, z, ← pgF_pgc h (by omega)] at hq
    omega
  · left
    rw [if_neg z] at k
    exact k
end
