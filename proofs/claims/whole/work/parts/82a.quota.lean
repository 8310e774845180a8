/-! ===== pages and quotas ===== -/
/-- pages of a space, by the orders -/
def pgF (f : Nat → Int) (s : Nat) : Nat := fb_sm (fun p => pg (f (32 * s + p))) 32
def QB (n : Nat) (qv : Nat → Int) (B : Nat → Int) : Prop := ∀ s : Nat, 1 ≤ s → s < n → (pgF B s : Int) ≤ qv s
/-- no space gets more pages, but up to its quota -/
def QL (n : Nat) (qv : Nat → Int) (B B' : Nat → Int) : Prop := ∀ s : Nat, 1 ≤ s → s < n → pgF B' s ≤ pgF B s ∨ (pgF B' s : Int) ≤ qv s
theorem QL.qb {n : Nat} {qv : Nat → Int} {B B' : Nat → Int} (h : QL n qv B B') (hb : QB n qv B) : QB n qv B' := fun s h1 h2 => by
  rcases h s h1 h2 with z | z
  · have := hb s h1 h2; omega
  · exact z
theorem pgF_cong {f g : Nat → Int} (h : ∀ k, k < 192 → g k = f k) {s : Nat} (hs : s < 6) : pgF g s = pgF f s := fb_sm_cong (fun p hp => by rw [h _ (by omega)])
theorem QL.same {n : Nat} {qv : Nat → Int} {B B' : Nat → Int} (hn : n ≤ 6) (h : ∀ k, k < 192 → B' k = B k) : QL n qv B B' := fun s _ h2 => .inl (by rw [pgF_cong h (by omega)]; exact Nat.le_refl _)
theorem QL.refl (n : Nat) (qv : Nat → Int) (B : Nat → Int) : QL n qv B B := fun _ _ _ => .inl (Nat.le_refl _)
theorem QL.trans {n : Nat} {qv : Nat → Int} {B B' B'' : Nat → Int} (h : QL n qv B B') (h' : QL n qv B' B'') : QL n qv B B'' := fun s h1 h2 => by
  rcases h' s h1 h2 with z | z
  · rcases h s h1 h2 with y | y
    · exact .inl (by omega)
    · exact .inr (by omega)
  · exact .inr z
theorem QL.le {n : Nat} {qv : Nat → Int} {B B' : Nat → Int} (h : ∀ s, s < n → pgF B' s ≤ pgF B s) : QL n qv B B' := fun s _ h2 => .inl (h s h2)
def updF (f : Nat → Int) (d : Nat) (v : Int) : Nat → Int := fun x => if x = d then v else f x
theorem pgF_upd (f : Nat → Int) {d : Nat} (v : Int) (s : Nat) : pgF (updF f d v) s + (if d / 32 = s then pg (f d) else 0) = pgF f s + (if d / 32 = s then pg v else 0) := by
  by_cases z : d / 32 = s
  · rw [if_pos z, if_pos z]
    have e : (fun p => pg (updF f d v (32 * s + p))) = fun p => if p = d - 32 * s then pg v else pg (f (32 * s + p)) := by
      funext p
      unfold updF
      by_cases y : p = d - 32 * s
      · rw [if_pos (by omega), if_pos y]
      · rw [if_neg (by omega), if_neg y]
    have u := fb_sm_upd (fun p => pg (f (32 * s + p))) (pg v) (i := d - 32 * s) (n := 32) (by omega)
    try dsimp only at u
    rw [show 32 * s + (d - 32 * s) = d by omega] at u
    unfold pgF
    rw [e]
    exact u
  · rw [if_neg z, if_neg z]
    unfold pgF
    rw [fb_sm_cong (f := fun p => pg (updF f d v (32 * s + p))) (g := fun p => pg (f (32 * s + p))) (fun p hp => by unfold updF; rw [if_neg (by omega)])]
theorem pg_le0 {o o' : Int} (h : o' = o ∨ o' = 0) : pg o' ≤ pg o := by
  rcases h with h | h
  · rw [h]; exact Nat.le_refl _
  · rw [h]; exact Nat.zero_le _
theorem pgF_le {f g : Nat → Int} (h : ∀ k, k < 192 → g k = f k ∨ g k = 0) {s : Nat} (hs : s < 6) : pgF g s ≤ pgF f s := fb_sm_le (fun p hp => pg_le0 (h _ (by omega)))
section
variable {n S : Nat} {A : Ab} {dep : Nat → Nat}
theorem pgF_pgc (h : WF n S A dep) {s : Nat} (hs : s < 6) : pgF (A.1 0) s = pgc A (32 * s) 32 := by
  have hS := h.2.1
  rw [← pages_sum h hs]
  unfold pgF
  have e := fb_sm_split (fun p => pg (A.1 0 (32 * s + p))) S (32 - S)
  rw [show S + (32 - S) = 32 by omega] at e
  rw [e]
  have z : fb_sm (fun k => pg (A.1 0 (32 * s + (S + k)))) (32 - S) = 0 := by
    rw [fb_sm_cong (g := fun _ => 0) (fun k hk => ?_), fb_sm_const, Nat.mul_zero]
    have h0 := h.2.2.2.2.2.2.2 (32 * s + (S + k)) (by omega)
    have hl : ¬ Lv A (32 * s + (S + k)) := fun zl => by
      have := (h.2.2.2.1 _ zl).2.2.2.1
      have := pgs_pos h zl
      omega
    have : A.1 0 (32 * s + (S + k)) = 0 := by
      have : ¬ 0 < A.1 0 (32 * s + (S + k)) := fun zz => hl ⟨by omega, zz⟩
      omega
    rw [this]; decide
  omega
theorem pgF_MR {B : Nat → Int} (hM : MRep B A) {s : Nat} (hs : s < 6) : pgF B s = pgF (A.1 0) s := pgF_cong (fun k hk => hM.1 k hk) hs
/-- a cut changes no pages -/
theorem pgF_cut {A1 : Ab} {dep1 : Nat → Nat} {q : Nat} {t : Int} (h : WF n S A dep) (hct : CT n S A A1 dep1 q t) {s : Nat} (hs : s < 6) : pgF (A1.1 0) s = pgF (A.1 0) s := by
  rw [pgF_pgc h hs, pgF_pgc hct.1 hs]
  unfold pgc
  refine fb_ct_cong (fun i hi => ?_)
  have := hct.2.2.1 (32 * s + i) (by omega)
  have h2 := congrArg Option.isSome this
  unfold ctn at h2
  rw [Option.isSome_map, Option.isSome_map] at h2
  exact h2
/-- handing on -/
theorem pgF_map {t r : Int} {q0 e0 : Nat} (hP : MP n S A dep t r q0 e0) (s : Nat) : ∀ (post pre : List Nat), thr A q0 t = pre ++ post → (∃ dep', MI n S A t q0 e0 (aMap A t r q0 e0 pre) dep' pre) → pgF ((aMap A t r q0 e0 pre).1 0) s ≤ pgF (A.1 0) s + (if e0 / 32 = s then sW A t r pre else 0) → pgF ((aMap A t r q0 e0 (thr A q0 t)).1 0) s ≤ pgF (A.1 0) s + (if e0 / 32 = s then sW A t r (thr A q0 t) else 0) := by
  have hS := hP.1.2.1
  intro post
  induction post with
  | nil => intro pre hl hI i2; rw [hl, List.append_nil]; exact i2
  | cons x post ih =>
    intro pre hl hI i2
    obtain ⟨dep', hI⟩ := hI
    obtain ⟨m1, m2, m3, dep2, m4⟩ := MI_step hP hl hI
    refine ih (pre ++ [x]) (by rw [hl]; simp) ⟨dep2, by rw [aMap_snoc]; exact m4⟩ ?_
    rw [aMap_snoc, sW_snoc]
    unfold mstep
    by_cases z : la (A.1 2 x) r = 0
    · rw [if_pos z, if_pos z, Nat.add_zero]; exact i2
    · rw [if_neg z, if_neg z]
      have hx : x ∈ thr A q0 t := by rw [hl]; simp
      have he : (e0 + moff A t q0 x) / 32 = e0 / 32 := by
        have h1 := hP.2.2.2.2.2.2.2.2.2.1
        have hlt : moff A t q0 x < pg t := by
          have hpg := pg_pos hP.2.1 hP.2.2.1
          rcases thr_cases hP.1 hP.2.1 hP.2.2.1 hP.2.2.2.1 hP.2.2.2.2.1 hP.2.2.2.2.2.1 hx with ⟨z1, z2, z3, z4⟩ | ⟨z1, z2, z3, z4⟩
          · unfold moff; rw [if_pos z1]; omega
          · have := pgs_pos hP.1 m1
            unfold moff; rw [if_neg z1]; omega
        omega
      have u := pgF_upd ((aMap A t r q0 e0 pre).1 0) (d := e0 + moff A t q0 x) (mo A t x) s
      have eA : (aAdd (aMap A t r q0 e0 pre) (e0 + moff A t q0 x) (mo A t x) (mfr A t q0 x) (la (A.1 2 x) r) ((x : Int) + 1) 0).1 0 = updF ((aMap A t r q0 e0 pre).1 0) (e0 + moff A t q0 x) (mo A t x) := by
        funext y
        unfold aAdd updF
        dsimp only
        by_cases w : y = e0 + moff A t q0 x
        · rw [if_pos w, if_pos w, if_pos rfl]
        · rw [if_neg w, if_neg w]
      rw [eA]
      rw [he] at u
      by_cases w : e0 / 32 = s
      · rw [if_pos w, if_pos w] at u
        rw [if_pos w] at i2 ⊢
        omega
      · rw [if_neg w, if_neg w] at u
        rw [if_neg w] at i2 ⊢
        omega
theorem map_QL {qv : Nat → Int} {B B' : Nat → Int} {t r : Int} {q0 e0 : Nat} (hP : MP n S A dep t r q0 e0) (hM : MRep B A) (hM' : MRep B' (aMap A t r q0 e0 (thr A q0 t))) (hq : qxB A qv (e0 / 32) (sW A t r (thr A q0 t)) = false) : QL n qv B B' := fun s h1 h2 => by
  have hn := hP.1.1
  have := pgF_map hP s (thr A q0 t) [] rfl ⟨dep, MI_start hP⟩ (Nat.le_add_right _ _)
  rw [pgF_MR hM (by omega), pgF_MR hM' (by omega)]
  by_cases z : e0 / 32 = s
  · right
    rw [if_pos z] at this
    unfold qxB at hq
    rw [decide_eq_false_iff_not, z, ← pgF_pgc hP.1 (by omega)] at hq
    omega
  · left
    rw [if_neg z] at this
    exact this
end
/-- the same, with the quotas that the reference has -/
def QMq (μ : Sl) (n S : Nat) (B B' : Nat → Int) : Prop := ∀ qv : Nat → Int, SM μ n S qv → SN n S qv → QL n qv B B'
section
variable {μ μ' : Sl} {n S : Nat} {B B' B'' : Nat → Int}
theorem QMq.refl (μ : Sl) (n S : Nat) (B : Nat → Int) : QMq μ n S B B := fun qv _ _ => QL.refl n qv B
theorem QMq.same (hn : n ≤ 6) (h : ∀ k, k < 192 → B' k = B k) : QMq μ n S B B' := fun _ _ _ => QL.same hn h
theorem QMq.le (h : ∀ s, s < n → pgF B' s ≤ pgF B s) : QMq μ n S B B' := fun _ _ _ => QL.le h
theorem QMq.MR {A A' : Ab} (hn : n ≤ 6) (hM : MRep B A) (hM' : MRep B' A') (h : ∀ s, s < 6 → pgF (A'.1 0) s ≤ pgF (A.1 0) s) : QMq μ n S B B' := QMq.le (fun s hs => by
  rw [pgF_MR hM (by omega), pgF_MR hM' (by omega)]; exact h s (by omega))
theorem SM_SC {qv : Nat → Int} (h : SM μ n S qv) (hs : SC μ μ') : SM μ' n S qv := by
  obtain ⟨h1, h2, h3⟩ := h
  refine ⟨by rw [hs _ _ (by omega) (by omega) (by omega)]; exact h1, by rw [hs _ _ (by omega) (by omega) (by omega)]; exact h2, fun s g1 g2 => ?_⟩
  rw [hs _ _ (by omega) (by omega) (by omega)]
  exact h3 s g1 g2
theorem QMq.trans (h : QMq μ n S B B') (hs : SC μ μ') (h' : QMq μ' n S B' B'') : QMq μ n S B B'' := fun qv hm hn => (h qv hm hn).trans (h' qv (SM_SC hm hs) hn)
theorem QMq.tr (h : QMq μ n S B B') (h' : QMq μ n S B' B'') : QMq μ n S B B'' := fun qv hm hn => (h qv hm hn).trans (h' qv hm hn)
theorem SM_one {qv qv' : Nat → Int} (h : SM μ n S qv) (hn : SN n S qv) (h' : SM μ n S qv') (hn' : SN n S qv') {s : Nat} (h1 : 1 ≤ s) (h2 : s < n) : qv' s = qv s := by
  have a := hn.2.2 s h1 h2
  have b := hn'.2.2 s h1 h2
  rcases h.2.2 s h1 h2 with x | ⟨x, x2⟩ <;> rcases h'.2.2 s h1 h2 with y | ⟨y, y2⟩
  · rw [x, zI_eq (by omega) (by omega) (by omega) (by omega)] at y; omega
  · rw [x, zI_eq (by omega) (by omega) (by omega) (by omega)] at y2; omega
  · rw [x2, zI_eq (by omega) (by omega) (by omega) (by omega)] at y; omega
  · omega
theorem QMq.mk {qv : Nat → Int} (hm : SM μ n S qv) (hn : SN n S qv) (h : QL n qv B B') : QMq μ n S B B' := fun qv' hm' hn' s h1 h2 => by
  rw [SM_one hm hn hm' hn' h1 h2]
  exact h s h1 h2
end
