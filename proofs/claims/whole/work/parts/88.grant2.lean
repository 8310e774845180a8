/-! ===== giving away: class and reference alike ===== -/
theorem thr_cov {n S : Nat} {A : Ab} {dep : Nat → Nat} (h : WF n S A dep) {q d : Nat} {t : Int} (ht1 : 1 ≤ t) (ht2 : t ≤ 4) (hq : q < 192) (hal : q % pg t = 0) (hc : cov A q = some d) : d ∈ thr A q t := by
  have hpt := pg_pos ht1 ht2
  unfold thr
  rw [hc]
  dsimp only
  by_cases z : t < A.1 0 d
  · rw [if_pos z]; simp
  · rw [if_neg z]
    have := (big_cov h ht1 ht2 hq hal hc).2 z
    have hl := (cs_some hq hc).1.2
    rw [stL_mem]; omega
theorem GP_cut {n S : Nat} {A A1 : Ab} {dep dep1 : Nat → Nat} {t : Int} {q e : Nat} (ht1 : 1 ≤ t) (ht2 : t ≤ 4) (hq : q < 192) (hqa : q % pg t = 0) (hqS : q % 32 + pg t ≤ S) (hS : S ≤ 32) (he : e < 192) (hea : e % pg t = 0) (hen : e / 32 < n) (heS : e % 32 + pg t ≤ S) (hne : e / 32 ≠ q / 32) (hf : pgc A e (pg t) = 0) (hct : CT n S A A1 dep1 q t) : GP n S A1 dep1 t q e := by
  obtain ⟨c1, c2, c3, c4, c5, c6, c7, c8⟩ := hct
  refine ⟨c1, ht1, ht2, hq, hqa, hqS, he, hea, hen, heS, hne, fun k hk => ?_, fun d hd => by have := (c7 d hd).1; omega⟩
  have h1 := c3 (e + k) (by omega)
  have h2 := pgc_0 hf hk
  unfold ctn at h1
  rw [h2] at h1
  cases hc : cov A1 (e + k) with
  | none => rfl
  | some d => rw [hc] at h1; simp at h1
theorem WD_give {n S : Nat} {A1 A' : Ab} {dep : Nat → Nat} {q e : Nat} {l : List Nat} {B1 B' : Nat → Int} (hw : WD B1 A1) (hI : GI n S A1 q e A' dep l) (hB : ∀ j, 1920 ≤ j → B' j = gB A1 q e l B1 j) : WD B' A' := by
  intro y hy hy1
  have hwd : 1920 ≤ wdc y := by unfold wdc; omega
  rw [hB _ hwd]
  unfold gB
  rcases hI.2.2 y hy with ⟨c1, c2, c3⟩ | ⟨z, c1, c2, c3⟩
  · split
    · rfl
    · exact hw y c1 (by rw [← c3]; exact hy1)
  · rw [if_pos]
    unfold gM
    rw [List.any_eq_true]
    refine ⟨z, c1, ?_⟩
    rw [c3] at hy1
    simp [hy1, c2]
theorem T9_move {A : Ab} {d e : Nat} (h9 : T9 A) (hd : Lv A d) : T9 (aMove A d e) := fun y hy => by
  have hy2 := hy.2
  rw [aMove_0] at hy2
  have e9 : (aMove A d e).1 9 y = if y = e then A.1 9 d else if y = d then A.1 9 d else A.1 9 y := by
    show (if y = e then A.1 9 d else if y = d then (if (9 : Nat) = 0 then 0 else A.1 9 d) else if (9 : Nat) = 3 ∧ A.1 3 y = (d : Int) + 1 then (e : Int) + 1 else A.1 9 y) = _
    rw [if_neg (show ¬ (9 : Nat) = 0 by decide), if_neg (show ¬ ((9 : Nat) = 3 ∧ A.1 3 y = (d : Int) + 1) from fun c => absurd c.1 (by decide))]
  rw [e9]
  by_cases u : y = e
  · rw [if_pos u]; exact h9 d hd
  · rw [if_neg u] at hy2 ⊢
    by_cases v : y = d
    · rw [if_pos v]; exact h9 d hd
    · rw [if_neg v] at hy2 ⊢; exact h9 y ⟨hy.1, hy2⟩
theorem T9_give {n S : Nat} {A1 : Ab} {dep1 : Nat → Nat} {t : Int} {q e : Nat} (hP : GP n S A1 dep1 t q e) : ∀ (post pre : List Nat) (dep : Nat → Nat), stL A1 q (pg t) = pre ++ post → GI n S A1 q e (aGiv q e A1 pre) dep pre → T9 (aGiv q e A1 pre) → T9 (aGiv q e A1 (stL A1 q (pg t))) := by
  intro post
  induction post with
  | nil => intro pre dep hl hI h; rw [List.append_nil] at hl; rw [hl]; exact h
  | cons x post ih =>
    intro pre dep hl hI h
    obtain ⟨g1, -, -, -, -, -, -, dep', g8⟩ := GI_step hP hl hI
    refine ih (pre ++ [x]) dep' (by rw [hl]; simp) (by rw [aGiv_snoc]; exact g8) (by rw [aGiv_snoc]; exact T9_move h g1)
/-- what giving away leaves -/
def GO (n S : Nat) (A A' : Ab) (dep : Nat → Nat) (nc : Nat) : Prop := (A' = A ∧ nc = 0) ∨ ∃ t q e dep1, CT n S A (aCut t q 3 A) dep1 q t ∧ GP n S (aCut t q 3 A) dep1 t q e ∧ (∀ x, x ∈ thr A q t → td A x = false) ∧ A' = aGiv q e (aCut t q 3 A) (stL (aCut t q 3 A) q (pg t)) ∧ nc = nCut t q 3 A
def GOut (n S : Nat) (A : Ab) (dep : Nat → Nat) (δ : Sl) (μ : Sl) (b : Nat) (B : Nat → Int) (R1 R2 : Option (Int32 × Sl)) : Prop :=
  ∃ v δ' σ' bn' μ' B' A' dep' nc, R1 = some (zI v, δ') ∧ R2 = some (zI v, bst μ' b B') ∧ -6 ≤ v ∧ v ≤ 8 ∧ v ≠ -1 ∧ (v < 0 → δ' = δ ∧ B' = B ∧ A' = A) ∧ CRep δ' σ' bn' A' ∧ MRep B' A' ∧ WF n S A' dep' ∧ WB δ' B' ∧ WD B' A' ∧ T9 A' ∧ SC μ μ' ∧ GO n S A A' dep nc ∧ (∀ a i, a ≠ 15 → (a < 17 ∨ 33 < a) → δ' a i = δ a i) ∧ δ' 17 19 = δ 17 19 + zI (nc : Int) ∧ (∀ j, 1944 ≤ j → j ≠ 2198 → B' j = B j) ∧ B' 2198 = B 2198 + (nc : Int) ∧ QMq μ n S B B'
theorem give_away {n S : Nat} {A : Ab} {dep : Nat → Nat} {δ : Sl} {σ : Nat → Nat} {bn : Nat} {M : Mem} {μ : Sl} {b : Nat} {B : Nat → Int} {qv : Nat → Int} (h : WF n S A dep) (hC : CRep δ σ bn A) (hb : MB μ b) (hM : MRep B A) (h9 : T9 A) (hW : WB δ B) (hwd : WD B A) (hK : SK M δ n S qv) (hm : SM μ n S qv) (hn : SN n S qv) {sf st p p1 : Nat} {t : Int} (hh : HN n S sf st p p1 t 1) :
    GOut n S A dep δ μ b B (Wo_giveAway M δ (zI (sf : Int)) (zI (4 * (p : Int) + (t - 1))) (zI (st : Int)) (zI (p1 : Int))) (Mo_granted (bst μ b B) (zI (sf : Int)) (zI (4 * (p : Int) + (t - 1))) (zI (st : Int)) (zI (p1 : Int))) := by
  obtain ⟨μ', hS, hT, hmod⟩ := m_grant h hb hM h9 hm hn hh
  have hcl := c_grant h hC hK hn hh
  obtain ⟨f1, f2, f3, f4, f5, f6, f7, f8, f9⟩ := HN_facts hh hn
  obtain ⟨a1, a2, a3, ht1, ht2, a4, a5, -, -⟩ := hh
  have same : ∀ (v : Int) (R1 R2 : Option (Int32 × Sl)), -6 ≤ v → v < -1 → R1 = some (zI v, δ) → R2 = some (zI v, bst μ' b B) → GOut n S A dep δ μ b B R1 R2 := fun v R1 R2 h1 h2 e1 e2 => ⟨v, δ, σ, bn, μ', B, A, dep, 0, e1, e2, h1, by omega, by omega, fun _ => ⟨rfl, rfl, rfl⟩, hC, hM, h, hW, hwd, h9, hS, .inl ⟨rfl, rfl⟩, fun _ _ _ _ => rfl, by rw [show zI ((0 : Nat) : Int) = 0 from rfl]; simp, fun _ _ _ => rfl, by simp, QMq.refl _ _ _ _⟩
  by_cases c1 : thr A (32 * sf + p) t = []
  · rw [if_pos c1] at hcl hmod; exact same (-2) _ _ (by omega) (by omega) hcl hmod
  · rw [if_neg c1] at hcl hmod
    by_cases c2 : (thr A (32 * sf + p) t).any (td A) = true
    · rw [if_pos c2] at hcl hmod; exact same (-3) _ _ (by omega) (by omega) hcl hmod
    · rw [if_neg c2] at hcl hmod
      by_cases c3 : pgc A (32 * st + p1) (pg t) ≠ 0
      · rw [if_pos c3] at hcl hmod; exact same (-4) _ _ (by omega) (by omega) hcl hmod
      · rw [if_neg c3] at hcl hmod
        by_cases c5 : qxB A qv st (pgc A (32 * sf + p) (pg t)) = true
        · rw [if_pos c5] at hcl hmod; exact same (-5) _ _ (by omega) (by omega) hcl hmod
        · rw [if_neg c5] at hcl hmod
          clear same
          have hq : 32 * sf + p < 192 := by omega
          have hqa := al32 (s := sf) ht1 ht2 f6
          have hea := al32 (s := st) ht1 ht2 f7
          have htd : ∀ x, x ∈ thr A (32 * sf + p) t → td A x = false := fun x hx => by
            cases z : td A x with
            | false => rfl
            | true => exact absurd (List.any_eq_true.mpr ⟨x, hx, z⟩) c2
          have hNT : ∀ d, cov A (32 * sf + p) = some d → NTs A d := fun d hd => (td_NTs h (cs_some hq hd).1 (htd d (thr_cov h ht1 ht2 hq hqa hd))).1
          have e1 : (32 * (sf : Int) + (p : Int)).toNat = 32 * sf + p := by omega
          obtain ⟨dep1, hct⟩ := cut_ok ht1 hq 3 A dep h (fun d hd => ⟨hNT d hd, by have := (h.2.2.2.1 d (cs_some hq hd).1).1; omega⟩)
          have hP := GP_cut (dep := dep) ht1 ht2 hq hqa (by omega) f5 (e := 32 * st + p1) (by omega) hea (by omega) (by omega) (by omega) (by simpa using c3) hct
          obtain ⟨δ1, σ1, bn1, dep2, k1, k2, k3, k4, k5, k6⟩ := c_cut (s := (sf : Int)) (p := (p : Int)) (by omega) (by omega) (by omega) (by omega) ht1 ht2 3 FU 0 δ σ bn A dep (by omega) (FU_gt (by omega)) h hC (by rw [e1]; exact hNT)
          rw [e1] at k2 k3 k6
          obtain ⟨μ1, B1, m1, m2, m3, m4, m5, m6⟩ := mr_cut (s := (sf : Int)) (p := (p : Int)) (by omega) (by omega) (by omega) (by omega) ht1 ht2 (SC_MB hS hb) h hM hwd (by rw [e1]; exact hNT)
          rw [e1] at m3 m4 m6
          have hb1 := SC_MB m2 (SC_MB hS hb)
          generalize hA1 : aCut t (32 * sf + p) 3 A = A1 at *
          obtain ⟨μ2, n1, n2, n3⟩ := m_looks hb1 hct.1 m3 f1 ht1 ht2 (p := p) (by omega)
          rw [GP_thr hP] at n2
          have hW1 : WB δ1 B1 := fun s hs => by rw [k5 15 s (by omega), m5 _ (by omega) (by omega), m5 _ (by omega) (by omega), m5 _ (by omega) (by omega), m5 _ (by omega) (by omega)]; exact hW s hs
          have e0 : stL A1 (32 * sf + p) 0 = [] := rfl
          obtain ⟨δ2, σ2, bn2, r1, r2, r3, r4, r5, r6⟩ := c_give_loop (B1 := B1) (by omega) (by omega) hP M (pg t) FU 0 δ1 σ1 bn1 dep1 (by omega) (FU_gt (by omega)) (by rw [e0]; exact GI_start hP) (by rw [e0]; exact k3) (by rw [e0, gB_nil]; exact hW1)
          obtain ⟨B2, s1, s2, ⟨dep3, s3⟩, s4⟩ := m_give_loop (B1 := B1) (SC_MB n3 hb1) (by omega) (by omega) hP n2 (stL A1 (32 * sf + p) (pg t)) [] FU B1 dep1 rfl (by have := stL_len A1 (32 * sf + p) (pg t); exact FU_gt (by omega)) (GI_start hP) m3 (fun j _ => by rw [gB_nil])
          have hT1 : T9 A1 := fun y hy => by
            by_cases z : Lv A y
            · rw [hct.2.2.2.1 y 9 z (by omega)]; exact h9 y z
            · rw [(hct.2.2.2.2.1 y hy z).1]; omega
          have hlen := stL_len A1 (32 * sf + p) (pg t)
          have hlt : ∀ j, 1944 ≤ j → gB A1 (32 * sf + p) (32 * st + p1) (stL A1 (32 * sf + p) (pg t)) B1 j = B1 j := fun j hj => by
            unfold gB
            rw [if_neg]
            unfold gM
            rw [List.any_eq_true]
            rintro ⟨x, hx, hx2⟩
            simp only [Bool.and_eq_true, decide_eq_true_eq] at hx2
            have hx3 := hx2.2
            have := GP_mem hP hx
            have := pgs_pos hct.1 this.1
            unfold wdc at hx3
            omega
          refine ⟨((stL A1 (32 * sf + p) (pg t)).length : Int), δ2, σ2, bn2, μ2, B2, _, dep3, nCut t (32 * sf + p) 3 A, ?_, ?_, by omega, by omega, by omega, fun z => by omega, r2, s2, s3.1, fun s hs => by rw [r6 s hs, s4 _ (by omega), s4 _ (by omega), s4 _ (by omega), s4 _ (by omega)], WD_give m4 s3 s4, T9_give hP _ [] dep1 rfl (GI_start hP) hT1, SC_trans hS (SC_trans m2 n3), .inr ⟨t, 32 * sf + p, 32 * st + p1, dep1, by rw [hA1]; exact hct, by rw [hA1]; exact hP, htd, by rw [hA1], rfl⟩, fun a i h1 h2 => by rw [r4 a i h1 (by omega), k5 a i (by omega)], by rw [r5, k6], fun j hj hj2 => by rw [s4 j (by omega), hlt j hj, m5 j (by omega) hj2], by rw [s4 _ (by omega), hlt _ (by omega), m6], QMq.mk hm hn (give_QL h hct hP hM s2 (by rw [show (32 * st + p1) / 32 = st by omega]; exact Bool.eq_false_iff.mpr c5))⟩
          · rw [hcl]
            have k1' : De_cut_3 FU (zI (sf : Int)) (zI (p : Int)) (zI (t - 1)) (zI 0) δ = some ((), δ1) := k1
            rw [k1', bd_some]
            exact r1
          · rw [hmod, m1, bd_some, n1, bd_some]
            exact s1
