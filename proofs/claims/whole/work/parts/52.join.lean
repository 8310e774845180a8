/-! ===== the class joins two halves ===== -/
theorem join_loop {σ : Nat → Nat} {bn d u : Nat} (hdu : d ≠ u) : ∀ (r : List Nat) (n i : Nat) (δ : Sl) (A : Ab), CRep δ σ bn A → KW A → Lv A d → Lv A u → A.2 u = r → i + r.length ≤ 192 → r.length < n →
    ∃ δ' A', De_join_15 n (zI (σ d : Int)) (zI (σ u : Int)) (enc σ (hd1 r)) (zI (i : Int)) δ = De_join_55 (zI (σ d : Int)) (zI (σ u : Int)) δ' ∧ CRep δ' σ bn A' ∧ KW A' ∧ (∀ a i, a < 23 ∨ 27 < a → δ' a i = δ a i) ∧ (∀ j x, j ≠ 3 → A'.1 j x = A.1 j x) ∧
      (∀ x, A'.1 3 x = if x ∈ r then (d : Int) + 1 else A.1 3 x) ∧ ∀ x, A'.2 x = if x = d then A.2 d ++ r else if x = u then [] else A.2 x := by
  intro r
  induction r with
  | nil =>
    intro n i δ A h hK hd hu e3 hi hn
    obtain ⟨m, rfl⟩ : ∃ m, n = m + 1 := ⟨n - 1, by omega⟩
    refine ⟨δ, A, ?_, h, hK, fun _ _ _ => rfl, fun _ _ _ => rfl, fun x => by simp, fun x => ?_⟩
    · rw [hd1_nil, enc_0, De_join_15]
      rw [if_pos (show zI (-1) < 0 by rw [zI_lit, zI_lt (by omega) (by omega) (by omega) (by omega)]; decide)]
      split <;> rfl
    · by_cases q1 : x = d
      · subst q1; simp
      · by_cases q2 : x = u
        · subst q2; simp [q1, e3]
        · simp [q1, q2]
  | cons x r ih =>
    intro n i δ A h hK hd hu e3 hi hn
    obtain ⟨m, rfl⟩ : ∃ m, n = m + 1 := ⟨n - 1, by omega⟩
    have hi2 : i + r.length + 1 ≤ 192 := by simp at hi; omega
    have hn2 : r.length < m := by simp at hn; omega
    have hx : Lv A x := (hK.1.1 u hu).2 x (by rw [e3]; simp)
    have b1 := cr_lt h hx
    have hnx := cr_next h hK hu (a := []) (by rw [e3]; rfl)
    have hxd := hK.2.2 u x hu (by rw [e3]; simp)
    have hndu := (hK.1.1 u hu).1
    rw [e3] at hndu
    obtain ⟨hxr, hndr⟩ := List.nodup_cons.mp hndu
    obtain ⟨δ1, t1, t2, t3, t4⟩ := cr_take h hK hx hu hxd
    generalize hA1 : setG A x 0 (upK A.2 u ((A.2 u).filter (fun y => decide (y ≠ x)))) = A1 at t2 t3
    have f13 : ∀ y, A1.1 3 y = if y = x then 0 else A.1 3 y := fun y => by rw [← hA1]; exact setG_3
    have f1n : ∀ j y, j ≠ 3 → A1.1 j y = A.1 j y := fun j y hj => by rw [← hA1]; exact setG_ne hj
    have f1l : ∀ y, Lv A1 y ↔ Lv A y := fun y => by rw [← hA1]; exact setG_lv
    have hfil : (A.2 u).filter (fun y => decide (y ≠ x)) = r := by
      rw [e3]; exact filt_split (a := []) hndu
    have f1k : ∀ y, A1.2 y = if y = u then r else A.2 y := fun y => by rw [← hA1, ← hfil]; rfl
    obtain ⟨δ2, s1, s2, s3, s4⟩ := cr_append t2 t3 ((f1l x).mpr hx) ((f1l d).mpr hd) (by rw [f13, if_pos rfl])
    generalize hA2 : setG A1 x ((d : Int) + 1) (upK A1.2 d (A1.2 d ++ [x])) = A2 at s2 s3
    have f23 : ∀ y, A2.1 3 y = if y = x then (d : Int) + 1 else A.1 3 y := fun y => by
      rw [← hA2, setG_3, f13]; by_cases q : y = x <;> simp [q]
    have f2n : ∀ j y, j ≠ 3 → A2.1 j y = A.1 j y := fun j y hj => by rw [← hA2, setG_ne hj, f1n j y hj]
    have f2l : ∀ y, Lv A2 y ↔ Lv A y := fun y => by rw [← hA2, setG_lv, f1l]
    have f2k : ∀ y, A2.2 y = if y = d then A.2 d ++ [x] else if y = u then r else A.2 y := fun y => by
      rw [← hA2]
      show upK A1.2 d (A1.2 d ++ [x]) y = _
      unfold upK
      rw [f1k, f1k, if_neg hdu]
    obtain ⟨δ', A', a1, a2, a3, a4, a5, a6, a7⟩ := ih m (i + 1) δ2 A2 s2 s3 ((f2l d).mpr hd) ((f2l u).mpr hu) (by rw [f2k, if_neg (Ne.symm hdu), if_pos rfl]) (by omega) hn2
    refine ⟨δ', A', ?_, a2, a3, fun a i ha => by rw [a4 a i ha, s4 a i ha, t4 a i ha], fun j y hj => by rw [a5 j y hj, f2n j y hj], fun y => ?_, fun y => ?_⟩
    · rw [hd1_cons, enc_s, De_join_15]
      simp (disch := omega) only [zI_lit, zI_le, zI_lt, if_neg, zI_inb, if_pos, zI_ix, Int.toNat_natCast, hnx, bnd_ap, t1, s1, bd_some, zI_add]
      exact a1
    · rw [a6, f23]
      by_cases q : y = x
      · subst q; simp
      · simp [q]
    · rw [a7, f2k, f2k, if_pos rfl]
      by_cases q1 : y = d
      · simp [q1]
      · by_cases q2 : y = u
        · simp [q1, q2]
        · simp [q1, q2]
theorem cr_join {n S : Nat} {A : Ab} {dep : Nat → Nat} {δ : Sl} {σ : Nat → Nat} {bn d u : Nat} {v : Int} (h : WF n S A dep) (hC : CRep δ σ bn A) (hd : Lv A d) (hl : Lv A u) (hu : u = d + pgs A d) (ho : A.1 0 u = A.1 0 d) (ho3 : A.1 0 d ≤ 3) (hal : d % (2 * pgs A d) = 0) (hfa : A.1 1 d % (2 * (pgs A d : Int)) = 0) (hfu : A.1 1 u = A.1 1 d + pgs A d) (hg : A.1 3 u = A.1 3 d) (ha1 : 0 ≤ v) (ha2 : v ≤ 1266679808)
    (hn1 : nn32 (FP.fadd (zI (A.1 8 d)).toUInt32 (zI (A.1 8 u)).toUInt32)) (hn2 : nn32 (FP.fdiv (FP.fadd (zI (A.1 8 d)).toUInt32 (zI (A.1 8 u)).toUInt32) FP.fconst2)) (hv : (FP.fdiv (FP.fadd (zI (A.1 8 d)).toUInt32 (zI (A.1 8 u)).toUInt32) FP.fconst2).toInt32 = zI v) :
    ∃ δ', De_join δ (zI (σ d : Int)) (zI (σ u : Int)) = some ((), δ') ∧ CRep δ' σ bn (aJoin A d u v) ∧ (∀ a i, a < 17 ∨ 32 < a → δ' a i = δ a i) ∧ δ' 17 19 = δ 17 19 := by
  have hWJ := WF_WS (WF_join h hd hl hu ho ho3 hal hfa hfu hg ha1 ha2)
  have hWS := WF_WS h
  have hKW := WF_KW h
  have hpd := pgs_pos h hd
  have hpc := pgs_cases h hd
  have hdu : d ≠ u := by omega
  have hwd := h.2.2.2.1 d hd
  have hlen : (A.2 u).length ≤ 192 := len192 (hKW.1.1 u hl).1 (fun x hx => ((hKW.1.1 u hl).2 x hx).1)
  have hσ := CS_SV hC.1
  have b1 := hσ.1 d hd
  have b2 := hσ.1 u hl
  -- the upper half leaves its giver
  have h1 : ∃ δ1 A1, De_takeFromGiver δ (zI (σ u : Int)) = some ((), δ1) ∧ CRep δ1 σ bn A1 ∧ KW A1 ∧ (∀ a i, a < 23 ∨ 27 < a → δ1 a i = δ a i) ∧ (∀ k x, A1.1 k x = if k = 3 ∧ x = u then 0 else A.1 k x) ∧ ∀ x, A1.2 x = if A.1 3 d = (x : Int) + 1 then (A.2 x).filter (fun y => decide (y ≠ u)) else A.2 x := by
    rcases gv_or h hl with ⟨g1, g2⟩ | ⟨g, g1, g2, g3⟩
    · obtain ⟨F, L, N, P, k1, k2, k3⟩ := hC.2.2.2.2
      refine ⟨δ, A, cp_take0 hσ k1 hl g1, hC, hKW, fun _ _ _ => rfl, fun k x => ?_, fun x => ?_⟩
      · by_cases q : k = 3 ∧ x = u
        · rw [if_pos q, q.1, q.2, g1]
        · rw [if_neg q]
      · rw [if_neg (by omega)]
    · obtain ⟨δ1, t1, t2, t3, t4⟩ := cr_take hC hKW hl g2 g1
      refine ⟨δ1, _, t1, t2, t3, t4, fun k x => rfl, fun x => ?_⟩
      show upK A.2 g ((A.2 g).filter (fun y => decide (y ≠ u))) x = _
      by_cases q : x = g
      · subst q; rw [upK_at, if_pos (by omega)]
      · rw [upK_ne _ _ q, if_neg (by omega)]
  obtain ⟨δ1, A1, x1, x2, x3, x4, x5, x6⟩ := h1
  have l1 : ∀ x, Lv A1 x ↔ Lv A x := fun x => by unfold Lv; rw [x5, if_neg (by omega)]
  have hk1 : A1.2 u = A.2 u := by
    rw [x6, if_neg]; intro e; rw [← hg] at e; have := gv_live h hl e; omega
  have hk1d : A1.2 d = A.2 d := by
    rw [x6, if_neg]; intro e; have := gv_live h hd e; omega
  have hfst : δ1 24 (σ u) = enc σ (hd1 (A.2 u)) := by have := cr_first x2 ((l1 u).mpr hl); rw [hk1] at this; exact this
  obtain ⟨δ2, A2, y1, y2, y3, y4, y5, y6, y7⟩ := join_loop hdu (A.2 u) FU 0 δ1 A1 x2 x3 ((l1 d).mpr hd) ((l1 u).mpr hl) hk1 (by omega) (FU_gt (by omega))
  have l2 : ∀ x, Lv A2 x ↔ Lv A x := fun x => by rw [← l1]; unfold Lv; rw [y5 0 x (by decide)]
  have f2 : ∀ k x, k ≠ 3 → A2.1 k x = A.1 k x := fun k x hk => by rw [y5 k x hk, x5, if_neg (fun z => hk z.1)]
  -- the age
  have h3 := cr_fld (a := 31) (j := 8) (v := v) y2 (by omega) ((l2 d).mpr hd)
  have f3 : ∀ k x, (setA A2 8 d v).1 k x = if k = 8 ∧ x = d then v else A2.1 k x := fun k x => rfl
  have l3 : ∀ x, Lv (setA A2 8 d v) x ↔ Lv A x := fun x => by rw [← l2]; unfold Lv; rw [f3, if_neg (by omega)]
  have hWS3 : WS (setA A2 8 d v) := by
    have e0 : ∀ x, (setA A2 8 d v).1 0 x = A.1 0 x := fun x => by rw [f3, if_neg (by omega), f2 0 x (by decide)]
    have hp : ∀ x, pgs (setA A2 8 d v) x = pgs A x := fun x => by unfold pgs; rw [e0]
    exact ⟨fun x hx => by rw [e0, hp]; exact hWS.1 x ((l3 x).mp hx), fun x y hx hy => by rw [hp, hp]; exact hWS.2.1 x y ((l3 x).mp hx) ((l3 y).mp hy), fun x hx => by rw [e0]; exact hWS.2.2 x hx⟩
  obtain ⟨r1, r2, r3, r4⟩ := rel_step (d := u) hWS3 ⟨h3.1, h3.2.1, h3.2.2.1, h3.2.2.2.1⟩ ((l3 u).mpr hl)
  have ou : (setA A2 8 d v).1 0 u = A.1 0 d := by rw [f3, if_neg (by omega), f2 0 u (by decide), ho]
  rw [ou] at r1 r2 r3 r4
  generalize hδ3 : wr δ2 31 (σ d) (zI v) = δ3 at *
  generalize hδ4 : relS δ3 (σ u) u (A.1 0 d) = δ4 at *
  generalize hA4 : setA (setA A2 8 d v) 0 u 0 = A4 at *
  have f4 : ∀ k x, A4.1 k x = if k = 0 ∧ x = u then 0 else if k = 8 ∧ x = d then v else A2.1 k x := fun k x => by rw [← hA4]; rfl
  have l4 : ∀ x, Lv A4 x ↔ Lv A x ∧ x ≠ u := fun x => by rw [← hA4, aZ_lv, l3]
  have l4d := (l4 d).mpr ⟨hd, hdu⟩
  obtain ⟨c1, c2, c3, c4, c5, c6, c7, c8, c9⟩ := r2.2.2.1 d l4d
  have o4d : A4.1 0 d = A.1 0 d := by rw [f4, if_neg (by omega), if_neg (by omega), f2 0 d (by decide)]
  rw [o4d] at c4
  -- the order grows
  have w4 : ∀ a i, ¬ (a = 21 ∧ i = σ d) → wr δ4 21 (σ d) (zI (A.1 0 d - 1 + 1)) a i = δ4 a i := fun a i q => if_neg q
  have w4d : wr δ4 21 (σ d) (zI (A.1 0 d - 1 + 1)) 21 (σ d) = zI (A.1 0 d + 1 - 1) := by
    rw [wr_ap, if_pos ⟨rfl, rfl⟩, show A.1 0 d - 1 + 1 = A.1 0 d + 1 - 1 by omega]
  have hpg1 : pg (A.1 0 d + 1) = 2 * pgs A d := by
    rcases hpc with ⟨e1, e2⟩ | ⟨e1, e2⟩ | ⟨e1, e2⟩ | ⟨e1, e2⟩
    · rw [e1, e2]; decide
    · rw [e1, e2]; decide
    · rw [e1, e2]; decide
    · omega
  have hend := (hWS.1 u hl).2.2
  have hpu : pgs A u = pgs A d := by unfold pgs; rw [ho]
  have hset := settleAt_eq (δ := wr δ4 21 (σ d) (zI (A.1 0 d - 1 + 1))) (j := σ d) (s := d / 32) (p := d % 32) (o := A.1 0 d + 1) (zI (σ d : Int)) b1 (by rw [w4 18 _ (by omega)]; exact c1) (by rw [w4 19 _ (by omega)]; exact c2) w4d (by have := hd.2; omega) (by omega) (by rw [hpg1]; omega)
  rw [hpg1, show 32 * (d / 32) + d % 32 = d by omega] at hset
  refine ⟨st32 (wr δ4 21 (σ d) (zI (A.1 0 d - 1 + 1))) d (d + 2 * pgs A d) (zI (σ d : Int)), ?_, ?_, ?_, ?_⟩
  · have hage1 : δ2 31 (σ d) = zI (A.1 8 d) := by
      have := (y2.2.2.1 d ((l2 d).mpr hd)).2.2.2.2.2.2.2.2; rw [f2 8 d (by decide)] at this; exact this
    have hage2 : δ2 31 (σ u) = zI (A.1 8 u) := by
      have := (y2.2.2.1 u ((l2 u).mpr hl)).2.2.2.2.2.2.2.2; rw [f2 8 u (by decide)] at this; exact this
    simp only [De_join, x1, bd_some]
    simp (disch := omega) only [zI_inb, if_pos, zI_ix, Int.toNat_natCast, hfst, bnd_ap]
    rw [show (0 : Int32) = zI ((0 : Nat) : Int) from rfl, y1]
    simp (disch := omega) only [De_join_55, zI_inb, if_pos, zI_ix, Int.toNat_natCast, hage1, hage2]
    rw [hv]
    simp (disch := omega) only [bnd_ap, hδ3, r1, bd_some, c4, zI_lit, zI_add, hset]
  · have st : ∀ a i, a ≠ 32 → ¬ (a = 21 ∧ i = σ d) → st32 (wr δ4 21 (σ d) (zI (A.1 0 d - 1 + 1))) d (d + 2 * pgs A d) (zI (σ d : Int)) a i = δ4 a i := fun a i q1 q2 => by
      unfold st32; rw [if_neg (fun z => q1 z.1), w4 a i q2]
    have e0 : ∀ x, x ≠ u → x ≠ d → (aJoin A d u v).1 0 x = A4.1 0 x := fun x q1 q2 => by
      rw [f4, if_neg (by omega), if_neg (by omega), f2 0 x (by decide)]; simp [aJoin, q1, q2]
    have e0d : (aJoin A d u v).1 0 d = A.1 0 d + 1 := by simp [aJoin, hdu]
    have e0u : (aJoin A d u v).1 0 u = 0 := by simp [aJoin]
    have ej : ∀ j x, j ≠ 0 → j ≠ 3 → (aJoin A d u v).1 j x = A4.1 j x := fun j x q1 q3 => by
      rw [f4, if_neg (fun z => q1 z.1), f2 j x q3]; simp [aJoin, q1, q3]; 
      by_cases w : x = d <;> by_cases w2 : j = 8 <;> simp [w, w2]
    have el : ∀ x, Lv (aJoin A d u v) x ↔ Lv A4 x := fun x => by
      rw [l4]
      by_cases q1 : x = u
      · subst q1; unfold Lv; rw [e0u]; simp
      · by_cases q2 : x = d
        · subst q2; unfold Lv; rw [e0d]; have := hd.1; have := hd.2; simp [hdu]; omega
        · unfold Lv; rw [e0 x q1 q2, f4, if_neg (by omega), if_neg (by omega), f2 0 x (by decide)]; simp [q1]
    have e3 : ∀ x, Lv A4 x → (aJoin A d u v).1 3 x = A2.1 3 x := fun x hx => by
      obtain ⟨hx1, hxu⟩ := (l4 x).mp hx
      rw [y6, x5, if_neg (c := 3 = 3 ∧ x = u) (fun z => hxu z.2)]
      have hm : x ∈ A.2 u ↔ A.1 3 x = (u : Int) + 1 := ⟨fun z => (kid_ne h hl z).2.1, fun z => (gv_live h hx1 z).2.1⟩
      simp only [hm]
      simp [aJoin]
    have ek : ∀ x, Lv A4 x → (aJoin A d u v).2 x = A2.2 x := fun x hx => by
      obtain ⟨hx1, hxu⟩ := (l4 x).mp hx
      rw [y7, hk1d]
      by_cases q : x = d
      · subst q; simp [aJoin]
      · rw [if_neg q, if_neg hxu, x6]; simp [aJoin, q]
    obtain ⟨⟨s1, s2, s3, s4, s5⟩, hq, hf, n1, n2, n3⟩ := r2
    refine ⟨⟨s1, by rw [st 17 16 (by decide) (by omega)]; exact s2, fun x hx => s3 x ((el x).mp hx), fun x y hx hy => s4 x y ((el x).mp hx) ((el y).mp hy), fun j h1 h2 => ?_⟩, fun q hq1 => ?_, fun x hx => ?_, ⟨?_, ?_, ?_⟩, ?_⟩
    · by_cases q : j = σ d
      · exact ⟨d, (el d).mpr l4d, q.symm⟩
      · rw [st 21 j (by decide) (fun z => q z.2)] at h2
        obtain ⟨x, hx, e⟩ := s5 j h1 h2
        exact ⟨x, (el x).mpr hx, e⟩
    · have pJ : pgs (aJoin A d u v) d = 2 * pgs A d := by unfold pgs at *; rw [e0d]; exact hpg1
      have p4 : ∀ x, Lv A4 x → pgs A4 x = pgs A x := fun x hx => by
        have := (l4 x).mp hx
        unfold pgs; rw [f4, if_neg (fun z => this.2 z.2), if_neg (by omega), f2 0 x (by decide)]
      have pJn : ∀ x, Lv A4 x → x ≠ d → pgs (aJoin A d u v) x = pgs A4 x := fun x hx q => by
        unfold pgs; rw [e0 x ((l4 x).mp hx).2 q]
      have hWS4 : WS A4 := by rw [← hA4]; exact WS_z hWS3 u
      by_cases hin : d ≤ q ∧ q < d + 2 * pgs A d
      · rw [cs_of hWJ ((el d).mpr l4d) hin.1 (by rw [pJ]; exact hin.2)]
        unfold st32; rw [if_pos ⟨rfl, hin⟩]; rfl
      · have hs : st32 (wr δ4 21 (σ d) (zI (A.1 0 d - 1 + 1))) d (d + 2 * pgs A d) (zI (σ d : Int)) 32 q = δ4 32 q := by
          unfold st32; rw [if_neg (fun z => hin z.2), w4 32 q (by omega)]
        rw [hs, hq q hq1]
        congr 2
        cases hc : cov A4 q with
        | none =>
          cases hc' : cov (aJoin A d u v) q with
          | none => rfl
          | some e =>
            obtain ⟨z1, z2, z3⟩ := cs_some hq1 hc'
            have z4 := (el e).mp z1
            by_cases q2 : e = d
            · subst q2; rw [pJ] at z3; omega
            · rw [pJn e z4 q2] at z3; have := cs_none hWS4 hc z4; omega
        | some e =>
          obtain ⟨z1, z2, z3⟩ := cs_some hq1 hc
          by_cases q2 : e = d
          · subst q2; rw [p4 e z1] at z3; omega
          · exact (cs_of hWJ ((el e).mpr z1) z2 (by rw [pJn e z1 q2]; exact z3)).symm
    · have hx4 := (el x).mp hx
      obtain ⟨g1, g2, g3, g4, g5, g6, g7, g8, g9⟩ := hf x hx4
      unfold CF
      rw [st 18 _ (by decide) (by omega), st 19 _ (by decide) (by omega), st 20 _ (by decide) (by omega), st 22 _ (by decide) (by omega), st 28 _ (by decide) (by omega), st 29 _ (by decide) (by omega), st 30 _ (by decide) (by omega), st 31 _ (by decide) (by omega), ej 1 x (by decide) (by decide), ej 2 x (by decide) (by decide), ej 8 x (by decide) (by decide), ej 9 x (by decide) (by decide), ej 10 x (by decide) (by decide), ej 11 x (by decide) (by decide)]
      refine ⟨g1, g2, g3, ?_, g5, g6, g7, g8, g9⟩
      by_cases q : x = d
      · subst q; rw [e0d]; unfold st32; rw [if_neg (by omega)]; exact w4d
      · rw [st 21 _ (by decide) (fun z => q (s4 x d hx4 l4d z.2)), e0 x ((l4 x).mp hx4).2 q]; exact g4
    · have e : nlv (aJoin A d u v) = nlv A4 := fb_ct_cong (fun k hk => by
        have := el k; unfold Lv at this
        simp only [hk, true_and] at this
        rw [decide_eq_decide]; exact this)
      rw [st 17 17 (by decide) (by omega), n1, e]
    · have e : ntp (aJoin A d u v) = ntp A4 := fb_ct_cong (fun k hk => by
        have := el k; unfold Lv at this
        simp only [hk, true_and] at this
        rw [ej 9 k (by decide) (by decide)]
        congr 1
        rw [decide_eq_decide]; exact this)
      rw [st 17 18 (by decide) (by omega), n2, e]
    · intro x hx; rw [ej 9 x (by decide) (by decide)]; exact n3 x ((el x).mp hx)
    · obtain ⟨F, L, N, P, k1, k2, k3⟩ := y2.2.2.2.2
      have pf : ∀ a i, a = 23 ∨ a = 24 ∨ a = 25 ∨ a = 26 ∨ a = 27 → st32 (wr δ4 21 (σ d) (zI (A.1 0 d - 1 + 1))) d (d + 2 * pgs A d) (zI (σ d : Int)) a i = δ2 a i := fun a i ha => by
        rw [st a i (by omega) (by omega), r3 a i (by omega) (by omega) (by omega), ← hδ3, wr_ap, if_neg (by omega)]
      refine ⟨F, L, N, P, fun x hx => ?_, fun x hx => ?_, fun x hx h0 => ?_⟩
      · have hx4 := (el x).mp hx
        rw [pf 24 _ (by omega), pf 25 _ (by omega), pf 26 _ (by omega), pf 27 _ (by omega), pf 23 _ (by omega), e3 x hx4]
        exact k1 x ((l2 x).mpr ((l4 x).mp hx4).1)
      · have hx4 := (el x).mp hx
        rw [ek x hx4]; exact k2 x ((l2 x).mpr ((l4 x).mp hx4).1)
      · have hx4 := (el x).mp hx
        rw [e3 x hx4] at h0; exact k3 x ((l2 x).mpr ((l4 x).mp hx4).1) h0
  · intro a i ha
    unfold st32; rw [if_neg (by omega), w4 a i (by omega), r3 a i (by omega) (by omega) (by omega), ← hδ3, wr_ap, if_neg (by omega), y4 a i (by omega), x4 a i (by omega)]
  · unfold st32; rw [if_neg (by omega), w4 17 19 (by omega), r4 19 (by decide) (by decide), ← hδ3, wr_ap, if_neg (by omega), y4 17 19 (by omega), x4 17 19 (by omega)]
