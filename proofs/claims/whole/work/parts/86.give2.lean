/-! ===== giving away: both loops ===== -/
def gM (A : Ab) (q e : Nat) (l : List Nat) (k : Nat) : Bool := l.any (fun x => decide (1 < A.1 0 x) && decide (k = wdc (e + (x - q))))
def gB (A : Ab) (q e : Nat) (l : List Nat) (B : Nat → Int) : Nat → Int := fun k => if gM A q e l k then 1 else B k
theorem gB_nil (A : Ab) (q e : Nat) (B : Nat → Int) : gB A q e [] B = B := by funext k; simp [gB, gM]
theorem gB_snoc (A : Ab) (q e : Nat) (l : List Nat) (B : Nat → Int) (x k : Nat) : gB A q e (l ++ [x]) B k = if 1 < A.1 0 x ∧ k = wdc (e + (x - q)) then 1 else gB A q e l B k := by
  unfold gB gM
  rw [List.any_append]
  by_cases h2 : 1 < A.1 0 x ∧ k = wdc (e + (x - q))
  · rw [if_pos h2]; simp [h2]
  · rw [if_neg h2]
    have : ([x].any fun x => decide (1 < A.1 0 x) && decide (k = wdc (e + (x - q)))) = false := by
      simp; exact fun z w => h2 ⟨z, w⟩
    rw [this, Bool.or_false]
theorem m_give_loop {n S : Nat} {A1 : Ab} {dep1 : Nat → Nat} {t : Int} {sf p st p1 b : Nat} {μ : Sl} {B1 : Nat → Int} (hb : MB μ b) (hp32 : p < 32) (hp1 : p1 < 32) (hP : GP n S A1 dep1 t (32 * sf + p) (32 * st + p1)) (hT : TH μ (stL A1 (32 * sf + p) (pg t))) : ∀ (post pre : List Nat) (k : Nat) (B : Nat → Int) (dep : Nat → Nat), stL A1 (32 * sf + p) (pg t) = pre ++ post → post.length < k → GI n S A1 (32 * sf + p) (32 * st + p1) (aGiv (32 * sf + p) (32 * st + p1) A1 pre) dep pre → MRep B (aGiv (32 * sf + p) (32 * st + p1) A1 pre) → (∀ j, 1920 ≤ j → B j = gB A1 (32 * sf + p) (32 * st + p1) pre B1 j) →
    ∃ B', Mo_granted_156 k (zI (st : Int)) (zI (p1 : Int)) (zI (p : Int)) (zI (pre.length : Int)) (bst μ b B) = some (zI ((stL A1 (32 * sf + p) (pg t)).length : Int), bst μ b B') ∧ MRep B' (aGiv (32 * sf + p) (32 * st + p1) A1 (stL A1 (32 * sf + p) (pg t))) ∧ (∃ dep', GI n S A1 (32 * sf + p) (32 * st + p1) (aGiv (32 * sf + p) (32 * st + p1) A1 (stL A1 (32 * sf + p) (pg t))) dep' (stL A1 (32 * sf + p) (pg t))) ∧ ∀ j, 1920 ≤ j → B' j = gB A1 (32 * sf + p) (32 * st + p1) (stL A1 (32 * sf + p) (pg t)) B1 j := by
  have hlen8 : (stL A1 (32 * sf + p) (pg t)).length ≤ 8 := by have := stL_len A1 (32 * sf + p) (pg t); have := pg_pos hP.2.1 hP.2.2.1; omega
  have hmem : ∀ x, x ∈ stL A1 (32 * sf + p) (pg t) → _ := fun x hx => GP_mem hP hx
  have hP' := hP
  obtain ⟨h0, ht1, ht2, hq, hqa, hqS, he, hea, hen, heS, hne, hfree, hsm⟩ := hP'
  have hS32 := h0.2.1
  intro post
  induction post with
  | nil =>
    intro pre k B dep hl hk hI hM hB
    obtain ⟨c, rfl⟩ : ∃ c, k = c + 1 := ⟨k - 1, by omega⟩
    simp at hl
    have e30 : bst μ b B 34 30 = zI (pre.length : Int) := by rw [bst_ne _ _ _ (by decide)]; rw [← hl]; exact hT.1
    rw [hl] at hlen8 ⊢
    refine ⟨B, ?_, hM, ⟨dep, hI⟩, hB⟩
    rw [Mo_granted_156, e30, if_pos (by rw [zI_le (by omega) (by omega) (by omega) (by omega)]; omega)]
  | cons x q ih =>
    intro pre k B dep hl hk hI hM hB
    obtain ⟨c, rfl⟩ : ∃ c, k = c + 1 := ⟨k - 1, by omega⟩
    have hlen : (stL A1 (32 * sf + p) (pg t)).length = pre.length + q.length + 1 := by rw [hl]; simp; omega
    have e30 : bst μ b B 34 30 = zI ((pre.length + q.length + 1 : Nat) : Int) := by rw [bst_ne _ _ _ (by decide), hT.1, hlen]
    have hlx : bst μ b B 47 pre.length = zI (x : Int) := by rw [bst_ne _ _ _ (by decide)]; exact hT.2 pre.length x (by rw [hl]; simp)
    obtain ⟨g1, g2, g3, g4, g5, g6, g7, dep', g8⟩ := GI_step hP hl hI
    obtain ⟨m1, m2, m3, m4⟩ := hmem x (by rw [hl]; simp)
    have hpx := pgs_pos h0 m1
    have hx192 := m1.1
    have hnl : ¬ Lv (aGiv (32 * sf + p) (32 * st + p1) A1 pre) (32 * st + p1 + (x - (32 * sf + p))) := fun z => by
      have := g7 _ z; have := pgs_pos hI.1 z; have := pgs_pos hI.1 g1; omega
    obtain ⟨B', f1, f2, f3⟩ := mr_move hb hI.1 hM g1 g3 hnl
    have hl2 : stL A1 (32 * sf + p) (pg t) = (pre ++ [x]) ++ q := by rw [hl]; simp
    obtain ⟨B2, r1, r2, r3, r4⟩ := ih (pre ++ [x]) c B' dep' hl2 (by simp at hk; omega) (by rw [aGiv_snoc]; exact g8) (by rw [aGiv_snoc]; exact f2) (fun j hj => by rw [f3 j hj, gB_snoc, g2, hB j hj])
    refine ⟨B2, ?_, r2, r3, r4⟩
    rw [← r1]
    have htgt : zI 32 * zI (st : Int) + zI (p1 : Int) + (zI (x : Int) - zI (x : Int) / zI 32 * zI 32) - zI (p : Int) = zI ((32 * st + p1 + (x - (32 * sf + p)) : Nat) : Int) := by
      rw [zI_div (by omega) (by omega) (by omega) (by omega)]
      simp only [zI_mul, zI_add, zI_sub]
      congr 1; omega
    have hstep : (zI (pre.length : Int)) + zI 1 = zI ((pre ++ [x]).length : Int) := by rw [zI_add]; simp
    have hib : inb (zI (pre.length : Int)) 8 := by rw [zI_inb (by omega) (by omega)]; omega
    rw [Mo_granted_156, e30, if_neg (by rw [zI_le (by omega) (by omega) (by omega) (by omega)]; omega), if_pos hib, if_pos hib, if_pos (by decide), zI_ix (by omega) (by omega), Int.toNat_natCast, hlx, show (32 : Int32) = zI 32 from rfl, htgt, f1, bd_some, bnd_ap, show (1 : Int32) = zI 1 from rfl, hstep]
theorem c_give_loop {n S : Nat} {A1 : Ab} {dep1 : Nat → Nat} {t : Int} {sf p st p1 : Nat} {B1 : Nat → Int} (hp32 : p < 32) (hp1 : p1 < 32) (hP : GP n S A1 dep1 t (32 * sf + p) (32 * st + p1)) (M : Mem) : ∀ (m k i : Nat) (δ : Sl) (σ : Nat → Nat) (bn : Nat) (dep : Nat → Nat), i + m = pg t → m < k → GI n S A1 (32 * sf + p) (32 * st + p1) (aGiv (32 * sf + p) (32 * st + p1) A1 (stL A1 (32 * sf + p) i)) dep (stL A1 (32 * sf + p) i) → CRep δ σ bn (aGiv (32 * sf + p) (32 * st + p1) A1 (stL A1 (32 * sf + p) i)) → WB δ (gB A1 (32 * sf + p) (32 * st + p1) (stL A1 (32 * sf + p) i) B1) →
    ∃ δ' σ' bn', Wo_giveAway_137 M k (zI (sf : Int)) (zI (st : Int)) (zI (p1 : Int)) (zI (p : Int)) (zI (pg t : Int)) (zI ((stL A1 (32 * sf + p) i).length : Int)) (zI (i : Int)) δ = some (zI ((stL A1 (32 * sf + p) (pg t)).length : Int), δ') ∧ CRep δ' σ' bn' (aGiv (32 * sf + p) (32 * st + p1) A1 (stL A1 (32 * sf + p) (pg t))) ∧ (∀ y, Lv A1 y → y ∉ stL A1 (32 * sf + p) (pg t) → σ' y = σ y) ∧ (∀ a i, a ≠ 15 → (a < 17 ∨ 32 < a) → δ' a i = δ a i) ∧ δ' 17 19 = δ 17 19 ∧ WB δ' (gB A1 (32 * sf + p) (32 * st + p1) (stL A1 (32 * sf + p) (pg t)) B1) := by
  have hmem : ∀ x, x ∈ stL A1 (32 * sf + p) (pg t) → _ := fun x hx => GP_mem hP hx
  have hP' := hP
  obtain ⟨h0, ht1, ht2, hq, hqa, hqS, he, hea, hen, heS, hne, hfree, hsm⟩ := hP'
  have hS32 := h0.2.1
  have hn6 := h0.1
  have hpt := pg_pos ht1 ht2
  intro m
  induction m with
  | zero =>
    intro k i δ σ bn dep hm hk hI hC hW
    obtain ⟨c, rfl⟩ : ∃ c, k = c + 1 := ⟨k - 1, by omega⟩
    have : i = pg t := by omega
    subst this
    refine ⟨δ, σ, bn, ?_, hC, fun _ _ _ => rfl, fun _ _ _ _ => rfl, rfl, hW⟩
    rw [Wo_giveAway_137, if_pos (by rw [zI_le (by omega) (by omega) (by omega) (by omega)]; omega)]
  | succ m ih =>
    intro k i δ σ bn dep hm hk hI hC hW
    obtain ⟨c, rfl⟩ : ∃ c, k = c + 1 := ⟨k - 1, by omega⟩
    have hsub : ∀ y, y ∈ stL A1 (32 * sf + p) i → y ∈ stL A1 (32 * sf + p) (pg t) := fun y hy => by
      rw [stL_mem]; have := stL_mem.mp hy; omega
    have hf := cr_find hC.2.1 (s := (sf : Int)) (p := ((p + i : Nat) : Int)) (by omega) (by omega) (by omega) (by omega)
    rw [show (32 * (sf : Int) + ((p + i : Nat) : Int)).toNat = 32 * sf + p + i by omega] at hf
    have hll := stL_len A1 (32 * sf + p) i
    have h202 : ∀ (v : Int32) (s : Sl), Wo_giveAway_202 (Wo_giveAway_137 M c) M (zI (sf : Int)) (zI (st : Int)) (zI (p1 : Int)) (zI (p : Int)) (zI (pg t : Int)) v (zI (i : Int)) s = Wo_giveAway_137 M c (zI (sf : Int)) (zI (st : Int)) (zI (p1 : Int)) (zI (p : Int)) (zI (pg t : Int)) v (zI ((i + 1 : Nat) : Int)) s := fun v s => by
      unfold Wo_giveAway_202; rw [bnd_ap, show (1 : Int32) = zI 1 from rfl, zI_add]; rfl
    rw [Wo_giveAway_137, if_neg (by rw [zI_le (by omega) (by omega) (by omega) (by omega)]; omega), zI_add, show (p : Int) + (i : Int) = ((p + i : Nat) : Int) by omega, hf, bp_some, bnd_ap]
    by_cases hs : 0 < A1.1 0 (32 * sf + p + i)
    · have hst : stL A1 (32 * sf + p) (i + 1) = stL A1 (32 * sf + p) i ++ [32 * sf + p + i] := by rw [stL_succ, if_pos hs]
      obtain ⟨post, hl⟩ : ∃ post, stL A1 (32 * sf + p) (pg t) = stL A1 (32 * sf + p) i ++ (32 * sf + p + i) :: post := by
        refine ⟨stL A1 (32 * sf + p + (i + 1)) (pg t - (i + 1)), ?_⟩
        have := stL_add A1 (32 * sf + p) (i + 1) (pg t - (i + 1))
        rw [show i + 1 + (pg t - (i + 1)) = pg t by omega, hst] at this
        rw [this]; simp
      obtain ⟨g1, g2, g3, g4, g5, g6, g7, dep', g8⟩ := GI_step hP hl hI
      rw [show 32 * sf + p + i - (32 * sf + p) = i by omega] at g3 g4 g5 g6 g7 g8
      obtain ⟨k1, k2⟩ := cr_move hI.1 hC g1 g3 g4 g5 g6 g7
      have hcv := cs_self (WF_WS hI.1) g1
      have b1 := cr_lt hC g1
      have g1' := g1.1
      obtain ⟨w1, -⟩ := h0.2.2.2.1 _ (show Lv A1 (32 * sf + p + i) from ⟨g1', hs⟩)
      have e1 : (32 * st + p1 + i) / 32 = st := by omega
      have e2 : (32 * st + p1 + i) % 32 = p1 + i := by omega
      rw [e1, e2] at k1
      have hA0 : (aMove (aGiv (32 * sf + p) (32 * st + p1) A1 (stL A1 (32 * sf + p) i)) (32 * sf + p + i) (32 * st + p1 + i)).1 0 (32 * st + p1 + i) = A1.1 0 (32 * sf + p + i) := by rw [aMove_0, if_pos rfl, g2]
      have lv2 : Lv (aMove (aGiv (32 * sf + p) (32 * st + p1) A1 (stL A1 (32 * sf + p) i)) (32 * sf + p + i) (32 * st + p1 + i)) (32 * st + p1 + i) := ⟨g3, by rw [hA0]; exact hs⟩
      obtain ⟨-, -, -, c4, -⟩ := k2.2.2.1 _ lv2
      dsimp only at c4
      rw [if_pos rfl, hA0] at c4
      generalize hD : movS δ (σ (32 * sf + p + i)) (32 * sf + p + i) (32 * st + p1 + i) ((aGiv (32 * sf + p) (32 * st + p1) A1 (stL A1 (32 * sf + p) i)).1 0 (32 * sf + p + i)) = D at *
      have hfr : ∀ a j, (a < 17 ∨ 32 < a) → D a j = δ a j := fun a j ha => by
        rw [← hD]; unfold movS; rw [if_neg (by omega), if_neg (by omega), if_neg (by omega)]
      have hf19 : D 17 19 = δ 17 19 := by rw [← hD]; unfold movS; rw [if_neg (by omega), if_neg (by omega), if_neg (by omega)]
      have hWD : WB D (gB A1 (32 * sf + p) (32 * st + p1) (stL A1 (32 * sf + p) i) B1) := fun s' hs' => by rw [hfr 15 s' (by omega)]; exact hW s' hs'
      obtain ⟨δ3, x1, x2, x3⟩ := c_widen hWD M (s := st) (p := p1 + i) (o := A1.1 0 (32 * sf + p + i)) (by omega) (by omega) (by omega) w1
      have hC3 := cr_frame k2 (fun a j h1 h2 => x2 a j (by omega)) (x2 _ _ (by omega)) (x2 _ _ (by omega)) (x2 _ _ (by omega))
      have hW3 := x3 (gB A1 (32 * sf + p) (32 * st + p1) (stL A1 (32 * sf + p) (i + 1)) B1) (fun j _ _ => by rw [hst, gB_snoc, show 32 * sf + p + i - (32 * sf + p) = i by omega, Nat.add_assoc (32 * st) p1 i])
      have hag : aGiv (32 * sf + p) (32 * st + p1) A1 (stL A1 (32 * sf + p) (i + 1)) = aMove (aGiv (32 * sf + p) (32 * st + p1) A1 (stL A1 (32 * sf + p) i)) (32 * sf + p + i) (32 * st + p1 + i) := by rw [hst, aGiv_snoc, show 32 * sf + p + i - (32 * sf + p) = i by omega]
      obtain ⟨δ', σ', bn', r1, r2, r3, r4, r5, r6⟩ := ih c (i + 1) δ3 _ bn dep' (by omega) (by omega) (by rw [hag, hst]; exact g8) (by rw [hag]; exact hC3) hW3
      refine ⟨δ', σ', bn', ?_, r2, fun y hy hyn => ?_, fun a j h1 h2 => by rw [r4 a j h1 h2, x2 a j h1, hfr a j h2], by rw [r5, x2 17 19 (by omega), hf19], r6⟩
      · rw [← r1, hcv]
        have hsc : sc σ (some (32 * sf + p + i)) = (σ (32 * sf + p + i) : Int) := rfl
        have hlen : (stL A1 (32 * sf + p) (i + 1)).length = (stL A1 (32 * sf + p) i).length + 1 := by rw [hst]; simp
        rw [hsc, if_neg (by rw [zI_lit, zI_lt (by omega) (by omega) (by omega) (by omega)]; omega), zI_add, show (p1 : Int) + (i : Int) = ((p1 + i : Nat) : Int) by omega, k1, bd_some, if_pos (by rw [zI_inb (by omega) (by omega)]; omega), zI_ix (by omega) (by omega), Int.toNat_natCast, c4, x1, bd_some, bnd_ap, show (1 : Int32) = zI 1 from rfl, zI_add, h202, hlen]
        rfl
      · rw [r3 y hy hyn]
        refine if_neg fun z => ?_
        have := hfree i (by omega)
        rw [← z, cs_self (WF_WS h0) hy] at this
        cases this
    · have hst : stL A1 (32 * sf + p) (i + 1) = stL A1 (32 * sf + p) i := by rw [stL_succ, if_neg hs]; simp
      have hcv : cov (aGiv (32 * sf + p) (32 * st + p1) A1 (stL A1 (32 * sf + p) i)) (32 * sf + p + i) = none := by
        cases hc : cov (aGiv (32 * sf + p) (32 * st + p1) A1 (stL A1 (32 * sf + p) i)) (32 * sf + p + i) with
        | none => rfl
        | some d =>
          exfalso
          obtain ⟨z1, z2, z3⟩ := cs_some (by omega) hc
          rcases hI.2.2 d z1 with ⟨c1, c2, c3⟩ | ⟨z, c1, c2, c3⟩
          · have hpd : pgs (aGiv (32 * sf + p) (32 * st + p1) A1 (stL A1 (32 * sf + p) i)) d = pgs A1 d := by unfold pgs; rw [c3]
            rw [hpd] at z3
            have hd2 := c1.2
            by_cases u : d = 32 * sf + p + i
            · subst u; exact hs hd2
            · by_cases v : 32 * sf + p ≤ d
              · exact c2 (stL_mem.mpr ⟨v, by omega, hd2⟩)
              · have hcq := cs_of (WF_WS h0) c1 (q := 32 * sf + p) (by omega) (by omega)
                have := (big_cov h0 ht1 ht2 hq hqa hcq).2 (hsm d hcq)
                omega
          · have hz := hmem z (hsub z c1)
            have hpd : pgs (aGiv (32 * sf + p) (32 * st + p1) A1 (stL A1 (32 * sf + p) i)) d = pgs A1 z := by unfold pgs; rw [c3]
            rw [hpd] at z3
            omega
      obtain ⟨δ', σ', bn', r1, r2⟩ := ih c (i + 1) δ σ bn dep (by omega) (by omega) (by rw [hst]; exact hI) (by rw [hst]; exact hC) (by rw [hst]; exact hW)
      refine ⟨δ', σ', bn', ?_, r2⟩
      rw [← r1, hcv, if_pos (show zI (sc σ none) < 0 by show zI (-1) < 0; rw [zI_lit, zI_lt (by omega) (by omega) (by omega) (by omega)]; decide), h202, hst]
