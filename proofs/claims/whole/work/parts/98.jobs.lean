/-! ===== what the jobs keep ===== -/
theorem bl_tr {n S : Nat} {A : Ab} {dep : Nat → Nat} (h : WF n S A dep) {a b : Nat} (hab : bl A a b = true) : ∀ (k x : Nat), dep x ≤ k → Lv A x → bl A b x = true → bl A a x = true := by
  intro k
  induction k with
  | zero =>
    intro x hk hx hb
    rcases gv_or h hx with ⟨g1, -⟩ | ⟨g, g1, g2, g3⟩
    · rw [bl_root g1] at hb; simp at hb; rw [hb]; exact hab
    · omega
  | succ k ih =>
    intro x hk hx hb
    rcases gv_or h hx with ⟨g1, -⟩ | ⟨g, g1, g2, g3⟩
    · rw [bl_root g1] at hb; simp at hb; rw [hb]; exact hab
    · rw [bl_step h b hx g1] at hb
      simp at hb
      rcases hb with e | hb
      · rw [e]; exact hab
      · rw [bl_step h a hx g1, ih g (by omega) g2 hb]; simp
theorem bl_trans {n S : Nat} {A : Ab} {dep : Nat → Nat} (h : WF n S A dep) {a b x : Nat} (hx : Lv A x) (hab : bl A a b = true) (hbx : bl A b x = true) : bl A a x = true := bl_tr h hab (dep x) x (Nat.le_refl _) hx hbx
theorem bl_cm {n S : Nat} {A : Ab} {dep : Nat → Nat} (h : WF n S A dep) {a b : Nat} : ∀ (k x : Nat), dep x ≤ k → Lv A x → bl A a x = true → bl A b x = true → bl A a b = true ∨ bl A b a = true := by
  intro k
  induction k with
  | zero =>
    intro x hk hx ha hb
    rcases gv_or h hx with ⟨g1, -⟩ | ⟨g, g1, g2, g3⟩
    · rw [bl_root g1] at ha hb; simp at ha hb; rw [← ha, ← hb]; exact .inl (bl_self A x)
    · omega
  | succ k ih =>
    intro x hk hx ha hb
    rcases gv_or h hx with ⟨g1, -⟩ | ⟨g, g1, g2, g3⟩
    · rw [bl_root g1] at ha hb; simp at ha hb; rw [← ha, ← hb]; exact .inl (bl_self A x)
    · by_cases e1 : x = a
      · rw [← e1]; exact .inr hb
      · by_cases e2 : x = b
        · rw [← e2]; exact .inl ha
        · rw [bl_step h a hx g1] at ha
          rw [bl_step h b hx g1] at hb
          simp [e1] at ha; simp [e2] at hb
          exact ih g (by omega) g2 ha hb
theorem bl_cmp {n S : Nat} {A : Ab} {dep : Nat → Nat} (h : WF n S A dep) {a b x : Nat} (hx : Lv A x) (ha : bl A a x = true) (hb : bl A b x = true) : bl A a b = true ∨ bl A b a = true := bl_cm h (dep x) x (Nat.le_refl _) hx ha hb
theorem bl_lv {n S : Nat} {A : Ab} {dep : Nat → Nat} (h : WF n S A dep) {a x : Nat} (hx : Lv A x) (ha : bl A a x = true) : Lv A a := (bl_dep h (dep x) x (Nat.le_refl _) hx ha).1
theorem bl_anti {n S : Nat} {A : Ab} {dep : Nat → Nat} (h : WF n S A dep) {a x : Nat} (hx : Lv A x) (ha : bl A a x = true) (hb : bl A x a = true) : a = x := by
  have h1 := bl_dep h (dep x) x (Nat.le_refl _) hx ha
  have h2 := bl_dep h (dep a) a (Nat.le_refl _) h1.1 hb
  rcases h1.2.2 with e | e
  · exact e.symm
  · omega
theorem bsy_iff {n S : Nat} {A : Ab} {dep : Nat → Nat} (h : WF n S A dep) {x : Nat} (hx : Lv A x) : bsy A x = true ↔ ∃ t, Lv A t ∧ bl A t x = true ∧ A.1 9 t ≠ 0 := by
  unfold bsy
  rw [any1_iff h _ (dep x) x (Nat.le_refl _) hx]
  simp
theorem nb_beneath {n S : Nat} {A : Ab} {dep : Nat → Nat} (h : WF n S A dep) {d z : Nat} (hd : Lv A d) (hz : Lv A z) (hN : NTs A d) (hB : bsy A d = false) (hb : bl A d z = true) : bsy A z = false := by
  cases hh : bsy A z with
  | false => rfl
  | true =>
    obtain ⟨t, t1, t2, t3⟩ := (bsy_iff h hz).mp hh
    rcases bl_cmp h hz hb t2 with c | c
    · exact absurd (hN t t1 c) t3
    · have := (bsy_iff h hd).mpr ⟨t, t1, c, t3⟩
      rw [hB] at this; cases this
theorem bsy_halve {n S : Nat} {A : Ab} {dep dep' : Nat → Nat} (hW : WF n S A dep) {x : Nat} (hx : Lv A x) (ho : 2 ≤ A.1 0 x) (hk : ∀ y, y ∈ A.2 x → A.1 0 y < A.1 0 x) (h9 : A.1 9 x = 0) (hW' : WF n S (aHalve A x) dep') :
    (∀ y, Lv A y → bsy (aHalve A x) y = bsy A y) ∧ bsy (aHalve A x) (x + hfA A x) = bsy A x := by
  obtain ⟨b1, b2, b3⟩ := bl_halve hW hx ho hk
  have hu := hv_u hW hx ho
  have hlv := hv_lv hW hx ho
  have h9t : ∀ t, Lv (aHalve A x) t → (aHalve A x).1 9 t ≠ 0 → Lv A t ∧ t ≠ x ∧ A.1 9 t ≠ 0 := fun t t1 t2 => by
    rcases (hlv t).mp t1 with rfl | t3
    · rw [hv_9u hW] at t2; exact absurd h9 t2
    · rw [hv_n hW hx ho (fun e => hu.1 (e ▸ t3)) (by decide) (by decide)] at t2
      exact ⟨t3, fun e => t2 (e ▸ h9), t2⟩
  have h9b : ∀ t, Lv A t → A.1 9 t ≠ 0 → Lv (aHalve A x) t ∧ t ≠ x ∧ (aHalve A x).1 9 t ≠ 0 := fun t t1 t2 => ⟨(hlv t).mpr (.inr t1), fun e => t2 (e ▸ h9), by rw [hv_n hW hx ho (fun e => hu.1 (e ▸ t1)) (by decide) (by decide)]; exact t2⟩
  refine ⟨fun y hy => ?_, ?_⟩
  · rw [Bool.eq_iff_iff, bsy_iff hW' ((hlv y).mpr (.inr hy)), bsy_iff hW hy]
    constructor
    · rintro ⟨t, t1, t2, t3⟩
      obtain ⟨u1, u2, u3⟩ := h9t t t1 t3
      exact ⟨t, u1, by rw [← b1 t y u1 hy u2]; exact t2, u3⟩
    · rintro ⟨t, t1, t2, t3⟩
      obtain ⟨u1, u2, u3⟩ := h9b t t1 t3
      exact ⟨t, u1, by rw [b1 t y t1 hy u2]; exact t2, u3⟩
  · rw [Bool.eq_iff_iff, bsy_iff hW' ((hlv _).mpr (.inl rfl)), bsy_iff hW hx]
    constructor
    · rintro ⟨t, t1, t2, t3⟩
      obtain ⟨u1, u2, u3⟩ := h9t t t1 t3
      exact ⟨t, u1, by rw [← b2 t u1 u2]; exact t2, u3⟩
    · rintro ⟨t, t1, t2, t3⟩
      obtain ⟨u1, u2, u3⟩ := h9b t t1 t3
      exact ⟨t, u1, by rw [b2 t t1 u2]; exact t2, u3⟩
theorem bsy_fold {n S : Nat} {o : Int} (ho : 2 ≤ o) : ∀ (m : Nat) (pre : List Nat) (A : Ab) (dep : Nat → Nat), pre.length = m → WF n S A dep → SI A dep o pre →
    (∀ y, Lv A y → Lv (pre.foldr (fun x A' => aHalve A' x) A) y ∧ bsy (pre.foldr (fun x A' => aHalve A' x) A) y = bsy A y) ∧ ∀ y, Lv (pre.foldr (fun x A' => aHalve A' x) A) y → ¬ Lv A y → ∃ z, z ∈ pre ∧ bsy (pre.foldr (fun x A' => aHalve A' x) A) y = bsy A z := by
  intro m
  induction m with
  | zero =>
    intro pre A dep hm hW hS
    have : pre = [] := List.length_eq_zero_iff.mp hm
    subst this
    exact ⟨fun y hy => ⟨hy, rfl⟩, fun y h1 h2 => absurd h1 h2⟩
  | succ m ih =>
    intro pre A dep hm hW hS
    rcases List.eq_nil_or_concat pre with rfl | ⟨pre', x, rfl⟩
    · simp at hm
    · simp at hm
      rw [List.concat_eq_append] at hS
      obtain ⟨hx, hxo, hxt, hk, hW', hSI'⟩ := SI_step hW ho hS
      have ho' : 2 ≤ A.1 0 x := by omega
      obtain ⟨b1, b2⟩ := bsy_halve hW hx ho' hk hxt hW'
      obtain ⟨i1, i2⟩ := ih pre' _ _ hm hW' hSI'
      have hlv := hv_lv hW hx ho'
      have e : (pre' ++ [x]).foldr (fun x A' => aHalve A' x) A = pre'.foldr (fun x A' => aHalve A' x) (aHalve A x) := by simp [List.foldr_append]
      rw [List.concat_eq_append, e]
      refine ⟨fun y hy => ?_, fun y hy hn => ?_⟩
      · obtain ⟨j1, j2⟩ := i1 y ((hlv y).mpr (.inr hy))
        exact ⟨j1, by rw [j2, b1 y hy]⟩
      · by_cases c : Lv (aHalve A x) y
        · have hy' := (i1 y c).2
          rcases (hlv y).mp c with z | z
          · exact ⟨x, by simp, by rw [hy', z, b2]⟩
          · exact absurd z hn
        · obtain ⟨z, z1, z2⟩ := i2 y hy c
          have hzl := (hS.2.2.1 z (by simp [z1])).1
          exact ⟨z, by simp [z1], by rw [z2, b1 z hzl]⟩
theorem bsy_cut {n S q : Nat} {t : Int} (ht1 : 1 ≤ t) (hq : q < 192) : ∀ (m : Nat) (A : Ab) (dep : Nat → Nat), WF n S A dep → (∀ d, cov A q = some d → NTs A d ∧ bsy A d = false) →
    (∀ y, Lv A y → Lv (aCut t q m A) y ∧ bsy (aCut t q m A) y = bsy A y) ∧ ∀ y, Lv (aCut t q m A) y → ¬ Lv A y → bsy (aCut t q m A) y = false := by
  intro m
  induction m with
  | zero => intro A dep hW h; exact ⟨fun y hy => ⟨hy, rfl⟩, fun y h1 h2 => absurd h1 h2⟩
  | succ m ih =>
    intro A dep hW h
    unfold aCut
    cases hc : cov A q with
    | none => exact ⟨fun y hy => ⟨hy, rfl⟩, fun y h1 h2 => absurd h1 h2⟩
    | some d =>
      obtain ⟨hN, hB⟩ := h d hc
      have hd := (cs_some hq hc).1
      by_cases hlt : t < A.1 0 d
      · simp only [if_pos hlt]
        obtain ⟨dep2, s1, s2, s3, s4, s5, s6, s7, s8⟩ := split_ok hW hd (by omega) hN
        obtain ⟨e, g1, g2, g3, g4⟩ := s7 q hq hc
        have hSI := SI_alk hW hd hN
        have hbm : ∀ x, x ∈ alk A d → Lv A x ∧ bl A d x = true := fun x hx => by
          have hb : BI A dep (fun h => decide (A.1 0 h = A.1 0 d)) d (alk A d) [] := bfs_end hW 193 [] [d] (BI_start hW _ hd) (by simp)
          exact hb.2.1 x (by simpa using hx)
        obtain ⟨f1, f2⟩ := bsy_fold (by omega) _ (alk A d) A dep rfl hW hSI
        have f2' : ∀ y, Lv (aSplit A d) y → ¬ Lv A y → bsy (aSplit A d) y = false := fun y hy hn => by
          obtain ⟨z, z1, z2⟩ := f2 y hy hn
          have := hbm z z1
          have e : bsy (aSplit A d) y = bsy A z := z2
          rw [e]; exact nb_beneath hW hd this.1 hN hB this.2
        have he := (cs_some hq g1).1
        have hbe : bsy (aSplit A d) e = false := by
          by_cases c : Lv A e
          · have e1 : bsy (aSplit A d) e = bsy A e := (f1 e c).2
            rw [e1]; exact nb_beneath hW hd c hN hB (g4 e c (bl_self _ e))
          · exact f2' e he c
        obtain ⟨i1, i2⟩ := ih (aSplit A d) dep2 s1 (fun e' he' => by rw [g1] at he'; cases he'; exact ⟨g3, hbe⟩)
        refine ⟨fun y hy => ?_, fun y hy hn => ?_⟩
        · obtain ⟨j1, j2⟩ := i1 y (f1 y hy).1
          exact ⟨j1, by rw [j2]; exact (f1 y hy).2⟩
        · by_cases c : Lv (aSplit A d) y
          · rw [(i1 y c).2]; exact f2' y c hn
          · exact i2 y hy c
      · simp only [if_neg hlt]
        exact ⟨fun y hy => ⟨hy, trivial⟩, fun y h1 h2 => absurd h1 h2⟩
theorem ord_cut {n S q : Nat} {t : Int} (ht1 : 1 ≤ t) (hq : q < 192) : ∀ (m : Nat) (A : Ab) (dep : Nat → Nat) (d : Nat), WF n S A dep → cov A q = some d → NTs A d → t ≤ A.1 0 d → A.1 0 d ≤ t + m → ∃ e, cov (aCut t q m A) q = some e ∧ (aCut t q m A).1 0 e = t := by
  intro m
  induction m with
  | zero => intro A dep d hW hc hN h1 h2; exact ⟨d, hc, by show A.1 0 d = t; simp at h2; omega⟩
  | succ m ih =>
    intro A dep d hW hc hN h1 h2
    have hd := (cs_some hq hc).1
    unfold aCut
    rw [hc]
    by_cases hlt : t < A.1 0 d
    · simp only [if_pos hlt]
      obtain ⟨dep2, s1, s2, s3, s4, s5, s6, s7, s8⟩ := split_ok hW hd (by omega) hN
      obtain ⟨e, g1, g2, g3, g4⟩ := s7 q hq hc
      exact ih (aSplit A d) dep2 e s1 g1 g3 (by omega) (by push_cast at h2; omega)
    · simp only [if_neg hlt]
      exact ⟨d, hc, by omega⟩
theorem aCut_id {t : Int} {q m : Nat} {A : Ab} (h : ∀ d, cov A q = some d → ¬ t < A.1 0 d) : aCut t q m A = A := by
  cases m with
  | zero => rfl
  | succ m =>
    unfold aCut
    cases hc : cov A q with
    | none => rfl
    | some d => simp only [if_neg (h d hc)]
/-- the tops of a region when it has been cut -/
theorem cut_T {n S q : Nat} {t : Int} {A : Ab} {dep dep1 : Nat → Nat} (ht1 : 1 ≤ t) (ht2 : t ≤ 4) (hq : q + pg t ≤ 192) (hal : q % pg t = 0) (h : WF n S A dep) (htd : ∀ x, x ∈ thr A q t → td A x = false) (hct : CT n S A (aCut t q 3 A) dep1 q t) :
    thr (aCut t q 3 A) q t = stL (aCut t q 3 A) q (pg t) ∧ ∀ x, x ∈ stL (aCut t q 3 A) q (pg t) → Lv (aCut t q 3 A) x ∧ NTs (aCut t q 3 A) x ∧ bsy (aCut t q 3 A) x = false ∧ ((aCut t q 3 A).1 3 x = 0 → ∃ y, y ∈ thr A q t ∧ A.1 3 y = 0) := by
  have hp := pg_pos ht1 ht2
  have hth : thr (aCut t q 3 A) q t = stL (aCut t q 3 A) q (pg t) := by
    unfold thr
    cases hc : cov (aCut t q 3 A) q with
    | none => rfl
    | some e => simp only [if_neg (show ¬ t < (aCut t q 3 A).1 0 e by have := (hct.2.2.2.2.2.2.1 e hc).1; omega)]
  refine ⟨hth, ?_⟩
  by_cases c : ∃ d, cov A q = some d ∧ t < A.1 0 d
  · obtain ⟨d, hc, hlt⟩ := c
    have hd := (cs_some (by omega) hc).1
    have hdt := td_NTs h hd (htd d (thr_cov h ht1 ht2 (by omega) hal hc))
    obtain ⟨e, e1, e2⟩ := ord_cut ht1 (show q < 192 by omega) 3 A dep d h hc hdt.1 (by omega) (by have := (h.2.2.2.1 d hd).1; omega)
    have he := cs_some (by omega) e1
    have hb := bsy_cut ht1 (show q < 192 by omega) 3 A dep h (fun d' hd' => by rw [hc] at hd'; cases hd'; exact hdt)
    have hpe : pgs (aCut t q 3 A) e = pg t := by unfold pgs; rw [e2]
    have hea := (hct.1.2.2.2.1 e he.1).2.1
    rw [hpe] at hea he
    have heq : e = q := by
      have h1 := Nat.div_add_mod e (pg t)
      have h2 := Nat.div_add_mod q (pg t)
      rw [hea] at h1; rw [hal] at h2
      have h3 : e / pg t = q / pg t := by
        have l1 : e / pg t ≤ q / pg t := Nat.div_le_div_right he.2.1
        refine Nat.le_antisymm l1 ?_
        have : q / pg t < e / pg t + 1 := by
          refine (Nat.div_lt_iff_lt_mul (by omega)).mpr ?_
          rw [Nat.add_mul, Nat.mul_comm]; omega
        omega
      rw [← h1, ← h2, h3]
    subst heq
    have hst : stL (aCut t e 3 A) e (pg t) = [e] := by rw [← hpe]; exact stL_own hct.1 he.1
    rw [hst]
    intro x hx
    simp at hx; subst hx
    refine ⟨he.1, (hct.2.2.2.2.2.2.1 x e1).2, ?_, fun h0 => ⟨d, thr_cov h ht1 ht2 (by omega) hal hc, ?_⟩⟩
    rotate_left
    · have hcx := hct.2.2.1 x (by omega)
      unfold ctn at hcx
      rw [e1, hc] at hcx
      simp only [Option.map_some, Option.some.injEq, Prod.mk.injEq] at hcx
      have := hcx.2.2.2
      rw [decide_eq_true h0] at this
      exact of_decide_eq_true this.symm
    by_cases c2 : Lv A x
    · have hbl : x = d := by
        have hdc := cs_some (by omega) hc
        have h3 := cs_self (WF_WS h) c2
        rw [hc] at h3; cases h3; rfl
      rw [(hb.1 x c2).2, hbl]; exact hdt.2
    · exact hb.2 x he.1 c2
  · have hid : aCut t q 3 A = A := aCut_id (fun d hd z => c ⟨d, hd, z⟩)
    rw [hid] at hth ⊢
    intro x hx
    rw [← hth] at hx
    have hl := thr_mem h ht1 ht2 hq hx
    have := td_NTs h hl (htd x hx)
    exact ⟨hl, this.1, this.2, fun h0 => ⟨x, hx, h0⟩⟩
