/-! ===== the class removes a deed with all beneath it ===== -/
def zer (A : Ab) (D : List Nat) : Ab := (fun j x => if j = 0 ∧ x ∈ D then 0 else A.1 j x, A.2)
theorem zer_nil (A : Ab) : zer A [] = A := by
  unfold zer; simp
theorem zer_snoc (A : Ab) (D : List Nat) (x : Nat) : zer A (D ++ [x]) = setA (zer A D) 0 x 0 := by
  unfold zer setA
  refine Prod.ext ?_ rfl
  funext j y
  by_cases q : j = 0
  · by_cases q2 : y = x
    · simp [q, q2]
    · simp [q, q2]
  · simp [q]
theorem zer_lv {A : Ab} {D : List Nat} {x : Nat} : Lv (zer A D) x ↔ Lv A x ∧ x ∉ D := by
  unfold Lv
  show x < 192 ∧ (0 < if 0 = 0 ∧ x ∈ D then 0 else A.1 0 x) ↔ _
  by_cases q : x ∈ D
  · rw [if_pos ⟨rfl, q⟩]; simp [q]
  · rw [if_neg (fun z => q z.2)]; simp [q]
theorem zer_j (A : Ab) (D : List Nat) {j x : Nat} (h : j ≠ 0) : (zer A D).1 j x = A.1 j x := if_neg (fun z => h z.1)
theorem Pth_suf {R : Nat → Nat → Prop} : ∀ (l m : List Nat), Pth R (l ++ m) → Pth R m
  | [], _, h => h
  | [_], [], _ => trivial
  | [_], _ :: _, h => h.2
  | _ :: y :: l, m, h => Pth_suf (y :: l) m h.2
theorem TR_fr {δ δ' : Sl} {σ : Nat → Nat} {A : Ab} {d : Nat} (h : TR δ σ A d) (hf : ∀ a i, a = 23 ∨ a = 24 ∨ a = 26 → δ' a i = δ a i) : TR δ' σ A d := fun x hx hb => by
  obtain ⟨h1, h2, h3⟩ := h x hx hb
  refine ⟨h1, by rw [hf _ _ (by omega)]; exact h2, fun a y b e => ?_⟩
  rw [hf _ _ (by omega), hf _ _ (by omega)]; exact h3 a y b e
theorem remove_loop {n S : Nat} {A A1 : Ab} {dep : Nat → Nat} {σ : Nat → Nat} {bn d m : Nat} (h : WF n S A dep) (hd : Lv A d) (hm : dep d + m = 191) (h1l : ∀ x, Lv A1 x ↔ Lv A x) (hσ : SV σ (Lv A)) : ∀ (l D : List Nat) (k i cur : Nat) (δ : Sl), D ++ cur :: l = pst A m d → WS (zer A1 D) → CB δ σ bn (zer A1 D) → TR δ σ A d → i + l.length + 1 ≤ 192 → l.length + 2 ≤ k →
    ∃ δ', De_remove_27 k (zI (σ d : Int)) (zI (σ cur : Int)) (zI (i : Int)) δ = some ((), δ') ∧ CB δ' σ bn (zer A1 (D ++ cur :: l)) ∧ WS (zer A1 (D ++ cur :: l)) ∧ (∀ a j, a ≠ 32 → a ≠ 21 → a ≠ 17 → δ' a j = δ a j) ∧ ∀ j, j ≠ 17 → j ≠ 18 → δ' 17 j = δ 17 j := by
  have hnd := pst_nodup h m d hd hm
  have hmem := pst_mem h m d hd hm
  intro l
  induction l with
  | nil =>
    intro D k i cur δ he hW hC hT hi hk
    obtain ⟨c, rfl⟩ : ∃ c, k = c + 2 := ⟨k - 2, by omega⟩
    obtain ⟨l0, hl0⟩ := pst_last A m d
    have hcd : cur = d := by
      rw [hl0] at he
      have := List.append_inj' he rfl
      simpa using this.2
    subst hcd
    have hlv : Lv (zer A1 D) cur := zer_lv.mpr ⟨(h1l cur).mpr hd, fun z => by
      rw [← he] at hnd; exact (List.nodup_append.mp hnd).2.2 cur z cur (by simp) rfl⟩
    obtain ⟨r1, r2, r3, r4⟩ := rel_step hW hC hlv
    have b1 := hσ.1 cur hd
    refine ⟨_, ?_, by rw [zer_snoc]; exact r2, by rw [zer_snoc]; exact WS_z hW cur, r3, r4⟩
    rw [De_remove_27]
    simp (disch := omega) only [zI_lit, zI_le, zI_lt, if_neg, if_pos, if_true, De_remove_52, bnd_ap, r1, bd_some, zI_add, zI_neg]
    rw [De_remove_27]
    simp only [zI_lit]
    rw [if_pos (show zI (-1) < zI 0 by rw [zI_lt (by omega) (by omega) (by omega) (by omega)]; decide)]
    split <;> rfl
  | cons y l ih =>
    intro D k i cur δ he hW hC hT hi hk
    obtain ⟨c, rfl⟩ : ∃ c, k = c + 1 := ⟨k - 1, by omega⟩
    have hcm : cur ∈ pst A m d := by rw [← he]; simp
    have hym : y ∈ pst A m d := by rw [← he]; simp
    obtain ⟨hc1, hc2⟩ := (hmem cur).mp hcm
    obtain ⟨hy1, hy2⟩ := (hmem y).mp hym
    obtain ⟨l0, hl0⟩ := pst_last A m d
    rw [← he] at hnd
    have hcd : cur ≠ d := fun e => by
      have h2 : d ∈ y :: l := by
        have : (D ++ cur :: y :: l).getLast? = some d := by rw [he, hl0]; simp
        rw [List.getLast?_append] at this
        have e2 : (cur :: y :: l).getLast? = (y :: l).getLast? := by simp
        rw [e2] at this
        cases hg : (y :: l).getLast? with
        | none => simp at hg
        | some z => rw [hg] at this; simp at this; subst this; exact List.mem_of_getLast? hg
      subst e
      exact (List.nodup_cons.mp (List.nodup_append.mp hnd).2.1).1 h2
    have hlv : Lv (zer A1 D) cur := zer_lv.mpr ⟨(h1l cur).mpr hc1, fun z => (List.nodup_append.mp hnd).2.2 cur z cur (by simp) rfl⟩
    obtain ⟨r1, r2, r3, r4⟩ := rel_step hW hC hlv
    rw [← zer_snoc] at r2
    have hpth := c_path h hT m d hd (bl_self A d) hm
    rw [← he] at hpth
    have haft : De_afterwards δ (zI (σ cur : Int)) = some (zI (σ y : Int)) := (Pth_suf _ _ hpth).1
    have b1 := hσ.1 cur hc1
    have b2 := hσ.1 d hd
    have hσn : σ cur ≠ σ d := fun e => hcd (hσ.2 cur d hc1 hd e)
    simp only [List.length_cons] at hi hk
    obtain ⟨δ', f1, f2, f2', f3, f4⟩ := ih (D ++ [cur]) c (i + 1) y _ (by rw [← he]; simp) (by rw [zer_snoc]; exact WS_z hW cur) r2 (TR_fr hT (fun a j ha => r3 a j (by omega) (by omega) (by omega))) (by omega) (by omega)
    refine ⟨δ', ?_, by simpa using f2, by simpa using f2', fun a j q1 q2 q3 => by rw [f3 a j q1 q2 q3, r3 a j q1 q2 q3], fun j q1 q2 => by rw [f4 j q1 q2, r4 j q1 q2]⟩
    rw [De_remove_27]
    simp (disch := omega) only [zI_lit, zI_le, zI_lt, zI_eq, if_neg, haft, bp_some, De_remove_52, bnd_ap, r1, bd_some, zI_add]
    exact f1
theorem cr_remove {n S : Nat} {A : Ab} {dep : Nat → Nat} {δ : Sl} {σ : Nat → Nat} {bn d g : Nat} (h : WF n S A dep) (hC : CRep δ σ bn A) (hd : Lv A d) (hg : A.1 3 d = (g : Int) + 1) :
    ∃ δ', De_remove δ (zI (σ d : Int)) = some ((), δ') ∧ CRep δ' σ bn (aGo A d) ∧ (∀ a i, a < 17 ∨ 32 < a → δ' a i = δ a i) ∧ δ' 17 19 = δ 17 19 := by
  have hKW := WF_KW h
  have hgl := gv_live h hd hg
  obtain ⟨δ1, t1, t2, t3, t4⟩ := cr_take hC hKW hd hgl.1 hg
  have hdl := dep_lt h hd
  generalize hA1 : setG A d 0 (upK A.2 g ((A.2 g).filter (fun y => decide (y ≠ d)))) = A1 at t2 t3
  have f3 : ∀ y, A1.1 3 y = if y = d then 0 else A.1 3 y := fun y => by rw [← hA1]; exact setG_3
  have fn : ∀ j y, j ≠ 3 → A1.1 j y = A.1 j y := fun j y hj => by rw [← hA1]; exact setG_ne hj
  have fl : ∀ y, Lv A1 y ↔ Lv A y := fun y => by rw [← hA1]; exact setG_lv
  have fk : ∀ y, A1.2 y = if y = g then (A.2 g).filter (fun y => decide (y ≠ d)) else A.2 y := fun y => by rw [← hA1]; rfl
  have hσ := CS_SV hC.1
  have hgb : ∀ x, Lv A x → bl A d x = true → x ≠ g := fun x hx hb e => by
    have := bl_dep h (dep x) x (Nat.le_refl _) hx hb
    subst e; omega
  have hT : TR δ1 σ A d := fun x hx hb => by
    have hx1 := (fl x).mpr hx
    have hk : A1.2 x = A.2 x := by rw [fk, if_neg (hgb x hx hb)]
    refine ⟨hσ.1 x hx, ?_, fun a y b e => ?_⟩
    · have := cr_first t2 hx1; rw [hk] at this; exact this
    · have hy : y ∈ A.2 x := by rw [e]; simp
      have hyk := kid_ne h hx hy
      have hyd : y ≠ d := fun z => by
        have := bl_dep h (dep x) x (Nat.le_refl _) hx hb
        subst z; omega
      refine ⟨cr_next t2 t3 hx1 (by rw [hk]; exact e), ?_⟩
      have := cr_giver t2 ((fl y).mpr hyk.1)
      rw [f3, if_neg hyd, hyk.2.1, enc_s] at this; exact this
  obtain ⟨cur, l, hl⟩ : ∃ cur l, pst A (191 - dep d) d = cur :: l := by
    cases hp : pst A (191 - dep d) d with
    | nil => obtain ⟨l0, hl0⟩ := pst_last A (191 - dep d) d; rw [hl0] at hp; simp at hp
    | cons c l => exact ⟨c, l, rfl⟩
  have hcur : cur = dp A (191 - dep d) d := by
    have := pst_head A (191 - dep d) d; rw [hl] at this; simpa using this
  have hlen : (pst A (191 - dep d) d).length ≤ 192 := len192 (pst_nodup h _ d hd (by omega)) (fun x hx => ((pst_mem h _ d hd (by omega) x).mp hx).1.1)
  rw [hl] at hlen
  simp at hlen
  have hWS1 : WS A1 := by
    have hp : ∀ x, pgs A1 x = pgs A x := fun x => by unfold pgs; rw [fn 0 x (by decide)]
    have hw := WF_WS h
    exact ⟨fun x hx => by rw [fn 0 x (by decide), hp]; exact hw.1 x ((fl x).mp hx), fun x y hx hy => by rw [hp, hp]; exact hw.2.1 x y ((fl x).mp hx) ((fl y).mp hy), fun x hx => by rw [fn 0 x (by decide)]; exact hw.2.2 x hx⟩
  obtain ⟨δ', e1, e2, -, e3, e4⟩ := remove_loop (A1 := A1) (bn := bn) (m := 191 - dep d) h hd (by omega) fl hσ l [] FU 0 cur δ1 (by rw [hl]; rfl) (by rw [zer_nil]; exact hWS1) (by rw [zer_nil]; exact ⟨t2.1, t2.2.1, t2.2.2.1, t2.2.2.2.1⟩) hT (by omega) (by unfold FU; omega)
  rw [List.nil_append, ← hl] at e2
  refine ⟨δ', ?_, ?_, fun a i ha => by rw [e3 a i (by omega) (by omega) (by omega), t4 a i (by omega)], by rw [e4 19 (by decide) (by decide), t4 17 19 (by omega)]⟩
  · have b1 := hσ.1 d hd
    have b2 := hσ.1 g hgl.1
    have hgv := cr_giver hC hd
    rw [hg, enc_s] at hgv
    have hdp : De_deepest δ1 (zI (σ d : Int)) = some (zI (σ cur : Int)) := by
      rw [hcur]; exact c_deepest h hT (191 - dep d) FU 0 d hd (bl_self A d) (by omega) (FU_gt (by omega)) (by omega)
    simp (disch := omega) only [De_remove, zI_lit, zI_lt, if_neg, zI_inb, if_pos, zI_ix, Int.toNat_natCast, hgv, zI_le, t1, bd_some, hdp, bp_some, bnd_ap]
    exact e1
  · have hmem := pst_mem h (191 - dep d) d hd (by omega)
    have hCz : CRep δ' σ bn (zer A1 (pst A (191 - dep d) d)) := by
      obtain ⟨F, L, N, P, k1, k2, k3⟩ := t2.2.2.2.2
      refine ⟨e2.1, e2.2.1, e2.2.2.1, e2.2.2.2, F, L, N, P, fun x hx => ?_, fun x hx => k2 x (zer_lv.mp hx).1, fun x hx h0 => k3 x (zer_lv.mp hx).1 ?_⟩
      · have := k1 x (zer_lv.mp hx).1
        rw [e3 24 _ (by decide) (by decide) (by decide), e3 25 _ (by decide) (by decide) (by decide), e3 26 _ (by decide) (by decide) (by decide), e3 27 _ (by decide) (by decide) (by decide), e3 23 _ (by decide) (by decide) (by decide)]
        rw [zer_j A1 _ (show 3 ≠ 0 by decide)]
        exact this
      · rw [zer_j A1 _ (show 3 ≠ 0 by decide)] at h0; exact h0
    refine cr_ext hCz (fun x hx => ?_) (fun x hx j hj => ?_) (fun x hx => ?_)
    · show (if 0 = 0 ∧ bl A d x = true then 0 else A.1 0 x) = if 0 = 0 ∧ x ∈ pst A (191 - dep d) d then 0 else A1.1 0 x
      rw [fn 0 x (by decide)]
      by_cases hlx : Lv A x
      · have : (x ∈ pst A (191 - dep d) d) ↔ bl A d x = true := ⟨fun z => ((hmem x).mp z).2, fun z => (hmem x).mpr ⟨hlx, z⟩⟩
        simp only [this]
      · have h0 : A.1 0 x = 0 := by
          have := h.2.2.2.2.2.2.2 x hx
          have : ¬ 0 < A.1 0 x := fun z => hlx ⟨hx, z⟩
          omega
        rw [h0]; simp
    · obtain ⟨z1, z2⟩ := zer_lv.mp hx
      have hxd : x ≠ d := fun e => z2 (by rw [e]; exact (hmem d).mpr ⟨hd, bl_self A d⟩)
      have hb : bl A d x = false := by
        cases hbb : bl A d x with
        | false => rfl
        | true => exact absurd ((hmem x).mpr ⟨(fl x).mp z1, hbb⟩) z2
      show (if j = 0 ∧ bl A d x = true then 0 else A.1 j x) = if j = 0 ∧ x ∈ pst A (191 - dep d) d then 0 else A1.1 j x
      rw [if_neg (fun z => by rw [hb] at z; cases z.2), if_neg (fun z => z2 z.2)]
      by_cases q : j = 3
      · subst q; rw [f3, if_neg hxd]
      · rw [fn j x q]
    · show (if A.1 3 d = (x : Int) + 1 then (A.2 x).filter (fun y => decide (y ≠ d)) else A.2 x) = A1.2 x
      rw [fk]
      by_cases q : x = g
      · subst q; rw [if_pos hg, if_pos rfl]
      · rw [if_neg (by omega), if_neg q]
