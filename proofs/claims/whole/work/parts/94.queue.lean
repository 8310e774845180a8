/-! ===== the class queues what is to be done ===== -/
def FC (A A' : Ab) : Prop := A'.2 = A.2 ∧ ∀ i x, i < 9 → A'.1 i x = A.1 i x
theorem FC_lv {A A' : Ab} (h : FC A A') (x : Nat) : Lv A' x ↔ Lv A x := by unfold Lv; rw [h.2 0 x (by omega)]
theorem FC_WF {n S : Nat} {A A' : Ab} {dep : Nat → Nat} (h : FC A A') (hW : WF n S A dep) : WF n S A' dep := by
  have e0 : ∀ x, A'.1 0 x = A.1 0 x := fun x => h.2 0 x (by omega)
  have e1 : ∀ x, A'.1 1 x = A.1 1 x := fun x => h.2 1 x (by omega)
  have e2 : ∀ x, A'.1 2 x = A.1 2 x := fun x => h.2 2 x (by omega)
  have e3 : ∀ x, A'.1 3 x = A.1 3 x := fun x => h.2 3 x (by omega)
  have e8 : ∀ x, A'.1 8 x = A.1 8 x := fun x => h.2 8 x (by omega)
  have ek : ∀ x, A'.2 x = A.2 x := fun x => by rw [h.1]
  unfold WF WFa WFg WFk WFn pgs Lv at hW ⊢
  simp only [e0, e1, e2, e3, e8, ek]
  exact hW
theorem FC_bl {A A' : Ab} (h : FC A A') (d x : Nat) : bl A' d x = bl A d x := by
  have key : ∀ (k x : Nat), onC A' d k x = onC A d k x := by
    intro k
    induction k with
    | zero => intro x; rfl
    | succ k ih => intro x; rw [onC_succ, onC_succ, h.2 3 x (by omega), ih]
  exact key 192 x
theorem FC_pst {A A' : Ab} (h : FC A A') : ∀ (m x : Nat), pst A' m x = pst A m x := by
  intro m
  induction m with
  | zero => intro x; rfl
  | succ m ih =>
    intro x
    have e : pst A' m = pst A m := funext ih
    simp only [pst, e, h.1]
theorem FC_cov {A A' : Ab} (h : FC A A') (q : Nat) : cov A' q = cov A q := by
  unfold cov; rw [h.2 0 _ (by omega), h.2 0 _ (by omega), h.2 0 _ (by omega), h.2 0 _ (by omega)]
theorem FC_stL {A A' : Ab} (h : FC A A') (q w : Nat) : stL A' q w = stL A q w := by
  unfold stL
  have : (fun k => if 0 < A'.1 0 (q + k) then some (q + k) else none) = (fun k => if 0 < A.1 0 (q + k) then some (q + k) else none) := funext fun k => by rw [h.2 0 _ (by omega)]
  rw [this]
def aF (A : Ab) (j : Int) (T L : List Nat) : Ab := (fun i x => if i = 9 ∧ x ∈ T then j else if i = 10 ∧ x ∈ L then j else if i = 11 ∧ x ∈ L then (L.idxOf x : Int) else A.1 i x, A.2)
theorem aF_FC (A : Ab) (j : Int) (T L : List Nat) : FC A (aF A j T L) := by
  refine ⟨rfl, fun i x hi => ?_⟩
  show (if i = 9 ∧ x ∈ T then j else if i = 10 ∧ x ∈ L then j else if i = 11 ∧ x ∈ L then (L.idxOf x : Int) else A.1 i x) = _
  rw [if_neg (by omega), if_neg (by omega), if_neg (by omega)]
theorem aF_9 (A : Ab) (j : Int) (T L : List Nat) (x : Nat) : (aF A j T L).1 9 x = if x ∈ T then j else A.1 9 x := by
  show (if 9 = 9 ∧ x ∈ T then j else if 9 = 10 ∧ x ∈ L then j else if 9 = 11 ∧ x ∈ L then (L.idxOf x : Int) else A.1 9 x) = _
  simp
theorem aF_10 (A : Ab) (j : Int) (T L : List Nat) (x : Nat) : (aF A j T L).1 10 x = if x ∈ L then j else A.1 10 x := by
  show (if 10 = 9 ∧ x ∈ T then j else if 10 = 10 ∧ x ∈ L then j else if 10 = 11 ∧ x ∈ L then (L.idxOf x : Int) else A.1 10 x) = _
  simp
theorem aF_11 (A : Ab) (j : Int) (T L : List Nat) (x : Nat) : (aF A j T L).1 11 x = if x ∈ L then (L.idxOf x : Int) else A.1 11 x := by
  show (if 11 = 9 ∧ x ∈ T then j else if 11 = 10 ∧ x ∈ L then j else if 11 = 11 ∧ x ∈ L then (L.idxOf x : Int) else A.1 11 x) = _
  simp
theorem aF_nil (A : Ab) (j : Int) : aF A j [] [] = A := by unfold aF; simp
theorem aF_top (A : Ab) (j : Int) (T L : List Nat) (x : Nat) : aF A j (T ++ [x]) L = setA (aF A j T L) 9 x j := by
  unfold aF setA
  refine Prod.ext ?_ rfl
  funext i y
  by_cases q : i = 9
  · by_cases q2 : y = x
    · simp [q, q2]
    · simp [q, q2]
  · simp [q]
theorem aF_snoc (A : Ab) (j : Int) (T L : List Nat) {y : Nat} (hy : y ∉ L) : aF A j T (L ++ [y]) = setA (setA (aF A j T L) 10 y j) 11 y (L.length : Int) := by
  unfold aF setA
  refine Prod.ext ?_ rfl
  funext i x
  by_cases q2 : x = y
  · subst q2
    by_cases q : i = 9
    · subst q; simp
    · by_cases q3 : i = 10
      · subst q3; simp
      · by_cases q4 : i = 11
        · subst q4; simp [List.idxOf_append, hy]
        · simp [q, q3, q4]
  · by_cases q : x ∈ L
    · simp [q, q2, List.idxOf_append]
    · simp [q, q2]
def qS (v2 : Int32) (x : Nat) (acc : List Nat) (y : Nat) : List Nat := if v2 = 0 ∧ y = x then acc else adl acc y
theorem qS_pst {A : Ab} {m x : Nat} {v2 : Int32} (hx : x ∉ (A.2 x).flatMap (pst A m)) (acc : List Nat) : (pst A (m + 1) x).foldl (qS v2 x) acc = fT A m v2 x acc := by
  have key : ∀ (l : List Nat) (acc : List Nat), x ∉ l → l.foldl (qS v2 x) acc = l.foldl adl acc := by
    intro l
    induction l with
    | nil => intro acc _; rfl
    | cons y l ih =>
      intro acc hl
      simp only [List.mem_cons, not_or] at hl
      rw [List.foldl_cons, List.foldl_cons, ih _ hl.2]
      congr 1
      unfold qS
      rw [if_neg (fun z => hl.1 z.2.symm)]
  simp only [pst, List.foldl_append, List.foldl_cons, List.foldl_nil, key _ acc hx]
  unfold fT qS
  by_cases c : v2 = 0
  · simp [c]
  · simp [c]
theorem CR_TR {n S : Nat} {A A1 : Ab} {dep : Nat → Nat} {δ : Sl} {σ : Nat → Nat} {bn : Nat} (h : WF n S A dep) (hf : FC A A1) (hC : CRep δ σ bn A1) (d : Nat) : TR δ σ A d := by
  have h1 := FC_WF hf h
  intro x hx _
  have hx1 := (FC_lv hf x).mpr hx
  have e1 := cr_first hC hx1
  rw [hf.1] at e1
  refine ⟨cr_lt hC hx1, e1, fun a y b e => ?_⟩
  have e2 : A1.2 x = a ++ y :: b := by rw [hf.1]; exact e
  have hy := kid_ne h1 hx1 (x := y) (by rw [e2]; simp)
  refine ⟨cr_next hC (WF_KW h1) hx1 e2, ?_⟩
  rw [cr_giver hC hy.1, hy.2.1, enc_s]
theorem q_step {A : Ab} {δ : Sl} {σ : Nat → Nat} {bn : Nat} {j : Int} {T acc : List Nat} {x cur : Nat} (v2 : Int32) (hC : CRep δ σ bn (aF A j T acc)) (hj1 : 0 < j) (hj2 : j < 2147483648) (hx : Lv A x) (hc : Lv A cur) (h0 : A.1 10 cur = 0) (k i : Nat) (hi : i < 192) (hacc : acc.length < 1000) :
    ∃ δ', De_queueBeneath_14 (k + 1) (zI (σ x : Int)) v2 (zI j) (zI (acc.length : Int)) (zI (σ cur : Int)) (zI (i : Int)) δ = De_queueBeneath_67 (De_queueBeneath_14 k) (zI (σ x : Int)) v2 (zI j) (zI ((qS v2 x acc cur).length : Int)) (zI (σ cur : Int)) (zI (i : Int)) δ' ∧ CRep δ' σ bn (aF A j T (qS v2 x acc cur)) ∧ ∀ a i, a ≠ 29 → a ≠ 30 → δ' a i = δ a i := by
  have hlv := FC_lv (aF_FC A j T acc)
  have hc' := (hlv cur).mpr hc
  have hx' := (hlv x).mpr hx
  have b1 := cr_lt hC hc'
  have b2 := cr_lt hC hx'
  have hsx : (σ cur = σ x) ↔ cur = x := ⟨fun e => hC.1.2.2.2.1 cur x hc' hx' e, fun e => by rw [e]⟩
  have e29 := (hC.2.2.1 cur hc').2.2.2.2.2.2.1
  rw [aF_10, h0] at e29
  have hw1 := cr_fld hC (a := 29) (j := 10) (d := cur) (v := j) (by omega) hc'
  have hw2 := cr_fld hw1 (a := 30) (j := 11) (d := cur) (v := (acc.length : Int)) (by omega) hc'
  have hib : inb (zI (σ cur : Int)) 192 := by rw [zI_inb (by omega) (by omega)]; omega
  have hvx : (zI (σ cur : Int) = zI (σ x : Int)) ↔ cur = x := by rw [zI_eq (by omega) (by omega) (by omega) (by omega)]; rw [← hsx]; omega
  have hd47 : cur ∉ acc → De_queueBeneath_47 (De_queueBeneath_14 k) (zI (σ x : Int)) v2 (zI j) (zI (acc.length : Int)) (zI (σ cur : Int)) (zI (i : Int)) δ = De_queueBeneath_67 (De_queueBeneath_14 k) (zI (σ x : Int)) v2 (zI j) (zI ((adl acc cur).length : Int)) (zI (σ cur : Int)) (zI (i : Int)) (wr (wr δ 29 (σ cur) (zI j)) 30 (σ cur) (zI (acc.length : Int))) := fun hn => by
    rw [De_queueBeneath_47, if_pos hib, bnd_ap, if_pos hib, bnd_ap, bnd_ap, zI_ix (by omega) (by omega), Int.toNat_natCast, show (1 : Int32) = zI 1 from rfl, zI_add, adl, if_neg hn, List.length_append]
    rfl
  rw [De_queueBeneath_14, if_neg (by rw [zI_lit, zI_le (by omega) (by omega) (by omega) (by omega)]; omega), if_neg (by rw [zI_lit, zI_lt (by omega) (by omega) (by omega) (by omega)]; omega), if_pos hib, zI_ix (by omega) (by omega), Int.toNat_natCast, e29]
  by_cases hm : cur ∈ acc
  · rw [if_pos hm, if_neg (by rw [zI_lit, zI_eq (by omega) (by omega) (by omega) (by omega)]; omega)]
    have e : qS v2 x acc cur = acc := by unfold qS adl; simp [hm]
    rw [e]
    exact ⟨δ, rfl, hC, fun _ _ _ _ => rfl⟩
  · rw [if_neg hm, if_pos (show zI 0 = 0 from rfl)]
    have hnew : CRep (wr (wr δ 29 (σ cur) (zI j)) 30 (σ cur) (zI (acc.length : Int))) σ bn (aF A j T (adl acc cur)) := by
      rw [adl, if_neg hm, aF_snoc _ _ _ _ hm]; exact hw2
    have hfr : ∀ a i, a ≠ 29 → a ≠ 30 → wr (wr δ 29 (σ cur) (zI j)) 30 (σ cur) (zI (acc.length : Int)) a i = δ a i := fun a i h1 h2 => by
      rw [wr_ap, if_neg (fun z => h2 z.1), wr_ap, if_neg (fun z => h1 z.1)]
    by_cases c1 : v2 = 0
    · rw [if_pos c1]
      by_cases c2 : cur = x
      · rw [if_pos (hvx.mpr c2)]
        have e : qS v2 x acc cur = acc := by unfold qS; simp [c1, c2]
        rw [e]
        exact ⟨δ, rfl, hC, fun _ _ _ _ => rfl⟩
      · have e : qS v2 x acc cur = adl acc cur := by unfold qS; simp [c2]
        rw [if_neg (fun z => c2 (hvx.mp z)), hd47 hm, e]
        exact ⟨_, rfl, hnew, hfr⟩
    · have e : qS v2 x acc cur = adl acc cur := by unfold qS; simp [c1]
      rw [if_neg c1, hd47 hm, e]
      exact ⟨_, rfl, hnew, hfr⟩
theorem adl_len (acc : List Nat) (y : Nat) : (adl acc y).length ≤ acc.length + 1 := by
  unfold adl; split
  · omega
  · simp
theorem qS_len (v2 : Int32) (x : Nat) (acc : List Nat) (y : Nat) : (qS v2 x acc y).length ≤ acc.length + 1 := by
  unfold qS; split
  · omega
  · exact adl_len acc y
theorem c_queue_loop {n S : Nat} {A : Ab} {dep : Nat → Nat} {σ : Nat → Nat} {bn : Nat} {j : Int} {T : List Nat} {x m : Nat} (v2 : Int32) (h : WF n S A dep) (hj1 : 0 < j) (hj2 : j < 2147483648) (hx : Lv A x) (hm : dep x + m = 191) (h0 : ∀ y, Lv A y → bl A x y = true → A.1 10 y = 0) : ∀ (l D : List Nat) (k i cur : Nat) (acc : List Nat) (δ : Sl), D ++ cur :: l = pst A m x → CRep δ σ bn (aF A j T acc) → i + l.length + 1 ≤ 192 → l.length + 2 ≤ k → acc.length + l.length + 1 < 1000 →
    ∃ δ', De_queueBeneath_14 k (zI (σ x : Int)) v2 (zI j) (zI (acc.length : Int)) (zI (σ cur : Int)) (zI (i : Int)) δ = some (zI (((cur :: l).foldl (qS v2 x) acc).length : Int), δ') ∧ CRep δ' σ bn (aF A j T ((cur :: l).foldl (qS v2 x) acc)) ∧ ∀ a i, a ≠ 29 → a ≠ 30 → δ' a i = δ a i := by
  have hnd := pst_nodup h m x hx hm
  have hmem := pst_mem h m x hx hm
  intro l
  induction l with
  | nil =>
    intro D k i cur acc δ he hC hi hk ha
    obtain ⟨c, rfl⟩ : ∃ c, k = c + 1 + 1 := ⟨k - 2, by simp at hk; omega⟩
    obtain ⟨l0, hl0⟩ := pst_last A m x
    have hcd : cur = x := by
      rw [hl0] at he
      have := List.append_inj' he rfl
      simpa using this.2
    subst hcd
    obtain ⟨δ', e1, e2, e3⟩ := q_step v2 hC hj1 hj2 hx hx (h0 cur hx (bl_self A cur)) (c + 1) i (by simp at hi; omega) (by simp at ha; omega)
    refine ⟨δ', ?_, e2, e3⟩
    rw [e1, De_queueBeneath_67, if_pos rfl, De_queueBeneath_83, bnd_ap, bnd_ap, De_queueBeneath_14]
    rw [if_pos (show (-1 : Int32) < 0 by decide)]
    split <;> rfl
  | cons y l ih =>
    intro D k i cur acc δ he hC hi hk ha
    obtain ⟨c, rfl⟩ : ∃ c, k = c + 1 := ⟨k - 1, by simp at hk; omega⟩
    have hcm : cur ∈ pst A m x := by rw [← he]; simp
    have hym : y ∈ pst A m x := by rw [← he]; simp
    obtain ⟨hc1, hc2⟩ := (hmem cur).mp hcm
    obtain ⟨hy1, hy2⟩ := (hmem y).mp hym
    obtain ⟨l0, hl0⟩ := pst_last A m x
    have hcd : cur ≠ x := fun e => by
      rw [← he] at hnd
      have h2 : x ∈ y :: l := by
        have : (D ++ cur :: y :: l).getLast? = some x := by rw [he, hl0]; simp
        rw [List.getLast?_append] at this
        have e2 : (cur :: y :: l).getLast? = (y :: l).getLast? := by simp
        rw [e2] at this
        cases hg : (y :: l).getLast? with
        | none => simp at hg
        | some z => rw [hg] at this; simp at this; subst this; exact List.mem_of_getLast? hg
      subst e
      exact (List.nodup_cons.mp (List.nodup_append.mp hnd).2.1).1 h2
    simp only [List.length_cons] at hi hk ha
    obtain ⟨δ1, e1, e2, e3⟩ := q_step v2 hC hj1 hj2 hx hc1 (h0 cur hc1 hc2) c i (by omega) (by omega)
    have hT := CR_TR h (aF_FC A j T _) e2 x
    have hpth := c_path h hT m x hx (bl_self A x) hm
    rw [← he] at hpth
    have hstep := (Pth_suf _ _ hpth).1
    have hlv := FC_lv (aF_FC A j T acc)
    have b1 := cr_lt hC ((hlv cur).mpr hc1)
    have b2 := cr_lt hC ((hlv x).mpr hx)
    have hne : ¬ (zI (σ cur : Int) = zI (σ x : Int)) := by
      rw [zI_eq (by omega) (by omega) (by omega) (by omega)]
      intro e
      exact hcd (hC.1.2.2.2.1 cur x ((hlv cur).mpr hc1) ((hlv x).mpr hx) (by omega))
    have hq := qS_len v2 x acc cur
    obtain ⟨δ2, f1, f2, f3⟩ := ih (D ++ [cur]) c (i + 1) y (qS v2 x acc cur) δ1 (by simpa using he) e2 (by omega) (by omega) (by omega)
    refine ⟨δ2, ?_, f2, fun a i h1 h2 => by rw [f3 a i h1 h2, e3 a i h1 h2]⟩
    rw [e1, De_queueBeneath_67, if_neg hne, hstep, bp_some, De_queueBeneath_83, bnd_ap, bnd_ap, show (1 : Int32) = zI 1 from rfl, zI_add, show (i : Int) + 1 = ((i + 1 : Nat) : Int) by omega, f1]
    rfl
def lq (A : Ab) (m : Nat) (v2 : Int32) (x : Nat) (acc : List Nat) : List Nat := (pst A m x).foldl (qS v2 x) acc
theorem c_queue {n S : Nat} {A : Ab} {dep : Nat → Nat} {σ : Nat → Nat} {bn : Nat} {j : Int} {T : List Nat} {x m : Nat} {acc : List Nat} {δ : Sl} (v2 : Int32) (h : WF n S A dep) (hj1 : 0 < j) (hj2 : j < 2147483648) (hx : Lv A x) (hm : dep x + m = 191) (h0 : ∀ y, Lv A y → bl A x y = true → A.1 10 y = 0) (hC : CRep δ σ bn (aF A j T acc)) (ha : acc.length ≤ 192) :
    ∃ δ', De_queueBeneath δ (zI (σ x : Int)) v2 (zI j) (zI (acc.length : Int)) = some (zI ((lq A m v2 x acc).length : Int), δ') ∧ CRep δ' σ bn (aF A j T (lq A m v2 x acc)) ∧ ∀ a i, a ≠ 29 → a ≠ 30 → δ' a i = δ a i := by
  have hnd := pst_nodup h m x hx hm
  have hmem := pst_mem h m x hx hm
  have hT := CR_TR h (aF_FC A j T _) hC x
  have hdp := c_deepest h hT m FU 0 x hx (bl_self A x) hm (FU_gt (by omega)) (by omega)
  have hlen : (pst A m x).length ≤ 192 := len192 hnd (fun y hy => ((hmem y).mp hy).1.1)
  have hh := pst_head A m x
  cases hp : pst A m x with
  | nil => rw [hp] at hh; cases hh
  | cons cur l =>
    rw [hp] at hh hlen
    simp only [List.head?_cons, Option.some.injEq] at hh
    simp only [List.length_cons] at hlen
    obtain ⟨δ', e1, e2, e3⟩ := c_queue_loop v2 h hj1 hj2 hx hm h0 l [] FU 0 cur acc δ (by rw [hp]; rfl) hC (by omega) (by unfold FU; omega) (by omega)
    rw [← hp] at e1 e2
    refine ⟨δ', ?_, e2, e3⟩
    have e0 : De_deepest δ (zI (σ x : Int)) = some (zI (σ (dp A m x) : Int)) := hdp
    unfold De_queueBeneath
    rw [bnd_ap, e0, bp_some, bnd_ap, bnd_ap, ← hh]
    exact e1
theorem qS_mem {v2 : Int32} {x : Nat} {acc : List Nat} {y z : Nat} (h : z ∈ qS v2 x acc y) : z ∈ acc ∨ z = y ∧ ¬ (v2 = 0 ∧ z = x) := by
  unfold qS adl at h
  split at h
  · exact .inl h
  · rename_i hn
    split at h
    · exact .inl h
    · rcases List.mem_append.mp h with h | h
      · exact .inl h
      · have e : z = y := by simpa using h
        exact .inr ⟨e, by rw [e]; exact hn⟩
theorem qS_nodup {v2 : Int32} {x : Nat} {acc : List Nat} {y : Nat} (h : acc.Nodup) : (qS v2 x acc y).Nodup := by
  unfold qS adl
  split
  · exact h
  · split
    · exact h
    · rename_i hn
      refine List.nodup_append.mpr ⟨h, by simp, fun a ha b hb e => ?_⟩
      simp at hb; subst hb; subst e; exact hn ha
theorem qSf_mem {v2 : Int32} {x : Nat} : ∀ (l acc : List Nat) (z : Nat), z ∈ l.foldl (qS v2 x) acc → z ∈ acc ∨ z ∈ l ∧ ¬ (v2 = 0 ∧ z = x)
  | [], acc, z, h => .inl h
  | y :: l, acc, z, h => by
    rcases qSf_mem l _ z h with h | h
    · rcases qS_mem h with h | h
      · exact .inl h
      · exact .inr ⟨by simp [h.1], h.2⟩
    · exact .inr ⟨by simp [h.1], h.2⟩
theorem qSf_nodup {v2 : Int32} {x : Nat} : ∀ (l acc : List Nat), acc.Nodup → (l.foldl (qS v2 x) acc).Nodup
  | [], _, h => h
  | _ :: l, _, h => qSf_nodup l _ (qS_nodup h)
def lqs (A : Ab) (dep : Nat → Nat) (v2 : Int32) (l : List Nat) (acc : List Nat) : List Nat := l.foldl (fun acc x => lq A (191 - dep x) v2 x acc) acc
theorem lqs_snoc (A : Ab) (dep : Nat → Nat) (v2 : Int32) (l : List Nat) (x : Nat) (acc : List Nat) : lqs A dep v2 (l ++ [x]) acc = lq A (191 - dep x) v2 x (lqs A dep v2 l acc) := by
  unfold lqs; rw [List.foldl_append]; rfl
theorem lqs_mem {n S : Nat} {A : Ab} {dep : Nat → Nat} {v2 : Int32} (h : WF n S A dep) : ∀ (l acc : List Nat), (∀ x, x ∈ l → Lv A x) → ∀ z, z ∈ lqs A dep v2 l acc → z ∈ acc ∨ ∃ x, x ∈ l ∧ Lv A z ∧ bl A x z = true ∧ ¬ (v2 = 0 ∧ z = x)
  | [], acc, _, z, hz => .inl hz
  | x :: l, acc, hl, z, hz => by
    have hx := hl x (by simp)
    have hd := dep_lt h hx
    rcases lqs_mem h l _ (fun y hy => hl y (by simp [hy])) z hz with hz | ⟨y, h1, h2⟩
    · rcases qSf_mem _ _ z hz with hz | hz
      · exact .inl hz
      · have := (pst_mem h _ x hx (by omega) z).mp hz.1
        exact .inr ⟨x, by simp, this.1, this.2, hz.2⟩
    · exact .inr ⟨y, by simp [h1], h2⟩
theorem lqs_nodup (A : Ab) (dep : Nat → Nat) (v2 : Int32) : ∀ (l acc : List Nat), acc.Nodup → (lqs A dep v2 l acc).Nodup
  | [], _, h => h
  | _ :: l, _, h => lqs_nodup A dep v2 l _ (qSf_nodup _ _ h)
