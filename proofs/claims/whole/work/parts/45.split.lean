/-! ===== a deed is split with those beneath it that are alike ===== -/
def SI (A : Ab) (dep : Nat → Nat) (o : Int) (pre : List Nat) : Prop :=
  pre.Nodup ∧ pre.Pairwise (fun x y => dep x ≤ dep y) ∧ (∀ x, x ∈ pre → Lv A x ∧ A.1 0 x = o ∧ A.1 9 x = 0) ∧ ∀ x h, x ∈ pre → h ∈ A.2 x → A.1 0 h = o → h ∈ pre
theorem hv_u {n S : Nat} {A : Ab} {dep : Nat → Nat} (hW : WF n S A dep) {d : Nat} (hd : Lv A d) (ho : 2 ≤ A.1 0 d) : ¬ Lv A (d + hfA A d) ∧ 1 ≤ hfA A d ∧ hfA A d + hfA A d = pgs A d := by
  have hc := hf_cases hW hd ho
  refine ⟨fun hl => ?_, by omega, by omega⟩
  have := hW.2.2.2.2.2.2.1 d (d + hfA A d) hd hl (by omega)
  have := pgs_pos hW hl
  omega
theorem hv_0 {n S : Nat} {A : Ab} {dep : Nat → Nat} (hW : WF n S A dep) {d : Nat} (hd : Lv A d) (ho : 2 ≤ A.1 0 d) (x : Nat) : (aHalve A d).1 0 x = if x = d + hfA A d ∨ x = d then A.1 0 d - 1 else A.1 0 x := by
  have := hv_u hW hd ho
  show (if x = d + hfA A d then (if 0 = 0 then A.1 0 d - 1 else _) else if x = d then (if 0 = 0 then A.1 0 d - 1 else _) else if 0 = 3 ∧ _ then _ else A.1 0 x) = _
  by_cases q1 : x = d + hfA A d
  · simp [q1]
  · by_cases q2 : x = d
    · simp [q1, q2]
    · simp [q1, q2]
theorem hv_n {n S : Nat} {A : Ab} {dep : Nat → Nat} (hW : WF n S A dep) {d : Nat} (hd : Lv A d) (ho : 2 ≤ A.1 0 d) {x j : Nat} (hx : x ≠ d + hfA A d) (h0 : j ≠ 0) (h3 : j ≠ 3) : (aHalve A d).1 j x = A.1 j x := by
  show (if x = d + hfA A d then _ else if x = d then (if j = 0 then _ else A.1 j d) else if j = 3 ∧ _ then _ else A.1 j x) = _
  rw [if_neg hx]
  by_cases q2 : x = d
  · rw [if_pos q2, if_neg h0, q2]
  · rw [if_neg q2, if_neg (fun z => h3 z.1)]
theorem hv_lv {n S : Nat} {A : Ab} {dep : Nat → Nat} (hW : WF n S A dep) {d : Nat} (hd : Lv A d) (ho : 2 ≤ A.1 0 d) (x : Nat) : Lv (aHalve A d) x ↔ x = d + hfA A d ∨ Lv A x := by
  have hu := hv_u hW hd ho
  have hwa := hW.2.2.2.1 d hd
  have := hW.1
  have := hW.2.1
  unfold Lv
  rw [hv_0 hW hd ho]
  by_cases q1 : x = d + hfA A d
  · rw [if_pos (.inl q1)]; have := hwa.2.2.1; have := hwa.2.2.2.1; constructor
    · intro _; exact .inl q1
    · intro _; exact ⟨by omega, by omega⟩
  · by_cases q2 : x = d
    · rw [if_pos (.inr q2)]; subst q2; constructor
      · intro _; exact .inr hd
      · intro _; exact ⟨hd.1, by omega⟩
    · rw [if_neg (by omega)]; simp [q1]
theorem hv_k {n S : Nat} {A : Ab} {dep : Nat → Nat} (_hW : WF n S A dep) {d x y : Nat} (hx : x ≠ d + hfA A d) (hxd : x ≠ d) (hy : y ∈ (aHalve A d).2 x) : y = d + hfA A d ∨ y ∈ A.2 x := by
  have e : (aHalve A d).2 x = if A.1 3 d = (x : Int) + 1 then insA d (d + hfA A d) (A.2 x) else A.2 x := by
    show (if x = d + hfA A d then _ else if x = d then _ else _) = _
    rw [if_neg hx, if_neg hxd]
  rw [e] at hy
  split at hy
  · rcases insA_mem.mp hy with z | ⟨z, -⟩
    · exact .inr z
    · exact .inl z
  · exact .inr hy
theorem SI_step {n S : Nat} {A : Ab} {dep : Nat → Nat} {o : Int} {pre : List Nat} {x : Nat} (hW : WF n S A dep) (ho : 2 ≤ o) (h : SI A dep o (pre ++ [x])) :
    Lv A x ∧ A.1 0 x = o ∧ A.1 9 x = 0 ∧ (∀ y, y ∈ A.2 x → A.1 0 y < A.1 0 x) ∧ WF n S (aHalve A x) (fun y => if y = x + hfA A x then dep x else dep y) ∧ SI (aHalve A x) (fun y => if y = x + hfA A x then dep x else dep y) o pre := by
  obtain ⟨h1, h2, h3, h4⟩ := h
  obtain ⟨hx, hxo, hxt⟩ := h3 x (by simp)
  have hk : ∀ y, y ∈ A.2 x → A.1 0 y < A.1 0 x := fun y hy => by
    have hky := kid_ne hW hx hy
    have hle := (gv_live hW hky.1 hky.2.1).2.2.2.1
    refine Classical.byContradiction fun hn => ?_
    have he : A.1 0 y = o := by omega
    have hm := h4 x y (by simp) hy he
    rcases List.mem_append.mp hm with hm | hm
    · have := (List.pairwise_append.mp h2).2.2 y hm x (by simp); omega
    · simp at hm; exact hky.2.2.1 hm
  have hu := hv_u hW hx (by omega)
  refine ⟨hx, hxo, hxt, hk, WF_halve hW hx (by omega) hk, (List.nodup_append.mp h1).1, ?_, ?_, ?_⟩
  · have hne : ∀ y, y ∈ pre → y ≠ x + hfA A x := fun y hy e => hu.1 (e ▸ (h3 y (by simp [hy])).1)
    refine List.Pairwise.imp_of_mem (fun {a b} ha hb z => ?_) (List.pairwise_append.mp h2).1
    dsimp only
    rw [if_neg (hne a ha), if_neg (hne b hb)]; exact z
  · intro y hy
    obtain ⟨y1, y2, y3⟩ := h3 y (by simp [hy])
    have q1 : y ≠ x + hfA A x := fun e => hu.1 (e ▸ y1)
    have q2 : y ≠ x := fun e => (List.nodup_append.mp h1).2.2 y hy x (by simp) e
    refine ⟨(hv_lv hW hx (by omega) y).mpr (.inr y1), ?_, ?_⟩
    · rw [hv_0 hW hx (by omega), if_neg (by omega)]; exact y2
    · rw [hv_n hW hx (by omega) q1 (by decide) (by decide)]; exact y3
  · intro y z hy hz he
    obtain ⟨y1, y2, y3⟩ := h3 y (by simp [hy])
    have q1 : y ≠ x + hfA A x := fun e => hu.1 (e ▸ y1)
    have q2 : y ≠ x := fun e => (List.nodup_append.mp h1).2.2 y hy x (by simp) e
    rw [hv_0 hW hx (by omega)] at he
    by_cases w : z = x + hfA A x ∨ z = x
    · rw [if_pos w] at he; omega
    · rw [if_neg w] at he
      rcases hv_k hW q1 q2 hz with e | hz
      · exact absurd (.inl e) w
      · rcases List.mem_append.mp (h4 y z (by simp [hy]) hz he) with a | a
        · exact a
        · simp at a; exact absurd (.inr a) w
theorem SI_alk {n S : Nat} {A : Ab} {dep : Nat → Nat} (hW : WF n S A dep) {d : Nat} (hd : Lv A d) (ht : ∀ x, Lv A x → bl A d x = true → A.1 9 x = 0) : SI A dep (A.1 0 d) (alk A d) := by
  have hb : BI A dep (fun h => decide (A.1 0 h = A.1 0 d)) d (alk A d) [] := bfs_end hW 193 [] [d] (BI_start hW _ hd) (by simp)
  obtain ⟨h1, h2, h3, h4, h5, h6, h7⟩ := hb
  simp only [List.append_nil] at h1 h2 h3 h4 h5 h7
  refine ⟨h1, h5, fun x hx => ⟨(h2 x hx).1, ?_, ht x (h2 x hx).1 (h2 x hx).2⟩, fun x y hx hy he => h3 x y hx hy (by simpa using he)⟩
  rcases h4 x hx with e | ⟨e, -⟩
  · rw [e]
  · simpa using e
def aSplit (A : Ab) (d : Nat) : Ab := (alk A d).foldr (fun x A' => aHalve A' x) A
/-! the class -/
theorem cr_frame {δ δ' : Sl} {σ : Nat → Nat} {bn : Nat} {A : Ab} (h : CRep δ σ bn A) (hf : ∀ a i, 18 ≤ a → a ≤ 32 → δ' a i = δ a i) (h16 : δ' 17 16 = δ 17 16) (h17 : δ' 17 17 = δ 17 17) (h18 : δ' 17 18 = δ 17 18) : CRep δ' σ bn A := by
  obtain ⟨⟨s1, s2, s3, s4, s5⟩, hq, hff, ⟨n1, n2, n3⟩, F, L, N, P, k1, k2, k3⟩ := h
  refine ⟨⟨s1, by rw [h16]; exact s2, s3, s4, fun j h1 h2 => s5 j h1 (by rw [hf 21 j (by omega) (by omega)] at h2; exact h2)⟩, fun q hq1 => by rw [hf 32 q (by omega) (by omega)]; exact hq q hq1, fun x hx => ?_, ⟨by rw [h17]; exact n1, by rw [h18]; exact n2, n3⟩, F, L, N, P, fun x hx => ?_, k2, k3⟩
  · unfold CF
    rw [hf 18 _ (by omega) (by omega), hf 19 _ (by omega) (by omega), hf 20 _ (by omega) (by omega), hf 21 _ (by omega) (by omega), hf 22 _ (by omega) (by omega), hf 28 _ (by omega) (by omega), hf 29 _ (by omega) (by omega), hf 30 _ (by omega) (by omega), hf 31 _ (by omega) (by omega)]
    exact hff x hx
  · rw [hf 23 _ (by omega) (by omega), hf 24 _ (by omega) (by omega), hf 25 _ (by omega) (by omega), hf 26 _ (by omega) (by omega), hf 27 _ (by omega) (by omega)]
    exact k1 x hx
def LA (δ : Sl) (σ : Nat → Nat) (l : List Nat) : Prop := ∀ k x, l[k]? = some x → δ 33 k = zI (σ x : Int)
theorem LA_snoc {δ : Sl} {σ : Nat → Nat} {l : List Nat} (h : LA δ σ l) (x : Nat) : LA (wr δ 33 l.length (zI (σ x : Int))) σ (l ++ [x]) := by
  intro k y hk
  rw [wr_ap]
  by_cases q : k = l.length
  · subst q; simp at hk; subst hk; simp
  · rw [if_neg (fun z => q z.2)]
    refine h k y ?_
    rw [List.getElem?_append_left] at hk
    · exact hk
    · have := (List.getElem?_eq_some_iff.mp hk).1; simp at this; omega
theorem alike_inner {σ : Nat → Nat} {bn x : Nat} {A : Ab} (hKW : KW A) (hord : ∀ y, Lv A y → 0 < A.1 0 y ∧ A.1 0 y ≤ 4) (hx : Lv A x) (o : Int) (ho1 : 0 < o) (ho2 : o ≤ 4) (k19 : Int32 → Int32 → Int32 → Sl → Option (Int32 × Sl)) (i : Nat) (hi : i ≤ 192) : ∀ (r a l : List Nat) (n j : Nat) (δ : Sl), CRep δ σ bn A → A.2 x = a ++ r → LA δ σ l → l.length + (r.filter (fun h => decide (A.1 0 h = o))).length ≤ 192 → j + r.length ≤ 192 → r.length < n →
    ∃ δ', De_listAlike_42 k19 n (zI (o - 1)) (zI (l.length : Int)) (zI (i : Int)) (enc σ (hd1 r)) (zI (j : Int)) δ = k19 (zI (o - 1)) (zI ((l ++ r.filter (fun h => decide (A.1 0 h = o))).length : Int)) (zI ((i + 1 : Nat) : Int)) δ' ∧ LA δ' σ (l ++ r.filter (fun h => decide (A.1 0 h = o))) ∧ ∀ b k, b ≠ 33 → δ' b k = δ b k := by
  intro r
  induction r with
  | nil =>
    intro a l n j δ hC he hl h1 h2 h3
    obtain ⟨m, rfl⟩ : ∃ m, n = m + 1 := ⟨n - 1, by omega⟩
    refine ⟨δ, ?_, by simpa using hl, fun _ _ _ => rfl⟩
    have e : De_listAlike_99 k19 (zI (o - 1)) (zI (l.length : Int)) (zI (i : Int)) δ = k19 (zI (o - 1)) (zI ((l ++ ([] : List Nat)).length : Int)) (zI ((i + 1 : Nat) : Int)) δ := by
      simp only [De_listAlike_99, bnd_ap, zI_lit, zI_add, List.append_nil]; rfl
    rw [List.filter_nil, hd1_nil, enc_0, De_listAlike_42]
    rw [← e, if_pos (show zI (-1) < 0 by rw [zI_lit, zI_lt (by omega) (by omega) (by omega) (by omega)]; decide)]
    split <;> rfl
  | cons y r ih =>
    intro a l n j δ hC he hl h1 h2 h3
    obtain ⟨m, rfl⟩ : ∃ m, n = m + 1 := ⟨n - 1, by omega⟩
    have h2' : j + r.length + 1 ≤ 192 := by simp at h2; omega
    have h3' : r.length < m := by simp at h3; omega
    have hy : Lv A y := (hKW.1.1 x hx).2 y (by rw [he]; simp)
    have b1 := cr_lt hC hy
    have hnx := cr_next hC hKW hx he
    have hoy := (hC.2.2.1 y hy).2.2.2.1
    have hyo := hord y hy
    rw [hd1_cons, enc_s]
    by_cases hq : A.1 0 y = o
    · have h1' : l.length + 1 + (r.filter (fun h => decide (A.1 0 h = o))).length ≤ 192 := by
        simp [List.filter_cons, hq] at h1; omega
      have hl2 := LA_snoc hl y
      have hC2 : CRep (wr δ 33 l.length (zI (σ y : Int))) σ bn A := cr_frame hC (fun a i ha hb => if_neg (by omega)) (if_neg (by omega)) (if_neg (by omega)) (if_neg (by omega))
      obtain ⟨δ', e1, e2, e3⟩ := ih (a ++ [y]) (l ++ [y]) m (j + 1) _ hC2 (by rw [he]; simp) hl2 (by simp; omega) (by omega) h3'
      refine ⟨δ', ?_, ?_, fun b k hb => by rw [e3 b k hb, wr_ap, if_neg (fun z => hb z.1)]⟩
      · rw [De_listAlike_42]
        simp (disch := omega) only [zI_lit, zI_le, zI_lt, if_neg, zI_inb, if_pos, zI_ix, Int.toNat_natCast, hoy, zI_eq, bnd_ap, De_listAlike_84, wr_ap, hnx, zI_add]
        have : (zI ((l.length : Int) + 1)) = zI ((l ++ [y]).length : Int) := by simp
        rw [this, show (j : Int) + 1 = ((j + 1 : Nat) : Int) by omega, e1]
        simp [List.filter_cons, hq]
      · simpa [List.filter_cons, hq] using e2
    · have h1' : l.length + (r.filter (fun h => decide (A.1 0 h = o))).length ≤ 192 := by
        simp [List.filter_cons, hq] at h1; omega
      obtain ⟨δ', e1, e2, e3⟩ := ih (a ++ [y]) l m (j + 1) δ hC (by rw [he]; simp) hl h1' (by omega) h3'
      refine ⟨δ', ?_, by simpa [List.filter_cons, hq] using e2, e3⟩
      rw [De_listAlike_42]
      simp (disch := omega) only [zI_lit, zI_le, zI_lt, if_neg, zI_inb, if_pos, zI_ix, Int.toNat_natCast, hoy, zI_eq, bnd_ap, De_listAlike_84, hnx, zI_add]
      rw [show (j : Int) + 1 = ((j + 1 : Nat) : Int) by omega, e1]
      simp [List.filter_cons, hq]
theorem alike_outer {n S : Nat} {A : Ab} {dep : Nat → Nat} {σ : Nat → Nat} {bn d : Nat} (hW : WF n S A dep) (hd : Lv A d) : ∀ (m k : Nat) (p q : List Nat) (δ : Sl), CRep δ σ bn A → LA δ σ (p ++ q) → BI A dep (fun h => decide (A.1 0 h = A.1 0 d)) d p q → 193 ≤ m + p.length → m ≤ k →
    ∃ δ', De_listAlike_19 k (zI (A.1 0 d - 1)) (zI ((p ++ q).length : Int)) (zI (p.length : Int)) δ = some (zI ((bfs A (fun h => decide (A.1 0 h = A.1 0 d)) m p q).length : Int), δ') ∧ LA δ' σ (bfs A (fun h => decide (A.1 0 h = A.1 0 d)) m p q) ∧ ∀ b i, b ≠ 33 → δ' b i = δ b i := by
  have hKW := WF_KW hW
  have hord : ∀ y, Lv A y → 0 < A.1 0 y ∧ A.1 0 y ≤ 4 := fun y hy => ⟨hy.2, (hW.2.2.2.1 y hy).1⟩
  intro m
  induction m with
  | zero => intro k p q δ hC hl hb hm; have := BI_len hb; omega
  | succ m ih =>
    intro k p q δ hC hl hb hm hk
    obtain ⟨c, rfl⟩ : ∃ c, k = c + 1 := ⟨k - 1, by omega⟩
    have hlen := BI_len hb
    cases q with
    | nil =>
      refine ⟨δ, ?_, by simpa [bfs] using hl, fun _ _ _ => rfl⟩
      rw [De_listAlike_19]
      simp (disch := omega) only [List.append_nil, zI_le, if_pos, bfs]
    | cons x q =>
      have hx := (hb.2.1 x (by simp)).1
      have b1 := cr_lt hC hx
      have hlx : δ 33 p.length = zI (σ x : Int) := hl p.length x (by simp)
      have hst := BI_step hW hb
      have hlen2 := BI_len hst
      have hkl := len192 (hKW.1.1 x hx).1 (fun y hy => ((hKW.1.1 x hx).2 y hy).1)
      have hfx := cr_first hC hx
      simp at hlen hlen2
      obtain ⟨δ1, e1, e2, e3⟩ := alike_inner hKW hord hx (A.1 0 d) (hord d hd).1 (hord d hd).2 (De_listAlike_19 c) p.length (by omega) (A.2 x) [] (p ++ x :: q) FU 0 δ hC (by simp) hl (by simp; omega) (by omega) (FU_gt (by omega))
      have hC1 : CRep δ1 σ bn A := cr_frame hC (fun a i ha hb => e3 a i (by omega)) (e3 _ _ (by omega)) (e3 _ _ (by omega)) (e3 _ _ (by omega))
      have el : (p ++ x :: q) ++ (A.2 x).filter (fun h => decide (A.1 0 h = A.1 0 d)) = (p ++ [x]) ++ (q ++ (A.2 x).filter (fun h => decide (A.1 0 h = A.1 0 d))) := by simp
      rw [el] at e1 e2
      obtain ⟨δ2, f1, f2, f3⟩ := ih c (p ++ [x]) (q ++ (A.2 x).filter (fun h => decide (A.1 0 h = A.1 0 d))) δ1 hC1 e2 hst (by simp; omega) (by omega)
      refine ⟨δ2, ?_, f2, fun b i hb => by rw [f3 b i hb, e3 b i hb]⟩
      rw [De_listAlike_19]
      have hl3 : (p ++ x :: q).length = p.length + q.length + 1 := by simp; omega
      simp (disch := omega) only [zI_le, if_neg, zI_inb, if_pos, zI_ix, Int.toNat_natCast, hlx, bnd_ap, hfx]
      rw [show (0 : Int32) = zI ((0 : Nat) : Int) from rfl, e1]
      rw [show ((p.length + 1 : Nat) : Int) = ((p ++ [x]).length : Int) by simp, f1]
      rfl
theorem cr_alike {n S : Nat} {A : Ab} {dep : Nat → Nat} {σ : Nat → Nat} {bn d : Nat} {δ : Sl} (hW : WF n S A dep) (hC : CRep δ σ bn A) (hd : Lv A d) : ∃ δ', De_listAlike δ (zI (σ d : Int)) = some (zI ((alk A d).length : Int), δ') ∧ LA δ' σ (alk A d) ∧ CRep δ' σ bn A ∧ ∀ b i, b ≠ 33 → δ' b i = δ b i := by
  have b1 := cr_lt hC hd
  have hod := (hC.2.2.1 d hd).2.2.2.1
  have hl2 : LA (wr δ 33 0 (zI (σ d : Int))) σ ([] ++ [d]) := LA_snoc (l := []) (fun k x hk => by simp at hk) d
  have hC2 : CRep (wr δ 33 0 (zI (σ d : Int))) σ bn A := cr_frame hC (fun a i ha hb => if_neg (by omega)) (if_neg (by omega)) (if_neg (by omega)) (if_neg (by omega))
  obtain ⟨δ', e1, e2, e3⟩ := alike_outer hW hd 193 FU [] [d] _ hC2 hl2 (BI_start hW _ hd) (by simp) (by unfold FU; omega)
  have hfr : ∀ b i, b ≠ 33 → δ' b i = δ b i := fun b i hb => by rw [e3 b i hb, wr_ap, if_neg (fun z => hb z.1)]
  refine ⟨δ', ?_, e2, cr_frame hC (fun a i ha hb => hfr a i (by omega)) (hfr _ _ (by omega)) (hfr _ _ (by omega)) (hfr _ _ (by omega)), hfr⟩
  simp (disch := omega) only [De_listAlike, zI_inb, if_pos, zI_ix, Int.toNat_natCast, hod, bnd_ap, zI_lit]
  exact e1
