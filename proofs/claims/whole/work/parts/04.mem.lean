theorem va_one {D : va_G} {cl : List vw_C} {q : Nat × va_E} {H : Heap} (h : va_at D cl q H) : va_P D cl [q] H := fun k r hk => by
  cases k with
  | zero => cases hk; exact h
  | succ k => simp at hk
/-- one cell is written -/
theorem Holds.wr {G : Geo} {M M2 : Mem} {H H1 : Heap} {k a : Nat} (hG : GOk G) (h : Holds G M H) (hl : G.2.2.2 k a) (ht : tbc a = false) (hne : ∀ k' a', ¬ (k' = k ∧ a' = a) → M2 k' a' = M k' a') (h1 : va_at G.1 vwc (G.2.2.1 k a, ent G k a (M2 k a)) H1) (hr : RefOk G k a (M2 k a)) (hq : ∀ q, q ≠ G.2.2.1 k a → H1[q]? = H[q]?) : Holds G M2 H1 := by
  refine ⟨fun k' a' hl' => ?_, fun k' a' hl' => ?_⟩
  · by_cases e : k' = k ∧ a' = a
    · obtain ⟨e1, e2⟩ := e; subst e1; subst e2; exact ET.of h1 ht
    · rw [hne k' a' e]
      exact (h.1 k' a' hl').kept (hq _ (fun z => e (hG.1 k' a' k a hl' hl z)))
  · by_cases e : k' = k ∧ a' = a
    · obtain ⟨e1, e2⟩ := e; subst e1; subst e2; exact hr
    · rw [hne k' a' e]; exact h.2 k' a' hl'
theorem wrM_ne (M : Mem) (k a i : Nat) (v : Int32) (k' a' : Nat) (h : ¬ (k' = k ∧ a' = a)) : wrM M k a i v k' a' = M k' a' := by
  unfold wrM
  by_cases e : k' = k
  · subst e
    rw [setS_at]
    funext j
    exact if_neg (fun z => h ⟨rfl, z.1⟩)
  · rw [setS_ne _ _ e]
theorem wrM_at (M : Mem) (k a i : Nat) (v : Int32) : wrM M k a i v k a = fun j => if j = i then v else M k a j := by
  unfold wrM
  rw [setS_at]
  funext j
  by_cases e : j = i
  · subst e; simp [wr]
  · simp [wr, e]
/-- a field of a kind of object -/
def FD (a j code b : Nat) (Cn name desc : String) (fin : Bool) : Prop := ∃ (ci : Nat) (cs : List (Nat × Nat)) (T : u_T) (N : Nat) (ty0 : Nat → FieldType), kd a = .inr (ci, cs) ∧ cs[j]? = some (code, b) ∧ vwc[ci]? = some (Cn, T, N) ∧ j < N ∧ (∀ w ∈ u_ws Cn T N, w ∈ gw) ∧ T j = (Cn, name, desc, fin) ∧ (∀ k, k < N → parseFieldDescriptor (T k).2.2.1 = some (ty0 k)) ∧ (∀ a, a < N → ∀ b, b < N → a ≠ b → (T a).2.1 ≠ (T b).2.1) ∧ cs.length = N ∧ N ≤ 64 ∧ (a < 48 ∨ 60 ≤ a)
theorem ent_obj {G : Geo} {k a ci : Nat} {cs : List (Nat × Nat)} (h : kd a = .inr (ci, cs)) (f : Nat → Int32) : ent G k a f = .inr (ci, fvs G k f 0 cs) := by unfold ent; rw [h]
theorem ent_arr {G : Geo} {k a ty n : Nat} (h : kd a = .inl (ty, n)) (f : Nat → Int32) : ent G k a f = .inl (G.2.1 ty, arrC G ty n f) := by unfold ent; rw [h]
theorem inb_in {i : Int32} {n : Nat} (h : inb i n) : vp_in i n := vp_in_iff.mpr h
theorem inb_lt {i : Int32} {n : Nat} (h : inb i n) : ix i < n := Nat.not_le.mp fun q => inb_in h (Or.inr q)
section ZM
variable {C : Cxt} {cc : ByteArray} {nL : Nat} {own : String} {ret : Option FieldType} {rm : Room} {G : Geo} {σ τ : Type} {mem : σ → Mem} {Qt : τ → State → Prop} {cs ss : Nat} {pc : Nat} {ls : List (Nat × AV)} {st : List AV} {x0 : σ} {P : Option τ} {k a : Nat}
theorem z_get (hC : Cx C cc nL own ret rm G) (hl : G.2.2.2 k a) {j code b index : Nat} {Cn name desc : String} {fin : Bool} (hF : FD a j code b Cn name desc fin) (hlink : Cond.fieldLink own index Cn name desc ∈ gw) {v : AV} (hv : fv G k (mem x0 k a) (code, b) j = ph G v) (d : decode cc pc = .ok (.getfield index, 3))
    (kk : Rg C nL G cs ss mem Qt (pc + 3) ls (v :: st) x0 P) : Rg C nL G cs ss mem Qt pc ls (.inr (k, a) :: st) x0 P := by
  intro t hP H locs lsA hH hS hL
  obtain ⟨ci, cs, T, N, ty0, h1, h2, h3, h4, h5, h6, h7, h8, h9⟩ := hF
  have hat := (hH.1 k a hl).no (nt_obj h1)
  rw [ent_obj h1] at hat
  refine va_get (ref := Cn) (index := index) (Ts := gw) hC.1 hC.2.1 hC.2.2.2.2.1 h5 hC.2.2.2.1 hC.2.2.2.2.2.1 (va_one hat) 0 (fs := fvs G k (mem x0 k a) 0 cs) rfl h3 j h4 ?_ ?_ (v := ph G v) ?_ d (kk t hP H locs lsA hH hS hL)
  · rw [h6]; exact hC.2.2.2.2.1 _ hlink
  · rw [h6]; exact fun _ h => h
  · rw [fvs_get, h2]; simp only [Option.map_some, Nat.zero_add, hv]
theorem z_geti (hC : Cx C cc nL own ret rm G) (hl : G.2.2.2 k a) {j b index : Nat} {Cn name desc : String} {fin : Bool} (hF : FD a j 0 b Cn name desc fin) (hlink : Cond.fieldLink own index Cn name desc ∈ gw) {v : Int32} (hv : mem x0 k a j = v) (d : decode cc pc = .ok (.getfield index, 3))
    (kk : Rg C nL G cs ss mem Qt (pc + 3) ls (.inl (.int v) :: st) x0 P) : Rg C nL G cs ss mem Qt pc ls (.inr (k, a) :: st) x0 P := z_get hC hl hF hlink (v := .inl (.int v)) (by show Value.int _ = _; rw [hv]; rfl) d kk
theorem z_getc (hC : Cx C cc nL own ret rm G) (hl : G.2.2.2 k a) {j b index : Nat} {Cn name desc : String} {fin : Bool} (hF : FD a j 1 b Cn name desc fin) (hlink : Cond.fieldLink own index Cn name desc ∈ gw) (d : decode cc pc = .ok (.getfield index, 3))
    (kk : Rg C nL G cs ss mem Qt (pc + 3) ls (.inr (k, b) :: st) x0 P) : Rg C nL G cs ss mem Qt pc ls (.inr (k, a) :: st) x0 P := z_get hC hl hF hlink (v := .inr (k, b)) rfl d kk
theorem z_getl (hC : Cx C cc nL own ret rm G) (hl : G.2.2.2 k a) {j b index : Nat} {Cn name desc : String} {fin : Bool} (hF : FD a j 3 b Cn name desc fin) (hlink : Cond.fieldLink own index Cn name desc ∈ gw) {v w : Int32} (hv : mem x0 k a j = v) (hw : mem x0 k a (j + 64) = w) (d : decode cc pc = .ok (.getfield index, 3))
    (kk : Rg C nL G cs ss mem Qt (pc + 3) ls (.inl (.long (dl v w)) :: st) x0 P) : Rg C nL G cs ss mem Qt pc ls (.inr (k, a) :: st) x0 P := z_get hC hl hF hlink (v := .inl (.long (dl v w))) (by show Value.long _ = _; rw [hv, hw]; rfl) d kk
/-- a field that holds a reference: none, if below 0 -/
def gref (v : Int32) (K : Nat → Option τ) : Option τ := if v < 0 then none else K v.toNatClampNeg
theorem z_getr (hC : Cx C cc nL own ret rm G) (hl : G.2.2.2 k a) {j b index : Nat} {Cn name desc : String} {fin : Bool} (hF : FD a j 2 b Cn name desc fin) (hlink : Cond.fieldLink own index Cn name desc ∈ gw) {v : Int32} (hv : mem x0 k a j = v) {K : Nat → Option τ} (d : decode cc pc = .ok (.getfield index, 3))
    (kk : ∀ q, G.2.2.2 q b → Rg C nL G cs ss mem Qt (pc + 3) ls (.inr (q, b) :: st) x0 (K q)) : Rg C nL G cs ss mem Qt pc ls (.inr (k, a) :: st) x0 (gref v K) := by
  intro t hP H locs lsA hH hS hL
  unfold gref at hP
  by_cases hn : v < 0
  · rw [if_pos hn] at hP; cases hP
  · rw [if_neg hn] at hP
    have hq : G.2.2.2 v.toNatClampNeg b := by
      obtain ⟨ci, cs, T, N, ty0, h1, h2, -⟩ := hF
      have h := hH.2 k a hl
      unfold RefOk at h
      rw [h1] at h
      rcases (h j 2 b h2).2.1 rfl with h | h
      · rw [hv] at h; exact absurd h hn
      · rw [hv] at h; exact h
    refine z_get (P := K v.toNatClampNeg) hC hl hF hlink (v := .inr (v.toNatClampNeg, b)) ?_ d (kk _ hq) t hP H locs lsA hH hS hL
    show va_rf (rf G b (mem x0 k a j)) = _
    rw [hv]; unfold rf; rw [if_neg hn]; rfl
theorem z_getS (hC : Cx C cc nL own ret rm G) (hcl : GCl G) (hl : G.2.2.2 k a) {j index : Nat} {Cn name desc : String} {fin : Bool} (hF : FD a j 2 4 Cn name desc fin) (hlink : Cond.fieldLink own index Cn name desc ∈ gw) {v : Int32} (hv : mem x0 k a j = v) {K : Nat → Option τ} (d : decode cc pc = .ok (.getfield index, 3))
    (kk : ∀ q, LSc G q → q < 2 → Rg C nL G cs ss mem Qt (pc + 3) ls (.inr (q, 4) :: st) x0 (K q)) : Rg C nL G cs ss mem Qt pc ls (.inr (k, a) :: st) x0 (gref v K) :=
  z_getr hC hl hF hlink hv d (fun q hq => kk q (hcl.1 q hq).1 (hcl.1 q hq).2)
theorem z_getW (hC : Cx C cc nL own ret rm G) (hcl : GCl G) (hl : G.2.2.2 k a) {j index : Nat} {Cn name desc : String} {fin : Bool} (hF : FD a j 2 10 Cn name desc fin) (hlink : Cond.fieldLink own index Cn name desc ∈ gw) {v : Int32} (hv : mem x0 k a j = v) {K : Nat → Option τ} (d : decode cc pc = .ok (.getfield index, 3))
    (kk : ∀ q, LWd G q → 2 ≤ q → Rg C nL G cs ss mem Qt (pc + 3) ls (.inr (q, 10) :: st) x0 (K q)) : Rg C nL G cs ss mem Qt pc ls (.inr (k, a) :: st) x0 (gref v K) :=
  z_getr hC hl hF hlink hv d (fun q hq => kk q (hcl.2 q hq).1 (hcl.2 q hq).2)
theorem Fr.of {G : Geo} {k a : Nat} (h : G.2.2.2 k a) (ha : a < 48 ∨ 60 ≤ a) : Fr G (G.2.2.1 k a) := ⟨k, a, h, ha, rfl⟩
theorem fv_eq {G : Geo} {k : Nat} {f f2 : Nat → Int32} {j : Nat} (h1 : f2 j = f j) (h2 : f2 (j + 64) = f (j + 64)) (c : Nat × Nat) : fv G k f2 c j = fv G k f c j := by
  unfold fv; rw [h1, h2]
set_option maxRecDepth 100000 in
theorem fvs_put {G : Geo} {k : Nat} {f f2 : Nat → Int32} {cs : List (Nat × Nat)} {j : Nat} {c : Nat × Nat} {v : Value} (h2 : cs[j]? = some c) (hi : ∀ i, i ≠ j → i ≠ j + 64 → f2 i = f i) (hj : fv G k f2 c j = v) (hN : cs.length ≤ 64) (i : Nat) (hic : i < cs.length) : updV (vp_V (fvs G k f 0 cs)) j v i = vp_V (fvs G k f2 0 cs) i := by
  have hjl : j < cs.length := (List.getElem?_eq_some_iff.mp h2).1
  by_cases e : i = j
  · subst e
    simp only [updV, vp_V, if_true, List.getD_eq_getElem?_getD, fvs_get, h2, Option.map_some, Option.getD_some, Nat.zero_add, hj]
  · simp only [updV, vp_V, if_neg e, List.getD_eq_getElem?_getD, fvs_get, Nat.zero_add]
    cases hcs : cs[i]? with
    | none => simp only [Option.map_none]
    | some cd =>
      simp only [Option.map_some, Option.getD_some]
      have g1 : f2 i = f i := hi i e (by omega)
      have g2 : f2 (i + 64) = f (i + 64) := hi (i + 64) (by omega) (by omega)
      rw [fv_eq g1 g2 cd]
/-- a field is written: the memory behind it differs in this cell alone -/
theorem z_put (hC : Cx C cc nL own ret rm G) (hl : G.2.2.2 k a) {j code b index : Nat} {Cn name desc : String} (hF : FD a j code b Cn name desc false) (hlink : Cond.fieldLink own index Cn name desc ∈ gw) {ty : FieldType} {v : AV} (hd : parseFieldDescriptor desc = some ty) (hn : narrow ty (ph G v) = ph G v) (hfit : fits ty (ph G v) = true)
    (x2 : σ) (hne : ∀ k' a', ¬ (k' = k ∧ a' = a) → mem x2 k' a' = mem x0 k' a') (hj : fv G k (mem x2 k a) (code, b) j = ph G v) (hi : ∀ i, i ≠ j → i ≠ j + 64 → mem x2 k a i = mem x0 k a i) (h64 : mem x2 k a (j + 64) = mem x0 k a (j + 64) ∨ code = 3) (hr : ∀ H, Holds G (mem x0) H → RefOk G k a (mem x2 k a)) (d : decode cc pc = .ok (.putfield index, 3))
    (kk : Rg C nL G cs ss mem Qt (pc + 3) ls st x2 P) : Rg C nL G cs ss mem Qt pc ls (v :: .inr (k, a) :: st) x0 P := by
  intro t hP H locs lsA hH hS hL
  obtain ⟨ci, cs, T, N, ty0, h1, h2, h3, h4, h5, h6, h7, h8, h9, h10, h11⟩ := hF
  obtain ⟨hx, hb, hml, hown, hts, hK, hG, -⟩ := id hC
  have hat := (hH.1 k a hl).no (nt_obj h1)
  rw [ent_obj h1] at hat
  have hap := va_apart (own := own) hts h5 ty0 h7 h8 hK h3
  obtain ⟨r0, q0, cell, q1, q2, q3, q4⟩ := hat
  have hr0 : r0 = (Cn, T, N) := Option.some.inj (q0.symm.trans h3)
  subst hr0
  obtain ⟨hSl, hfc, kC, hkC, hkind⟩ := hK.1 ci _ h3
  obtain ⟨cf, kf, fi, fd, hif, hsl⟩ := hSl j h4
  have hlay := hts _ (h5 _ (u_in_lay h4))
  unfold u_lay at hlay
  dsimp only at hif
  rw [h6] at hlay hif
  simp only [Bool.false_eq_true, if_false] at hlay
  have hst := (u_facts hfc hkC (Or.inl hlay) hif).1
  have h66 := u_store hfc hkC hkind hlay hif hd hn hfit
  refine W.putK (index := index) hx hb (f := fd) ⟨hown, hts _ hlink, ⟨_, _, _, hif⟩, hst⟩ (by rw [q2]; exact h66) q1 q3 (by rw [hsl]; exact k2_hasslot (q4 j h4)) rfl rfl d fun H' e1 e2 e3 => ?_
  rw [hsl] at e1 ⊢
  refine kk t hP H' _ lsA (hH.wr hG hl (nt_obj h1) hne ?_ (hr H hH) e3) (hS.put e2 e3 (Or.inl (Fr.of hl h11))) hL
  rw [ent_obj h1]
  refine ⟨_, h3, t_OB.to (V := updV (vp_V (fvs G k (mem x0 k a) 0 cs)) j (ph G v)) ⟨_, e1, q2, q3, t_set q4 hap h4 (ph G v)⟩ (fun i hi2 => ?_)⟩
  exact fvs_put h2 hi hj (by omega) i (by rw [h9]; exact hi2)
theorem refok_int {G : Geo} {k a j b : Nat} {f f2 : Nat → Int32} {Cn name desc : String} {code : Nat} {fin : Bool} (hF : FD a j code b Cn name desc fin) (hc : code ≠ 2 ∧ ¬ 3 < code) (h : RefOk G k a f) (hi : ∀ i, i ≠ j → i < 64 → f2 i = f i) : RefOk G k a f2 := by
  obtain ⟨ci, cs, T, N, ty0, h1, h2, h3, h4, h5, h6, h7, h8, h9, h10, h11⟩ := hF
  unfold RefOk at h ⊢
  rw [h1] at h ⊢
  intro i c2 b2 hb2
  have hil : i < cs.length := (List.getElem?_eq_some_iff.mp hb2).1
  by_cases hij : i = j
  · subst hij
    rw [h2] at hb2
    cases hb2
    exact ⟨(h i _ _ h2).1, fun e => absurd e hc.1, fun e => absurd e hc.2⟩
  · rw [hi i hij (by omega)]
    exact h i c2 b2 hb2
theorem z_puti (hC : Cx C cc nL own ret rm G) (hl : G.2.2.2 k a) {j b index : Nat} {Cn name : String} (hF : FD a j 0 b Cn name "I" false) (hlink : Cond.fieldLink own index Cn name "I" ∈ gw) {v : Int32} (x2 : σ) (hw : wrM (mem x0) k a j v = mem x2) (d : decode cc pc = .ok (.putfield index, 3)) {K : σ → Option τ}
    (kk : ∀ y, Rg C nL G cs ss mem Qt (pc + 3) ls st y (K y)) : Rg C nL G cs ss mem Qt pc ls (.inl (.int v) :: .inr (k, a) :: st) x0 (bnd x2 K) := by
  have hi : ∀ i, i ≠ j → mem x2 k a i = mem x0 k a i := fun i h => by rw [← hw, wrM_at]; exact if_neg h
  refine z_put (v := .inl (.int v)) hC hl hF hlink (ty := .int) rfl rfl rfl x2 (fun k' a' h => by rw [← hw]; exact wrM_ne _ _ _ _ _ _ _ h) ?_ (fun i h _ => hi i h) (Or.inl (hi _ (by omega))) (fun H hH => refok_int hF ⟨by decide, by decide⟩ (hH.2 k a hl) (fun i h _ => hi i h)) d (kk x2)
  show Value.int _ = _
  rw [← hw, wrM_at]; simp [ph]
/-- arrays -/
theorem z_iald (hC : Cx C cc nL own ret rm G) (hl : G.2.2.2 k a) {n : Nat} (hk : kd a = .inl (0, n)) {f : Nat → Int32} (hf : mem x0 k a = f) {i : Int32} (d : decode cc pc = .ok (.iaload, 1))
    (kk : Rg C nL G cs ss mem Qt (pc + 1) ls (.inl (.int (f (ix i))) :: st) x0 P) : Rg C nL G cs ss mem Qt pc ls (.inl (.int i) :: .inr (k, a) :: st) x0 (if inb i n then P else none) := by
  intro t hP H locs lsA hH hS hL
  by_cases h : inb i n
  · rw [if_pos h] at hP
    cases ht : tbc a with
    | true =>
      obtain ⟨cell, g1, g2, g3, g4, g5, g6, g7⟩ := (hH.1 k a hl).tb ht
      have g8 := (hC.2.2.2.2.2.2.2.2.2.2.1 k a (tb_48 ht).1 (tb_48 ht).2 hl).2.2
      have en : tbn a = n := by have := tb_kd ht; rw [hk] at this; cases this; rfl
      rw [en] at g5 g7
      have hlt := inb_lt h
      have h0 : ¬ i < 0 := fun z => inb_in h (Or.inl z)
      exact W.iald (v := .int (f (ix i))) hC.1 hC.2.1 g1 ⟨g3, by rw [g2]; exact g8⟩ g4 (fun z => z.elim h0 (fun z => by have : cell.slots.size ≤ ix i := z; omega)) (by rw [g7 _ hlt, hf]) rfl rfl d (kk t hP H locs lsA hH hS hL)
    | false =>
    have hat := (hH.1 k a hl).no ht
    rw [ent_arr hk, hf] at hat
    exact va_iald hC.1 hC.2.1 hC.2.2.2.2.2.1 (va_one hat) 0 0 (cA := G.2.1 0) (n := n) (f := f) rfl rfl (inb_in h) d (kk t hP H locs lsA hH hS hL)
  · rw [if_neg h] at hP; cases hP
theorem z_zald (hC : Cx C cc nL own ret rm G) (hl : G.2.2.2 k a) {n : Nat} (hk : kd a = .inl (2, n)) {f : Nat → Int32} (hf : mem x0 k a = f) {i : Int32} (d : decode cc pc = .ok (.baload, 1))
    (kk : Rg C nL G cs ss mem Qt (pc + 1) ls (.inl (.int (f (ix i))) :: st) x0 P) : Rg C nL G cs ss mem Qt pc ls (.inl (.int i) :: .inr (k, a) :: st) x0 (if inb i n then P else none) := by
  intro t hP H locs lsA hH hS hL
  by_cases h : inb i n
  · rw [if_pos h] at hP
    have hat := (hH.1 k a hl).no (nt_arr hk (by decide))
    rw [ent_arr hk, hf] at hat
    exact va_zald hC.1 hC.2.1 hC.2.2.2.2.2.1 (va_one hat) 0 2 (cA := G.2.1 2) (n := n) (f := f) rfl rfl (inb_in h) d (kk t hP H locs lsA hH hS hL)
  · rw [if_neg h] at hP; cases hP
theorem z_fald (hC : Cx C cc nL own ret rm G) (hl : G.2.2.2 k a) {n : Nat} (hk : kd a = .inl (1, n)) {f : Nat → Int32} (hf : mem x0 k a = f) {i : Int32} (d : decode cc pc = .ok (.faload, 1))
    (kk : Rg C nL G cs ss mem Qt (pc + 1) ls (.inl (.float (f (ix i)).toUInt32) :: st) x0 P) : Rg C nL G cs ss mem Qt pc ls (.inl (.int i) :: .inr (k, a) :: st) x0 (if inb i n then P else none) := by
  intro t hP H locs lsA hH hS hL
  by_cases h : inb i n
  · rw [if_pos h] at hP
    have hat := (hH.1 k a hl).no (nt_arr hk (by decide))
    rw [ent_arr hk, hf] at hat
    exact va_fald hC.1 hC.2.1 hC.2.2.2.2.2.1 (va_one hat) 0 1 (cA := G.2.1 1) (n := n) (f := fun i => (f i).toUInt32) rfl rfl (inb_in h) d (kk t hP H locs lsA hH hS hL)
  · rw [if_neg h] at hP; cases hP
theorem z_alen (hC : Cx C cc nL own ret rm G) (hl : G.2.2.2 k a) {n : Nat} (hk : kd a = .inl (0, n)) (v : Int32) (hv : Int32.ofNat n = v) (d : decode cc pc = .ok (.arraylength, 1))
    (kk : Rg C nL G cs ss mem Qt (pc + 1) ls (.inl (.int v) :: st) x0 P) : Rg C nL G cs ss mem Qt pc ls (.inr (k, a) :: st) x0 P := by
  intro t hP H locs lsA hH hS hL
  cases ht : tbc a with
  | true =>
    obtain ⟨cell, g1, g2, g3, g4, g5, g6, g7⟩ := (hH.1 k a hl).tb ht
    have g8 := (hC.2.2.2.2.2.2.2.2.2.2.1 k a (tb_48 ht).1 (tb_48 ht).2 hl).2.2
    have en : tbn a = n := by have := tb_kd ht; rw [hk] at this; cases this; rfl
    rw [en, hv] at g6
    exact W.alen (n := v) hC.1 hC.2.1 g1 ⟨g3, by rw [g2]; exact g8⟩ g6 rfl rfl d (kk t hP H locs lsA hH hS hL)
  | false =>
  have hat := (hH.1 k a hl).no ht
  rw [ent_arr hk] at hat
  exact va_alen hC.1 hC.2.1 hC.2.2.2.2.2.1 (va_one hat) 0 0 (cA := G.2.1 0) (x := arrC G 0 n (mem x0 k a)) rfl rfl hv d (kk t hP H locs lsA hH hS hL)
theorem refok_arr {G : Geo} {k a ty n : Nat} (h : kd a = .inl (ty, n)) (ht : ¬ 2 < ty) (f : Nat → Int32) : RefOk G k a f := by
  unfold RefOk; rw [h]; exact fun e => absurd e ht
theorem upd_arr (f : Nat → Int32) (i : Nat) (v : Int32) : (fun j => if j = i then v else f j) = upd f i v := by funext j; rfl
theorem z_iast (hC : Cx C cc nL own ret rm G) (hl : G.2.2.2 k a) (ha : a < 48) {n : Nat} (hk : kd a = .inl (0, n)) {i v : Int32} (x2 : σ) (hw : wrM (mem x0) k a (ix i) v = mem x2) (d : decode cc pc = .ok (.iastore, 1)) {K : σ → Option τ}
    (kk : ∀ y, Rg C nL G cs ss mem Qt (pc + 1) ls st y (K y)) : Rg C nL G cs ss mem Qt pc ls (.inl (.int v) :: .inl (.int i) :: .inr (k, a) :: st) x0 (if inb i n then bnd x2 K else none) := by
  intro t hP H locs lsA hH hS hL
  by_cases h : inb i n
  · rw [if_pos h] at hP
    have hat := (hH.1 k a hl).no (nt_of (Or.inl ha))
    rw [ent_arr hk] at hat
    refine W.iast hC.1 hC.2.1 hat ((hC.2.2.2.2.2.1.2 0 _ rfl).1 n (fun j => .int (mem x0 k a j))) (fun q => by cases q) (by show ¬ (i < 0 ∨ (arrV _ _ _).slots.size ≤ _); rw [arrV_size]; exact inb_in h) rfl rfl d fun H1 e z oq => ?_
    refine kk x2 t hP H1 _ lsA (hH.wr hC.2.2.2.2.2.2.1 hl (nt_of (Or.inl ha)) (fun k' a' hh => by rw [← hw]; exact wrM_ne _ _ _ _ _ _ _ hh) ?_ (refok_arr hk (by decide) _) oq) (hS.put z oq (Or.inl (Fr.of hl (Or.inl ha)))) hL
    rw [ent_arr hk, ← hw, wrM_at]
    show H1[_]? = some (vp_cell _ _)
    rw [e]
    show some ((vp_cell _ (n, .inl _)).setSlot _ _) = some (vp_cell _ (n, .inl _))
    rw [vp_cell_i, vp_cell_i, arrV_store]
    congr 2
    funext q
    by_cases hq : q = i.toNatClampNeg
    · subst hq; simp [updV]
    · simp [updV, hq]
  · rw [if_neg h] at hP; cases hP
theorem z_zast (hC : Cx C cc nL own ret rm G) (hl : G.2.2.2 k a) (ha : a < 48) {n : Nat} (hk : kd a = .inl (2, n)) {i v : Int32} (hv : narrow .boolean (.int v) = .int v) (x2 : σ) (hw : wrM (mem x0) k a (ix i) v = mem x2) (d : decode cc pc = .ok (.bastore, 1)) {K : σ → Option τ}
    (kk : ∀ y, Rg C nL G cs ss mem Qt (pc + 1) ls st y (K y)) : Rg C nL G cs ss mem Qt pc ls (.inl (.int v) :: .inl (.int i) :: .inr (k, a) :: st) x0 (if inb i n then bnd x2 K else none) := by
  intro t hP H locs lsA hH hS hL
  by_cases h : inb i n
  · rw [if_pos h] at hP
    have hat := (hH.1 k a hl).no (nt_of (Or.inl ha))
    rw [ent_arr hk] at hat
    refine W.zast hC.1 hC.2.1 hat ((hC.2.2.2.2.2.1.2 2 _ rfl).1 n (fun j => .int (mem x0 k a j))) (fun q => by cases q) (by show ¬ (i < 0 ∨ (arrV _ _ _).slots.size ≤ _); rw [arrV_size]; exact inb_in h) rfl rfl d fun H1 e z oq => ?_
    refine kk x2 t hP H1 _ lsA (hH.wr hC.2.2.2.2.2.2.1 hl (nt_of (Or.inl ha)) (fun k' a' hh => by rw [← hw]; exact wrM_ne _ _ _ _ _ _ _ hh) ?_ (refok_arr hk (by decide) _) oq) (hS.put z oq (Or.inl (Fr.of hl (Or.inl ha)))) hL
    rw [ent_arr hk, ← hw, wrM_at]
    show H1[_]? = some (vp_cell _ _)
    rw [e, hv]
    show some ((vp_cell _ (n, .inl _)).setSlot _ _) = some (vp_cell _ (n, .inl _))
    rw [vp_cell_i, vp_cell_i, arrV_store]
    congr 2
    funext q
    by_cases hq : q = i.toNatClampNeg
    · subst hq; simp [updV]
    · simp [updV, hq]
  · rw [if_neg h] at hP; cases hP
theorem z_fast (hC : Cx C cc nL own ret rm G) (hl : G.2.2.2 k a) (ha : a < 48) {n : Nat} (hk : kd a = .inl (1, n)) {i : Int32} {v : UInt32} (x2 : σ) (hw : wrM (mem x0) k a (ix i) v.toInt32 = mem x2) (d : decode cc pc = .ok (.fastore, 1)) {K : σ → Option τ}
    (kk : ∀ y, Rg C nL G cs ss mem Qt (pc + 1) ls st y (K y)) : Rg C nL G cs ss mem Qt pc ls (.inl (.float v) :: .inl (.int i) :: .inr (k, a) :: st) x0 (if inb i n then bnd x2 K else none) := by
  intro t hP H locs lsA hH hS hL
  by_cases h : inb i n
  · rw [if_pos h] at hP
    have hat := (hH.1 k a hl).no (nt_of (Or.inl ha))
    rw [ent_arr hk] at hat
    refine W.fast hC.1 hC.2.1 hat ((hC.2.2.2.2.2.1.2 1 _ rfl).1 n (fun j => .float (mem x0 k a j).toUInt32)) (fun q => by cases q) (by show ¬ (i < 0 ∨ (arrV _ _ _).slots.size ≤ _); rw [arrV_size]; exact inb_in h) rfl rfl d fun H1 e z oq => ?_
    refine kk x2 t hP H1 _ lsA (hH.wr hC.2.2.2.2.2.2.1 hl (nt_of (Or.inl ha)) (fun k' a' hh => by rw [← hw]; exact wrM_ne _ _ _ _ _ _ _ hh) ?_ (refok_arr hk (by decide) _) oq) (hS.put z oq (Or.inl (Fr.of hl (Or.inl ha)))) hL
    rw [ent_arr hk, ← hw, wrM_at]
    show H1[_]? = some (vp_cell _ _)
    rw [e]
    show some ((vp_cell _ (n, .inr (.inr (.inl _)))).setSlot _ _) = some (vp_cell _ (n, .inr (.inr (.inl _))))
    rw [vp_cell_f, vp_cell_f, arrV_store]
    congr 2
    funext q
    by_cases hq : q = i.toNatClampNeg
    · subst hq; simp [updV]
    · simp [updV, hq]
  · rw [if_neg h] at hP; cases hP
/-- constants -/
theorem z_ldc (hC : Cx C cc nL own ret rm G) {index : Nat} (v : Int32) (hw : Cond.constant own index v ∈ gw) (d : decode cc pc = .ok (.ldc index, 2)) (kk : Rg C nL G cs ss mem Qt (pc + 2) ls (.inl (.int v) :: st) x0 P) : Rg C nL G cs ss mem Qt pc ls st x0 P :=
  fun t hP H locs lsA hH hS hL => lv_ldc hC.1 hC.2.1 hC.2.2.2.1 (hC.2.2.2.2.1 _ hw) d (kk t hP H locs lsA hH hS hL)
theorem z_ldcw (hC : Cx C cc nL own ret rm G) {index : Nat} (v : Int32) (hw : Cond.constant own index v ∈ gw) (d : decode cc pc = .ok (.ldc_w index, 3)) (kk : Rg C nL G cs ss mem Qt (pc + 3) ls (.inl (.int v) :: st) x0 P) : Rg C nL G cs ss mem Qt pc ls st x0 P :=
  fun t hP H locs lsA hH hS hL => lv_ldcw hC.1 hC.2.1 hC.2.2.2.1 (hC.2.2.2.2.1 _ hw) d (kk t hP H locs lsA hH hS hL)
theorem z_ldcf (hC : Cx C cc nL own ret rm G) {index : Nat} (v : UInt32) (hw : Cond.constantFloat own index v ∈ gw) (d : decode cc pc = .ok (.ldc index, 2)) (kk : Rg C nL G cs ss mem Qt (pc + 2) ls (.inl (.float v) :: st) x0 P) : Rg C nL G cs ss mem Qt pc ls st x0 P :=
  fun t hP H locs lsA hH hS hL => lv_ldcf hC.1 hC.2.1 hC.2.2.2.1 (hC.2.2.2.2.1 _ hw) d (kk t hP H locs lsA hH hS hL)
theorem z_ldc2 (hC : Cx C cc nL own ret rm G) {index : Nat} (v : Int64) (hw : Cond.constantLong own index v ∈ gw) (d : decode cc pc = .ok (.ldc2_w index, 3)) (kk : Rg C nL G cs ss mem Qt (pc + 3) ls (.inl (.long v) :: st) x0 P) : Rg C nL G cs ss mem Qt pc ls st x0 P :=
  fun t hP H locs lsA hH hS hL => lv_ldc2 hC.1 hC.2.1 hC.2.2.2.1 (hC.2.2.2.2.1 _ hw) d (kk t hP H locs lsA hH hS hL)
theorem z_ldc2d (hC : Cx C cc nL own ret rm G) {index : Nat} (v : UInt64) (hw : Cond.constantDouble own index v ∈ gw) (d : decode cc pc = .ok (.ldc2_w index, 3)) (kk : Rg C nL G cs ss mem Qt (pc + 3) ls (.inl (.double v) :: st) x0 P) : Rg C nL G cs ss mem Qt pc ls st x0 P :=
  fun t hP H locs lsA hH hS hL => lv_ldc2d hC.1 hC.2.1 hC.2.2.2.1 (hC.2.2.2.2.1 _ hw) d (kk t hP H locs lsA hH hS hL)
end ZM
