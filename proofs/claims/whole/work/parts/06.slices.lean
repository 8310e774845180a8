/-! ===== the rows for one slice (mem = setS M k), for another slice of the memory around it, and for the whole memory (mem = gm) ===== -/
abbrev gm : Mem → Mem := fun M => M
section ZS
variable {C : Cxt} {cc : ByteArray} {nL : Nat} {own : String} {ret : Option FieldType} {rm : Room} {G : Geo} {τ : Type} {M : Mem} {Qt : τ → State → Prop} {cs ss : Nat} {pc : Nat} {ls : List (Nat × AV)} {st : List AV} {x0 : Sl} {P : Option τ} {k a : Nat}
theorem zs_geti (hC : Cx C cc nL own ret rm G) (hl : G.2.2.2 k a) {j b index : Nat} {Cn name desc : String} {fin : Bool} (hF : FD a j 0 b Cn name desc fin) (hlink : Cond.fieldLink own index Cn name desc ∈ gw) (d : decode cc pc = .ok (.getfield index, 3))
    (kk : Rg C nL G cs ss (setS M k) Qt (pc + 3) ls (.inl (.int (x0 a j)) :: st) x0 P) : Rg C nL G cs ss (setS M k) Qt pc ls (.inr (k, a) :: st) x0 P := z_geti hC hl hF hlink (by rw [setS_at]) d kk
theorem zs_getl (hC : Cx C cc nL own ret rm G) (hl : G.2.2.2 k a) {j b index : Nat} {Cn name desc : String} {fin : Bool} (hF : FD a j 3 b Cn name desc fin) (hlink : Cond.fieldLink own index Cn name desc ∈ gw) (d : decode cc pc = .ok (.getfield index, 3))
    (kk : Rg C nL G cs ss (setS M k) Qt (pc + 3) ls (.inl (.long (dl (x0 a j) (x0 a (j + 64)))) :: st) x0 P) : Rg C nL G cs ss (setS M k) Qt pc ls (.inr (k, a) :: st) x0 P := z_getl hC hl hF hlink (by rw [setS_at]) (by rw [setS_at]) d kk
theorem zs_getS (hC : Cx C cc nL own ret rm G) (hcl : GCl G) (hl : G.2.2.2 k a) {j index : Nat} {Cn name desc : String} {fin : Bool} (hF : FD a j 2 4 Cn name desc fin) (hlink : Cond.fieldLink own index Cn name desc ∈ gw) {K : Nat → Option τ} (d : decode cc pc = .ok (.getfield index, 3))
    (kk : ∀ q, LSc G q → q < 2 → Rg C nL G cs ss (setS M k) Qt (pc + 3) ls (.inr (q, 4) :: st) x0 (K q)) : Rg C nL G cs ss (setS M k) Qt pc ls (.inr (k, a) :: st) x0 (gref (x0 a j) K) := z_getS hC hcl hl hF hlink (by rw [setS_at]) d kk
theorem zs_puti (hC : Cx C cc nL own ret rm G) (hl : G.2.2.2 k a) {j b index : Nat} {Cn name : String} (hF : FD a j 0 b Cn name "I" false) (hlink : Cond.fieldLink own index Cn name "I" ∈ gw) {v : Int32} (d : decode cc pc = .ok (.putfield index, 3)) {K : Sl → Option τ}
    (kk : ∀ y, Rg C nL G cs ss (setS M k) Qt (pc + 3) ls st y (K y)) : Rg C nL G cs ss (setS M k) Qt pc ls (.inl (.int v) :: .inr (k, a) :: st) x0 (bnd (wr x0 a j v) K) := z_puti hC hl hF hlink (wr x0 a j v) (wrM_setS M k x0 a j v) d kk
theorem zs_iald (hC : Cx C cc nL own ret rm G) (hl : G.2.2.2 k a) {n : Nat} (hk : kd a = .inl (0, n)) {i : Int32} (d : decode cc pc = .ok (.iaload, 1))
    (kk : Rg C nL G cs ss (setS M k) Qt (pc + 1) ls (.inl (.int (x0 a (ix i))) :: st) x0 P) : Rg C nL G cs ss (setS M k) Qt pc ls (.inl (.int i) :: .inr (k, a) :: st) x0 (if inb i n then P else none) := z_iald hC hl hk (f := x0 a) (by rw [setS_at]) d kk
theorem zs_zald (hC : Cx C cc nL own ret rm G) (hl : G.2.2.2 k a) {n : Nat} (hk : kd a = .inl (2, n)) {i : Int32} (d : decode cc pc = .ok (.baload, 1))
    (kk : Rg C nL G cs ss (setS M k) Qt (pc + 1) ls (.inl (.int (x0 a (ix i))) :: st) x0 P) : Rg C nL G cs ss (setS M k) Qt pc ls (.inl (.int i) :: .inr (k, a) :: st) x0 (if inb i n then P else none) := z_zald hC hl hk (f := x0 a) (by rw [setS_at]) d kk
theorem zs_fald (hC : Cx C cc nL own ret rm G) (hl : G.2.2.2 k a) {n : Nat} (hk : kd a = .inl (1, n)) {i : Int32} (d : decode cc pc = .ok (.faload, 1))
    (kk : Rg C nL G cs ss (setS M k) Qt (pc + 1) ls (.inl (.float (x0 a (ix i)).toUInt32) :: st) x0 P) : Rg C nL G cs ss (setS M k) Qt pc ls (.inl (.int i) :: .inr (k, a) :: st) x0 (if inb i n then P else none) := z_fald hC hl hk (f := x0 a) (by rw [setS_at]) d kk
theorem zs_iast (hC : Cx C cc nL own ret rm G) (hl : G.2.2.2 k a) (ha : a < 48) {n : Nat} (hk : kd a = .inl (0, n)) {i v : Int32} (d : decode cc pc = .ok (.iastore, 1)) {K : Sl → Option τ}
    (kk : ∀ y, Rg C nL G cs ss (setS M k) Qt (pc + 1) ls st y (K y)) : Rg C nL G cs ss (setS M k) Qt pc ls (.inl (.int v) :: .inl (.int i) :: .inr (k, a) :: st) x0 (if inb i n then bnd (wr x0 a (ix i) v) K else none) := z_iast hC hl ha hk (wr x0 a (ix i) v) (wrM_setS M k x0 a (ix i) v) d kk
theorem zs_zast (hC : Cx C cc nL own ret rm G) (hl : G.2.2.2 k a) (ha : a < 48) {n : Nat} (hk : kd a = .inl (2, n)) {i v : Int32} (hv : narrow .boolean (.int v) = .int v) (d : decode cc pc = .ok (.bastore, 1)) {K : Sl → Option τ}
    (kk : ∀ y, Rg C nL G cs ss (setS M k) Qt (pc + 1) ls st y (K y)) : Rg C nL G cs ss (setS M k) Qt pc ls (.inl (.int v) :: .inl (.int i) :: .inr (k, a) :: st) x0 (if inb i n then bnd (wr x0 a (ix i) v) K else none) := z_zast hC hl ha hk hv (wr x0 a (ix i) v) (wrM_setS M k x0 a (ix i) v) d kk
theorem zs_fast (hC : Cx C cc nL own ret rm G) (hl : G.2.2.2 k a) (ha : a < 48) {n : Nat} (hk : kd a = .inl (1, n)) {i : Int32} {v : UInt32} (d : decode cc pc = .ok (.fastore, 1)) {K : Sl → Option τ}
    (kk : ∀ y, Rg C nL G cs ss (setS M k) Qt (pc + 1) ls st y (K y)) : Rg C nL G cs ss (setS M k) Qt pc ls (.inl (.float v) :: .inl (.int i) :: .inr (k, a) :: st) x0 (if inb i n then bnd (wr x0 a (ix i) v.toInt32) K else none) := z_fast hC hl ha hk (wr x0 a (ix i) v.toInt32) (wrM_setS M k x0 a (ix i) v.toInt32) d kk
theorem zo_geti (hC : Cx C cc nL own ret rm G) {q : Nat} (hq : q ≠ k) (hl : G.2.2.2 q a) {j b index : Nat} {Cn name desc : String} {fin : Bool} (hF : FD a j 0 b Cn name desc fin) (hlink : Cond.fieldLink own index Cn name desc ∈ gw) (d : decode cc pc = .ok (.getfield index, 3))
    (kk : Rg C nL G cs ss (setS M k) Qt (pc + 3) ls (.inl (.int (M q a j)) :: st) x0 P) : Rg C nL G cs ss (setS M k) Qt pc ls (.inr (q, a) :: st) x0 P := z_geti hC hl hF hlink (by rw [setS_ne _ _ hq]) d kk
theorem zo_iald (hC : Cx C cc nL own ret rm G) {q : Nat} (hq : q ≠ k) (hl : G.2.2.2 q a) {n : Nat} (hk : kd a = .inl (0, n)) {i : Int32} (d : decode cc pc = .ok (.iaload, 1))
    (kk : Rg C nL G cs ss (setS M k) Qt (pc + 1) ls (.inl (.int (M q a (ix i))) :: st) x0 P) : Rg C nL G cs ss (setS M k) Qt pc ls (.inl (.int i) :: .inr (q, a) :: st) x0 (if inb i n then P else none) := z_iald hC hl hk (f := M q a) (by rw [setS_ne _ _ hq]) d kk
end ZS
section ZG
variable {C : Cxt} {cc : ByteArray} {nL : Nat} {own : String} {ret : Option FieldType} {rm : Room} {G : Geo} {τ : Type} {Qt : τ → State → Prop} {cs ss : Nat} {pc : Nat} {ls : List (Nat × AV)} {st : List AV} {x0 : Mem} {P : Option τ} {k a : Nat}
theorem zg_geti (hC : Cx C cc nL own ret rm G) (hl : G.2.2.2 k a) {j b index : Nat} {Cn name desc : String} {fin : Bool} (hF : FD a j 0 b Cn name desc fin) (hlink : Cond.fieldLink own index Cn name desc ∈ gw) (d : decode cc pc = .ok (.getfield index, 3))
    (kk : Rg C nL G cs ss gm Qt (pc + 3) ls (.inl (.int (x0 k a j)) :: st) x0 P) : Rg C nL G cs ss gm Qt pc ls (.inr (k, a) :: st) x0 P := z_geti hC hl hF hlink rfl d kk
theorem zg_getS (hC : Cx C cc nL own ret rm G) (hcl : GCl G) (hl : G.2.2.2 k a) {j index : Nat} {Cn name desc : String} {fin : Bool} (hF : FD a j 2 4 Cn name desc fin) (hlink : Cond.fieldLink own index Cn name desc ∈ gw) {K : Nat → Option τ} (d : decode cc pc = .ok (.getfield index, 3))
    (kk : ∀ q, LSc G q → q < 2 → Rg C nL G cs ss gm Qt (pc + 3) ls (.inr (q, 4) :: st) x0 (K q)) : Rg C nL G cs ss gm Qt pc ls (.inr (k, a) :: st) x0 (gref (x0 k a j) K) := z_getS hC hcl hl hF hlink rfl d kk
theorem zg_getW (hC : Cx C cc nL own ret rm G) (hcl : GCl G) (hl : G.2.2.2 k a) {j index : Nat} {Cn name desc : String} {fin : Bool} (hF : FD a j 2 10 Cn name desc fin) (hlink : Cond.fieldLink own index Cn name desc ∈ gw) {K : Nat → Option τ} (d : decode cc pc = .ok (.getfield index, 3))
    (kk : ∀ q, LWd G q → 2 ≤ q → Rg C nL G cs ss gm Qt (pc + 3) ls (.inr (q, 10) :: st) x0 (K q)) : Rg C nL G cs ss gm Qt pc ls (.inr (k, a) :: st) x0 (gref (x0 k a j) K) := z_getW hC hcl hl hF hlink rfl d kk
theorem zg_puti (hC : Cx C cc nL own ret rm G) (hl : G.2.2.2 k a) {j b index : Nat} {Cn name : String} (hF : FD a j 0 b Cn name "I" false) (hlink : Cond.fieldLink own index Cn name "I" ∈ gw) {v : Int32} (d : decode cc pc = .ok (.putfield index, 3)) {K : Mem → Option τ}
    (kk : ∀ y, Rg C nL G cs ss gm Qt (pc + 3) ls st y (K y)) : Rg C nL G cs ss gm Qt pc ls (.inl (.int v) :: .inr (k, a) :: st) x0 (bnd (wrM x0 k a j v) K) := z_puti hC hl hF hlink (wrM x0 k a j v) rfl d kk
theorem zg_iald (hC : Cx C cc nL own ret rm G) (hl : G.2.2.2 k a) {n : Nat} (hk : kd a = .inl (0, n)) {i : Int32} (d : decode cc pc = .ok (.iaload, 1))
    (kk : Rg C nL G cs ss gm Qt (pc + 1) ls (.inl (.int (x0 k a (ix i))) :: st) x0 P) : Rg C nL G cs ss gm Qt pc ls (.inl (.int i) :: .inr (k, a) :: st) x0 (if inb i n then P else none) := z_iald hC hl hk (f := x0 k a) rfl d kk
theorem zg_fald (hC : Cx C cc nL own ret rm G) (hl : G.2.2.2 k a) {n : Nat} (hk : kd a = .inl (1, n)) {i : Int32} (d : decode cc pc = .ok (.faload, 1))
    (kk : Rg C nL G cs ss gm Qt (pc + 1) ls (.inl (.float (x0 k a (ix i)).toUInt32) :: st) x0 P) : Rg C nL G cs ss gm Qt pc ls (.inl (.int i) :: .inr (k, a) :: st) x0 (if inb i n then P else none) := z_fald hC hl hk (f := x0 k a) rfl d kk
theorem zg_iast (hC : Cx C cc nL own ret rm G) (hl : G.2.2.2 k a) (ha : a < 48) {n : Nat} (hk : kd a = .inl (0, n)) {i v : Int32} (d : decode cc pc = .ok (.iastore, 1)) {K : Mem → Option τ}
    (kk : ∀ y, Rg C nL G cs ss gm Qt (pc + 1) ls st y (K y)) : Rg C nL G cs ss gm Qt pc ls (.inl (.int v) :: .inl (.int i) :: .inr (k, a) :: st) x0 (if inb i n then bnd (wrM x0 k a (ix i) v) K else none) := z_iast hC hl ha hk (wrM x0 k a (ix i) v) rfl d kk
end ZG
-- Math.max, Math.min
section ZX
variable {C : Cxt} {cc : ByteArray} {nL : Nat} {own : String} {ret : Option FieldType} {rm : Room} {G : Geo} {σ τ : Type} {mem : σ → Mem} {Qt : τ → State → Prop} {pc : Nat} {ls : List (Nat × AV)} {st : List AV} {x0 : σ} {P : Option τ}
theorem z_max (hC : Cx C cc nL own ret rm G) {index : Nat} (hlink : Cond.methodLink own index Lib.Math.max.name ∈ gw) (hstat : Cond.static Lib.Math.max.name ∈ gw) (hini : Cond.initialized "java/lang/Math" ∈ gw) (hcode : Cond.code Lib.Math.max.name Lib.Math.max.code 2 (some .int) ∈ gw) (hf : 1 ≤ rm.frames) (hlo : (st.map cat).sum + 13 ≤ rm.locals) {x y : Int32} (d : decode cc pc = .ok (.invokestatic index, 3))
    (kk : Rg C nL G 0 0 mem Qt (pc + 3) ls (.inl (.int (if x < y then y else x)) :: st) x0 P) : Rg C nL G 0 0 mem Qt pc ls (.inl (.int y) :: .inl (.int x) :: st) x0 P := by
  intro t hP H locs lsA hH hS hL
  obtain ⟨hx, hb, hml, hown, hts, hK, hG, -, -, hR, hZ⟩ := id hC
  exact va_mmax hx hb (by rw [hml, hL.1]) hown (hts _ hlink) (hts _ hstat) (hts _ hini) (hts _ hcode) (by rw [hR]; exact hf) (by rw [hR, cat_sum]; exact hlo) (Nat.zero_le _) (Nat.zero_le _) d (kk t hP H locs lsA hH hS hL)
theorem z_min (hC : Cx C cc nL own ret rm G) {index : Nat} (hlink : Cond.methodLink own index Lib.Math.min.name ∈ gw) (hstat : Cond.static Lib.Math.min.name ∈ gw) (hini : Cond.initialized "java/lang/Math" ∈ gw) (hcode : Cond.code Lib.Math.min.name Lib.Math.min.code 2 (some .int) ∈ gw) (hf : 1 ≤ rm.frames) (hlo : (st.map cat).sum + 13 ≤ rm.locals) {x y : Int32} (d : decode cc pc = .ok (.invokestatic index, 3))
    (kk : Rg C nL G 0 0 mem Qt (pc + 3) ls (.inl (.int (if y < x then y else x)) :: st) x0 P) : Rg C nL G 0 0 mem Qt pc ls (.inl (.int y) :: .inl (.int x) :: st) x0 P := by
  intro t hP H locs lsA hH hS hL
  obtain ⟨hx, hb, hml, hown, hts, hK, hG, -, -, hR, hZ⟩ := id hC
  exact va_mmin hx hb (by rw [hml, hL.1]) hown (hts _ hlink) (hts _ hstat) (hts _ hini) (hts _ hcode) (by rw [hR]; exact hf) (by rw [hR, cat_sum]; exact hlo) (Nat.zero_le _) (Nat.zero_le _) d (kk t hP H locs lsA hH hS hL)
end ZX
theorem z_iincW {C : Cxt} {cc : ByteArray} {nL : Nat} {own : String} {ret : Option FieldType} {rm : Room} {G : Geo} {σ τ : Type} {mem : σ → Mem} {Qt : τ → State → Prop} {cs ss pc : Nat} {ls : List (Nat × AV)} {st : List AV} {x0 : σ} (hC : Cx C cc nL own ret rm G) (i n : Nat) (hn : i < nL) {c : Int} (w : Int32) (hw : Int32.ofInt c = w) {y : Int32} {ls1 : Int32 → List (Nat × AV)} {K : Int32 → Option τ} (hg : ls[n]? = some (i, .inl (.int y))) (hl : ∀ v, stl ls i (.inl (.int v)) = ls1 v) (d : decode cc pc = .ok (.iinc i c, 6))
    (k : ∀ v, Rg C nL G cs ss mem Qt (pc + 6) (ls1 v) st x0 (K v)) : Rg C nL G cs ss mem Qt pc ls st x0 (bnd (y + w) K) := fun t hP H locs lsA hH hS hL => lv_iincW (k := n) hC.1 hC.2.1 d hL (by rw [List.getElem?_map, hg]; rfl) (by rw [hw]) hn (st_map1 (hl (y + w))) (fun lsA hL => k (y + w) t hP H locs lsA hH hS hL)
/-- no more steps than this does any loop of the programs -/
def FU : Nat := 1000000
def LMo (G : Geo) (k : Nat) : Prop := ∀ a, (Nat.ble 34 a && Nat.ble a 47) = true → G.2.2.2 k a
def LXx (G : Geo) : Prop := ∀ a, Nat.ble a 3 = true → G.2.2.2 0 a
def LSt (G : Geo) : Prop := ∀ a, (Nat.ble 48 a && Nat.ble a 55) = true → G.2.2.2 0 a
/-- the callee's one slice, seen from the whole memory -/
theorem lft_m {ρ : Type} {rv : ρ → Option AV} {M : Mem} {k : Nat} {o : Option (ρ × Sl)} {y : MethodName} {bytes : ByteArray} {maxL : Nat} {ret : Option FieldType} {rm : Room} {G : Geo} {as : List AV} (h : ∀ l r d1, o = some (r, d1) → Mt l y bytes maxL ret rm G as (setS M k (M k)) (rv r) (setS M k d1)) : ∀ l r x1, lft M k o = some (r, x1) → Mt l y bytes maxL ret rm G as (gm M) (rv r) (gm x1) := by
  intro l r x1 hq
  cases o with
  | none => cases hq
  | some q =>
    cases hq
    have h1 := h l q.1 q.2 rfl
    rw [setS_self] at h1
    exact h1
theorem lft_p {ρ : Type} {rv : ρ → Option AV} {M : Mem} {k : Nat} {o : Option ρ} {y : MethodName} {bytes : ByteArray} {maxL : Nat} {ret : Option FieldType} {rm : Room} {G : Geo} {as : List AV} (h : ∀ l r, o = some r → Mt l y bytes maxL ret rm G as (setS M k (M k)) (rv r) (setS M k (M k))) : ∀ l r, o = some r → Mt l y bytes maxL ret rm G as (gm M) (rv r) (gm M) := by
  intro l r hq
  have h1 := h l r hq
  rw [setS_self] at h1
  exact h1
section ZW
variable {p : Program} {l : Launch} {e : Env} {R : Room} {s : State} {m : MethodId} {args : Array Value} {below : List Frame} {meth : Method} {c : Code} {locs : List Loc} {cells slots : Nat}
theorem ldcwF {T : State} (X : Stand p l e R s m args below meth c T locs cells slots) (hexec : p.tables.exec = Jvm.exec) {own : String} {index : Nat} {b : UInt32} (hown : s.vm.findClass own = some m.cls)
    (hconst : (Cond.constantFloat own index b).before args s = true) {g : JFrame} (hg : g.method = m) (hdg : decode c.code g.pc = .ok (.ldc_w index, 3)) :
    ∀ target, Steps p.tables e below (T.setTop { g with pc := g.pc + 3, stack := .float b :: g.stack }) target → Steps p.tables e below (T.setTop g) target := by
  obtain ⟨k, cf, hk, hcf, hcp⟩ := Cond.constantFloat_spec hown hconst
  obtain ⟨k', hk', he⟩ := X.warmed.alike.2.2 _ _ hk
  intro target hrest
  subst hg
  jvm_step X.here [hexec, hdg, ldc_w.wp_float (s := T) (f := g) X.here.top hk' (by rw [he]; exact hcf) hcp]
  exact hrest
end ZW
theorem z_ldcwf {C : Cxt} {cc : ByteArray} {nL : Nat} {own : String} {ret : Option FieldType} {rm : Room} {G : Geo} {σ τ : Type} {mem : σ → Mem} {Qt : τ → State → Prop} {cs ss : Nat} {pc : Nat} {ls : List (Nat × AV)} {st : List AV} {x0 : σ} {P : Option τ} (hC : Cx C cc nL own ret rm G) {index : Nat} (v : UInt32) (hw : Cond.constantFloat own index v ∈ gw) (d : decode cc pc = .ok (.ldc_w index, 3)) (kk : Rg C nL G cs ss mem Qt (pc + 3) ls (.inl (.float v) :: st) x0 P) : Rg C nL G cs ss mem Qt pc ls st x0 P := by
  intro t hP H locs lsA hH hS hL T hT X
  obtain ⟨t2, a, b⟩ := kk t hP H locs lsA hH hS hL T hT X
  exact ⟨t2, ldcwF X hC.1 hC.2.2.2.1 (hC.2.2.2.2.1 _ hw) (g := F0 _ pc lsA (st.map (ph G))) rfl (by rw [hC.2.1]; exact d) t2 a, b⟩
