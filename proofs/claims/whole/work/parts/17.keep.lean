/-! ===== keep: a call that may make a world ===== -/
abbrev KC : Nat := 24
abbrev KS : Nat := 3179
/-- x's cells; n is the first world that there isn't -/
abbrev xcell (n k a : Nat) : Prop := (k = 0 ∧ a < 4) ∨ (k < 2 ∧ 4 ≤ a ∧ a < 10) ∨ ((2 ≤ k ∧ k < n) ∧ 10 ≤ a ∧ a < 34) ∨ (k = 0 ∧ 48 ≤ a ∧ a < 56)
def GX (G : Geo) (n : Nat) : Prop := ∀ k a, G.2.2.2 k a ↔ xcell n k a
theorem ble2 {x y a : Nat} (h : (Nat.ble x a && Nat.ble a y) = true) : x ≤ a ∧ a ≤ y := by
  rw [Bool.and_eq_true, Nat.ble_eq, Nat.ble_eq] at h
  exact h
theorem GX.cl {G : Geo} {n : Nat} (h : GX G n) : GCl G := by
  refine ⟨fun k h4 => ⟨fun a ha => (h k a).mpr ?_, ?_⟩, fun k h10 => ⟨fun a ha => (h k a).mpr ?_, ?_⟩⟩
  · have := ble2 ha
    have := (h k 4).mp h4
    unfold xcell at *
    omega
  · have := (h k 4).mp h4
    unfold xcell at *
    omega
  · have := ble2 ha
    have := (h k 10).mp h10
    unfold xcell at *
    omega
  · have := (h k 10).mp h10
    unfold xcell at *
    omega
theorem GX.X {G : Geo} {n : Nat} (h : GX G n) : LXx G := fun a ha => (h 0 a).mpr (by
  have := Nat.le_of_ble_eq_true ha
  unfold xcell; omega)
theorem GX.T {G : Geo} {n : Nat} (h : GX G n) : LSt G := fun a ha => (h 0 a).mpr (by
  have := ble2 ha
  unfold xcell; omega)
theorem GX.W {G : Geo} {n : Nat} (h : GX G n) {k : Nat} (h1 : 2 ≤ k) (h2 : k < n) : LWd G k := fun a ha => (h k a).mpr (by
  have := ble2 ha
  unfold xcell; omega)
theorem GX.nl {G : Geo} {n : Nat} (h : GX G n) (hn : 2 ≤ n) {S : List Nat} (hS : ∀ b ∈ S, 10 ≤ b ∧ (b < 34 ∨ 56 ≤ b)) : ∀ b ∈ S, ¬ G.2.2.2 n b := fun b hb hl => by
  have h1 := hS b hb
  have h2 := (h n b).mp hl
  unfold xcell at h2
  omega
theorem GX.step {n0 n : Nat} {G G1 : Geo} {L : List (Nat × Nat)} (h : GX G n) (hn : 2 ≤ n) (hE : GE n0 G G1 L) (hL : ∀ k a, (k, a) ∈ L ↔ k = n ∧ 10 ≤ a ∧ a < 34) : GX G1 (n + 1) := fun k a => by
  rw [hE.2.2.1, hL, h]
  unfold xcell
  omega
/-- the contract: the answer, the first world that there isn't, the memory -/
def QX (G : Geo) (sz : Nat) (t : Int32 × Nat × Mem) : Array Value → State → Outcome → State → Prop := fun _ st o u => o = .returned (some (.int t.1)) ∧ (∃ G1 L, GE sz G G1 L ∧ (∀ q ∈ L, q.2 < 48) ∧ GX G1 t.2.1 ∧ GOk G1 ∧ Holds G1 t.2.2 u.heap) ∧ va_F (fun q => Fr G q ∨ sz ≤ q) st u
def MtX (l : Launch) (y : MethodName) (bytes : ByteArray) (maxL : Nat) (rm : Room) (G : Geo) (as : List AV) (M : Mem) (t : Int32 × Nat × Mem) : Prop :=
  ∀ sz, Met l y (Cond.code y bytes maxL (some .int) :: gw) rm (PA G as M sz) (QX G sz t) KC KS (fun q => Fr G q ∨ sz ≤ q)
def QXm (C : Cxt) (G : Geo) (t : Int32 × Nat × Mem) : State → Prop := MQ C.2.2.2.2.2.2.2.1 (QX G C.2.2.2.2.1.heap.size t) C.2.2.2.2.2.2.1 C.2.2.2.2.1 KC KS (fun q => Fr G q ∨ C.2.2.2.2.1.heap.size ≤ q)
section ZJ
variable {C : Cxt} {cc : ByteArray} {nL : Nat} {own : String} {ret : Option FieldType} {rm : Room} {G G0 : Geo} {τ : Type} {Qt : τ → State → Prop} {cs ss : Nat} {pc : Nat} {ls : List (Nat × AV)} {st stk : List AV} {x0 : Mem} {P : Option τ} {k a : Nat}
/-- more room may be counted than was used -/
theorem zx_pad {cs' ss' : Nat} (h1 : cs ≤ cs') (h2 : ss ≤ ss') (kk : Rg C nL G cs' ss' gm Qt pc ls st x0 P) : Rg C nL G cs ss gm Qt pc ls st x0 P := by
  intro t hP H locs lsA hH hS hL T hT X
  exact kk t hP H locs lsA hH hS hL T hT { X with same := ⟨X.same.1, X.same.2.1, Nat.le_trans X.same.2.2.1 (Nat.add_le_add_left h1 _), X.same.2.2.2.1, Nat.le_trans X.same.2.2.2.2.1 h2, X.same.2.2.2.2.2⟩ }
theorem zx_min (hC : Cx C cc nL own ret rm G) {index : Nat} (hlink : Cond.methodLink own index Lib.Math.min.name ∈ gw) (hstat : Cond.static Lib.Math.min.name ∈ gw) (hini : Cond.initialized "java/lang/Math" ∈ gw) (hcode : Cond.code Lib.Math.min.name Lib.Math.min.code 2 (some .int) ∈ gw) (hf : 1 ≤ rm.frames) (hlo : (st.map cat).sum + 13 ≤ rm.locals) (hc : cs ≤ rm.cells) (hs : ss ≤ rm.slots) {x y : Int32} (d : decode cc pc = .ok (.invokestatic index, 3))
    (kk : Rg C nL G cs ss gm Qt (pc + 3) ls (.inl (.int (if y < x then y else x)) :: st) x0 P) : Rg C nL G cs ss gm Qt pc ls (.inl (.int y) :: .inl (.int x) :: st) x0 P := by
  intro t hP H locs lsA hH hS hL
  obtain ⟨hx, hb, hml, hown, hts, hK, hG, -, -, hR, hZ⟩ := id hC
  exact va_mmin hx hb (by rw [hml, hL.1]) hown (hts _ hlink) (hts _ hstat) (hts _ hini) (hts _ hcode) (by rw [hR]; exact hf) (by rw [hR, cat_sum]; exact hlo) (by rw [hR]; exact hc) (by rw [hR]; exact hs) d (kk t hP H locs lsA hH hS hL)
theorem zx_iret {n : Nat} {v : Int32} {L : List (Nat × Nat)} (hC : Cx C cc nL own (some .int) rm G) (hE : GE C.2.2.2.2.1.heap.size G0 G L) (h48 : ∀ q ∈ L, q.2 < 48) (hX : GX G n) (hcs : cs ≤ KC) (hss : ss ≤ KS) (d : decode cc pc = .ok (.ireturn, 1)) : Rg C nL G cs ss gm (QXm C G0) pc ls [.inl (.int v)] x0 (some (v, n, x0)) := by
  refine zx_pad hcs hss ?_
  intro t hP H locs lsA hH hS hL
  cases hP
  have hfr : ∀ q, Fr G q → Fr G0 q ∨ C.2.2.2.2.1.heap.size ≤ q := fun q hq => hE.fr' hq
  unfold QXm
  refine W.iret hC.1 hC.2.1 hC.2.2.2.2.2.2.2.2.1 (fun t ht _ => ⟨rfl, ⟨G, L, hE, h48, hX, hC.2.2.2.2.2.2.1, by rw [ht]; exact hH⟩, by rw [ht]; exact hS.1, fun q h1 h2 => by
    rw [ht]
    refine Fa.kept hS q h1 (fun z => ?_)
    rcases hfr q z with h | h
    · exact h2 (Or.inl h)
    · omega⟩) (fun q hq => (hS.2.2 q hq).elim (hfr q.base) Or.inr) d hC.2.2.2.2.2.2.2.1
/-- a call that may make a world, and its answer is returned -/
theorem zx_tail {o : Option (Int32 × Nat × Mem)} (hC : Cx C cc nL own (some .int) rm G) {y : MethodName} {bytes : ByteArray} {maxL n : Nat} {rm' : Room} (hY : YV y bytes maxL (some .int) n) {index : Nat} (hlink : Cond.methodLink own index y ∈ gw) (as : List AV) (hn : as.length = n) (hl : G.2.2.2 k a) {ci : Nat} {csx : List (Nat × Nat)} {T : u_T} {N : Nat} (hkd : kd a = .inr (ci, csx)) (hc : vwc[ci]? = some (y.cls, T, N))
    (hM : ∀ l t, o = some t → MtX l y bytes maxL rm' G (.inr (k, a) :: as) x0 t) (hs : stk = as.reverse ++ [.inr (k, a)]) (hrm : rm'.cells = KC ∧ rm'.slots = KS ∧ rm'.frames + 1 ≤ rm.frames ∧ 8 + (maxL + 11) + rm'.locals ≤ rm.locals) (hcs : KC ≤ rm.cells ∧ KS ≤ rm.slots) (d : decode cc pc = .ok (.invokevirtual index, 3)) (d2 : decode cc (pc + 3) = .ok (.ireturn, 1)) : Rg C nL G 0 0 gm (QXm C G) pc ls stk x0 o := by
  intro t hP H locs lsA hH hS hL
  obtain ⟨hx, hb, hml, hown, hts, hK, hG, hlk, hret, hR, hZ⟩ := id hC
  obtain ⟨y1, y2, y3, y4, y5, y6, y7, y8⟩ := hY
  have hat := (hH.1 k a hl).no (nt_obj hkd)
  rw [ent_obj hkd] at hat
  have hgood : GoodIn gw (Cond.code y bytes maxL (some .int) :: gw) := fun w hw => by
    rcases List.mem_cons.mp hw with e | hw
    · subst e; exact ⟨y3, good_of_word (List.mem_filter.mp y3).2⟩
    · exact ⟨hw, good_of_word (List.mem_filter.mp hw).2⟩
  have hstk : stk.map (ph G) = (as.map (ph G)).reverse ++ .ref (G.2.2.1 k a) :: [] := by
    rw [hs, List.map_append, List.map_reverse]; rfl
  have hrun : va_Run C.1 C.2.1 C.2.2.1 C.2.2.2.1 C.2.2.2.2.1 C.2.2.2.2.2.1 C.2.2.2.2.2.2.1 C.2.2.2.2.2.2.2.1 C.2.2.2.2.2.2.2.2.1 C.2.2.2.2.2.2.2.2.2 H locs 0 0 KC KS (F0 C.2.2.2.2.2.1 pc lsA (stk.map (ph G))) [] (QX G H.size t (Value.ref (G.2.2.1 k a) :: as.map (ph G)).toArray) (fun q => Fr G q ∨ H.size ≤ q) :=
    va_runV (As := as.map (ph G)) (n := n) ⟨hx, hb, hml, hown, hts⟩ (hM C.2.1 t hP H.size) ⟨callB_of n hts hgood rfl hrm.1 hrm.2.1 (hts _ y4) (hts _ hlink) ⟨y5, y6, y7⟩ (by rw [hR]; exact hrm.2.2), hts _ y1, hts _ y2⟩ ⟨PA.blind _ _ _ _, va_recv (q0 := 0) hK (va_one hat) hc rfl, fun U hU hW => ⟨PC.at hH hK hZ (Fa.kept hS) hU hW, by rw [hU]⟩⟩ rfl (by rw [List.length_map]; exact hn) hL.1 hstk (Nat.zero_le _) d ⟨by rw [hR, Nat.zero_add]; exact hcs.1, by rw [hR, Nat.zero_add]; exact hcs.2⟩
  intro T hT X
  obtain ⟨v, st₀, t1, T', L', h0, X', hL', e1, e2, ⟨hv, ⟨G1, L1, hE, h48, hX1, hG1, hH1⟩, hz, hk⟩, hst⟩ := hrun T hT X
  cases hv
  rw [h0] at hz hk
  rw [Nat.zero_add, Nat.zero_add] at X'
  have hW := W.iret (s := C.2.2.2.2.1) (Qc := QX G C.2.2.2.2.1.heap.size t) (free := fun q => Fr G q ∨ C.2.2.2.2.1.heap.size ≤ q) (H := T'.heap) (locs := locs ++ L') (cells := KC) (slots := KS) (p := C.1) (l := C.2.1) (e := C.2.2.1) (R := C.2.2.2.1) (below := C.2.2.2.2.2.2.2.1) (ls := lsA) (v := t.1) (args := C.2.2.2.2.2.2.1) (m := C.2.2.2.2.2.1) hx hb hret (fun u hu _ => ⟨rfl, ⟨G1, L1, hE.mono hS.1, h48, hX1, hG1, by rw [hu, e1]; exact hH1⟩, by rw [hu, e1]; exact Nat.le_trans hS.1 hz, fun q h1 h2 => by
    rw [hu, e1, hk q (Nat.lt_of_lt_of_le h1 hS.1) (fun z => z.elim (fun z => h2 (Or.inl z)) (fun z => by have := hS.1; omega))]
    exact hS.2.1 q h1 h2⟩) (fun q hq => by
      rcases List.mem_append.mp hq with h | h
      · exact hS.2.2 q h
      · exact (hL' q h).imp id (fun z => Nat.le_trans hS.1 z)) d2 hlk
  obtain ⟨t2, a1, b1⟩ := hW T' rfl X'
  exact ⟨t2, hst t2 a1, b1⟩
theorem mtX_of {l : Launch} {y : MethodName} {maxL : Nat} {t : Int32 × Nat × Mem} {P : Option (Int32 × Nat × Mem)} (hy : plainName y.cls = true) (hG : GOk G) (as : List AV) (hlen : (lg_sl (as.map (ph G))).length ≤ maxL) (hls : lv_args 0 (as.map (ph G)) = ls.map (phl G))
    (body : ∀ C, Cx C cc maxL y.cls (some .int) rm G → Rg C maxL G 0 0 gm (QXm C G) 0 ls [] x0 P) (hP : P = some t) : MtX l y cc maxL rm G as x0 t := by
  intro sz
  refine Met.ofW (cc := cc) (maxL := maxL) (ret := some .int) hy rfl ?_
  intro p e s m args below meth c s₁ B hml hv
  obtain ⟨⟨rfl, hH, hK, hZ⟩, hsz⟩ := hv
  subst hsz
  have hts := atoms_spec (ws := Cond.code y cc maxL (some .int) :: gw) B.pre
  have hl := lv_entry (as.map (ph G)) (n := maxL) hlen
  rw [lg_entry_eq]
  generalize (lg_sl (as.map (ph G)) ++ List.replicate (maxL - (lg_sl (as.map (ph G))).length) Slot.unset).toArray = lsA at hl ⊢
  rw [hls] at hl
  exact body (p, l, e, rm, s, m, (as.map (ph G)).toArray, below, meth, c) ⟨B.exec, B.bytes, hml, findClass_of_methodNamed B.named, fun w hw => hts w (List.mem_cons_of_mem _ hw), hK, hG, B.notSynchronized, B.returns, rfl, hZ⟩ t hP s.heap [] lsA hH va_S.rf hl
end ZJ
