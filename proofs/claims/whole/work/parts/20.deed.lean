/-! ===== deed: a call that may throw ===== -/
theorem Holds.grown {G : Geo} {M : Mem} {H H1 : Heap} (h : Holds G M H) (hq : ∀ q : Nat, q < H.size → H1[q]? = H[q]?) : Holds G M H1 := ⟨fun k a hl => (h.1 k a hl).kept (hq _ (h.1 k a hl).lt), h.2⟩
def QDr (G : Geo) (t : (Int32 ⊕ String) × Mem) : Array Value → State → Outcome → State → Prop := fun _ st o u => (∃ r, t.1 = .inl r ∧ o = .returned (some (.int r))) ∧ Holds G t.2 u.heap ∧ va_F (Fr G) st u
def QDx (G : Geo) (t : (Int32 ⊕ String) × Mem) : String → State → State → Prop := fun E st u => t.1 = .inr E ∧ Holds G t.2 u.heap ∧ va_F (Fr G) st u
abbrev IOE : String := "java/lang/IndexOutOfBoundsException"
abbrev NSE : String := "java/util/NoSuchElementException"
def bs13 : ByteArray := ⟨#[0x2a, 0x2b, 0xb7, 0x00, 0x0d, 0xb1]⟩
def ioW : List Cond := vy_at "FrameHeirs" 164 IOE "java/lang/RuntimeException" ["java/lang/Exception"] 7 Bundle.six
def nsW : List Cond := vy_at "FrameHeirs" 171 NSE "java/lang/RuntimeException" ["java/lang/Exception"] 13 bs13
theorem ioW_tbl : ∀ w ∈ ioW, w ∈ lw_tbl := by decide +kernel
theorem nsW_tbl : ∀ w ∈ nsW, w ∈ lw_tbl := by decide +kernel
/-- the words that aren't good: they are facts of the state -/
def dnW : List Cond := [.declares (Bundle.initS "java/lang/RuntimeException"), .declares (Bundle.initS "java/lang/Exception"), .declares (Bundle.initS Bundle.tN)]
theorem dnW_on : ∀ w ∈ dnW, w.onTables = true := by decide +kernel
theorem ioW_ot : ∀ w ∈ ioW, vx_ot w = true := by decide +kernel
theorem nsW_ot : ∀ w ∈ nsW, vx_ot w = true := by decide +kernel
theorem ioW_dn : ∀ w ∈ ioW.filter (fun w => !goodWord w), w ∈ dnW := by decide +kernel
theorem nsW_dn : ∀ w ∈ nsW.filter (fun w => !goodWord w), w ∈ dnW := by decide +kernel
theorem ioW_in : ∀ w ∈ ioW.filter goodWord, w ∈ gw := fun w h => gw_mem (ioW_tbl w (List.mem_filter.mp h).1) (List.mem_filter.mp h).2
theorem nsW_in : ∀ w ∈ nsW.filter goodWord, w ∈ gw := fun w h => gw_mem (nsW_tbl w (List.mem_filter.mp h).1) (List.mem_filter.mp h).2
theorem dn_any {A B : Array Value} {U : State} {w : Cond} (hw : w.onTables = true) (h : w.before A U = true) : w.before B U = true := by
  have e := Cond.onTables_vm (A := A) (A' := B) (U := U) (U' := U) U.vm w hw
  have hU : U.setVm U.vm = U := rfl
  rw [hU] at e
  rw [← e]; exact h
/-- what the throws need of the state -/
def DX (A : Nat → Prop) (U : State) : Prop := (∃ sa, vk_R "FrameHeirs" 162 "no such space or place" sa U) ∧ (∃ sa, vk_R "FrameHeirs" 169 "no such what" sa U) ∧ vx_Zq Bundle.tN "UNASSIGNED_STACK" Bundle.steD A U U.heap ∧ vx_Zq Bundle.tN "SUPPRESSED_SENTINEL" Bundle.listD A U U.heap ∧ ∀ w ∈ dnW, w.before #[] U = true
def MtD (l : Launch) (y : MethodName) (bytes : ByteArray) (maxL : Nat) (rm : Room) (G : Geo) (as : List AV) (M : Mem) (t : (Int32 ⊕ String) × Mem) : Prop :=
  ∀ sz, vx_Met l y (Cond.code y bytes maxL (some .int) :: gw) rm (fun v U => PA G as M sz v U ∧ DX (fun q => Fr G q ∨ sz ≤ q) U) (QDr G t) (QDx G t) 1 6 (fun q => Fr G q ∨ sz ≤ q)
def QD (C : Cxt) (G : Geo) (t : (Int32 ⊕ String) × Mem) : State → Prop := vx_MQ C.2.2.2.2.2.2.2.1 (QDr G t) (QDx G t) C.2.2.2.2.2.2.1 C.2.2.2.2.1 1 6 (Fa C G)
section ZK
variable {C : Cxt} {cc : ByteArray} {nL : Nat} {own : String} {ret : Option FieldType} {rm : Room} {G : Geo} {pc : Nat} {ls : List (Nat × AV)} {st stk : List AV} {x0 : Mem}
theorem zd_ret {v : Int32} (hC : Cx C cc nL own (some .int) rm G) (d : decode cc pc = .ok (.ireturn, 1)) : Rg C nL G 0 0 gm (QD C G) pc ls [.inl (.int v)] x0 (some (.inl v, x0)) := by
  refine zx_pad (cs' := 1) (ss' := 6) (Nat.zero_le _) (Nat.zero_le _) ?_
  intro t hP H locs lsA hH hS hL
  cases hP
  unfold QD
  exact vx_ret (W.iret hC.1 hC.2.1 hC.2.2.2.2.2.2.2.2.1 (fun t ht _ => ⟨⟨v, rfl, rfl⟩, by rw [ht]; exact hH, Fa.F hS ht⟩) (fun q hq => hS.2.2 q hq) d hC.2.2.2.2.2.2.2.1)
theorem zd_throw {cls sup text : String} {names : List String} {ik is ic ix sa : Nat} {bs : ByteArray} (hC : Cx C cc nL own ret rm G) (hl : C.2.1.stackTraces = false) (htab : ∀ x ∈ C.2.2.2.2.2.2.2.2.2.exceptionTable.toList, False)
    (hcls : Bundle.fit cls = true) (hsupf : Bundle.fit sup = true) (b0 : decode bs 0 = .ok (.aload_n 0, 1)) (b1 : decode bs 1 = .ok (.aload_n 1, 1)) (b2 : decode bs 2 = .ok (.invokespecial ix, 3)) (b5 : decode bs 5 = .ok (.return_, 1)) (hnames : ∀ n ∈ names, Bundle.fit n = true)
    (hk : Cond.classLink own ik cls ∈ gw) (hini : Cond.initialized cls ∈ gw) (hstr : vk_R own is text sa C.2.2.2.2.1) (hw : ∀ w ∈ vy_at own ic cls sup names ix bs, w.before C.2.2.2.2.2.2.1 C.2.2.2.2.1 = true) (hot : ∀ w ∈ vy_at own ic cls sup names ix bs, vx_ot w = true)
    (hU : vx_Zq Bundle.tN "UNASSIGNED_STACK" Bundle.steD (Fa C G) C.2.2.2.2.1 C.2.2.2.2.1.heap) (hN : vx_Zq Bundle.tN "SUPPRESSED_SENTINEL" Bundle.listD (Fa C G) C.2.2.2.2.1 C.2.2.2.2.1.heap)
    (d0 : decode cc pc = .ok (.new ik, 3)) (d3 : decode cc (pc + 3) = .ok (.dup, 1)) (d4 : decode cc (pc + 4) = .ok (.ldc is, 2)) (d6 : decode cc (pc + 6) = .ok (.invokespecial ic, 3)) (d9 : decode cc (pc + 9) = .ok (.athrow, 1))
    (hf : names.length + 4 < rm.frames) (hlo : (st.map cat).sum + (13 * (names.length + 1 + 1) + 43) ≤ rm.locals) (hc : 1 ≤ rm.cells) (hs : 6 ≤ rm.slots) : Rg C nL G 0 0 gm (QD C G) pc ls st x0 (some (.inr cls, x0)) := by
  intro t hP H locs lsA hH hS hL
  cases hP
  obtain ⟨hx, hb, hml, hown, hts, hK, hG, hlk, hr, hR, hZ⟩ := id hC
  refine vy_make hx hb hl hown hcls hsupf b0 b1 b2 b5 hnames (hts _ hk) (hts _ hini) hstr hw (fun w h => ?_) hU hN hS (by show lsA.size = _; rw [hml, hL.1]) d0 d3 d4 d6 (by rw [hR]; exact hf) (by rw [hR, cat_sum]; exact hlo) (by rw [hR]; exact hc) (by rw [hR]; exact hs) (fun q H1 ce e1 e2 e3 z1 o1 => ?_)
  · have key : ∀ v, v ∈ gw → vx_ot v = true := fun v hv => by
      unfold vx_ot
      rw [show goodWord v = true from (List.mem_filter.mp hv).2, Bool.or_true]
    rcases List.mem_cons.mp h with e | h
    · rw [e]; exact key _ hk
    · rcases List.mem_cons.mp h with e | h
      · rw [e]; exact key _ hini
      · exact hot w h
  · refine vy_athrow hx hb d9 (vx_out (fun x hx => (htab x hx).elim) hlk e1 e2 e3 (fun u hu _ => ⟨rfl, by rw [hu]; exact hH.grown o1, by rw [hu]; exact Nat.le_trans hS.1 z1, fun q h1 h2 => by rw [hu, o1 q (Nat.lt_of_lt_of_le h1 hS.1)]; exact Fa.kept hS q h1 h2⟩) (fun z hz => hS.2.2 z hz) (Nat.le_refl _) (Nat.le_refl _))
theorem zd_io (hC : Cx C cc nL "FrameHeirs" ret rm G) (hl : C.2.1.stackTraces = false) (htab : ∀ x ∈ C.2.2.2.2.2.2.2.2.2.exceptionTable.toList, False) (hD : DX (Fa C G) C.2.2.2.2.1) (hk : Cond.classLink "FrameHeirs" 160 IOE ∈ gw) (hini : Cond.initialized IOE ∈ gw)
    (d0 : decode cc pc = .ok (.new 160, 3)) (d3 : decode cc (pc + 3) = .ok (.dup, 1)) (d4 : decode cc (pc + 4) = .ok (.ldc 162, 2)) (d6 : decode cc (pc + 6) = .ok (.invokespecial 164, 3)) (d9 : decode cc (pc + 9) = .ok (.athrow, 1))
    (hf : 5 < rm.frames) (hlo : (st.map cat).sum + 82 ≤ rm.locals) (hc : 1 ≤ rm.cells) (hs : 6 ≤ rm.slots) : Rg C nL G 0 0 gm (QD C G) pc ls st x0 (some (.inr IOE, x0)) := by
  obtain ⟨⟨sa, h1⟩, -, h3, h4, h5⟩ := hD
  exact zd_throw (names := ["java/lang/Exception"]) (bs := Bundle.six) hC hl htab (by decide +kernel) (by decide +kernel) (by decide +kernel) (by decide +kernel) (by decide +kernel) (by decide +kernel) (by decide +kernel) hk hini h1 (vx_hat (L := ioW) (B := dnW) (fun w h => hC.2.2.2.2.1 w (ioW_in w h)) ioW_dn (fun w h => dn_any (dnW_on w h) (h5 w h))) ioW_ot h3 h4 d0 d3 d4 d6 d9 hf hlo hc hs
theorem zd_ns (hC : Cx C cc nL "FrameHeirs" ret rm G) (hl : C.2.1.stackTraces = false) (htab : ∀ x ∈ C.2.2.2.2.2.2.2.2.2.exceptionTable.toList, False) (hD : DX (Fa C G) C.2.2.2.2.1) (hk : Cond.classLink "FrameHeirs" 167 NSE ∈ gw) (hini : Cond.initialized NSE ∈ gw)
    (d0 : decode cc pc = .ok (.new 167, 3)) (d3 : decode cc (pc + 3) = .ok (.dup, 1)) (d4 : decode cc (pc + 4) = .ok (.ldc 169, 2)) (d6 : decode cc (pc + 6) = .ok (.invokespecial 171, 3)) (d9 : decode cc (pc + 9) = .ok (.athrow, 1))
    (hf : 5 < rm.frames) (hlo : (st.map cat).sum + 82 ≤ rm.locals) (hc : 1 ≤ rm.cells) (hs : 6 ≤ rm.slots) : Rg C nL G 0 0 gm (QD C G) pc ls st x0 (some (.inr NSE, x0)) := by
  obtain ⟨-, ⟨sa, h1⟩, h3, h4, h5⟩ := hD
  exact zd_throw (names := ["java/lang/Exception"]) (bs := bs13) hC hl htab (by decide +kernel) (by decide +kernel) (by decide +kernel) (by decide +kernel) (by decide +kernel) (by decide +kernel) (by decide +kernel) hk hini h1 (vx_hat (L := nsW) (B := dnW) (fun w h => hC.2.2.2.2.1 w (nsW_in w h)) nsW_dn (fun w h => dn_any (dnW_on w h) (h5 w h))) nsW_ot h3 h4 d0 d3 d4 d6 d9 hf hlo hc hs
theorem mtD_of {l : Launch} {y : MethodName} {maxL : Nat} {t : (Int32 ⊕ String) × Mem} {P : Option ((Int32 ⊕ String) × Mem)} (hl0 : l.stackTraces = false) (hy : plainName y.cls = true) (hG : GOk G) (as : List AV) (hlen : (lg_sl (as.map (ph G))).length ≤ maxL) (hls : lv_args 0 (as.map (ph G)) = ls.map (phl G))
    (body : ∀ C, Cx C cc maxL y.cls (some .int) rm G → C.2.1.stackTraces = false → (∀ x ∈ C.2.2.2.2.2.2.2.2.2.exceptionTable.toList, False) → DX (Fa C G) C.2.2.2.2.1 → Rg C maxL G 0 0 gm (QD C G) 0 ls [] x0 P) (hP : P = some t) : MtD l y cc maxL rm G as x0 t := by
  intro sz
  refine vx_ofW (cc := cc) (maxL := maxL) (ret := some .int) hy rfl ?_
  intro p e s m args below meth c s₁ B hml htab hv
  obtain ⟨⟨⟨rfl, hH, hK, hZ⟩, hsz⟩, hD⟩ := hv
  subst hsz
  have hts := atoms_spec (ws := Cond.code y cc maxL (some .int) :: gw) B.pre
  have hl := lv_entry (as.map (ph G)) (n := maxL) hlen
  rw [lg_entry_eq]
  generalize (lg_sl (as.map (ph G)) ++ List.replicate (maxL - (lg_sl (as.map (ph G))).length) Slot.unset).toArray = lsA at hl ⊢
  rw [hls] at hl
  exact body (p, l, e, rm, s, m, (as.map (ph G)).toArray, below, meth, c) ⟨B.exec, B.bytes, hml, findClass_of_methodNamed B.named, fun w hw => hts w (List.mem_cons_of_mem _ hw), hK, hG, B.notSynchronized, B.returns, rfl, hZ⟩ hl0 htab hD t hP s.heap [] lsA hH va_S.rf hl
end ZK
