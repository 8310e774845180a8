/-! ===== calls, and a method's contract ===== -/
/-- the words of a method that is called on an object, of a static one -/
def YV (y : MethodName) (bytes : ByteArray) (maxL : Nat) (ret : Option FieldType) (n : Nat) : Prop := Cond.instanceMethod y ∈ gw ∧ Cond.selects y.cls y y ∈ gw ∧ Cond.code y bytes maxL ret ∈ gw ∧ Cond.initialized y.cls ∈ gw ∧ y.cls ≠ "java/lang/invoke/MethodHandle" ∧ y.cls ≠ "java/lang/invoke/VarHandle" ∧ (parseMethodDescriptor y.desc).map (fun d => d.parameters.length) = some n ∧ plainName y.cls = true
def YS (y : MethodName) (bytes : ByteArray) (maxL : Nat) (ret : Option FieldType) (n : Nat) : Prop := Cond.static y ∈ gw ∧ True ∧ Cond.code y bytes maxL ret ∈ gw ∧ Cond.initialized y.cls ∈ gw ∧ y.cls ≠ "java/lang/invoke/MethodHandle" ∧ y.cls ≠ "java/lang/invoke/VarHandle" ∧ (parseMethodDescriptor y.desc).map (fun d => d.parameters.length) = some n ∧ plainName y.cls = true
/-- .. and how large the heap is -/
def PA (G : Geo) (as : List AV) (M : Mem) (sz : Nat) : Array Value → State → Prop := fun v U => PC G as M v U ∧ U.heap.size = sz
/-- the contract of a method: from the memory M it returns r and leaves M1 -/
def Mt (l : Launch) (y : MethodName) (bytes : ByteArray) (maxL : Nat) (ret : Option FieldType) (rm : Room) (G : Geo) (as : List AV) (M : Mem) (r : Option AV) (M1 : Mem) : Prop :=
  ∀ sz, Met l y (Cond.code y bytes maxL ret :: gw) rm (PA G as M sz) (QR G r M1) 0 0 (fun q => Fr G q ∨ sz ≤ q)
theorem KOk.moved {G : Geo} {u U : State} (hvm : u.vm.Alike U.vm) (h : KOk G u) : KOk G U := va_K.moved hvm h
theorem PC.blind (G : Geo) (as : List AV) (M : Mem) : FrameBlind (PC G as M) := fun a U g mk h => ⟨h.1, h.2.1, h.2.2.1.moved (u := U) (U := U.calling g mk a) (Vm.Alike.refl U.vm), ⟨fun kb b h1 h2 h3 => ⟨va_Z.moved (u := U) (U := U.calling g mk a) (Vm.Alike.refl U.vm) (h.2.2.2.1 kb b h1 h2 h3).1, TK.moved (s := U) (U := U.calling g mk a) (Vm.Alike.refl U.vm) (h.2.2.2.1 kb b h1 h2 h3).2⟩, h.2.2.2.2.same (U := U.calling g mk a) rfl⟩⟩
theorem PA.blind (G : Geo) (as : List AV) (M : Mem) (sz : Nat) : FrameBlind (PA G as M sz) := fun a U g mk h => ⟨PC.blind G as M a U g mk h.1, h.2⟩
theorem PC.at {G : Geo} {as : List AV} {M : Mem} {s U : State} {H : Heap} (hH : Holds G M H) (hK : KOk G s) (hZ : StOk G s) (hS : ∀ q, q < s.heap.size → ¬ Fr G q → H[q]? = s.heap[q]?) (hU : U.heap = H) (hW : s.WarmedH U.vm) : PC G as M (as.map (ph G)).toArray U :=
  ⟨rfl, by rw [hU]; exact hH, hK.moved hW.alike, ⟨fun kb b h1 h2 h3 => ⟨by rw [hU]; exact va_Z.moved hW.alike ((hZ.1 kb b h1 h2 h3).1.kept hS), TK.moved hW.alike (hZ.1 kb b h1 h2 h3).2⟩, hZ.2.warm hW⟩⟩
theorem opt_map {G : Geo} (o : Option AV) (st : List AV) : (o.map (ph G)).toList ++ st.map (ph G) = (o.toList ++ st).map (ph G) := by cases o <;> rfl
theorem cat_sum (G : Geo) (st : List AV) : ((st.map (ph G)).map fun v => v.category).sum = (st.map cat).sum := by
  rw [List.map_map]; congr 1; apply List.map_congr_left; intro v _; exact cat_ph G v
section ZC
variable {C : Cxt} {cc : ByteArray} {nL : Nat} {own : String} {ret : Option FieldType} {rm : Room} {G : Geo} {σ τ τ' : Type} {mem : σ → Mem} {Qt : τ → State → Prop} {pc : Nat} {ls : List (Nat × AV)} {st stk : List AV} {x0 : σ} {o : Option τ'} {K : τ' → Option τ} {k a : Nat}
/-- behind a call that was made -/
theorem z_run {r' : Option AV} {x' : σ} {t : τ} {P : Option τ} {H : Heap} {locs : List Loc} {lsA : Array Slot} {av : Array Value} (hS : va_S (Fa C G) C.2.2.2.2.1.heap H locs) (hL : lv_has lsA nL (ls.map (phl G)))
    (hrun : va_Run C.1 C.2.1 C.2.2.1 C.2.2.2.1 C.2.2.2.2.1 C.2.2.2.2.2.1 C.2.2.2.2.2.2.1 C.2.2.2.2.2.2.2.1 C.2.2.2.2.2.2.2.2.1 C.2.2.2.2.2.2.2.2.2 H locs 0 0 0 0 (F0 C.2.2.2.2.2.1 pc lsA (stk.map (ph G))) (st.map (ph G)) (QR G r' (mem x') av) (fun q => Fr G q ∨ H.size ≤ q))
    (hP : P = some t) (kk : Rg C nL G 0 0 mem Qt (pc + 3) ls (r'.toList ++ st) x' P) : Wx C H locs 0 0 (Qt t) (F0 C.2.2.2.2.2.1 pc lsA (stk.map (ph G))) := by
  intro T hT X
  obtain ⟨v, st₀, t1, T', L, h0, X', hL', e1, e2, ⟨hv, hH1, hz, hk⟩, hst⟩ := hrun T hT X
  cases hv
  rw [h0] at hz hk
  have hS1 : va_S (Fa C G) C.2.2.2.2.1.heap T'.heap (locs ++ L) := ⟨Nat.le_trans hS.1 (by rw [e1]; exact hz), fun q h1 h2 => by rw [e1, hk q (Nat.lt_of_lt_of_le h1 hS.1) (fun z => h2 (Or.inl z))]; exact hS.2.1 q h1 h2, fun q hq => by
      rcases List.mem_append.mp hq with h | h
      · exact hS.2.2 q h
      · exact (hL' q h).imp id (fun z => Nat.le_trans hS.1 z)⟩
  obtain ⟨t2, a1, b1⟩ := kk t hP T'.heap (locs ++ L) lsA (by rw [e1]; exact hH1) hS1 hL T' rfl X'
  rw [← opt_map] at a1
  exact ⟨t2, hst t2 a1, b1⟩
def bk (o : Option τ') (K : τ' → Option τ) : Option τ := match o with
  | some q => K q
  | none => none
theorem z_kV {rv' : τ' → Option AV} {xs : τ' → σ} (hC : Cx C cc nL own ret rm G) {y : MethodName} {bytes : ByteArray} {maxL n : Nat} {ret' : Option FieldType} {rm' : Room} (hY : YV y bytes maxL ret' n) {index : Nat} (hlink : Cond.methodLink own index y ∈ gw) (as : List AV) (hn : as.length = n) (hl : G.2.2.2 k a) {ci : Nat} {cs : List (Nat × Nat)} {T : u_T} {N : Nat} (hkd : kd a = .inr (ci, cs)) (hc : vwc[ci]? = some (y.cls, T, N))
    (hM : ∀ l q, o = some q → Mt l y bytes maxL ret' rm' G (.inr (k, a) :: as) (mem x0) (rv' q) (mem (xs q))) (hs : stk = as.reverse ++ .inr (k, a) :: st) (hrm : rm'.cells = 0 ∧ rm'.slots = 0 ∧ rm'.frames + 1 ≤ rm.frames ∧ 8 + (maxL + 11) + rm'.locals ≤ rm.locals) (hcat : (st.map cat).sum ≤ 8) (d : decode cc pc = .ok (.invokevirtual index, 3))
    (kk : ∀ q, Rg C nL G 0 0 mem Qt (pc + 3) ls ((rv' q).toList ++ st) (xs q) (K q)) : Rg C nL G 0 0 mem Qt pc ls stk x0 (bk o K) := by
  intro t hP H locs lsA hH hS hL
  cases ho : o with
  | none => rw [ho] at hP; cases hP
  | some q =>
    rw [ho] at hP
    obtain ⟨hx, hb, hml, hown, hts, hK, hG, -, -, hR, hZ⟩ := id hC
    obtain ⟨y1, y2, y3, y4, y5, y6, y7, y8⟩ := hY
    have hat := (hH.1 k a hl).no (nt_obj hkd)
    rw [ent_obj hkd] at hat
    refine z_run (P := K q) (x' := xs q) hS hL (va_runV (As := as.map (ph G)) (n := n) ⟨hx, hb, hml, hown, hts⟩ (hM C.2.1 q ho H.size) ⟨callB_of n hts (fun w hw => ?_) rfl hrm.1 hrm.2.1 (hts _ y4) (hts _ hlink) ⟨y5, y6, y7⟩ (by rw [hR]; exact hrm.2.2), hts _ y1, hts _ y2⟩ ⟨PA.blind _ _ _ _, va_recv (q0 := 0) hK (va_one hat) hc rfl, fun U hU hW => ⟨PC.at hH hK hZ (Fa.kept hS) hU hW, by rw [hU]⟩⟩ rfl (by rw [List.length_map]; exact hn) hL.1 ?_ (lv_room (by rw [cat_sum]; exact hcat)) d ⟨Nat.zero_le _, Nat.zero_le _⟩) hP (kk q)
    · rcases List.mem_cons.mp hw with e | hw
      · subst e; exact ⟨y3, good_of_word (List.mem_filter.mp y3).2⟩
      · exact ⟨hw, good_of_word (List.mem_filter.mp hw).2⟩
    · show stk.map (ph G) = _
      rw [hs, List.map_append, List.map_reverse]; rfl
theorem z_kS {rv' : τ' → Option AV} {xs : τ' → σ} (hC : Cx C cc nL own ret rm G) {y : MethodName} {bytes : ByteArray} {maxL n : Nat} {ret' : Option FieldType} {rm' : Room} (hY : YS y bytes maxL ret' n) {index : Nat} (hlink : Cond.methodLink own index y ∈ gw) (as : List AV) (hn : as.length = n) 
    (hM : ∀ l q, o = some q → Mt l y bytes maxL ret' rm' G (as) (mem x0) (rv' q) (mem (xs q))) (hs : stk = as.reverse ++ st) (hrm : rm'.cells = 0 ∧ rm'.slots = 0 ∧ rm'.frames + 1 ≤ rm.frames ∧ 8 + (maxL + 11) + rm'.locals ≤ rm.locals) (hcat : (st.map cat).sum ≤ 8) (d : decode cc pc = .ok (.invokestatic index, 3))
    (kk : ∀ q, Rg C nL G 0 0 mem Qt (pc + 3) ls ((rv' q).toList ++ st) (xs q) (K q)) : Rg C nL G 0 0 mem Qt pc ls stk x0 (bk o K) := by
  intro t hP H locs lsA hH hS hL
  cases ho : o with
  | none => rw [ho] at hP; cases hP
  | some q =>
    rw [ho] at hP
    obtain ⟨hx, hb, hml, hown, hts, hK, hG, -, -, hR, hZ⟩ := id hC
    obtain ⟨y1, y2, y3, y4, y5, y6, y7, y8⟩ := hY
    refine z_run (P := K q) (x' := xs q) hS hL (va_runS (As := as.map (ph G)) (n := n) ⟨hx, hb, hml, hown, hts⟩ (hM C.2.1 q ho H.size) ⟨callB_of n hts (fun w hw => ?_) rfl hrm.1 hrm.2.1 (hts _ y4) (hts _ hlink) ⟨y5, y6, y7⟩ (by rw [hR]; exact hrm.2.2), hts _ y1⟩ ⟨PA.blind _ _ _ _, fun U hU hW => ⟨PC.at hH hK hZ (Fa.kept hS) hU hW, by rw [hU]⟩⟩ rfl (by rw [List.length_map]; exact hn) hL.1 ?_ (lv_room (by rw [cat_sum]; exact hcat)) d ⟨Nat.zero_le _, Nat.zero_le _⟩) hP (kk q)
    · rcases List.mem_cons.mp hw with e | hw
      · subst e; exact ⟨y3, good_of_word (List.mem_filter.mp y3).2⟩
      · exact ⟨hw, good_of_word (List.mem_filter.mp hw).2⟩
    · show stk.map (ph G) = _
      rw [hs, List.map_append, List.map_reverse]
theorem z_kN {rv' : τ' → Option AV} {xs : τ' → σ} (hC : Cx C cc nL own ret rm G) {y : MethodName} {bytes : ByteArray} {maxL n : Nat} {ret' : Option FieldType} {rm' : Room} (hY : YS y bytes maxL ret' n) {index : Nat} {host : String} (hlink : ∀ U, NkOk U → va_Nw (.methodLinkNest own index y host) U) (as : List AV) (hn : as.length = n) 
    (hM : ∀ l q, o = some q → Mt l y bytes maxL ret' rm' G (as) (mem x0) (rv' q) (mem (xs q))) (hs : stk = as.reverse ++ st) (hrm : rm'.cells = 0 ∧ rm'.slots = 0 ∧ rm'.frames + 1 ≤ rm.frames ∧ 8 + (maxL + 11) + rm'.locals ≤ rm.locals) (hcat : (st.map cat).sum ≤ 8) (d : decode cc pc = .ok (.invokestatic index, 3))
    (kk : ∀ q, Rg C nL G 0 0 mem Qt (pc + 3) ls ((rv' q).toList ++ st) (xs q) (K q)) : Rg C nL G 0 0 mem Qt pc ls stk x0 (bk o K) := by
  intro t hP H locs lsA hH hS hL
  cases ho : o with
  | none => rw [ho] at hP; cases hP
  | some q =>
    rw [ho] at hP
    obtain ⟨hx, hb, hml, hown, hts, hK, hG, -, -, hR, hZ⟩ := id hC
    obtain ⟨y1, y2, y3, y4, y5, y6, y7, y8⟩ := hY
    refine z_run (P := K q) (x' := xs q) hS hL (va_runSN (As := as.map (ph G)) (n := n) (host := host) ⟨hx, hb, hml, hown, hts⟩ (hM C.2.1 q ho H.size) ⟨va_cnB n hts (fun w hw => ?_) rfl hrm.1 hrm.2.1 (hlink _ hZ.2) (hts _ y4) ⟨y5, y6, y7⟩ (by rw [hR]; exact hrm.2.2), hts _ y1, trivial⟩ ⟨PA.blind _ _ _ _, fun U hU hW => ⟨PC.at hH hK hZ (Fa.kept hS) hU hW, by rw [hU]⟩⟩ rfl (by rw [List.length_map]; exact hn) hL.1 ?_ (lv_room (by rw [cat_sum]; exact hcat)) d ⟨Nat.zero_le _, Nat.zero_le _⟩) hP (kk q)
    · rcases List.mem_cons.mp hw with e | hw
      · subst e; exact ⟨y3, good_of_word (List.mem_filter.mp y3).2⟩
      · exact ⟨hw, good_of_word (List.mem_filter.mp hw).2⟩
    · show stk.map (ph G) = _
      rw [hs, List.map_append, List.map_reverse]
theorem z_ciV {o : Option (Int32 × σ)} {K : Int32 → σ → Option τ} (hC : Cx C cc nL own ret rm G) {y : MethodName} {bytes : ByteArray} {maxL n : Nat} {ret' : Option FieldType} {rm' : Room} (hY : YV y bytes maxL ret' n) {index : Nat} (hlink : Cond.methodLink own index y ∈ gw) (as : List AV) (hn : as.length = n) (hl : G.2.2.2 k a) {ci : Nat} {cs : List (Nat × Nat)} {T : u_T} {N : Nat} (hkd : kd a = .inr (ci, cs)) (hc : vwc[ci]? = some (y.cls, T, N))
    (hM : ∀ l r x', o = some (r, x') → Mt l y bytes maxL ret' rm' G (.inr (k, a) :: as) (mem x0) (avI r) (mem x')) (hs : stk = as.reverse ++ .inr (k, a) :: st) (hrm : rm'.cells = 0 ∧ rm'.slots = 0 ∧ rm'.frames + 1 ≤ rm.frames ∧ 8 + (maxL + 11) + rm'.locals ≤ rm.locals) (hcat : (st.map cat).sum ≤ 8) (d : decode cc pc = .ok (.invokevirtual index, 3))
    (kk : ∀ r x', Rg C nL G 0 0 mem Qt (pc + 3) ls (.inl (.int r) :: st) x' (K r x')) : Rg C nL G 0 0 mem Qt pc ls stk x0 (bd o K) := by
  have h := z_kV (o := o) (K := fun q => K q.1 q.2) (rv' := fun q => avI q.1) (xs := fun q => q.2) (Qt := Qt) (st := st) (ls := ls) hC hY hlink as hn hl hkd hc (fun l q hq => hM l q.1 q.2 hq) hs hrm hcat d (fun q => kk q.1 q.2)
  intro t hP
  exact h t (by cases ho : o <;> rw [ho] at hP <;> exact hP)
theorem z_piV {o : Option Int32} {K : Int32 → Option τ} (hC : Cx C cc nL own ret rm G) {y : MethodName} {bytes : ByteArray} {maxL n : Nat} {ret' : Option FieldType} {rm' : Room} (hY : YV y bytes maxL ret' n) {index : Nat} (hlink : Cond.methodLink own index y ∈ gw) (as : List AV) (hn : as.length = n) (hl : G.2.2.2 k a) {ci : Nat} {cs : List (Nat × Nat)} {T : u_T} {N : Nat} (hkd : kd a = .inr (ci, cs)) (hc : vwc[ci]? = some (y.cls, T, N))
    (hM : ∀ l r, o = some r → Mt l y bytes maxL ret' rm' G (.inr (k, a) :: as) (mem x0) (avI r) (mem x0)) (hs : stk = as.reverse ++ .inr (k, a) :: st) (hrm : rm'.cells = 0 ∧ rm'.slots = 0 ∧ rm'.frames + 1 ≤ rm.frames ∧ 8 + (maxL + 11) + rm'.locals ≤ rm.locals) (hcat : (st.map cat).sum ≤ 8) (d : decode cc pc = .ok (.invokevirtual index, 3))
    (kk : ∀ r, Rg C nL G 0 0 mem Qt (pc + 3) ls (.inl (.int r) :: st) x0 (K r)) : Rg C nL G 0 0 mem Qt pc ls stk x0 (bp o K) := by
  have h := z_kV (o := o) (K := K) (rv' := avI) (xs := fun _ => x0) (Qt := Qt) (st := st) (ls := ls) hC hY hlink as hn hl hkd hc hM hs hrm hcat d kk
  intro t hP
  exact h t (by cases ho : o <;> rw [ho] at hP <;> exact hP)
theorem z_ciS {o : Option (Int32 × σ)} {K : Int32 → σ → Option τ} (hC : Cx C cc nL own ret rm G) {y : MethodName} {bytes : ByteArray} {maxL n : Nat} {ret' : Option FieldType} {rm' : Room} (hY : YS y bytes maxL ret' n) {index : Nat} (hlink : Cond.methodLink own index y ∈ gw) (as : List AV) (hn : as.length = n) 
    (hM : ∀ l r x', o = some (r, x') → Mt l y bytes maxL ret' rm' G (as) (mem x0) (avI r) (mem x')) (hs : stk = as.reverse ++ st) (hrm : rm'.cells = 0 ∧ rm'.slots = 0 ∧ rm'.frames + 1 ≤ rm.frames ∧ 8 + (maxL + 11) + rm'.locals ≤ rm.locals) (hcat : (st.map cat).sum ≤ 8) (d : decode cc pc = .ok (.invokestatic index, 3))
    (kk : ∀ r x', Rg C nL G 0 0 mem Qt (pc + 3) ls (.inl (.int r) :: st) x' (K r x')) : Rg C nL G 0 0 mem Qt pc ls stk x0 (bd o K) := by
  have h := z_kS (o := o) (K := fun q => K q.1 q.2) (rv' := fun q => avI q.1) (xs := fun q => q.2) (Qt := Qt) (st := st) (ls := ls) hC hY hlink as hn (fun l q hq => hM l q.1 q.2 hq) hs hrm hcat d (fun q => kk q.1 q.2)
  intro t hP
  exact h t (by cases ho : o <;> rw [ho] at hP <;> exact hP)
theorem z_piS {o : Option Int32} {K : Int32 → Option τ} (hC : Cx C cc nL own ret rm G) {y : MethodName} {bytes : ByteArray} {maxL n : Nat} {ret' : Option FieldType} {rm' : Room} (hY : YS y bytes maxL ret' n) {index : Nat} (hlink : Cond.methodLink own index y ∈ gw) (as : List AV) (hn : as.length = n) 
    (hM : ∀ l r, o = some r → Mt l y bytes maxL ret' rm' G (as) (mem x0) (avI r) (mem x0)) (hs : stk = as.reverse ++ st) (hrm : rm'.cells = 0 ∧ rm'.slots = 0 ∧ rm'.frames + 1 ≤ rm.frames ∧ 8 + (maxL + 11) + rm'.locals ≤ rm.locals) (hcat : (st.map cat).sum ≤ 8) (d : decode cc pc = .ok (.invokestatic index, 3))
    (kk : ∀ r, Rg C nL G 0 0 mem Qt (pc + 3) ls (.inl (.int r) :: st) x0 (K r)) : Rg C nL G 0 0 mem Qt pc ls stk x0 (bp o K) := by
  have h := z_kS (o := o) (K := K) (rv' := avI) (xs := fun _ => x0) (Qt := Qt) (st := st) (ls := ls) hC hY hlink as hn hM hs hrm hcat d kk
  intro t hP
  exact h t (by cases ho : o <;> rw [ho] at hP <;> exact hP)
theorem z_ciN {o : Option (Int32 × σ)} {K : Int32 → σ → Option τ} (hC : Cx C cc nL own ret rm G) {y : MethodName} {bytes : ByteArray} {maxL n : Nat} {ret' : Option FieldType} {rm' : Room} (hY : YS y bytes maxL ret' n) {index : Nat} {host : String} (hlink : ∀ U, NkOk U → va_Nw (.methodLinkNest own index y host) U) (as : List AV) (hn : as.length = n) 
    (hM : ∀ l r x', o = some (r, x') → Mt l y bytes maxL ret' rm' G (as) (mem x0) (avI r) (mem x')) (hs : stk = as.reverse ++ st) (hrm : rm'.cells = 0 ∧ rm'.slots = 0 ∧ rm'.frames + 1 ≤ rm.frames ∧ 8 + (maxL + 11) + rm'.locals ≤ rm.locals) (hcat : (st.map cat).sum ≤ 8) (d : decode cc pc = .ok (.invokestatic index, 3))
    (kk : ∀ r x', Rg C nL G 0 0 mem Qt (pc + 3) ls (.inl (.int r) :: st) x' (K r x')) : Rg C nL G 0 0 mem Qt pc ls stk x0 (bd o K) := by
  have h := z_kN (o := o) (K := fun q => K q.1 q.2) (rv' := fun q => avI q.1) (xs := fun q => q.2) (Qt := Qt) (st := st) (ls := ls) hC hY hlink as hn (fun l q hq => hM l q.1 q.2 hq) hs hrm hcat d (fun q => kk q.1 q.2)
  intro t hP
  exact h t (by cases ho : o <;> rw [ho] at hP <;> exact hP)
theorem z_piN {o : Option Int32} {K : Int32 → Option τ} (hC : Cx C cc nL own ret rm G) {y : MethodName} {bytes : ByteArray} {maxL n : Nat} {ret' : Option FieldType} {rm' : Room} (hY : YS y bytes maxL ret' n) {index : Nat} {host : String} (hlink : ∀ U, NkOk U → va_Nw (.methodLinkNest own index y host) U) (as : List AV) (hn : as.length = n) 
    (hM : ∀ l r, o = some r → Mt l y bytes maxL ret' rm' G (as) (mem x0) (avI r) (mem x0)) (hs : stk = as.reverse ++ st) (hrm : rm'.cells = 0 ∧ rm'.slots = 0 ∧ rm'.frames + 1 ≤ rm.frames ∧ 8 + (maxL + 11) + rm'.locals ≤ rm.locals) (hcat : (st.map cat).sum ≤ 8) (d : decode cc pc = .ok (.invokestatic index, 3))
    (kk : ∀ r, Rg C nL G 0 0 mem Qt (pc + 3) ls (.inl (.int r) :: st) x0 (K r)) : Rg C nL G 0 0 mem Qt pc ls stk x0 (bp o K) := by
  have h := z_kN (o := o) (K := K) (rv' := avI) (xs := fun _ => x0) (Qt := Qt) (st := st) (ls := ls) hC hY hlink as hn hM hs hrm hcat d kk
  intro t hP
  exact h t (by cases ho : o <;> rw [ho] at hP <;> exact hP)
theorem z_cvV {o : Option (Unit × σ)} {K : Unit → σ → Option τ} (hC : Cx C cc nL own ret rm G) {y : MethodName} {bytes : ByteArray} {maxL n : Nat} {ret' : Option FieldType} {rm' : Room} (hY : YV y bytes maxL ret' n) {index : Nat} (hlink : Cond.methodLink own index y ∈ gw) (as : List AV) (hn : as.length = n) (hl : G.2.2.2 k a) {ci : Nat} {cs : List (Nat × Nat)} {T : u_T} {N : Nat} (hkd : kd a = .inr (ci, cs)) (hc : vwc[ci]? = some (y.cls, T, N))
    (hM : ∀ l r x', o = some (r, x') → Mt l y bytes maxL ret' rm' G (.inr (k, a) :: as) (mem x0) (avV r) (mem x')) (hs : stk = as.reverse ++ .inr (k, a) :: st) (hrm : rm'.cells = 0 ∧ rm'.slots = 0 ∧ rm'.frames + 1 ≤ rm.frames ∧ 8 + (maxL + 11) + rm'.locals ≤ rm.locals) (hcat : (st.map cat).sum ≤ 8) (d : decode cc pc = .ok (.invokevirtual index, 3))
    (kk : ∀ r x', Rg C nL G 0 0 mem Qt (pc + 3) ls (st) x' (K r x')) : Rg C nL G 0 0 mem Qt pc ls stk x0 (bd o K) := by
  have h := z_kV (o := o) (K := fun q => K q.1 q.2) (rv' := fun q => avV q.1) (xs := fun q => q.2) (Qt := Qt) (st := st) (ls := ls) hC hY hlink as hn hl hkd hc (fun l q hq => hM l q.1 q.2 hq) hs hrm hcat d (fun q => kk q.1 q.2)
  intro t hP
  exact h t (by cases ho : o <;> rw [ho] at hP <;> exact hP)
theorem z_pvV {o : Option Unit} {K : Unit → Option τ} (hC : Cx C cc nL own ret rm G) {y : MethodName} {bytes : ByteArray} {maxL n : Nat} {ret' : Option FieldType} {rm' : Room} (hY : YV y bytes maxL ret' n) {index : Nat} (hlink : Cond.methodLink own index y ∈ gw) (as : List AV) (hn : as.length = n) (hl : G.2.2.2 k a) {ci : Nat} {cs : List (Nat × Nat)} {T : u_T} {N : Nat} (hkd : kd a = .inr (ci, cs)) (hc : vwc[ci]? = some (y.cls, T, N))
    (hM : ∀ l r, o = some r → Mt l y bytes maxL ret' rm' G (.inr (k, a) :: as) (mem x0) (avV r) (mem x0)) (hs : stk = as.reverse ++ .inr (k, a) :: st) (hrm : rm'.cells = 0 ∧ rm'.slots = 0 ∧ rm'.frames + 1 ≤ rm.frames ∧ 8 + (maxL + 11) + rm'.locals ≤ rm.locals) (hcat : (st.map cat).sum ≤ 8) (d : decode cc pc = .ok (.invokevirtual index, 3))
    (kk : ∀ r, Rg C nL G 0 0 mem Qt (pc + 3) ls (st) x0 (K r)) : Rg C nL G 0 0 mem Qt pc ls stk x0 (bp o K) := by
  have h := z_kV (o := o) (K := K) (rv' := avV) (xs := fun _ => x0) (Qt := Qt) (st := st) (ls := ls) hC hY hlink as hn hl hkd hc hM hs hrm hcat d kk
  intro t hP
  exact h t (by cases ho : o <;> rw [ho] at hP <;> exact hP)
theorem z_cvS {o : Option (Unit × σ)} {K : Unit → σ → Option τ} (hC : Cx C cc nL own ret rm G) {y : MethodName} {bytes : ByteArray} {maxL n : Nat} {ret' : Option FieldType} {rm' : Room} (hY : YS y bytes maxL ret' n) {index : Nat} (hlink : Cond.methodLink own index y ∈ gw) (as : List AV) (hn : as.length = n) 
    (hM : ∀ l r x', o = some (r, x') → Mt l y bytes maxL ret' rm' G (as) (mem x0) (avV r) (mem x')) (hs : stk = as.reverse ++ st) (hrm : rm'.cells = 0 ∧ rm'.slots = 0 ∧ rm'.frames + 1 ≤ rm.frames ∧ 8 + (maxL + 11) + rm'.locals ≤ rm.locals) (hcat : (st.map cat).sum ≤ 8) (d : decode cc pc = .ok (.invokestatic index, 3))
    (kk : ∀ r x', Rg C nL G 0 0 mem Qt (pc + 3) ls (st) x' (K r x')) : Rg C nL G 0 0 mem Qt pc ls stk x0 (bd o K) := by
  have h := z_kS (o := o) (K := fun q => K q.1 q.2) (rv' := fun q => avV q.1) (xs := fun q => q.2) (Qt := Qt) (st := st) (ls := ls) hC hY hlink as hn (fun l q hq => hM l q.1 q.2 hq) hs hrm hcat d (fun q => kk q.1 q.2)
  intro t hP
  exact h t (by cases ho : o <;> rw [ho] at hP <;> exact hP)
theorem z_pvS {o : Option Unit} {K : Unit → Option τ} (hC : Cx C cc nL own ret rm G) {y : MethodName} {bytes : ByteArray} {maxL n : Nat} {ret' : Option FieldType} {rm' : Room} (hY : YS y bytes maxL ret' n) {index : Nat} (hlink : Cond.methodLink own index y ∈ gw) (as : List AV) (hn : as.length = n) 
    (hM : ∀ l r, o = some r → Mt l y bytes maxL ret' rm' G (as) (mem x0) (avV r) (mem x0)) (hs : stk = as.reverse ++ st) (hrm : rm'.cells = 0 ∧ rm'.slots = 0 ∧ rm'.frames + 1 ≤ rm.frames ∧ 8 + (maxL + 11) + rm'.locals ≤ rm.locals) (hcat : (st.map cat).sum ≤ 8) (d : decode cc pc = .ok (.invokestatic index, 3))
    (kk : ∀ r, Rg C nL G 0 0 mem Qt (pc + 3) ls (st) x0 (K r)) : Rg C nL G 0 0 mem Qt pc ls stk x0 (bp o K) := by
  have h := z_kS (o := o) (K := K) (rv' := avV) (xs := fun _ => x0) (Qt := Qt) (st := st) (ls := ls) hC hY hlink as hn hM hs hrm hcat d kk
  intro t hP
  exact h t (by cases ho : o <;> rw [ho] at hP <;> exact hP)
theorem z_cvN {o : Option (Unit × σ)} {K : Unit → σ → Option τ} (hC : Cx C cc nL own ret rm G) {y : MethodName} {bytes : ByteArray} {maxL n : Nat} {ret' : Option FieldType} {rm' : Room} (hY : YS y bytes maxL ret' n) {index : Nat} {host : String} (hlink : ∀ U, NkOk U → va_Nw (.methodLinkNest own index y host) U) (as : List AV) (hn : as.length = n) 
    (hM : ∀ l r x', o = some (r, x') → Mt l y bytes maxL ret' rm' G (as) (mem x0) (avV r) (mem x')) (hs : stk = as.reverse ++ st) (hrm : rm'.cells = 0 ∧ rm'.slots = 0 ∧ rm'.frames + 1 ≤ rm.frames ∧ 8 + (maxL + 11) + rm'.locals ≤ rm.locals) (hcat : (st.map cat).sum ≤ 8) (d : decode cc pc = .ok (.invokestatic index, 3))
    (kk : ∀ r x', Rg C nL G 0 0 mem Qt (pc + 3) ls (st) x' (K r x')) : Rg C nL G 0 0 mem Qt pc ls stk x0 (bd o K) := by
  have h := z_kN (o := o) (K := fun q => K q.1 q.2) (rv' := fun q => avV q.1) (xs := fun q => q.2) (Qt := Qt) (st := st) (ls := ls) hC hY hlink as hn (fun l q hq => hM l q.1 q.2 hq) hs hrm hcat d (fun q => kk q.1 q.2)
  intro t hP
  exact h t (by cases ho : o <;> rw [ho] at hP <;> exact hP)
theorem z_pvN {o : Option Unit} {K : Unit → Option τ} (hC : Cx C cc nL own ret rm G) {y : MethodName} {bytes : ByteArray} {maxL n : Nat} {ret' : Option FieldType} {rm' : Room} (hY : YS y bytes maxL ret' n) {index : Nat} {host : String} (hlink : ∀ U, NkOk U → va_Nw (.methodLinkNest own index y host) U) (as : List AV) (hn : as.length = n) 
    (hM : ∀ l r, o = some r → Mt l y bytes maxL ret' rm' G (as) (mem x0) (avV r) (mem x0)) (hs : stk = as.reverse ++ st) (hrm : rm'.cells = 0 ∧ rm'.slots = 0 ∧ rm'.frames + 1 ≤ rm.frames ∧ 8 + (maxL + 11) + rm'.locals ≤ rm.locals) (hcat : (st.map cat).sum ≤ 8) (d : decode cc pc = .ok (.invokestatic index, 3))
    (kk : ∀ r, Rg C nL G 0 0 mem Qt (pc + 3) ls (st) x0 (K r)) : Rg C nL G 0 0 mem Qt pc ls stk x0 (bp o K) := by
  have h := z_kN (o := o) (K := K) (rv' := avV) (xs := fun _ => x0) (Qt := Qt) (st := st) (ls := ls) hC hY hlink as hn hM hs hrm hcat d kk
  intro t hP
  exact h t (by cases ho : o <;> rw [ho] at hP <;> exact hP)
theorem z_cfV {o : Option (UInt32 × σ)} {K : UInt32 → σ → Option τ} (hC : Cx C cc nL own ret rm G) {y : MethodName} {bytes : ByteArray} {maxL n : Nat} {ret' : Option FieldType} {rm' : Room} (hY : YV y bytes maxL ret' n) {index : Nat} (hlink : Cond.methodLink own index y ∈ gw) (as : List AV) (hn : as.length = n) (hl : G.2.2.2 k a) {ci : Nat} {cs : List (Nat × Nat)} {T : u_T} {N : Nat} (hkd : kd a = .inr (ci, cs)) (hc : vwc[ci]? = some (y.cls, T, N))
    (hM : ∀ l r x', o = some (r, x') → Mt l y bytes maxL ret' rm' G (.inr (k, a) :: as) (mem x0) (avF r) (mem x')) (hs : stk = as.reverse ++ .inr (k, a) :: st) (hrm : rm'.cells = 0 ∧ rm'.slots = 0 ∧ rm'.frames + 1 ≤ rm.frames ∧ 8 + (maxL + 11) + rm'.locals ≤ rm.locals) (hcat : (st.map cat).sum ≤ 8) (d : decode cc pc = .ok (.invokevirtual index, 3))
    (kk : ∀ r x', Rg C nL G 0 0 mem Qt (pc + 3) ls (.inl (.float r) :: st) x' (K r x')) : Rg C nL G 0 0 mem Qt pc ls stk x0 (bd o K) := by
  have h := z_kV (o := o) (K := fun q => K q.1 q.2) (rv' := fun q => avF q.1) (xs := fun q => q.2) (Qt := Qt) (st := st) (ls := ls) hC hY hlink as hn hl hkd hc (fun l q hq => hM l q.1 q.2 hq) hs hrm hcat d (fun q => kk q.1 q.2)
  intro t hP
  exact h t (by cases ho : o <;> rw [ho] at hP <;> exact hP)
theorem z_pfV {o : Option UInt32} {K : UInt32 → Option τ} (hC : Cx C cc nL own ret rm G) {y : MethodName} {bytes : ByteArray} {maxL n : Nat} {ret' : Option FieldType} {rm' : Room} (hY : YV y bytes maxL ret' n) {index : Nat} (hlink : Cond.methodLink own index y ∈ gw) (as : List AV) (hn : as.length = n) (hl : G.2.2.2 k a) {ci : Nat} {cs : List (Nat × Nat)} {T : u_T} {N : Nat} (hkd : kd a = .inr (ci, cs)) (hc : vwc[ci]? = some (y.cls, T, N))
    (hM : ∀ l r, o = some r → Mt l y bytes maxL ret' rm' G (.inr (k, a) :: as) (mem x0) (avF r) (mem x0)) (hs : stk = as.reverse ++ .inr (k, a) :: st) (hrm : rm'.cells = 0 ∧ rm'.slots = 0 ∧ rm'.frames + 1 ≤ rm.frames ∧ 8 + (maxL + 11) + rm'.locals ≤ rm.locals) (hcat : (st.map cat).sum ≤ 8) (d : decode cc pc = .ok (.invokevirtual index, 3))
    (kk : ∀ r, Rg C nL G 0 0 mem Qt (pc + 3) ls (.inl (.float r) :: st) x0 (K r)) : Rg C nL G 0 0 mem Qt pc ls stk x0 (bp o K) := by
  have h := z_kV (o := o) (K := K) (rv' := avF) (xs := fun _ => x0) (Qt := Qt) (st := st) (ls := ls) hC hY hlink as hn hl hkd hc hM hs hrm hcat d kk
  intro t hP
  exact h t (by cases ho : o <;> rw [ho] at hP <;> exact hP)
theorem z_cfS {o : Option (UInt32 × σ)} {K : UInt32 → σ → Option τ} (hC : Cx C cc nL own ret rm G) {y : MethodName} {bytes : ByteArray} {maxL n : Nat} {ret' : Option FieldType} {rm' : Room} (hY : YS y bytes maxL ret' n) {index : Nat} (hlink : Cond.methodLink own index y ∈ gw) (as : List AV) (hn : as.length = n) 
    (hM : ∀ l r x', o = some (r, x') → Mt l y bytes maxL ret' rm' G (as) (mem x0) (avF r) (mem x')) (hs : stk = as.reverse ++ st) (hrm : rm'.cells = 0 ∧ rm'.slots = 0 ∧ rm'.frames + 1 ≤ rm.frames ∧ 8 + (maxL + 11) + rm'.locals ≤ rm.locals) (hcat : (st.map cat).sum ≤ 8) (d : decode cc pc = .ok (.invokestatic index, 3))
    (kk : ∀ r x', Rg C nL G 0 0 mem Qt (pc + 3) ls (.inl (.float r) :: st) x' (K r x')) : Rg C nL G 0 0 mem Qt pc ls stk x0 (bd o K) := by
  have h := z_kS (o := o) (K := fun q => K q.1 q.2) (rv' := fun q => avF q.1) (xs := fun q => q.2) (Qt := Qt) (st := st) (ls := ls) hC hY hlink as hn (fun l q hq => hM l q.1 q.2 hq) hs hrm hcat d (fun q => kk q.1 q.2)
  intro t hP
  exact h t (by cases ho : o <;> rw [ho] at hP <;> exact hP)
theorem z_pfS {o : Option UInt32} {K : UInt32 → Option τ} (hC : Cx C cc nL own ret rm G) {y : MethodName} {bytes : ByteArray} {maxL n : Nat} {ret' : Option FieldType} {rm' : Room} (hY : YS y bytes maxL ret' n) {index : Nat} (hlink : Cond.methodLink own index y ∈ gw) (as : List AV) (hn : as.length = n) 
    (hM : ∀ l r, o = some r → Mt l y bytes maxL ret' rm' G (as) (mem x0) (avF r) (mem x0)) (hs : stk = as.reverse ++ st) (hrm : rm'.cells = 0 ∧ rm'.slots = 0 ∧ rm'.frames + 1 ≤ rm.frames ∧ 8 + (maxL + 11) + rm'.locals ≤ rm.locals) (hcat : (st.map cat).sum ≤ 8) (d : decode cc pc = .ok (.invokestatic index, 3))
    (kk : ∀ r, Rg C nL G 0 0 mem Qt (pc + 3) ls (.inl (.float r) :: st) x0 (K r)) : Rg C nL G 0 0 mem Qt pc ls stk x0 (bp o K) := by
  have h := z_kS (o := o) (K := K) (rv' := avF) (xs := fun _ => x0) (Qt := Qt) (st := st) (ls := ls) hC hY hlink as hn hM hs hrm hcat d kk
  intro t hP
  exact h t (by cases ho : o <;> rw [ho] at hP <;> exact hP)
theorem z_cfN {o : Option (UInt32 × σ)} {K : UInt32 → σ → Option τ} (hC : Cx C cc nL own ret rm G) {y : MethodName} {bytes : ByteArray} {maxL n : Nat} {ret' : Option FieldType} {rm' : Room} (hY : YS y bytes maxL ret' n) {index : Nat} {host : String} (hlink : ∀ U, NkOk U → va_Nw (.methodLinkNest own index y host) U) (as : List AV) (hn : as.length = n) 
    (hM : ∀ l r x', o = some (r, x') → Mt l y bytes maxL ret' rm' G (as) (mem x0) (avF r) (mem x')) (hs : stk = as.reverse ++ st) (hrm : rm'.cells = 0 ∧ rm'.slots = 0 ∧ rm'.frames + 1 ≤ rm.frames ∧ 8 + (maxL + 11) + rm'.locals ≤ rm.locals) (hcat : (st.map cat).sum ≤ 8) (d : decode cc pc = .ok (.invokestatic index, 3))
    (kk : ∀ r x', Rg C nL G 0 0 mem Qt (pc + 3) ls (.inl (.float r) :: st) x' (K r x')) : Rg C nL G 0 0 mem Qt pc ls stk x0 (bd o K) := by
  have h := z_kN (o := o) (K := fun q => K q.1 q.2) (rv' := fun q => avF q.1) (xs := fun q => q.2) (Qt := Qt) (st := st) (ls := ls) hC hY hlink as hn (fun l q hq => hM l q.1 q.2 hq) hs hrm hcat d (fun q => kk q.1 q.2)
  intro t hP
  exact h t (by cases ho : o <;> rw [ho] at hP <;> exact hP)
theorem z_pfN {o : Option UInt32} {K : UInt32 → Option τ} (hC : Cx C cc nL own ret rm G) {y : MethodName} {bytes : ByteArray} {maxL n : Nat} {ret' : Option FieldType} {rm' : Room} (hY : YS y bytes maxL ret' n) {index : Nat} {host : String} (hlink : ∀ U, NkOk U → va_Nw (.methodLinkNest own index y host) U) (as : List AV) (hn : as.length = n) 
    (hM : ∀ l r, o = some r → Mt l y bytes maxL ret' rm' G (as) (mem x0) (avF r) (mem x0)) (hs : stk = as.reverse ++ st) (hrm : rm'.cells = 0 ∧ rm'.slots = 0 ∧ rm'.frames + 1 ≤ rm.frames ∧ 8 + (maxL + 11) + rm'.locals ≤ rm.locals) (hcat : (st.map cat).sum ≤ 8) (d : decode cc pc = .ok (.invokestatic index, 3))
    (kk : ∀ r, Rg C nL G 0 0 mem Qt (pc + 3) ls (.inl (.float r) :: st) x0 (K r)) : Rg C nL G 0 0 mem Qt pc ls stk x0 (bp o K) := by
  have h := z_kN (o := o) (K := K) (rv' := avF) (xs := fun _ => x0) (Qt := Qt) (st := st) (ls := ls) hC hY hlink as hn hM hs hrm hcat d kk
  intro t hP
  exact h t (by cases ho : o <;> rw [ho] at hP <;> exact hP)
theorem z_clV {o : Option (Int64 × σ)} {K : Int64 → σ → Option τ} (hC : Cx C cc nL own ret rm G) {y : MethodName} {bytes : ByteArray} {maxL n : Nat} {ret' : Option FieldType} {rm' : Room} (hY : YV y bytes maxL ret' n) {index : Nat} (hlink : Cond.methodLink own index y ∈ gw) (as : List AV) (hn : as.length = n) (hl : G.2.2.2 k a) {ci : Nat} {cs : List (Nat × Nat)} {T : u_T} {N : Nat} (hkd : kd a = .inr (ci, cs)) (hc : vwc[ci]? = some (y.cls, T, N))
    (hM : ∀ l r x', o = some (r, x') → Mt l y bytes maxL ret' rm' G (.inr (k, a) :: as) (mem x0) (avL r) (mem x')) (hs : stk = as.reverse ++ .inr (k, a) :: st) (hrm : rm'.cells = 0 ∧ rm'.slots = 0 ∧ rm'.frames + 1 ≤ rm.frames ∧ 8 + (maxL + 11) + rm'.locals ≤ rm.locals) (hcat : (st.map cat).sum ≤ 8) (d : decode cc pc = .ok (.invokevirtual index, 3))
    (kk : ∀ r x', Rg C nL G 0 0 mem Qt (pc + 3) ls (.inl (.long r) :: st) x' (K r x')) : Rg C nL G 0 0 mem Qt pc ls stk x0 (bd o K) := by
  have h := z_kV (o := o) (K := fun q => K q.1 q.2) (rv' := fun q => avL q.1) (xs := fun q => q.2) (Qt := Qt) (st := st) (ls := ls) hC hY hlink as hn hl hkd hc (fun l q hq => hM l q.1 q.2 hq) hs hrm hcat d (fun q => kk q.1 q.2)
  intro t hP
  exact h t (by cases ho : o <;> rw [ho] at hP <;> exact hP)
theorem z_plV {o : Option Int64} {K : Int64 → Option τ} (hC : Cx C cc nL own ret rm G) {y : MethodName} {bytes : ByteArray} {maxL n : Nat} {ret' : Option FieldType} {rm' : Room} (hY : YV y bytes maxL ret' n) {index : Nat} (hlink : Cond.methodLink own index y ∈ gw) (as : List AV) (hn : as.length = n) (hl : G.2.2.2 k a) {ci : Nat} {cs : List (Nat × Nat)} {T : u_T} {N : Nat} (hkd : kd a = .inr (ci, cs)) (hc : vwc[ci]? = some (y.cls, T, N))
    (hM : ∀ l r, o = some r → Mt l y bytes maxL ret' rm' G (.inr (k, a) :: as) (mem x0) (avL r) (mem x0)) (hs : stk = as.reverse ++ .inr (k, a) :: st) (hrm : rm'.cells = 0 ∧ rm'.slots = 0 ∧ rm'.frames + 1 ≤ rm.frames ∧ 8 + (maxL + 11) + rm'.locals ≤ rm.locals) (hcat : (st.map cat).sum ≤ 8) (d : decode cc pc = .ok (.invokevirtual index, 3))
    (kk : ∀ r, Rg C nL G 0 0 mem Qt (pc + 3) ls (.inl (.long r) :: st) x0 (K r)) : Rg C nL G 0 0 mem Qt pc ls stk x0 (bp o K) := by
  have h := z_kV (o := o) (K := K) (rv' := avL) (xs := fun _ => x0) (Qt := Qt) (st := st) (ls := ls) hC hY hlink as hn hl hkd hc hM hs hrm hcat d kk
  intro t hP
  exact h t (by cases ho : o <;> rw [ho] at hP <;> exact hP)
theorem z_clS {o : Option (Int64 × σ)} {K : Int64 → σ → Option τ} (hC : Cx C cc nL own ret rm G) {y : MethodName} {bytes : ByteArray} {maxL n : Nat} {ret' : Option FieldType} {rm' : Room} (hY : YS y bytes maxL ret' n) {index : Nat} (hlink : Cond.methodLink own index y ∈ gw) (as : List AV) (hn : as.length = n) 
    (hM : ∀ l r x', o = some (r, x') → Mt l y bytes maxL ret' rm' G (as) (mem x0) (avL r) (mem x')) (hs : stk = as.reverse ++ st) (hrm : rm'.cells = 0 ∧ rm'.slots = 0 ∧ rm'.frames + 1 ≤ rm.frames ∧ 8 + (maxL + 11) + rm'.locals ≤ rm.locals) (hcat : (st.map cat).sum ≤ 8) (d : decode cc pc = .ok (.invokestatic index, 3))
    (kk : ∀ r x', Rg C nL G 0 0 mem Qt (pc + 3) ls (.inl (.long r) :: st) x' (K r x')) : Rg C nL G 0 0 mem Qt pc ls stk x0 (bd o K) := by
  have h := z_kS (o := o) (K := fun q => K q.1 q.2) (rv' := fun q => avL q.1) (xs := fun q => q.2) (Qt := Qt) (st := st) (ls := ls) hC hY hlink as hn (fun l q hq => hM l q.1 q.2 hq) hs hrm hcat d (fun q => kk q.1 q.2)
  intro t hP
  exact h t (by cases ho : o <;> rw [ho] at hP <;> exact hP)
theorem z_plS {o : Option Int64} {K : Int64 → Option τ} (hC : Cx C cc nL own ret rm G) {y : MethodName} {bytes : ByteArray} {maxL n : Nat} {ret' : Option FieldType} {rm' : Room} (hY : YS y bytes maxL ret' n) {index : Nat} (hlink : Cond.methodLink own index y ∈ gw) (as : List AV) (hn : as.length = n) 
    (hM : ∀ l r, o = some r → Mt l y bytes maxL ret' rm' G (as) (mem x0) (avL r) (mem x0)) (hs : stk = as.reverse ++ st) (hrm : rm'.cells = 0 ∧ rm'.slots = 0 ∧ rm'.frames + 1 ≤ rm.frames ∧ 8 + (maxL + 11) + rm'.locals ≤ rm.locals) (hcat : (st.map cat).sum ≤ 8) (d : decode cc pc = .ok (.invokestatic index, 3))
    (kk : ∀ r, Rg C nL G 0 0 mem Qt (pc + 3) ls (.inl (.long r) :: st) x0 (K r)) : Rg C nL G 0 0 mem Qt pc ls stk x0 (bp o K) := by
  have h := z_kS (o := o) (K := K) (rv' := avL) (xs := fun _ => x0) (Qt := Qt) (st := st) (ls := ls) hC hY hlink as hn hM hs hrm hcat d kk
  intro t hP
  exact h t (by cases ho : o <;> rw [ho] at hP <;> exact hP)
theorem z_clN {o : Option (Int64 × σ)} {K : Int64 → σ → Option τ} (hC : Cx C cc nL own ret rm G) {y : MethodName} {bytes : ByteArray} {maxL n : Nat} {ret' : Option FieldType} {rm' : Room} (hY : YS y bytes maxL ret' n) {index : Nat} {host : String} (hlink : ∀ U, NkOk U → va_Nw (.methodLinkNest own index y host) U) (as : List AV) (hn : as.length = n) 
    (hM : ∀ l r x', o = some (r, x') → Mt l y bytes maxL ret' rm' G (as) (mem x0) (avL r) (mem x')) (hs : stk = as.reverse ++ st) (hrm : rm'.cells = 0 ∧ rm'.slots = 0 ∧ rm'.frames + 1 ≤ rm.frames ∧ 8 + (maxL + 11) + rm'.locals ≤ rm.locals) (hcat : (st.map cat).sum ≤ 8) (d : decode cc pc = .ok (.invokestatic index, 3))
    (kk : ∀ r x', Rg C nL G 0 0 mem Qt (pc + 3) ls (.inl (.long r) :: st) x' (K r x')) : Rg C nL G 0 0 mem Qt pc ls stk x0 (bd o K) := by
  have h := z_kN (o := o) (K := fun q => K q.1 q.2) (rv' := fun q => avL q.1) (xs := fun q => q.2) (Qt := Qt) (st := st) (ls := ls) hC hY hlink as hn (fun l q hq => hM l q.1 q.2 hq) hs hrm hcat d (fun q => kk q.1 q.2)
  intro t hP
  exact h t (by cases ho : o <;> rw [ho] at hP <;> exact hP)
theorem z_plN {o : Option Int64} {K : Int64 → Option τ} (hC : Cx C cc nL own ret rm G) {y : MethodName} {bytes : ByteArray} {maxL n : Nat} {ret' : Option FieldType} {rm' : Room} (hY : YS y bytes maxL ret' n) {index : Nat} {host : String} (hlink : ∀ U, NkOk U → va_Nw (.methodLinkNest own index y host) U) (as : List AV) (hn : as.length = n) 
    (hM : ∀ l r, o = some r → Mt l y bytes maxL ret' rm' G (as) (mem x0) (avL r) (mem x0)) (hs : stk = as.reverse ++ st) (hrm : rm'.cells = 0 ∧ rm'.slots = 0 ∧ rm'.frames + 1 ≤ rm.frames ∧ 8 + (maxL + 11) + rm'.locals ≤ rm.locals) (hcat : (st.map cat).sum ≤ 8) (d : decode cc pc = .ok (.invokestatic index, 3))
    (kk : ∀ r, Rg C nL G 0 0 mem Qt (pc + 3) ls (.inl (.long r) :: st) x0 (K r)) : Rg C nL G 0 0 mem Qt pc ls stk x0 (bp o K) := by
  have h := z_kN (o := o) (K := K) (rv' := avL) (xs := fun _ => x0) (Qt := Qt) (st := st) (ls := ls) hC hY hlink as hn hM hs hrm hcat d kk
  intro t hP
  exact h t (by cases ho : o <;> rw [ho] at hP <;> exact hP)
end ZC
section ZD
variable {G : Geo} {σ τ : Type} {mem : σ → Mem} {po : τ → Option AV × Mem} {x0 : σ} {P : Option τ} {t : τ}
/-- a method's contract out of its body -/
theorem mt_of {l : Launch} {y : MethodName} {cc : ByteArray} {maxL : Nat} {ret : Option FieldType} {rm : Room} (hy : plainName y.cls = true) (hG : GOk G) (as : List AV) {ls : List (Nat × AV)} (hlen : (lg_sl (as.map (ph G))).length ≤ maxL) (hls : lv_args 0 (as.map (ph G)) = ls.map (phl G))
    (body : ∀ C, Cx C cc maxL y.cls ret rm G → Rz C maxL G mem po 0 ls [] x0 P) (hP : P = some t) : Mt l y cc maxL ret rm G as (mem x0) (po t).1 (po t).2 := by
  intro sz
  refine Met.ofW (cc := cc) (maxL := maxL) (ret := ret) hy rfl ?_
  intro p e s m args below meth c s₁ B hml hv
  obtain ⟨⟨rfl, hH, hK, hZ⟩, hsz⟩ := hv
  subst hsz
  have hts := atoms_spec (ws := Cond.code y cc maxL ret :: gw) B.pre
  have hl := lv_entry (as.map (ph G)) (n := maxL) hlen
  rw [lg_entry_eq]
  generalize (lg_sl (as.map (ph G)) ++ List.replicate (maxL - (lg_sl (as.map (ph G))).length) Slot.unset).toArray = lsA at hl ⊢
  rw [hls] at hl
  exact body (p, l, e, rm, s, m, (as.map (ph G)).toArray, below, meth, c) ⟨B.exec, B.bytes, hml, findClass_of_methodNamed B.named, fun w hw => hts w (List.mem_cons_of_mem _ hw), hK, hG, B.notSynchronized, B.returns, rfl, hZ⟩ t hP s.heap [] lsA hH va_S.rf hl
end ZD
