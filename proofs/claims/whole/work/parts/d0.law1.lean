/-! ===== the law: two objects on one heap, its calls ===== -/
abbrev LH (s : State) : Nat → Prop := fun q => s.heap.size ≤ q
def OB (s : State) (G : Geo) : Prop := KOk G s ∧ StOk G s ∧ GOk G ∧ ∀ q, Fr G q → s.heap.size ≤ q
/-- what the law's body stands on -/
def LF (p : Program) (s : State) (m : MethodId) (c : Code) (b L : Nat) (xs : Nat → Int32) : Prop :=
  p.tables.exec = Jvm.exec ∧ c.code = code ∧ c.maxLocals = 7 ∧ s.vm.findClass "FrameHeirsLaw" = some m.cls ∧ (∀ w ∈ gw, w.before #[Value.ref b] s = true) ∧ va_X b L xs s s.heap ∧ b < s.heap.size
theorem Holds.apart {G : Geo} {M : Mem} {H H1 : Heap} (h : Holds G M H) (hq : ∀ k a, G.2.2.2 k a → H1[G.2.2.1 k a]? = H[G.2.2.1 k a]?) : Holds G M H1 := ⟨fun k a hl => (h.1 k a hl).kept (hq k a hl), h.2⟩
def zM : Mem := fun _ _ _ => 0
/-- x (its cells, the worlds below n0), the model, the array out; all apart -/
def LWS (s : State) (D : va_G) (cA : ClassId) (qo n0 : Nat) (M : Mem) (μ : Sl) (Gx Gm : Geo) (H : Heap) (locs : List Loc) : Prop :=
  (OB s Gx ∧ GX Gx n0 ∧ 2 ≤ n0 ∧ Holds Gx M H ∧ Gx.1 = D) ∧ (OB s Gm ∧ LMo Gm 0 ∧ Holds Gm (setS zM 0 μ) H) ∧ ((∀ k a, Gx.2.2.2 k a → ¬ Fr Gm (Gx.2.2.1 k a)) ∧ ∀ k a, Gm.2.2.2 k a → ¬ Fr Gx (Gm.2.2.1 k a)) ∧
  ((∀ k a, Gx.2.2.2 k a → Gx.2.2.1 k a ≠ qo) ∧ (∀ k a, Gm.2.2.2 k a → Gm.2.2.1 k a ≠ qo) ∧ s.heap.size ≤ qo ∧ qo < H.size ∧ ∃ f, va_at D vwc (qo, .inl (cA, 1, .inr (.inl f))) H) ∧ va_S (LH s) s.heap H locs
theorem nfr {G : Geo} {q : Nat} (h : ∀ k a, G.2.2.2 k a → G.2.2.1 k a ≠ q) : ¬ Fr G q := fun ⟨k, a, h1, _, h3⟩ => h k a h1 h3.symm
theorem ls_x {s : State} {D : va_G} {cA : ClassId} {qo n0 : Nat} {M M1 : Mem} {μ : Sl} {Gx Gm : Geo} {H H1 : Heap} {locs locs1 : List Loc} (h : LWS s D cA qo n0 M μ Gx Gm H locs) (hz : H.size ≤ H1.size) (hk : ∀ q, q < H.size → ¬ Fr Gx q → H1[q]? = H[q]?) (hH : Holds Gx M1 H1) (hS : va_S (LH s) s.heap H1 locs1) : LWS s D cA qo n0 M1 μ Gx Gm H1 locs1 := by
  obtain ⟨⟨a1, a2, a3, a4, a5⟩, ⟨b1, b2, b3⟩, ⟨c1, c2⟩, ⟨d1, d2, d3, d4, f, d5⟩, e⟩ := h
  exact ⟨⟨a1, a2, a3, hH, a5⟩, ⟨b1, b2, b3.apart (fun k a hl => hk _ (b3.1 k a hl).lt (c2 k a hl))⟩, ⟨c1, c2⟩, ⟨d1, d2, d3, by omega, f, d5.kept (hk _ d4 (nfr d1))⟩, hS⟩
theorem ls_m {s : State} {D : va_G} {cA : ClassId} {qo n0 : Nat} {M : Mem} {μ μ1 : Sl} {Gx Gm : Geo} {H H1 : Heap} {locs locs1 : List Loc} (h : LWS s D cA qo n0 M μ Gx Gm H locs) (hz : H.size ≤ H1.size) (hk : ∀ q, q < H.size → ¬ Fr Gm q → H1[q]? = H[q]?) (hH : Holds Gm (setS zM 0 μ1) H1) (hS : va_S (LH s) s.heap H1 locs1) : LWS s D cA qo n0 M μ1 Gx Gm H1 locs1 := by
  obtain ⟨⟨a1, a2, a3, a4, a5⟩, ⟨b1, b2, b3⟩, ⟨c1, c2⟩, ⟨d1, d2, d3, d4, f, d5⟩, e⟩ := h
  exact ⟨⟨a1, a2, a3, a4.apart (fun k a hl => hk _ (a4.1 k a hl).lt (c1 k a hl)), a5⟩, ⟨b1, b2, hH⟩, ⟨c1, c2⟩, ⟨d1, d2, d3, by omega, f, d5.kept (hk _ d4 (nfr d2))⟩, hS⟩
theorem ob_ge {s : State} {G G1 : Geo} {Lc : List (Nat × Nat)} {n1 : Nat} (h : OB s G) (hE : GE n1 G G1 Lc) (hn : s.heap.size ≤ n1) (h48 : ∀ q ∈ Lc, q.2 < 48 ∨ 60 ≤ q.2) (hG : GOk G1) : OB s G1 := by
  obtain ⟨hK, hZ, -, hA⟩ := h
  refine ⟨?_, ⟨fun kb b h1 h2 h3 => ?_, hZ.2⟩, hG, fun q hq => ?_⟩
  · unfold KOk at *
    rw [hE.1, hE.2.1]; exact hK
  · rcases (hE.2.2.1 kb b).mp h3 with g1 | g1
    · have : b < 48 ∨ 60 ≤ b := h48 _ g1
      omega
    · rw [hE.2.2.2.1 kb b g1, hE.2.1]
      refine ⟨va_Z_fr (hZ.1 kb b h1 h2 g1).1 (fun q hq hq2 => ?_), (hZ.1 kb b h1 h2 g1).2⟩
      rcases hE.fr' hq2 with h | h
      · exact h
      · omega
  · rcases hE.fr' hq with h | h
    · exact hA q h
    · omega
theorem ls_k {s : State} {D : va_G} {cA : ClassId} {qo n0 n1 : Nat} {M M1 : Mem} {μ : Sl} {Gx Gm G1 : Geo} {Lc : List (Nat × Nat)} {H H1 : Heap} {locs locs1 : List Loc} (h : LWS s D cA qo n0 M μ Gx Gm H locs) (hz : H.size ≤ H1.size) (hk : ∀ q, q < H.size → ¬ Fr Gx q → H1[q]? = H[q]?) (hE : GE H.size Gx G1 Lc) (h48 : ∀ q ∈ Lc, q.2 < 48) (hX : GX G1 n1) (hn1 : 2 ≤ n1) (hG : GOk G1) (hH : Holds G1 M1 H1) (hS : va_S (LH s) s.heap H1 locs1) : LWS s D cA qo n1 M1 μ G1 Gm H1 locs1 ∧ G1.2.2.1 0 0 = Gx.2.2.1 0 0 := by
  obtain ⟨⟨a1, a2, a3, a4, a5⟩, ⟨b1, b2, b3⟩, ⟨c1, c2⟩, ⟨d1, d2, d3, d4, f, d5⟩, e⟩ := h
  have hfm : ∀ q, Fr Gm q → q < H.size := fun q hq => by
    obtain ⟨k, a, h1, -, h3⟩ := hq
    rw [h3]; exact (b3.1 k a h1).lt
  refine ⟨⟨⟨ob_ge a1 hE e.1 (fun q hq => Or.inl (h48 q hq)) hG, hX, hn1, hH, by rw [hE.1]; exact a5⟩, ⟨b1, b2, b3.apart (fun k a hl => hk _ (b3.1 k a hl).lt (c2 k a hl))⟩, ⟨fun k a hl => ?_, fun k a hl hf => ?_⟩, ⟨fun k a hl => ?_, d2, d3, by omega, f, d5.kept (hk _ d4 (nfr d1))⟩, hS⟩, ?_⟩
  · rcases (hE.2.2.1 k a).mp hl with g | g
    · have h9 : H.size ≤ G1.2.2.1 k a := hE.2.2.2.2.2 _ g
      exact fun hf => by have := hfm _ hf; omega
    · rw [hE.2.2.2.1 k a g]; exact c1 k a g
  · rcases hE.fr' hf with g | g
    · exact c2 k a hl g
    · have := (b3.1 k a hl).lt
      exact absurd this (Nat.not_lt.mpr g)
  · rcases (hE.2.2.1 k a).mp hl with g | g
    · have := hE.2.2.2.2.2 _ g
      exact fun ee => by have e9 : G1.2.2.1 k a = qo := ee; have : H.size ≤ G1.2.2.1 k a := this; omega
    · rw [hE.2.2.2.1 k a g]; exact d1 k a g
  · exact hE.2.2.2.1 0 0 ((a2 0 0).mpr (by unfold xcell; omega))
section LAW
variable {p : Program} {l : Launch} {e : Env} {s : State} {m : MethodId} {below : List Frame} {meth : Method} {c : Code} {b L : Nat} {xs : Nat → Int32} {Q : State → Prop} {H : Heap} {locs : List Loc} {cs ss : Nat} {ls : Array Slot} {lv : List (Nat × Value)} {pc : Nat} {G : Geo} {M M1 : Mem} {k a : Nat}
/-- a call of a method of one object -/
theorem lc_V (hF : LF p s m c b L xs) (hO : OB s G) {y : MethodName} {bytes : ByteArray} {maxL n : Nat} {ret' : Option FieldType} {rm' : Room} (hY : YV y bytes maxL ret' n) {index : Nat} (hlink : Cond.methodLink "FrameHeirsLaw" index y ∈ gw) (as : List AV) (hn : as.length = n) (hl : G.2.2.2 k a) {ci : Nat} {csx : List (Nat × Nat)} {T : u_T} {N : Nat} (hkd : kd a = .inr (ci, csx)) (hc : vwc[ci]? = some (y.cls, T, N)) {r : Option AV}
    (hM : Mt l y bytes maxL ret' rm' G (.inr (k, a) :: as) M r M1) (hrm : rm'.cells = 0 ∧ rm'.slots = 0 ∧ rm'.frames + 1 ≤ 11 ∧ 8 + (maxL + 11) + rm'.locals ≤ 466) {st stk : List Value} (hcat : (st.map fun v => v.category).sum ≤ 8) (hcs : cs ≤ 601024 ∧ ss ≤ 7293034) (hL : lv_has ls 7 lv) (hH : Holds G M H) (hS : va_S (LH s) s.heap H locs) (d : decode code pc = .ok (.invokevirtual index, 3)) (hs : stk = (as.map (ph G)).reverse ++ .ref (G.2.2.1 k a) :: st)
    (kk : ∀ H1 locs1, H.size ≤ H1.size → (∀ q, q < H.size → ¬ Fr G q → H1[q]? = H[q]?) → Holds G M1 H1 → va_S (LH s) s.heap H1 locs1 → W p l e room_1 s m #[Value.ref b] below meth c H1 locs1 cs ss Q (F0 m (pc + 3) ls ((r.map (ph G)).toList ++ st))) :
    W p l e room_1 s m #[Value.ref b] below meth c H locs cs ss Q (F0 m pc ls stk) := by
  obtain ⟨hx, hb, hml, hown, hts, -, -⟩ := id hF
  obtain ⟨hK, hZ, hG, hA⟩ := hO
  obtain ⟨y1, y2, y3, y4, y5, y6, y7, y8⟩ := hY
  have hat := (hH.1 k a hl).no (nt_obj hkd)
  rw [ent_obj hkd] at hat
  have hgood : GoodIn gw (Cond.code y bytes maxL ret' :: gw) := fun w hw => by
    rcases List.mem_cons.mp hw with e | hw
    · subst e; exact ⟨y3, good_of_word (List.mem_filter.mp y3).2⟩
    · exact ⟨hw, good_of_word (List.mem_filter.mp hw).2⟩
  have hrun : va_Run p l e room_1 s m #[Value.ref b] below meth c H locs cs ss 0 0 (F0 m pc ls stk) st (QR G r M1 (Value.ref (G.2.2.1 k a) :: as.map (ph G)).toArray) (fun q => Fr G q ∨ H.size ≤ q) :=
    va_runV (As := as.map (ph G)) (n := n) ⟨hx, hb, hml, hown, hts⟩ (hM H.size) ⟨callB_of n hts hgood rfl hrm.1 hrm.2.1 (hts _ y4) (hts _ hlink) ⟨y5, y6, y7⟩ hrm.2.2, hts _ y1, hts _ y2⟩ ⟨PA.blind _ _ _ _, va_recv (q0 := 0) hK (va_one hat) hc rfl, fun U hU hW => ⟨PC.at hH hK hZ (fun q h1 _ => hS.2.1 q h1 (Nat.not_le.mpr h1)) hU hW, by rw [hU]⟩⟩ rfl (by rw [List.length_map]; exact hn) hL.1 hs (lv_room hcat) d hcs
  intro T hT X
  obtain ⟨v, st₀, t1, T', L', h0, X', hL', e1, e2, ⟨hv, hH1, hz, hk⟩, hst⟩ := hrun T hT X
  cases hv
  rw [h0] at hz hk
  have hS1 : va_S (LH s) s.heap T'.heap (locs ++ L') := ⟨Nat.le_trans hS.1 (by rw [e1]; exact hz), fun q h1 h2 => by rw [e1, hk q (Nat.lt_of_lt_of_le h1 hS.1) (fun z => h2 (hA q z))]; exact hS.2.1 q h1 h2, fun q hq => by
      rcases List.mem_append.mp hq with h | h
      · exact hS.2.2 q h
      · exact (hL' q h).elim (hA q.base) (fun z => Nat.le_trans hS.1 z)⟩
  obtain ⟨t2, a1, b1⟩ := kk T'.heap (locs ++ L') (by rw [e1]; exact hz) (fun q hq hf => by rw [e1]; exact hk q hq hf) (by rw [e1]; exact hH1) hS1 T' rfl X'
  exact ⟨t2, hst t2 a1, b1⟩
/-- a call that may make a world -/
theorem lc_X (hF : LF p s m c b L xs) (hO : OB s G) {y : MethodName} {bytes : ByteArray} {maxL n : Nat} {rm' : Room} (hY : YV y bytes maxL (some .int) n) {index : Nat} (hlink : Cond.methodLink "FrameHeirsLaw" index y ∈ gw) (as : List AV) (hn : as.length = n) (hl : G.2.2.2 k a) {ci : Nat} {csx : List (Nat × Nat)} {T : u_T} {N : Nat} (hkd : kd a = .inr (ci, csx)) (hc : vwc[ci]? = some (y.cls, T, N)) {t : Int32 × Nat × Mem}
    (hM : MtX l y bytes maxL rm' G (.inr (k, a) :: as) M t) (hrm : rm'.cells = KC ∧ rm'.slots = KS ∧ rm'.frames + 1 ≤ 11 ∧ 8 + (maxL + 11) + rm'.locals ≤ 466) {st stk : List Value} (hcat : (st.map fun v => v.category).sum ≤ 8) (hcs : cs + KC ≤ 601024 ∧ ss + KS ≤ 7293034) (hL : lv_has ls 7 lv) (hH : Holds G M H) (hS : va_S (LH s) s.heap H locs) (d : decode code pc = .ok (.invokevirtual index, 3)) (hs : stk = (as.map (ph G)).reverse ++ .ref (G.2.2.1 k a) :: st)
    (kk : ∀ H1 locs1 G1 L1, H.size ≤ H1.size → (∀ q, q < H.size → ¬ Fr G q → H1[q]? = H[q]?) → GE H.size G G1 L1 → (∀ q ∈ L1, q.2 < 48) → GX G1 t.2.1 → GOk G1 → Holds G1 t.2.2 H1 → va_S (LH s) s.heap H1 locs1 → W p l e room_1 s m #[Value.ref b] below meth c H1 locs1 (cs + KC) (ss + KS) Q (F0 m (pc + 3) ls (.int t.1 :: st))) :
    W p l e room_1 s m #[Value.ref b] below meth c H locs cs ss Q (F0 m pc ls stk) := by
  obtain ⟨hx, hb, hml, hown, hts, -, -⟩ := id hF
  obtain ⟨hK, hZ, hG, hA⟩ := hO
  obtain ⟨y1, y2, y3, y4, y5, y6, y7, y8⟩ := hY
  have hat := (hH.1 k a hl).no (nt_obj hkd)
  rw [ent_obj hkd] at hat
  have hgood : GoodIn gw (Cond.code y bytes maxL (some .int) :: gw) := fun w hw => by
    rcases List.mem_cons.mp hw with e | hw
    · subst e; exact ⟨y3, good_of_word (List.mem_filter.mp y3).2⟩
    · exact ⟨hw, good_of_word (List.mem_filter.mp hw).2⟩
  have hrun : va_Run p l e room_1 s m #[Value.ref b] below meth c H locs cs ss KC KS (F0 m pc ls stk) st (QX G H.size t (Value.ref (G.2.2.1 k a) :: as.map (ph G)).toArray) (fun q => Fr G q ∨ H.size ≤ q) :=
    va_runV (As := as.map (ph G)) (n := n) ⟨hx, hb, hml, hown, hts⟩ (hM H.size) ⟨callB_of n hts hgood rfl hrm.1 hrm.2.1 (hts _ y4) (hts _ hlink) ⟨y5, y6, y7⟩ hrm.2.2, hts _ y1, hts _ y2⟩ ⟨PA.blind _ _ _ _, va_recv (q0 := 0) hK (va_one hat) hc rfl, fun U hU hW => ⟨PC.at hH hK hZ (fun q h1 _ => hS.2.1 q h1 (Nat.not_le.mpr h1)) hU hW, by rw [hU]⟩⟩ rfl (by rw [List.length_map]; exact hn) hL.1 hs (lv_room hcat) d hcs
  intro T hT X
  obtain ⟨v, st₀, t1, T', L', h0, X', hL', e1, e2, ⟨hv, ⟨G1, L1, hE, h48, hX1, hG1, hH1⟩, hz, hk⟩, hst⟩ := hrun T hT X
  cases hv
  rw [h0] at hz hk
  have hk2 : ∀ q, q < H.size → ¬ Fr G q → t1.heap[q]? = H[q]? := fun q hq hf => hk q hq (fun z => z.elim hf (fun z => by omega))
  have hS1 : va_S (LH s) s.heap T'.heap (locs ++ L') := ⟨Nat.le_trans hS.1 (by rw [e1]; exact hz), fun q h1 h2 => by rw [e1, hk2 q (Nat.lt_of_lt_of_le h1 hS.1) (fun z => h2 (hA q z))]; exact hS.2.1 q h1 h2, fun q hq => by
      rcases List.mem_append.mp hq with h | h
      · exact hS.2.2 q h
      · exact (hL' q h).elim (hA q.base) (fun z => Nat.le_trans hS.1 z)⟩
  obtain ⟨t2, a1, b1⟩ := kk T'.heap (locs ++ L') G1 L1 (by rw [e1]; exact hz) (fun q hq hf => by rw [e1]; exact hk2 q hq hf) hE h48 hX1 hG1 (by rw [e1]; exact hH1) hS1 T' rfl X'
  exact ⟨t2, hst t2 a1, b1⟩
variable {D : va_G} {cA : ClassId} {qo n0 : Nat} {μ μ1 : Sl} {Gx Gm : Geo}
/-- the law asks x -/
theorem lw_q (hF : LF p s m c b L xs) (hLS : LWS s D cA qo n0 M μ Gx Gm H locs) {y : MethodName} {bytes : ByteArray} {maxL n : Nat} {rm' : Room} (hY : YV y bytes maxL (some .int) n) {index : Nat} (hlink : Cond.methodLink "FrameHeirsLaw" index y ∈ gw) (as : List AV) (hn : as.length = n) (hcl : y.cls = "FrameHeirs") {r : Int32}
    (hM : Mt l y bytes maxL (some .int) rm' Gx (.inr (0, 0) :: as) M (avI r) M1) (hrm : rm'.cells = 0 ∧ rm'.slots = 0 ∧ rm'.frames + 1 ≤ 11 ∧ 8 + (maxL + 11) + rm'.locals ≤ 466) {st stk : List Value} (hcat : (st.map fun v => v.category).sum ≤ 8) (hcs : cs ≤ 601024 ∧ ss ≤ 7293034) (hL : lv_has ls 7 lv) (d : decode code pc = .ok (.invokevirtual index, 3)) (hs : stk = (as.map (ph Gx)).reverse ++ .ref (Gx.2.2.1 0 0) :: st)
    (kk : ∀ H1 locs1, LWS s D cA qo n0 M1 μ Gx Gm H1 locs1 → W p l e room_1 s m #[Value.ref b] below meth c H1 locs1 cs ss Q (F0 m (pc + 3) ls (.int r :: st))) :
    W p l e room_1 s m #[Value.ref b] below meth c H locs cs ss Q (F0 m pc ls stk) := by
  obtain ⟨⟨a1, a2, a3, a4, a5⟩, hb, hc2, hd, he⟩ := id hLS
  exact lc_V hF a1 hY hlink as hn ((a2 0 0).mpr (by unfold xcell; omega)) (a := 0) rfl (by rw [hcl]; rfl) hM hrm hcat hcs hL a4 he d hs (fun H1 locs1 h1 h2 h3 h4 => kk H1 locs1 (ls_x hLS h1 h2 h3 h4))
theorem lw_k (hF : LF p s m c b L xs) (hLS : LWS s D cA qo n0 M μ Gx Gm H locs) {y : MethodName} {bytes : ByteArray} {maxL n : Nat} {rm' : Room} (hY : YV y bytes maxL (some .int) n) {index : Nat} (hlink : Cond.methodLink "FrameHeirsLaw" index y ∈ gw) (as : List AV) (hn : as.length = n) (hcl : y.cls = "FrameHeirs") {t : Int32 × Nat × Mem} (hn1 : 2 ≤ t.2.1)
    (hM : MtX l y bytes maxL rm' Gx (.inr (0, 0) :: as) M t) (hrm : rm'.cells = KC ∧ rm'.slots = KS ∧ rm'.frames + 1 ≤ 11 ∧ 8 + (maxL + 11) + rm'.locals ≤ 466) {st stk : List Value} (hcat : (st.map fun v => v.category).sum ≤ 8) (hcs : cs + KC ≤ 601024 ∧ ss + KS ≤ 7293034) (hL : lv_has ls 7 lv) (d : decode code pc = .ok (.invokevirtual index, 3)) (hs : stk = (as.map (ph Gx)).reverse ++ .ref (Gx.2.2.1 0 0) :: st)
    (kk : ∀ H1 locs1 G1, LWS s D cA qo t.2.1 t.2.2 μ G1 Gm H1 locs1 → G1.2.2.1 0 0 = Gx.2.2.1 0 0 → W p l e room_1 s m #[Value.ref b] below meth c H1 locs1 (cs + KC) (ss + KS) Q (F0 m (pc + 3) ls (.int t.1 :: st))) :
    W p l e room_1 s m #[Value.ref b] below meth c H locs cs ss Q (F0 m pc ls stk) := by
  obtain ⟨⟨a1, a2, a3, a4, a5⟩, hb, hc2, hd, he⟩ := id hLS
  exact lc_X hF a1 hY hlink as hn ((a2 0 0).mpr (by unfold xcell; omega)) (a := 0) rfl (by rw [hcl]; rfl) hM hrm hcat hcs hL a4 he d hs (fun H1 locs1 G1 L1 h1 h2 h3 h4 h5 h6 h7 h8 => by
    obtain ⟨g1, g2⟩ := ls_k hLS h1 h2 h3 h4 h5 hn1 h6 h7 h8
    exact kk H1 locs1 G1 g1 g2)
/-- the law asks the model -/
theorem lw_m (hF : LF p s m c b L xs) (hLS : LWS s D cA qo n0 M μ Gx Gm H locs) {y : MethodName} {bytes : ByteArray} {maxL n : Nat} {rm' : Room} (hY : YV y bytes maxL (some .int) n) {index : Nat} (hlink : Cond.methodLink "FrameHeirsLaw" index y ∈ gw) (as : List AV) (hn : as.length = n) (hcl : y.cls = "FrameHeirsModel") {r : Int32}
    (hM : Mt l y bytes maxL (some .int) rm' Gm (.inr (0, 34) :: as) (setS zM 0 μ) (avI r) (setS zM 0 μ1)) (hrm : rm'.cells = 0 ∧ rm'.slots = 0 ∧ rm'.frames + 1 ≤ 11 ∧ 8 + (maxL + 11) + rm'.locals ≤ 466) {st stk : List Value} (hcat : (st.map fun v => v.category).sum ≤ 8) (hcs : cs ≤ 601024 ∧ ss ≤ 7293034) (hL : lv_has ls 7 lv) (d : decode code pc = .ok (.invokevirtual index, 3)) (hs : stk = (as.map (ph Gm)).reverse ++ .ref (Gm.2.2.1 0 34) :: st)
    (kk : ∀ H1 locs1, LWS s D cA qo n0 M μ1 Gx Gm H1 locs1 → W p l e room_1 s m #[Value.ref b] below meth c H1 locs1 cs ss Q (F0 m (pc + 3) ls (.int r :: st))) :
    W p l e room_1 s m #[Value.ref b] below meth c H locs cs ss Q (F0 m pc ls stk) := by
  obtain ⟨ha, ⟨b1, b2, b3⟩, hc2, hd, he⟩ := id hLS
  exact lc_V hF b1 hY hlink as hn (b2 34 rfl) (a := 34) rfl (by rw [hcl]; rfl) hM hrm hcat hcs hL b3 he d hs (fun H1 locs1 h1 h2 h3 h4 => kk H1 locs1 (ls_m hLS h1 h2 h3 h4))
theorem lw_m2 (hF : LF p s m c b L xs) (hLS : LWS s D cA qo n0 M μ Gx Gm H locs) {y : MethodName} {bytes : ByteArray} {maxL n : Nat} {rm' : Room} (hY : YV y bytes maxL (some .int) n) {index : Nat} (hlink : Cond.methodLink "FrameHeirsLaw" index y ∈ gw) (as : List AV) (hn : as.length = n) (hcl : y.cls = "FrameHeirsModel") {r : Int32}
    (hM : Mt l y bytes maxL (some .int) rm' Gm (.inr (0, 34) :: as) (setS zM 0 μ) (avI r) (setS zM 0 μ1)) (hrm : rm'.cells = 0 ∧ rm'.slots = 0 ∧ rm'.frames + 1 ≤ 11 ∧ 8 + (maxL + 11) + rm'.locals ≤ 466) {st stk : List Value} (hcat : (st.map fun v => v.category).sum ≤ 8) (hcs : cs ≤ 601024 ∧ ss ≤ 7293034) (hL : lv_has ls 7 lv) (d : decode code pc = .ok (.invokevirtual index, 3)) (hs : stk = (as.map (ph Gm)).reverse ++ .ref (Gm.2.2.1 0 34) :: st)
    (kk : ∀ H1 locs1, LWS s D cA qo n0 M μ1 Gx Gm H1 locs1 → (∀ q, q < H.size → ¬ Fr Gm q → H1[q]? = H[q]?) → W p l e room_1 s m #[Value.ref b] below meth c H1 locs1 cs ss Q (F0 m (pc + 3) ls (.int r :: st))) :
    W p l e room_1 s m #[Value.ref b] below meth c H locs cs ss Q (F0 m pc ls stk) := by
  obtain ⟨ha, ⟨b1, b2, b3⟩, hc2, hd, he⟩ := id hLS
  exact lc_V hF b1 hY hlink as hn (b2 34 rfl) (a := 34) rfl (by rw [hcl]; rfl) hM hrm hcat hcs hL b3 he d hs (fun H1 locs1 h1 h2 h3 h4 => kk H1 locs1 (ls_m hLS h1 h2 h3 h4) h2)
end LAW
