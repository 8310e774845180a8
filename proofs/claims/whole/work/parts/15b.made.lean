/-! ===== constructors: the new object gets its own kind; calls behind things that were made ===== -/
/-- from G, in which an object that is being made is (k, a), to G1, in which it is (k, b), and its parts L are there -/
def GEL (n0 : Nat) (G G1 : Geo) (k a b : Nat) (L : List (Nat × Nat)) : Prop := ∃ G', GE n0 G G' L ∧ GL G' G1 k a b
theorem GL.fr {G G1 : Geo} {k a b : Nat} (h : GL G G1 k a b) (ha : a < 48 ∨ 60 ≤ a) {q : Nat} (hq : Fr G1 q) : Fr G q := by
  obtain ⟨k', a', h1, h2, h3⟩ := hq
  by_cases e : k' = k ∧ a' = b
  · refine ⟨k, a, h.2.2.2.2.2.2, ha, ?_⟩
    rw [h3, e.1, e.2, h.2.2.2.2.1]
  · rcases (h.2.2.1 k' a').mp h1 with g | g
    · exact absurd g e
    · exact ⟨k', a', g.1, h2, by rw [h3, h.2.2.2.1 k' a' e]⟩
theorem GL.fr2 {G G1 : Geo} {k a b : Nat} (h : GL G G1 k a b) (hb : b < 48 ∨ 60 ≤ b) {q : Nat} (hq : Fr G q) : Fr G1 q := by
  obtain ⟨k', a', h1, h2, h3⟩ := hq
  by_cases e : k' = k ∧ a' = a
  · refine ⟨k, b, (h.2.2.1 k b).mpr (Or.inl ⟨rfl, rfl⟩), hb, ?_⟩
    rw [h3, e.1, e.2, h.2.2.2.2.1]
  · have hnb : ¬ (k' = k ∧ a' = b) := fun e2 => h.2.2.2.2.2.1 (by rw [← e2.1, ← e2.2]; exact h1)
    exact ⟨k', a', (h.2.2.1 k' a').mpr (Or.inr ⟨h1, e⟩), h2, by rw [h3, h.2.2.2.1 k' a' hnb]⟩
theorem GL.ok {G G1 : Geo} {k a b : Nat} (h : GL G G1 k a b) (hG : GOk G) : GOk G1 := by
  -- each cell of G1 is one of G
  have back : ∀ k' a', G1.2.2.2 k' a' → ∃ a'', G.2.2.2 k' a'' ∧ G1.2.2.1 k' a' = G.2.2.1 k' a'' ∧ ((k' = k ∧ a' = b ∧ a'' = a) ∨ (a'' = a' ∧ ¬ (k' = k ∧ a' = b) ∧ ¬ (k' = k ∧ a' = a))) := by
    intro k' a' hl
    by_cases e : k' = k ∧ a' = b
    · refine ⟨a, by rw [e.1]; exact h.2.2.2.2.2.2, by rw [e.1, e.2]; exact h.2.2.2.2.1, Or.inl ⟨e.1, e.2, rfl⟩⟩
    · rcases (h.2.2.1 k' a').mp hl with g | g
      · exact absurd g e
      · exact ⟨a', g.1, h.2.2.2.1 k' a' e, Or.inr ⟨rfl, e, g.2⟩⟩
  refine ⟨fun k1 a1 k2 a2 h1 h2 e => ?_, fun k1 a1 h1 => ?_⟩
  · obtain ⟨b1, g1, e1, c1⟩ := back k1 a1 h1
    obtain ⟨b2, g2, e2, c2⟩ := back k2 a2 h2
    rw [e1, e2] at e
    obtain ⟨hk, hb⟩ := hG.1 k1 b1 k2 b2 g1 g2 e
    refine ⟨hk, ?_⟩
    subst hk
    rcases c1 with ⟨d1, d2, d3⟩ | ⟨d1, d2, d3⟩ <;> rcases c2 with ⟨f1, f2, f3⟩ | ⟨f1, f2, f3⟩
    · rw [d2, f2]
    · exact absurd ⟨d1, by rw [← f1, ← hb, d3]⟩ f3
    · exact absurd ⟨f1, by rw [← d1, hb, f3]⟩ d3
    · rw [← d1, ← f1, hb]
  · obtain ⟨b1, g1, -⟩ := back k1 a1 h1
    exact hG.2 k1 b1 g1
theorem Cx.rel {C : Cxt} {cc : ByteArray} {nL : Nat} {own : String} {ret : Option FieldType} {rm : Room} {G G1 : Geo} {k a b : Nat} (hC : Cx C cc nL own ret rm G) (h : GL G G1 k a b) (ha : 60 ≤ a) (hb : b < 48) : Cx C cc nL own ret rm G1 := by
  obtain ⟨hx, hbb, hml, hown, hts, hK, hG, hlk, hr, hR, hZ⟩ := hC
  refine ⟨hx, hbb, hml, hown, hts, ?_, h.ok hG, hlk, hr, hR, ⟨fun kq q h1 h2 h3 => ?_, hZ.2⟩⟩
  · unfold KOk at *
    rw [h.1, h.2.1]; exact hK
  · have hnb : ¬ (kq = k ∧ q = b) := fun e => by omega
    rcases (h.2.2.1 kq q).mp h3 with g | g
    · exact absurd g hnb
    · rw [h.2.2.2.1 kq q hnb, h.2.1]
      exact ⟨va_Z_fr (hZ.1 kq q h1 h2 g.1).1 (fun p _ hp => h.fr (Or.inr ha) hp), (hZ.1 kq q h1 h2 g.1).2⟩
/-- in locals and stack the object that was being made is now one of its kind -/
def rlv (a b : Nat) (v : AV) : AV := match v with
  | .inl w => .inl w
  | .inr q => if q.2 = a then .inr (q.1, b) else .inr q
def rlo (k a b : Nat) (v : AV) : Prop := match v with
  | .inl _ => True
  | .inr q => (q.2 = a → q.1 = k) ∧ q.2 ≠ b
theorem ph_rel {G G1 : Geo} {k a b : Nat} (h : GL G G1 k a b) {v : AV} (hv : rlo k a b v) : ph G1 (rlv a b v) = ph G v := by
  rcases v with v | ⟨k', a'⟩
  · rfl
  · unfold rlv
    by_cases e : a' = a
    · have hk : k' = k := hv.1 e
      subst hk; subst e
      simp only [if_true]
      show Value.ref _ = Value.ref _
      rw [h.2.2.2.2.1]
    · simp only [if_neg e]
      show Value.ref _ = Value.ref _
      rw [h.2.2.2.1 k' a' (fun z => hv.2 z.2)]
section ZP
variable {C : Cxt} {cc : ByteArray} {nL : Nat} {own : String} {ret : Option FieldType} {rm : Room} {G G0 : Geo} {τ : Type} {Qt : τ → State → Prop} {cs ss : Nat} {pc : Nat} {ls ls1 : List (Nat × AV)} {st st1 stk : List AV} {x0 : Mem} {P : Option τ} {k a b : Nat}
theorem zn_rel (hC : Cx C cc nL own ret rm G) (hl : G.2.2.2 k a) (hnl : ¬ G.2.2.2 k b) (ha : 60 ≤ a) (hb48 : b < 48) {ci : Nat} {csx : List (Nat × Nat)} (hkb : kd b = .inr (ci, csx)) (hka : kd a = .inr (ci, csraw csx)) (hc4 : ∀ c ∈ csx, c.1 < 4) (hls : ls.map (fun q => (q.1, rlv a b q.2)) = ls1) (hst : st.map (rlv a b) = st1) (hlo : ∀ q ∈ ls, rlo k a b q.2) (hso : ∀ v ∈ st, rlo k a b v) {K : Mem → Option τ}
    (kk : ∀ G1 y, GL G G1 k a b → Cx C cc nL own ret rm G1 → Rg C nL G1 cs ss gm Qt pc ls1 st1 y (K y)) : Rg C nL G cs ss gm Qt pc ls st x0 (if cdone csx (x0 k a) then bnd (wrAM x0 k b (x0 k a)) K else none) := by
  intro t hP H locs lsA hH hS hL
  by_cases hd : cdone csx (x0 k a)
  · rw [if_pos hd] at hP
    have hR := relG_gl (G := G) hnl hl
    have m1 : ls1.map (phl (relG G k a b)) = ls.map (phl G) := by
      rw [← hls, List.map_map]
      exact List.map_congr_left fun q hq => by
        show (q.1, ph _ (rlv a b q.2)) = (q.1, ph G q.2)
        rw [ph_rel hR (hlo q hq)]
    have m2 : st1.map (ph (relG G k a b)) = st.map (ph G) := by
      rw [← hst, List.map_map]
      exact List.map_congr_left fun v hv => ph_rel hR (hso v hv)
    have := kk (relG G k a b) _ hR (hC.rel hR ha hb48) t hP H locs lsA (hH.rel hR ha hkb hka hc4 (fun k' a' h => wrAM_ne _ _ _ _ _ _ h) (wrAM_at _ _ _ _) hd) ⟨hS.1, fun q h1 h2 => hS.2.1 q h1 (fun z => h2 (z.imp (hR.fr2 (Or.inl hb48)) id)), fun q hq => (hS.2.2 q hq).imp (hR.fr2 (Or.inl hb48)) id⟩ (by rw [m1]; exact hL)
    rw [m2] at this
    exact this
  · rw [if_neg hd] at hP; cases hP
/-- the contract of a constructor -/
def QC (G : Geo) (k a b : Nat) (L : List (Nat × Nat)) (sz : Nat) (M1 : Mem) : Array Value → State → Outcome → State → Prop := fun _ st o t => o = .returned none ∧ (∃ G1, GEL sz G G1 k a b L ∧ GOk G1 ∧ Holds G1 M1 t.heap) ∧ va_F (fun q => Fr G q ∨ sz ≤ q) st t
def MtC (l : Launch) (y : MethodName) (bytes : ByteArray) (maxL : Nat) (rm : Room) (G : Geo) (k a b : Nat) (as : List AV) (M : Mem) (L : List (Nat × Nat)) (mc ms : Nat) (M1 : Mem) : Prop :=
  ∀ sz, Met l y (Cond.code y bytes maxL none :: gw) rm (PA G (.inr (k, a) :: as) M sz) (QC G k a b L sz M1) mc ms (fun q => Fr G q ∨ sz ≤ q)
def QK (C : Cxt) (G : Geo) (k a b : Nat) (L : List (Nat × Nat)) (mc ms : Nat) (t : Unit × Mem) : State → Prop := MQ C.2.2.2.2.2.2.2.1 (QC G k a b L C.2.2.2.2.1.heap.size t.2) C.2.2.2.2.2.2.1 C.2.2.2.2.1 mc ms (fun q => Fr G q ∨ C.2.2.2.2.1.heap.size ≤ q)
theorem zk_vret {L : List (Nat × Nat)} (hC : Cx C cc nL own none rm G) (ha : a < 48 ∨ 60 ≤ a) (hE : GEL C.2.2.2.2.1.heap.size G0 G k a b L) (d : decode cc pc = .ok (.return_, 1)) : Rg C nL G cs ss gm (QK C G0 k a b L cs ss) pc ls [] x0 (some ((), x0)) := by
  intro t hP H locs lsA hH hS hL
  cases hP
  have hfr : ∀ q, Fr G q → Fr G0 q ∨ C.2.2.2.2.1.heap.size ≤ q := by
    obtain ⟨G', h1, h2⟩ := hE
    exact fun q hq => h1.fr' (h2.fr ha hq)
  unfold QK
  refine W.vret hC.1 hC.2.1 hC.2.2.2.2.2.2.2.2.1 (fun t ht _ => ⟨rfl, ⟨G, hE, hC.2.2.2.2.2.2.1, by rw [ht]; exact hH⟩, by rw [ht]; exact hS.1, fun q h1 h2 => by
    rw [ht]
    refine Fa.kept hS q h1 (fun z => ?_)
    rcases hfr q z with h | h
    · exact h2 (Or.inl h)
    · omega⟩) (fun q hq => (hS.2.2 q hq).elim (hfr q.base) Or.inr) d hC.2.2.2.2.2.2.2.1
theorem mtC_of {l : Launch} {y : MethodName} {maxL : Nat} {x1 : Mem} {P : Option (Unit × Mem)} {L : List (Nat × Nat)} {mc ms : Nat} (hy : plainName y.cls = true) (hyn : y.name = "<init>") (hG : GOk G) (as : List AV) (hlen : (lg_sl ((.inr (k, a) :: as).map (ph G))).length ≤ maxL) (hls : lv_args 0 ((.inr (k, a) :: as).map (ph G)) = ls.map (phl G))
    (body : ∀ C, Cx C cc maxL y.cls none rm G → C.2.2.2.2.2.2.2.2.1.name = "<init>" → Rg C maxL G 0 0 gm (QK C G k a b L mc ms) 0 ls [] x0 P) (hP : P = some ((), x1)) : MtC l y cc maxL rm G k a b as x0 L mc ms x1 := by
  intro sz
  refine Met.ofW (cc := cc) (maxL := maxL) (ret := none) hy rfl ?_
  intro p e s m args below meth c s₁ B hml hv
  obtain ⟨⟨rfl, hH, hK, hZ⟩, hsz⟩ := hv
  subst hsz
  have hts := atoms_spec (ws := Cond.code y cc maxL none :: gw) B.pre
  have hl := lv_entry ((.inr (k, a) :: as).map (ph G)) (n := maxL) hlen
  rw [lg_entry_eq]
  generalize (lg_sl ((.inr (k, a) :: as).map (ph G)) ++ List.replicate (maxL - (lg_sl ((.inr (k, a) :: as).map (ph G))).length) Slot.unset).toArray = lsA at hl ⊢
  rw [hls] at hl
  exact body (p, l, e, rm, s, m, ((.inr (k, a) :: as).map (ph G)).toArray, below, meth, c) ⟨B.exec, B.bytes, hml, findClass_of_methodNamed B.named, fun w hw => hts w (List.mem_cons_of_mem _ hw), hK, hG, B.notSynchronized, B.returns, rfl, hZ⟩ ((name_of_methodNamed B.named B.method).1.trans hyn) ((), x1) hP s.heap [] lsA hH va_S.rf hl
def MtCa (l : Launch) (y : MethodName) (bytes : ByteArray) (maxL : Nat) (rm : Room) (G : Geo) (k a b : Nat) (as : List AV) (M : Mem) (L : List (Nat × Nat)) (mc ms : Nat) (M1 : Mem) : Prop :=
  ∀ sz, Met l y (Cond.code y bytes maxL none :: gw) rm (fun v U => PA G (.inr (k, a) :: as) M sz v U ∧ va_AO RX4 U) (QC G k a b L sz M1) mc ms (fun q => Fr G q ∨ sz ≤ q)
theorem mtCa_of {l : Launch} {y : MethodName} {maxL : Nat} {x1 : Mem} {P : Option (Unit × Mem)} {L : List (Nat × Nat)} {mc ms : Nat} (hy : plainName y.cls = true) (hyn : y.name = "<init>") (hG : GOk G) (as : List AV) (hlen : (lg_sl ((.inr (k, a) :: as).map (ph G))).length ≤ maxL) (hls : lv_args 0 ((.inr (k, a) :: as).map (ph G)) = ls.map (phl G))
    (body : ∀ C, Cx C cc maxL y.cls none rm G → C.2.2.2.2.2.2.2.2.1.name = "<init>" → va_AO RX4 C.2.2.2.2.1 → Rg C maxL G 0 0 gm (QK C G k a b L mc ms) 0 ls [] x0 P) (hP : P = some ((), x1)) : MtCa l y cc maxL rm G k a b as x0 L mc ms x1 := by
  intro sz
  refine Met.ofW (cc := cc) (maxL := maxL) (ret := none) hy rfl ?_
  intro p e s m args below meth c s₁ B hml hv
  obtain ⟨⟨⟨rfl, hH, hK, hZ⟩, hsz⟩, hao⟩ := hv
  subst hsz
  have hts := atoms_spec (ws := Cond.code y cc maxL none :: gw) B.pre
  have hl := lv_entry ((.inr (k, a) :: as).map (ph G)) (n := maxL) hlen
  rw [lg_entry_eq]
  generalize (lg_sl ((.inr (k, a) :: as).map (ph G)) ++ List.replicate (maxL - (lg_sl ((.inr (k, a) :: as).map (ph G))).length) Slot.unset).toArray = lsA at hl ⊢
  rw [hls] at hl
  exact body (p, l, e, rm, s, m, ((.inr (k, a) :: as).map (ph G)).toArray, below, meth, c) ⟨B.exec, B.bytes, hml, findClass_of_methodNamed B.named, fun w hw => hts w (List.mem_cons_of_mem _ hw), hK, hG, B.notSynchronized, B.returns, rfl, hZ⟩ ((name_of_methodNamed B.named B.method).1.trans hyn) hao ((), x1) hP s.heap [] lsA hH va_S.rf hl
theorem GEL.fr {n0 : Nat} {G1 : Geo} {L : List (Nat × Nat)} (h : GEL n0 G G1 k a b L) (hb : b < 48 ∨ 60 ≤ b) {q : Nat} (hq : Fr G q) : Fr G1 q := by
  obtain ⟨G', h1, h2⟩ := h
  exact h2.fr2 hb (h1.fr hq)
theorem GEL.mono {n0 n1 : Nat} {G1 : Geo} {L : List (Nat × Nat)} (h : GEL n1 G G1 k a b L) (hn : n0 ≤ n1) : GEL n0 G G1 k a b L := by
  obtain ⟨G', h1, h2⟩ := h
  exact ⟨G', h1.mono hn, h2⟩
theorem ph_gel {n0 : Nat} {G1 : Geo} {L : List (Nat × Nat)} (h : GEL n0 G G1 k a b L) {v : AV} (hl : lvA G v) (hv : rlo k a b v) : ph G1 (rlv a b v) = ph G v := by
  obtain ⟨G', h1, h2⟩ := h
  rw [ph_rel h2 hv, ph_ext h1 hl]
/-- a constructor is called on an object that was made (k, a); behind it it is (k, b), its parts L are there -/
theorem zk_init {o : Option (Unit × Mem)} {K : Mem → Option τ} {L : List (Nat × Nat)} {mc ms : Nat} (hC : Cx C cc nL own ret rm G) {y : MethodName} {bytes : ByteArray} {maxL n : Nat} {rm' : Room} (hY : YI y bytes maxL n) {index : Nat} (hlink : Cond.methodLink own index y ∈ gw ∨ ∃ host, ∀ U, NkOk U → va_Nw (.methodLinkNest own index y host) U) (as : List AV) (hn : as.length = n)
    (hM : ∀ l x1, o = some ((), x1) → MtC l y bytes maxL rm' G k a b as x0 L mc ms x1) (hs : stk = as.reverse ++ .inr (k, a) :: st) (ha : 60 ≤ a) (hb48 : b < 48) (hL48 : ∀ q ∈ L, q.2 < 48 ∨ 60 ≤ q.2) (hlv : ∀ q ∈ ls, lvA G q.2 ∧ rlo k a b q.2) (hlst : ∀ v ∈ st, lvA G v ∧ rlo k a b v) (hls1 : ls.map (fun q => (q.1, rlv a b q.2)) = ls1) (hst1 : st.map (rlv a b) = st1)
    (hrm : rm'.cells = mc ∧ rm'.slots = ms ∧ rm'.frames + 1 ≤ rm.frames ∧ 8 + (maxL + 11) + rm'.locals ≤ rm.locals) (hcs : cs + mc ≤ rm.cells ∧ ss + ms ≤ rm.slots) (hcat : (st.map cat).sum ≤ 8) (d : decode cc pc = .ok (.invokespecial index, 3))
    (kk : ∀ G1 y, GEL C.2.2.2.2.1.heap.size G G1 k a b L → Cx C cc nL own ret rm G1 → Rg C nL G1 (cs + mc) (ss + ms) gm Qt (pc + 3) ls1 st1 y (K y)) : Rg C nL G cs ss gm Qt pc ls stk x0 (bd o (fun _ x1 => K x1)) := by
  intro t hP H locs lsA hH hS hL
  cases ho : o with
  | none => rw [ho] at hP; cases hP
  | some q =>
    obtain ⟨⟨⟩, x1⟩ := q
    rw [ho] at hP
    obtain ⟨hx, hb, hml, hown, hts, hK, hG, -, -, hR, hZ⟩ := id hC
    obtain ⟨y1, y2, y3, y4, y5, y6, y7, y8⟩ := hY
    have hMet := hM C.2.1 x1 ho H.size
    have hpre : PreS C.2.2.2.2.1 H (PA G (.inr (k, a) :: as) x0 H.size) (.ref (G.2.2.1 k a) :: as.map (ph G)) := ⟨PA.blind _ _ _ _, fun U hU hW => ⟨PC.at hH hK hZ (Fa.kept hS) hU hW, by rw [hU]⟩⟩
    have hgood : GoodIn gw (Cond.code y bytes maxL none :: gw) := fun w hw => by
      rcases List.mem_cons.mp hw with e | hw
      · subst e; exact ⟨y3, good_of_word (List.mem_filter.mp y3).2⟩
      · exact ⟨hw, good_of_word (List.mem_filter.mp hw).2⟩
    have hstk : stk.map (ph G) = (as.map (ph G)).reverse ++ .ref (G.2.2.1 k a) :: st.map (ph G) := by
      rw [hs, List.map_append, List.map_reverse]; rfl
    have hrun : va_Run C.1 C.2.1 C.2.2.1 C.2.2.2.1 C.2.2.2.2.1 C.2.2.2.2.2.1 C.2.2.2.2.2.2.1 C.2.2.2.2.2.2.2.1 C.2.2.2.2.2.2.2.2.1 C.2.2.2.2.2.2.2.2.2 H locs cs ss mc ms (F0 C.2.2.2.2.2.1 pc lsA (stk.map (ph G))) (st.map (ph G)) (QC G k a b L H.size x1 (Value.ref (G.2.2.1 k a) :: as.map (ph G)).toArray) (fun q => Fr G q ∨ H.size ≤ q) := by
      rcases hlink with hlink | ⟨host, hlink⟩
      · exact va_runI (As := as.map (ph G)) (n := n) ⟨hx, hb, hml, hown, hts⟩ hMet ⟨callB_of n hts hgood rfl hrm.1 hrm.2.1 (hts _ y4) (hts _ hlink) ⟨y5, y6, y7⟩ (by rw [hR]; exact hrm.2.2), y2, hts _ y1⟩ hpre rfl (by rw [List.length_map]; exact hn) hL.1 hstk (lv_room (by rw [cat_sum]; exact hcat)) d ⟨by rw [hR]; exact hcs.1, by rw [hR]; exact hcs.2⟩
      · exact va_runIN (As := as.map (ph G)) (n := n) (host := host) ⟨hx, hb, hml, hown, hts⟩ hMet ⟨va_cnB n hts hgood rfl hrm.1 hrm.2.1 (hlink _ hZ.2) (hts _ y4) ⟨y5, y6, y7⟩ (by rw [hR]; exact hrm.2.2), y2, hts _ y1⟩ hpre rfl (by rw [List.length_map]; exact hn) hL.1 hstk (lv_room (by rw [cat_sum]; exact hcat)) d ⟨by rw [hR]; exact hcs.1, by rw [hR]; exact hcs.2⟩
    intro T hT X
    obtain ⟨v, st₀, t1, T', L', h0, X', hL', e1, e2, ⟨hv, ⟨G1, hE, hG1, hH1⟩, hz, hk⟩, hst⟩ := hrun T hT X
    cases hv
    rw [h0] at hz hk
    have hE0 : GEL C.2.2.2.2.1.heap.size G G1 k a b L := hE.mono hS.1
    have hS1 : va_S (Fa C G1) C.2.2.2.2.1.heap T'.heap (locs ++ L') := ⟨Nat.le_trans hS.1 (by rw [e1]; exact hz), fun q h1 h2 => by
        rw [e1, hk q (Nat.lt_of_lt_of_le h1 hS.1) (fun z => z.elim (fun z => h2 (Or.inl (hE.fr (Or.inl hb48) z))) (fun z => by have := hS.1; omega))]
        exact hS.2.1 q h1 (fun z => h2 (z.imp (hE.fr (Or.inl hb48)) id)), fun q hq => by
        rcases List.mem_append.mp hq with h | h
        · exact (hS.2.2 q h).imp (hE.fr (Or.inl hb48)) id
        · exact (hL' q h).imp (hE.fr (Or.inl hb48)) (fun z => Nat.le_trans hS.1 z)⟩
    have m1 : ls1.map (phl G1) = ls.map (phl G) := by
      rw [← hls1, List.map_map]
      exact List.map_congr_left fun q hq => by
        show (q.1, ph _ (rlv a b q.2)) = (q.1, ph G q.2)
        rw [ph_gel hE (hlv q hq).1 (hlv q hq).2]
    have m2 : st1.map (ph G1) = st.map (ph G) := by
      rw [← hst1, List.map_map]
      exact List.map_congr_left fun v hv => ph_gel hE (hlst v hv).1 (hlst v hv).2
    have hC1 : Cx C cc nL own ret rm G1 := by
      obtain ⟨G', g1, g2⟩ := hE0
      refine ⟨hx, hb, hml, hown, hts, ?_, hG1, hC.2.2.2.2.2.2.2.1, hC.2.2.2.2.2.2.2.2.1, hR, ⟨fun kq q h1 h2 h3 => ?_, hZ.2⟩⟩
      · unfold KOk at *
        rw [g2.1, g2.2.1, g1.1, g1.2.1]; exact hK
      · have hnb : ¬ (kq = k ∧ q = b) := fun e => by omega
        rcases (g2.2.2.1 kq q).mp h3 with g | g
        · exact absurd g hnb
        · rw [g2.2.2.2.1 kq q hnb, g2.2.1]
          rcases (g1.2.2.1 kq q).mp g.1 with g3 | g3
          · have := hL48 _ g3
            simp only at this
            omega
          · rw [g1.2.2.2.1 kq q g3, g1.2.1]
            refine ⟨va_Z_fr (hZ.1 kq q h1 h2 g3).1 (fun p hp hp2 => ?_), (hZ.1 kq q h1 h2 g3).2⟩
            rcases g1.fr' (g2.fr (Or.inr ha) hp2) with h | h
            · exact h
            · omega
    obtain ⟨t2, a1, b1⟩ := kk G1 x1 hE0 hC1 t hP T'.heap (locs ++ L') lsA (by rw [e1]; exact hH1) hS1 (by rw [m1]; exact hL) T' rfl X'
    rw [m2] at a1
    exact ⟨t2, hst t2 a1, b1⟩
end ZP
theorem GE.mem {n0 : Nat} {G G1 : Geo} {k a : Nat} {L : List (Nat × Nat)} (h : GE n0 G G1 L) (h1 : (k, a) ∈ L) : G1.2.2.2 k a := (h.2.2.1 k a).mpr (Or.inl h1)
theorem GEL.ge {n0 : Nat} {G Ga Gb : Geo} {k a b : Nat} {L : List (Nat × Nat)} (e : GE n0 G Ga [(k, a)]) (h : GEL n0 Ga Gb k a b L) (hL : (k, a) ∉ L) : GE n0 G Gb ((k, b) :: L) := by
  obtain ⟨G', h1, h2⟩ := h
  exact GE.rel e h1 h2 hL
/-- the kinds that are not there yet in the slice k -/
theorem NL.step {n0 : Nat} {G G1 : Geo} {k : Nat} (ks : List Nat) {S S1 : List Nat} (hE : GE n0 G G1 (ks.map (Prod.mk k))) (hn : ∀ b ∈ S, ¬ G.2.2.2 k b) (hd : ∀ b ∈ S1, b ∈ S ∧ b ∉ ks) : ∀ b ∈ S1, ¬ G1.2.2.2 k b := by
  intro b hb h
  obtain ⟨h1, h2⟩ := hd b hb
  rcases (hE.2.2.1 k b).mp h with g | g
  · obtain ⟨a, h3, h4⟩ := List.mem_map.mp g
    have : a = b := congrArg Prod.snd h4
    exact h2 (by rw [← this]; exact h3)
  · exact hn b h1 g
theorem NL.sub {G : Geo} {k : Nat} {S S1 : List Nat} (hn : ∀ b ∈ S, ¬ G.2.2.2 k b) (hd : ∀ b ∈ S1, b ∈ S) : ∀ b ∈ S1, ¬ G.2.2.2 k b := fun b hb => hn b (hd b hb)
/-- the cells that there are, all of them -/
def LVs (G : Geo) (S : List (Nat × Nat)) : Prop := ∀ k a, G.2.2.2 k a → (k, a) ∈ S ∨ (48 ≤ a ∧ a < 56)
theorem LVs.ge {n0 : Nat} {G G1 : Geo} {L S : List (Nat × Nat)} (hE : GE n0 G G1 L) (h : LVs G S) : LVs G1 (L ++ S) := fun k a hl => by
  rcases (hE.2.2.1 k a).mp hl with g | g
  · exact Or.inl (List.mem_append_left _ g)
  · exact (h k a g).imp (List.mem_append_right _) id
theorem LVs.no {G : Geo} {S : List (Nat × Nat)} (h : LVs G S) {k a : Nat} (h1 : (k, a) ∉ S) (h2 : ¬ (48 ≤ a ∧ a < 56)) : ¬ G.2.2.2 k a := fun hl => (h k a hl).elim h1 h2
section ZQ
variable {C : Cxt} {cc : ByteArray} {nL : Nat} {own : String} {ret : Option FieldType} {rm : Room} {G : Geo} {τ : Type} {Qt : τ → State → Prop} {cs ss : Nat} {pc : Nat} {ls : List (Nat × AV)} {st stk : List AV} {x0 : Mem} {P : Option τ} {k a : Nat}
/-- a field of an object that is being made -/
theorem zg_getraw (hC : Cx C cc nL own ret rm G) (hl : G.2.2.2 k a) {j b index : Nat} {Cn name desc : String} {fin : Bool} (hF : FD a j 4 b Cn name desc fin) (hlink : Cond.fieldLink own index Cn name desc ∈ gw) (d : decode cc pc = .ok (.getfield index, 3))
    (kk : Rg C nL G cs ss gm Qt (pc + 3) ls (.inr (k, b) :: st) x0 P) : Rg C nL G cs ss gm Qt pc ls (.inr (k, a) :: st) x0 (if x0 k a j = 0 then none else P) := by
  intro t hP
  by_cases h0 : x0 k a j = 0
  · rw [if_pos h0] at hP; cases hP
  · rw [if_neg h0] at hP
    exact z_get hC hl hF hlink (v := .inr (k, b)) (by show (if x0 k a j = 0 then Value.null else .ref _) = _; rw [if_neg h0]; rfl) d kk t hP
theorem zg_getr (hC : Cx C cc nL own ret rm G) (hl : G.2.2.2 k a) {j b index : Nat} {Cn name desc : String} {fin : Bool} (hF : FD a j 2 b Cn name desc fin) (hlink : Cond.fieldLink own index Cn name desc ∈ gw) {K : Nat → Option τ} (d : decode cc pc = .ok (.getfield index, 3))
    (kk : ∀ q, G.2.2.2 q b → Rg C nL G cs ss gm Qt (pc + 3) ls (.inr (q, b) :: st) x0 (K q)) : Rg C nL G cs ss gm Qt pc ls (.inr (k, a) :: st) x0 (gref (x0 k a j) K) := z_getr hC hl hF hlink rfl d kk
theorem zg_putrF (hC : Cx C cc nL own ret rm G) (hnm : C.2.2.2.2.2.2.2.2.1.name = "<init>") (hl : G.2.2.2 k a) {q b : Nat} (hq : G.2.2.2 q b) {j index : Nat} {name desc cn : String} (hF : FD a j 2 b own name desc true) (hlink : Cond.fieldLink own index own name desc ∈ gw) (hd : parseFieldDescriptor desc = some (.object cn)) (d : decode cc pc = .ok (.putfield index, 3)) {K : Mem → Option τ}
    (kk : ∀ y, Rg C nL G cs ss gm Qt (pc + 3) ls st y (K y)) : Rg C nL G cs ss gm Qt pc ls (.inr (q, b) :: .inr (k, a) :: st) x0 (bnd (wrM x0 k a j (nI q)) K) := by
  have hq2 : q < 2 ^ 31 := Nat.lt_trans (hC.2.2.2.2.2.2.1.2 q b hq) (by decide)
  have hi : ∀ i, i ≠ j → wrM x0 k a j (nI q) k a i = x0 k a i := fun i h => by rw [wrM_pt]; exact if_neg h
  have hj : wrM x0 k a j (nI q) k a j = nI q := by rw [wrM_pt]; exact if_pos rfl
  refine z_putF (mem := gm) (v := .inr (q, b)) hC hnm hl hF hlink hd rfl rfl (wrM x0 k a j (nI q)) (fun k' a' h => wrM_ne _ _ _ _ _ _ _ h) ?_ hi (fun H hH => ?_) d (kk _)
  · show va_rf (rf G b (wrM x0 k a j (nI q) k a j)) = _
    rw [hj]; unfold rf; rw [if_neg (nI_pos hq2), nI_clamp hq2]; rfl
  · obtain ⟨ci, csx, T, N, ty0, h1, h2, h3, h4, h5, h6, h7, h8, h9, h10, h11⟩ := hF
    have h := hH.2 k a hl
    unfold RefOk at h ⊢
    rw [h1] at h ⊢
    intro i c2 b2 hb2
    by_cases e : i = j
    · subst e
      rw [h2] at hb2
      cases hb2
      refine ⟨fun e => absurd e (by decide), fun _ => ?_, fun e => absurd e (by decide)⟩
      show wrM x0 k a i (nI q) k a i < 0 ∨ G.2.2.2 (wrM x0 k a i (nI q) k a i).toNatClampNeg b
      rw [hj, nI_clamp hq2]
      exact Or.inr hq
    · show (c2 = 1 → _) ∧ (c2 = 2 → wrM x0 k a j (nI q) k a i < 0 ∨ G.2.2.2 (wrM x0 k a j (nI q) k a i).toNatClampNeg b2) ∧ (3 < c2 → wrM x0 k a j (nI q) k a i = 0 ∨ _)
      rw [hi i e]
      exact h i c2 b2 hb2
/-- calls behind things that were made: no answer -/
theorem z_runA {x' : Mem} {t : τ} {P : Option τ} {r' : Option AV} {H : Heap} {locs : List Loc} {lsA : Array Slot} {av : Array Value} (hS : va_S (Fa C G) C.2.2.2.2.1.heap H locs) (hL : lv_has lsA nL (ls.map (phl G)))
    (hrun : va_Run C.1 C.2.1 C.2.2.1 C.2.2.2.1 C.2.2.2.2.1 C.2.2.2.2.2.1 C.2.2.2.2.2.2.1 C.2.2.2.2.2.2.2.1 C.2.2.2.2.2.2.2.2.1 C.2.2.2.2.2.2.2.2.2 H locs cs ss 0 0 (F0 C.2.2.2.2.2.1 pc lsA (stk.map (ph G))) (st.map (ph G)) (QR G r' x' av) (fun q => Fr G q ∨ H.size ≤ q))
    (hP : P = some t) (kk : Rg C nL G cs ss gm Qt (pc + 3) ls (r'.toList ++ st) x' P) : Wx C H locs cs ss (Qt t) (F0 C.2.2.2.2.2.1 pc lsA (stk.map (ph G))) := by
  intro T hT X
  obtain ⟨v, st₀, t1, T', L, h0, X', hL', e1, e2, ⟨hv, hH1, hz, hk⟩, hst⟩ := hrun T hT X
  cases hv
  rw [h0] at hz hk
  have hS1 : va_S (Fa C G) C.2.2.2.2.1.heap T'.heap (locs ++ L) := ⟨Nat.le_trans hS.1 (by rw [e1]; exact hz), fun q h1 h2 => by rw [e1, hk q (Nat.lt_of_lt_of_le h1 hS.1) (fun z => h2 (Or.inl z))]; exact hS.2.1 q h1 h2, fun q hq => by
      rcases List.mem_append.mp hq with h | h
      · exact hS.2.2 q h
      · exact (hL' q h).imp id (fun z => Nat.le_trans hS.1 z)⟩
  obtain ⟨t2, a1, b1⟩ := kk t hP T'.heap (locs ++ L) lsA (by rw [e1]; exact hH1) hS1 hL T' rfl X'
  rw [← opt_map] at a1
  exact ⟨t2, hst t2 a1, b1⟩
theorem z_cvVA {o : Option (Unit × Mem)} {K : Unit → Mem → Option τ} (hC : Cx C cc nL own ret rm G) {y : MethodName} {bytes : ByteArray} {maxL n : Nat} {ret' : Option FieldType} {rm' : Room} (hY : YV y bytes maxL ret' n) {index : Nat} (hlink : Cond.methodLink own index y ∈ gw) (as : List AV) (hn : as.length = n) (hl : G.2.2.2 k a) {ci : Nat} {csx : List (Nat × Nat)} {T : u_T} {N : Nat} (hkd : kd a = .inr (ci, csx)) (hc : vwc[ci]? = some (y.cls, T, N))
    (hM : ∀ l r x', o = some (r, x') → Mt l y bytes maxL ret' rm' G (.inr (k, a) :: as) (gm x0) (avV r) (gm x')) (hs : stk = as.reverse ++ .inr (k, a) :: st) (hrm : rm'.cells = 0 ∧ rm'.slots = 0 ∧ rm'.frames + 1 ≤ rm.frames ∧ 8 + (maxL + 11) + rm'.locals ≤ rm.locals) (hcs : cs ≤ rm.cells ∧ ss ≤ rm.slots) (hcat : (st.map cat).sum ≤ 8) (d : decode cc pc = .ok (.invokevirtual index, 3))
    (kk : ∀ r x', Rg C nL G cs ss gm Qt (pc + 3) ls st x' (K r x')) : Rg C nL G cs ss gm Qt pc ls stk x0 (bd o K) := by
  intro t hP H locs lsA hH hS hL
  cases ho : o with
  | none => rw [ho] at hP; cases hP
  | some q =>
    rw [ho] at hP
    obtain ⟨hx, hb, hml, hown, hts, hK, hG, -, -, hR, hZ⟩ := id hC
    obtain ⟨y1, y2, y3, y4, y5, y6, y7, y8⟩ := hY
    have hat := (hH.1 k a hl).no (nt_obj hkd)
    rw [ent_obj hkd] at hat
    refine z_runA (r' := none) (P := K q.1 q.2) (x' := q.2) hS hL (va_runV (As := as.map (ph G)) (n := n) ⟨hx, hb, hml, hown, hts⟩ (hM C.2.1 q.1 q.2 ho H.size) ⟨callB_of n hts (fun w hw => ?_) rfl hrm.1 hrm.2.1 (hts _ y4) (hts _ hlink) ⟨y5, y6, y7⟩ (by rw [hR]; exact hrm.2.2), hts _ y1, hts _ y2⟩ ⟨PA.blind _ _ _ _, va_recv (q0 := 0) hK (va_one hat) hc rfl, fun U hU hW => ⟨PC.at hH hK hZ (Fa.kept hS) hU hW, by rw [hU]⟩⟩ rfl (by rw [List.length_map]; exact hn) hL.1 ?_ (lv_room (by rw [cat_sum]; exact hcat)) d ⟨by rw [hR]; exact hcs.1, by rw [hR]; exact hcs.2⟩) hP (kk q.1 q.2)
    · rcases List.mem_cons.mp hw with e | hw
      · subst e; exact ⟨y3, good_of_word (List.mem_filter.mp y3).2⟩
      · exact ⟨hw, good_of_word (List.mem_filter.mp hw).2⟩
    · show stk.map (ph G) = _
      rw [hs, List.map_append, List.map_reverse]; rfl
theorem z_cvSA {o : Option (Unit × Mem)} {K : Unit → Mem → Option τ} (hC : Cx C cc nL own ret rm G) {y : MethodName} {bytes : ByteArray} {maxL n : Nat} {ret' : Option FieldType} {rm' : Room} (hY : YS y bytes maxL ret' n) {index : Nat} (hlink : Cond.methodLink own index y ∈ gw) (as : List AV) (hn : as.length = n)
    (hM : ∀ l r x', o = some (r, x') → Mt l y bytes maxL ret' rm' G as (gm x0) (avV r) (gm x')) (hs : stk = as.reverse ++ st) (hrm : rm'.cells = 0 ∧ rm'.slots = 0 ∧ rm'.frames + 1 ≤ rm.frames ∧ 8 + (maxL + 11) + rm'.locals ≤ rm.locals) (hcs : cs ≤ rm.cells ∧ ss ≤ rm.slots) (hcat : (st.map cat).sum ≤ 8) (d : decode cc pc = .ok (.invokestatic index, 3))
    (kk : ∀ r x', Rg C nL G cs ss gm Qt (pc + 3) ls st x' (K r x')) : Rg C nL G cs ss gm Qt pc ls stk x0 (bd o K) := by
  intro t hP H locs lsA hH hS hL
  cases ho : o with
  | none => rw [ho] at hP; cases hP
  | some q =>
    rw [ho] at hP
    obtain ⟨hx, hb, hml, hown, hts, hK, hG, -, -, hR, hZ⟩ := id hC
    obtain ⟨y1, y2, y3, y4, y5, y6, y7, y8⟩ := hY
    refine z_runA (r' := none) (P := K q.1 q.2) (x' := q.2) hS hL (va_runS (As := as.map (ph G)) (n := n) ⟨hx, hb, hml, hown, hts⟩ (hM C.2.1 q.1 q.2 ho H.size) ⟨callB_of n hts (fun w hw => ?_) rfl hrm.1 hrm.2.1 (hts _ y4) (hts _ hlink) ⟨y5, y6, y7⟩ (by rw [hR]; exact hrm.2.2), hts _ y1⟩ ⟨PA.blind _ _ _ _, fun U hU hW => ⟨PC.at hH hK hZ (Fa.kept hS) hU hW, by rw [hU]⟩⟩ rfl (by rw [List.length_map]; exact hn) hL.1 ?_ (lv_room (by rw [cat_sum]; exact hcat)) d ⟨by rw [hR]; exact hcs.1, by rw [hR]; exact hcs.2⟩) hP (kk q.1 q.2)
    · rcases List.mem_cons.mp hw with e | hw
      · subst e; exact ⟨y3, good_of_word (List.mem_filter.mp y3).2⟩
      · exact ⟨hw, good_of_word (List.mem_filter.mp hw).2⟩
    · show stk.map (ph G) = _
      rw [hs, List.map_append, List.map_reverse]
end ZQ
theorem GEL.pre {n0 : Nat} {G Ga Gb : Geo} {k a b : Nat} {L L1 : List (Nat × Nat)} (e : GE n0 G Ga L1) (h : GEL n0 Ga Gb k a b L) : GEL n0 G Gb k a b (L ++ L1) := by
  obtain ⟨G', h1, h2⟩ := h
  exact ⟨G', e.trans h1, h2⟩
