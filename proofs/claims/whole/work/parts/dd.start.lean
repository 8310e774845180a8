/-! ===== the start: classes, tables, objects ===== -/
theorem st_K {args : Array Value} {s : State} (hts : ∀ w ∈ gw, w.before args s = true) (hov : va_AO RX4 s) : ∃ (D : va_G) (c0 c1 c2 c3 cL : ClassId), va_K D vwc [(c0, .int), (c1, .float), (c2, .boolean), (c3, .object RX4)] s ∧ va_K D vwc [(cL, .long)] s := by
  obtain ⟨k0, i0, n0⟩ := u_known (C := RX0) (T := TX0) (N := 20) (n := 20) hts inwX0 (hts _ q285)
  obtain ⟨k1, i1, n1⟩ := u_known (C := RX2) (T := TX2) (N := 11) (n := 11) hts inwX2 (hts _ q237)
  obtain ⟨k2, i2, n2⟩ := u_known (C := RX3) (T := TX3) (N := 12) (n := 12) hts inwX3 (hts _ q168)
  obtain ⟨k3, i3, n3⟩ := u_known (C := RX4) (T := TX4) (N := 15) (n := 15) hts inwX4 (hts _ q279)
  obtain ⟨k4, i4, n4⟩ := u_known (C := RX5) (T := TX5) (N := 10) (n := 10) hts inwX5 (hts _ q160)
  obtain ⟨k5, i5, n5⟩ := u_known (C := RX6) (T := TX6) (N := 32) (n := 32) hts inwX6 (hts _ q1229)
  obtain ⟨a0, ka0, co0, x1, x2, x3⟩ := Cond.arrayClass_spec (hts _ q235)
  obtain ⟨a1, ka1, co1, y1, y2, y3⟩ := Cond.arrayClass_spec (hts _ q375)
  obtain ⟨a2, ka2, co2, z1, z2, z3⟩ := Cond.arrayClass_spec (hts _ q1367)
  obtain ⟨aL, kaL, coL, w1, w2, w3⟩ := Cond.arrayClass_spec (hts _ q1942)
  obtain ⟨comp, a3, ka3, u1, u2, u3, u4, u5⟩ := Cond.arrayOver_spec hov
  have hcl : ∀ (c : Nat) (q : vw_C), vwc[c]? = some q → u_Kn s q.1 q.2.1 q.2.2 ((fun k => if k = 0 then k0 else if k = 1 then k1 else if k = 2 then k2 else if k = 3 then k3 else if k = 4 then k4 else k5 : Nat → ClassId) c) ((fun k => if k = 0 then i0 else if k = 1 then i1 else if k = 2 then i2 else if k = 3 then i3 else if k = 4 then i4 else i5 : Nat → Nat → Nat) c) := by
    intro c q hq
    match c, hq with
    | 0, hq => cases hq; exact n0
    | 1, hq => cases hq; exact n1
    | 2, hq => cases hq; exact n2
    | 3, hq => cases hq; exact n3
    | 4, hq => cases hq; exact n4
    | 5, hq => cases hq; exact n5
    | c + 6, hq => simp at hq
  refine ⟨(_, _), a0, a1, a2, a3, aL, ⟨hcl, fun k q hq => ?_⟩, ⟨hcl, fun k q hq => ?_⟩⟩
  · match k, hq with
    | 0, hq => cases hq; exact ⟨fun n z => ⟨fun k h => (by cases h), ka0, x2, co0, x3⟩, x1⟩
    | 1, hq => cases hq; exact ⟨fun n z => ⟨fun k h => (by cases h), ka1, y2, co1, y3⟩, y1⟩
    | 2, hq => cases hq; exact ⟨fun n z => ⟨fun k h => (by cases h), ka2, z2, co2, z3⟩, z1⟩
    | 3, hq => cases hq; exact ⟨fun n z => ⟨fun k h => (by cases h), ka3, u3, comp, u4⟩, ⟨ka3, comp, u3, u4, u1, u5⟩⟩
    | k + 4, hq => simp at hq
  · match k, hq with
    | 0, hq => cases hq; exact ⟨fun n z => ⟨fun k h => (by cases h), kaL, w2, coL, w3⟩, w1⟩
    | k + 1, hq => simp at hq
def geo0 (D : va_G) (c0 c1 c2 c3 : ClassId) (tc : Nat → ClassId) (ta : Nat → Nat) (on : Prop) : Geo := (D, fun i => if i = 0 then c0 else if i = 1 then c1 else if i = 2 then c2 else if i = 3 then c3 else tc (i - 20), fun _ a => ta a, fun k a => on ∧ k = 0 ∧ 48 ≤ a ∧ a < 56)
theorem geo0_tc (D : va_G) (c0 c1 c2 c3 : ClassId) (tc : Nat → ClassId) (ta : Nat → Nat) (on : Prop) (a : Nat) : (geo0 D c0 c1 c2 c3 tc ta on).2.1 (20 + a) = tc a := by
  show (if 20 + a = 0 then c0 else if 20 + a = 1 then c1 else if 20 + a = 2 then c2 else if 20 + a = 3 then c3 else tc (20 + a - 20)) = tc a
  rw [if_neg (by omega), if_neg (by omega), if_neg (by omega), if_neg (by omega), Nat.add_sub_cancel_left]
def mem0 : Mem := fun _ a j => tv a j
/-- the tables, as x's geometry has them at first -/
theorem st_G {args : Array Value} {s : State} (hs : ∀ c ∈ flatC (Jvm.Cond.and given_1 narrow_1), c.before args s = true) (hts : ∀ w ∈ lw_tbl, w.before args s = true) {D : va_G} {c0 c1 c2 c3 : ClassId} (hK : va_K D vwc [(c0, .int), (c1, .float), (c2, .boolean), (c3, .object RX4)] s) : ∃ (tc : Nat → ClassId) (ta : Nat → Nat), ∀ on : Prop, OB s (geo0 D c0 c1 c2 c3 tc ta on) ∧ Holds (geo0 D c0 c1 c2 c3 tc ta on) mem0 s.heap := by
  obtain ⟨ta, hta⟩ := Classical.axiomOfChoice (tab_of hs hts)
  have htc : ∀ a : Nat, ∃ c : ClassId, 48 ≤ a → a < 56 → TT c (ta a) (tbn a) (tv a) s.heap ∧ TK s c := fun a => by
    by_cases h : 48 ≤ a ∧ a < 56
    · obtain ⟨cell, h1, h2, h3, h4, h5, h6, h7⟩ := (hta a h.1 h.2).2
      exact ⟨cell.cls, fun _ _ => ⟨⟨cell, h1, rfl, h2.1, h3, h4, h5, h6⟩, ⟨fun k h => (by cases h), h2.2⟩⟩⟩
    · exact ⟨c0, fun h1 h2 => absurd ⟨h1, h2⟩ h⟩
  obtain ⟨tc, htc⟩ := Classical.axiomOfChoice htc
  refine ⟨tc, ta, fun on => ⟨⟨hK, ⟨fun k a h1 h2 h3 => ⟨(hta a h1 h2).1.narrow (fun q hq => ?_), ?_⟩, ⟨va_Nw.of rfl (hts _ (mT1 (i := 27) rfl)), va_Nw.of rfl (hts _ (mT3 (i := 26) rfl))⟩⟩, ⟨fun k a k' a' h1 h2 h3 => ?_, fun k a h1 => ?_⟩, fun q hq => ?_⟩, fun k a h1 => ?_, fun k a h1 => ?_⟩⟩
  · obtain ⟨k', a', g1, g2, -⟩ := hq
    have := g1.2
    omega
  · rw [geo0_tc]; exact (htc a h1 h2).2
  · obtain ⟨-, e1, g1, g2⟩ := h1
    obtain ⟨-, e2, g3, g4⟩ := h2
    refine ⟨by omega, ?_⟩
    have h3 : ta a = ta a' := h3
    obtain ⟨cell, t1, -, -, -, -, t5, t6⟩ := (htc a g1 g2).1
    obtain ⟨cell', t1', -, -, -, -, t5', t6'⟩ := (htc a' g3 g4).1
    rw [h3, t1'] at t1
    have := Option.some.inj t1
    subst this
    have hn : Int32.ofNat (tbn a) = Int32.ofNat (tbn a') := t5.symm.trans t5'
    have := tab_ne ⟨a - 48, by omega⟩ ⟨a' - 48, by omega⟩
    simp only [show 48 + (a - 48) = a by omega, show 48 + (a' - 48) = a' by omega] at this
    have hnn : tbn a = tbn a' := tbn_inj (by omega) (by omega) (by omega) (by omega) hn
    have h9 := this hn (by
      rw [List.all_eq_true]
      intro j hj
      rw [List.mem_range] at hj
      have q1 := t6 j hj
      have q2 := t6' j (by omega)
      rw [q1] at q2
      rw [decide_eq_true_eq]
      exact Value.int.inj (Option.some.inj q2))
    have := congrArg Fin.val h9
    dsimp only at this
    omega
  · have := h1.2; omega
  · obtain ⟨k', a', g1, g2, -⟩ := hq
    have := g1.2
    omega
  · obtain ⟨-, e1, g1, g2⟩ := h1
    unfold ET
    have ht : tbc a = true := by
      unfold tbc
      rw [Bool.and_eq_true, Nat.ble_eq, Nat.ble_eq]
      omega
    rw [if_pos ht, geo0_tc]
    exact (htc a g1 g2).1
  · obtain ⟨-, e1, g1, g2⟩ := h1
    have ht : tbc a = true := by
      unfold tbc
      rw [Bool.and_eq_true, Nat.ble_eq, Nat.ble_eq]
      omega
    exact refok_arr (tb_kd ht) (by decide) _
theorem gok_add {G : Geo} {M : Mem} {H : Heap} {k a : Nat} (hG : GOk G) (hH : Holds G M H) (hk : k < 1000) : GOk (addG G k a H.size) := by
  refine ⟨fun k1 a1 k2 a2 h1 h2 e => ?_, fun k1 a1 h1 => ?_⟩
  · have hc : ∀ k' a', (k' = k ∧ a' = a) ∨ (¬ (k' = k ∧ a' = a)) := fun k' a' => Classical.em _
    have e : (if k1 = k ∧ a1 = a then H.size else G.2.2.1 k1 a1) = (if k2 = k ∧ a2 = a then H.size else G.2.2.1 k2 a2) := e
    rcases hc k1 a1 with g1 | g1 <;> rcases hc k2 a2 with g2 | g2
    · exact ⟨g1.1.trans g2.1.symm, g1.2.trans g2.2.symm⟩
    · rw [if_pos g1, if_neg g2] at e
      have := (hH.1 k2 a2 (h2.resolve_left g2)).lt
      omega
    · rw [if_neg g1, if_pos g2] at e
      have := (hH.1 k1 a1 (h1.resolve_left g1)).lt
      omega
    · rw [if_neg g1, if_neg g2] at e
      exact hG.1 k1 a1 k2 a2 (h1.resolve_left g1) (h2.resolve_left g2) e
  · rcases h1 with g1 | g1
    · rw [g1.1]; exact hk
    · exact hG.2 k1 a1 g1
section LAW
variable {p : Program} {l : Launch} {e : Env} {s : State} {m : MethodId} {below : List Frame} {meth : Method} {c : Code} {b L : Nat} {xs : Nat → Int32} {Q : State → Prop} {H : Heap} {locs : List Loc} {cs ss : Nat} {ls : Array Slot} {lv : List (Nat × Value)} {pc : Nat} {st : List Value} {G : Geo} {M M1 : Mem} {k a : Nat}
/-- a new object -/
theorem lw_new (hF : LF p s m c b L xs) (hO : OB s G) (hH : Holds G M H) (hS : va_S (LH s) s.heap H locs) {ci N index : Nat} {csx : List (Nat × Nat)} {Cn : String} {T : u_T} {ty0 : Nat → FieldType} (hkd : kd a = .inr (ci, csx)) (hcv : vwc[ci]? = some (Cn, T, N)) (hin : ∀ w ∈ u_ws Cn T N, w ∈ gw) (hty : ∀ k, k < N → parseFieldDescriptor (T k).2.2.1 = some (ty0 k)) (hcl : Cond.classLink "FrameHeirsLaw" index Cn ∈ gw) (hinst : Cond.instantiable Cn N ∈ gw) (hini : Cond.initialized Cn ∈ gw) (hdef : ∀ G k j, j < N → defaultValue (ty0 j) = vp_V (fvs G k (rini csx) 0 csx) j) (hno1 : ∀ (j b : Nat), csx[j]? ≠ some (1, b))
    (hnl : ¬ G.2.2.2 k a) (hk : k < 1000) (ha : a < 48 ∨ 60 ≤ a) (hc : cs + 1 ≤ 601024) (hs : ss + N ≤ 7293034) (d : decode code pc = .ok (.new index, 3))
    (kk : ∀ H1, GE H.size G (addG G k a H.size) [(k, a)] → OB s (addG G k a H.size) → Holds (addG G k a H.size) (wrAM M k a (rini csx)) H1 → va_S (LH s) s.heap H1 locs → H1.size = H.size + 1 → (∀ q, q < H.size → H1[q]? = H[q]?) → W p l e room_1 s m #[Value.ref b] below meth c H1 locs (cs + 1) (ss + N) Q (F0 m (pc + 3) ls (.ref ((addG G k a H.size).2.2.1 k a) :: st))) :
    W p l e room_1 s m #[Value.ref b] below meth c H locs cs ss Q (F0 m pc ls st) := by
  obtain ⟨hx, hb, hml, hown, hts, -, -⟩ := id hF
  have hKn := hO.1.1 ci _ hcv
  refine W.newcK hx hb hown (hts _ hcl) (hts _ hinst) (hts _ hini) rfl d hc hs hKn.2.1 rfl fun H1 kC hkC e1 z1 o1 => ?_
  have hE : GE H.size G (addG G k a H.size) [(k, a)] := addG_ge hnl (Nat.le_refl _)
  have kk2 := kk H1 hE
  rw [addG_at] at kk2
  refine kk2 (ob_ge hO hE hS.1 (fun q hq => by rw [List.mem_singleton.mp hq]; exact ha) (gok_add hO.2.2.1 hH hk)) (hH.add (nt_of ha) hE (fun k' a' hh => wrAM_ne _ _ _ _ _ _ hh) ?_ ?_ o1) ⟨by have := hS.1; omega, fun q g1 g2 => by rw [o1 q (Nat.lt_of_lt_of_le g1 hS.1)]; exact hS.2.1 q g1 g2, hS.2.2⟩ z1 o1
  · rw [wrAM_at, addG_at, ent_obj hkd]
    exact ⟨_, hcv, (u_born ty0 hts hin hKn hkC e1 hty).to (fun j hj => hdef _ _ j hj)⟩
  · rw [wrAM_at]
    unfold RefOk
    rw [hkd]
    intro j c b hb2
    have hb2' : csx[j]? = some (c, b) := hb2
    refine ⟨fun e => absurd (by rw [← e]; exact hb2) (hno1 j b), fun e => Or.inl ?_, fun e => Or.inl ?_⟩
    · subst e
      show rini csx j < 0
      unfold rini
      rw [hb2']
      show (-1 : Int32) < 0
      decide
    · show rini csx j = 0
      unfold rini
      rw [hb2']
      match c, e with
      | n + 4, _ => rfl
/-- its constructor -/
theorem lc_I (hF : LF p s m c b L xs) {a9 : Nat} {y : MethodName} {bytes : ByteArray} {maxL mc ms : Nat} {rm' : Room} (hY : YI y bytes maxL 0) {index : Nat} (hlink : Cond.methodLink "FrameHeirsLaw" index y ∈ gw) {Lc : List (Nat × Nat)} {Pc : Array Value → State → Prop} {b9 : Nat}
    (hM : Met l y (Cond.code y bytes maxL none :: gw) rm' Pc (QC G k a b9 Lc H.size M1) mc ms (fun q => Fr G q ∨ H.size ≤ q)) (hbl : FrameBlind Pc) (hpre : ∀ U : State, U.heap = H → s.WarmedH U.vm → Pc (Value.ref a9 :: []).toArray U) (hA : ∀ q, Fr G q → s.heap.size ≤ q)
    (hrm : rm'.cells = mc ∧ rm'.slots = ms ∧ rm'.frames + 1 ≤ 11 ∧ 8 + (maxL + 11) + rm'.locals ≤ 466) (hcat : (st.map fun v => v.category).sum ≤ 8) (hcs : cs + mc ≤ 601024 ∧ ss + ms ≤ 7293034) (hL : lv_has ls 7 lv) (hS : va_S (LH s) s.heap H locs) (d : decode code pc = .ok (.invokespecial index, 3))
    (kk : ∀ H1 locs1 G1, H.size ≤ H1.size → (∀ q, q < H.size → ¬ Fr G q → H1[q]? = H[q]?) → GEL H.size G G1 k a b9 Lc → GOk G1 → Holds G1 M1 H1 → va_S (LH s) s.heap H1 locs1 → W p l e room_1 s m #[Value.ref b] below meth c H1 locs1 (cs + mc) (ss + ms) Q (F0 m (pc + 3) ls st)) :
    W p l e room_1 s m #[Value.ref b] below meth c H locs cs ss Q (F0 m pc ls (.ref a9 :: st)) := by
  obtain ⟨hx, hb, hml, hown, hts, -, -⟩ := id hF
  obtain ⟨y1, y2, y3, y4, y5, y6, y7, y8⟩ := hY
  have hgood : GoodIn gw (Cond.code y bytes maxL none :: gw) := fun w hw => by
    rcases List.mem_cons.mp hw with e | hw
    · subst e; exact ⟨y3, good_of_word (List.mem_filter.mp y3).2⟩
    · exact ⟨hw, good_of_word (List.mem_filter.mp hw).2⟩
  have hrun : va_Run p l e room_1 s m #[Value.ref b] below meth c H locs cs ss mc ms (F0 m pc ls (.ref a9 :: st)) st (QC G k a b9 Lc H.size M1 (Value.ref a9 :: []).toArray) (fun q => Fr G q ∨ H.size ≤ q) :=
    va_runI (As := []) (n := 0) ⟨hx, hb, hml, hown, hts⟩ hM ⟨callB_of 0 hts hgood rfl hrm.1 hrm.2.1 (hts _ y4) (hts _ hlink) ⟨y5, y6, y7⟩ hrm.2.2, y2, hts _ y1⟩ ⟨hbl, hpre⟩ rfl rfl hL.1 rfl (lv_room hcat) d hcs
  intro T hT X
  obtain ⟨v, st₀, t1, T', L', h0, X', hL', e1, e2, ⟨hv, ⟨G1, hE, hG1, hH1⟩, hz, hk⟩, hst⟩ := hrun T hT X
  cases hv
  rw [h0] at hz hk
  have hk2 : ∀ q, q < H.size → ¬ Fr G q → t1.heap[q]? = H[q]? := fun q hq hf => hk q hq (fun z => z.elim hf (fun z => by omega))
  have hS1 : va_S (LH s) s.heap T'.heap (locs ++ L') := ⟨Nat.le_trans hS.1 (by rw [e1]; exact hz), fun q h1 h2 => by rw [e1, hk2 q (Nat.lt_of_lt_of_le h1 hS.1) (fun z => h2 (hA q z))]; exact hS.2.1 q h1 h2, fun q hq => by
      rcases List.mem_append.mp hq with h | h
      · exact hS.2.2 q h
      · exact (hL' q h).elim (hA q.base) (fun z => Nat.le_trans hS.1 z)⟩
  obtain ⟨t2, a1, b1⟩ := kk T'.heap (locs ++ L') G1 (by rw [e1]; exact hz) (fun q hq hf => by rw [e1]; exact hk2 q hq hf) hE hG1 (by rw [e1]; exact hH1) hS1 T' rfl X'
  exact ⟨t2, hst t2 a1, b1⟩
end LAW
/-- what a constructor leaves -/
theorem ob_gel {s : State} {G G1 : Geo} {k a b n1 : Nat} {Lc : List (Nat × Nat)} (h : OB s G) (hE : GEL n1 G G1 k a b Lc) (hn : s.heap.size ≤ n1) (ha : 60 ≤ a) (hb : b < 48) (hL : ∀ q ∈ Lc, q.2 < 48 ∨ 60 ≤ q.2) (hG : GOk G1) : OB s G1 := by
  obtain ⟨hK, hZ, -, hA⟩ := h
  obtain ⟨G', g1, g2⟩ := hE
  refine ⟨?_, ⟨fun kq q h1 h2 h3 => ?_, hZ.2⟩, hG, fun q hq => ?_⟩
  · unfold KOk at *
    rw [g2.1, g2.2.1, g1.1, g1.2.1]; exact hK
  · have hnb : ¬ (kq = k ∧ q = b) := fun e => by omega
    rcases (g2.2.2.1 kq q).mp h3 with g | g
    · exact absurd g hnb
    · rw [g2.2.2.2.1 kq q hnb, g2.2.1]
      rcases (g1.2.2.1 kq q).mp g.1 with g3 | g3
      · have : q < 48 ∨ 60 ≤ q := hL _ g3
        omega
      · rw [g1.2.2.2.1 kq q g3, g1.2.1]
        refine ⟨va_Z_fr (hZ.1 kq q h1 h2 g3).1 (fun p hp hp2 => ?_), (hZ.1 kq q h1 h2 g3).2⟩
        rcases g1.fr' (g2.fr (Or.inr ha) hp2) with h | h
        · exact h
        · omega
  · rcases g1.fr' (g2.fr (Or.inr ha) hq) with h | h
    · exact hA q h
    · omega
