/-! ===== things that are made: geometries grow ===== -/
/-- G1 has the cells of G and those of L, which are new (at n0 or behind it) -/
def GE (n0 : Nat) (G G1 : Geo) (L : List (Nat × Nat)) : Prop := G1.1 = G.1 ∧ G1.2.1 = G.2.1 ∧ (∀ k a, G1.2.2.2 k a ↔ ((k, a) ∈ L ∨ G.2.2.2 k a)) ∧ (∀ k a, G.2.2.2 k a → G1.2.2.1 k a = G.2.2.1 k a) ∧ (∀ q ∈ L, ¬ G.2.2.2 q.1 q.2) ∧ ∀ q ∈ L, n0 ≤ G1.2.2.1 q.1 q.2
theorem GE.new {n0 : Nat} {G G1 : Geo} {k a : Nat} {L : List (Nat × Nat)} (h : GE n0 G G1 ((k, a) :: L)) : G1.2.2.2 k a := (h.2.2.1 k a).mpr (Or.inl List.mem_cons_self)
theorem GE.old {n0 : Nat} {G G1 : Geo} {k a : Nat} {L : List (Nat × Nat)} (h : GE n0 G G1 L) (h1 : G.2.2.2 k a) : G1.2.2.2 k a := (h.2.2.1 k a).mpr (Or.inr h1)
theorem GE.not {n0 : Nat} {G G1 : Geo} {k a : Nat} {L : List (Nat × Nat)} (h : GE n0 G G1 L) (h1 : ¬ G.2.2.2 k a) (h2 : (k, a) ∉ L) : ¬ G1.2.2.2 k a := fun h3 => ((h.2.2.1 k a).mp h3).elim h2 h1
theorem GE.trans {n0 : Nat} {G G1 G2 : Geo} {L L1 : List (Nat × Nat)} (h : GE n0 G G1 L) (h1 : GE n0 G1 G2 L1) : GE n0 G G2 (L1 ++ L) := by
  obtain ⟨a1, a2, a3, a4, a5, a6⟩ := h
  obtain ⟨b1, b2, b3, b4, b5, b6⟩ := h1
  refine ⟨b1.trans a1, b2.trans a2, fun k a => ?_, fun k a hl => ?_, fun q hq => ?_, fun q hq => ?_⟩
  · rw [b3, a3, List.mem_append]
    constructor
    · rintro (h | h | h)
      · exact Or.inl (Or.inl h)
      · exact Or.inl (Or.inr h)
      · exact Or.inr h
    · rintro ((h | h) | h)
      · exact Or.inl h
      · exact Or.inr (Or.inl h)
      · exact Or.inr (Or.inr h)
  · rw [b4 k a ((a3 k a).mpr (Or.inr hl)), a4 k a hl]
  · rcases List.mem_append.mp hq with h | h
    · exact fun hl => b5 q h ((a3 _ _).mpr (Or.inr hl))
    · exact a5 q h
  · rcases List.mem_append.mp hq with h | h
    · exact b6 q h
    · rw [b4 q.1 q.2 ((a3 _ _).mpr (Or.inl h))]; exact a6 q h
theorem GE.fr {n0 : Nat} {G G1 : Geo} {L : List (Nat × Nat)} (h : GE n0 G G1 L) {q : Nat} (hq : Fr G q) : Fr G1 q := by
  obtain ⟨k, a, h1, h2, h3⟩ := hq
  exact ⟨k, a, h.old h1, h2, by rw [h3, h.2.2.2.1 k a h1]⟩
theorem GE.fr' {n0 : Nat} {G G1 : Geo} {L : List (Nat × Nat)} (h : GE n0 G G1 L) {q : Nat} (hq : Fr G1 q) : Fr G q ∨ n0 ≤ q := by
  obtain ⟨k, a, h1, h2, h3⟩ := hq
  rcases (h.2.2.1 k a).mp h1 with h4 | h4
  · exact Or.inr (by rw [h3]; exact h.2.2.2.2.2 (k, a) h4)
  · exact Or.inl ⟨k, a, h4, h2, by rw [h3, h.2.2.2.1 k a h4]⟩
theorem fvs_ext {G G1 : Geo} {k : Nat} {f : Nat → Int32} : ∀ (cs : List (Nat × Nat)) (n : Nat), (∀ i c, cs[i]? = some c → fv G1 k f c (n + i) = fv G k f c (n + i)) → fvs G1 k f n cs = fvs G k f n cs
  | [], _, _ => rfl
  | c :: cs, n, h => by
    have h0 : fv G1 k f c n = fv G k f c n := h 0 c rfl
    have h1 := fvs_ext (G := G) (G1 := G1) (k := k) (f := f) cs (n + 1) (fun i c2 hc => by
      have := h (i + 1) c2 (by rw [List.getElem?_cons_succ]; exact hc)
      rw [show n + 1 + i = n + (i + 1) by omega]; exact this)
    simp only [fvs, h0, h1]
theorem ent_ext {n0 : Nat} {G G1 : Geo} {L : List (Nat × Nat)} (hE : GE n0 G G1 L) {k a : Nat} {f : Nat → Int32} (hR : RefOk G k a f) : ent G1 k a f = ent G k a f := by
  have hrf : ∀ b v, (v < 0 ∨ G.2.2.2 v.toNatClampNeg b) → rf G1 b v = rf G b v := by
    intro b v h
    unfold rf
    by_cases hv : v < 0
    · rw [if_pos hv, if_pos hv]
    · rw [if_neg hv, if_neg hv, hE.2.2.2.1 _ _ (h.resolve_left hv)]
  unfold ent RefOk at *
  rw [hE.2.1]
  cases hk : kd a with
  | inl q =>
    obtain ⟨ty, len⟩ := q
    rw [hk] at hR
    have e : arrC G1 ty len f = arrC G ty len f := by
      match ty, hR with
      | 0, _ => rfl
      | 1, _ => rfl
      | 2, _ => rfl
      | t + 3, hR =>
        have h2 : (fun i => rf G1 10 (f i)) = (fun i => rf G 10 (f i)) := by
          funext i
          exact hrf 10 (f i) (hR (by omega) i)
        unfold arrC
        simp only [h2]
    simp only [e]
  | inr q =>
    obtain ⟨ci, cs⟩ := q
    rw [hk] at hR
    have e : fvs G1 k f 0 cs = fvs G k f 0 cs := by
      refine fvs_ext cs 0 (fun i c hc => ?_)
      rw [Nat.zero_add]
      obtain ⟨c1, c2⟩ := c
      obtain ⟨r1, r2, r3⟩ := hR i c1 c2 hc
      match c1, r1, r2, r3 with
      | 0, _, _, _ => rfl
      | 1, r1, _, _ =>
        show Value.ref _ = Value.ref _
        rw [hE.2.2.2.1 _ _ (r1 rfl)]
      | 2, _, r2, _ =>
        show va_rf _ = va_rf _
        rw [hrf c2 (f i) (r2 rfl)]
      | 3, _, _, _ => rfl
      | t + 4, _, _, r3 =>
        show (if f i = 0 then Value.null else .ref _) = (if f i = 0 then Value.null else .ref _)
        by_cases h0 : f i = 0
        · rw [if_pos h0, if_pos h0]
        · rw [if_neg h0, if_neg h0, hE.2.2.2.1 _ _ ((r3 (by omega)).resolve_left h0)]
    simp only [e]
theorem RefOk.mono {n0 : Nat} {G G1 : Geo} {L : List (Nat × Nat)} (hE : GE n0 G G1 L) {k a : Nat} {f : Nat → Int32} (h : RefOk G k a f) : RefOk G1 k a f := by
  unfold RefOk at *
  cases hk : kd a with
  | inl q =>
    rw [hk] at h
    exact fun e i => (h e i).imp id hE.old
  | inr q =>
    rw [hk] at h
    exact fun j c b hb => ⟨fun e => hE.old ((h j c b hb).1 e), fun e => ((h j c b hb).2.1 e).imp id hE.old, fun e => ((h j c b hb).2.2 e).imp id hE.old⟩
theorem Holds.add {n0 : Nat} {G G1 : Geo} {M M2 : Mem} {H H1 : Heap} {k a : Nat} (h : Holds G M H) (ht : tbc a = false) (hE : GE n0 G G1 [(k, a)]) (hM : ∀ k' a', ¬ (k' = k ∧ a' = a) → M2 k' a' = M k' a') (h1 : va_at G1.1 vwc (G1.2.2.1 k a, ent G1 k a (M2 k a)) H1) (hr : RefOk G1 k a (M2 k a)) (hq : ∀ q, q < H.size → H1[q]? = H[q]?) : Holds G1 M2 H1 := by
  have key : ∀ k' a', G1.2.2.2 k' a' → (k' = k ∧ a' = a) ∨ (¬ (k' = k ∧ a' = a) ∧ G.2.2.2 k' a') := by
    intro k' a' hl
    by_cases e : k' = k ∧ a' = a
    · exact Or.inl e
    · rcases (hE.2.2.1 k' a').mp hl with h2 | h2
      · have := List.mem_singleton.mp h2
        exact absurd ⟨congrArg Prod.fst this, congrArg Prod.snd this⟩ e
      · exact Or.inr ⟨e, h2⟩
  refine ⟨fun k' a' hl' => ?_, fun k' a' hl' => ?_⟩
  · rcases key k' a' hl' with ⟨e1, e2⟩ | ⟨e, hl⟩
    · subst e1; subst e2; exact ET.of h1 ht
    · have h9 := (h.1 k' a' hl).kept (hq _ (h.1 k' a' hl).lt)
      unfold ET at h9 ⊢
      rw [hM k' a' e, hE.1, hE.2.1, ent_ext hE (h.2 k' a' hl), hE.2.2.2.1 k' a' hl]
      exact h9
  · rcases key k' a' hl' with ⟨e1, e2⟩ | ⟨e, hl⟩
    · subst e1; subst e2; exact hr
    · rw [hM k' a' e]; exact (h.2 k' a' hl).mono hE
def addG (G : Geo) (k a p : Nat) : Geo := (G.1, G.2.1, fun k' a' => if k' = k ∧ a' = a then p else G.2.2.1 k' a', fun k' a' => (k' = k ∧ a' = a) ∨ G.2.2.2 k' a')
theorem addG_ge {n0 : Nat} {G : Geo} {k a p : Nat} (h : ¬ G.2.2.2 k a) (hp : n0 ≤ p) : GE n0 G (addG G k a p) [(k, a)] := by
  refine ⟨rfl, rfl, fun k' a' => ?_, fun k' a' hl => ?_, fun q hq => ?_, fun q hq => ?_⟩
  · show ((k' = k ∧ a' = a) ∨ G.2.2.2 k' a') ↔ _
    rw [List.mem_singleton, Prod.mk.injEq]
  · show (if k' = k ∧ a' = a then p else G.2.2.1 k' a') = _
    rw [if_neg (fun e => h (by rw [← e.1, ← e.2]; exact hl))]
  · rw [List.mem_singleton.mp hq]; exact h
  · rw [List.mem_singleton.mp hq]
    show n0 ≤ (if k = k ∧ a = a then p else G.2.2.1 k a)
    rw [if_pos ⟨rfl, rfl⟩]; exact hp
theorem addG_at {G : Geo} {k a p : Nat} : (addG G k a p).2.2.1 k a = p := if_pos ⟨rfl, rfl⟩
/-- the kind of a reference -/
def kn (v : AV) : Nat := match v with
  | .inl _ => 1000
  | .inr q => q.2
def lsok (ls : List (Nat × AV)) (st : List AV) (a : Nat) : Bool := ls.all (fun q => !(kn q.2 == a)) && st.all (fun v => !(kn v == a))
theorem ph_add {G : Geo} {k a p : Nat} {v : AV} (h : kn v ≠ a) : ph (addG G k a p) v = ph G v := by
  rcases v with v | ⟨k', a'⟩
  · rfl
  · show Value.ref (if k' = k ∧ a' = a then p else G.2.2.1 k' a') = _
    rw [if_neg (fun e => h e.2)]; rfl
theorem lsok_map {G : Geo} {k a p : Nat} {ls : List (Nat × AV)} {st : List AV} (h : lsok ls st a = true) : ls.map (phl (addG G k a p)) = ls.map (phl G) ∧ st.map (ph (addG G k a p)) = st.map (ph G) := by
  unfold lsok at h
  rw [Bool.and_eq_true, List.all_eq_true, List.all_eq_true] at h
  refine ⟨List.map_congr_left fun q hq => ?_, List.map_congr_left fun v hv => ?_⟩
  · have := h.1 q hq
    unfold phl
    rw [ph_add (by simpa using this)]
  · have := h.2 v hv
    exact ph_add (by simpa using this)
/-- the same machine over the larger geometry -/
theorem Cx.add {C : Cxt} {cc : ByteArray} {nL : Nat} {own : String} {ret : Option FieldType} {rm : Room} {G G1 : Geo} {k a : Nat} (hC : Cx C cc nL own ret rm G) (hE : GE C.2.2.2.2.1.heap.size G G1 [(k, a)]) (hk : k < 1000) (ha : a < 48 ∨ 60 ≤ a) {M : Mem} {H : Heap} (hH : Holds G M H) (hp : H.size ≤ G1.2.2.1 k a) : Cx C cc nL own ret rm G1 := by
  obtain ⟨hx, hb, hml, hown, hts, hK, hG, hlk, hr, hR, hZ⟩ := hC
  refine ⟨hx, hb, hml, hown, hts, ?_, ⟨fun k1 a1 k2 a2 h1 h2 e => ?_, fun k1 a1 h1 => ?_⟩, hlk, hr, hR, ⟨fun kb b h1 h2 h3 => ?_, hZ.2⟩⟩
  · unfold KOk at *
    rw [hE.1, hE.2.1]; exact hK
  · rcases (hE.2.2.1 k1 a1).mp h1 with g1 | g1 <;> rcases (hE.2.2.1 k2 a2).mp h2 with g2 | g2
    · have e1 := List.mem_singleton.mp g1
      have e2 := List.mem_singleton.mp g2
      exact ⟨(congrArg Prod.fst e1).trans (congrArg Prod.fst e2).symm, (congrArg Prod.snd e1).trans (congrArg Prod.snd e2).symm⟩
    · have e1 := List.mem_singleton.mp g1
      have e11 : k1 = k := congrArg Prod.fst e1
      have e12 : a1 = a := congrArg Prod.snd e1
      subst e11; subst e12
      have hlt : G.2.2.1 k2 a2 < H.size := (hH.1 k2 a2 g2).lt
      rw [hE.2.2.2.1 k2 a2 g2] at e
      omega
    · have e1 := List.mem_singleton.mp g2
      have e11 : k2 = k := congrArg Prod.fst e1
      have e12 : a2 = a := congrArg Prod.snd e1
      subst e11; subst e12
      have hlt : G.2.2.1 k1 a1 < H.size := (hH.1 k1 a1 g1).lt
      rw [hE.2.2.2.1 k1 a1 g1] at e
      omega
    · rw [hE.2.2.2.1 k1 a1 g1, hE.2.2.2.1 k2 a2 g2] at e
      exact hG.1 k1 a1 k2 a2 g1 g2 e
  · rcases (hE.2.2.1 k1 a1).mp h1 with g1 | g1
    · rw [show k1 = k from congrArg Prod.fst (List.mem_singleton.mp g1)]; exact hk
    · exact hG.2 k1 a1 g1
  · rcases (hE.2.2.1 kb b).mp h3 with g1 | g1
    · have e1 : b = a := congrArg Prod.snd (List.mem_singleton.mp g1)
      omega
    · rw [hE.2.2.2.1 kb b g1, hE.2.1]
      refine ⟨va_Z_fr (hZ.1 kb b h1 h2 g1).1 (fun q hq hq2 => ?_), (hZ.1 kb b h1 h2 g1).2⟩
      rcases hE.fr' hq2 with h | h
      · exact h
      · omega
def AV.map' (G : Geo) (l : List AV) : List Value := l.map (ph G)
section ZA
variable {C : Cxt} {cc : ByteArray} {nL : Nat} {own : String} {ret : Option FieldType} {rm : Room} {G : Geo} {τ : Type} {Qt : τ → State → Prop} {cs ss : Nat} {pc : Nat} {ls : List (Nat × AV)} {st : List AV} {x0 : Mem} {P : Option τ} {k a : Nat}
/-- one cell more, by what the machine has laid there -/
theorem rg_add {t : τ} {H H1 : Heap} {locs : List Loc} {lsA : Array Slot} {cs1 ss1 pc1 : Nat} (hC : Cx C cc nL own ret rm G) (hH : Holds G x0 H) (hS : va_S (Fa C G) C.2.2.2.2.1.heap H locs) (hL : lv_has lsA nL (ls.map (phl G))) (hnl : ¬ G.2.2.2 k a) (hk : k < 1000) (ha : a < 48 ∨ 60 ≤ a) (hls : lsok ls st a = true) {f : Nat → Int32} {x2 : Mem} (hx2 : x2 = wrAM x0 k a f)
    (h1 : va_at G.1 vwc (H.size, ent (addG G k a H.size) k a f) H1) (hr : RefOk (addG G k a H.size) k a f) (hz : H1.size = H.size + 1) (hq : ∀ q, q < H.size → H1[q]? = H[q]?) {K : Mem → Option τ} (hP : K x2 = some t)
    (kk : ∀ G1 y, GE C.2.2.2.2.1.heap.size G G1 [(k, a)] → Cx C cc nL own ret rm G1 → Rg C nL G1 cs1 ss1 gm Qt pc1 ls (.inr (k, a) :: st) y (K y)) : Wx C H1 locs cs1 ss1 (Qt t) (F0 C.2.2.2.2.2.1 pc1 lsA (.ref H.size :: st.map (ph G))) := by
  have hE : GE C.2.2.2.2.1.heap.size G (addG G k a H.size) [(k, a)] := addG_ge hnl hS.1
  have hC1 := hC.add hE hk ha hH (by rw [addG_at]; exact Nat.le_refl _)
  obtain ⟨m1, m2⟩ := lsok_map (G := G) (k := k) (p := H.size) hls
  have hk1 := kk (addG G k a H.size) x2 hE hC1 t hP H1 locs lsA (hH.add (nt_of ha) hE (fun k' a' hh => by rw [hx2]; exact wrAM_ne _ _ _ _ _ _ hh) (by rw [hx2, gm, wrAM_at, addG_at]; exact h1) (by rw [hx2, gm, wrAM_at]; exact hr) hq) ⟨by have := hS.1; omega, fun q g1 g2 => by rw [hq q (Nat.lt_of_lt_of_le g1 hS.1)]; exact hS.2.1 q g1 (fun z => g2 (z.imp hE.fr id)), fun q hq2 => (hS.2.2 q hq2).imp hE.fr id⟩ (by rw [m1]; exact hL)
  have e : (AV.map' (addG G k a H.size) (.inr (k, a) :: st)) = Value.ref H.size :: st.map (ph G) := by
    show ph (addG G k a H.size) (.inr (k, a)) :: st.map (ph (addG G k a H.size)) = _
    rw [m2]
    show Value.ref ((addG G k a H.size).2.2.1 k a) :: _ = _
    rw [addG_at]
  rw [← e]
  exact hk1
theorem zg_newa (hC : Cx C cc nL own ret rm G) {n ty : Nat} {atype : ArrayType} {fty : FieldType} (hfty : newarray.typeOf atype = fty) (hkd : kd a = .inl (ty, n)) (hty : ¬ 2 < ty) (hmk : ∀ G cA, vp_cell cA (arrC G ty n (fun _ => 0)) = arrV cA n (fun _ => defaultValue fty)) (hra : C.2.2.2.2.1.vm.findClass ("[" ++ fty.toString) = some (G.2.1 ty)) (harr : Cond.arrayClass fty ∈ gw) (hnl : ¬ G.2.2.2 k a) (hk : k < 1000) (ha : a < 48 ∨ 60 ≤ a) (hls : lsok ls st a = true) {nn : Int32} (hnn : ¬ nn < 0) (hN : nn.toNatClampNeg = n) (hbytes : n * componentBytes fty ≤ 536870912) (hc : cs + 1 ≤ rm.cells) (hs : ss + n ≤ rm.slots) (d : decode cc pc = .ok (.newarray atype, 2)) {K : Mem → Option τ}
    (kk : ∀ G1 y, GE C.2.2.2.2.1.heap.size G G1 [(k, a)] → Cx C cc nL own ret rm G1 → Rg C nL G1 (cs + 1) (ss + n) gm Qt (pc + 2) ls (.inr (k, a) :: st) y (K y)) : Rg C nL G cs ss gm Qt pc ls (.inl (.int nn) :: st) x0 (bnd (wrAM x0 k a (fun _ => 0)) K) := by
  intro t hP H locs lsA hH hS hL
  obtain ⟨hx, hb, hml, hown, hts, hK, hG, hlk, hr, hR, hZ⟩ := id hC
  subst hfty
  refine va_newaK (N := n) hx hb (hts _ harr) rfl d rfl hnn hN hbytes (by rw [hR]; exact hc) (by rw [hR]; exact hs) rfl fun H1 cA e1 z1 o1 hAr hNm => ?_
  have hcA : cA = G.2.1 ty := Option.some.inj (hNm.symm.trans hra)
  subst hcA
  refine rg_add hC hH hS hL hnl hk ha hls rfl ?_ (refok_arr hkd hty _) z1 o1 hP kk
  rw [ent_arr hkd]
  show H1[H.size]? = some (vp_cell _ _)
  rw [hmk]; exact e1
/-- what a new object's cells hold, by the codes of its fields -/
def rini (csx : List (Nat × Nat)) (j : Nat) : Int32 := match csx[j]? with
  | some (2, _) => -1
  | _ => 0
theorem zg_new (hC : Cx C cc nL own ret rm G) {ci N index : Nat} {csx : List (Nat × Nat)} {Cn : String} {T : u_T} {ty0 : Nat → FieldType} (hkd : kd a = .inr (ci, csx)) (hcv : vwc[ci]? = some (Cn, T, N)) (hin : ∀ w ∈ u_ws Cn T N, w ∈ gw) (hty : ∀ k, k < N → parseFieldDescriptor (T k).2.2.1 = some (ty0 k)) (hcl : Cond.classLink own index Cn ∈ gw) (hinst : Cond.instantiable Cn N ∈ gw) (hini : Cond.initialized Cn ∈ gw) (hdef : ∀ G k j, j < N → defaultValue (ty0 j) = vp_V (fvs G k (rini csx) 0 csx) j) (hno1 : ∀ (j b : Nat), csx[j]? ≠ some (1, b))
    (hnl : ¬ G.2.2.2 k a) (hk : k < 1000) (ha : a < 48 ∨ 60 ≤ a) (hls : lsok ls st a = true) (hc : cs + 1 ≤ rm.cells) (hs : ss + N ≤ rm.slots) (d : decode cc pc = .ok (.new index, 3)) {K : Mem → Option τ}
    (kk : ∀ G1 y, GE C.2.2.2.2.1.heap.size G G1 [(k, a)] → Cx C cc nL own ret rm G1 → Rg C nL G1 (cs + 1) (ss + N) gm Qt (pc + 3) ls (.inr (k, a) :: st) y (K y)) : Rg C nL G cs ss gm Qt pc ls st x0 (bnd (wrAM x0 k a (rini csx)) K) := by
  intro t hP H locs lsA hH hS hL
  obtain ⟨hx, hb, hml, hown, hts, hK, hG, hlk, hr, hR, hZ⟩ := id hC
  have hKn := hK.1 ci _ hcv
  refine W.newcK hx hb hown (hts _ hcl) (hts _ hinst) (hts _ hini) rfl d (by rw [hR]; exact hc) (by rw [hR]; exact hs) hKn.2.1 rfl fun H1 kC hkC e1 z1 o1 => ?_
  refine rg_add hC hH hS hL hnl hk ha hls rfl ?_ ?_ z1 o1 hP kk
  · rw [ent_obj hkd]
    exact ⟨_, hcv, (u_born ty0 hts hin hKn hkC e1 hty).to (fun j hj => hdef _ _ j hj)⟩
  · unfold RefOk
    rw [hkd]
    intro j c b hb2
    refine ⟨fun e => absurd (by rw [← e]; exact hb2) (hno1 j b), fun e => Or.inl ?_, fun e => Or.inl ?_⟩
    · have hb2' : csx[j]? = some (c, b) := hb2
      subst e
      show rini csx j < 0
      unfold rini
      rw [hb2']
      show (-1 : Int32) < 0
      decide
    · have hb2' : csx[j]? = some (c, b) := hb2
      show rini csx j = 0
      unfold rini
      rw [hb2']
      match c, e with
      | n + 4, _ => rfl
theorem zg_newq (hC : Cx C cc nL own ret rm G) {n index : Nat} (hkd : kd a = .inl (3, n)) (hclink : Cond.classLink own index RX4 ∈ gw) (hover : va_AO RX4 C.2.2.2.2.1) (hnl : ¬ G.2.2.2 k a) (hk : k < 1000) (ha : a < 48 ∨ 60 ≤ a) (hls : lsok ls st a = true) {nn : Int32} (hnn : ¬ nn < 0) (hN : nn.toNatClampNeg = n) (hbytes : n * 4 ≤ 536870912) (hc : cs + 1 ≤ rm.cells) (hs : ss + n ≤ rm.slots) (d : decode cc pc = .ok (.anewarray index, 3)) {K : Mem → Option τ}
    (kk : ∀ G1 y, GE C.2.2.2.2.1.heap.size G G1 [(k, a)] → Cx C cc nL own ret rm G1 → Rg C nL G1 (cs + 1) (ss + n) gm Qt (pc + 3) ls (.inr (k, a) :: st) y (K y)) : Rg C nL G cs ss gm Qt pc ls (.inl (.int nn) :: st) x0 (bnd (wrAM x0 k a (fun _ => -1)) K) := by
  intro t hP H locs lsA hH hS hL
  obtain ⟨hx, hb, hml, hown, hts, hK, hG, hlk, hr, hR, hZ⟩ := id hC
  subst hN
  refine W.anew hx hb hown (hts _ hclink) (va_AO.use hover) rfl d rfl hnn hbytes (by rw [hR]; exact hc) (by rw [hR]; exact hs) fun cA kA comp f1 f2 f3 f4 => ?_
  have hcA : cA = G.2.1 3 := by
    obtain ⟨-, -, -, -, -, h4⟩ := (hK.2 3 _ rfl).2
    first | exact Option.some.inj (f4.symm.trans h4) | exact Option.some.inj (f1.symm.trans h4) | exact Option.some.inj (f2.symm.trans h4)
  subst hcA
  refine rg_add hC hH hS hL hnl hk ha hls rfl ?_ ?_ (by rw [Array.size_push]) (fun q hq => by rw [Array.getElem?_push, if_neg (Nat.ne_of_lt hq)]) hP kk
  · rw [ent_arr hkd]
    show _ = some (vp_cell _ _)
    rw [Array.getElem?_push_size, arrV_new]
    rfl
  · unfold RefOk
    rw [hkd]
    exact fun _ i => Or.inl (show (-1 : Int32) < 0 by decide)
end ZA
section ZI
variable {C : Cxt} {cc : ByteArray} {nL : Nat} {own : String} {ret : Option FieldType} {rm : Room} {G : Geo} {σ τ : Type} {mem : σ → Mem} {Qt : τ → State → Prop} {cs ss : Nat} {pc : Nat} {ls : List (Nat × AV)} {st : List AV} {x0 : σ} {P : Option τ} {k a : Nat}
theorem z_objI (hC : Cx C cc nL own ret rm G) {b : Nat × Nat} {index : Nat} (hlink : Cond.methodLink own index Lib.objectInit ∈ gw) (hinst : Cond.instanceMethod Lib.objectInit ∈ gw) (hcode : Cond.code Lib.objectInit ⟨#[0xb1]⟩ 1 none ∈ gw) (hf : 1 ≤ rm.frames) (hlo : (st.map cat).sum + 12 ≤ rm.locals) (d : decode cc pc = .ok (.invokespecial index, 3))
    (kk : Rg C nL G cs ss mem Qt (pc + 3) ls st x0 P) : Rg C nL G cs ss mem Qt pc ls (.inr b :: st) x0 P := by
  intro t hP H locs lsA hH hS hL
  obtain ⟨hx, hb, hml, hown, hts, hK, hG, hlk, hr, hR, hZ⟩ := id hC
  exact W.objInit hx hb hown (hts _ hlink) (hts _ hinst) (hts _ hcode) rfl (by show lsA.size = _; rw [hml, hL.1]) rfl d (by rw [hR]; exact hf) (by show 2 * 0 + _ + _ ≤ _; rw [hR, cat_sum]; omega) (kk t hP H locs lsA hH hS hL)
/-- a final field, in a constructor -/
theorem z_putF (hC : Cx C cc nL own ret rm G) (hnm : C.2.2.2.2.2.2.2.2.1.name = "<init>") (hl : G.2.2.2 k a) {j code b index : Nat} {name desc : String} (hF : FD a j code b own name desc true) (hlink : Cond.fieldLink own index own name desc ∈ gw) {ty : FieldType} {v : AV} (hd : parseFieldDescriptor desc = some ty) (hn : narrow ty (ph G v) = ph G v) (hfit : fits ty (ph G v) = true)
    (x2 : σ) (hne : ∀ k' a', ¬ (k' = k ∧ a' = a) → mem x2 k' a' = mem x0 k' a') (hj : fv G k (mem x2 k a) (code, b) j = ph G v) (hi : ∀ i, i ≠ j → mem x2 k a i = mem x0 k a i) (hr : ∀ H, Holds G (mem x0) H → RefOk G k a (mem x2 k a)) (d : decode cc pc = .ok (.putfield index, 3))
    (kk : Rg C nL G cs ss mem Qt (pc + 3) ls st x2 P) : Rg C nL G cs ss mem Qt pc ls (v :: .inr (k, a) :: st) x0 P := by
  intro t hP H locs lsA hH hS hL
  obtain ⟨ci, csx, T, N, ty0, h1, h2, h3, h4, h5, h6, h7, h8, h9, h10, h11⟩ := hF
  obtain ⟨hx, hb, hml, hown, hts, hK, hG, -⟩ := id hC
  have hat := (hH.1 k a hl).no (nt_obj h1)
  rw [ent_obj h1] at hat
  have hap := va_apart (own := own) hts h5 ty0 h7 h8 hK h3
  obtain ⟨r0, q0, cell, q1, q2, q3, q4⟩ := hat
  have hr0 : r0 = (own, T, N) := Option.some.inj (q0.symm.trans h3)
  subst hr0
  obtain ⟨hSl, hfc, kC, hkC, hkind⟩ := hK.1 ci _ h3
  obtain ⟨cf, kf, fi, fd, hif, hsl⟩ := hSl j h4
  have hlay := hts _ (h5 _ (u_in_lay h4))
  unfold u_lay at hlay
  dsimp only at hif
  rw [h6] at hlay hif
  simp only [if_true] at hlay
  have hst := (u_facts hfc hkC (Or.inr hlay) hif).1
  have hcf : C.2.2.2.2.2.1.cls = cf := by
    obtain ⟨_, _, c', _, _, _, -, -, hf', -, -, -, hown2, -⟩ := Cond.laysFinal_spec hlay
    have e1 : c' = cf := by have := hif.symm.trans hf'; simp at this; exact this.1.symm
    rw [← e1]; exact Option.some.inj (hown.symm.trans hown2)
  have h66 := u_fits hfc hkC hkind (Or.inr hlay) hif hd hn hfit
  refine W.putFinK hx hb hown (hts _ hlink) hif hst hcf hnm (by rw [q2]; exact h66) q1 q3 (by rw [hsl]; exact k2_hasslot (q4 j h4)) rfl rfl d fun H' e1 e2 e3 => ?_
  rw [hsl] at e1 ⊢
  refine kk t hP H' _ lsA (hH.wr hG hl (nt_obj h1) hne ?_ (hr H hH) e3) (hS.put e2 e3 (Or.inl (Fr.of hl h11))) hL
  rw [ent_obj h1]
  refine ⟨_, h3, t_OB.to (V := updV (vp_V (fvs G k (mem x0 k a) 0 csx)) j (ph G v)) ⟨_, e1, q2, q3, t_set q4 hap h4 (ph G v)⟩ (fun i hi2 => ?_)⟩
  exact fvs_put h2 (fun i h _ => hi i h) hj (by omega) i (by rw [h9]; exact hi2)
/-- the refs of a cell when one field that holds a reference of a new object is laid -/
theorem zg_putS {x0 : Mem} {Qt : τ → State → Prop} (hC : Cx C cc nL own ret rm G) (hnm : C.2.2.2.2.2.2.2.2.1.name = "<init>") (hl : G.2.2.2 k a) {j b index : Nat} (hlb : G.2.2.2 k b) {name desc : String} (hF : FD a j 4 b own name desc true) (hlink : Cond.fieldLink own index own name desc ∈ gw) {ty : FieldType} (hd : parseFieldDescriptor desc = some ty) (hn : ∀ p, narrow ty (.ref p) = .ref p) (hfit : ∀ p, fits ty (.ref p) = true) (d : decode cc pc = .ok (.putfield index, 3)) {K : Mem → Option τ}
    (kk : ∀ y, Rg C nL G cs ss gm Qt (pc + 3) ls st y (K y)) : Rg C nL G cs ss gm Qt pc ls (.inr (k, b) :: .inr (k, a) :: st) x0 (bnd (wrM x0 k a j 1) K) := by
  have hi : ∀ i, i ≠ j → wrM x0 k a j 1 k a i = x0 k a i := fun i h => by rw [wrM_pt]; exact if_neg h
  have hj : wrM x0 k a j 1 k a j = 1 := by rw [wrM_pt]; exact if_pos rfl
  refine z_putF (mem := gm) (v := .inr (k, b)) hC hnm hl hF hlink hd (hn _) (hfit _) (wrM x0 k a j 1) (fun k' a' h => wrM_ne _ _ _ _ _ _ _ h) ?_ hi (fun H hH => ?_) d (kk _)
  · show (if wrM x0 k a j 1 k a j = 0 then Value.null else .ref _) = _
    rw [hj]; rfl
  · obtain ⟨ci, csx, T, N, ty0, h1, h2, h3, h4, h5, h6, h7, h8, h9, h10, h11⟩ := hF
    have h := hH.2 k a hl
    unfold RefOk at h ⊢
    rw [h1] at h ⊢
    intro i c2 b2 hb2
    by_cases e : i = j
    · subst e
      rw [h2] at hb2
      cases hb2
      exact ⟨fun e => absurd e (by decide), fun e => absurd e (by decide), fun _ => Or.inr hlb⟩
    · show (c2 = 1 → _) ∧ (c2 = 2 → wrM x0 k a j 1 k a i < 0 ∨ G.2.2.2 (wrM x0 k a j 1 k a i).toNatClampNeg b2) ∧ (3 < c2 → wrM x0 k a j 1 k a i = 0 ∨ _)
      rw [hi i e]
      exact h i c2 b2 hb2
end ZI
