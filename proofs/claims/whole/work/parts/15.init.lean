/-! ===== constructors: contracts, calls, a new object's cells under their own kind ===== -/
theorem kd_out {a : Nat} (h : 66 ≤ a) : kd a = .inl (9, 0) := by
  obtain ⟨n, rfl⟩ := Nat.exists_eq_add_of_le h
  rw [Nat.add_comm]
  rfl
theorem GE.mono {n0 n1 : Nat} {G G1 : Geo} {L : List (Nat × Nat)} (h : GE n1 G G1 L) (hn : n0 ≤ n1) : GE n0 G G1 L := ⟨h.1, h.2.1, h.2.2.1, h.2.2.2.1, h.2.2.2.2.1, fun q hq => Nat.le_trans hn (h.2.2.2.2.2 q hq)⟩
theorem GE.refl' {n0 : Nat} {G : Geo} : GE n0 G G [] := ⟨rfl, rfl, fun k a => ⟨Or.inr, fun h => h.elim (fun h => absurd h List.not_mem_nil) id⟩, fun _ _ _ => rfl, fun _ h => absurd h List.not_mem_nil, fun _ h => absurd h List.not_mem_nil⟩
/-- G1 is G, but for the cell (k, a), which is now called (k, b) -/
def GL (G G1 : Geo) (k a b : Nat) : Prop := G1.1 = G.1 ∧ G1.2.1 = G.2.1 ∧ (∀ k' a', G1.2.2.2 k' a' ↔ ((k' = k ∧ a' = b) ∨ (G.2.2.2 k' a' ∧ ¬ (k' = k ∧ a' = a)))) ∧ (∀ k' a', ¬ (k' = k ∧ a' = b) → G1.2.2.1 k' a' = G.2.2.1 k' a') ∧ G1.2.2.1 k b = G.2.2.1 k a ∧ ¬ G.2.2.2 k b ∧ G.2.2.2 k a
def relG (G : Geo) (k a b : Nat) : Geo := (G.1, G.2.1, fun k' a' => if k' = k ∧ a' = b then G.2.2.1 k a else G.2.2.1 k' a', fun k' a' => (k' = k ∧ a' = b) ∨ (G.2.2.2 k' a' ∧ ¬ (k' = k ∧ a' = a)))
theorem relG_gl {G : Geo} {k a b : Nat} (h1 : ¬ G.2.2.2 k b) (h2 : G.2.2.2 k a) : GL G (relG G k a b) k a b := ⟨rfl, rfl, fun _ _ => Iff.rfl, fun k' a' h => if_neg h, if_pos ⟨rfl, rfl⟩, h1, h2⟩
/-- a new object with all its parts, under its own kind -/
theorem GE.rel {n0 : Nat} {G Ga Gb Gc : Geo} {k a b : Nat} {L : List (Nat × Nat)} (h1 : GE n0 G Ga [(k, a)]) (h2 : GE n0 Ga Gb L) (h3 : GL Gb Gc k a b) (hL : (k, a) ∉ L) : GE n0 G Gc ((k, b) :: L) := by
  have h12 := h1.trans h2
  obtain ⟨a1, a2, a3, a4, a5, a6⟩ := h12
  obtain ⟨b1, b2, b3, b4, b5, b6, b7⟩ := h3
  have hna : ¬ G.2.2.2 k a := h1.2.2.2.2.1 (k, a) List.mem_cons_self
  have hnb : ¬ G.2.2.2 k b := fun h => b6 ((a3 k b).mpr (Or.inr h))
  have hLm : ∀ k' a', (k', a') ∈ L → ¬ (k' = k ∧ a' = a) := fun k' a' h e => hL (by rw [← e.1, ← e.2]; exact h)
  refine ⟨b1.trans a1, b2.trans a2, fun k' a' => ?_, fun k' a' hl => ?_, fun q hq => ?_, fun q hq => ?_⟩
  · rw [b3, a3, List.mem_cons, List.mem_append, List.mem_singleton, Prod.mk.injEq, Prod.mk.injEq]
    constructor
    · rintro (h | ⟨(h | h) | h, hn⟩)
      · exact Or.inl (Or.inl h)
      · exact Or.inl (Or.inr h)
      · exact absurd h hn
      · exact Or.inr h
    · rintro ((h | h) | h)
      · exact Or.inl h
      · exact Or.inr ⟨Or.inl (Or.inl h), hLm _ _ h⟩
      · exact Or.inr ⟨Or.inr h, fun e => hna (by rw [← e.1, ← e.2]; exact h)⟩
  · rw [b4 k' a' (fun e => hnb (by rw [← e.1, ← e.2]; exact hl)), a4 k' a' hl]
  · rcases List.mem_cons.mp hq with h | h
    · rw [h]; exact hnb
    · exact a5 q (List.mem_append_left _ h)
  · rcases List.mem_cons.mp hq with h | h
    · rw [h]
      show n0 ≤ Gc.2.2.1 k b
      rw [b5]
      exact a6 (k, a) (List.mem_append_right _ List.mem_cons_self)
    · have hnq : ¬ (q.1 = k ∧ q.2 = b) := by
        intro e
        have : Gb.2.2.2 q.1 q.2 := (a3 _ _).mpr (Or.inl (List.mem_append_left _ h))
        rw [e.1, e.2] at this
        exact b6 this
      rw [b4 q.1 q.2 hnq]
      exact a6 q (List.mem_append_left _ h)
/-- no cell refers to a kind that is only for the time of making -/
def kd_chk (a : Nat) : Bool := match kd a with
  | .inl _ => true
  | .inr q => q.2.all (fun c => Nat.blt c.2 60)
theorem kd_small {a ci : Nat} {cs : List (Nat × Nat)} (h : kd a = .inr (ci, cs)) {j c b : Nat} (hj : cs[j]? = some (c, b)) : b < 60 := by
  have h66 : ∀ a, a < 66 → kd_chk a = true := by decide
  have hc : kd_chk a = true := by
    by_cases ha : a < 66
    · exact h66 a ha
    · exfalso
      have : kd a = .inl (9, 0) := kd_out (Nat.le_of_not_lt ha)
      rw [this] at h; cases h
  unfold kd_chk at hc
  rw [h] at hc
  have := List.all_eq_true.mp hc (c, b) (List.mem_of_getElem? hj)
  exact Nat.blt_eq.mp this
theorem rel_ref {G G1 : Geo} {k a b : Nat} (h : GL G G1 k a b) (ha : 60 ≤ a) {k' b' : Nat} (hb : b' < 60) (hl : G.2.2.2 k' b') : G1.2.2.2 k' b' ∧ G1.2.2.1 k' b' = G.2.2.1 k' b' := by
  refine ⟨(h.2.2.1 k' b').mpr (Or.inr ⟨hl, fun e => by omega⟩), h.2.2.2.1 k' b' (fun e => h.2.2.2.2.2.1 (by rw [← e.1, ← e.2]; exact hl))⟩
theorem ent_rel {G G1 : Geo} {k a b : Nat} (h : GL G G1 k a b) (ha : 60 ≤ a) {k' a' : Nat} {f : Nat → Int32} (hR : RefOk G k' a' f) : ent G1 k' a' f = ent G k' a' f ∧ RefOk G1 k' a' f := by
  have hrf : ∀ b v, b < 60 → (v < 0 ∨ G.2.2.2 v.toNatClampNeg b) → rf G1 b v = rf G b v := by
    intro b v hb hv
    unfold rf
    by_cases hv0 : v < 0
    · rw [if_pos hv0, if_pos hv0]
    · rw [if_neg hv0, if_neg hv0, (rel_ref h ha hb (hv.resolve_left hv0)).2]
  unfold ent RefOk at *
  rw [h.2.1]
  cases hk : kd a' with
  | inl q =>
    obtain ⟨ty, len⟩ := q
    rw [hk] at hR
    refine ⟨?_, fun e i => (hR e i).imp id (fun hl => (rel_ref h ha (by decide) hl).1)⟩
    have e : arrC G1 ty len f = arrC G ty len f := by
      match ty, hR with
      | 0, _ => rfl
      | 1, _ => rfl
      | 2, _ => rfl
      | t + 3, hR =>
        have h2 : (fun i => rf G1 10 (f i)) = (fun i => rf G 10 (f i)) := by
          funext i
          exact hrf 10 (f i) (by decide) (hR (by omega) i)
        unfold arrC
        simp only [h2]
    simp only [e]
  | inr q =>
    obtain ⟨ci, cs⟩ := q
    rw [hk] at hR
    refine ⟨?_, fun j c b2 hb2 => ⟨fun e => (rel_ref h ha (kd_small hk hb2) ((hR j c b2 hb2).1 e)).1, fun e => ((hR j c b2 hb2).2.1 e).imp id (fun hl => (rel_ref h ha (kd_small hk hb2) hl).1), fun e => ((hR j c b2 hb2).2.2 e).imp id (fun hl => (rel_ref h ha (kd_small hk hb2) hl).1)⟩⟩
    have e : fvs G1 k' f 0 cs = fvs G k' f 0 cs := by
      refine fvs_ext cs 0 (fun i c hc => ?_)
      rw [Nat.zero_add]
      obtain ⟨c1, c2⟩ := c
      obtain ⟨r1, r2, r3⟩ := hR i c1 c2 hc
      have hb := kd_small hk hc
      match c1, r1, r2, r3 with
      | 0, _, _, _ => rfl
      | 1, r1, _, _ =>
        show Value.ref _ = Value.ref _
        rw [(rel_ref h ha hb (r1 rfl)).2]
      | 2, _, r2, _ =>
        show va_rf _ = va_rf _
        rw [hrf c2 (f i) hb (r2 rfl)]
      | 3, _, _, _ => rfl
      | t + 4, _, _, r3 =>
        show (if f i = 0 then Value.null else .ref _) = (if f i = 0 then Value.null else .ref _)
        by_cases h0 : f i = 0
        · rw [if_pos h0, if_pos h0]
        · rw [if_neg h0, if_neg h0, (rel_ref h ha hb ((r3 (by omega)).resolve_left h0)).2]
    simp only [e]
/-- the codes of a made object against those of one that is made -/
def csraw (cs : List (Nat × Nat)) : List (Nat × Nat) := cs.map (fun c => if c.1 = 1 then (4, c.2) else c)
abbrev cdone (cs : List (Nat × Nat)) (f : Nat → Int32) : Prop := ∀ j, j < cs.length → (cs[j]?.map Prod.fst) = some 1 → f j ≠ 0
theorem Holds.rel {G G1 : Geo} {M M2 : Mem} {H : Heap} {k a b ci : Nat} {cs : List (Nat × Nat)} (h : Holds G M H) (hR : GL G G1 k a b) (ha : 60 ≤ a) (hb : kd b = .inr (ci, cs)) (hka : kd a = .inr (ci, csraw cs)) (hc4 : ∀ c ∈ cs, c.1 < 4) (hM : ∀ k' a', ¬ (k' = k ∧ a' = b) → M2 k' a' = M k' a') (hMb : M2 k b = M k a) (hd : cdone cs (M k a)) : Holds G1 M2 H := by
  have hla := hR.2.2.2.2.2.2
  have key : ∀ k' a', G1.2.2.2 k' a' → (k' = k ∧ a' = b) ∨ (¬ (k' = k ∧ a' = b) ∧ G.2.2.2 k' a') := by
    intro k' a' hl
    by_cases e : k' = k ∧ a' = b
    · exact Or.inl e
    · rcases (hR.2.2.1 k' a').mp hl with h2 | h2
      · exact absurd h2 e
      · exact Or.inr ⟨e, h2.1⟩
  obtain ⟨e1, e2⟩ := ent_rel hR ha (h.2 k a hla)
  have hraw : ∀ j c, cs[j]? = some c → (csraw cs)[j]? = some (if c.1 = 1 then (4, c.2) else c) := fun j c hj => by unfold csraw; rw [List.getElem?_map, hj]; rfl
  refine ⟨fun k' a' hl' => ?_, fun k' a' hl' => ?_⟩
  · rcases key k' a' hl' with ⟨g1, g2⟩ | ⟨g, hl⟩
    · subst g1; subst g2
      refine ET.of ?_ (nt_obj hb)
      rw [hMb, hR.1, hR.2.2.2.2.1]
      have := (h.1 k' a hla).no (nt_obj hka)
      rw [← e1, ent_obj hka] at this
      rw [ent_obj hb]
      have ee : fvs G1 k' (M k' a) 0 (csraw cs) = fvs G1 k' (M k' a) 0 cs := by
        apply List.ext_getElem?
        intro j
        rw [fvs_get, fvs_get]
        cases hj : cs[j]? with
        | none => unfold csraw; rw [List.getElem?_map, hj]; rfl
        | some c =>
          rw [hraw j c hj]
          simp only [Option.map_some, Nat.zero_add]
          congr 1
          by_cases h1 : c.1 = 1
          · rw [if_pos h1]
            have h0 : M k' a j ≠ 0 := hd j (List.getElem?_eq_some_iff.mp hj).1 (by rw [hj]; simp [h1])
            obtain ⟨c1, c2⟩ := c
            subst h1
            show (if M k' a j = 0 then Value.null else .ref _) = _
            rw [if_neg h0]; rfl
          · rw [if_neg h1]
      rw [← ee]
      exact this
    · obtain ⟨f1, f2⟩ := ent_rel hR ha (h.2 k' a' hl)
      have h9 := h.1 k' a' hl
      unfold ET at h9 ⊢
      rw [hM k' a' g, hR.1, hR.2.1, f1, hR.2.2.2.1 k' a' g]
      exact h9
  · rcases key k' a' hl' with ⟨g1, g2⟩ | ⟨g, hl⟩
    · subst g1; subst g2
      rw [hMb]
      unfold RefOk at e2 ⊢
      rw [hka] at e2
      rw [hb]
      intro j c b2 hj
      have hcc := hc4 (c, b2) (List.mem_of_getElem? hj)
      by_cases h1 : c = 1
      · subst h1
        have h0 : M k' a j ≠ 0 := hd j (List.getElem?_eq_some_iff.mp hj).1 (by rw [hj]; rfl)
        have := (e2 j 4 b2 (hraw j (1, b2) hj)).2.2 (by omega)
        exact ⟨fun _ => this.resolve_left h0, fun e => absurd e (by decide), fun e => absurd e (by decide)⟩
      · have hj2 : (csraw cs)[j]? = some (c, b2) := by
          have := hraw j (c, b2) hj
          rw [if_neg h1] at this; exact this
        have := e2 j c b2 hj2
        exact ⟨this.1, this.2.1, fun e => absurd hcc (by show ¬ c < 4; omega)⟩
    · rw [hM k' a' g]
      exact (ent_rel hR ha (h.2 k' a' hl)).2
/-- a value whose cell, if it is a reference, is there -/
def lvA (G : Geo) (v : AV) : Prop := match v with
  | .inl _ => True
  | .inr q => G.2.2.2 q.1 q.2
theorem ph_ext {n0 : Nat} {G G1 : Geo} {L : List (Nat × Nat)} (hE : GE n0 G G1 L) {v : AV} (h : lvA G v) : ph G1 v = ph G v := by
  rcases v with v | ⟨k', a'⟩
  · rfl
  · show Value.ref _ = Value.ref _
    rw [hE.2.2.2.1 k' a' h]
section ZN
variable {C : Cxt} {cc : ByteArray} {nL : Nat} {own : String} {ret : Option FieldType} {rm : Room} {G G0 : Geo} {τ : Type} {Qt : τ → State → Prop} {cs ss : Nat} {pc : Nat} {ls : List (Nat × AV)} {st stk : List AV} {x0 : Mem} {P : Option τ} {k a b : Nat}
theorem Cx.ext {G1 : Geo} {L : List (Nat × Nat)} (hC : Cx C cc nL own ret rm G) (hE : GE C.2.2.2.2.1.heap.size G G1 L) (hG1 : GOk G1) (hL : ∀ q ∈ L, q.2 < 48 ∨ 60 ≤ q.2) : Cx C cc nL own ret rm G1 := by
  obtain ⟨hx, hb, hml, hown, hts, hK, hG, hlk, hr, hR, hZ⟩ := hC
  refine ⟨hx, hb, hml, hown, hts, ?_, hG1, hlk, hr, hR, ⟨fun kb b h1 h2 h3 => ?_, hZ.2⟩⟩
  · unfold KOk at *
    rw [hE.1, hE.2.1]; exact hK
  · rcases (hE.2.2.1 kb b).mp h3 with g1 | g1
    · have := hL _ g1
      simp only at this
      omega
    · rw [hE.2.2.2.1 kb b g1, hE.2.1]
      refine ⟨va_Z_fr (hZ.1 kb b h1 h2 g1).1 (fun q hq hq2 => ?_), (hZ.1 kb b h1 h2 g1).2⟩
      rcases hE.fr' hq2 with h | h
      · exact h
      · omega
/-- what a constructor needs of the tables -/
def YI (y : MethodName) (bytes : ByteArray) (maxL n : Nat) : Prop := Cond.instanceMethod y ∈ gw ∧ y.name = "<init>" ∧ Cond.code y bytes maxL none ∈ gw ∧ Cond.initialized y.cls ∈ gw ∧ y.cls ≠ "java/lang/invoke/MethodHandle" ∧ y.cls ≠ "java/lang/invoke/VarHandle" ∧ (parseMethodDescriptor y.desc).map (fun d => d.parameters.length) = some n ∧ plainName y.cls = true
end ZN
