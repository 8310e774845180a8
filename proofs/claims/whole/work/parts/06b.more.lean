/-! ===== rows for references that are written, for arrays that are copied, for the tables, for null ===== -/
abbrev cpok (sp dp n : Int32) (n0 n1 : Nat) : Prop := (0 ≤ sp.toInt ∧ 0 ≤ dp.toInt ∧ 0 ≤ n.toInt) ∧ ix sp + ix n ≤ n0 ∧ ix dp + ix n ≤ n1
def wrA (d : Sl) (a : Nat) (f : Nat → Int32) : Sl := fun b => if b = a then f else d b
def wrAM (M : Mem) (k a : Nat) (f : Nat → Int32) : Mem := setS M k (wrA (M k) a f)
theorem wrAM_ne (M : Mem) (k a : Nat) (f : Nat → Int32) (k' a' : Nat) (h : ¬ (k' = k ∧ a' = a)) : wrAM M k a f k' a' = M k' a' := by
  unfold wrAM
  by_cases e : k' = k
  · subst e
    rw [setS_at]
    exact if_neg (fun z => h ⟨rfl, z⟩)
  · rw [setS_ne _ _ e]
theorem wrAM_at (M : Mem) (k a : Nat) (f : Nat → Int32) : wrAM M k a f k a = f := by
  unfold wrAM
  rw [setS_at]
  exact if_pos rfl
theorem wrAM_setS (M : Mem) (k : Nat) (d : Sl) (a : Nat) (f : Nat → Int32) : wrAM (setS M k d) k a f = setS M k (wrA d a f) := by
  unfold wrAM; rw [setS_at, setS_setS]
theorem fb_bmod' {z : Int} (h1 : -2147483648 ≤ z) (h2 : z < 2147483648) : z.bmod (2 ^ 32) = z := by
  apply Int.bmod_eq_of_le <;> omega
theorem nonneg_not {z : Int32} (h : 0 ≤ z.toInt) : ¬ z < 0 := by
  intro h1
  have := Int32.lt_iff_toInt_lt.mp h1
  have e : (0 : Int32).toInt = 0 := rfl
  omega
section ZY
variable {C : Cxt} {cc : ByteArray} {nL : Nat} {own : String} {ret : Option FieldType} {rm : Room} {G : Geo} {σ τ : Type} {mem : σ → Mem} {Qt : τ → State → Prop} {cs ss : Nat} {pc : Nat} {ls : List (Nat × AV)} {st : List AV} {x0 : σ} {P : Option τ} {k a : Nat}
theorem z_putr (hC : Cx C cc nL own ret rm G) (hl : G.2.2.2 k a) {q b : Nat} (hq : G.2.2.2 q b) {j index : Nat} {Cn name desc cn : String} (hF : FD a j 2 b Cn name desc false) (hlink : Cond.fieldLink own index Cn name desc ∈ gw) (hd : parseFieldDescriptor desc = some (.object cn)) (x2 : σ) (hw : wrM (mem x0) k a j (nI q) = mem x2) (d : decode cc pc = .ok (.putfield index, 3)) {K : σ → Option τ}
    (kk : ∀ y, Rg C nL G cs ss mem Qt (pc + 3) ls st y (K y)) : Rg C nL G cs ss mem Qt pc ls (.inr (q, b) :: .inr (k, a) :: st) x0 (bnd x2 K) := by
  have hq2 : q < 2 ^ 31 := Nat.lt_trans (hC.2.2.2.2.2.2.1.2 q b hq) (by decide)
  have hi : ∀ i, i ≠ j → mem x2 k a i = mem x0 k a i := fun i h => by rw [← hw, wrM_at]; exact if_neg h
  have hj : mem x2 k a j = nI q := by rw [← hw, wrM_at]; exact if_pos rfl
  refine z_put (v := .inr (q, b)) hC hl hF hlink hd rfl rfl x2 (fun k' a' h => by rw [← hw]; exact wrM_ne _ _ _ _ _ _ _ h) ?_ (fun i h _ => hi i h) (Or.inl (hi _ (by omega))) (fun H hH => ?_) d (kk x2)
  · show va_rf (rf G b (mem x2 k a j)) = _
    rw [hj]; unfold rf; rw [if_neg (nI_pos hq2), nI_clamp hq2]; rfl
  · obtain ⟨ci, cs, T, N, ty0, h1, h2, h3, h4, h5, h6, h7, h8, h9, h10, h11⟩ := hF
    have h := hH.2 k a hl
    unfold RefOk at h ⊢
    rw [h1] at h ⊢
    intro i c2 b2 hb2
    by_cases e : i = j
    · subst e
      rw [h2] at hb2
      cases hb2
      refine ⟨fun e => absurd e (by decide), fun _ => ?_, fun e => absurd e (by decide)⟩
      rw [hj, nI_clamp hq2]
      exact Or.inr hq
    · rw [hi i e]
      exact h i c2 b2 hb2
theorem wrM_pt (M : Mem) (k a i : Nat) (v : Int32) (j : Nat) : wrM M k a i v k a j = if j = i then v else M k a j := by rw [wrM_at]
theorem dl_of (v : Int64) : dl (lo32 v) (hi32 v) = v := by
  have h1 : -9223372036854775808 ≤ v.toInt := Int64.le_toInt v
  have h2 : v.toInt < 9223372036854775808 := Int64.toInt_lt v
  have e1 : ((lo32 v).toBitVec.toNat : Int) = v.toInt % 4294967296 := by
    show (((Int32.ofInt v.toInt).toBitVec.toNat : Nat) : Int) = _
    rw [show (Int32.ofInt v.toInt).toBitVec = BitVec.ofInt 32 v.toInt from rfl, BitVec.toNat_ofInt]
    have : (0 : Int) ≤ v.toInt % ((2 ^ 32 : Nat) : Int) := Int.emod_nonneg _ (by decide)
    rw [Int.toNat_of_nonneg this]
    rfl
  have e2 : (hi32 v).toInt = v.toInt / 4294967296 := by
    show (Int32.ofInt (v.toInt / 4294967296)).toInt = _
    rw [Int32.toInt_ofInt]
    exact fb_bmod' (by omega) (by omega)
  unfold dl
  rw [e1, e2]
  have : v.toInt / 4294967296 * 4294967296 + v.toInt % 4294967296 = v.toInt := by omega
  rw [this]
  exact Int64.ofInt_toInt v
theorem z_putl (hC : Cx C cc nL own ret rm G) (hl : G.2.2.2 k a) {j b index : Nat} {Cn name : String} (hF : FD a j 3 b Cn name "J" false) (hlink : Cond.fieldLink own index Cn name "J" ∈ gw) {v : Int64} (x2 : σ) (hw : wrM (wrM (mem x0) k a j (lo32 v)) k a (j + 64) (hi32 v) = mem x2) (d : decode cc pc = .ok (.putfield index, 3)) {K : σ → Option τ}
    (kk : ∀ y, Rg C nL G cs ss mem Qt (pc + 3) ls st y (K y)) : Rg C nL G cs ss mem Qt pc ls (.inl (.long v) :: .inr (k, a) :: st) x0 (bnd x2 K) := by
  have hi : ∀ i, i ≠ j → i ≠ j + 64 → mem x2 k a i = mem x0 k a i := fun i h h2 => by rw [← hw, wrM_pt, if_neg h2, wrM_pt, if_neg h]
  refine z_put (v := .inl (.long v)) hC hl hF hlink (ty := .long) rfl rfl rfl x2 (fun k' a' h => by rw [← hw, wrM_ne _ _ _ _ _ _ _ h, wrM_ne _ _ _ _ _ _ _ h]) ?_ hi (Or.inr rfl) (fun H hH => refok_int hF ⟨by decide, by decide⟩ (hH.2 k a hl) (fun i h h2 => hi i h (by omega))) d (kk x2)
  show Value.long _ = _
  have e1 : mem x2 k a j = lo32 v := by rw [← hw, wrM_pt, if_neg (by omega), wrM_pt, if_pos rfl]
  have e2 : mem x2 k a (j + 64) = hi32 v := by rw [← hw, wrM_pt, if_pos rfl]
  rw [e1, e2, dl_of]; rfl
/-- System.arraycopy -/
theorem z_cp {ty : Nat} {fty : FieldType} {mk : Int32 → Value} (hC : Cx C cc nL own ret rm G) {k0 a0 k1 a1 n0 n1 : Nat} (ht0 : tbc a0 = false) (hl0 : G.2.2.2 k0 a0) (hl1 : G.2.2.2 k1 a1) (ha1 : a1 < 48) (hd0 : kd a0 = .inl (ty, n0)) (hd1 : kd a1 = .inl (ty, n1)) (hmk : ∀ n f, vp_cell (G.2.1 ty) (arrC G ty n f) = arrV (G.2.1 ty) n (fun j => mk (f j))) (hty : ArrOfT C.2.2.2.2.1 (G.2.1 ty) fty) (hprim : refKind fty = false) (hne3 : ¬ 2 < ty) (hfit : ∀ z, fits fty (mk z) = true) (htk : ∀ (U : State) (c : ClassId) z, U.takes c (mk z))
    {index : Nat} (hlink : Cond.methodLink own index arraycopyName ∈ gw) (hnat : Cond.native arraycopyName ∈ gw) (hstat : Cond.static arraycopyName ∈ gw) (hini : Cond.initialized "java/lang/System" ∈ gw) (hf : 1 ≤ rm.frames) (hlo : (st.map cat).sum + (nativeFrameWords "java/lang/System" "arraycopy" 5 + 11) ≤ rm.locals) {sp dp n : Int32} (x2 : σ) (hw : wrAM (mem x0) k1 a1 (va_cpy (mem x0 k0 a0) (mem x0 k1 a1) (ix sp) (ix dp) (ix n)) = mem x2) (d : decode cc pc = .ok (.invokestatic index, 3)) {K : σ → Option τ} [Decidable (cpok sp dp n n0 n1)]
    (kk : ∀ y, Rg C nL G cs ss mem Qt (pc + 3) ls st y (K y)) : Rg C nL G cs ss mem Qt pc ls (.inl (.int n) :: .inl (.int dp) :: .inr (k1, a1) :: .inl (.int sp) :: .inr (k0, a0) :: st) x0 (if cpok sp dp n n0 n1 then bnd x2 K else none) := by
  intro t hP H locs lsA hH hS hL T hT X
  by_cases hok : cpok sp dp n n0 n1
  · rw [if_pos hok] at hP
    obtain ⟨hx, hb, hml, hown, hts, hK, hG, -, -, hR, hZ⟩ := id hC
    obtain ⟨⟨p1, p2, p3⟩, h4, h5⟩ := hok
    have h4 : sp.toNatClampNeg + n.toNatClampNeg ≤ n0 := h4
    have h5 : dp.toNatClampNeg + n.toNatClampNeg ≤ n1 := h5
    have nn : ∀ z : Int32, 0 ≤ z.toInt → z.toInt = (z.toNatClampNeg : Int) := by
      intro z hz
      show z.toInt = ((z.toInt.toNat : Nat) : Int)
      omega
    have hc0 := (hH.1 k0 a0 hl0).no ht0
    have hc1 := (hH.1 k1 a1 hl1).no (nt_of (Or.inl ha1))
    rw [ent_arr hd0] at hc0
    rw [ent_arr hd1] at hc1
    have hc0 : H[G.2.2.1 k0 a0]? = some (arrV (G.2.1 ty) n0 (fun j => mk (mem x0 k0 a0 j))) := by rw [← hmk]; exact hc0
    have hc1 : H[G.2.2.1 k1 a1]? = some (arrV (G.2.1 ty) n1 (fun j => mk (mem x0 k1 a1 j))) := by rw [← hmk]; exact hc1
    obtain ⟨-, kc0, hk0, cm0, hkk0⟩ := hty n0 (fun j => mk (mem x0 k0 a0 j))
    obtain ⟨-, kc1, hk1, cm1, hkk1⟩ := hty n1 (fun j => mk (mem x0 k1 a1 j))
    obtain ⟨vm', X', step⟩ := X.arraycopy hx hown (hts _ hlink) (hts _ hnat) (hts _ hstat) (hts _ hini) (src := G.2.2.1 k0 a0) (dst := G.2.2.1 k1 a1) (cs := arrV (G.2.1 ty) n0 (fun j => mk (mem x0 k0 a0 j))) (cd := arrV (G.2.1 ty) n1 (fun j => mk (mem x0 k1 a1 j))) (srcPos := sp) (destPos := dp) (n := n) (by rw [hT]; exact hc0) (by rw [hT]; exact hc1)
      (fun _ h => by cases h) (fun _ h => by cases h) (fun h => by cases h) (fun h => by cases h) hk0 hk1 hkk0 hkk1 (by simp [hprim]) (nonneg_not p1) (nonneg_not p2) (nonneg_not p3)
      (by rw [nn sp p1, nn n p3, arrV_size]; omega)
      (by rw [nn dp p2, nn n p3, arrV_size]; omega)
      (fun vm₁ _ i hi => by
        have e : (arrV (G.2.1 ty) n0 (fun j => mk (mem x0 k0 a0 j))).slots.getD (sp.toNatClampNeg + i) .null = mk (mem x0 k0 a0 (sp.toNatClampNeg + i)) := by
          rw [Array.getD_eq_getD_getElem?, arrV_read _ _ (by omega)]
          rfl
        refine ⟨?_, ?_⟩
        · rw [e]
          exact hfit _
        · rw [e]
          exact htk _ _ _)
      (g := F0 C.2.2.2.2.2.1 pc lsA (.int n :: .int dp :: .ref (G.2.2.1 k1 a1) :: .int sp :: .ref (G.2.2.1 k0 a0) :: st.map (ph G))) rfl (by show lsA.size = _; rw [hml, hL.1]) (rest := st.map (ph G)) rfl (by rw [hb]; exact d) (by rw [hR]; exact hf) (by show 2 * 0 + _ + _ ≤ _; rw [hR, cat_sum]; omega)
    have e1 : copied (arrV (G.2.1 ty) n0 (fun j => mk (mem x0 k0 a0 j))) (arrV (G.2.1 ty) n1 (fun j => mk (mem x0 k1 a1 j))) sp dp n = arrV (G.2.1 ty) n1 (fun j => mk (va_cpy (mem x0 k0 a0) (mem x0 k1 a1) sp.toNatClampNeg dp.toNatClampNeg n.toNatClampNeg j)) := va_copied mk (G.2.1 ty) (G.2.1 ty) (mem x0 k0 a0) (mem x0 k1 a1) h4
    rw [e1] at X' step
    have hlt : G.2.2.1 k1 a1 < H.size := (Array.getElem?_eq_some_iff.mp hc1).1
    generalize hcell : arrV (G.2.1 ty) n1 (fun j => mk (va_cpy (mem x0 k0 a0) (mem x0 k1 a1) sp.toNatClampNeg dp.toNatClampNeg n.toNatClampNeg j)) = cell at X' step
    have hheap : ((T.setVm vm').setCell (G.2.2.1 k1 a1) cell).heap = H.setIfInBounds (G.2.2.1 k1 a1) cell := by rw [← hT]; rfl
    have oq : ∀ q : Nat, q ≠ G.2.2.1 k1 a1 → (H.setIfInBounds (G.2.2.1 k1 a1) cell)[q]? = H[q]? := fun q hq => by simp [Array.getElem?_setIfInBounds, Ne.symm hq]
    have hat : va_at G.1 vwc (G.2.2.1 k1 a1, ent G k1 a1 (mem x2 k1 a1)) (H.setIfInBounds (G.2.2.1 k1 a1) cell) := by
      rw [ent_arr hd1, ← hw, wrAM_at]
      show (H.setIfInBounds (G.2.2.1 k1 a1) cell)[G.2.2.1 k1 a1]? = some (vp_cell _ _)
      rw [hmk, ← hcell]
      simp [Array.getElem?_setIfInBounds, hlt]
    obtain ⟨t2, b1, b2⟩ := kk x2 t hP _ _ lsA (hH.wr hG hl1 (nt_of (Or.inl ha1)) (fun k' a' hh => by rw [← hw]; exact wrAM_ne _ _ _ _ _ _ hh) hat (refok_arr hd1 hne3 _) oq) ⟨by simp; exact hS.1, fun q g1 g2 => by
        rw [oq q (fun e => g2 (by rw [e]; exact Or.inl (Fr.of hl1 (Or.inl ha1))))]
        exact hS.2.1 q g1 g2, fun q hq => by
        rcases List.mem_append.mp hq with h | h
        · exact hS.2.2 q h
        · obtain ⟨z, -, hz⟩ := List.mem_map.mp h
          rw [← hz]
          exact Or.inl (Fr.of hl1 (Or.inl ha1))⟩ hL _ hheap X'
    exact ⟨t2, step t2 b1, b2⟩
  · rw [if_neg hok] at hP; cases hP
theorem z_gets (hC : Cx C cc nL own ret rm G) (hT : G.2.2.2 0 a) (h48 : 48 ≤ a) (h56 : a < 56) {index : Nat} (hlink : Cond.fieldLink own index RX2 (stn a) "[I" ∈ gw) (d : decode cc pc = .ok (.getstatic index, 3)) (kk : Rg C nL G cs ss mem Qt (pc + 3) ls (.inr (0, a) :: st) x0 P) : Rg C nL G cs ss mem Qt pc ls st x0 P :=
  fun t hP H locs lsA hH hS hL => va_gets hC.1 hC.2.1 (va_Z_fr (B := Fa C G) (hC.2.2.2.2.2.2.2.2.2.2.1 0 a h48 h56 hT).1 (fun q h1 h2 => h2.elim id (fun z => by omega))) hS hC.2.2.2.1 (hC.2.2.2.2.1 _ hlink) (fun _ h => h) d (kk t hP H locs lsA hH hS hL)
/-- an array of references to worlds -/
def oref (v : Int32) (P : Option τ) (K : Nat → Option τ) : Option τ := if v < 0 then P else K v.toNatClampNeg
theorem z_aald (hC : Cx C cc nL own ret rm G) (hcl : GCl G) (hl : G.2.2.2 k a) {n : Nat} (hk : kd a = .inl (3, n)) {f : Nat → Int32} (hf : mem x0 k a = f) {i : Int32} (d : decode cc pc = .ok (.aaload, 1)) {K : Nat → Option τ}
    (k1 : Rg C nL G cs ss mem Qt (pc + 1) ls (.inl .null :: st) x0 P) (k2 : ∀ q, LWd G q → 2 ≤ q → Rg C nL G cs ss mem Qt (pc + 1) ls (.inr (q, 10) :: st) x0 (K q)) : Rg C nL G cs ss mem Qt pc ls (.inl (.int i) :: .inr (k, a) :: st) x0 (if inb i n then oref (f (ix i)) P K else none) := by
  intro t hP H locs lsA hH hS hL
  by_cases h : inb i n
  · rw [if_pos h] at hP
    have hat := (hH.1 k a hl).no (nt_arr hk (by decide))
    rw [ent_arr hk, hf] at hat
    have hro := hH.2 k a hl
    unfold RefOk at hro
    rw [hk, hf] at hro
    refine va_aldq hC.1 hC.2.1 hC.2.2.2.2.2.1 (va_one hat) 0 3 (cA := G.2.1 3) (n := n) (f := fun i => rf G 10 (f i)) rfl rfl (inb_in h) d ?_
    unfold oref at hP
    by_cases hn : f (ix i) < 0
    · rw [if_pos hn] at hP
      have e : rf G 10 (f (ix i)) = none := if_pos hn
      rw [e]
      exact k1 t hP H locs lsA hH hS hL
    · rw [if_neg hn] at hP
      have e : rf G 10 (f (ix i)) = some (G.2.2.1 (f (ix i)).toNatClampNeg 10) := if_neg hn
      rw [e]
      have hq := (hro (show 2 < 3 by decide) (ix i)).resolve_left hn
      exact k2 _ (hcl.2 _ hq).1 (hcl.2 _ hq).2 t hP H locs lsA hH hS hL
  · rw [if_neg h] at hP; cases hP
theorem z_aast (hC : Cx C cc nL own ret rm G) (hl : G.2.2.2 k a) (ha : a < 48) {q : Nat} (hq : G.2.2.2 q 10) {n : Nat} (hk : kd a = .inl (3, n)) {i : Int32} (x2 : σ) (hw : wrM (mem x0) k a (ix i) (nI q) = mem x2) (d : decode cc pc = .ok (.aastore, 1)) {K : σ → Option τ}
    (kk : ∀ y, Rg C nL G cs ss mem Qt (pc + 1) ls st y (K y)) : Rg C nL G cs ss mem Qt pc ls (.inr (q, 10) :: .inl (.int i) :: .inr (k, a) :: st) x0 (if inb i n then bnd x2 K else none) := by
  intro t hP H locs lsA hH hS hL
  by_cases h : inb i n
  · rw [if_pos h] at hP
    obtain ⟨hx, hb, hml, hown, hts, hK, hG, -, -, hR, hZ⟩ := id hC
    have hq2 : q < 2 ^ 31 := Nat.lt_trans (hG.2 q 10 hq) (by decide)
    have hat := (hH.1 k a hl).no (nt_of (Or.inl ha))
    rw [ent_arr hk] at hat
    have hlt := inb_lt h
    have h0 : ¬ i < 0 := fun z => inb_in h (Or.inl z)
    have hav := (hH.1 q 10 hq).no rfl
    rw [ent_obj (ci := 3) (cs := cs10) rfl] at hav
    obtain ⟨r', hr', cellV, g1, g2, g3, -⟩ := hav
    have hcls := (hK.1 3 (RX4, TX4, 15) rfl).2
    obtain ⟨kA, comp, k1, k2, k3, -⟩ := (hK.2 3 _ rfl).2
    have hcomp : comp = G.1.1 3 := Option.some.inj (k3.symm.trans hcls.1)
    subst hcomp
    obtain ⟨kC, hkC, -⟩ := hcls.2
    refine W.aast hx hb hat (fun q h => by cases h) (fun h => by cases h) k1 k2 rfl hkC ⟨h0, by show _ < (arrV _ _ _).slots.size; rw [arrV_size]; exact hlt⟩ g1 (fun q h => by rw [g3] at h; cases h) (by rw [g2]; exact hkC) (by rw [g2]; exact va_assign hcls) rfl rfl d fun H1 e z oq => ?_
    refine kk x2 t hP H1 _ lsA (hH.wr hG hl (nt_of (Or.inl ha)) (fun k' a' hh => by rw [← hw]; exact wrM_ne _ _ _ _ _ _ _ hh) ?_ ?_ oq) (hS.put z oq (Or.inl (Fr.of hl (Or.inl ha)))) hL
    · rw [ent_arr hk, ← hw, wrM_at]
      show H1[_]? = some (vp_cell _ _)
      rw [e]
      show some ((vp_cell _ (n, .inr (.inr (.inr (.inr _))))).setSlot _ _) = some (vp_cell _ (n, .inr (.inr (.inr (.inr _)))))
      rw [vp_cell_q, vp_cell_q, arrV_store]
      congr 2
      funext p
      by_cases hp : p = i.toNatClampNeg
      · subst hp
        have e2 : rf G 10 (nI q) = some (G.2.2.1 q 10) := by unfold rf; rw [if_neg (nI_pos hq2), nI_clamp hq2]
        simp [updV, e2, va_rf]
      · simp [updV, hp]
    · have hro := hH.2 k a hl
      unfold RefOk at hro ⊢
      rw [hk] at hro ⊢
      intro h3 p
      rw [← hw, wrM_pt]
      by_cases e : p = ix i
      · rw [if_pos e, nI_clamp hq2]; exact Or.inr hq
      · rw [if_neg e]; exact hro h3 p
  · rw [if_neg h] at hP; cases hP
theorem z_astore_nN (hC : Cx C cc nL own ret rm G) {q : Fin 4} (i : Nat) (hi : (q : Nat) = i) (hn : i < nL) {ls1 : List (Nat × AV)} (hl : stl ls i (.inl .null) = ls1) (d : decode cc pc = .ok (.astore_n q, 1))
    (k : Rg C nL G cs ss mem Qt (pc + 1) ls1 st x0 P) : Rg C nL G cs ss mem Qt pc ls (.inl .null :: st) x0 P := fun t hP H locs lsA hH hS hL => lv_astore_nN hC.1 hC.2.1 d hi hL hn (st_map1 hl) (fun lsA hL => k t hP H locs lsA hH hS hL)
theorem z_ifnonnull_r (hC : Cx C cc nL own ret rm G) {b : Nat × Nat} {off : Int} (tgt : Nat) (ht : (pc : Int) + off = (tgt : Int)) (d : decode cc pc = .ok (.ifnonnull off, 3)) (k : Rg C nL G cs ss mem Qt tgt ls st x0 P) : Rg C nL G cs ss mem Qt pc ls (.inr b :: st) x0 P := fun t hP H locs lsA hH hS hL => lv_ifnonnull (tgt := tgt) hC.1 hC.2.1 d ht (k t hP H locs lsA hH hS hL)
theorem z_ifnonnull_n (hC : Cx C cc nL own ret rm G) {off : Int} (d : decode cc pc = .ok (.ifnonnull off, 3)) (k : Rg C nL G cs ss mem Qt (pc + 3) ls st x0 P) : Rg C nL G cs ss mem Qt pc ls (.inl .null :: st) x0 P := fun t hP H locs lsA hH hS hL => lv_ifnonnullN hC.1 hC.2.1 d (k t hP H locs lsA hH hS hL)
end ZY
section ZYS
variable {C : Cxt} {cc : ByteArray} {nL : Nat} {own : String} {ret : Option FieldType} {rm : Room} {G : Geo} {τ : Type} {M : Mem} {Qt : τ → State → Prop} {cs ss : Nat} {pc : Nat} {ls : List (Nat × AV)} {st : List AV} {x0 : Sl} {P : Option τ} {k a : Nat}
theorem zs_putr (hC : Cx C cc nL own ret rm G) (hl : G.2.2.2 k a) {q b : Nat} (hq : G.2.2.2 q b) {j index : Nat} {Cn name desc cn : String} (hF : FD a j 2 b Cn name desc false) (hlink : Cond.fieldLink own index Cn name desc ∈ gw) (hd : parseFieldDescriptor desc = some (.object cn)) (d : decode cc pc = .ok (.putfield index, 3)) {K : Sl → Option τ}
    (kk : ∀ y, Rg C nL G cs ss (setS M k) Qt (pc + 3) ls st y (K y)) : Rg C nL G cs ss (setS M k) Qt pc ls (.inr (q, b) :: .inr (k, a) :: st) x0 (bnd (wr x0 a j (nI q)) K) := z_putr hC hl hq hF hlink hd (wr x0 a j (nI q)) (wrM_setS M k x0 a j (nI q)) d kk
theorem zs_putl (hC : Cx C cc nL own ret rm G) (hl : G.2.2.2 k a) {j b index : Nat} {Cn name : String} (hF : FD a j 3 b Cn name "J" false) (hlink : Cond.fieldLink own index Cn name "J" ∈ gw) {v : Int64} (d : decode cc pc = .ok (.putfield index, 3)) {K : Sl → Option τ}
    (kk : ∀ y, Rg C nL G cs ss (setS M k) Qt (pc + 3) ls st y (K y)) : Rg C nL G cs ss (setS M k) Qt pc ls (.inl (.long v) :: .inr (k, a) :: st) x0 (bnd (wr (wr x0 a j (lo32 v)) a (j + 64) (hi32 v)) K) := z_putl hC hl hF hlink (wr (wr x0 a j (lo32 v)) a (j + 64) (hi32 v)) (by rw [wrM_setS, wrM_setS]) d kk
theorem zs_cpi (hC : Cx C cc nL own ret rm G) {a0 a1 n0 n1 : Nat} (hl0 : G.2.2.2 k a0) (hl1 : G.2.2.2 k a1) (ha1 : a1 < 48) (hd0 : kd a0 = .inl (0, n0)) (hd1 : kd a1 = .inl (0, n1)) {index : Nat} (hlink : Cond.methodLink own index arraycopyName ∈ gw) (hnat : Cond.native arraycopyName ∈ gw) (hstat : Cond.static arraycopyName ∈ gw) (hini : Cond.initialized "java/lang/System" ∈ gw) (hf : 1 ≤ rm.frames) (hlo : (st.map cat).sum + (nativeFrameWords "java/lang/System" "arraycopy" 5 + 11) ≤ rm.locals) {sp dp n : Int32} (d : decode cc pc = .ok (.invokestatic index, 3)) {K : Sl → Option τ}
    (kk : ∀ y, Rg C nL G cs ss (setS M k) Qt (pc + 3) ls st y (K y)) (ht0 : tbc a0 = false := by rfl) : Rg C nL G cs ss (setS M k) Qt pc ls (.inl (.int n) :: .inl (.int dp) :: .inr (k, a1) :: .inl (.int sp) :: .inr (k, a0) :: st) x0 (if cpok sp dp n n0 n1 then bnd (wrA x0 a1 (va_cpy (x0 a0) (x0 a1) (ix sp) (ix dp) (ix n))) K else none) :=
  z_cp (ty := 0) (fty := .int) (mk := fun z => .int z) hC ht0 hl0 hl1 ha1 hd0 hd1 (fun _ _ => rfl) (hC.2.2.2.2.2.1.2 0 _ rfl).1 rfl (by decide) (fun _ => rfl) (fun _ _ _ => trivial) hlink hnat hstat hini hf hlo _ (by rw [setS_at, wrAM_setS]) d kk
end ZYS
section ZYG
variable {C : Cxt} {cc : ByteArray} {nL : Nat} {own : String} {ret : Option FieldType} {rm : Room} {G : Geo} {τ : Type} {Qt : τ → State → Prop} {cs ss : Nat} {pc : Nat} {ls : List (Nat × AV)} {st : List AV} {x0 : Mem} {P : Option τ} {k a : Nat}
theorem zg_putr (hC : Cx C cc nL own ret rm G) (hl : G.2.2.2 k a) {q b : Nat} (hq : G.2.2.2 q b) {j index : Nat} {Cn name desc cn : String} (hF : FD a j 2 b Cn name desc false) (hlink : Cond.fieldLink own index Cn name desc ∈ gw) (hd : parseFieldDescriptor desc = some (.object cn)) (d : decode cc pc = .ok (.putfield index, 3)) {K : Mem → Option τ}
    (kk : ∀ y, Rg C nL G cs ss gm Qt (pc + 3) ls st y (K y)) : Rg C nL G cs ss gm Qt pc ls (.inr (q, b) :: .inr (k, a) :: st) x0 (bnd (wrM x0 k a j (nI q)) K) := z_putr hC hl hq hF hlink hd (wrM x0 k a j (nI q)) rfl d kk
theorem zg_cpi (hC : Cx C cc nL own ret rm G) {k0 k1 a0 a1 n0 n1 : Nat} (hl0 : G.2.2.2 k0 a0) (hl1 : G.2.2.2 k1 a1) (ha1 : a1 < 48) (hd0 : kd a0 = .inl (0, n0)) (hd1 : kd a1 = .inl (0, n1)) {index : Nat} (hlink : Cond.methodLink own index arraycopyName ∈ gw) (hnat : Cond.native arraycopyName ∈ gw) (hstat : Cond.static arraycopyName ∈ gw) (hini : Cond.initialized "java/lang/System" ∈ gw) (hf : 1 ≤ rm.frames) (hlo : (st.map cat).sum + (nativeFrameWords "java/lang/System" "arraycopy" 5 + 11) ≤ rm.locals) {sp dp n : Int32} (d : decode cc pc = .ok (.invokestatic index, 3)) {K : Mem → Option τ}
    (kk : ∀ y, Rg C nL G cs ss gm Qt (pc + 3) ls st y (K y)) (ht0 : tbc a0 = false := by rfl) : Rg C nL G cs ss gm Qt pc ls (.inl (.int n) :: .inl (.int dp) :: .inr (k1, a1) :: .inl (.int sp) :: .inr (k0, a0) :: st) x0 (if cpok sp dp n n0 n1 then bnd (wrAM x0 k1 a1 (va_cpy (x0 k0 a0) (x0 k1 a1) (ix sp) (ix dp) (ix n))) K else none) :=
  z_cp (ty := 0) (fty := .int) (mk := fun z => .int z) hC ht0 hl0 hl1 ha1 hd0 hd1 (fun _ _ => rfl) (hC.2.2.2.2.2.1.2 0 _ rfl).1 rfl (by decide) (fun _ => rfl) (fun _ _ _ => trivial) hlink hnat hstat hini hf hlo _ rfl d kk
theorem zg_cpf (hC : Cx C cc nL own ret rm G) {k0 k1 a0 a1 n0 n1 : Nat} (hl0 : G.2.2.2 k0 a0) (hl1 : G.2.2.2 k1 a1) (ha1 : a1 < 48) (hd0 : kd a0 = .inl (1, n0)) (hd1 : kd a1 = .inl (1, n1)) {index : Nat} (hlink : Cond.methodLink own index arraycopyName ∈ gw) (hnat : Cond.native arraycopyName ∈ gw) (hstat : Cond.static arraycopyName ∈ gw) (hini : Cond.initialized "java/lang/System" ∈ gw) (hf : 1 ≤ rm.frames) (hlo : (st.map cat).sum + (nativeFrameWords "java/lang/System" "arraycopy" 5 + 11) ≤ rm.locals) {sp dp n : Int32} (d : decode cc pc = .ok (.invokestatic index, 3)) {K : Mem → Option τ}
    (kk : ∀ y, Rg C nL G cs ss gm Qt (pc + 3) ls st y (K y)) : Rg C nL G cs ss gm Qt pc ls (.inl (.int n) :: .inl (.int dp) :: .inr (k1, a1) :: .inl (.int sp) :: .inr (k0, a0) :: st) x0 (if cpok sp dp n n0 n1 then bnd (wrAM x0 k1 a1 (va_cpy (x0 k0 a0) (x0 k1 a1) (ix sp) (ix dp) (ix n))) K else none) :=
  z_cp (ty := 1) (fty := .float) (mk := fun z => .float z.toUInt32) hC (nt_arr hd0 (by decide)) hl0 hl1 ha1 hd0 hd1 (fun _ _ => rfl) (hC.2.2.2.2.2.1.2 1 _ rfl).1 rfl (by decide) (fun _ => rfl) (fun _ _ _ => trivial) hlink hnat hstat hini hf hlo _ rfl d kk
theorem zg_aald (hC : Cx C cc nL own ret rm G) (hcl : GCl G) (hl : G.2.2.2 k a) {n : Nat} (hk : kd a = .inl (3, n)) {i : Int32} (d : decode cc pc = .ok (.aaload, 1)) {K : Nat → Option τ}
    (k1 : Rg C nL G cs ss gm Qt (pc + 1) ls (.inl .null :: st) x0 P) (k2 : ∀ q, LWd G q → 2 ≤ q → Rg C nL G cs ss gm Qt (pc + 1) ls (.inr (q, 10) :: st) x0 (K q)) : Rg C nL G cs ss gm Qt pc ls (.inl (.int i) :: .inr (k, a) :: st) x0 (if inb i n then oref (x0 k a (ix i)) P K else none) := z_aald hC hcl hl hk rfl d k1 k2
theorem zg_aast (hC : Cx C cc nL own ret rm G) (hl : G.2.2.2 k a) (ha : a < 48) {q : Nat} (hq : G.2.2.2 q 10) {n : Nat} (hk : kd a = .inl (3, n)) {i : Int32} (d : decode cc pc = .ok (.aastore, 1)) {K : Mem → Option τ}
    (kk : ∀ y, Rg C nL G cs ss gm Qt (pc + 1) ls st y (K y)) : Rg C nL G cs ss gm Qt pc ls (.inr (q, 10) :: .inl (.int i) :: .inr (k, a) :: st) x0 (if inb i n then bnd (wrM x0 k a (ix i) (nI q)) K else none) := z_aast hC hl ha hq hk (wrM x0 k a (ix i) (nI q)) rfl d kk
end ZYG
/-- a table of the class Reader, and its length -/
def FOk (G : Geo) (f : Nat × Nat) : Prop := G.2.2.2 0 f.1 ∧ kd f.1 = .inl (0, f.2)
def avR (f : Nat × Nat) : Option AV := some (.inr (0, f.1))
section ZYF
variable {C : Cxt} {cc : ByteArray} {nL : Nat} {own : String} {rm : Room} {G : Geo} {σ τ : Type} {mem : σ → Mem} {Qt : τ → State → Prop} {cs ss : Nat} {pc : Nat} {ls : List (Nat × AV)} {st stk : List AV} {x0 : σ} {P : Option τ}
theorem z_aload_nN {ret : Option FieldType} (hC : Cx C cc nL own ret rm G) {q : Fin 4} (i : Nat) (hi : (q : Nat) = i) (n : Nat) (hl : ls[n]? = some (i, .inl .null)) (d : decode cc pc = .ok (.aload_n q, 1))
    (k : Rg C nL G cs ss mem Qt (pc + 1) ls (.inl .null :: st) x0 P) : Rg C nL G cs ss mem Qt pc ls st x0 P := fun t hP H locs lsA hH hS hL => lv_aload_nN hC.1 hC.2.1 d hi (ld_at hL hl) (k t hP H locs lsA hH hS hL)
theorem z_aret {po : τ → Option AV × Mem} {rt : FieldType} {r : τ} {b : Nat × Nat} (hC : Cx C cc nL own (some rt) rm G) (hr : po r = (some (.inr b), mem x0)) (hrt : rt = .array .int) (d : decode cc pc = .ok (.areturn, 1)) : Rz C nL G mem po pc ls [.inr b] x0 (some r) := by
  intro t hP H locs lsA hH hS hL
  cases hP
  unfold QM
  rw [hr]
  subst hrt
  exact W.aret hC.1 hC.2.1 hC.2.2.2.2.2.2.2.2.1 (Or.inr ⟨_, rfl⟩) (Or.inr ⟨_, rfl⟩) (fun t ht _ => ⟨rfl, by rw [ht]; exact hH, Fa.F hS ht⟩) hS.2.2 d hC.2.2.2.2.2.2.2.1
theorem z_prS {ret : Option FieldType} {o : Option (Nat × Nat)} {K : Nat × Nat → Option τ} (hC : Cx C cc nL own ret rm G) {y : MethodName} {bytes : ByteArray} {maxL n : Nat} {ret' : Option FieldType} {rm' : Room} (hY : YS y bytes maxL ret' n) {index : Nat} (hlink : Cond.methodLink own index y ∈ gw) (as : List AV) (hn : as.length = n)
    (hM : ∀ l r, o = some r → Mt l y bytes maxL ret' rm' G as (mem x0) (avR r) (mem x0)) (hs : stk = as.reverse ++ st) (hrm : rm'.cells = 0 ∧ rm'.slots = 0 ∧ rm'.frames + 1 ≤ rm.frames ∧ 8 + (maxL + 11) + rm'.locals ≤ rm.locals) (hcat : (st.map cat).sum ≤ 8) (d : decode cc pc = .ok (.invokestatic index, 3)) (hQ : ∀ r, o = some r → FOk G r)
    (kk : ∀ r, FOk G r → Rg C nL G 0 0 mem Qt (pc + 3) ls (.inr (0, r.1) :: st) x0 (K r)) : Rg C nL G 0 0 mem Qt pc ls stk x0 (bp o K) := by
  intro t hP H locs lsA hH hS hL
  cases ho : o with
  | none => rw [ho] at hP; cases hP
  | some q =>
    have h := z_kS (o := o) (K := fun r => if r = q then K q else none) (rv' := avR) (xs := fun _ => x0) (Qt := Qt) (st := st) (ls := ls) hC hY hlink as hn hM hs hrm hcat d (fun r => by
      by_cases e : r = q
      · subst e
        rw [if_pos rfl]
        exact kk r (hQ r ho)
      · rw [if_neg e]
        exact z_none)
    refine h t ?_ H locs lsA hH hS hL
    rw [ho] at hP ⊢
    show (if q = q then K q else none) = some t
    rw [if_pos rfl]
    exact hP
end ZYF
