set_option maxHeartbeats 4000000 in
set_option maxRecDepth 100000 in
/-- the law, from its entry -/
theorem whole_start {p : Program} {e : Env} {s : State} {m : MethodId} {below : List Frame} {meth : Method} {c : Code} (l : Launch) (hflags : l.flags = flags0) {b L : Nat} {xs : Nat → Int32} (hL : L ≤ 3072) (C0 : lw_At p s m meth c b L xs) : W p l e room_1 s m #[Value.ref b] below meth c s.heap [] 0 0 (lw_Z below #[Value.ref b] s) (entryFrame m ([Value.ref b] : List Value).toArray 7) := by
  obtain ⟨hx, hb, hr, hml, hown, hts, hX, hbl, hlocks, hgv⟩ := id C0
  have hs := flat_of_before _ hgv
  have htg : ∀ w ∈ gw, w.before #[Value.ref b] s = true := fun w hw => hts w (List.mem_filter.mp hw).1
  have hF : LF p s m c b L xs := ⟨hx, hb, hml, hown, htg, hX, hbl⟩
  have hao : va_AO RX4 s := va_AO.of (hts _ (mT2 (i := 48) rfl))
  have hl0 : l.stackTraces = false := by unfold Launch.stackTraces; rw [hflags]; decide +kernel
  obtain ⟨hDX, hNc, hcst⟩ := st_D hs hts
  obtain ⟨D, c0, c1, c2, c3, cL, hK, hKL⟩ := st_K htg hao
  obtain ⟨tc, ta, hG⟩ := st_G hs hts hK
  obtain ⟨hO, hH0⟩ := hG True
  obtain ⟨hOm, -⟩ := hG False
  have hDx : LDx s D cL := ⟨hDX, hKL, hNc, hcst⟩
  obtain ⟨Mx, Mm, ex, em, hI⟩ := inv_start (wrAM mem0 0 64 (rini cs64)) (wrAM mem0 0 65 (rini cs65)) ⟨tv_tbl 48, tv_tbl 49, tv_tbl 50, tv_tbl 51, tv_tbl 52, tv_tbl 53, tv_tbl 54, tv_tbl 55⟩ (fun i => by rw [wrAM_at])
  have hl := lv_entry ([.ref b]) (n := 7) (Nat.le_of_ble_eq_true rfl)
  rw [lg_entry_eq]
  generalize (lg_sl ([.ref b]) ++ List.replicate (7 - (lg_sl ([.ref b])).length) Slot.unset).toArray = ls at hl ⊢
  have hl : lv_has ls 7 [(0, .ref b)] := hl
  have hend : ∀ (H : Heap) (locs : List Loc) (ls : Array Slot) (cs ss : Nat), va_S (LH s) s.heap H locs → cs ≤ 601024 → ss ≤ 7293034 → W p l e room_1 s m #[Value.ref b] below meth c H locs cs ss (lw_Z below #[Value.ref b] s) (F0 m 1636 ls []) := fun H locs ls cs ss hS h1 h2 => by
    refine lv_iconst (v := 1) hx hb d_law_1636 (by decide) ?_
    refine va_forget (fun q hq => hS.2.2 q hq) ?_
    refine W.widen (k := 601024) (n := 7293034) h1 h2 ?_
    exact lw_ret (d0 := s.drawn) (Drawn.sameBut.refl s.drawn lw_cs) hx hb hr hlocks d_law_1637
  -- x is made
  refine lw_new (k := 0) (a := 64) (ty0 := tyX5) hF hO hH0 va_S.rf rfl rfl inwX5 tyX5_ok q159 q160 q143 df_64 no1_64 (fun h => by have := h.2; omega) (by decide) (Or.inr (by decide)) (Nat.le_of_ble_eq_true rfl) (Nat.le_of_ble_eq_true rfl) d_law_0 (fun H1 hE1 hO1 hH1 hS1 hz1 hq1 => ?_)
  generalize hGa : addG (geo0 D c0 c1 c2 c3 tc ta True) 0 64 s.heap.size = Ga at *
  have lva : LVs Ga [(0, 64)] := fun k a hla => by
    rw [← hGa] at hla
    rcases hla with ⟨h1, h2⟩ | h
    · exact Or.inl (by rw [h1, h2]; simp)
    · exact Or.inr h.2.2
  have la0 : Ga.2.2.2 0 64 := by rw [← hGa]; exact Or.inl ⟨rfl, rfl⟩
  refine lv_dup hx hb d_law_3 rfl ?_
  refine lc_I (k := 0) (a := 64) (b9 := 0) (Lc := LX0) hF yi_X5_init q161 (c_X5_init hO1.2.2.1 la0 lva l Mx ex H1.size) (fun a U g mk q => ⟨PA.blind _ _ _ _ a U g mk q.1, va_AO.moved (u := U) (U := U.calling g mk a) (Vm.Alike.refl U.vm) q.2⟩) (fun U hU hW => ⟨⟨PC.at (as := [.inr (0, 64)]) hH1 hO1.1 hO1.2.1 (fun q h1 _ => hS1.2.1 q h1 (Nat.not_le.mpr h1)) hU hW, by rw [hU]⟩, hao.moved hW.alike⟩) hO1.2.2.2 ⟨rfl, rfl, Nat.le_of_ble_eq_true rfl, Nat.le_of_ble_eq_true rfl⟩ (Nat.le_of_ble_eq_true rfl) ⟨Nat.le_of_ble_eq_true rfl, Nat.le_of_ble_eq_true rfl⟩ hl hS1 d_law_4 (fun H2 locs2 G2 hz2 hk2 hE2 hG2 hH2 hS2 => ?_)
  have hO2 : OB s G2 := ob_gel hO1 hE2 hS1.1 (by decide) (by decide) (fun q hq => Or.inl (by have := LX0_in q hq; omega)) hG2
  have hx00 : G2.2.2.1 0 0 = Ga.2.2.1 0 64 := by
    obtain ⟨G', g1, g2⟩ := hE2
    rw [g2.2.2.2.2.1, g1.2.2.2.1 0 64 la0]
  have hD2 : G2.1 = D := by
    obtain ⟨G', g1, g2⟩ := hE2
    rw [g2.1, g1.1, ← hGa]; rfl
  have hX2 : GX G2 5 := by
    obtain ⟨G', g1, g2⟩ := hE2
    intro k a
    rw [g2.2.2.1 k a, g1.2.2.1 k a, ← hGa]
    show (k = 0 ∧ a = 0) ∨ (((k, a) ∈ LX0 ∨ ((k = 0 ∧ a = 64) ∨ (True ∧ k = 0 ∧ 48 ≤ a ∧ a < 56))) ∧ ¬ (k = 0 ∧ a = 64)) ↔ xcell 5 k a
    unfold xcell
    constructor
    · rintro (h | ⟨h | h | h, h2⟩)
      · omega
      · have := LX0_in _ h
        dsimp only at this
        omega
      · exact absurd h h2
      · omega
    · intro h
      by_cases z : k = 0 ∧ a = 0
      · exact Or.inl z
      · by_cases z2 : 48 ≤ a
        · exact Or.inr ⟨Or.inr (Or.inr ⟨trivial, by omega, by omega, by omega⟩), by omega⟩
        · refine Or.inr ⟨Or.inl ?_, by omega⟩
          exact LX0_all ⟨k, by omega⟩ ⟨a, by omega⟩ (by dsimp only; omega) (by dsimp only; omega)
  have ha2 : ∀ k a, G2.2.2.2 k a → G2.2.2.1 k a < H2.size := fun k a h => (hH2.1 k a h).lt
  rw [← hx00]
  refine lv_astore_n (lv' := [(1, .ref (G2.2.2.1 0 0)), (0, .ref b)]) hx hb d_law_7 rfl hl (by decide) rfl (fun ls2 hl2 => ?_)
  -- the model is made
  have hHm : Holds (geo0 D c0 c1 c2 c3 tc ta False) mem0 H2 := ⟨fun k a h => h.1.elim, fun k a h => h.1.elim⟩
  refine lw_new (k := 0) (a := 65) (ty0 := tyX6) hF hOm hHm hS2 rfl rfl inwX6 tyX6_ok q1228 q1229 q149 df_65 no1_65 (fun h => h.1) (by decide) (Or.inr (by decide)) (Nat.le_of_ble_eq_true rfl) (Nat.le_of_ble_eq_true rfl) d_law_8 (fun H3 hE3 hO3 hH3 hS3 hz3 hq3 => ?_)
  generalize hGb : addG (geo0 D c0 c1 c2 c3 tc ta False) 0 65 H2.size = Gb at *
  have lvb : LVs Gb [(0, 65)] := fun k a hla => by
    rw [← hGb] at hla
    rcases hla with ⟨h1, h2⟩ | h
    · exact Or.inl (by rw [h1, h2]; simp)
    · exact h.1.elim
  have lb0 : Gb.2.2.2 0 65 := by rw [← hGb]; exact Or.inl ⟨rfl, rfl⟩
  have hfb : ∀ q, Fr Gb q → H2.size ≤ q := fun q hq => by
    rcases hE3.fr' hq with ⟨k, a, h, -⟩ | h
    · exact h.1.elim
    · exact h
  refine lv_dup hx hb d_law_11 rfl ?_
  refine lc_I (k := 0) (a := 65) (b9 := 34) (Lc := LM0) hF yi_X6_init q1230 (c_X6_init hO3.2.2.1 lb0 lvb l Mm em H3.size) (PA.blind _ _ _ _) (fun U hU hW => ⟨PC.at (as := [.inr (0, 65)]) hH3 hO3.1 hO3.2.1 (fun q h1 _ => hS3.2.1 q h1 (Nat.not_le.mpr h1)) hU hW, by rw [hU]⟩) hO3.2.2.2 ⟨rfl, rfl, Nat.le_of_ble_eq_true rfl, Nat.le_of_ble_eq_true rfl⟩ (Nat.le_of_ble_eq_true rfl) ⟨Nat.le_of_ble_eq_true rfl, Nat.le_of_ble_eq_true rfl⟩ hl2 hS3 d_law_12 (fun H4 locs4 G4 hz4 hk4 hE4 hG4 hH4 hS4 => ?_)
  have hO4 : OB s G4 := ob_gel hO3 hE4 hS3.1 (by decide) (by decide) (fun q hq => Or.inl (by have := LM0_in q hq; omega)) hG4
  have hm34 : G4.2.2.1 0 34 = Gb.2.2.1 0 65 := by
    obtain ⟨G', g1, g2⟩ := hE4
    rw [g2.2.2.2.2.1, g1.2.2.2.1 0 65 lb0]
  have hc4 : ∀ k a, G4.2.2.2 k a → k = 0 ∧ a < 48 := fun k a h => by
    obtain ⟨G', g1, g2⟩ := hE4
    rcases (g2.2.2.1 k a).mp h with h | ⟨h, h2⟩
    · omega
    · rcases (g1.2.2.1 k a).mp h with h | h
      · have := LM0_in _ h
        dsimp only at this
        omega
      · rcases lvb k a h with h | h
        · simp at h; exact absurd h h2
        · rw [← hGb] at *
          rename_i h9
          rcases h9 with h9 | h9
          · omega
          · exact h9.1.elim
  have hL4 : LMo G4 0 := fun a ha => by
    have := ble2 ha
    obtain ⟨G', g1, g2⟩ := hE4
    by_cases z : a = 34
    · exact (g2.2.2.1 0 a).mpr (Or.inl ⟨rfl, z⟩)
    · refine (g2.2.2.1 0 a).mpr (Or.inr ⟨(g1.2.2.1 0 a).mpr (Or.inl ?_), by omega⟩)
      have := LM0_all ⟨a - 35, by omega⟩
      rw [show 35 + (a - 35) = a by omega] at this
      exact this
  have hf4 : ∀ q, Fr G4 q → H2.size ≤ q := fun q hq => by
    obtain ⟨G', g1, g2⟩ := hE4
    rcases g1.fr' (g2.fr (Or.inr (by decide)) hq) with h | h
    · exact hfb q h
    · omega
  have hg4 : ∀ k a, G4.2.2.2 k a → H2.size ≤ G4.2.2.1 k a := fun k a h => hf4 _ ⟨k, a, h, Or.inl (hc4 k a h).2, rfl⟩
  have ha4 : ∀ k a, G4.2.2.2 k a → G4.2.2.1 k a < H4.size := fun k a h => (hH4.1 k a h).lt
  have hH2' : Holds G2 Mx H4 := hH2.apart (fun k a h => by
    have := ha2 k a h
    rw [hk4 _ (by omega) (fun z => by have := hfb _ z; omega), hq3 _ (by omega)])
  have hH4' : Holds G4 (setS zM 0 (Mm 0)) H4 := hH4.ext' (fun k a h => by rw [(hc4 k a h).1, setS_at])
  rw [← hm34]
  refine lv_astore_n (lv' := [(2, .ref (G4.2.2.1 0 34)), (1, .ref (G2.2.2.1 0 0)), (0, .ref b)]) hx hb d_law_15 rfl hl2 (by decide) rfl (fun ls3 hl3 => ?_)
  -- the array out
  refine lv_iconst (v := 1) hx hb d_law_16 (by decide) ?_
  refine va_newaK (atype := .long) (N := 1) hx hb (htg _ q1942) rfl d_law_17 rfl (by decide) (by decide) (by decide) (Nat.le_of_ble_eq_true rfl) (Nat.le_of_ble_eq_true rfl) rfl fun H5 cA e1 z1 o1 hAr hNm => ?_
  have hcA : cA = cL := Option.some.inj (hNm.symm.trans (hKL.2 0 _ rfl).2)
  subst hcA
  refine lv_astore_n (lv' := [(3, .ref H4.size), (2, .ref (G4.2.2.1 0 34)), (1, .ref (G2.2.2.1 0 0)), (0, .ref b)]) hx hb d_law_19 rfl hl3 (by decide) rfl (fun ls4 hl4 => ?_)
  refine lv_iconst (v := 0) hx hb d_law_20 (by decide) ?_
  refine lv_istore (lv' := [(4, .int 0), (3, .ref H4.size), (2, .ref (G4.2.2.1 0 34)), (1, .ref (G2.2.2.1 0 0)), (0, .ref b)]) hx hb d_law_21 hl4 (by decide) rfl (fun ls5 hl5 => ?_)
  have h24 : H2.size ≤ H4.size := by omega
  have hLS : LWS s D cA H4.size 5 Mx (Mm 0) G2 G4 H5 locs4 := by
    refine ⟨⟨hO2, hX2, by decide, hH2'.grown o1, hD2⟩, ⟨hO4, hL4, hH4'.grown o1⟩, ⟨fun k a h hf => ?_, fun k a h hf => ?_⟩, ⟨fun k a h => ?_, fun k a h => ?_, hS4.1, by omega, fun _ => 0, e1⟩, ⟨by have := hS4.1; omega, fun q g1 g2 => by rw [o1 q (Nat.lt_of_lt_of_le g1 hS4.1)]; exact hS4.2.1 q g1 g2, hS4.2.2⟩⟩
    · have := hf4 _ hf
      have := ha2 k a h
      omega
    · obtain ⟨k', a', h1, -, h3⟩ := hf
      have := ha2 k' a' h1
      have := hg4 k a h
      omega
    · have := ha2 k a h
      omega
    · have := ha4 k a h
      omega
  refine W.widen (k := 1000) (n := 100000) (Nat.le_of_ble_eq_true rfl) (Nat.le_of_ble_eq_true rfl) ?_
  exact law_loop hF hL hl0 hDx rfl hend 513 0 0 5 Mx (Mm 0) G2 H5 locs4 1000 100000 ls5 (by omega) (by omega) (by omega) (by omega) rfl rfl hLS rfl hI (lv_sub hl5 [4, 3, 2, 1, 0] rfl)
