/-! ===== the law's deed ===== -/
def ydl : MethodName := ⟨"FrameHeirsLaw", "deed", "(LFrameHeirs;III[J)I"⟩
abbrev hhL : List (Nat × Nat × Nat × Nat) := [(0, 12, 15, 13), (0, 12, 19, 15)]
theorem q1126 : Cond.codeWith ydl method_3_code 6 (some .int) hhL ∈ gw := gw_mem (mT5 (i := 24) rfl) rfl
theorem dl_0 : decode method_3_code 0 = .ok (.aload 4, 2) := by decide +kernel
theorem dl_2 : decode method_3_code 2 = .ok (.iconst 0, 1) := by decide +kernel
theorem dl_3 : decode method_3_code 3 = .ok (.aload_n 0, 1) := by decide +kernel
theorem dl_4 : decode method_3_code 4 = .ok (.iload_n 1, 1) := by decide +kernel
theorem dl_5 : decode method_3_code 5 = .ok (.iload_n 2, 1) := by decide +kernel
theorem dl_6 : decode method_3_code 6 = .ok (.iload_n 3, 1) := by decide +kernel
theorem dl_7 : decode method_3_code 7 = .ok (.invokevirtual 7, 3) := by decide +kernel
theorem dl_10 : decode method_3_code 10 = .ok (.i2l, 1) := by decide +kernel
theorem dl_11 : decode method_3_code 11 = .ok (.lastore, 1) := by decide +kernel
theorem dl_12 : decode method_3_code 12 = .ok (.goto 11, 3) := by decide +kernel
theorem dl_15 : decode method_3_code 15 = .ok (.astore 5, 2) := by decide +kernel
theorem dl_17 : decode method_3_code 17 = .ok (.iconst 1, 1) := by decide +kernel
theorem dl_18 : decode method_3_code 18 = .ok (.ireturn, 1) := by decide +kernel
theorem dl_19 : decode method_3_code 19 = .ok (.astore 5, 2) := by decide +kernel
theorem dl_21 : decode method_3_code 21 = .ok (.iconst 2, 1) := by decide +kernel
theorem dl_22 : decode method_3_code 22 = .ok (.ireturn, 1) := by decide +kernel
theorem dl_23 : decode method_3_code 23 = .ok (.iconst 0, 1) := by decide +kernel
theorem dl_24 : decode method_3_code 24 = .ok (.ireturn, 1) := by decide +kernel
theorem fa_at {A A' : Array Value} {s U : State} {c : Cond} (hvm : s.vm.Alike U.vm) (hf : c.faceAtom = true) (ho : c.onTables = true) (h : c.before A s = true) : c.before A' U = true := by
  have h1 := Cond.faceAtom_setVm (args := A) hvm c hf h
  rw [Cond.onTables_vm (A' := A') (U' := U) U.vm c ho] at h1
  exact h1
theorem dnW_fa : ∀ w ∈ dnW, w.faceAtom = true := by decide +kernel
def cstW : List Cond := [.castable IOE IOE, .castable NSE NSE]
theorem cstW_fa : ∀ w ∈ cstW, w.faceAtom = true := by decide +kernel
theorem cstW_on : ∀ w ∈ cstW, w.onTables = true := by decide +kernel
theorem DX.at {A B : Nat → Prop} {s U : State} {H : Heap} (h : DX A s) (hS : ∀ q, q < s.heap.size → ¬ A q → H[q]? = s.heap[q]?) (hU : U.heap = H) (hW : s.WarmedH U.vm) (hAB : ∀ q, B q → A q) : DX B U := by
  obtain ⟨⟨a, h1⟩, ⟨b, h2⟩, h3, h4, h5⟩ := h
  refine ⟨⟨a, h1.warm hW⟩, ⟨b, h2.warm hW⟩, ?_, ?_, fun w hw => fa_at hW.alike (dnW_fa w hw) (dnW_on w hw) (h5 w hw)⟩
  · rw [hU]; exact ((h3.kept hS).moved hW.alike).narrow hAB
  · rw [hU]; exact ((h4.kept hS).moved hW.alike).narrow hAB
theorem DX.blind (A : Nat → Prop) {U : State} {g : JFrame} {mk : MethodId} {a : Array Value} (h : DX A U) : DX A (U.calling g mk a) := by
  obtain ⟨⟨sa, h1⟩, ⟨sb, h2⟩, h3, h4, h5⟩ := h
  exact ⟨⟨sa, vk_R.same rfl h1⟩, ⟨sb, vk_R.same rfl h2⟩, vx_Zq.moved (u := U) (U := U.calling g mk a) (Vm.Alike.refl U.vm) h3, vx_Zq.moved (u := U) (U := U.calling g mk a) (Vm.Alike.refl U.vm) h4, fun w hw => fa_at (s := U) (U := U.calling g mk a) (Vm.Alike.refl U.vm) (dnW_fa w hw) (dnW_on w hw) (h5 w hw)⟩
theorem arrV_1 {cA : ClassId} {f g : Nat → Value} (h : f 0 = g 0) : arrV cA 1 f = arrV cA 1 g := by
  have e : (fun j : Fin 1 => f j.val) = (fun j : Fin 1 => g j.val) := by
    funext j
    have : j.val = 0 := by omega
    rw [this]; exact h
  unfold arrV
  rw [e]
abbrev arL (G : Geo) (a1 a2 a3 : Int32) (qo : Nat) : Array Value := ([.ref (G.2.2.1 0 0), .int a1, .int a2, .int a3, .ref qo] : List Value).toArray
/-- what it starts from -/
def PLd (G : Geo) (M : Mem) (D : va_G) (cA : ClassId) (qo : Nat) (a1 a2 a3 : Int32) (sz : Nat) : Array Value → State → Prop := fun v U =>
  v = arL G a1 a2 a3 qo ∧ (Holds G M U.heap ∧ KOk G U ∧ StOk G U) ∧ U.heap.size = sz ∧ DX (fun q => Fr G q ∨ sz ≤ q) U ∧ (∃ f, va_at D vwc (qo, .inl (cA, 1, .inr (.inl f))) U.heap) ∧ va_K D vwc [(cA, .long)] U ∧ va_Nc NSE IOE U ∧ ∀ w ∈ cstW, w.before #[] U = true
def QLd (G : Geo) (D : va_G) (cA : ClassId) (qo : Nat) (t : (Int32 ⊕ String) × Mem) : Array Value → State → Outcome → State → Prop := fun _ st o u =>
  (Holds G t.2 u.heap ∧ va_F (fun q => Fr G q ∨ q = qo) st u) ∧ ((∃ r, t.1 = .inl r ∧ o = .returned (some (.int 0)) ∧ va_at D vwc (qo, .inl (cA, 1, .inr (.inl (fun _ => r.toInt64)))) u.heap) ∨ (∃ f, va_at D vwc (qo, .inl (cA, 1, .inr (.inl f))) u.heap) ∧ ((t.1 = .inr IOE ∧ o = .returned (some (.int 1))) ∨ (t.1 = .inr NSE ∧ o = .returned (some (.int 2)))))
abbrev rm_ld : Room := { frames := 8, cells := 1, slots := 6, locals := 130 }
theorem PLd.blind (G : Geo) (M : Mem) (D : va_G) (cA : ClassId) (qo : Nat) (a1 a2 a3 : Int32) (sz : Nat) : FrameBlind (PLd G M D cA qo a1 a2 a3 sz) := fun a U g mk h => by
  obtain ⟨h1, ⟨h2, h3, h4⟩, h5, h6, h7, h8, h9, h10⟩ := h
  have hp := PC.blind G [] M #[] U g mk ⟨rfl, h2, h3, h4⟩
  exact ⟨h1, hp.2, h5, h6.blind, h7, va_K.moved (u := U) (U := U.calling g mk a) (Vm.Alike.refl U.vm) h8, va_Nc.moved (u := U) (U := U.calling g mk a) (Vm.Alike.refl U.vm) h9, fun w hw => fa_at (s := U) (U := U.calling g mk a) (Vm.Alike.refl U.vm) (cstW_fa w hw) (cstW_on w hw) (h10 w hw)⟩
set_option maxHeartbeats 1000000 in
theorem c_ld {G : Geo} {n0 : Nat} (hG : GOk G) (hX : GX G n0) {M : Mem} {D : va_G} {cA : ClassId} {qo : Nat} (hqo : ¬ Fr G qo) (hqt : ∀ k a, G.2.2.2 k a → G.2.2.1 k a ≠ qo) {a1 a2 a3 : Int32} (l : Launch) (hl0 : l.stackTraces = false) (t : (Int32 ⊕ String) × Mem) (h : Fh_deed M a1 a2 a3 = some t) (ht : (∃ r, t.1 = .inl r) ∨ t.1 = .inr IOE ∨ t.1 = .inr NSE) (sz : Nat) :
    vx_Met l ydl (Cond.codeWith ydl method_3_code 6 (some .int) hhL :: gw) rm_ld (PLd G M D cA qo a1 a2 a3 sz) (QLd G D cA qo t) (fun _ _ _ => False) 1 6 (fun q => (Fr G q ∨ q = qo) ∨ sz ≤ q) := by
  refine vx_ofWH (cc := method_3_code) (maxL := 6) (ret := some .int) (hh := hhL) (by decide) rfl ?_
  intro p e s m args below meth c s₁ B hml hv
  obtain ⟨rfl, ⟨hH, hK, hZ⟩, hsz, hD, ⟨f, hat⟩, hKl, hNc, hcst⟩ := hv
  subst hsz
  have hts := atoms_spec (ws := Cond.codeWith ydl method_3_code 6 (some .int) hhL :: gw) B.pre
  have hts2 : ∀ w ∈ gw, w.before _ s = true := fun w hw => hts w (List.mem_cons_of_mem _ hw)
  have htab := vx_table (x := ydl) B (hts _ List.mem_cons_self)
  have hx := B.exec
  have hb := B.bytes
  have hr := B.returns
  have hlk := B.notSynchronized
  have hown : s.vm.findClass "FrameHeirsLaw" = some m.cls := findClass_of_methodNamed B.named
  have hl := lv_entry ([.ref (G.2.2.1 0 0), .int a1, .int a2, .int a3, .ref qo]) (n := 6) (Nat.le_of_ble_eq_true rfl)
  rw [lg_entry_eq]
  generalize (lg_sl ([.ref (G.2.2.1 0 0), .int a1, .int a2, .int a3, .ref qo]) ++ List.replicate (6 - (lg_sl ([.ref (G.2.2.1 0 0), .int a1, .int a2, .int a3, .ref qo])).length) Slot.unset).toArray = ls at hl ⊢
  have hl : lv_has ls 6 [(0, .ref (G.2.2.1 0 0)), (1, .int a1), (2, .int a2), (3, .int a3), (4, .ref qo)] := hl
  refine lv_aload hx hb dl_0 (lv_at hl 4 rfl) ?_
  refine lv_iconst (v := 0) hx hb dl_2 (by decide) ?_
  refine lv_aload_n hx hb dl_3 rfl (lv_at hl 0 rfl) ?_
  refine lv_iload_n hx hb dl_4 rfl (lv_at hl 1 rfl) ?_
  refine lv_iload_n hx hb dl_5 rfl (lv_at hl 2 rfl) ?_
  refine lv_iload_n hx hb dl_6 rfl (lv_at hl 3 rfl) ?_
  have hl00 : G.2.2.2 0 0 := (hX 0 0).mpr (by unfold xcell; omega)
  have ho := (hH.1 0 0 hl00).no rfl
  rw [ent_obj (ci := 4) (cs := cs0) rfl] at ho
  obtain ⟨y1, y2, y3, y4, y5, y6, y7, y8⟩ := y_X5_deed
  have hgood : GoodIn gw (Cond.code yX5_deed cX5_deed 5 (some .int) :: gw) := fun w hw => by
    rcases List.mem_cons.mp hw with e | hw
    · subst e; exact ⟨y3, good_of_word (List.mem_filter.mp y3).2⟩
    · exact ⟨hw, good_of_word (List.mem_filter.mp hw).2⟩
  have hS0 : va_S (fun q => (Fr G q ∨ q = qo) ∨ s.heap.size ≤ q) s.heap s.heap [] := va_S.rf
  have hrun := vx_runV (p := p) (e := e) (R := rm_ld) (below := below) (meth := meth) (H := s.heap) (locs := []) (cells := 0) (slots := 0) (g := F0 m 7 ls [.int a3, .int a2, .int a1, .ref (G.2.2.1 0 0), .int 0, .ref qo]) (rest := [.int 0, .ref qo]) (As := [.int a1, .int a2, .int a3]) (n := 3) (C := "FrameHeirs") (b := G.2.2.1 0 0) ⟨hx, hb, hml, hown, hts2⟩ (c_X5_deed hG hX.cl hX.X l hl0 t h s.heap.size) ⟨callB_of 3 hts2 hgood rfl rfl rfl (hts2 _ y4) (hts2 _ q1129) ⟨y5, y6, y7⟩ ⟨Nat.le_of_ble_eq_true rfl, Nat.le_of_ble_eq_true rfl⟩, hts2 _ y1, hts2 _ y2⟩
    ⟨fun a U g mk q => ⟨PA.blind _ _ _ _ a U g mk q.1, q.2.blind⟩, va_recv (q0 := 0) hK (va_one ho) rfl rfl, fun U hU hW => ⟨⟨PC.at (as := [.inr (0, 0), .inl (.int a1), .inl (.int a2), .inl (.int a3)]) hH hK hZ (fun q _ _ => rfl) hU hW, by rw [hU]⟩, hD.at (fun q _ _ => rfl) hU hW (fun q hq => hq)⟩⟩ rfl rfl hl.1 rfl (lv_room (Nat.le_of_ble_eq_true rfl)) dl_7 ⟨Nat.le_of_ble_eq_true rfl, Nat.le_of_ble_eq_true rfl⟩
  intro T hT X
  rcases hrun T hT X with ⟨v, st₀, t1, T', Lc, h0, X', hL', e1, e2, ⟨⟨r, hr1, hr2⟩, hH1, hF1⟩, st⟩ | ⟨q, st₀, t1, T', Lc, E, ce, h0, X', hL', e1, e2, ⟨hE, hH1, hF1⟩, hce, hcv, hcl, st⟩
  · cases hr2
    obtain ⟨hz, hk⟩ := hF1
    rw [h0] at hz hk
    have hat1 : va_at D vwc (qo, .inl (cA, 1, .inr (.inl f))) T'.heap := hat.kept (by rw [e1]; exact hk _ hat.lt hqo)
    have hH1' : Holds G t.2 T'.heap := by rw [e1]; exact hH1
    have K : W p l e rm_ld s m (arL G a1 a2 a3 qo) below meth c T'.heap ([] ++ Lc) (0 + 1) (0 + 6) (vx_MQ below (QLd G D cA qo t) (fun _ _ _ => False) (arL G a1 a2 a3 qo) s 1 6 (fun q => (Fr G q ∨ q = qo) ∨ s.heap.size ≤ q)) (F0 m 10 ls [.int r, .int 0, .ref qo]) := by
      refine lv_i2l (v := r.toInt64) hx hb dl_10 rfl ?_
      refine W.last hx hb hat1 ((hKl.2 0 _ rfl).1 1 (fun j => .long (f j))) (fun q => by cases q) (by show ¬ ((0 : Int32) < 0 ∨ (arrV _ _ _).slots.size ≤ _); rw [arrV_size]; exact (show ¬ ((0 : Int32) < 0 ∨ 1 ≤ (0 : Int32).toNatClampNeg) by decide)) rfl rfl dl_11 fun H2 g1 g2 g3 => ?_
      have g3 : ∀ q : Nat, q ≠ qo → H2[q]? = T'.heap[q]? := g3
      have hq : ∀ u : State, u.heap = H2 → s.WarmedH u.vm → QLd G D cA qo t (arL G a1 a2 a3 qo) s (.returned (some (.int 0))) u := fun u hu _ => by
        refine And.intro (And.intro ?_ ?_) (Or.inl ⟨r, hr1, rfl, ?_⟩)
        · rw [hu]
          exact hH1'.apart (fun k a hl => g3 _ (hqt k a hl))
        · refine And.intro (by rw [hu, g2, e1]; exact hz) (fun z z1 z2 => ?_)
          rw [hu, g3 z (fun ee => z2 (Or.inr ee)), e1]
          exact hk z z1 (fun zz => z2 (Or.inl zz))
        · rw [hu]
          show H2[qo]? = some (vp_cell _ _)
          have g1 : H2[qo]? = some ((vp_cell cA (1, .inr (.inl f))).setSlot (Int32.toNatClampNeg 0) (Value.long r.toInt64)) := g1
          rw [g1]
          show some ((vp_cell cA (1, .inr (.inl f))).setSlot _ _) = some (vp_cell _ (1, .inr (.inl _)))
          rw [vp_cell_l, vp_cell_l, arrV_store]
          exact congrArg some (arrV_1 (by simp [updV]))
      have hfr : ∀ z ∈ ([] ++ Lc) ++ [(⟨qo, (0 : Int32).toNatClampNeg⟩ : Loc)], (Fr G z.base ∨ z.base = qo) ∨ s.heap.size ≤ z.base := fun z hz => by
        rcases List.mem_append.mp hz with z | z
        · rcases List.mem_append.mp z with z | z
          · cases z
          · rcases hL' _ z with z | z
            · exact Or.inl (Or.inl z)
            · exact Or.inr z
        · rw [List.mem_singleton.mp z]
          exact Or.inl (Or.inr rfl)
      show W p l e rm_ld s m (arL G a1 a2 a3 qo) below meth c H2 (([] ++ Lc) ++ [(⟨qo, (0 : Int32).toNatClampNeg⟩ : Loc)]) (0 + 1) (0 + 6) (vx_MQ below (QLd G D cA qo t) (fun _ _ _ => False) (arL G a1 a2 a3 qo) s 1 6 (fun q => (Fr G q ∨ q = qo) ∨ s.heap.size ≤ q)) (F0 m 12 ls [])
      refine lv_goto (tgt := 23) hx hb dl_12 (by decide) ?_
      refine lv_iconst (v := 0) hx hb dl_23 (by decide) ?_
      exact vx_ret (W.iret hx hb hr hq hfr dl_24 hlk)
    obtain ⟨t2, b1, b2⟩ := K T' rfl X'
    exact ⟨t2, st t2 b1, b2⟩
  · obtain ⟨hz, hk⟩ := hF1
    rw [h0] at hz hk
    have hat1 : va_at D vwc (qo, .inl (cA, 1, .inr (.inl f))) T'.heap := hat.kept (by rw [e1]; exact hk _ hat.lt hqo)
    have hH1' : Holds G t.2 T'.heap := by rw [e1]; exact hH1
    have hend : ∀ {pc : Nat} {w : Int32} {ls2 : Array Slot}, decode method_3_code pc = .ok (.ireturn, 1) → ((t.1 = .inr IOE ∧ w = 1) ∨ (t.1 = .inr NSE ∧ w = 2)) → W p l e rm_ld s m (arL G a1 a2 a3 qo) below meth c T'.heap ([] ++ Lc) (0 + 1) (0 + 6) (vx_MQ below (QLd G D cA qo t) (fun _ _ _ => False) (arL G a1 a2 a3 qo) s 1 6 (fun q => (Fr G q ∨ q = qo) ∨ s.heap.size ≤ q)) (F0 m pc ls2 [.int w]) := fun hd hw =>
      vx_ret (W.iret hx hb hr (fun u hu _ => ⟨⟨by rw [hu]; exact hH1', by rw [hu, e1]; exact hz, fun z z1 z2 => by rw [hu, e1]; exact hk z z1 (fun zz => z2 (Or.inl zz))⟩, Or.inr ⟨⟨f, by rw [hu]; exact hat1⟩, by
        rcases hw with ⟨w1, w2⟩ | ⟨w1, w2⟩
        · exact Or.inl ⟨w1, by rw [w2]⟩
        · exact Or.inr ⟨w1, by rw [w2]⟩⟩⟩) (fun z hz => by
        rcases List.mem_append.mp hz with z | z
        · cases z
        · rcases hL' _ z with z | z
          · exact Or.inl (Or.inl z)
          · exact Or.inr z) hd hlk)
    have K : vx_W p l e rm_ld s m (arL G a1 a2 a3 qo) below meth c T'.heap ([] ++ Lc) (0 + 1) (0 + 6) (vx_MQ below (QLd G D cA qo t) (fun _ _ _ => False) (arL G a1 a2 a3 qo) s 1 6 (fun q => (Fr G q ∨ q = qo) ∨ s.heap.size ≤ q)) (F0 m 7 ls [.int 0, .ref qo]) q := by
      rcases ht with ⟨r, ht⟩ | ht | ht
      · rw [hE] at ht; cases ht
      · have eE : E = IOE := by rw [hE] at ht; cases ht; rfl
        subst eE
        refine vx_catch (name := IOE) hown [] ⟨0, 12, 15, 13⟩ [⟨0, 12, 19, 15⟩] htab (fun z hz => by cases hz) (by decide) (by decide) (hts2 _ q1127) (fa_at (s := s) (U := s) (Vm.Alike.refl s.vm) rfl rfl (hcst _ List.mem_cons_self)) (by rw [e1]; exact hce) hcv hcl ?_
        refine lv_astore (lv' := [(5, .ref q), (0, .ref (G.2.2.1 0 0)), (1, .int a1), (2, .int a2), (3, .int a3), (4, .ref qo)]) hx hb dl_15 hl (by decide) rfl (fun ls2 hl2 => ?_)
        refine lv_iconst (v := 1) hx hb dl_17 (by decide) ?_
        exact hend dl_18 (Or.inl ⟨hE, rfl⟩)
      · have eE : E = NSE := by rw [hE] at ht; cases ht; rfl
        subst eE
        refine vx_catch (name := NSE) hown [⟨0, 12, 15, 13⟩] ⟨0, 12, 19, 15⟩ [] htab (fun z hz => ?_) (by decide) (by decide) (hts2 _ q1128) (fa_at (s := s) (U := s) (Vm.Alike.refl s.vm) rfl rfl (hcst _ (List.mem_cons_of_mem _ List.mem_cons_self))) (by rw [e1]; exact hce) hcv hcl ?_
        · rw [List.mem_singleton.mp hz]
          exact Or.inr ⟨by decide, IOE, hts2 _ q1127, hNc⟩
        · refine lv_astore (lv' := [(5, .ref q), (0, .ref (G.2.2.1 0 0)), (1, .int a1), (2, .int a2), (3, .int a3), (4, .ref qo)]) hx hb dl_19 hl (by decide) rfl (fun ls2 hl2 => ?_)
          refine lv_iconst (v := 2) hx hb dl_21 (by decide) ?_
          exact hend dl_22 (Or.inr ⟨hE, rfl⟩)
    obtain ⟨t2, b1, b2⟩ := K T' rfl X'
    exact ⟨t2, st.trans b1, b2⟩
