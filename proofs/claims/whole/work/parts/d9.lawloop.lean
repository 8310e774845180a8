/-! ===== the law: deed, and its loop ===== -/
theorem ls_d {s : State} {D : va_G} {cA : ClassId} {qo n0 : Nat} {M M1 : Mem} {μ : Sl} {Gx Gm : Geo} {H H1 : Heap} {locs locs1 : List Loc} (h : LWS s D cA qo n0 M μ Gx Gm H locs) (hqm : ∀ k a, Gm.2.2.2 k a → Gm.2.2.1 k a ≠ qo) (hz : H.size ≤ H1.size) (hk : ∀ q, q < H.size → ¬ (Fr Gx q ∨ q = qo) → H1[q]? = H[q]?) (hH : Holds Gx M1 H1) (hf : ∃ f, va_at D vwc (qo, .inl (cA, 1, .inr (.inl f))) H1) (hS : va_S (LH s) s.heap H1 locs1) : LWS s D cA qo n0 M1 μ Gx Gm H1 locs1 := by
  obtain ⟨⟨a1, a2, a3, a4, a5⟩, ⟨b1, b2, b3⟩, ⟨c1, c2⟩, ⟨d1, d2, d3, d4, f, d5⟩, e⟩ := h
  exact ⟨⟨a1, a2, a3, hH, a5⟩, ⟨b1, b2, b3.apart (fun k a hl => hk _ (b3.1 k a hl).lt (fun z => z.elim (c2 k a hl) (hqm k a hl)))⟩, ⟨c1, c2⟩, ⟨d1, d2, d3, by omega, hf⟩, hS⟩
/-- what the throws want of the start, and the array out -/
def LDx (s : State) (D : va_G) (cA : ClassId) : Prop := DX (LH s) s ∧ va_K D vwc [(cA, .long)] s ∧ va_Nc NSE IOE s ∧ ∀ w ∈ cstW, w.before #[] s = true
set_option maxHeartbeats 1000000 in
theorem law_15 {p : Program} {l : Launch} {e : Env} {s : State} {m : MethodId} {below : List Frame} {meth : Method} {c : Code} {b L : Nat} {xs : Nat → Int32} {Q : State → Prop} {H : Heap} {locs : List Loc} {cs ss : Nat} {ls : Array Slot} {D : va_G} {cA : ClassId} {qo qx qm n0 i cc : Nat} {M : Mem} {μ : Sl} {Gx Gm : Geo} (hF : LF p s m c b L xs) (hP : KP0 s D cA qo qx qm b L i cc n0 M μ Gx Gm H locs ls cs ss) (kk : KK p l e s m below meth c b Q D cA qo qx qm Gm i cc cs ss) (hl0 : l.stackTraces = false) (hDx : LDx s D cA) : W p l e room_1 s m #[Value.ref b] below meth c H locs cs ss Q (F0 m 771 ls []) := by
  obtain ⟨hLS, hqx, hqm, hI, hcc, hl, hi, hLb, hcs⟩ := hP
  obtain ⟨hx, hb, hml, hown, hts, hX, hbl⟩ := id hF
  obtain ⟨⟨a1, a2, a3, a4, a5⟩, ⟨b1, b2, b3⟩, ⟨c1, c2⟩, ⟨g1, g2, g3, g4, f0, g5⟩, hS⟩ := id hLS
  obtain ⟨k1, k2, k3, k4⟩ := hDx
  have h0 := lv_at hl 0 rfl
  have h4 := lv_at hl 4 rfl
  have hqt := g1
  have hqm2 := g2
  obtain ⟨r, μ1, e2, hI1, hR⟩ := top_deed hI hcc (xs (i + 1)) (xs (i + 2)) (xs (i + 3))
  obtain ⟨t, e1, ht2, ht1⟩ : ∃ t, Fh_deed M (xs (i + 1)) (xs (i + 2)) (xs (i + 3)) = some t ∧ t.2 = M ∧ ((t.1 = .inl r ∧ μ1 34 2 = 0) ∨ (t.1 = .inr IOE ∧ μ1 34 2 = 1) ∨ (t.1 = .inr NSE ∧ μ1 34 2 = 2)) := by
    rcases hR with ⟨q1, q2⟩ | ⟨q1, q2⟩ | ⟨q1, q2⟩
    · exact ⟨_, q1, rfl, Or.inl ⟨rfl, q2⟩⟩
    · exact ⟨_, q1, rfl, Or.inr (Or.inl ⟨rfl, q2⟩)⟩
    · exact ⟨_, q1, rfl, Or.inr (Or.inr ⟨rfl, q2⟩)⟩
  refine lv_aload_n hx hb d_law_771 rfl (lv_at hl 1 rfl) ?_
  refine lw_arg (j := 1) hF hLb hS hl h0 h4 (by omega) rfl d_law_772 d_law_773 d_law_775 d_law_776 d_law_777 ?_
  refine lw_arg (j := 2) hF hLb hS hl h0 h4 (by omega) rfl d_law_778 d_law_779 d_law_781 d_law_782 d_law_783 ?_
  refine lw_arg (j := 3) hF hLb hS hl h0 h4 (by omega) rfl d_law_784 d_law_785 d_law_787 d_law_788 d_law_789 ?_
  refine lv_aload_n hx hb d_law_790 rfl (lv_at hl 3 rfl) ?_
  have hM := c_ld (D := D) (cA := cA) a1.2.2.1 a2 (nfr g1) hqt l hl0 t e1 (by
    rcases ht1 with ⟨q, -⟩ | ⟨q, -⟩ | ⟨q, -⟩
    · exact Or.inl ⟨_, q⟩
    · exact Or.inr (Or.inl q)
    · exact Or.inr (Or.inr q)) H.size
  have hrun := vx_runSX (p := p) (e := e) (R := room_1) (s := s) (args := #[Value.ref b]) (below := below) (meth := meth) (H := H) (locs := locs) (cells := cs) (slots := ss) (g := F0 m 791 ls [.ref qo, .int (xs (i + 3)), .int (xs (i + 2)), .int (xs (i + 1)), .ref qx]) (rest := []) (As := [.ref qx, .int (xs (i + 1)), .int (xs (i + 2)), .int (xs (i + 3)), .ref qo]) (n := 5) (hh := hhL) (bytes := method_3_code) (maxL := 6) (ret := some .int) (index := 86) (own := "FrameHeirsLaw") ⟨hx, hb, hml, hown, hts⟩ hM
    ⟨⟨rfl, rfl, Nat.le_of_ble_eq_true rfl, Nat.le_of_ble_eq_true rfl, fun w hw a' U hW => by
        rcases List.mem_cons.mp hw with ee | hw
        · rw [ee]; exact word_at hW (good_of_word (List.mem_filter.mp q1126).2) (hts _ q1126)
        · exact word_at hW (good_of_word (List.mem_filter.mp hw).2) (hts _ hw), List.mem_cons_self⟩, hts _ q1126, hts _ q142, ⟨by decide, by decide⟩, fun sig h => by have h2 : (parseMethodDescriptor ydl.desc).map (fun d => d.parameters.length) = some 5 := (by decide +kernel); rw [h] at h2; exact (Option.some.inj h2).symm, hts _ q1124, hts _ q1125⟩
    ⟨PLd.blind _ _ _ _ _ _ _ _ _, fun U hU hW => by
      have hpc := PC.at (as := []) (G := Gx) (M := M) (H := H) (U := U) a4 a1.1 a1.2.1 (fun q h1 _ => hS.2.1 q h1 (Nat.not_le.mpr h1)) hU hW
      refine ⟨by rw [← hqx], ⟨hpc.2.1, hpc.2.2.1, hpc.2.2.2⟩, by rw [hU], k1.at (fun q h1 h2 => hS.2.1 q h1 h2) hU hW (fun q hq => hq.elim (a1.2.2.2 q) (fun z => Nat.le_trans hS.1 z)), ⟨f0, by rw [hU]; exact g5⟩, k2.moved hW.alike, k3.moved hW.alike, fun w hw => fa_at hW.alike (cstW_fa w hw) (cstW_on w hw) (k4 w hw)⟩⟩
    rfl rfl hl.1 rfl (lv_room (Nat.le_of_ble_eq_true rfl)) d_law_791 ⟨by have := hcs.1; show cs + 1 ≤ 601024; omega, by have := hcs.2; show ss + 6 ≤ 7293034; omega⟩
  intro T hT X
  rcases hrun T hT X with ⟨v, st₀, t1, T', Lc, z0, X', hL', ee1, ee2, ⟨⟨hH1, hz, hk⟩, hout⟩, st⟩ | ⟨q, st₀, t1, T', Lc, E, ce, z0, X', hL', ee1, ee2, hno, -⟩
  · rw [z0] at hz hk
    have hS1 : va_S (LH s) s.heap T'.heap (locs ++ Lc) := ⟨Nat.le_trans hS.1 (by rw [ee1]; exact hz), fun q h1 h2 => by rw [ee1, hk q (Nat.lt_of_lt_of_le h1 hS.1) (fun z => h2 (z.elim (a1.2.2.2 q) (fun z => by rw [z]; exact g3)))]; exact hS.2.1 q h1 h2, fun q hq => by
      rcases List.mem_append.mp hq with h | h
      · exact hS.2.2 q h
      · rcases hL' q h with (h | h) | h
        · exact a1.2.2.2 _ h
        · show s.heap.size ≤ q.base
          rw [h]; exact g3
        · exact Nat.le_trans hS.1 h⟩
    have hH1' : Holds Gx M T'.heap := by rw [ee1, ← ht2]; exact hH1
    obtain ⟨kv, hkv, ff, hff, hcase⟩ : ∃ kv : Int32, v = some (.int kv) ∧ ∃ f, va_at D vwc (qo, .inl (cA, 1, .inr (.inl f))) T'.heap ∧ ((kv = 0 ∧ μ1 34 2 = 0 ∧ f 0 = r.toInt64) ∨ (kv = 1 ∧ μ1 34 2 = 1) ∨ (kv = 2 ∧ μ1 34 2 = 2)) := by
      rcases hout with ⟨r', q1, q2, q3⟩ | ⟨⟨f, q0⟩, ⟨q1, q2⟩ | ⟨q1, q2⟩⟩
      · cases q2
        rcases ht1 with ⟨w1, w2⟩ | ⟨w1, w2⟩ | ⟨w1, w2⟩
        · rw [q1] at w1; cases w1
          exact ⟨0, rfl, _, by rw [ee1]; exact q3, Or.inl ⟨rfl, w2, rfl⟩⟩
        · rw [q1] at w1; cases w1
        · rw [q1] at w1; cases w1
      · cases q2
        rcases ht1 with ⟨w1, w2⟩ | ⟨w1, w2⟩ | ⟨w1, w2⟩
        · rw [q1] at w1; cases w1
        · exact ⟨1, rfl, f, by rw [ee1]; exact q0, Or.inr (Or.inl ⟨rfl, w2⟩)⟩
        · rw [q1] at w1; exact absurd (Sum.inr.inj w1) (by decide)
      · cases q2
        rcases ht1 with ⟨w1, w2⟩ | ⟨w1, w2⟩ | ⟨w1, w2⟩
        · rw [q1] at w1; cases w1
        · rw [q1] at w1; exact absurd (Sum.inr.inj w1) (by decide)
        · exact ⟨2, rfl, f, by rw [ee1]; exact q0, Or.inr (Or.inr ⟨rfl, w2⟩)⟩
    cases hkv
    have hLS1 : LWS s D cA qo n0 M μ Gx Gm T'.heap (locs ++ Lc) := ls_d hLS hqm2 (by rw [ee1]; exact hz) (fun q h1 h2 => by rw [ee1]; exact hk q h1 h2) hH1' ⟨ff, hff⟩ hS1
    have K : W p l e room_1 s m #[Value.ref b] below meth c T'.heap (locs ++ Lc) (cs + 1) (ss + 6) Q (F0 m 794 ls [.int kv]) := by
      refine lv_istore (lv' := [(5, .int kv), (0, .ref b), (1, .ref qx), (2, .ref qm), (3, .ref qo), (4, .int (nI i))]) hx hb d_law_794 hl (by decide) rfl (fun ls2 hl2 => ?_)
      have h02 := lv_at hl2 1 rfl
      have h42 := lv_at hl2 5 rfl
      refine lv_aload_n hx hb d_law_796 rfl (lv_at hl2 3 rfl) ?_
      refine lw_arg (j := 1) hF hLb hS1 hl2 h02 h42 (by omega) rfl d_law_797 d_law_798 d_law_800 d_law_801 d_law_802 ?_
      refine lw_arg (j := 2) hF hLb hS1 hl2 h02 h42 (by omega) rfl d_law_803 d_law_804 d_law_806 d_law_807 d_law_808 ?_
      refine lw_arg (j := 3) hF hLb hS1 hl2 h02 h42 (by omega) rfl d_law_809 d_law_810 d_law_812 d_law_813 d_law_814 ?_
      refine lw_m2 (n := 3) (st := []) (μ1 := μ1) hF hLS1 y_X6_deed q1794 [.inl (.int (xs (i + 1))), .inl (.int (xs (i + 2))), .inl (.int (xs (i + 3)))] rfl rfl (r := r) (c_X6_deed b1.2.2.1 b2 l _ _ e2) ⟨rfl, rfl, Nat.le_of_ble_eq_true rfl, Nat.le_of_ble_eq_true rfl⟩ (Nat.le_of_ble_eq_true rfl) ⟨by have := hcs.1; omega, by have := hcs.2; omega⟩ hl2 d_law_815 (by rw [hqm]; rfl) (fun H2 locs2 hLS2 hk2 => ?_)
      refine lv_istore (lv' := [(6, .int r), (5, .int kv), (0, .ref b), (1, .ref qx), (2, .ref qm), (3, .ref qo), (4, .int (nI i))]) hx hb d_law_818 hl2 (by decide) rfl (fun ls3 hl3 => ?_)
      have hl9 : lv_has ls3 7 [(0, .ref b), (1, .ref qx), (2, .ref qm), (3, .ref qo), (4, .int (nI i))] := lv_sub hl3 [2, 3, 4, 5, 6] rfl
      refine lv_aload_n hx hb d_law_820 rfl (lv_at hl3 4 rfl) ?_
      refine lw_m2 (n := 0) (st := []) (μ1 := μ1) hF hLS2 y_X6_thrown q1368 [] rfl rfl (r := μ1 34 2) (c_X6_thrown b1.2.2.1 b2 l _ rfl) ⟨rfl, rfl, Nat.le_of_ble_eq_true rfl, Nat.le_of_ble_eq_true rfl⟩ (Nat.le_of_ble_eq_true rfl) ⟨by have := hcs.1; omega, by have := hcs.2; omega⟩ hl3 d_law_821 (by rw [hqm]; rfl) (fun H3 locs3 hLS3 hk3 => ?_)
      refine lv_iload hx hb d_law_824 (lv_at hl3 1 rfl) ?_
      have hfin : W p l e room_1 s m #[Value.ref b] below meth c H3 locs3 (cs + 1) (ss + 6) Q (F0 m 848 ls3 []) := by
        refine lv_goto (tgt := 1630) hx hb d_law_848 (by decide) ?_
        refine W.widen (k := cs + 40) (n := ss + 4000) (by omega) (by omega) ?_
        exact kk _ _ _ _ _ _ _ hLS3 hqx hI1 hl9
      refine lv_icmp_eq (tgt := 831) hx hb d_law_826 (by decide) (fun _ => ?_) (fun z => ?_)
      · refine lv_iload hx hb d_law_831 (lv_at hl3 1 rfl) ?_
        refine lv_if_ne (tgt := 848) hx hb d_law_833 (by decide) (fun _ => hfin) (fun z => ?_)
        have hf0 : ff 0 = r.toInt64 := by
          rcases hcase with ⟨-, -, q⟩ | ⟨q, -⟩ | ⟨q, -⟩
          · exact q
          · rw [q] at z; exact absurd z (by decide)
          · rw [q] at z; exact absurd z (by decide)
        refine lv_aload_n hx hb d_law_836 rfl (lv_at hl3 5 rfl) ?_
        refine lv_iconst (v := 0) hx hb d_law_837 (by decide) ?_
        have hq2 : va_at D vwc (qo, .inl (cA, 1, .inr (.inl ff))) H2 := hff.kept (hk2 _ hff.lt (nfr g2))
        have hq3 : va_at D vwc (qo, .inl (cA, 1, .inr (.inl ff))) H3 := hq2.kept (hk3 _ hq2.lt (nfr g2))
        refine va_lald hx hb k2 (va_one hq3) 0 0 rfl rfl (show vp_in 0 1 from vp_in_nI (n := 0) (N := 1) (by decide) (by decide)) d_law_838 ?_
        refine lv_iload hx hb d_law_839 (lv_at hl3 0 rfl) ?_
        refine lv_i2l (v := r.toInt64) hx hb d_law_841 rfl ?_
        refine W.lcmp hx hb d_law_842 ?_
        refine lv_if_eq (tgt := 848) hx hb d_law_843 (by decide) (fun _ => hfin) (fun z => absurd ?_ z)
        show lg_cmp (ff 0) r.toInt64 = 0
        rw [hf0]
        simp [lg_cmp]
      · refine absurd ?_ z
        rcases hcase with ⟨q1, q2, -⟩ | ⟨q1, q2⟩ | ⟨q1, q2⟩ <;> rw [q1, q2]
    obtain ⟨t2, w1, w2⟩ := K T' rfl X'
    exact ⟨t2, st t2 w1, w2⟩
  · exact hno.elim
