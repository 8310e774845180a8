/-! ===== the law: its loop ===== -/
theorem lw63 (v : Int32) : 0 ≤ (v &&& 63).toInt ∧ (v &&& 63).toInt < 64 := by
  have h1 : (v &&& 63).toBitVec.toNat ≤ 63 := by
    rw [Int32.toBitVec_and, BitVec.toNat_and]
    exact Nat.and_le_right
  have h2 : (v &&& 63).toInt = ((v &&& 63).toBitVec.toNat : Int) := by
    show (v &&& 63).toBitVec.toInt = _
    exact BitVec.toInt_eq_toNat_of_lt (by omega)
  omega
set_option maxHeartbeats 2000000 in
theorem law_sw {p : Program} {l : Launch} {e : Env} {s : State} {m : MethodId} {below : List Frame} {meth : Method} {c : Code} {b L : Nat} {xs : Nat → Int32} {Q : State → Prop} {D : va_G} {cA : ClassId} {qo qx qm : Nat} {Gm : Geo} (hF : LF p s m c b L xs) (hLb : L ≤ 3072) (hl0 : l.stackTraces = false) (hDx : LDx s D cA) {i cc n0 : Nat} {M : Mem} {μ : Sl} {Gx : Geo} {H : Heap} {locs : List Loc} {cs ss : Nat} {ls : Array Slot} (hLS : LWS s D cA qo n0 M μ Gx Gm H locs) (hqx : Gx.2.2.1 0 0 = qx) (hqm : Gm.2.2.1 0 34 = qm) (hI : Inv cc n0 M μ) (hcc : cc < 600) (hl : lv_has ls 7 [(0, .ref b), (1, .ref qx), (2, .ref qm), (3, .ref qo), (4, .int (nI i))]) (hi6 : i + 6 ≤ L) (hcs : cs + 40 ≤ 601024 ∧ ss + 4000 ≤ 7293034) (hkk : KK p l e s m below meth c b Q D cA qo qx qm Gm i cc cs ss) (x : Int32) (hx0 : 0 ≤ x.toInt) (hx1 : x.toInt < 64) : W p l e room_1 s m #[Value.ref b] below meth c H locs cs ss Q (F0 m 40 ls [.int x]) := by
    obtain ⟨hx, hb, hml, hown, hts, hX, hbl⟩ := id hF
    by_cases z0 : x.toInt = 0
    · refine lv_tableIn (tgt := 212) hx hb d_law_40 (by omega) (by omega) (off := 172) (by rw [z0]; rfl) (by decide) ?_
      exact law_0 hF ⟨hLS, hqx, hqm, hI, hcc, hl, hi6, hLb, hcs⟩ hkk
    by_cases z1 : x.toInt = 1
    · refine lv_tableIn (tgt := 285) hx hb d_law_40 (by omega) (by omega) (off := 245) (by rw [z1]; rfl) (by decide) ?_
      exact law_1 hF ⟨hLS, hqx, hqm, hI, hcc, hl, hi6, hLb, hcs⟩ hkk
    by_cases z2 : x.toInt = 2
    · refine lv_tableIn (tgt := 310) hx hb d_law_40 (by omega) (by omega) (off := 270) (by rw [z2]; rfl) (by decide) ?_
      exact law_2 hF ⟨hLS, hqx, hqm, hI, hcc, hl, hi6, hLb, hcs⟩ hkk
    by_cases z3 : x.toInt = 3
    · refine lv_tableIn (tgt := 335) hx hb d_law_40 (by omega) (by omega) (off := 295) (by rw [z3]; rfl) (by decide) ?_
      exact law_3 hF ⟨hLS, hqx, hqm, hI, hcc, hl, hi6, hLb, hcs⟩ hkk
    by_cases z4 : x.toInt = 4
    · refine lv_tableIn (tgt := 360) hx hb d_law_40 (by omega) (by omega) (off := 320) (by rw [z4]; rfl) (by decide) ?_
      exact law_4 hF ⟨hLS, hqx, hqm, hI, hcc, hl, hi6, hLb, hcs⟩ hkk
    by_cases z5 : x.toInt = 5
    · refine lv_tableIn (tgt := 433) hx hb d_law_40 (by omega) (by omega) (off := 393) (by rw [z5]; rfl) (by decide) ?_
      exact law_5 hF ⟨hLS, hqx, hqm, hI, hcc, hl, hi6, hLb, hcs⟩ hkk
    by_cases z6 : x.toInt = 6
    · refine lv_tableIn (tgt := 494) hx hb d_law_40 (by omega) (by omega) (off := 454) (by rw [z6]; rfl) (by decide) ?_
      exact law_6 hF ⟨hLS, hqx, hqm, hI, hcc, hl, hi6, hLb, hcs⟩ hkk
    by_cases z7 : x.toInt = 7
    · refine lv_tableIn (tgt := 571) hx hb d_law_40 (by omega) (by omega) (off := 531) (by rw [z7]; rfl) (by decide) ?_
      exact law_7 hF ⟨hLS, hqx, hqm, hI, hcc, hl, hi6, hLb, hcs⟩ hkk
    by_cases z8 : x.toInt = 8
    · refine lv_tableIn (tgt := 596) hx hb d_law_40 (by omega) (by omega) (off := 556) (by rw [z8]; rfl) (by decide) ?_
      exact law_8 hF ⟨hLS, hqx, hqm, hI, hcc, hl, hi6, hLb, hcs⟩ hkk
    by_cases z9 : x.toInt = 9
    · refine lv_tableIn (tgt := 645) hx hb d_law_40 (by omega) (by omega) (off := 605) (by rw [z9]; rfl) (by decide) ?_
      exact law_9 hF ⟨hLS, hqx, hqm, hI, hcc, hl, hi6, hLb, hcs⟩ hkk
    by_cases z10 : x.toInt = 10
    · refine lv_tableIn (tgt := 670) hx hb d_law_40 (by omega) (by omega) (off := 630) (by rw [z10]; rfl) (by decide) ?_
      exact law_10 hF ⟨hLS, hqx, hqm, hI, hcc, hl, hi6, hLb, hcs⟩ hkk
    by_cases z11 : x.toInt = 11
    · refine lv_tableIn (tgt := 683) hx hb d_law_40 (by omega) (by omega) (off := 643) (by rw [z11]; rfl) (by decide) ?_
      exact law_11 hF ⟨hLS, hqx, hqm, hI, hcc, hl, hi6, hLb, hcs⟩ hkk
    by_cases z12 : x.toInt = 12
    · refine lv_tableIn (tgt := 696) hx hb d_law_40 (by omega) (by omega) (off := 656) (by rw [z12]; rfl) (by decide) ?_
      exact law_12 hF ⟨hLS, hqx, hqm, hI, hcc, hl, hi6, hLb, hcs⟩ hkk
    by_cases z13 : x.toInt = 13
    · refine lv_tableIn (tgt := 721) hx hb d_law_40 (by omega) (by omega) (off := 681) (by rw [z13]; rfl) (by decide) ?_
      exact law_13 hF ⟨hLS, hqx, hqm, hI, hcc, hl, hi6, hLb, hcs⟩ hkk
    by_cases z14 : x.toInt = 14
    · refine lv_tableIn (tgt := 746) hx hb d_law_40 (by omega) (by omega) (off := 706) (by rw [z14]; rfl) (by decide) ?_
      exact law_14 hF ⟨hLS, hqx, hqm, hI, hcc, hl, hi6, hLb, hcs⟩ hkk
    by_cases z15 : x.toInt = 15
    · refine lv_tableIn (tgt := 771) hx hb d_law_40 (by omega) (by omega) (off := 731) (by rw [z15]; rfl) (by decide) ?_
      exact law_15 hF ⟨hLS, hqx, hqm, hI, hcc, hl, hi6, hLb, hcs⟩ hkk hl0 hDx
    by_cases z16 : x.toInt = 16
    · refine lv_tableIn (tgt := 851) hx hb d_law_40 (by omega) (by omega) (off := 811) (by rw [z16]; rfl) (by decide) ?_
      exact law_16 hF ⟨hLS, hqx, hqm, hI, hcc, hl, hi6, hLb, hcs⟩ hkk
    by_cases z17 : x.toInt = 17
    · refine lv_tableIn (tgt := 900) hx hb d_law_40 (by omega) (by omega) (off := 860) (by rw [z17]; rfl) (by decide) ?_
      exact law_17 hF ⟨hLS, hqx, hqm, hI, hcc, hl, hi6, hLb, hcs⟩ hkk
    by_cases z18 : x.toInt = 18
    · refine lv_tableIn (tgt := 949) hx hb d_law_40 (by omega) (by omega) (off := 909) (by rw [z18]; rfl) (by decide) ?_
      exact law_18 hF ⟨hLS, hqx, hqm, hI, hcc, hl, hi6, hLb, hcs⟩ hkk
    by_cases z19 : x.toInt = 19
    · refine lv_tableIn (tgt := 986) hx hb d_law_40 (by omega) (by omega) (off := 946) (by rw [z19]; rfl) (by decide) ?_
      exact law_19 hF ⟨hLS, hqx, hqm, hI, hcc, hl, hi6, hLb, hcs⟩ hkk
    by_cases z20 : x.toInt = 20
    · refine lv_tableIn (tgt := 1023) hx hb d_law_40 (by omega) (by omega) (off := 983) (by rw [z20]; rfl) (by decide) ?_
      exact law_20 hF ⟨hLS, hqx, hqm, hI, hcc, hl, hi6, hLb, hcs⟩ hkk
    by_cases z21 : x.toInt = 21
    · refine lv_tableIn (tgt := 1060) hx hb d_law_40 (by omega) (by omega) (off := 1020) (by rw [z21]; rfl) (by decide) ?_
      exact law_21 hF ⟨hLS, hqx, hqm, hI, hcc, hl, hi6, hLb, hcs⟩ hkk
    by_cases z22 : x.toInt = 22
    · refine lv_tableIn (tgt := 1097) hx hb d_law_40 (by omega) (by omega) (off := 1057) (by rw [z22]; rfl) (by decide) ?_
      exact law_22 hF ⟨hLS, hqx, hqm, hI, hcc, hl, hi6, hLb, hcs⟩ hkk
    by_cases z23 : x.toInt = 23
    · refine lv_tableIn (tgt := 1134) hx hb d_law_40 (by omega) (by omega) (off := 1094) (by rw [z23]; rfl) (by decide) ?_
      exact law_23 hF ⟨hLS, hqx, hqm, hI, hcc, hl, hi6, hLb, hcs⟩ hkk
    by_cases z24 : x.toInt = 24
    · refine lv_tableIn (tgt := 1171) hx hb d_law_40 (by omega) (by omega) (off := 1131) (by rw [z24]; rfl) (by decide) ?_
      exact law_24 hF ⟨hLS, hqx, hqm, hI, hcc, hl, hi6, hLb, hcs⟩ hkk
    by_cases z25 : x.toInt = 25
    · refine lv_tableIn (tgt := 1196) hx hb d_law_40 (by omega) (by omega) (off := 1156) (by rw [z25]; rfl) (by decide) ?_
      exact law_25 hF ⟨hLS, hqx, hqm, hI, hcc, hl, hi6, hLb, hcs⟩ hkk
    by_cases z26 : x.toInt = 26
    · refine lv_tableIn (tgt := 1221) hx hb d_law_40 (by omega) (by omega) (off := 1181) (by rw [z26]; rfl) (by decide) ?_
      exact law_26 hF ⟨hLS, hqx, hqm, hI, hcc, hl, hi6, hLb, hcs⟩ hkk
    by_cases z27 : x.toInt = 27
    · refine lv_tableIn (tgt := 1258) hx hb d_law_40 (by omega) (by omega) (off := 1218) (by rw [z27]; rfl) (by decide) ?_
      exact law_27 hF ⟨hLS, hqx, hqm, hI, hcc, hl, hi6, hLb, hcs⟩ hkk
    by_cases z28 : x.toInt = 28
    · refine lv_tableIn (tgt := 1283) hx hb d_law_40 (by omega) (by omega) (off := 1243) (by rw [z28]; rfl) (by decide) ?_
      exact law_28 hF ⟨hLS, hqx, hqm, hI, hcc, hl, hi6, hLb, hcs⟩ hkk
    by_cases z29 : x.toInt = 29
    · refine lv_tableIn (tgt := 1320) hx hb d_law_40 (by omega) (by omega) (off := 1280) (by rw [z29]; rfl) (by decide) ?_
      exact law_29 hF ⟨hLS, hqx, hqm, hI, hcc, hl, hi6, hLb, hcs⟩ hkk
    by_cases z30 : x.toInt = 30
    · refine lv_tableIn (tgt := 1345) hx hb d_law_40 (by omega) (by omega) (off := 1305) (by rw [z30]; rfl) (by decide) ?_
      exact law_30 hF ⟨hLS, hqx, hqm, hI, hcc, hl, hi6, hLb, hcs⟩ hkk
    by_cases z31 : x.toInt = 31
    · refine lv_tableIn (tgt := 1370) hx hb d_law_40 (by omega) (by omega) (off := 1330) (by rw [z31]; rfl) (by decide) ?_
      exact law_31 hF ⟨hLS, hqx, hqm, hI, hcc, hl, hi6, hLb, hcs⟩ hkk
    by_cases z32 : x.toInt = 32
    · refine lv_tableIn (tgt := 1407) hx hb d_law_40 (by omega) (by omega) (off := 1367) (by rw [z32]; rfl) (by decide) ?_
      exact law_32 hF ⟨hLS, hqx, hqm, hI, hcc, hl, hi6, hLb, hcs⟩ hkk
    by_cases z33 : x.toInt = 33
    · refine lv_tableIn (tgt := 1444) hx hb d_law_40 (by omega) (by omega) (off := 1404) (by rw [z33]; rfl) (by decide) ?_
      exact law_33 hF ⟨hLS, hqx, hqm, hI, hcc, hl, hi6, hLb, hcs⟩ hkk
    by_cases z34 : x.toInt = 34
    · refine lv_tableIn (tgt := 1493) hx hb d_law_40 (by omega) (by omega) (off := 1453) (by rw [z34]; rfl) (by decide) ?_
      exact law_34 hF ⟨hLS, hqx, hqm, hI, hcc, hl, hi6, hLb, hcs⟩ hkk
    by_cases z35 : x.toInt = 35
    · refine lv_tableIn (tgt := 1530) hx hb d_law_40 (by omega) (by omega) (off := 1490) (by rw [z35]; rfl) (by decide) ?_
      exact law_35 hF ⟨hLS, hqx, hqm, hI, hcc, hl, hi6, hLb, hcs⟩ hkk
    by_cases z36 : x.toInt = 36
    · refine lv_tableIn (tgt := 1555) hx hb d_law_40 (by omega) (by omega) (off := 1515) (by rw [z36]; rfl) (by decide) ?_
      exact law_36 hF ⟨hLS, hqx, hqm, hI, hcc, hl, hi6, hLb, hcs⟩ hkk
    by_cases z37 : x.toInt = 37
    · refine lv_tableIn (tgt := 1592) hx hb d_law_40 (by omega) (by omega) (off := 1552) (by rw [z37]; rfl) (by decide) ?_
      exact law_37 hF ⟨hLS, hqx, hqm, hI, hcc, hl, hi6, hLb, hcs⟩ hkk
    by_cases z38 : x.toInt = 38
    · refine lv_tableIn (tgt := 1605) hx hb d_law_40 (by omega) (by omega) (off := 1565) (by rw [z38]; rfl) (by decide) ?_
      exact law_38 hF ⟨hLS, hqx, hqm, hI, hcc, hl, hi6, hLb, hcs⟩ hkk
    refine lv_tableOut (tgt := 1630) hx hb d_law_40 (Or.inr (by omega)) (by decide) ?_
    refine W.widen (k := cs + 40) (n := ss + 4000) (by omega) (by omega) ?_
    exact hkk _ _ _ _ _ _ _ hLS hqx (inv_more hI) hl
theorem law_loop {p : Program} {l : Launch} {e : Env} {s : State} {m : MethodId} {below : List Frame} {meth : Method} {c : Code} {b L : Nat} {xs : Nat → Int32} {Q : State → Prop} {D : va_G} {cA : ClassId} {qo qx qm : Nat} {Gm : Geo} (hF : LF p s m c b L xs) (hLb : L ≤ 3072) (hl0 : l.stackTraces = false) (hDx : LDx s D cA) (hqm : Gm.2.2.1 0 34 = qm)
    (hend : ∀ (H : Heap) (locs : List Loc) (ls : Array Slot) (cs ss : Nat), va_S (LH s) s.heap H locs → cs ≤ 601024 → ss ≤ 7293034 → W p l e room_1 s m #[Value.ref b] below meth c H locs cs ss Q (F0 m 1636 ls [])) :
    ∀ (n i cc n0 : Nat) (M : Mem) (μ : Sl) (Gx : Geo) (H : Heap) (locs : List Loc) (cs ss : Nat) (ls : Array Slot), L < i + 6 * n → cc ≤ 520 → cc + n ≤ 520 → i ≤ 4000 → cs = 1000 + 40 * cc → ss = 100000 + 4000 * cc → LWS s D cA qo n0 M μ Gx Gm H locs → Gx.2.2.1 0 0 = qx → Inv cc n0 M μ → lv_has ls 7 [(0, .ref b), (1, .ref qx), (2, .ref qm), (3, .ref qo), (4, .int (nI i))] → W p l e room_1 s m #[Value.ref b] below meth c H locs cs ss Q (F0 m 23 ls []) := by
  obtain ⟨hx, hb, hml, hown, hts, hX, hbl⟩ := id hF
  have hbA : ¬ LH s b := Nat.not_le.mpr hbl
  have step : ∀ (n i cc n0 : Nat) (M : Mem) (μ : Sl) (Gx : Geo) (H : Heap) (locs : List Loc) (cs ss : Nat) (ls : Array Slot), cc ≤ 520 → i ≤ 4000 → cs = 1000 + 40 * cc → ss = 100000 + 4000 * cc → LWS s D cA qo n0 M μ Gx Gm H locs → Gx.2.2.1 0 0 = qx → Inv cc n0 M μ → lv_has ls 7 [(0, .ref b), (1, .ref qx), (2, .ref qm), (3, .ref qo), (4, .int (nI i))] → (i + 6 ≤ L → KK p l e s m below meth c b Q D cA qo qx qm Gm i cc cs ss) → W p l e room_1 s m #[Value.ref b] below meth c H locs cs ss Q (F0 m 23 ls []) := by
    intro n i cc n0 M μ Gx H locs cs ss ls hc1 hi1 ecs ess hLS hqx hI hl hkk
    have hS := hLS.2.2.2.2
    refine lv_iload hx hb d_law_23 (lv_at hl 4 rfl) ?_
    refine lv_aload_n hx hb d_law_25 rfl (lv_at hl 0 rfl) ?_
    refine va_slen hx hb hX hbl hbA hS d_law_26 ?_
    refine lv_bipush (v := 6) hx hb d_law_27 (by decide) ?_
    refine lv_isub hx hb d_law_29 ?_
    have e6 : Int32.ofNat L - 6 = zI ((L : Int) - 6) := by rw [zI_nI, show (6 : Int32) = zI 6 from rfl, zI_sub]
    have ei : nI i = zI (i : Int) := zI_nI i
    refine lv_icmp_gt (tgt := 1636) hx hb d_law_30 (by decide) (fun _ => ?_) (fun z => ?_)
    · exact hend H locs ls cs ss hS (by omega) (by omega)
    · have hi6 : i + 6 ≤ L := by
        have z2 : ¬ Int32.ofNat L - 6 < nI i := z
        rw [e6, ei, zI_lt (by omega) (by omega) (by omega) (by omega)] at z2
        omega
      refine lv_aload_n hx hb d_law_33 rfl (lv_at hl 0 rfl) ?_
      refine lv_iload hx hb d_law_34 (lv_at hl 4 rfl) ?_
      refine va_sld hx hb hX hbl hbA hS (vp_in_nI (by omega) (by omega)) d_law_36 ?_
      refine lv_bipush (v := 63) hx hb d_law_37 (by decide) ?_
      refine lv_iand hx hb d_law_39 ?_
      exact law_sw hF hLb hl0 hDx hLS hqx hqm hI (by omega) hl hi6 ⟨by omega, by omega⟩ (hkk hi6) _ (lw63 _).1 (lw63 _).2
  intro n
  induction n with
  | zero =>
    intro i cc n0 M μ Gx H locs cs ss ls h1 h2 h3 h4 ecs ess hLS hqx hI hl
    exact step 0 i cc n0 M μ Gx H locs cs ss ls h2 h4 ecs ess hLS hqx hI hl (fun hi6 => by omega)
  | succ n ih =>
    intro i cc n0 M μ Gx H locs cs ss ls h1 h2 h3 h4 ecs ess hLS hqx hI hl
    refine step 0 i cc n0 M μ Gx H locs cs ss ls h2 h4 ecs ess hLS hqx hI hl (fun hi6 => ?_)
    intro n1 M1 μ1 G1 H1 locs1 ls1 hLS1 hq1 hI1 hl1
    refine lv_iinc (v := nI (i + 6)) (lv' := [(4, .int (nI (i + 6))), (0, .ref b), (1, .ref qx), (2, .ref qm), (3, .ref qo)]) hx hb d_law_1630 hl1 (k := 4) rfl (by rw [show Int32.ofInt 6 = nI 6 from rfl, nI_addn]) (by decide) rfl (fun ls2 hl2 => ?_)
    refine lv_goto (tgt := 23) hx hb d_law_1633 (by decide) ?_
    exact ih (i + 6) (cc + 1) n1 M1 μ1 G1 H1 locs1 (cs + 40) (ss + 4000) ls2 (by omega) (by omega) (by omega) (by omega) (by omega) (by omega) hLS1 hq1 hI1 (lv_sub hl2 [1, 2, 3, 4, 0] rfl)
