abbrev rm_X5_deed : Room := { frames := 7, cells := 1, slots := 6, locals := 100 }
theorem dX5_deed_0 : decode cX5_deed 0 = .ok (.aload_n 0, 1) := by decide +kernel
theorem dX5_deed_1 : decode cX5_deed 1 = .ok (.getfield 38, 3) := by decide +kernel
theorem dX5_deed_4 : decode cX5_deed 4 = .ok (.iload_n 1, 1) := by decide +kernel
theorem dX5_deed_5 : decode cX5_deed 5 = .ok (.iload_n 2, 1) := by decide +kernel
theorem dX5_deed_6 : decode cX5_deed 6 = .ok (.invokevirtual 156, 3) := by decide +kernel
theorem dX5_deed_9 : decode cX5_deed 9 = .ok (.ifCond .ne 13, 3) := by decide +kernel
theorem dX5_deed_12 : decode cX5_deed 12 = .ok (.new 160, 3) := by decide +kernel
theorem dX5_deed_15 : decode cX5_deed 15 = .ok (.dup, 1) := by decide +kernel
theorem dX5_deed_16 : decode cX5_deed 16 = .ok (.ldc 162, 2) := by decide +kernel
theorem dX5_deed_18 : decode cX5_deed 18 = .ok (.invokespecial 164, 3) := by decide +kernel
theorem dX5_deed_21 : decode cX5_deed 21 = .ok (.athrow, 1) := by decide +kernel
theorem dX5_deed_22 : decode cX5_deed 22 = .ok (.iload_n 3, 1) := by decide +kernel
theorem dX5_deed_23 : decode cX5_deed 23 = .ok (.ifCond .lt 9, 3) := by decide +kernel
theorem dX5_deed_26 : decode cX5_deed 26 = .ok (.iload_n 3, 1) := by decide +kernel
theorem dX5_deed_27 : decode cX5_deed 27 = .ok (.bipush 7, 2) := by decide +kernel
theorem dX5_deed_29 : decode cX5_deed 29 = .ok (.if_icmp .le 13, 3) := by decide +kernel
theorem dX5_deed_32 : decode cX5_deed 32 = .ok (.new 167, 3) := by decide +kernel
theorem dX5_deed_35 : decode cX5_deed 35 = .ok (.dup, 1) := by decide +kernel
theorem dX5_deed_36 : decode cX5_deed 36 = .ok (.ldc 169, 2) := by decide +kernel
theorem dX5_deed_38 : decode cX5_deed 38 = .ok (.invokespecial 171, 3) := by decide +kernel
theorem dX5_deed_41 : decode cX5_deed 41 = .ok (.athrow, 1) := by decide +kernel
theorem dX5_deed_42 : decode cX5_deed 42 = .ok (.aload_n 0, 1) := by decide +kernel
theorem dX5_deed_43 : decode cX5_deed 43 = .ok (.getfield 38, 3) := by decide +kernel
theorem dX5_deed_46 : decode cX5_deed 46 = .ok (.getfield 123, 3) := by decide +kernel
theorem dX5_deed_49 : decode cX5_deed 49 = .ok (.iload_n 1, 1) := by decide +kernel
theorem dX5_deed_50 : decode cX5_deed 50 = .ok (.iload_n 2, 1) := by decide +kernel
theorem dX5_deed_51 : decode cX5_deed 51 = .ok (.invokevirtual 172, 3) := by decide +kernel
theorem dX5_deed_54 : decode cX5_deed 54 = .ok (.istore 4, 2) := by decide +kernel
theorem dX5_deed_56 : decode cX5_deed 56 = .ok (.iload 4, 2) := by decide +kernel
theorem dX5_deed_58 : decode cX5_deed 58 = .ok (.ifCond .ge 8, 3) := by decide +kernel
theorem dX5_deed_61 : decode cX5_deed 61 = .ok (.bipush (-2), 2) := by decide +kernel
theorem dX5_deed_63 : decode cX5_deed 63 = .ok (.goto 17, 3) := by decide +kernel
theorem dX5_deed_66 : decode cX5_deed 66 = .ok (.aload_n 0, 1) := by decide +kernel
theorem dX5_deed_67 : decode cX5_deed 67 = .ok (.getfield 38, 3) := by decide +kernel
theorem dX5_deed_70 : decode cX5_deed 70 = .ok (.getfield 123, 3) := by decide +kernel
theorem dX5_deed_73 : decode cX5_deed 73 = .ok (.iload 4, 2) := by decide +kernel
theorem dX5_deed_75 : decode cX5_deed 75 = .ok (.iload_n 2, 1) := by decide +kernel
theorem dX5_deed_76 : decode cX5_deed 76 = .ok (.iload_n 3, 1) := by decide +kernel
theorem dX5_deed_77 : decode cX5_deed 77 = .ok (.invokestatic 176, 3) := by decide +kernel
theorem dX5_deed_80 : decode cX5_deed 80 = .ok (.ireturn, 1) := by decide +kernel
def Fh_deed (d : Mem) (a1 : Int32) (a2 : Int32) (a3 : Int32) : Option ((Int32 ⊕ String) × Mem) :=
  gref (d 0 0 4) fun u1 =>
  bp (Wo_isPlace d (d u1) a1 a2) fun r2 =>
  if r2 = 0 then
    (some (.inr IOE, d))
  else
    (if a3 < 0 then
      (some (.inr NSE, d))
    else
      (if a3 ≤ (7 : Int32) then
        (gref (d 0 0 4) fun u3 =>
        bp (De_find (d u3) a1 a2) fun r4 =>
        bnd r4 fun v4_5 =>
        if 0 ≤ v4_5 then
          (gref (d 0 0 4) fun u6 =>
          bp (Qu_tell (d u6) v4_5 a2 a3) fun r7 =>
          some (.inl r7, d))
        else
          (some (.inl (-2 : Int32), d)))
      else
        (some (.inr NSE, d))))
theorem y_X5_deed : YV yX5_deed cX5_deed 5 (some .int) 3 := ⟨q1130, q1131, q1132, q143, by decide +kernel, by decide +kernel, by decide +kernel, by decide +kernel⟩
theorem r_Fh_deed {C : Cxt} {G : Geo} (hC : Cx C cX5_deed 5 "FrameHeirs" (some .int) rm_X5_deed G) (hcl : GCl G) (hX : LXx G) (hl : C.2.1.stackTraces = false) (htab : ∀ x ∈ C.2.2.2.2.2.2.2.2.2.exceptionTable.toList, False) (hD : DX (Fa C G) C.2.2.2.2.1) (d : Mem) (a1 : Int32) (a2 : Int32) (a3 : Int32) : Rg C 5 G 0 0 gm (QD C G) 0 [(0, .inr (0, 0)), (1, .inl (.int a1)), (2, .inl (.int a2)), (3, .inl (.int a3))] [] d (Fh_deed d a1 a2 a3) := by
  unfold Fh_deed
  refine z_aload_n (pc := 0) hC 0 rfl 0 rfl dX5_deed_0 ?_
  refine zg_getW (pc := 1) hC hcl (hX 0 rfl) f_0_4 q435 dX5_deed_1 (fun u1 hu1 gu1 => ?_)
  refine z_iload_n (pc := 4) hC 1 rfl 1 rfl dX5_deed_4 ?_
  refine z_iload_n (pc := 5) hC 2 rfl 2 rfl dX5_deed_5 ?_
  refine z_piV (pc := 6) (st := []) hC y_X4_isPlace q921 [.inl (.int a1), .inl (.int a2)] rfl (hu1 10 rfl) rfl rfl (lft_p (c_X4_isPlace hC.2.2.2.2.2.2.1 hu1 gu1 hcl)) rfl ⟨rfl, rfl, (Nat.le_of_ble_eq_true rfl), (Nat.le_of_ble_eq_true rfl)⟩ (Nat.le_of_ble_eq_true rfl) dX5_deed_6 (fun r2 => ?_)
  refine z_if_ne (pc := 9) hC 22 rfl dX5_deed_9 ?_ ?_
  · refine z_iload_n (pc := 22) hC 3 rfl 3 rfl dX5_deed_22 ?_
    refine z_if_lt (pc := 23) hC 32 rfl dX5_deed_23 ?_ ?_
    · exact zd_ns (pc := 32) hC hl htab hD q1200 q157 dX5_deed_32 dX5_deed_35 dX5_deed_36 dX5_deed_38 dX5_deed_41 (Nat.le_of_ble_eq_true rfl) (Nat.le_of_ble_eq_true rfl) (Nat.le_of_ble_eq_true rfl) (Nat.le_of_ble_eq_true rfl)
    · refine z_iload_n (pc := 26) hC 3 rfl 3 rfl dX5_deed_26 ?_
      refine z_bipush (pc := 27) hC (7 : Int32) rfl dX5_deed_27 ?_
      refine z_icmp_le (pc := 29) hC 42 rfl dX5_deed_29 ?_ ?_
      · refine z_aload_n (pc := 42) hC 0 rfl 0 rfl dX5_deed_42 ?_
        refine zg_getW (pc := 43) hC hcl (hX 0 rfl) f_0_4 q435 dX5_deed_43 (fun u3 hu3 gu3 => ?_)
        refine z_getc (pc := 46) hC (hu3 10 rfl) f_10_1 q379 dX5_deed_46 ?_
        refine z_iload_n (pc := 49) hC 1 rfl 1 rfl dX5_deed_49 ?_
        refine z_iload_n (pc := 50) hC 2 rfl 2 rfl dX5_deed_50 ?_
        refine z_piV (pc := 51) (st := []) hC y_X0_find q1014 [.inl (.int a1), .inl (.int a2)] rfl (hu3 17 rfl) rfl rfl (lft_p (c_X0_find hC.2.2.2.2.2.2.1 hu3 gu3)) rfl ⟨rfl, rfl, (Nat.le_of_ble_eq_true rfl), (Nat.le_of_ble_eq_true rfl)⟩ (Nat.le_of_ble_eq_true rfl) dX5_deed_51 (fun r4 => ?_)
        refine z_istore (pc := 54) (ls1 := fun v => [(4, .inl (.int v)), (0, .inr (0, 0)), (1, .inl (.int a1)), (2, .inl (.int a2)), (3, .inl (.int a3))]) hC 4 (by decide) (fun v => rfl) dX5_deed_54 (fun v4_5 => ?_)
        refine z_iload (pc := 56) hC 4 0 rfl dX5_deed_56 ?_
        refine z_if_ge (pc := 58) hC 66 rfl dX5_deed_58 ?_ ?_
        · refine z_aload_n (pc := 66) hC 0 rfl 1 rfl dX5_deed_66 ?_
          refine zg_getW (pc := 67) hC hcl (hX 0 rfl) f_0_4 q435 dX5_deed_67 (fun u6 hu6 gu6 => ?_)
          refine z_getc (pc := 70) hC (hu6 10 rfl) f_10_1 q379 dX5_deed_70 ?_
          refine z_iload (pc := 73) hC 4 0 rfl dX5_deed_73 ?_
          refine z_iload_n (pc := 75) hC 2 rfl 3 rfl dX5_deed_75 ?_
          refine z_iload_n (pc := 76) hC 3 rfl 4 rfl dX5_deed_76 ?_
          refine z_piS (pc := 77) (st := []) hC y_X1_tell q1216 [.inr (u6, 17), .inl (.int v4_5), .inl (.int a2), .inl (.int a3)] rfl (lft_p (c_X1_tell hC.2.2.2.2.2.2.1 hu6 gu6)) rfl ⟨rfl, rfl, (Nat.le_of_ble_eq_true rfl), (Nat.le_of_ble_eq_true rfl)⟩ (Nat.le_of_ble_eq_true rfl) dX5_deed_77 (fun r7 => ?_)
          exact zd_ret (pc := 80) hC dX5_deed_80
        · refine z_bipush (pc := 61) hC (-2 : Int32) rfl dX5_deed_61 ?_
          refine z_goto (pc := 63) hC 80 rfl dX5_deed_63 ?_
          exact zd_ret (pc := 80) hC dX5_deed_80
      · exact zd_ns (pc := 32) hC hl htab hD q1200 q157 dX5_deed_32 dX5_deed_35 dX5_deed_36 dX5_deed_38 dX5_deed_41 (Nat.le_of_ble_eq_true rfl) (Nat.le_of_ble_eq_true rfl) (Nat.le_of_ble_eq_true rfl) (Nat.le_of_ble_eq_true rfl)
  · exact zd_io (pc := 12) hC hl htab hD q1133 q156 dX5_deed_12 dX5_deed_15 dX5_deed_16 dX5_deed_18 dX5_deed_21 (Nat.le_of_ble_eq_true rfl) (Nat.le_of_ble_eq_true rfl) (Nat.le_of_ble_eq_true rfl) (Nat.le_of_ble_eq_true rfl)
theorem c_X5_deed {G : Geo} (hG : GOk G) (hcl : GCl G) (hX : LXx G) {d : Mem} {a1 : Int32} {a2 : Int32} {a3 : Int32} (l : Launch) (hl0 : l.stackTraces = false) (t : (Int32 ⊕ String) × Mem) (h : Fh_deed d a1 a2 a3 = some t) : MtD l yX5_deed cX5_deed 5 rm_X5_deed G [.inr (0, 0), .inl (.int a1), .inl (.int a2), .inl (.int a3)] d t :=
  mtD_of hl0 rfl hG [.inr (0, 0), .inl (.int a1), .inl (.int a2), .inl (.int a3)] (Nat.le_of_ble_eq_true rfl) rfl (fun C hC hl htab hD => r_Fh_deed hC hcl hX hl htab hD d a1 a2 a3) h
