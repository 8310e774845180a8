-- FrameHeirsModel.deed(III)I
abbrev rm_X6_deed : Room := { frames := 4, cells := 0, slots := 0, locals := 86 }
theorem dX6_deed_0 : decode cX6_deed 0 = .ok (.aload_n 0, 1) := by decide +kernel
theorem dX6_deed_1 : decode cX6_deed 1 = .ok (.iconst 0, 1) := by decide +kernel
theorem dX6_deed_2 : decode cX6_deed 2 = .ok (.putfield 61, 3) := by decide +kernel
theorem dX6_deed_5 : decode cX6_deed 5 = .ok (.aload_n 0, 1) := by decide +kernel
theorem dX6_deed_6 : decode cX6_deed 6 = .ok (.iload_n 1, 1) := by decide +kernel
theorem dX6_deed_7 : decode cX6_deed 7 = .ok (.invokevirtual 264, 3) := by decide +kernel
theorem dX6_deed_10 : decode cX6_deed 10 = .ok (.ifCond .eq 11, 3) := by decide +kernel
theorem dX6_deed_13 : decode cX6_deed 13 = .ok (.aload_n 0, 1) := by decide +kernel
theorem dX6_deed_14 : decode cX6_deed 14 = .ok (.iload_n 2, 1) := by decide +kernel
theorem dX6_deed_15 : decode cX6_deed 15 = .ok (.invokevirtual 252, 3) := by decide +kernel
theorem dX6_deed_18 : decode cX6_deed 18 = .ok (.ifCond .ne 9, 3) := by decide +kernel
theorem dX6_deed_21 : decode cX6_deed 21 = .ok (.aload_n 0, 1) := by decide +kernel
theorem dX6_deed_22 : decode cX6_deed 22 = .ok (.iconst 1, 1) := by decide +kernel
theorem dX6_deed_23 : decode cX6_deed 23 = .ok (.invokevirtual 436, 3) := by decide +kernel
theorem dX6_deed_26 : decode cX6_deed 26 = .ok (.ireturn, 1) := by decide +kernel
theorem dX6_deed_27 : decode cX6_deed 27 = .ok (.iload_n 3, 1) := by decide +kernel
theorem dX6_deed_28 : decode cX6_deed 28 = .ok (.iconst 0, 1) := by decide +kernel
theorem dX6_deed_29 : decode cX6_deed 29 = .ok (.bipush 7, 2) := by decide +kernel
theorem dX6_deed_31 : decode cX6_deed 31 = .ok (.invokestatic 137, 3) := by decide +kernel
theorem dX6_deed_34 : decode cX6_deed 34 = .ok (.ifCond .ne 9, 3) := by decide +kernel
theorem dX6_deed_37 : decode cX6_deed 37 = .ok (.aload_n 0, 1) := by decide +kernel
theorem dX6_deed_38 : decode cX6_deed 38 = .ok (.iconst 2, 1) := by decide +kernel
theorem dX6_deed_39 : decode cX6_deed 39 = .ok (.invokevirtual 436, 3) := by decide +kernel
theorem dX6_deed_42 : decode cX6_deed 42 = .ok (.ireturn, 1) := by decide +kernel
theorem dX6_deed_43 : decode cX6_deed 43 = .ok (.aload_n 0, 1) := by decide +kernel
theorem dX6_deed_44 : decode cX6_deed 44 = .ok (.iload_n 1, 1) := by decide +kernel
theorem dX6_deed_45 : decode cX6_deed 45 = .ok (.iload_n 2, 1) := by decide +kernel
theorem dX6_deed_46 : decode cX6_deed 46 = .ok (.invokevirtual 199, 3) := by decide +kernel
theorem dX6_deed_49 : decode cX6_deed 49 = .ok (.istore 4, 2) := by decide +kernel
theorem dX6_deed_51 : decode cX6_deed 51 = .ok (.iload 4, 2) := by decide +kernel
theorem dX6_deed_53 : decode cX6_deed 53 = .ok (.ifCond .ge 6, 3) := by decide +kernel
theorem dX6_deed_56 : decode cX6_deed 56 = .ok (.bipush (-2), 2) := by decide +kernel
theorem dX6_deed_58 : decode cX6_deed 58 = .ok (.ireturn, 1) := by decide +kernel
theorem dX6_deed_59 : decode cX6_deed 59 = .ok (.iload_n 3, 1) := by decide +kernel
theorem dX6_deed_60 : decode cX6_deed 60 = .ok (.tableswitch 96 0 6 #[44, 51, 62, 69, 75, 82, 89], 44) := by decide +kernel
theorem dX6_deed_104 : decode cX6_deed 104 = .ok (.aload_n 0, 1) := by decide +kernel
theorem dX6_deed_105 : decode cX6_deed 105 = .ok (.iload_n 1, 1) := by decide +kernel
theorem dX6_deed_106 : decode cX6_deed 106 = .ok (.iload_n 2, 1) := by decide +kernel
theorem dX6_deed_107 : decode cX6_deed 107 = .ok (.invokevirtual 383, 3) := by decide +kernel
theorem dX6_deed_110 : decode cX6_deed 110 = .ok (.ireturn, 1) := by decide +kernel
theorem dX6_deed_111 : decode cX6_deed 111 = .ok (.aload_n 0, 1) := by decide +kernel
theorem dX6_deed_112 : decode cX6_deed 112 = .ok (.sipush 384, 3) := by decide +kernel
theorem dX6_deed_115 : decode cX6_deed 115 = .ok (.iload 4, 2) := by decide +kernel
theorem dX6_deed_117 : decode cX6_deed 117 = .ok (.iadd, 1) := by decide +kernel
theorem dX6_deed_118 : decode cX6_deed 118 = .ok (.invokevirtual 189, 3) := by decide +kernel
theorem dX6_deed_121 : decode cX6_deed 121 = .ok (.ireturn, 1) := by decide +kernel
theorem dX6_deed_122 : decode cX6_deed 122 = .ok (.aload_n 0, 1) := by decide +kernel
theorem dX6_deed_123 : decode cX6_deed 123 = .ok (.iload 4, 2) := by decide +kernel
theorem dX6_deed_125 : decode cX6_deed 125 = .ok (.invokevirtual 196, 3) := by decide +kernel
theorem dX6_deed_128 : decode cX6_deed 128 = .ok (.ireturn, 1) := by decide +kernel
theorem dX6_deed_129 : decode cX6_deed 129 = .ok (.iload 4, 2) := by decide +kernel
theorem dX6_deed_131 : decode cX6_deed 131 = .ok (.bipush 32, 2) := by decide +kernel
theorem dX6_deed_133 : decode cX6_deed 133 = .ok (.irem, 1) := by decide +kernel
theorem dX6_deed_134 : decode cX6_deed 134 = .ok (.ireturn, 1) := by decide +kernel
theorem dX6_deed_135 : decode cX6_deed 135 = .ok (.aload_n 0, 1) := by decide +kernel
theorem dX6_deed_136 : decode cX6_deed 136 = .ok (.iload 4, 2) := by decide +kernel
theorem dX6_deed_138 : decode cX6_deed 138 = .ok (.invokevirtual 439, 3) := by decide +kernel
theorem dX6_deed_141 : decode cX6_deed 141 = .ok (.ireturn, 1) := by decide +kernel
theorem dX6_deed_142 : decode cX6_deed 142 = .ok (.aload_n 0, 1) := by decide +kernel
theorem dX6_deed_143 : decode cX6_deed 143 = .ok (.iload 4, 2) := by decide +kernel
theorem dX6_deed_145 : decode cX6_deed 145 = .ok (.invokevirtual 442, 3) := by decide +kernel
theorem dX6_deed_148 : decode cX6_deed 148 = .ok (.ireturn, 1) := by decide +kernel
theorem dX6_deed_149 : decode cX6_deed 149 = .ok (.aload_n 0, 1) := by decide +kernel
theorem dX6_deed_150 : decode cX6_deed 150 = .ok (.iload 4, 2) := by decide +kernel
theorem dX6_deed_152 : decode cX6_deed 152 = .ok (.invokevirtual 445, 3) := by decide +kernel
theorem dX6_deed_155 : decode cX6_deed 155 = .ok (.ireturn, 1) := by decide +kernel
theorem dX6_deed_156 : decode cX6_deed 156 = .ok (.aload_n 0, 1) := by decide +kernel
theorem dX6_deed_157 : decode cX6_deed 157 = .ok (.iload 4, 2) := by decide +kernel
theorem dX6_deed_159 : decode cX6_deed 159 = .ok (.invokevirtual 213, 3) := by decide +kernel
theorem dX6_deed_162 : decode cX6_deed 162 = .ok (.ifCond .eq 7, 3) := by decide +kernel
theorem dX6_deed_165 : decode cX6_deed 165 = .ok (.iconst 1, 1) := by decide +kernel
theorem dX6_deed_166 : decode cX6_deed 166 = .ok (.goto 4, 3) := by decide +kernel
theorem dX6_deed_169 : decode cX6_deed 169 = .ok (.iconst 0, 1) := by decide +kernel
theorem dX6_deed_170 : decode cX6_deed 170 = .ok (.ireturn, 1) := by decide +kernel
def Mo_deed_21 (d : Sl) : Option (Int32 × Sl) :=
  bd (Mo_fails d (1 : Int32)) fun r1 d2 =>
  some (r1, d2)
def Mo_deed (d : Sl) (a1 : Int32) (a2 : Int32) (a3 : Int32) : Option (Int32 × Sl) :=
  bnd (wr d 34 2 (0 : Int32)) fun d3 =>
  bp (Mo_isSpace d3 a1) fun r4 =>
  if r4 = 0 then
    (Mo_deed_21 d3)
  else
    (bp (Mo_isPlace d3 a2) fun r5 =>
    if r5 = 0 then
      (Mo_deed_21 d3)
    else
      (bp (Mo_isIn a3 (0 : Int32) (7 : Int32)) fun r6 =>
      if r6 = 0 then
        (bd (Mo_fails d3 (2 : Int32)) fun r17 d18 =>
        some (r17, d18))
      else
        (bp (Mo_cover d3 a1 a2) fun r7 =>
        bnd r7 fun v4_8 =>
        if 0 ≤ v4_8 then
          (if a3 = (0 : Int32) then
            (bp (Mo_frameAt d3 a1 a2) fun r16 =>
            some (r16, d3))
          else
            (if a3 = (1 : Int32) then
              (bp (Mo_of d3 ((384 : Int32) + v4_8)) fun r15 =>
              some (r15, d3))
            else
              (if a3 = (2 : Int32) then
                (bp (Mo_orderOf d3 v4_8) fun r14 =>
                some (r14, d3))
              else
                (if a3 = (3 : Int32) then
                  (if ¬ (32 : Int32) = 0 then
                  some ((v4_8 - v4_8 / (32 : Int32) * (32 : Int32)), d3)
                  else none)
                else
                  (if a3 = (4 : Int32) then
                    (bp (Mo_aboveMany d3 v4_8) fun r13 =>
                    some (r13, d3))
                  else
                    (if a3 = (5 : Int32) then
                      (bp (Mo_heirsMany d3 v4_8) fun r12 =>
                      some (r12, d3))
                    else
                      (if a3 = (6 : Int32) then
                        (bd (Mo_belowMany d3 v4_8) fun r10 d11 =>
                        some (r10, d11))
                      else
                        (bp (Mo_isBusy d3 v4_8) fun r9 =>
                        if r9 = 0 then
                          (some ((0 : Int32), d3))
                        else
                          (some ((1 : Int32), d3))))))))))
        else
          (some ((-2 : Int32), d3)))))
theorem y_X6_deed : YV yX6_deed cX6_deed 5 (some .int) 3 := ⟨q1795, q1796, q1797, q149, by decide +kernel, by decide +kernel, by decide +kernel, by decide +kernel⟩
theorem r_Mo_deed_21 {C : Cxt} {G : Geo} {M : Mem} {k : Nat} (hC : Cx C cX6_deed 5 "FrameHeirsModel" (some .int) rm_X6_deed G) (hk : LMo G k) (d : Sl) : Rz C 5 G (setS M k) (poM avI (setS M k)) 21 [(0, .inr (k, 34))] [] d (Mo_deed_21 d) := by
  unfold Mo_deed_21
  refine z_aload_n (pc := 21) hC 0 rfl 0 rfl dX6_deed_21 ?_
  refine z_iconst (pc := 22) hC (1 : Int32) rfl dX6_deed_22 ?_
  refine z_ciV (pc := 23) (st := []) hC y_X6_fails q1798 [.inl (.int (1 : Int32))] rfl (hk 34 rfl) rfl rfl (c_X6_fails hC.2.2.2.2.2.2.1 hk) rfl ⟨rfl, rfl, (Nat.le_of_ble_eq_true rfl), (Nat.le_of_ble_eq_true rfl)⟩ (Nat.le_of_ble_eq_true rfl) dX6_deed_23 (fun r1 d2 => ?_)
  exact z_iret (pc := 26) hC rfl dX6_deed_26
theorem r_Mo_deed {C : Cxt} {G : Geo} {M : Mem} {k : Nat} (hC : Cx C cX6_deed 5 "FrameHeirsModel" (some .int) rm_X6_deed G) (hk : LMo G k) (d : Sl) (a1 : Int32) (a2 : Int32) (a3 : Int32) : Rz C 5 G (setS M k) (poM avI (setS M k)) 0 [(0, .inr (k, 34)), (1, .inl (.int a1)), (2, .inl (.int a2)), (3, .inl (.int a3))] [] d (Mo_deed d a1 a2 a3) := by
  unfold Mo_deed
  refine z_aload_n (pc := 0) hC 0 rfl 0 rfl dX6_deed_0 ?_
  refine z_iconst (pc := 1) hC (0 : Int32) rfl dX6_deed_1 ?_
  refine zs_puti (pc := 2) hC (hk 34 rfl) f_34_2 q1272 dX6_deed_2 (fun d3 => ?_)
  refine z_aload_n (pc := 5) hC 0 rfl 0 rfl dX6_deed_5 ?_
  refine z_iload_n (pc := 6) hC 1 rfl 1 rfl dX6_deed_6 ?_
  refine z_piV (pc := 7) (st := []) hC y_X6_isSpace q1484 [.inl (.int a1)] rfl (hk 34 rfl) rfl rfl (c_X6_isSpace hC.2.2.2.2.2.2.1 hk) rfl ⟨rfl, rfl, (Nat.le_of_ble_eq_true rfl), (Nat.le_of_ble_eq_true rfl)⟩ (Nat.le_of_ble_eq_true rfl) dX6_deed_7 (fun r4 => ?_)
  refine z_if_eq (pc := 10) hC 21 rfl dX6_deed_10 ?_ ?_
  · exact z_sub [0] rfl (r_Mo_deed_21 hC hk d3)
  · refine z_aload_n (pc := 13) hC 0 rfl 0 rfl dX6_deed_13 ?_
    refine z_iload_n (pc := 14) hC 2 rfl 2 rfl dX6_deed_14 ?_
    refine z_piV (pc := 15) (st := []) hC y_X6_isPlace q1496 [.inl (.int a2)] rfl (hk 34 rfl) rfl rfl (c_X6_isPlace hC.2.2.2.2.2.2.1 hk) rfl ⟨rfl, rfl, (Nat.le_of_ble_eq_true rfl), (Nat.le_of_ble_eq_true rfl)⟩ (Nat.le_of_ble_eq_true rfl) dX6_deed_15 (fun r5 => ?_)
    refine z_if_ne (pc := 18) hC 27 rfl dX6_deed_18 ?_ ?_
    · refine z_iload_n (pc := 27) hC 3 rfl 3 rfl dX6_deed_27 ?_
      refine z_iconst (pc := 28) hC (0 : Int32) rfl dX6_deed_28 ?_
      refine z_bipush (pc := 29) hC (7 : Int32) rfl dX6_deed_29 ?_
      refine z_piS (pc := 31) (st := []) hC y_X6_isIn q1429 [.inl (.int a3), .inl (.int (0 : Int32)), .inl (.int (7 : Int32))] rfl (c_X6_isIn hC.2.2.2.2.2.2.1) rfl ⟨rfl, rfl, (Nat.le_of_ble_eq_true rfl), (Nat.le_of_ble_eq_true rfl)⟩ (Nat.le_of_ble_eq_true rfl) dX6_deed_31 (fun r6 => ?_)
      refine z_if_ne (pc := 34) hC 43 rfl dX6_deed_34 ?_ ?_
      · refine z_aload_n (pc := 43) hC 0 rfl 0 rfl dX6_deed_43 ?_
        refine z_iload_n (pc := 44) hC 1 rfl 1 rfl dX6_deed_44 ?_
        refine z_iload_n (pc := 45) hC 2 rfl 2 rfl dX6_deed_45 ?_
        refine z_piV (pc := 46) (st := []) hC y_X6_cover q1512 [.inl (.int a1), .inl (.int a2)] rfl (hk 34 rfl) rfl rfl (c_X6_cover hC.2.2.2.2.2.2.1 hk) rfl ⟨rfl, rfl, (Nat.le_of_ble_eq_true rfl), (Nat.le_of_ble_eq_true rfl)⟩ (Nat.le_of_ble_eq_true rfl) dX6_deed_46 (fun r7 => ?_)
        refine z_istore (pc := 49) (ls1 := fun v => [(4, .inl (.int v)), (0, .inr (k, 34)), (1, .inl (.int a1)), (2, .inl (.int a2)), (3, .inl (.int a3))]) hC 4 (by decide) (fun v => rfl) dX6_deed_49 (fun v4_8 => ?_)
        refine z_iload (pc := 51) hC 4 0 rfl dX6_deed_51 ?_
        refine z_if_ge (pc := 53) hC 59 rfl dX6_deed_53 ?_ ?_
        · refine z_iload_n (pc := 59) hC 3 rfl 4 rfl dX6_deed_59 ?_
          refine z_ite (fun e => ?_) (fun e0 => ?_)
          · refine z_tswIn (pc := 60) hC 0 104 (by rw [e]; rfl) (by decide) (by decide) rfl rfl dX6_deed_60 ?_
            refine z_aload_n (pc := 104) hC 0 rfl 1 rfl dX6_deed_104 ?_
            refine z_iload_n (pc := 105) hC 1 rfl 2 rfl dX6_deed_105 ?_
            refine z_iload_n (pc := 106) hC 2 rfl 3 rfl dX6_deed_106 ?_
            refine z_piV (pc := 107) (st := []) hC y_X6_frameAt q1713 [.inl (.int a1), .inl (.int a2)] rfl (hk 34 rfl) rfl rfl (c_X6_frameAt hC.2.2.2.2.2.2.1 hk) rfl ⟨rfl, rfl, (Nat.le_of_ble_eq_true rfl), (Nat.le_of_ble_eq_true rfl)⟩ (Nat.le_of_ble_eq_true rfl) dX6_deed_107 (fun r16 => ?_)
            exact z_iret (pc := 110) hC rfl dX6_deed_110
          · refine z_ite (fun e => ?_) (fun e1 => ?_)
            · refine z_tswIn (pc := 60) hC 1 111 (by rw [e]; rfl) (by decide) (by decide) rfl rfl dX6_deed_60 ?_
              refine z_aload_n (pc := 111) hC 0 rfl 1 rfl dX6_deed_111 ?_
              refine z_sipush (pc := 112) hC (384 : Int32) rfl dX6_deed_112 ?_
              refine z_iload (pc := 115) hC 4 0 rfl dX6_deed_115 ?_
              refine z_iadd (pc := 117) hC dX6_deed_117 ?_
              refine z_piV (pc := 118) (st := []) hC y_X6_of q1262 [.inl (.int ((384 : Int32) + v4_8))] rfl (hk 34 rfl) rfl rfl (c_X6_of hC.2.2.2.2.2.2.1 hk) rfl ⟨rfl, rfl, (Nat.le_of_ble_eq_true rfl), (Nat.le_of_ble_eq_true rfl)⟩ (Nat.le_of_ble_eq_true rfl) dX6_deed_118 (fun r15 => ?_)
              exact z_iret (pc := 121) hC rfl dX6_deed_121
            · refine z_ite (fun e => ?_) (fun e2 => ?_)
              · refine z_tswIn (pc := 60) hC 2 122 (by rw [e]; rfl) (by decide) (by decide) rfl rfl dX6_deed_60 ?_
                refine z_aload_n (pc := 122) hC 0 rfl 1 rfl dX6_deed_122 ?_
                refine z_iload (pc := 123) hC 4 0 rfl dX6_deed_123 ?_
                refine z_piV (pc := 125) (st := []) hC y_X6_orderOf q1516 [.inl (.int v4_8)] rfl (hk 34 rfl) rfl rfl (c_X6_orderOf hC.2.2.2.2.2.2.1 hk) rfl ⟨rfl, rfl, (Nat.le_of_ble_eq_true rfl), (Nat.le_of_ble_eq_true rfl)⟩ (Nat.le_of_ble_eq_true rfl) dX6_deed_125 (fun r14 => ?_)
                exact z_iret (pc := 128) hC rfl dX6_deed_128
              · refine z_ite (fun e => ?_) (fun e3 => ?_)
                · refine z_tswIn (pc := 60) hC 3 129 (by rw [e]; rfl) (by decide) (by decide) rfl rfl dX6_deed_60 ?_
                  refine z_iload (pc := 129) hC 4 0 rfl dX6_deed_129 ?_
                  refine z_bipush (pc := 131) hC (32 : Int32) rfl dX6_deed_131 ?_
                  refine z_irem (pc := 133) hC dX6_deed_133 ?_
                  exact z_iret (pc := 134) hC rfl dX6_deed_134
                · refine z_ite (fun e => ?_) (fun e4 => ?_)
                  · refine z_tswIn (pc := 60) hC 4 135 (by rw [e]; rfl) (by decide) (by decide) rfl rfl dX6_deed_60 ?_
                    refine z_aload_n (pc := 135) hC 0 rfl 1 rfl dX6_deed_135 ?_
                    refine z_iload (pc := 136) hC 4 0 rfl dX6_deed_136 ?_
                    refine z_piV (pc := 138) (st := []) hC y_X6_aboveMany q1802 [.inl (.int v4_8)] rfl (hk 34 rfl) rfl rfl (c_X6_aboveMany hC.2.2.2.2.2.2.1 hk) rfl ⟨rfl, rfl, (Nat.le_of_ble_eq_true rfl), (Nat.le_of_ble_eq_true rfl)⟩ (Nat.le_of_ble_eq_true rfl) dX6_deed_138 (fun r13 => ?_)
                    exact z_iret (pc := 141) hC rfl dX6_deed_141
                  · refine z_ite (fun e => ?_) (fun e5 => ?_)
                    · refine z_tswIn (pc := 60) hC 5 142 (by rw [e]; rfl) (by decide) (by decide) rfl rfl dX6_deed_60 ?_
                      refine z_aload_n (pc := 142) hC 0 rfl 1 rfl dX6_deed_142 ?_
                      refine z_iload (pc := 143) hC 4 0 rfl dX6_deed_143 ?_
                      refine z_piV (pc := 145) (st := []) hC y_X6_heirsMany q1806 [.inl (.int v4_8)] rfl (hk 34 rfl) rfl rfl (c_X6_heirsMany hC.2.2.2.2.2.2.1 hk) rfl ⟨rfl, rfl, (Nat.le_of_ble_eq_true rfl), (Nat.le_of_ble_eq_true rfl)⟩ (Nat.le_of_ble_eq_true rfl) dX6_deed_145 (fun r12 => ?_)
                      exact z_iret (pc := 148) hC rfl dX6_deed_148
                    · refine z_ite (fun e => ?_) (fun e6 => ?_)
                      · refine z_tswIn (pc := 60) hC 6 149 (by rw [e]; rfl) (by decide) (by decide) rfl rfl dX6_deed_60 ?_
                        refine z_aload_n (pc := 149) hC 0 rfl 1 rfl dX6_deed_149 ?_
                        refine z_iload (pc := 150) hC 4 0 rfl dX6_deed_150 ?_
                        refine z_ciV (pc := 152) (st := []) hC y_X6_belowMany q1810 [.inl (.int v4_8)] rfl (hk 34 rfl) rfl rfl (c_X6_belowMany hC.2.2.2.2.2.2.1 hk) rfl ⟨rfl, rfl, (Nat.le_of_ble_eq_true rfl), (Nat.le_of_ble_eq_true rfl)⟩ (Nat.le_of_ble_eq_true rfl) dX6_deed_152 (fun r10 d11 => ?_)
                        exact z_iret (pc := 155) hC rfl dX6_deed_155
                      · have e0_ : (a3).toInt ≠ 0 := fun h => e0 (Int32.toInt_inj.mp (by rw [h]; rfl))
                        have e1_ : (a3).toInt ≠ 1 := fun h => e1 (Int32.toInt_inj.mp (by rw [h]; rfl))
                        have e2_ : (a3).toInt ≠ 2 := fun h => e2 (Int32.toInt_inj.mp (by rw [h]; rfl))
                        have e3_ : (a3).toInt ≠ 3 := fun h => e3 (Int32.toInt_inj.mp (by rw [h]; rfl))
                        have e4_ : (a3).toInt ≠ 4 := fun h => e4 (Int32.toInt_inj.mp (by rw [h]; rfl))
                        have e5_ : (a3).toInt ≠ 5 := fun h => e5 (Int32.toInt_inj.mp (by rw [h]; rfl))
                        have e6_ : (a3).toInt ≠ 6 := fun h => e6 (Int32.toInt_inj.mp (by rw [h]; rfl))
                        refine z_tswOut (pc := 60) hC 156 (by omega) rfl dX6_deed_60 ?_
                        refine z_aload_n (pc := 156) hC 0 rfl 1 rfl dX6_deed_156 ?_
                        refine z_iload (pc := 157) hC 4 0 rfl dX6_deed_157 ?_
                        refine z_piV (pc := 159) (st := []) hC y_X6_isBusy q1528 [.inl (.int v4_8)] rfl (hk 34 rfl) rfl rfl (c_X6_isBusy hC.2.2.2.2.2.2.1 hk) rfl ⟨rfl, rfl, (Nat.le_of_ble_eq_true rfl), (Nat.le_of_ble_eq_true rfl)⟩ (Nat.le_of_ble_eq_true rfl) dX6_deed_159 (fun r9 => ?_)
                        refine z_if_eq (pc := 162) hC 169 rfl dX6_deed_162 ?_ ?_
                        · refine z_iconst (pc := 169) hC (0 : Int32) rfl dX6_deed_169 ?_
                          exact z_iret (pc := 170) hC rfl dX6_deed_170
                        · refine z_iconst (pc := 165) hC (1 : Int32) rfl dX6_deed_165 ?_
                          refine z_goto (pc := 166) hC 170 rfl dX6_deed_166 ?_
                          exact z_iret (pc := 170) hC rfl dX6_deed_170
        · refine z_bipush (pc := 56) hC (-2 : Int32) rfl dX6_deed_56 ?_
          exact z_iret (pc := 58) hC rfl dX6_deed_58
      · refine z_aload_n (pc := 37) hC 0 rfl 0 rfl dX6_deed_37 ?_
        refine z_iconst (pc := 38) hC (2 : Int32) rfl dX6_deed_38 ?_
        refine z_ciV (pc := 39) (st := []) hC y_X6_fails q1798 [.inl (.int (2 : Int32))] rfl (hk 34 rfl) rfl rfl (c_X6_fails hC.2.2.2.2.2.2.1 hk) rfl ⟨rfl, rfl, (Nat.le_of_ble_eq_true rfl), (Nat.le_of_ble_eq_true rfl)⟩ (Nat.le_of_ble_eq_true rfl) dX6_deed_39 (fun r17 d18 => ?_)
        exact z_iret (pc := 42) hC rfl dX6_deed_42
    · exact z_sub [0] rfl (r_Mo_deed_21 hC hk d3)
theorem c_X6_deed {G : Geo} {M : Mem} {k : Nat} (hG : GOk G) (hk : LMo G k) {d : Sl} {a1 : Int32} {a2 : Int32} {a3 : Int32} (l : Launch) (r : Int32) (d1 : Sl) (h : Mo_deed d a1 a2 a3 = some (r, d1)) : Mt l yX6_deed cX6_deed 5 (some .int) rm_X6_deed G [.inr (k, 34), .inl (.int a1), .inl (.int a2), .inl (.int a3)] ((setS M k) d) (avI r) ((setS M k) d1) :=
  mt_of (mem := (setS M k)) (po := poM avI (setS M k)) (x0 := d) (t := (r, d1)) rfl hG [.inr (k, 34), .inl (.int a1), .inl (.int a2), .inl (.int a3)] (Nat.le_of_ble_eq_true rfl) rfl (fun C hC => r_Mo_deed hC hk d a1 a2 a3) h
-- FrameHeirsModel.above(III)I
abbrev rm_X6_above : Room := { frames := 3, cells := 0, slots := 0, locals := 68 }
theorem dX6_above_0 : decode cX6_above 0 = .ok (.aload_n 0, 1) := by decide +kernel
theorem dX6_above_1 : decode cX6_above 1 = .ok (.iconst 0, 1) := by decide +kernel
theorem dX6_above_2 : decode cX6_above 2 = .ok (.putfield 61, 3) := by decide +kernel
theorem dX6_above_5 : decode cX6_above 5 = .ok (.aload_n 0, 1) := by decide +kernel
theorem dX6_above_6 : decode cX6_above 6 = .ok (.iload_n 1, 1) := by decide +kernel
theorem dX6_above_7 : decode cX6_above 7 = .ok (.invokevirtual 264, 3) := by decide +kernel
theorem dX6_above_10 : decode cX6_above 10 = .ok (.ifCond .eq 16, 3) := by decide +kernel
theorem dX6_above_13 : decode cX6_above 13 = .ok (.aload_n 0, 1) := by decide +kernel
theorem dX6_above_14 : decode cX6_above 14 = .ok (.iload_n 2, 1) := by decide +kernel
theorem dX6_above_15 : decode cX6_above 15 = .ok (.invokevirtual 252, 3) := by decide +kernel
theorem dX6_above_18 : decode cX6_above 18 = .ok (.ifCond .eq 8, 3) := by decide +kernel
theorem dX6_above_21 : decode cX6_above 21 = .ok (.iload_n 3, 1) := by decide +kernel
theorem dX6_above_22 : decode cX6_above 22 = .ok (.iconst 1, 1) := by decide +kernel
theorem dX6_above_23 : decode cX6_above 23 = .ok (.if_icmp .ge 5, 3) := by decide +kernel
theorem dX6_above_26 : decode cX6_above 26 = .ok (.iconst (-1), 1) := by decide +kernel
theorem dX6_above_27 : decode cX6_above 27 = .ok (.ireturn, 1) := by decide +kernel
theorem dX6_above_28 : decode cX6_above 28 = .ok (.aload_n 0, 1) := by decide +kernel
theorem dX6_above_29 : decode cX6_above 29 = .ok (.iload_n 1, 1) := by decide +kernel
theorem dX6_above_30 : decode cX6_above 30 = .ok (.iload_n 2, 1) := by decide +kernel
theorem dX6_above_31 : decode cX6_above 31 = .ok (.invokevirtual 199, 3) := by decide +kernel
theorem dX6_above_34 : decode cX6_above 34 = .ok (.istore 4, 2) := by decide +kernel
theorem dX6_above_36 : decode cX6_above 36 = .ok (.iconst 0, 1) := by decide +kernel
theorem dX6_above_37 : decode cX6_above 37 = .ok (.istore 5, 2) := by decide +kernel
theorem dX6_above_39 : decode cX6_above 39 = .ok (.iload 5, 2) := by decide +kernel
theorem dX6_above_41 : decode cX6_above 41 = .ok (.iload_n 3, 1) := by decide +kernel
theorem dX6_above_42 : decode cX6_above 42 = .ok (.if_icmp .ge 22, 3) := by decide +kernel
theorem dX6_above_45 : decode cX6_above 45 = .ok (.iload 4, 2) := by decide +kernel
theorem dX6_above_47 : decode cX6_above 47 = .ok (.ifCond .lt 17, 3) := by decide +kernel
theorem dX6_above_50 : decode cX6_above 50 = .ok (.aload_n 0, 1) := by decide +kernel
theorem dX6_above_51 : decode cX6_above 51 = .ok (.iload 4, 2) := by decide +kernel
theorem dX6_above_53 : decode cX6_above 53 = .ok (.invokevirtual 210, 3) := by decide +kernel
theorem dX6_above_56 : decode cX6_above 56 = .ok (.istore 4, 2) := by decide +kernel
theorem dX6_above_58 : decode cX6_above 58 = .ok (.iinc 5 1, 3) := by decide +kernel
theorem dX6_above_61 : decode cX6_above 61 = .ok (.goto (-22), 3) := by decide +kernel
theorem dX6_above_64 : decode cX6_above 64 = .ok (.iload 4, 2) := by decide +kernel
theorem dX6_above_66 : decode cX6_above 66 = .ok (.ifCond .ge 8, 3) := by decide +kernel
theorem dX6_above_69 : decode cX6_above 69 = .ok (.bipush (-2), 2) := by decide +kernel
theorem dX6_above_71 : decode cX6_above 71 = .ok (.goto 23, 3) := by decide +kernel
theorem dX6_above_74 : decode cX6_above 74 = .ok (.iload 4, 2) := by decide +kernel
theorem dX6_above_76 : decode cX6_above 76 = .ok (.aload_n 0, 1) := by decide +kernel
theorem dX6_above_77 : decode cX6_above 77 = .ok (.iload_n 1, 1) := by decide +kernel
theorem dX6_above_78 : decode cX6_above 78 = .ok (.iload_n 2, 1) := by decide +kernel
theorem dX6_above_79 : decode cX6_above 79 = .ok (.invokevirtual 383, 3) := by decide +kernel
theorem dX6_above_82 : decode cX6_above 82 = .ok (.iadd, 1) := by decide +kernel
theorem dX6_above_83 : decode cX6_above 83 = .ok (.aload_n 0, 1) := by decide +kernel
theorem dX6_above_84 : decode cX6_above 84 = .ok (.sipush 192, 3) := by decide +kernel
theorem dX6_above_87 : decode cX6_above 87 = .ok (.iload 4, 2) := by decide +kernel
theorem dX6_above_89 : decode cX6_above 89 = .ok (.iadd, 1) := by decide +kernel
theorem dX6_above_90 : decode cX6_above 90 = .ok (.invokevirtual 189, 3) := by decide +kernel
theorem dX6_above_93 : decode cX6_above 93 = .ok (.isub, 1) := by decide +kernel
theorem dX6_above_94 : decode cX6_above 94 = .ok (.ireturn, 1) := by decide +kernel
def Mo_above_64 (v1 : Int32) (v2 : Int32) (v4 : Int32) (d : Sl) : Option (Int32 × Sl) :=
  if 0 ≤ v4 then
    (bp (Mo_frameAt d v1 v2) fun r1 =>
    bp (Mo_of d ((192 : Int32) + v4)) fun r2 =>
    some (((v4 + r1) - r2), d))
  else
    (some ((-2 : Int32), d))
def Mo_above_39 : Nat → Int32 → Int32 → Int32 → Int32 → Int32 → Sl → Option (Int32 × Sl)
  | 0, _, _, _, _, _, _ => none
  | n + 1, v1, v2, v3, v4, v5, d =>
    if v3 ≤ v5 then
      (Mo_above_64 v1 v2 v4 d)
    else
      (if v4 < 0 then
        (Mo_above_64 v1 v2 v4 d)
      else
        (bp (Mo_giverOf d v4) fun r3 =>
        bnd r3 fun v4_4 =>
        bnd (v5 + (1 : Int32)) fun v5_5 =>
        Mo_above_39 n v1 v2 v3 v4_4 v5_5 d))
def Mo_above (d : Sl) (a1 : Int32) (a2 : Int32) (a3 : Int32) : Option (Int32 × Sl) :=
  bnd (wr d 34 2 (0 : Int32)) fun d6 =>
  bp (Mo_isSpace d6 a1) fun r7 =>
  if r7 = 0 then
    (some ((-1 : Int32), d6))
  else
    (bp (Mo_isPlace d6 a2) fun r8 =>
    if r8 = 0 then
      (some ((-1 : Int32), d6))
    else
      (if (1 : Int32) ≤ a3 then
        (bp (Mo_cover d6 a1 a2) fun r9 =>
        bnd r9 fun v4_10 =>
        bnd (0 : Int32) fun v5_11 =>
        Mo_above_39 FU a1 a2 a3 v4_10 v5_11 d6)
      else
        (some ((-1 : Int32), d6))))
theorem y_X6_above : YV yX6_above cX6_above 6 (some .int) 3 := ⟨q1815, q1816, q1817, q149, by decide +kernel, by decide +kernel, by decide +kernel, by decide +kernel⟩
theorem r_Mo_above_64 {C : Cxt} {G : Geo} {M : Mem} {k : Nat} (hC : Cx C cX6_above 6 "FrameHeirsModel" (some .int) rm_X6_above G) (hk : LMo G k) (v1 : Int32) (v2 : Int32) (v4 : Int32) (d : Sl) : Rz C 6 G (setS M k) (poM avI (setS M k)) 64 [(0, .inr (k, 34)), (1, .inl (.int v1)), (2, .inl (.int v2)), (4, .inl (.int v4))] [] d (Mo_above_64 v1 v2 v4 d) := by
  unfold Mo_above_64
  refine z_iload (pc := 64) hC 4 3 rfl dX6_above_64 ?_
  refine z_if_ge (pc := 66) hC 74 rfl dX6_above_66 ?_ ?_
  · refine z_iload (pc := 74) hC 4 3 rfl dX6_above_74 ?_
    refine z_aload_n (pc := 76) hC 0 rfl 0 rfl dX6_above_76 ?_
    refine z_iload_n (pc := 77) hC 1 rfl 1 rfl dX6_above_77 ?_
    refine z_iload_n (pc := 78) hC 2 rfl 2 rfl dX6_above_78 ?_
    refine z_piV (pc := 79) (st := [.inl (.int v4)]) hC y_X6_frameAt q1713 [.inl (.int v1), .inl (.int v2)] rfl (hk 34 rfl) rfl rfl (c_X6_frameAt hC.2.2.2.2.2.2.1 hk) rfl ⟨rfl, rfl, (Nat.le_of_ble_eq_true rfl), (Nat.le_of_ble_eq_true rfl)⟩ (Nat.le_of_ble_eq_true rfl) dX6_above_79 (fun r1 => ?_)
    refine z_iadd (pc := 82) hC dX6_above_82 ?_
    refine z_aload_n (pc := 83) hC 0 rfl 0 rfl dX6_above_83 ?_
    refine z_sipush (pc := 84) hC (192 : Int32) rfl dX6_above_84 ?_
    refine z_iload (pc := 87) hC 4 3 rfl dX6_above_87 ?_
    refine z_iadd (pc := 89) hC dX6_above_89 ?_
    refine z_piV (pc := 90) (st := [.inl (.int (v4 + r1))]) hC y_X6_of q1262 [.inl (.int ((192 : Int32) + v4))] rfl (hk 34 rfl) rfl rfl (c_X6_of hC.2.2.2.2.2.2.1 hk) rfl ⟨rfl, rfl, (Nat.le_of_ble_eq_true rfl), (Nat.le_of_ble_eq_true rfl)⟩ (Nat.le_of_ble_eq_true rfl) dX6_above_90 (fun r2 => ?_)
    refine z_isub (pc := 93) hC dX6_above_93 ?_
    exact z_iret (pc := 94) hC rfl dX6_above_94
  · refine z_bipush (pc := 69) hC (-2 : Int32) rfl dX6_above_69 ?_
    refine z_goto (pc := 71) hC 94 rfl dX6_above_71 ?_
    exact z_iret (pc := 94) hC rfl dX6_above_94
theorem r_Mo_above_39 {C : Cxt} {G : Geo} {M : Mem} {k : Nat} (hC : Cx C cX6_above 6 "FrameHeirsModel" (some .int) rm_X6_above G) (hk : LMo G k) : ∀ (n : Nat) (v1 : Int32) (v2 : Int32) (v3 : Int32) (v4 : Int32) (v5 : Int32) (d : Sl), Rz C 6 G (setS M k) (poM avI (setS M k)) 39 [(0, .inr (k, 34)), (1, .inl (.int v1)), (2, .inl (.int v2)), (3, .inl (.int v3)), (4, .inl (.int v4)), (5, .inl (.int v5))] [] d (Mo_above_39 n v1 v2 v3 v4 v5 d) := by
  intro n
  induction n with
  | zero => intros; exact z_none
  | succ n ih =>
    intro v1 v2 v3 v4 v5 d
    rw [Mo_above_39]
    refine z_iload (pc := 39) hC 5 5 rfl dX6_above_39 ?_
    refine z_iload_n (pc := 41) hC 3 rfl 3 rfl dX6_above_41 ?_
    refine z_icmp_ge (pc := 42) hC 64 rfl dX6_above_42 ?_ ?_
    · exact z_sub [0, 1, 2, 4] rfl (r_Mo_above_64 hC hk v1 v2 v4 d)
    · refine z_iload (pc := 45) hC 4 4 rfl dX6_above_45 ?_
      refine z_if_lt (pc := 47) hC 64 rfl dX6_above_47 ?_ ?_
      · exact z_sub [0, 1, 2, 4] rfl (r_Mo_above_64 hC hk v1 v2 v4 d)
      · refine z_aload_n (pc := 50) hC 0 rfl 0 rfl dX6_above_50 ?_
        refine z_iload (pc := 51) hC 4 4 rfl dX6_above_51 ?_
        refine z_piV (pc := 53) (st := []) hC y_X6_giverOf q1532 [.inl (.int v4)] rfl (hk 34 rfl) rfl rfl (c_X6_giverOf hC.2.2.2.2.2.2.1 hk) rfl ⟨rfl, rfl, (Nat.le_of_ble_eq_true rfl), (Nat.le_of_ble_eq_true rfl)⟩ (Nat.le_of_ble_eq_true rfl) dX6_above_53 (fun r3 => ?_)
        refine z_istore (pc := 56) (ls1 := fun v => [(4, .inl (.int v)), (0, .inr (k, 34)), (1, .inl (.int v1)), (2, .inl (.int v2)), (3, .inl (.int v3)), (5, .inl (.int v5))]) hC 4 (by decide) (fun v => rfl) dX6_above_56 (fun v4_4 => ?_)
        refine z_iinc (pc := 58) (ls1 := fun v => [(5, .inl (.int v)), (4, .inl (.int v4_4)), (0, .inr (k, 34)), (1, .inl (.int v1)), (2, .inl (.int v2)), (3, .inl (.int v3))]) hC 5 5 (by decide) (1 : Int32) rfl rfl (fun v => rfl) dX6_above_58 (fun v5_5 => ?_)
        refine z_goto (pc := 61) hC 39 rfl dX6_above_61 ?_
        exact z_sub [2, 3, 4, 5, 1, 0] rfl (ih v1 v2 v3 v4_4 v5_5 d)
theorem r_Mo_above {C : Cxt} {G : Geo} {M : Mem} {k : Nat} (hC : Cx C cX6_above 6 "FrameHeirsModel" (some .int) rm_X6_above G) (hk : LMo G k) (d : Sl) (a1 : Int32) (a2 : Int32) (a3 : Int32) : Rz C 6 G (setS M k) (poM avI (setS M k)) 0 [(0, .inr (k, 34)), (1, .inl (.int a1)), (2, .inl (.int a2)), (3, .inl (.int a3))] [] d (Mo_above d a1 a2 a3) := by
  unfold Mo_above
  refine z_aload_n (pc := 0) hC 0 rfl 0 rfl dX6_above_0 ?_
  refine z_iconst (pc := 1) hC (0 : Int32) rfl dX6_above_1 ?_
  refine zs_puti (pc := 2) hC (hk 34 rfl) f_34_2 q1272 dX6_above_2 (fun d6 => ?_)
  refine z_aload_n (pc := 5) hC 0 rfl 0 rfl dX6_above_5 ?_
  refine z_iload_n (pc := 6) hC 1 rfl 1 rfl dX6_above_6 ?_
  refine z_piV (pc := 7) (st := []) hC y_X6_isSpace q1484 [.inl (.int a1)] rfl (hk 34 rfl) rfl rfl (c_X6_isSpace hC.2.2.2.2.2.2.1 hk) rfl ⟨rfl, rfl, (Nat.le_of_ble_eq_true rfl), (Nat.le_of_ble_eq_true rfl)⟩ (Nat.le_of_ble_eq_true rfl) dX6_above_7 (fun r7 => ?_)
  refine z_if_eq (pc := 10) hC 26 rfl dX6_above_10 ?_ ?_
  · refine z_iconst (pc := 26) hC (-1 : Int32) rfl dX6_above_26 ?_
    exact z_iret (pc := 27) hC rfl dX6_above_27
  · refine z_aload_n (pc := 13) hC 0 rfl 0 rfl dX6_above_13 ?_
    refine z_iload_n (pc := 14) hC 2 rfl 2 rfl dX6_above_14 ?_
    refine z_piV (pc := 15) (st := []) hC y_X6_isPlace q1496 [.inl (.int a2)] rfl (hk 34 rfl) rfl rfl (c_X6_isPlace hC.2.2.2.2.2.2.1 hk) rfl ⟨rfl, rfl, (Nat.le_of_ble_eq_true rfl), (Nat.le_of_ble_eq_true rfl)⟩ (Nat.le_of_ble_eq_true rfl) dX6_above_15 (fun r8 => ?_)
    refine z_if_eq (pc := 18) hC 26 rfl dX6_above_18 ?_ ?_
    · refine z_iconst (pc := 26) hC (-1 : Int32) rfl dX6_above_26 ?_
      exact z_iret (pc := 27) hC rfl dX6_above_27
    · refine z_iload_n (pc := 21) hC 3 rfl 3 rfl dX6_above_21 ?_
      refine z_iconst (pc := 22) hC (1 : Int32) rfl dX6_above_22 ?_
      refine z_icmp_ge (pc := 23) hC 28 rfl dX6_above_23 ?_ ?_
      · refine z_aload_n (pc := 28) hC 0 rfl 0 rfl dX6_above_28 ?_
        refine z_iload_n (pc := 29) hC 1 rfl 1 rfl dX6_above_29 ?_
        refine z_iload_n (pc := 30) hC 2 rfl 2 rfl dX6_above_30 ?_
        refine z_piV (pc := 31) (st := []) hC y_X6_cover q1512 [.inl (.int a1), .inl (.int a2)] rfl (hk 34 rfl) rfl rfl (c_X6_cover hC.2.2.2.2.2.2.1 hk) rfl ⟨rfl, rfl, (Nat.le_of_ble_eq_true rfl), (Nat.le_of_ble_eq_true rfl)⟩ (Nat.le_of_ble_eq_true rfl) dX6_above_31 (fun r9 => ?_)
        refine z_istore (pc := 34) (ls1 := fun v => [(4, .inl (.int v)), (0, .inr (k, 34)), (1, .inl (.int a1)), (2, .inl (.int a2)), (3, .inl (.int a3))]) hC 4 (by decide) (fun v => rfl) dX6_above_34 (fun v4_10 => ?_)
        refine z_iconst (pc := 36) hC (0 : Int32) rfl dX6_above_36 ?_
        refine z_istore (pc := 37) (ls1 := fun v => [(5, .inl (.int v)), (4, .inl (.int v4_10)), (0, .inr (k, 34)), (1, .inl (.int a1)), (2, .inl (.int a2)), (3, .inl (.int a3))]) hC 5 (by decide) (fun v => rfl) dX6_above_37 (fun v5_11 => ?_)
        exact z_sub [2, 3, 4, 5, 1, 0] rfl (r_Mo_above_39 hC hk FU a1 a2 a3 v4_10 v5_11 d6)
      · refine z_iconst (pc := 26) hC (-1 : Int32) rfl dX6_above_26 ?_
        exact z_iret (pc := 27) hC rfl dX6_above_27
theorem c_X6_above {G : Geo} {M : Mem} {k : Nat} (hG : GOk G) (hk : LMo G k) {d : Sl} {a1 : Int32} {a2 : Int32} {a3 : Int32} (l : Launch) (r : Int32) (d1 : Sl) (h : Mo_above d a1 a2 a3 = some (r, d1)) : Mt l yX6_above cX6_above 6 (some .int) rm_X6_above G [.inr (k, 34), .inl (.int a1), .inl (.int a2), .inl (.int a3)] ((setS M k) d) (avI r) ((setS M k) d1) :=
  mt_of (mem := (setS M k)) (po := poM avI (setS M k)) (x0 := d) (t := (r, d1)) rfl hG [.inr (k, 34), .inl (.int a1), .inl (.int a2), .inl (.int a3)] (Nat.le_of_ble_eq_true rfl) rfl (fun C hC => r_Mo_above hC hk d a1 a2 a3) h
-- FrameHeirsModel.heir(III)I
abbrev rm_X6_heir : Room := { frames := 2, cells := 0, slots := 0, locals := 45 }
theorem dX6_heir_0 : decode cX6_heir 0 = .ok (.aload_n 0, 1) := by decide +kernel
theorem dX6_heir_1 : decode cX6_heir 1 = .ok (.iconst 0, 1) := by decide +kernel
theorem dX6_heir_2 : decode cX6_heir 2 = .ok (.putfield 61, 3) := by decide +kernel
theorem dX6_heir_5 : decode cX6_heir 5 = .ok (.aload_n 0, 1) := by decide +kernel
theorem dX6_heir_6 : decode cX6_heir 6 = .ok (.iload_n 1, 1) := by decide +kernel
theorem dX6_heir_7 : decode cX6_heir 7 = .ok (.invokevirtual 264, 3) := by decide +kernel
theorem dX6_heir_10 : decode cX6_heir 10 = .ok (.ifCond .eq 15, 3) := by decide +kernel
theorem dX6_heir_13 : decode cX6_heir 13 = .ok (.aload_n 0, 1) := by decide +kernel
theorem dX6_heir_14 : decode cX6_heir 14 = .ok (.iload_n 2, 1) := by decide +kernel
theorem dX6_heir_15 : decode cX6_heir 15 = .ok (.invokevirtual 252, 3) := by decide +kernel
theorem dX6_heir_18 : decode cX6_heir 18 = .ok (.ifCond .eq 7, 3) := by decide +kernel
theorem dX6_heir_21 : decode cX6_heir 21 = .ok (.iload_n 3, 1) := by decide +kernel
theorem dX6_heir_22 : decode cX6_heir 22 = .ok (.ifCond .ge 5, 3) := by decide +kernel
theorem dX6_heir_25 : decode cX6_heir 25 = .ok (.iconst (-1), 1) := by decide +kernel
theorem dX6_heir_26 : decode cX6_heir 26 = .ok (.ireturn, 1) := by decide +kernel
theorem dX6_heir_27 : decode cX6_heir 27 = .ok (.aload_n 0, 1) := by decide +kernel
theorem dX6_heir_28 : decode cX6_heir 28 = .ok (.iload_n 1, 1) := by decide +kernel
theorem dX6_heir_29 : decode cX6_heir 29 = .ok (.iload_n 2, 1) := by decide +kernel
theorem dX6_heir_30 : decode cX6_heir 30 = .ok (.invokevirtual 199, 3) := by decide +kernel
theorem dX6_heir_33 : decode cX6_heir 33 = .ok (.istore 4, 2) := by decide +kernel
theorem dX6_heir_35 : decode cX6_heir 35 = .ok (.iload 4, 2) := by decide +kernel
theorem dX6_heir_37 : decode cX6_heir 37 = .ok (.ifCond .ge 6, 3) := by decide +kernel
theorem dX6_heir_40 : decode cX6_heir 40 = .ok (.bipush (-2), 2) := by decide +kernel
theorem dX6_heir_42 : decode cX6_heir 42 = .ok (.ireturn, 1) := by decide +kernel
theorem dX6_heir_43 : decode cX6_heir 43 = .ok (.aload_n 0, 1) := by decide +kernel
theorem dX6_heir_44 : decode cX6_heir 44 = .ok (.iload 4, 2) := by decide +kernel
theorem dX6_heir_46 : decode cX6_heir 46 = .ok (.invokevirtual 228, 3) := by decide +kernel
theorem dX6_heir_49 : decode cX6_heir 49 = .ok (.istore 5, 2) := by decide +kernel
theorem dX6_heir_51 : decode cX6_heir 51 = .ok (.iconst 0, 1) := by decide +kernel
theorem dX6_heir_52 : decode cX6_heir 52 = .ok (.istore 6, 2) := by decide +kernel
theorem dX6_heir_54 : decode cX6_heir 54 = .ok (.iload 6, 2) := by decide +kernel
theorem dX6_heir_56 : decode cX6_heir 56 = .ok (.iload_n 3, 1) := by decide +kernel
theorem dX6_heir_57 : decode cX6_heir 57 = .ok (.if_icmp .ge 22, 3) := by decide +kernel
theorem dX6_heir_60 : decode cX6_heir 60 = .ok (.iload 5, 2) := by decide +kernel
theorem dX6_heir_62 : decode cX6_heir 62 = .ok (.ifCond .lt 17, 3) := by decide +kernel
theorem dX6_heir_65 : decode cX6_heir 65 = .ok (.aload_n 0, 1) := by decide +kernel
theorem dX6_heir_66 : decode cX6_heir 66 = .ok (.iload 5, 2) := by decide +kernel
theorem dX6_heir_68 : decode cX6_heir 68 = .ok (.invokevirtual 231, 3) := by decide +kernel
theorem dX6_heir_71 : decode cX6_heir 71 = .ok (.istore 5, 2) := by decide +kernel
theorem dX6_heir_73 : decode cX6_heir 73 = .ok (.iinc 6 1, 3) := by decide +kernel
theorem dX6_heir_76 : decode cX6_heir 76 = .ok (.goto (-22), 3) := by decide +kernel
theorem dX6_heir_79 : decode cX6_heir 79 = .ok (.iload 5, 2) := by decide +kernel
theorem dX6_heir_81 : decode cX6_heir 81 = .ok (.ifCond .ge 8, 3) := by decide +kernel
theorem dX6_heir_84 : decode cX6_heir 84 = .ok (.bipush (-2), 2) := by decide +kernel
theorem dX6_heir_86 : decode cX6_heir 86 = .ok (.goto 5, 3) := by decide +kernel
theorem dX6_heir_89 : decode cX6_heir 89 = .ok (.iload 5, 2) := by decide +kernel
theorem dX6_heir_91 : decode cX6_heir 91 = .ok (.ireturn, 1) := by decide +kernel
def Mo_heir_79 (v5 : Int32) (d : Sl) : Option (Int32 × Sl) :=
  if 0 ≤ v5 then
    (some (v5, d))
  else
    (some ((-2 : Int32), d))
def Mo_heir_54 : Nat → Int32 → Int32 → Int32 → Sl → Option (Int32 × Sl)
  | 0, _, _, _, _ => none
  | n + 1, v3, v5, v6, d =>
    if v3 ≤ v6 then
      (Mo_heir_79 v5 d)
    else
      (if v5 < 0 then
        (Mo_heir_79 v5 d)
      else
        (bp (Mo_nextOf d v5) fun r1 =>
        bnd r1 fun v5_2 =>
        bnd (v6 + (1 : Int32)) fun v6_3 =>
        Mo_heir_54 n v3 v5_2 v6_3 d))
def Mo_heir (d : Sl) (a1 : Int32) (a2 : Int32) (a3 : Int32) : Option (Int32 × Sl) :=
  bnd (wr d 34 2 (0 : Int32)) fun d4 =>
  bp (Mo_isSpace d4 a1) fun r5 =>
  if r5 = 0 then
    (some ((-1 : Int32), d4))
  else
    (bp (Mo_isPlace d4 a2) fun r6 =>
    if r6 = 0 then
      (some ((-1 : Int32), d4))
    else
      (if 0 ≤ a3 then
        (bp (Mo_cover d4 a1 a2) fun r7 =>
        bnd r7 fun v4_8 =>
        if 0 ≤ v4_8 then
          (bp (Mo_firstOf d4 v4_8) fun r9 =>
          bnd r9 fun v5_10 =>
          bnd (0 : Int32) fun v6_11 =>
          Mo_heir_54 FU a3 v5_10 v6_11 d4)
        else
          (some ((-2 : Int32), d4)))
      else
        (some ((-1 : Int32), d4))))
theorem y_X6_heir : YV yX6_heir cX6_heir 7 (some .int) 3 := ⟨q1819, q1820, q1821, q149, by decide +kernel, by decide +kernel, by decide +kernel, by decide +kernel⟩
theorem r_Mo_heir_79 {C : Cxt} {G : Geo} {M : Mem} {k : Nat} (hC : Cx C cX6_heir 7 "FrameHeirsModel" (some .int) rm_X6_heir G) (hk : LMo G k) (v5 : Int32) (d : Sl) : Rz C 7 G (setS M k) (poM avI (setS M k)) 79 [(5, .inl (.int v5))] [] d (Mo_heir_79 v5 d) := by
  unfold Mo_heir_79
  refine z_iload (pc := 79) hC 5 0 rfl dX6_heir_79 ?_
  refine z_if_ge (pc := 81) hC 89 rfl dX6_heir_81 ?_ ?_
  · refine z_iload (pc := 89) hC 5 0 rfl dX6_heir_89 ?_
    exact z_iret (pc := 91) hC rfl dX6_heir_91
  · refine z_bipush (pc := 84) hC (-2 : Int32) rfl dX6_heir_84 ?_
    refine z_goto (pc := 86) hC 91 rfl dX6_heir_86 ?_
    exact z_iret (pc := 91) hC rfl dX6_heir_91
theorem r_Mo_heir_54 {C : Cxt} {G : Geo} {M : Mem} {k : Nat} (hC : Cx C cX6_heir 7 "FrameHeirsModel" (some .int) rm_X6_heir G) (hk : LMo G k) : ∀ (n : Nat) (v3 : Int32) (v5 : Int32) (v6 : Int32) (d : Sl), Rz C 7 G (setS M k) (poM avI (setS M k)) 54 [(0, .inr (k, 34)), (3, .inl (.int v3)), (5, .inl (.int v5)), (6, .inl (.int v6))] [] d (Mo_heir_54 n v3 v5 v6 d) := by
  intro n
  induction n with
  | zero => intros; exact z_none
  | succ n ih =>
    intro v3 v5 v6 d
    rw [Mo_heir_54]
    refine z_iload (pc := 54) hC 6 3 rfl dX6_heir_54 ?_
    refine z_iload_n (pc := 56) hC 3 rfl 1 rfl dX6_heir_56 ?_
    refine z_icmp_ge (pc := 57) hC 79 rfl dX6_heir_57 ?_ ?_
    · exact z_sub [2] rfl (r_Mo_heir_79 hC hk v5 d)
    · refine z_iload (pc := 60) hC 5 2 rfl dX6_heir_60 ?_
      refine z_if_lt (pc := 62) hC 79 rfl dX6_heir_62 ?_ ?_
      · exact z_sub [2] rfl (r_Mo_heir_79 hC hk v5 d)
      · refine z_aload_n (pc := 65) hC 0 rfl 0 rfl dX6_heir_65 ?_
        refine z_iload (pc := 66) hC 5 2 rfl dX6_heir_66 ?_
        refine z_piV (pc := 68) (st := []) hC y_X6_nextOf q1588 [.inl (.int v5)] rfl (hk 34 rfl) rfl rfl (c_X6_nextOf hC.2.2.2.2.2.2.1 hk) rfl ⟨rfl, rfl, (Nat.le_of_ble_eq_true rfl), (Nat.le_of_ble_eq_true rfl)⟩ (Nat.le_of_ble_eq_true rfl) dX6_heir_68 (fun r1 => ?_)
        refine z_istore (pc := 71) (ls1 := fun v => [(5, .inl (.int v)), (0, .inr (k, 34)), (3, .inl (.int v3)), (6, .inl (.int v6))]) hC 5 (by decide) (fun v => rfl) dX6_heir_71 (fun v5_2 => ?_)
        refine z_iinc (pc := 73) (ls1 := fun v => [(6, .inl (.int v)), (5, .inl (.int v5_2)), (0, .inr (k, 34)), (3, .inl (.int v3))]) hC 6 3 (by decide) (1 : Int32) rfl rfl (fun v => rfl) dX6_heir_73 (fun v6_3 => ?_)
        refine z_goto (pc := 76) hC 54 rfl dX6_heir_76 ?_
        exact z_sub [2, 3, 1, 0] rfl (ih v3 v5_2 v6_3 d)
theorem r_Mo_heir {C : Cxt} {G : Geo} {M : Mem} {k : Nat} (hC : Cx C cX6_heir 7 "FrameHeirsModel" (some .int) rm_X6_heir G) (hk : LMo G k) (d : Sl) (a1 : Int32) (a2 : Int32) (a3 : Int32) : Rz C 7 G (setS M k) (poM avI (setS M k)) 0 [(0, .inr (k, 34)), (1, .inl (.int a1)), (2, .inl (.int a2)), (3, .inl (.int a3))] [] d (Mo_heir d a1 a2 a3) := by
  unfold Mo_heir
  refine z_aload_n (pc := 0) hC 0 rfl 0 rfl dX6_heir_0 ?_
  refine z_iconst (pc := 1) hC (0 : Int32) rfl dX6_heir_1 ?_
  refine zs_puti (pc := 2) hC (hk 34 rfl) f_34_2 q1272 dX6_heir_2 (fun d4 => ?_)
  refine z_aload_n (pc := 5) hC 0 rfl 0 rfl dX6_heir_5 ?_
  refine z_iload_n (pc := 6) hC 1 rfl 1 rfl dX6_heir_6 ?_
  refine z_piV (pc := 7) (st := []) hC y_X6_isSpace q1484 [.inl (.int a1)] rfl (hk 34 rfl) rfl rfl (c_X6_isSpace hC.2.2.2.2.2.2.1 hk) rfl ⟨rfl, rfl, (Nat.le_of_ble_eq_true rfl), (Nat.le_of_ble_eq_true rfl)⟩ (Nat.le_of_ble_eq_true rfl) dX6_heir_7 (fun r5 => ?_)
  refine z_if_eq (pc := 10) hC 25 rfl dX6_heir_10 ?_ ?_
  · refine z_iconst (pc := 25) hC (-1 : Int32) rfl dX6_heir_25 ?_
    exact z_iret (pc := 26) hC rfl dX6_heir_26
  · refine z_aload_n (pc := 13) hC 0 rfl 0 rfl dX6_heir_13 ?_
    refine z_iload_n (pc := 14) hC 2 rfl 2 rfl dX6_heir_14 ?_
    refine z_piV (pc := 15) (st := []) hC y_X6_isPlace q1496 [.inl (.int a2)] rfl (hk 34 rfl) rfl rfl (c_X6_isPlace hC.2.2.2.2.2.2.1 hk) rfl ⟨rfl, rfl, (Nat.le_of_ble_eq_true rfl), (Nat.le_of_ble_eq_true rfl)⟩ (Nat.le_of_ble_eq_true rfl) dX6_heir_15 (fun r6 => ?_)
    refine z_if_eq (pc := 18) hC 25 rfl dX6_heir_18 ?_ ?_
    · refine z_iconst (pc := 25) hC (-1 : Int32) rfl dX6_heir_25 ?_
      exact z_iret (pc := 26) hC rfl dX6_heir_26
    · refine z_iload_n (pc := 21) hC 3 rfl 3 rfl dX6_heir_21 ?_
      refine z_if_ge (pc := 22) hC 27 rfl dX6_heir_22 ?_ ?_
      · refine z_aload_n (pc := 27) hC 0 rfl 0 rfl dX6_heir_27 ?_
        refine z_iload_n (pc := 28) hC 1 rfl 1 rfl dX6_heir_28 ?_
        refine z_iload_n (pc := 29) hC 2 rfl 2 rfl dX6_heir_29 ?_
        refine z_piV (pc := 30) (st := []) hC y_X6_cover q1512 [.inl (.int a1), .inl (.int a2)] rfl (hk 34 rfl) rfl rfl (c_X6_cover hC.2.2.2.2.2.2.1 hk) rfl ⟨rfl, rfl, (Nat.le_of_ble_eq_true rfl), (Nat.le_of_ble_eq_true rfl)⟩ (Nat.le_of_ble_eq_true rfl) dX6_heir_30 (fun r7 => ?_)
        refine z_istore (pc := 33) (ls1 := fun v => [(4, .inl (.int v)), (0, .inr (k, 34)), (1, .inl (.int a1)), (2, .inl (.int a2)), (3, .inl (.int a3))]) hC 4 (by decide) (fun v => rfl) dX6_heir_33 (fun v4_8 => ?_)
        refine z_iload (pc := 35) hC 4 0 rfl dX6_heir_35 ?_
        refine z_if_ge (pc := 37) hC 43 rfl dX6_heir_37 ?_ ?_
        · refine z_aload_n (pc := 43) hC 0 rfl 1 rfl dX6_heir_43 ?_
          refine z_iload (pc := 44) hC 4 0 rfl dX6_heir_44 ?_
          refine z_piV (pc := 46) (st := []) hC y_X6_firstOf q1584 [.inl (.int v4_8)] rfl (hk 34 rfl) rfl rfl (c_X6_firstOf hC.2.2.2.2.2.2.1 hk) rfl ⟨rfl, rfl, (Nat.le_of_ble_eq_true rfl), (Nat.le_of_ble_eq_true rfl)⟩ (Nat.le_of_ble_eq_true rfl) dX6_heir_46 (fun r9 => ?_)
          refine z_istore (pc := 49) (ls1 := fun v => [(5, .inl (.int v)), (4, .inl (.int v4_8)), (0, .inr (k, 34)), (1, .inl (.int a1)), (2, .inl (.int a2)), (3, .inl (.int a3))]) hC 5 (by decide) (fun v => rfl) dX6_heir_49 (fun v5_10 => ?_)
          refine z_iconst (pc := 51) hC (0 : Int32) rfl dX6_heir_51 ?_
          refine z_istore (pc := 52) (ls1 := fun v => [(6, .inl (.int v)), (5, .inl (.int v5_10)), (4, .inl (.int v4_8)), (0, .inr (k, 34)), (1, .inl (.int a1)), (2, .inl (.int a2)), (3, .inl (.int a3))]) hC 6 (by decide) (fun v => rfl) dX6_heir_52 (fun v6_11 => ?_)
          exact z_sub [3, 6, 1, 0] rfl (r_Mo_heir_54 hC hk FU a3 v5_10 v6_11 d4)
        · refine z_bipush (pc := 40) hC (-2 : Int32) rfl dX6_heir_40 ?_
          exact z_iret (pc := 42) hC rfl dX6_heir_42
      · refine z_iconst (pc := 25) hC (-1 : Int32) rfl dX6_heir_25 ?_
        exact z_iret (pc := 26) hC rfl dX6_heir_26
theorem c_X6_heir {G : Geo} {M : Mem} {k : Nat} (hG : GOk G) (hk : LMo G k) {d : Sl} {a1 : Int32} {a2 : Int32} {a3 : Int32} (l : Launch) (r : Int32) (d1 : Sl) (h : Mo_heir d a1 a2 a3 = some (r, d1)) : Mt l yX6_heir cX6_heir 7 (some .int) rm_X6_heir G [.inr (k, 34), .inl (.int a1), .inl (.int a2), .inl (.int a3)] ((setS M k) d) (avI r) ((setS M k) d1) :=
  mt_of (mem := (setS M k)) (po := poM avI (setS M k)) (x0 := d) (t := (r, d1)) rfl hG [.inr (k, 34), .inl (.int a1), .inl (.int a2), .inl (.int a3)] (Nat.le_of_ble_eq_true rfl) rfl (fun C hC => r_Mo_heir hC hk d a1 a2 a3) h
-- FrameHeirsModel.holds(II)I
abbrev rm_X6_holds : Room := { frames := 3, cells := 0, slots := 0, locals := 68 }
theorem dX6_holds_0 : decode cX6_holds 0 = .ok (.aload_n 0, 1) := by decide +kernel
theorem dX6_holds_1 : decode cX6_holds 1 = .ok (.iconst 0, 1) := by decide +kernel
theorem dX6_holds_2 : decode cX6_holds 2 = .ok (.putfield 61, 3) := by decide +kernel
theorem dX6_holds_5 : decode cX6_holds 5 = .ok (.aload_n 0, 1) := by decide +kernel
theorem dX6_holds_6 : decode cX6_holds 6 = .ok (.iload_n 1, 1) := by decide +kernel
theorem dX6_holds_7 : decode cX6_holds 7 = .ok (.invokevirtual 252, 3) := by decide +kernel
theorem dX6_holds_10 : decode cX6_holds 10 = .ok (.ifCond .eq 13, 3) := by decide +kernel
theorem dX6_holds_13 : decode cX6_holds 13 = .ok (.iload_n 2, 1) := by decide +kernel
theorem dX6_holds_14 : decode cX6_holds 14 = .ok (.iconst 1, 1) := by decide +kernel
theorem dX6_holds_15 : decode cX6_holds 15 = .ok (.bipush 7, 2) := by decide +kernel
theorem dX6_holds_17 : decode cX6_holds 17 = .ok (.invokestatic 137, 3) := by decide +kernel
theorem dX6_holds_20 : decode cX6_holds 20 = .ok (.ifCond .ne 5, 3) := by decide +kernel
theorem dX6_holds_23 : decode cX6_holds 23 = .ok (.iconst (-1), 1) := by decide +kernel
theorem dX6_holds_24 : decode cX6_holds 24 = .ok (.ireturn, 1) := by decide +kernel
theorem dX6_holds_25 : decode cX6_holds 25 = .ok (.iconst 0, 1) := by decide +kernel
theorem dX6_holds_26 : decode cX6_holds 26 = .ok (.istore_n 3, 1) := by decide +kernel
theorem dX6_holds_27 : decode cX6_holds 27 = .ok (.iconst 0, 1) := by decide +kernel
theorem dX6_holds_28 : decode cX6_holds 28 = .ok (.istore 4, 2) := by decide +kernel
theorem dX6_holds_30 : decode cX6_holds 30 = .ok (.iload 4, 2) := by decide +kernel
theorem dX6_holds_32 : decode cX6_holds 32 = .ok (.aload_n 0, 1) := by decide +kernel
theorem dX6_holds_33 : decode cX6_holds 33 = .ok (.getfield 106, 3) := by decide +kernel
theorem dX6_holds_36 : decode cX6_holds 36 = .ok (.if_icmp .ge 77, 3) := by decide +kernel
theorem dX6_holds_39 : decode cX6_holds 39 = .ok (.iconst 0, 1) := by decide +kernel
theorem dX6_holds_40 : decode cX6_holds 40 = .ok (.istore 5, 2) := by decide +kernel
theorem dX6_holds_42 : decode cX6_holds 42 = .ok (.iload 5, 2) := by decide +kernel
theorem dX6_holds_44 : decode cX6_holds 44 = .ok (.aload_n 0, 1) := by decide +kernel
theorem dX6_holds_45 : decode cX6_holds 45 = .ok (.invokevirtual 126, 3) := by decide +kernel
theorem dX6_holds_48 : decode cX6_holds 48 = .ok (.if_icmp .ge 59, 3) := by decide +kernel
theorem dX6_holds_51 : decode cX6_holds 51 = .ok (.aload_n 0, 1) := by decide +kernel
theorem dX6_holds_52 : decode cX6_holds 52 = .ok (.iload 4, 2) := by decide +kernel
theorem dX6_holds_54 : decode cX6_holds 54 = .ok (.iload 5, 2) := by decide +kernel
theorem dX6_holds_56 : decode cX6_holds 56 = .ok (.invokevirtual 199, 3) := by decide +kernel
theorem dX6_holds_59 : decode cX6_holds 59 = .ok (.istore 6, 2) := by decide +kernel
theorem dX6_holds_61 : decode cX6_holds 61 = .ok (.iload 6, 2) := by decide +kernel
theorem dX6_holds_63 : decode cX6_holds 63 = .ok (.ifCond .lt 38, 3) := by decide +kernel
theorem dX6_holds_66 : decode cX6_holds 66 = .ok (.aload_n 0, 1) := by decide +kernel
theorem dX6_holds_67 : decode cX6_holds 67 = .ok (.iload 4, 2) := by decide +kernel
theorem dX6_holds_69 : decode cX6_holds 69 = .ok (.iload 5, 2) := by decide +kernel
theorem dX6_holds_71 : decode cX6_holds 71 = .ok (.invokevirtual 383, 3) := by decide +kernel
theorem dX6_holds_74 : decode cX6_holds 74 = .ok (.iload_n 1, 1) := by decide +kernel
theorem dX6_holds_75 : decode cX6_holds 75 = .ok (.if_icmp .ne 26, 3) := by decide +kernel
theorem dX6_holds_78 : decode cX6_holds 78 = .ok (.aload_n 0, 1) := by decide +kernel
theorem dX6_holds_79 : decode cX6_holds 79 = .ok (.sipush 384, 3) := by decide +kernel
theorem dX6_holds_82 : decode cX6_holds 82 = .ok (.iload 6, 2) := by decide +kernel
theorem dX6_holds_84 : decode cX6_holds 84 = .ok (.iadd, 1) := by decide +kernel
theorem dX6_holds_85 : decode cX6_holds 85 = .ok (.invokevirtual 189, 3) := by decide +kernel
theorem dX6_holds_88 : decode cX6_holds 88 = .ok (.iload_n 2, 1) := by decide +kernel
theorem dX6_holds_89 : decode cX6_holds 89 = .ok (.iand, 1) := by decide +kernel
theorem dX6_holds_90 : decode cX6_holds 90 = .ok (.iload_n 2, 1) := by decide +kernel
theorem dX6_holds_91 : decode cX6_holds 91 = .ok (.if_icmp .ne 10, 3) := by decide +kernel
theorem dX6_holds_94 : decode cX6_holds 94 = .ok (.iload_n 3, 1) := by decide +kernel
theorem dX6_holds_95 : decode cX6_holds 95 = .ok (.iconst 1, 1) := by decide +kernel
theorem dX6_holds_96 : decode cX6_holds 96 = .ok (.iload 4, 2) := by decide +kernel
theorem dX6_holds_98 : decode cX6_holds 98 = .ok (.ishl, 1) := by decide +kernel
theorem dX6_holds_99 : decode cX6_holds 99 = .ok (.ior, 1) := by decide +kernel
theorem dX6_holds_100 : decode cX6_holds 100 = .ok (.istore_n 3, 1) := by decide +kernel
theorem dX6_holds_101 : decode cX6_holds 101 = .ok (.iinc 5 1, 3) := by decide +kernel
theorem dX6_holds_104 : decode cX6_holds 104 = .ok (.goto (-62), 3) := by decide +kernel
theorem dX6_holds_107 : decode cX6_holds 107 = .ok (.iinc 4 1, 3) := by decide +kernel
theorem dX6_holds_110 : decode cX6_holds 110 = .ok (.goto (-80), 3) := by decide +kernel
theorem dX6_holds_113 : decode cX6_holds 113 = .ok (.iload_n 3, 1) := by decide +kernel
theorem dX6_holds_114 : decode cX6_holds 114 = .ok (.ireturn, 1) := by decide +kernel
def Mo_holds_101 (k30 : Int32 → Int32 → Int32 → Int32 → Sl → Option (Int32 × Sl)) (k42 : Int32 → Int32 → Int32 → Int32 → Int32 → Sl → Option (Int32 × Sl)) (v1 : Int32) (v2 : Int32) (v3 : Int32) (v4 : Int32) (v5 : Int32) (d : Sl) : Option (Int32 × Sl) :=
  bnd (v5 + (1 : Int32)) fun v5_1 =>
  k42 v1 v2 v3 v4 v5_1 d
def Mo_holds_42 (k30 : Int32 → Int32 → Int32 → Int32 → Sl → Option (Int32 × Sl)) : Nat → Int32 → Int32 → Int32 → Int32 → Int32 → Sl → Option (Int32 × Sl)
  | 0, _, _, _, _, _, _ => none
  | n + 1, v1, v2, v3, v4, v5, d =>
    bp (Mo_size d) fun r2 =>
    if r2 ≤ v5 then
      (bnd (v4 + (1 : Int32)) fun v4_3 =>
      k30 v1 v2 v3 v4_3 d)
    else
      (bp (Mo_cover d v4 v5) fun r4 =>
      bnd r4 fun v6_5 =>
      if v6_5 < 0 then
        (Mo_holds_101 k30 (Mo_holds_42 k30 n) v1 v2 v3 v4 v5 d)
      else
        (bp (Mo_frameAt d v4 v5) fun r6 =>
        if r6 = v1 then
          (bp (Mo_of d ((384 : Int32) + v6_5)) fun r7 =>
          if (r7 &&& v2) = v2 then
            (bnd (v3 ||| ((1 : Int32) <<< (v4 &&& 31))) fun v3_8 =>
            Mo_holds_101 k30 (Mo_holds_42 k30 n) v1 v2 v3_8 v4 v5 d)
          else
            (Mo_holds_101 k30 (Mo_holds_42 k30 n) v1 v2 v3 v4 v5 d))
        else
          (Mo_holds_101 k30 (Mo_holds_42 k30 n) v1 v2 v3 v4 v5 d)))
def Mo_holds_30 : Nat → Int32 → Int32 → Int32 → Int32 → Sl → Option (Int32 × Sl)
  | 0, _, _, _, _, _ => none
  | n + 1, v1, v2, v3, v4, d =>
    if (d 34 11) ≤ v4 then
      (some (v3, d))
    else
      (bnd (0 : Int32) fun v5_9 =>
      Mo_holds_42 (Mo_holds_30 n) FU v1 v2 v3 v4 v5_9 d)
def Mo_holds (d : Sl) (a1 : Int32) (a2 : Int32) : Option (Int32 × Sl) :=
  bnd (wr d 34 2 (0 : Int32)) fun d10 =>
  bp (Mo_isPlace d10 a1) fun r11 =>
  if r11 = 0 then
    (some ((-1 : Int32), d10))
  else
    (bp (Mo_isIn a2 (1 : Int32) (7 : Int32)) fun r12 =>
    if r12 = 0 then
      (some ((-1 : Int32), d10))
    else
      (bnd (0 : Int32) fun v3_13 =>
      bnd (0 : Int32) fun v4_14 =>
      Mo_holds_30 FU a1 a2 v3_13 v4_14 d10))
theorem y_X6_holds : YV yX6_holds cX6_holds 7 (some .int) 2 := ⟨q1823, q1824, q1825, q149, by decide +kernel, by decide +kernel, by decide +kernel, by decide +kernel⟩
theorem r_Mo_holds_101 {C : Cxt} {G : Geo} {M : Mem} {k : Nat} (hC : Cx C cX6_holds 7 "FrameHeirsModel" (some .int) rm_X6_holds G) (hk : LMo G k) (k30 : Int32 → Int32 → Int32 → Int32 → Sl → Option (Int32 × Sl)) (h30 : ∀ (v1 : Int32) (v2 : Int32) (v3 : Int32) (v4 : Int32) (d : Sl), Rz C 7 G (setS M k) (poM avI (setS M k)) 30 [(0, .inr (k, 34)), (1, .inl (.int v1)), (2, .inl (.int v2)), (3, .inl (.int v3)), (4, .inl (.int v4))] [] d (k30 v1 v2 v3 v4 d)) (k42 : Int32 → Int32 → Int32 → Int32 → Int32 → Sl → Option (Int32 × Sl)) (h42 : ∀ (v1 : Int32) (v2 : Int32) (v3 : Int32) (v4 : Int32) (v5 : Int32) (d : Sl), Rz C 7 G (setS M k) (poM avI (setS M k)) 42 [(0, .inr (k, 34)), (1, .inl (.int v1)), (2, .inl (.int v2)), (3, .inl (.int v3)), (4, .inl (.int v4)), (5, .inl (.int v5))] [] d (k42 v1 v2 v3 v4 v5 d)) (v1 : Int32) (v2 : Int32) (v3 : Int32) (v4 : Int32) (v5 : Int32) (d : Sl) : Rz C 7 G (setS M k) (poM avI (setS M k)) 101 [(0, .inr (k, 34)), (1, .inl (.int v1)), (2, .inl (.int v2)), (3, .inl (.int v3)), (4, .inl (.int v4)), (5, .inl (.int v5))] [] d (Mo_holds_101 k30 k42 v1 v2 v3 v4 v5 d) := by
  unfold Mo_holds_101
  refine z_iinc (pc := 101) (ls1 := fun v => [(5, .inl (.int v)), (0, .inr (k, 34)), (1, .inl (.int v1)), (2, .inl (.int v2)), (3, .inl (.int v3)), (4, .inl (.int v4))]) hC 5 5 (by decide) (1 : Int32) rfl rfl (fun v => rfl) dX6_holds_101 (fun v5_1 => ?_)
  refine z_goto (pc := 104) hC 42 rfl dX6_holds_104 ?_
  exact z_sub [1, 2, 3, 4, 5, 0] rfl (h42 v1 v2 v3 v4 v5_1 d)
theorem r_Mo_holds_42 {C : Cxt} {G : Geo} {M : Mem} {k : Nat} (hC : Cx C cX6_holds 7 "FrameHeirsModel" (some .int) rm_X6_holds G) (hk : LMo G k) (k30 : Int32 → Int32 → Int32 → Int32 → Sl → Option (Int32 × Sl)) (h30 : ∀ (v1 : Int32) (v2 : Int32) (v3 : Int32) (v4 : Int32) (d : Sl), Rz C 7 G (setS M k) (poM avI (setS M k)) 30 [(0, .inr (k, 34)), (1, .inl (.int v1)), (2, .inl (.int v2)), (3, .inl (.int v3)), (4, .inl (.int v4))] [] d (k30 v1 v2 v3 v4 d)) : ∀ (n : Nat) (v1 : Int32) (v2 : Int32) (v3 : Int32) (v4 : Int32) (v5 : Int32) (d : Sl), Rz C 7 G (setS M k) (poM avI (setS M k)) 42 [(0, .inr (k, 34)), (1, .inl (.int v1)), (2, .inl (.int v2)), (3, .inl (.int v3)), (4, .inl (.int v4)), (5, .inl (.int v5))] [] d (Mo_holds_42 k30 n v1 v2 v3 v4 v5 d) := by
  intro n
  induction n with
  | zero => intros; exact z_none
  | succ n ih =>
    intro v1 v2 v3 v4 v5 d
    rw [Mo_holds_42]
    refine z_iload (pc := 42) hC 5 5 rfl dX6_holds_42 ?_
    refine z_aload_n (pc := 44) hC 0 rfl 0 rfl dX6_holds_44 ?_
    refine z_piV (pc := 45) (st := [.inl (.int v5)]) hC y_X6_size q1250 [] rfl (hk 34 rfl) rfl rfl (c_X6_size hC.2.2.2.2.2.2.1 hk) rfl ⟨rfl, rfl, (Nat.le_of_ble_eq_true rfl), (Nat.le_of_ble_eq_true rfl)⟩ (Nat.le_of_ble_eq_true rfl) dX6_holds_45 (fun r2 => ?_)
    refine z_icmp_ge (pc := 48) hC 107 rfl dX6_holds_48 ?_ ?_
    · refine z_iinc (pc := 107) (ls1 := fun v => [(4, .inl (.int v)), (0, .inr (k, 34)), (1, .inl (.int v1)), (2, .inl (.int v2)), (3, .inl (.int v3)), (5, .inl (.int v5))]) hC 4 4 (by decide) (1 : Int32) rfl rfl (fun v => rfl) dX6_holds_107 (fun v4_3 => ?_)
      refine z_goto (pc := 110) hC 30 rfl dX6_holds_110 ?_
      exact z_sub [1, 2, 3, 4, 0] rfl (h30 v1 v2 v3 v4_3 d)
    · refine z_aload_n (pc := 51) hC 0 rfl 0 rfl dX6_holds_51 ?_
      refine z_iload (pc := 52) hC 4 4 rfl dX6_holds_52 ?_
      refine z_iload (pc := 54) hC 5 5 rfl dX6_holds_54 ?_
      refine z_piV (pc := 56) (st := []) hC y_X6_cover q1512 [.inl (.int v4), .inl (.int v5)] rfl (hk 34 rfl) rfl rfl (c_X6_cover hC.2.2.2.2.2.2.1 hk) rfl ⟨rfl, rfl, (Nat.le_of_ble_eq_true rfl), (Nat.le_of_ble_eq_true rfl)⟩ (Nat.le_of_ble_eq_true rfl) dX6_holds_56 (fun r4 => ?_)
      refine z_istore (pc := 59) (ls1 := fun v => [(6, .inl (.int v)), (0, .inr (k, 34)), (1, .inl (.int v1)), (2, .inl (.int v2)), (3, .inl (.int v3)), (4, .inl (.int v4)), (5, .inl (.int v5))]) hC 6 (by decide) (fun v => rfl) dX6_holds_59 (fun v6_5 => ?_)
      refine z_iload (pc := 61) hC 6 0 rfl dX6_holds_61 ?_
      refine z_if_lt (pc := 63) hC 101 rfl dX6_holds_63 ?_ ?_
      · exact z_sub [1, 2, 3, 4, 5, 6] rfl (r_Mo_holds_101 hC hk k30 h30 _ ih v1 v2 v3 v4 v5 d)
      · refine z_aload_n (pc := 66) hC 0 rfl 1 rfl dX6_holds_66 ?_
        refine z_iload (pc := 67) hC 4 5 rfl dX6_holds_67 ?_
        refine z_iload (pc := 69) hC 5 6 rfl dX6_holds_69 ?_
        refine z_piV (pc := 71) (st := []) hC y_X6_frameAt q1713 [.inl (.int v4), .inl (.int v5)] rfl (hk 34 rfl) rfl rfl (c_X6_frameAt hC.2.2.2.2.2.2.1 hk) rfl ⟨rfl, rfl, (Nat.le_of_ble_eq_true rfl), (Nat.le_of_ble_eq_true rfl)⟩ (Nat.le_of_ble_eq_true rfl) dX6_holds_71 (fun r6 => ?_)
        refine z_iload_n (pc := 74) hC 1 rfl 2 rfl dX6_holds_74 ?_
        refine z_icmp_ne (pc := 75) hC 101 rfl dX6_holds_75 ?_ ?_
        · exact z_sub [1, 2, 3, 4, 5, 6] rfl (r_Mo_holds_101 hC hk k30 h30 _ ih v1 v2 v3 v4 v5 d)
        · refine z_aload_n (pc := 78) hC 0 rfl 1 rfl dX6_holds_78 ?_
          refine z_sipush (pc := 79) hC (384 : Int32) rfl dX6_holds_79 ?_
          refine z_iload (pc := 82) hC 6 0 rfl dX6_holds_82 ?_
          refine z_iadd (pc := 84) hC dX6_holds_84 ?_
          refine z_piV (pc := 85) (st := []) hC y_X6_of q1262 [.inl (.int ((384 : Int32) + v6_5))] rfl (hk 34 rfl) rfl rfl (c_X6_of hC.2.2.2.2.2.2.1 hk) rfl ⟨rfl, rfl, (Nat.le_of_ble_eq_true rfl), (Nat.le_of_ble_eq_true rfl)⟩ (Nat.le_of_ble_eq_true rfl) dX6_holds_85 (fun r7 => ?_)
          refine z_iload_n (pc := 88) hC 2 rfl 3 rfl dX6_holds_88 ?_
          refine z_iand (pc := 89) hC dX6_holds_89 ?_
          refine z_iload_n (pc := 90) hC 2 rfl 3 rfl dX6_holds_90 ?_
          refine z_icmp_ne (pc := 91) hC 101 rfl dX6_holds_91 ?_ ?_
          · exact z_sub [1, 2, 3, 4, 5, 6] rfl (r_Mo_holds_101 hC hk k30 h30 _ ih v1 v2 v3 v4 v5 d)
          · refine z_iload_n (pc := 94) hC 3 rfl 4 rfl dX6_holds_94 ?_
            refine z_iconst (pc := 95) hC (1 : Int32) rfl dX6_holds_95 ?_
            refine z_iload (pc := 96) hC 4 5 rfl dX6_holds_96 ?_
            refine z_ishl (pc := 98) hC dX6_holds_98 ?_
            refine z_ior (pc := 99) hC dX6_holds_99 ?_
            refine z_istore_n (pc := 100) (ls1 := fun v => [(3, .inl (.int v)), (6, .inl (.int v6_5)), (0, .inr (k, 34)), (1, .inl (.int v1)), (2, .inl (.int v2)), (4, .inl (.int v4)), (5, .inl (.int v5))]) hC 3 rfl (by decide) (fun v => rfl) dX6_holds_100 (fun v3_8 => ?_)
            exact z_sub [2, 3, 4, 0, 5, 6] rfl (r_Mo_holds_101 hC hk k30 h30 _ ih v1 v2 v3_8 v4 v5 d)
theorem r_Mo_holds_30 {C : Cxt} {G : Geo} {M : Mem} {k : Nat} (hC : Cx C cX6_holds 7 "FrameHeirsModel" (some .int) rm_X6_holds G) (hk : LMo G k) : ∀ (n : Nat) (v1 : Int32) (v2 : Int32) (v3 : Int32) (v4 : Int32) (d : Sl), Rz C 7 G (setS M k) (poM avI (setS M k)) 30 [(0, .inr (k, 34)), (1, .inl (.int v1)), (2, .inl (.int v2)), (3, .inl (.int v3)), (4, .inl (.int v4))] [] d (Mo_holds_30 n v1 v2 v3 v4 d) := by
  intro n
  induction n with
  | zero => intros; exact z_none
  | succ n ih =>
    intro v1 v2 v3 v4 d
    rw [Mo_holds_30]
    refine z_iload (pc := 30) hC 4 4 rfl dX6_holds_30 ?_
    refine z_aload_n (pc := 32) hC 0 rfl 0 rfl dX6_holds_32 ?_
    refine zs_geti (pc := 33) hC (hk 34 rfl) f_34_11 q1281 dX6_holds_33 ?_
    refine z_icmp_ge (pc := 36) hC 113 rfl dX6_holds_36 ?_ ?_
    · refine z_iload_n (pc := 113) hC 3 rfl 3 rfl dX6_holds_113 ?_
      exact z_iret (pc := 114) hC rfl dX6_holds_114
    · refine z_iconst (pc := 39) hC (0 : Int32) rfl dX6_holds_39 ?_
      refine z_istore (pc := 40) (ls1 := fun v => [(5, .inl (.int v)), (0, .inr (k, 34)), (1, .inl (.int v1)), (2, .inl (.int v2)), (3, .inl (.int v3)), (4, .inl (.int v4))]) hC 5 (by decide) (fun v => rfl) dX6_holds_40 (fun v5_9 => ?_)
      exact z_sub [1, 2, 3, 4, 5, 0] rfl (r_Mo_holds_42 hC hk _ ih FU v1 v2 v3 v4 v5_9 d)
theorem r_Mo_holds {C : Cxt} {G : Geo} {M : Mem} {k : Nat} (hC : Cx C cX6_holds 7 "FrameHeirsModel" (some .int) rm_X6_holds G) (hk : LMo G k) (d : Sl) (a1 : Int32) (a2 : Int32) : Rz C 7 G (setS M k) (poM avI (setS M k)) 0 [(0, .inr (k, 34)), (1, .inl (.int a1)), (2, .inl (.int a2))] [] d (Mo_holds d a1 a2) := by
  unfold Mo_holds
  refine z_aload_n (pc := 0) hC 0 rfl 0 rfl dX6_holds_0 ?_
  refine z_iconst (pc := 1) hC (0 : Int32) rfl dX6_holds_1 ?_
  refine zs_puti (pc := 2) hC (hk 34 rfl) f_34_2 q1272 dX6_holds_2 (fun d10 => ?_)
  refine z_aload_n (pc := 5) hC 0 rfl 0 rfl dX6_holds_5 ?_
  refine z_iload_n (pc := 6) hC 1 rfl 1 rfl dX6_holds_6 ?_
  refine z_piV (pc := 7) (st := []) hC y_X6_isPlace q1496 [.inl (.int a1)] rfl (hk 34 rfl) rfl rfl (c_X6_isPlace hC.2.2.2.2.2.2.1 hk) rfl ⟨rfl, rfl, (Nat.le_of_ble_eq_true rfl), (Nat.le_of_ble_eq_true rfl)⟩ (Nat.le_of_ble_eq_true rfl) dX6_holds_7 (fun r11 => ?_)
  refine z_if_eq (pc := 10) hC 23 rfl dX6_holds_10 ?_ ?_
  · refine z_iconst (pc := 23) hC (-1 : Int32) rfl dX6_holds_23 ?_
    exact z_iret (pc := 24) hC rfl dX6_holds_24
  · refine z_iload_n (pc := 13) hC 2 rfl 2 rfl dX6_holds_13 ?_
    refine z_iconst (pc := 14) hC (1 : Int32) rfl dX6_holds_14 ?_
    refine z_bipush (pc := 15) hC (7 : Int32) rfl dX6_holds_15 ?_
    refine z_piS (pc := 17) (st := []) hC y_X6_isIn q1429 [.inl (.int a2), .inl (.int (1 : Int32)), .inl (.int (7 : Int32))] rfl (c_X6_isIn hC.2.2.2.2.2.2.1) rfl ⟨rfl, rfl, (Nat.le_of_ble_eq_true rfl), (Nat.le_of_ble_eq_true rfl)⟩ (Nat.le_of_ble_eq_true rfl) dX6_holds_17 (fun r12 => ?_)
    refine z_if_ne (pc := 20) hC 25 rfl dX6_holds_20 ?_ ?_
    · refine z_iconst (pc := 25) hC (0 : Int32) rfl dX6_holds_25 ?_
      refine z_istore_n (pc := 26) (ls1 := fun v => [(3, .inl (.int v)), (0, .inr (k, 34)), (1, .inl (.int a1)), (2, .inl (.int a2))]) hC 3 rfl (by decide) (fun v => rfl) dX6_holds_26 (fun v3_13 => ?_)
      refine z_iconst (pc := 27) hC (0 : Int32) rfl dX6_holds_27 ?_
      refine z_istore (pc := 28) (ls1 := fun v => [(4, .inl (.int v)), (3, .inl (.int v3_13)), (0, .inr (k, 34)), (1, .inl (.int a1)), (2, .inl (.int a2))]) hC 4 (by decide) (fun v => rfl) dX6_holds_28 (fun v4_14 => ?_)
      exact z_sub [2, 3, 4, 1, 0] rfl (r_Mo_holds_30 hC hk FU a1 a2 v3_13 v4_14 d10)
    · refine z_iconst (pc := 23) hC (-1 : Int32) rfl dX6_holds_23 ?_
      exact z_iret (pc := 24) hC rfl dX6_holds_24
theorem c_X6_holds {G : Geo} {M : Mem} {k : Nat} (hG : GOk G) (hk : LMo G k) {d : Sl} {a1 : Int32} {a2 : Int32} (l : Launch) (r : Int32) (d1 : Sl) (h : Mo_holds d a1 a2 = some (r, d1)) : Mt l yX6_holds cX6_holds 7 (some .int) rm_X6_holds G [.inr (k, 34), .inl (.int a1), .inl (.int a2)] ((setS M k) d) (avI r) ((setS M k) d1) :=
  mt_of (mem := (setS M k)) (po := poM avI (setS M k)) (x0 := d) (t := (r, d1)) rfl hG [.inr (k, 34), .inl (.int a1), .inl (.int a2)] (Nat.le_of_ble_eq_true rfl) rfl (fun C hC => r_Mo_holds hC hk d a1 a2) h
-- FrameHeirsModel.aliases(II)I
abbrev rm_X6_aliases : Room := { frames := 4, cells := 0, slots := 0, locals := 92 }
theorem dX6_aliases_0 : decode cX6_aliases 0 = .ok (.aload_n 0, 1) := by decide +kernel
theorem dX6_aliases_1 : decode cX6_aliases 1 = .ok (.iconst 0, 1) := by decide +kernel
theorem dX6_aliases_2 : decode cX6_aliases 2 = .ok (.putfield 61, 3) := by decide +kernel
theorem dX6_aliases_5 : decode cX6_aliases 5 = .ok (.aload_n 0, 1) := by decide +kernel
theorem dX6_aliases_6 : decode cX6_aliases 6 = .ok (.iload_n 1, 1) := by decide +kernel
theorem dX6_aliases_7 : decode cX6_aliases 7 = .ok (.invokevirtual 264, 3) := by decide +kernel
theorem dX6_aliases_10 : decode cX6_aliases 10 = .ok (.ifCond .eq 20, 3) := by decide +kernel
theorem dX6_aliases_13 : decode cX6_aliases 13 = .ok (.aload_n 0, 1) := by decide +kernel
theorem dX6_aliases_14 : decode cX6_aliases 14 = .ok (.iload_n 2, 1) := by decide +kernel
theorem dX6_aliases_15 : decode cX6_aliases 15 = .ok (.invokevirtual 252, 3) := by decide +kernel
theorem dX6_aliases_18 : decode cX6_aliases 18 = .ok (.ifCond .eq 12, 3) := by decide +kernel
theorem dX6_aliases_21 : decode cX6_aliases 21 = .ok (.aload_n 0, 1) := by decide +kernel
theorem dX6_aliases_22 : decode cX6_aliases 22 = .ok (.iload_n 1, 1) := by decide +kernel
theorem dX6_aliases_23 : decode cX6_aliases 23 = .ok (.iload_n 2, 1) := by decide +kernel
theorem dX6_aliases_24 : decode cX6_aliases 24 = .ok (.invokevirtual 395, 3) := by decide +kernel
theorem dX6_aliases_27 : decode cX6_aliases 27 = .ok (.goto 4, 3) := by decide +kernel
theorem dX6_aliases_30 : decode cX6_aliases 30 = .ok (.iconst (-1), 1) := by decide +kernel
theorem dX6_aliases_31 : decode cX6_aliases 31 = .ok (.ireturn, 1) := by decide +kernel
def Mo_aliases (d : Sl) (a1 : Int32) (a2 : Int32) : Option (Int32 × Sl) :=
  bnd (wr d 34 2 (0 : Int32)) fun d1 =>
  bp (Mo_isSpace d1 a1) fun r2 =>
  if r2 = 0 then
    (some ((-1 : Int32), d1))
  else
    (bp (Mo_isPlace d1 a2) fun r3 =>
    if r3 = 0 then
      (some ((-1 : Int32), d1))
    else
      (bp (Mo_aliasesOf d1 a1 a2) fun r4 =>
      some (r4, d1)))
theorem y_X6_aliases : YV yX6_aliases cX6_aliases 3 (some .int) 2 := ⟨q1827, q1828, q1829, q149, by decide +kernel, by decide +kernel, by decide +kernel, by decide +kernel⟩
theorem r_Mo_aliases {C : Cxt} {G : Geo} {M : Mem} {k : Nat} (hC : Cx C cX6_aliases 3 "FrameHeirsModel" (some .int) rm_X6_aliases G) (hk : LMo G k) (d : Sl) (a1 : Int32) (a2 : Int32) : Rz C 3 G (setS M k) (poM avI (setS M k)) 0 [(0, .inr (k, 34)), (1, .inl (.int a1)), (2, .inl (.int a2))] [] d (Mo_aliases d a1 a2) := by
  unfold Mo_aliases
  refine z_aload_n (pc := 0) hC 0 rfl 0 rfl dX6_aliases_0 ?_
  refine z_iconst (pc := 1) hC (0 : Int32) rfl dX6_aliases_1 ?_
  refine zs_puti (pc := 2) hC (hk 34 rfl) f_34_2 q1272 dX6_aliases_2 (fun d1 => ?_)
  refine z_aload_n (pc := 5) hC 0 rfl 0 rfl dX6_aliases_5 ?_
  refine z_iload_n (pc := 6) hC 1 rfl 1 rfl dX6_aliases_6 ?_
  refine z_piV (pc := 7) (st := []) hC y_X6_isSpace q1484 [.inl (.int a1)] rfl (hk 34 rfl) rfl rfl (c_X6_isSpace hC.2.2.2.2.2.2.1 hk) rfl ⟨rfl, rfl, (Nat.le_of_ble_eq_true rfl), (Nat.le_of_ble_eq_true rfl)⟩ (Nat.le_of_ble_eq_true rfl) dX6_aliases_7 (fun r2 => ?_)
  refine z_if_eq (pc := 10) hC 30 rfl dX6_aliases_10 ?_ ?_
  · refine z_iconst (pc := 30) hC (-1 : Int32) rfl dX6_aliases_30 ?_
    exact z_iret (pc := 31) hC rfl dX6_aliases_31
  · refine z_aload_n (pc := 13) hC 0 rfl 0 rfl dX6_aliases_13 ?_
    refine z_iload_n (pc := 14) hC 2 rfl 2 rfl dX6_aliases_14 ?_
    refine z_piV (pc := 15) (st := []) hC y_X6_isPlace q1496 [.inl (.int a2)] rfl (hk 34 rfl) rfl rfl (c_X6_isPlace hC.2.2.2.2.2.2.1 hk) rfl ⟨rfl, rfl, (Nat.le_of_ble_eq_true rfl), (Nat.le_of_ble_eq_true rfl)⟩ (Nat.le_of_ble_eq_true rfl) dX6_aliases_15 (fun r3 => ?_)
    refine z_if_eq (pc := 18) hC 30 rfl dX6_aliases_18 ?_ ?_
    · refine z_iconst (pc := 30) hC (-1 : Int32) rfl dX6_aliases_30 ?_
      exact z_iret (pc := 31) hC rfl dX6_aliases_31
    · refine z_aload_n (pc := 21) hC 0 rfl 0 rfl dX6_aliases_21 ?_
      refine z_iload_n (pc := 22) hC 1 rfl 1 rfl dX6_aliases_22 ?_
      refine z_iload_n (pc := 23) hC 2 rfl 2 rfl dX6_aliases_23 ?_
      refine z_piV (pc := 24) (st := []) hC y_X6_aliasesOf q1737 [.inl (.int a1), .inl (.int a2)] rfl (hk 34 rfl) rfl rfl (c_X6_aliasesOf hC.2.2.2.2.2.2.1 hk) rfl ⟨rfl, rfl, (Nat.le_of_ble_eq_true rfl), (Nat.le_of_ble_eq_true rfl)⟩ (Nat.le_of_ble_eq_true rfl) dX6_aliases_24 (fun r4 => ?_)
      refine z_goto (pc := 27) hC 31 rfl dX6_aliases_27 ?_
      exact z_iret (pc := 31) hC rfl dX6_aliases_31
theorem c_X6_aliases {G : Geo} {M : Mem} {k : Nat} (hG : GOk G) (hk : LMo G k) {d : Sl} {a1 : Int32} {a2 : Int32} (l : Launch) (r : Int32) (d1 : Sl) (h : Mo_aliases d a1 a2 = some (r, d1)) : Mt l yX6_aliases cX6_aliases 3 (some .int) rm_X6_aliases G [.inr (k, 34), .inl (.int a1), .inl (.int a2)] ((setS M k) d) (avI r) ((setS M k) d1) :=
  mt_of (mem := (setS M k)) (po := poM avI (setS M k)) (x0 := d) (t := (r, d1)) rfl hG [.inr (k, 34), .inl (.int a1), .inl (.int a2)] (Nat.le_of_ble_eq_true rfl) rfl (fun C hC => r_Mo_aliases hC hk d a1 a2) h
-- FrameHeirsModel.isBelow(II)Z
abbrev rm_X6_isBelow : Room := { frames := 2, cells := 0, slots := 0, locals := 42 }
theorem dX6_isBelow_0 : decode cX6_isBelow 0 = .ok (.aload_n 0, 1) := by decide +kernel
theorem dX6_isBelow_1 : decode cX6_isBelow 1 = .ok (.iload_n 1, 1) := by decide +kernel
theorem dX6_isBelow_2 : decode cX6_isBelow 2 = .ok (.invokevirtual 210, 3) := by decide +kernel
theorem dX6_isBelow_5 : decode cX6_isBelow 5 = .ok (.istore_n 3, 1) := by decide +kernel
theorem dX6_isBelow_6 : decode cX6_isBelow 6 = .ok (.iload_n 3, 1) := by decide +kernel
theorem dX6_isBelow_7 : decode cX6_isBelow 7 = .ok (.ifCond .lt 20, 3) := by decide +kernel
theorem dX6_isBelow_10 : decode cX6_isBelow 10 = .ok (.iload_n 3, 1) := by decide +kernel
theorem dX6_isBelow_11 : decode cX6_isBelow 11 = .ok (.bipush 32, 2) := by decide +kernel
theorem dX6_isBelow_13 : decode cX6_isBelow 13 = .ok (.idiv, 1) := by decide +kernel
theorem dX6_isBelow_14 : decode cX6_isBelow 14 = .ok (.iload_n 2, 1) := by decide +kernel
theorem dX6_isBelow_15 : decode cX6_isBelow 15 = .ok (.if_icmp .eq 12, 3) := by decide +kernel
theorem dX6_isBelow_18 : decode cX6_isBelow 18 = .ok (.aload_n 0, 1) := by decide +kernel
theorem dX6_isBelow_19 : decode cX6_isBelow 19 = .ok (.iload_n 3, 1) := by decide +kernel
theorem dX6_isBelow_20 : decode cX6_isBelow 20 = .ok (.invokevirtual 210, 3) := by decide +kernel
theorem dX6_isBelow_23 : decode cX6_isBelow 23 = .ok (.istore_n 3, 1) := by decide +kernel
theorem dX6_isBelow_24 : decode cX6_isBelow 24 = .ok (.goto (-18), 3) := by decide +kernel
theorem dX6_isBelow_27 : decode cX6_isBelow 27 = .ok (.iload_n 3, 1) := by decide +kernel
theorem dX6_isBelow_28 : decode cX6_isBelow 28 = .ok (.ifCond .lt 7, 3) := by decide +kernel
theorem dX6_isBelow_31 : decode cX6_isBelow 31 = .ok (.iconst 1, 1) := by decide +kernel
theorem dX6_isBelow_32 : decode cX6_isBelow 32 = .ok (.goto 4, 3) := by decide +kernel
theorem dX6_isBelow_35 : decode cX6_isBelow 35 = .ok (.iconst 0, 1) := by decide +kernel
theorem dX6_isBelow_36 : decode cX6_isBelow 36 = .ok (.ireturn, 1) := by decide +kernel
def Mo_isBelow_27 (d : Sl) (v3 : Int32) : Option Int32 :=
  if v3 < 0 then
    (some (0 : Int32))
  else
    (some (1 : Int32))
def Mo_isBelow_6 (d : Sl) : Nat → Int32 → Int32 → Option Int32
  | 0, _, _ => none
  | n + 1, v2, v3 =>
    if v3 < 0 then
      (Mo_isBelow_27 d v3)
    else
      (if ¬ (32 : Int32) = 0 then
      if (v3 / (32 : Int32)) = v2 then
        (Mo_isBelow_27 d v3)
      else
        (bp (Mo_giverOf d v3) fun r1 =>
        bnd r1 fun v3_2 =>
        Mo_isBelow_6 d n v2 v3_2)
      else none)
def Mo_isBelow (d : Sl) (a1 : Int32) (a2 : Int32) : Option Int32 :=
  bp (Mo_giverOf d a1) fun r3 =>
  bnd r3 fun v3_4 =>
  Mo_isBelow_6 d FU a2 v3_4
theorem y_X6_isBelow : YV yX6_isBelow cX6_isBelow 4 (some .boolean) 2 := ⟨q1836, q134, q1837, q149, by decide +kernel, by decide +kernel, by decide +kernel, by decide +kernel⟩
theorem r_Mo_isBelow_27 {C : Cxt} {G : Geo} {M : Mem} {k : Nat} {d : Sl} (hC : Cx C cX6_isBelow 4 "FrameHeirsModel" (some .boolean) rm_X6_isBelow G) (hk : LMo G k) (v3 : Int32) : Rz C 4 G (setS M k) (poP avI ((setS M k) d)) 27 [(3, .inl (.int v3))] [] d (Mo_isBelow_27 d v3) := by
  unfold Mo_isBelow_27
  refine z_iload_n (pc := 27) hC 3 rfl 0 rfl dX6_isBelow_27 ?_
  refine z_if_lt (pc := 28) hC 35 rfl dX6_isBelow_28 ?_ ?_
  · refine z_iconst (pc := 35) hC (0 : Int32) rfl dX6_isBelow_35 ?_
    exact z_zret (pc := 36) hC rfl rfl dX6_isBelow_36
  · refine z_iconst (pc := 31) hC (1 : Int32) rfl dX6_isBelow_31 ?_
    refine z_goto (pc := 32) hC 36 rfl dX6_isBelow_32 ?_
    exact z_zret (pc := 36) hC rfl rfl dX6_isBelow_36
theorem r_Mo_isBelow_6 {C : Cxt} {G : Geo} {M : Mem} {k : Nat} {d : Sl} (hC : Cx C cX6_isBelow 4 "FrameHeirsModel" (some .boolean) rm_X6_isBelow G) (hk : LMo G k) : ∀ (n : Nat) (v2 : Int32) (v3 : Int32), Rz C 4 G (setS M k) (poP avI ((setS M k) d)) 6 [(0, .inr (k, 34)), (2, .inl (.int v2)), (3, .inl (.int v3))] [] d (Mo_isBelow_6 d n v2 v3) := by
  intro n
  induction n with
  | zero => intros; exact z_none
  | succ n ih =>
    intro v2 v3
    rw [Mo_isBelow_6]
    refine z_iload_n (pc := 6) hC 3 rfl 2 rfl dX6_isBelow_6 ?_
    refine z_if_lt (pc := 7) hC 27 rfl dX6_isBelow_7 ?_ ?_
    · exact z_sub [2] rfl (r_Mo_isBelow_27 hC hk v3)
    · refine z_iload_n (pc := 10) hC 3 rfl 2 rfl dX6_isBelow_10 ?_
      refine z_bipush (pc := 11) hC (32 : Int32) rfl dX6_isBelow_11 ?_
      refine z_idiv (pc := 13) hC dX6_isBelow_13 ?_
      refine z_iload_n (pc := 14) hC 2 rfl 1 rfl dX6_isBelow_14 ?_
      refine z_icmp_eq (pc := 15) hC 27 rfl dX6_isBelow_15 ?_ ?_
      · exact z_sub [2] rfl (r_Mo_isBelow_27 hC hk v3)
      · refine z_aload_n (pc := 18) hC 0 rfl 0 rfl dX6_isBelow_18 ?_
        refine z_iload_n (pc := 19) hC 3 rfl 2 rfl dX6_isBelow_19 ?_
        refine z_piV (pc := 20) (st := []) hC y_X6_giverOf q1532 [.inl (.int v3)] rfl (hk 34 rfl) rfl rfl (c_X6_giverOf hC.2.2.2.2.2.2.1 hk) rfl ⟨rfl, rfl, (Nat.le_of_ble_eq_true rfl), (Nat.le_of_ble_eq_true rfl)⟩ (Nat.le_of_ble_eq_true rfl) dX6_isBelow_20 (fun r1 => ?_)
        refine z_istore_n (pc := 23) (ls1 := fun v => [(3, .inl (.int v)), (0, .inr (k, 34)), (2, .inl (.int v2))]) hC 3 rfl (by decide) (fun v => rfl) dX6_isBelow_23 (fun v3_2 => ?_)
        refine z_goto (pc := 24) hC 6 rfl dX6_isBelow_24 ?_
        exact z_sub [1, 2, 0] rfl (ih v2 v3_2)
theorem r_Mo_isBelow {C : Cxt} {G : Geo} {M : Mem} {k : Nat} (hC : Cx C cX6_isBelow 4 "FrameHeirsModel" (some .boolean) rm_X6_isBelow G) (hk : LMo G k) (d : Sl) (a1 : Int32) (a2 : Int32) : Rz C 4 G (setS M k) (poP avI ((setS M k) d)) 0 [(0, .inr (k, 34)), (1, .inl (.int a1)), (2, .inl (.int a2))] [] d (Mo_isBelow d a1 a2) := by
  unfold Mo_isBelow
  refine z_aload_n (pc := 0) hC 0 rfl 0 rfl dX6_isBelow_0 ?_
  refine z_iload_n (pc := 1) hC 1 rfl 1 rfl dX6_isBelow_1 ?_
  refine z_piV (pc := 2) (st := []) hC y_X6_giverOf q1532 [.inl (.int a1)] rfl (hk 34 rfl) rfl rfl (c_X6_giverOf hC.2.2.2.2.2.2.1 hk) rfl ⟨rfl, rfl, (Nat.le_of_ble_eq_true rfl), (Nat.le_of_ble_eq_true rfl)⟩ (Nat.le_of_ble_eq_true rfl) dX6_isBelow_2 (fun r3 => ?_)
  refine z_istore_n (pc := 5) (ls1 := fun v => [(3, .inl (.int v)), (0, .inr (k, 34)), (1, .inl (.int a1)), (2, .inl (.int a2))]) hC 3 rfl (by decide) (fun v => rfl) dX6_isBelow_5 (fun v3_4 => ?_)
  exact z_sub [1, 3, 0] rfl (r_Mo_isBelow_6 hC hk FU a2 v3_4)
theorem c_X6_isBelow {G : Geo} {M : Mem} {k : Nat} (hG : GOk G) (hk : LMo G k) {d : Sl} {a1 : Int32} {a2 : Int32} (l : Launch) (r : Int32) (h : Mo_isBelow d a1 a2 = some r) : Mt l yX6_isBelow cX6_isBelow 4 (some .boolean) rm_X6_isBelow G [.inr (k, 34), .inl (.int a1), .inl (.int a2)] ((setS M k) d) (avI r) ((setS M k) d) :=
  mt_of (mem := (setS M k)) (po := poP avI ((setS M k) d)) (x0 := d) (t := r) rfl hG [.inr (k, 34), .inl (.int a1), .inl (.int a2)] (Nat.le_of_ble_eq_true rfl) rfl (fun C hC => r_Mo_isBelow hC hk d a1 a2) h
-- FrameHeirsModel.reach(II)I
abbrev rm_X6_reach : Room := { frames := 3, cells := 0, slots := 0, locals := 65 }
theorem dX6_reach_0 : decode cX6_reach 0 = .ok (.aload_n 0, 1) := by decide +kernel
theorem dX6_reach_1 : decode cX6_reach 1 = .ok (.iconst 0, 1) := by decide +kernel
theorem dX6_reach_2 : decode cX6_reach 2 = .ok (.putfield 61, 3) := by decide +kernel
theorem dX6_reach_5 : decode cX6_reach 5 = .ok (.aload_n 0, 1) := by decide +kernel
theorem dX6_reach_6 : decode cX6_reach 6 = .ok (.iload_n 1, 1) := by decide +kernel
theorem dX6_reach_7 : decode cX6_reach 7 = .ok (.invokevirtual 264, 3) := by decide +kernel
theorem dX6_reach_10 : decode cX6_reach 10 = .ok (.ifCond .eq 11, 3) := by decide +kernel
theorem dX6_reach_13 : decode cX6_reach 13 = .ok (.aload_n 0, 1) := by decide +kernel
theorem dX6_reach_14 : decode cX6_reach 14 = .ok (.iload_n 2, 1) := by decide +kernel
theorem dX6_reach_15 : decode cX6_reach 15 = .ok (.invokevirtual 264, 3) := by decide +kernel
theorem dX6_reach_18 : decode cX6_reach 18 = .ok (.ifCond .ne 5, 3) := by decide +kernel
theorem dX6_reach_21 : decode cX6_reach 21 = .ok (.iconst (-1), 1) := by decide +kernel
theorem dX6_reach_22 : decode cX6_reach 22 = .ok (.ireturn, 1) := by decide +kernel
theorem dX6_reach_23 : decode cX6_reach 23 = .ok (.iconst 0, 1) := by decide +kernel
theorem dX6_reach_24 : decode cX6_reach 24 = .ok (.istore_n 3, 1) := by decide +kernel
theorem dX6_reach_25 : decode cX6_reach 25 = .ok (.bipush 32, 2) := by decide +kernel
theorem dX6_reach_27 : decode cX6_reach 27 = .ok (.iload_n 2, 1) := by decide +kernel
theorem dX6_reach_28 : decode cX6_reach 28 = .ok (.imul, 1) := by decide +kernel
theorem dX6_reach_29 : decode cX6_reach 29 = .ok (.istore 4, 2) := by decide +kernel
theorem dX6_reach_31 : decode cX6_reach 31 = .ok (.iload 4, 2) := by decide +kernel
theorem dX6_reach_33 : decode cX6_reach 33 = .ok (.bipush 32, 2) := by decide +kernel
theorem dX6_reach_35 : decode cX6_reach 35 = .ok (.iload_n 2, 1) := by decide +kernel
theorem dX6_reach_36 : decode cX6_reach 36 = .ok (.imul, 1) := by decide +kernel
theorem dX6_reach_37 : decode cX6_reach 37 = .ok (.bipush 32, 2) := by decide +kernel
theorem dX6_reach_39 : decode cX6_reach 39 = .ok (.iadd, 1) := by decide +kernel
theorem dX6_reach_40 : decode cX6_reach 40 = .ok (.if_icmp .ge 41, 3) := by decide +kernel
theorem dX6_reach_43 : decode cX6_reach 43 = .ok (.iload_n 3, 1) := by decide +kernel
theorem dX6_reach_44 : decode cX6_reach 44 = .ok (.aload_n 0, 1) := by decide +kernel
theorem dX6_reach_45 : decode cX6_reach 45 = .ok (.iload 4, 2) := by decide +kernel
theorem dX6_reach_47 : decode cX6_reach 47 = .ok (.invokevirtual 216, 3) := by decide +kernel
theorem dX6_reach_50 : decode cX6_reach 50 = .ok (.ifCond .eq 22, 3) := by decide +kernel
theorem dX6_reach_53 : decode cX6_reach 53 = .ok (.aload_n 0, 1) := by decide +kernel
theorem dX6_reach_54 : decode cX6_reach 54 = .ok (.iload 4, 2) := by decide +kernel
theorem dX6_reach_56 : decode cX6_reach 56 = .ok (.iload_n 1, 1) := by decide +kernel
theorem dX6_reach_57 : decode cX6_reach 57 = .ok (.invokevirtual 448, 3) := by decide +kernel
theorem dX6_reach_60 : decode cX6_reach 60 = .ok (.ifCond .eq 12, 3) := by decide +kernel
theorem dX6_reach_63 : decode cX6_reach 63 = .ok (.aload_n 0, 1) := by decide +kernel
theorem dX6_reach_64 : decode cX6_reach 64 = .ok (.iload 4, 2) := by decide +kernel
theorem dX6_reach_66 : decode cX6_reach 66 = .ok (.invokevirtual 258, 3) := by decide +kernel
theorem dX6_reach_69 : decode cX6_reach 69 = .ok (.goto 4, 3) := by decide +kernel
theorem dX6_reach_72 : decode cX6_reach 72 = .ok (.iconst 0, 1) := by decide +kernel
theorem dX6_reach_73 : decode cX6_reach 73 = .ok (.iadd, 1) := by decide +kernel
theorem dX6_reach_74 : decode cX6_reach 74 = .ok (.istore_n 3, 1) := by decide +kernel
theorem dX6_reach_75 : decode cX6_reach 75 = .ok (.iinc 4 1, 3) := by decide +kernel
theorem dX6_reach_78 : decode cX6_reach 78 = .ok (.goto (-47), 3) := by decide +kernel
theorem dX6_reach_81 : decode cX6_reach 81 = .ok (.iload_n 3, 1) := by decide +kernel
theorem dX6_reach_82 : decode cX6_reach 82 = .ok (.ireturn, 1) := by decide +kernel
def Mo_reach_73 (k31 : Int32 → Int32 → Int32 → Int32 → Sl → Option (Int32 × Sl)) (v1 : Int32) (v2 : Int32) (v4 : Int32) (s0 : Int32) (s1 : Int32) (d : Sl) : Option (Int32 × Sl) :=
  bnd (s1 + s0) fun v3_1 =>
  bnd (v4 + (1 : Int32)) fun v4_2 =>
  k31 v1 v2 v3_1 v4_2 d
def Mo_reach_72 (k31 : Int32 → Int32 → Int32 → Int32 → Sl → Option (Int32 × Sl)) (v1 : Int32) (v2 : Int32) (v4 : Int32) (s0 : Int32) (d : Sl) : Option (Int32 × Sl) :=
  Mo_reach_73 k31 v1 v2 v4 (0 : Int32) s0 d
def Mo_reach_31 : Nat → Int32 → Int32 → Int32 → Int32 → Sl → Option (Int32 × Sl)
  | 0, _, _, _, _, _ => none
  | n + 1, v1, v2, v3, v4, d =>
    if (((32 : Int32) * v2) + (32 : Int32)) ≤ v4 then
      (some (v3, d))
    else
      (bp (Mo_isDeed d v4) fun r3 =>
      if r3 = 0 then
        (Mo_reach_72 (Mo_reach_31 n) v1 v2 v4 v3 d)
      else
        (bp (Mo_isBelow d v4 v1) fun r4 =>
        if r4 = 0 then
          (Mo_reach_72 (Mo_reach_31 n) v1 v2 v4 v3 d)
        else
          (bp (Mo_pagesOf d v4) fun r5 =>
          Mo_reach_73 (Mo_reach_31 n) v1 v2 v4 r5 v3 d)))
def Mo_reach (d : Sl) (a1 : Int32) (a2 : Int32) : Option (Int32 × Sl) :=
  bnd (wr d 34 2 (0 : Int32)) fun d6 =>
  bp (Mo_isSpace d6 a1) fun r7 =>
  if r7 = 0 then
    (some ((-1 : Int32), d6))
  else
    (bp (Mo_isSpace d6 a2) fun r8 =>
    if r8 = 0 then
      (some ((-1 : Int32), d6))
    else
      (bnd (0 : Int32) fun v3_9 =>
      bnd ((32 : Int32) * a2) fun v4_10 =>
      Mo_reach_31 FU a1 a2 v3_9 v4_10 d6))
theorem y_X6_reach : YV yX6_reach cX6_reach 5 (some .int) 2 := ⟨q1831, q1832, q1833, q149, by decide +kernel, by decide +kernel, by decide +kernel, by decide +kernel⟩
theorem r_Mo_reach_73 {C : Cxt} {G : Geo} {M : Mem} {k : Nat} (hC : Cx C cX6_reach 5 "FrameHeirsModel" (some .int) rm_X6_reach G) (hk : LMo G k) (k31 : Int32 → Int32 → Int32 → Int32 → Sl → Option (Int32 × Sl)) (h31 : ∀ (v1 : Int32) (v2 : Int32) (v3 : Int32) (v4 : Int32) (d : Sl), Rz C 5 G (setS M k) (poM avI (setS M k)) 31 [(0, .inr (k, 34)), (1, .inl (.int v1)), (2, .inl (.int v2)), (3, .inl (.int v3)), (4, .inl (.int v4))] [] d (k31 v1 v2 v3 v4 d)) (v1 : Int32) (v2 : Int32) (v4 : Int32) (s0 : Int32) (s1 : Int32) (d : Sl) : Rz C 5 G (setS M k) (poM avI (setS M k)) 73 [(0, .inr (k, 34)), (1, .inl (.int v1)), (2, .inl (.int v2)), (4, .inl (.int v4))] [.inl (.int s0), .inl (.int s1)] d (Mo_reach_73 k31 v1 v2 v4 s0 s1 d) := by
  unfold Mo_reach_73
  refine z_iadd (pc := 73) hC dX6_reach_73 ?_
  refine z_istore_n (pc := 74) (ls1 := fun v => [(3, .inl (.int v)), (0, .inr (k, 34)), (1, .inl (.int v1)), (2, .inl (.int v2)), (4, .inl (.int v4))]) hC 3 rfl (by decide) (fun v => rfl) dX6_reach_74 (fun v3_1 => ?_)
  refine z_iinc (pc := 75) (ls1 := fun v => [(4, .inl (.int v)), (3, .inl (.int v3_1)), (0, .inr (k, 34)), (1, .inl (.int v1)), (2, .inl (.int v2))]) hC 4 4 (by decide) (1 : Int32) rfl rfl (fun v => rfl) dX6_reach_75 (fun v4_2 => ?_)
  refine z_goto (pc := 78) hC 31 rfl dX6_reach_78 ?_
  exact z_sub [2, 3, 4, 1, 0] rfl (h31 v1 v2 v3_1 v4_2 d)
theorem r_Mo_reach_72 {C : Cxt} {G : Geo} {M : Mem} {k : Nat} (hC : Cx C cX6_reach 5 "FrameHeirsModel" (some .int) rm_X6_reach G) (hk : LMo G k) (k31 : Int32 → Int32 → Int32 → Int32 → Sl → Option (Int32 × Sl)) (h31 : ∀ (v1 : Int32) (v2 : Int32) (v3 : Int32) (v4 : Int32) (d : Sl), Rz C 5 G (setS M k) (poM avI (setS M k)) 31 [(0, .inr (k, 34)), (1, .inl (.int v1)), (2, .inl (.int v2)), (3, .inl (.int v3)), (4, .inl (.int v4))] [] d (k31 v1 v2 v3 v4 d)) (v1 : Int32) (v2 : Int32) (v4 : Int32) (s0 : Int32) (d : Sl) : Rz C 5 G (setS M k) (poM avI (setS M k)) 72 [(0, .inr (k, 34)), (1, .inl (.int v1)), (2, .inl (.int v2)), (4, .inl (.int v4))] [.inl (.int s0)] d (Mo_reach_72 k31 v1 v2 v4 s0 d) := by
  unfold Mo_reach_72
  refine z_iconst (pc := 72) hC (0 : Int32) rfl dX6_reach_72 ?_
  exact z_sub [0, 1, 2, 3] rfl (r_Mo_reach_73 hC hk k31 h31 v1 v2 v4 (0 : Int32) s0 d)
theorem r_Mo_reach_31 {C : Cxt} {G : Geo} {M : Mem} {k : Nat} (hC : Cx C cX6_reach 5 "FrameHeirsModel" (some .int) rm_X6_reach G) (hk : LMo G k) : ∀ (n : Nat) (v1 : Int32) (v2 : Int32) (v3 : Int32) (v4 : Int32) (d : Sl), Rz C 5 G (setS M k) (poM avI (setS M k)) 31 [(0, .inr (k, 34)), (1, .inl (.int v1)), (2, .inl (.int v2)), (3, .inl (.int v3)), (4, .inl (.int v4))] [] d (Mo_reach_31 n v1 v2 v3 v4 d) := by
  intro n
  induction n with
  | zero => intros; exact z_none
  | succ n ih =>
    intro v1 v2 v3 v4 d
    rw [Mo_reach_31]
    refine z_iload (pc := 31) hC 4 4 rfl dX6_reach_31 ?_
    refine z_bipush (pc := 33) hC (32 : Int32) rfl dX6_reach_33 ?_
    refine z_iload_n (pc := 35) hC 2 rfl 2 rfl dX6_reach_35 ?_
    refine z_imul (pc := 36) hC dX6_reach_36 ?_
    refine z_bipush (pc := 37) hC (32 : Int32) rfl dX6_reach_37 ?_
    refine z_iadd (pc := 39) hC dX6_reach_39 ?_
    refine z_icmp_ge (pc := 40) hC 81 rfl dX6_reach_40 ?_ ?_
    · refine z_iload_n (pc := 81) hC 3 rfl 3 rfl dX6_reach_81 ?_
      exact z_iret (pc := 82) hC rfl dX6_reach_82
    · refine z_iload_n (pc := 43) hC 3 rfl 3 rfl dX6_reach_43 ?_
      refine z_aload_n (pc := 44) hC 0 rfl 0 rfl dX6_reach_44 ?_
      refine z_iload (pc := 45) hC 4 4 rfl dX6_reach_45 ?_
      refine z_piV (pc := 47) (st := [.inl (.int v3)]) hC y_X6_isDeed q1520 [.inl (.int v4)] rfl (hk 34 rfl) rfl rfl (c_X6_isDeed hC.2.2.2.2.2.2.1 hk) rfl ⟨rfl, rfl, (Nat.le_of_ble_eq_true rfl), (Nat.le_of_ble_eq_true rfl)⟩ (Nat.le_of_ble_eq_true rfl) dX6_reach_47 (fun r3 => ?_)
      refine z_if_eq (pc := 50) hC 72 rfl dX6_reach_50 ?_ ?_
      · exact z_sub [0, 1, 2, 4] rfl (r_Mo_reach_72 hC hk _ ih v1 v2 v4 v3 d)
      · refine z_aload_n (pc := 53) hC 0 rfl 0 rfl dX6_reach_53 ?_
        refine z_iload (pc := 54) hC 4 4 rfl dX6_reach_54 ?_
        refine z_iload_n (pc := 56) hC 1 rfl 1 rfl dX6_reach_56 ?_
        refine z_piV (pc := 57) (st := [.inl (.int v3)]) hC y_X6_isBelow q1834 [.inl (.int v4), .inl (.int v1)] rfl (hk 34 rfl) rfl rfl (c_X6_isBelow hC.2.2.2.2.2.2.1 hk) rfl ⟨rfl, rfl, (Nat.le_of_ble_eq_true rfl), (Nat.le_of_ble_eq_true rfl)⟩ (Nat.le_of_ble_eq_true rfl) dX6_reach_57 (fun r4 => ?_)
        refine z_if_eq (pc := 60) hC 72 rfl dX6_reach_60 ?_ ?_
        · exact z_sub [0, 1, 2, 4] rfl (r_Mo_reach_72 hC hk _ ih v1 v2 v4 v3 d)
        · refine z_aload_n (pc := 63) hC 0 rfl 0 rfl dX6_reach_63 ?_
          refine z_iload (pc := 64) hC 4 4 rfl dX6_reach_64 ?_
          refine z_piV (pc := 66) (st := [.inl (.int v3)]) hC y_X6_pagesOf q1540 [.inl (.int v4)] rfl (hk 34 rfl) rfl rfl (c_X6_pagesOf hC.2.2.2.2.2.2.1 hk) rfl ⟨rfl, rfl, (Nat.le_of_ble_eq_true rfl), (Nat.le_of_ble_eq_true rfl)⟩ (Nat.le_of_ble_eq_true rfl) dX6_reach_66 (fun r5 => ?_)
          refine z_goto (pc := 69) hC 73 rfl dX6_reach_69 ?_
          exact z_sub [0, 1, 2, 4] rfl (r_Mo_reach_73 hC hk _ ih v1 v2 v4 r5 v3 d)
theorem r_Mo_reach {C : Cxt} {G : Geo} {M : Mem} {k : Nat} (hC : Cx C cX6_reach 5 "FrameHeirsModel" (some .int) rm_X6_reach G) (hk : LMo G k) (d : Sl) (a1 : Int32) (a2 : Int32) : Rz C 5 G (setS M k) (poM avI (setS M k)) 0 [(0, .inr (k, 34)), (1, .inl (.int a1)), (2, .inl (.int a2))] [] d (Mo_reach d a1 a2) := by
  unfold Mo_reach
  refine z_aload_n (pc := 0) hC 0 rfl 0 rfl dX6_reach_0 ?_
  refine z_iconst (pc := 1) hC (0 : Int32) rfl dX6_reach_1 ?_
  refine zs_puti (pc := 2) hC (hk 34 rfl) f_34_2 q1272 dX6_reach_2 (fun d6 => ?_)
  refine z_aload_n (pc := 5) hC 0 rfl 0 rfl dX6_reach_5 ?_
  refine z_iload_n (pc := 6) hC 1 rfl 1 rfl dX6_reach_6 ?_
  refine z_piV (pc := 7) (st := []) hC y_X6_isSpace q1484 [.inl (.int a1)] rfl (hk 34 rfl) rfl rfl (c_X6_isSpace hC.2.2.2.2.2.2.1 hk) rfl ⟨rfl, rfl, (Nat.le_of_ble_eq_true rfl), (Nat.le_of_ble_eq_true rfl)⟩ (Nat.le_of_ble_eq_true rfl) dX6_reach_7 (fun r7 => ?_)
  refine z_if_eq (pc := 10) hC 21 rfl dX6_reach_10 ?_ ?_
  · refine z_iconst (pc := 21) hC (-1 : Int32) rfl dX6_reach_21 ?_
    exact z_iret (pc := 22) hC rfl dX6_reach_22
  · refine z_aload_n (pc := 13) hC 0 rfl 0 rfl dX6_reach_13 ?_
    refine z_iload_n (pc := 14) hC 2 rfl 2 rfl dX6_reach_14 ?_
    refine z_piV (pc := 15) (st := []) hC y_X6_isSpace q1484 [.inl (.int a2)] rfl (hk 34 rfl) rfl rfl (c_X6_isSpace hC.2.2.2.2.2.2.1 hk) rfl ⟨rfl, rfl, (Nat.le_of_ble_eq_true rfl), (Nat.le_of_ble_eq_true rfl)⟩ (Nat.le_of_ble_eq_true rfl) dX6_reach_15 (fun r8 => ?_)
    refine z_if_ne (pc := 18) hC 23 rfl dX6_reach_18 ?_ ?_
    · refine z_iconst (pc := 23) hC (0 : Int32) rfl dX6_reach_23 ?_
      refine z_istore_n (pc := 24) (ls1 := fun v => [(3, .inl (.int v)), (0, .inr (k, 34)), (1, .inl (.int a1)), (2, .inl (.int a2))]) hC 3 rfl (by decide) (fun v => rfl) dX6_reach_24 (fun v3_9 => ?_)
      refine z_bipush (pc := 25) hC (32 : Int32) rfl dX6_reach_25 ?_
      refine z_iload_n (pc := 27) hC 2 rfl 3 rfl dX6_reach_27 ?_
      refine z_imul (pc := 28) hC dX6_reach_28 ?_
      refine z_istore (pc := 29) (ls1 := fun v => [(4, .inl (.int v)), (3, .inl (.int v3_9)), (0, .inr (k, 34)), (1, .inl (.int a1)), (2, .inl (.int a2))]) hC 4 (by decide) (fun v => rfl) dX6_reach_29 (fun v4_10 => ?_)
      exact z_sub [2, 3, 4, 1, 0] rfl (r_Mo_reach_31 hC hk FU a1 a2 v3_9 v4_10 d6)
    · refine z_iconst (pc := 21) hC (-1 : Int32) rfl dX6_reach_21 ?_
      exact z_iret (pc := 22) hC rfl dX6_reach_22
theorem c_X6_reach {G : Geo} {M : Mem} {k : Nat} (hG : GOk G) (hk : LMo G k) {d : Sl} {a1 : Int32} {a2 : Int32} (l : Launch) (r : Int32) (d1 : Sl) (h : Mo_reach d a1 a2 = some (r, d1)) : Mt l yX6_reach cX6_reach 5 (some .int) rm_X6_reach G [.inr (k, 34), .inl (.int a1), .inl (.int a2)] ((setS M k) d) (avI r) ((setS M k) d1) :=
  mt_of (mem := (setS M k)) (po := poM avI (setS M k)) (x0 := d) (t := (r, d1)) rfl hG [.inr (k, 34), .inl (.int a1), .inl (.int a2)] (Nat.le_of_ble_eq_true rfl) rfl (fun C hC => r_Mo_reach hC hk d a1 a2) h
-- FrameHeirsModel.shared(II)I
abbrev rm_X6_shared : Room := { frames := 4, cells := 0, slots := 0, locals := 92 }
theorem dX6_shared_0 : decode cX6_shared 0 = .ok (.aload_n 0, 1) := by decide +kernel
theorem dX6_shared_1 : decode cX6_shared 1 = .ok (.iconst 0, 1) := by decide +kernel
theorem dX6_shared_2 : decode cX6_shared 2 = .ok (.putfield 61, 3) := by decide +kernel
theorem dX6_shared_5 : decode cX6_shared 5 = .ok (.aload_n 0, 1) := by decide +kernel
theorem dX6_shared_6 : decode cX6_shared 6 = .ok (.iload_n 1, 1) := by decide +kernel
theorem dX6_shared_7 : decode cX6_shared 7 = .ok (.invokevirtual 264, 3) := by decide +kernel
theorem dX6_shared_10 : decode cX6_shared 10 = .ok (.ifCond .eq 11, 3) := by decide +kernel
theorem dX6_shared_13 : decode cX6_shared 13 = .ok (.aload_n 0, 1) := by decide +kernel
theorem dX6_shared_14 : decode cX6_shared 14 = .ok (.iload_n 2, 1) := by decide +kernel
theorem dX6_shared_15 : decode cX6_shared 15 = .ok (.invokevirtual 264, 3) := by decide +kernel
theorem dX6_shared_18 : decode cX6_shared 18 = .ok (.ifCond .ne 5, 3) := by decide +kernel
theorem dX6_shared_21 : decode cX6_shared 21 = .ok (.iconst (-1), 1) := by decide +kernel
theorem dX6_shared_22 : decode cX6_shared 22 = .ok (.ireturn, 1) := by decide +kernel
theorem dX6_shared_23 : decode cX6_shared 23 = .ok (.iconst 0, 1) := by decide +kernel
theorem dX6_shared_24 : decode cX6_shared 24 = .ok (.istore_n 3, 1) := by decide +kernel
theorem dX6_shared_25 : decode cX6_shared 25 = .ok (.iconst 0, 1) := by decide +kernel
theorem dX6_shared_26 : decode cX6_shared 26 = .ok (.istore 4, 2) := by decide +kernel
theorem dX6_shared_28 : decode cX6_shared 28 = .ok (.iload 4, 2) := by decide +kernel
theorem dX6_shared_30 : decode cX6_shared 30 = .ok (.aload_n 0, 1) := by decide +kernel
theorem dX6_shared_31 : decode cX6_shared 31 = .ok (.invokevirtual 126, 3) := by decide +kernel
theorem dX6_shared_34 : decode cX6_shared 34 = .ok (.if_icmp .ge 37, 3) := by decide +kernel
theorem dX6_shared_37 : decode cX6_shared 37 = .ok (.iload_n 3, 1) := by decide +kernel
theorem dX6_shared_38 : decode cX6_shared 38 = .ok (.aload_n 0, 1) := by decide +kernel
theorem dX6_shared_39 : decode cX6_shared 39 = .ok (.iload_n 1, 1) := by decide +kernel
theorem dX6_shared_40 : decode cX6_shared 40 = .ok (.iload 4, 2) := by decide +kernel
theorem dX6_shared_42 : decode cX6_shared 42 = .ok (.invokevirtual 395, 3) := by decide +kernel
theorem dX6_shared_45 : decode cX6_shared 45 = .ok (.ifCond .le 17, 3) := by decide +kernel
theorem dX6_shared_48 : decode cX6_shared 48 = .ok (.aload_n 0, 1) := by decide +kernel
theorem dX6_shared_49 : decode cX6_shared 49 = .ok (.iload_n 2, 1) := by decide +kernel
theorem dX6_shared_50 : decode cX6_shared 50 = .ok (.iload 4, 2) := by decide +kernel
theorem dX6_shared_52 : decode cX6_shared 52 = .ok (.invokevirtual 395, 3) := by decide +kernel
theorem dX6_shared_55 : decode cX6_shared 55 = .ok (.ifCond .le 7, 3) := by decide +kernel
theorem dX6_shared_58 : decode cX6_shared 58 = .ok (.iconst 1, 1) := by decide +kernel
theorem dX6_shared_59 : decode cX6_shared 59 = .ok (.goto 4, 3) := by decide +kernel
theorem dX6_shared_62 : decode cX6_shared 62 = .ok (.iconst 0, 1) := by decide +kernel
theorem dX6_shared_63 : decode cX6_shared 63 = .ok (.iadd, 1) := by decide +kernel
theorem dX6_shared_64 : decode cX6_shared 64 = .ok (.istore_n 3, 1) := by decide +kernel
theorem dX6_shared_65 : decode cX6_shared 65 = .ok (.iinc 4 1, 3) := by decide +kernel
theorem dX6_shared_68 : decode cX6_shared 68 = .ok (.goto (-40), 3) := by decide +kernel
theorem dX6_shared_71 : decode cX6_shared 71 = .ok (.iload_n 3, 1) := by decide +kernel
theorem dX6_shared_72 : decode cX6_shared 72 = .ok (.ireturn, 1) := by decide +kernel
def Mo_shared_63 (k28 : Int32 → Int32 → Int32 → Int32 → Sl → Option (Int32 × Sl)) (v1 : Int32) (v2 : Int32) (v4 : Int32) (s0 : Int32) (s1 : Int32) (d : Sl) : Option (Int32 × Sl) :=
  bnd (s1 + s0) fun v3_1 =>
  bnd (v4 + (1 : Int32)) fun v4_2 =>
  k28 v1 v2 v3_1 v4_2 d
def Mo_shared_62 (k28 : Int32 → Int32 → Int32 → Int32 → Sl → Option (Int32 × Sl)) (v1 : Int32) (v2 : Int32) (v4 : Int32) (s0 : Int32) (d : Sl) : Option (Int32 × Sl) :=
  Mo_shared_63 k28 v1 v2 v4 (0 : Int32) s0 d
def Mo_shared_28 : Nat → Int32 → Int32 → Int32 → Int32 → Sl → Option (Int32 × Sl)
  | 0, _, _, _, _, _ => none
  | n + 1, v1, v2, v3, v4, d =>
    bp (Mo_size d) fun r3 =>
    if r3 ≤ v4 then
      (some (v3, d))
    else
      (bp (Mo_aliasesOf d v1 v4) fun r4 =>
      if r4 ≤ 0 then
        (Mo_shared_62 (Mo_shared_28 n) v1 v2 v4 v3 d)
      else
        (bp (Mo_aliasesOf d v2 v4) fun r5 =>
        if r5 ≤ 0 then
          (Mo_shared_62 (Mo_shared_28 n) v1 v2 v4 v3 d)
        else
          (Mo_shared_63 (Mo_shared_28 n) v1 v2 v4 (1 : Int32) v3 d)))
def Mo_shared (d : Sl) (a1 : Int32) (a2 : Int32) : Option (Int32 × Sl) :=
  bnd (wr d 34 2 (0 : Int32)) fun d6 =>
  bp (Mo_isSpace d6 a1) fun r7 =>
  if r7 = 0 then
    (some ((-1 : Int32), d6))
  else
    (bp (Mo_isSpace d6 a2) fun r8 =>
    if r8 = 0 then
      (some ((-1 : Int32), d6))
    else
      (bnd (0 : Int32) fun v3_9 =>
      bnd (0 : Int32) fun v4_10 =>
      Mo_shared_28 FU a1 a2 v3_9 v4_10 d6))
theorem y_X6_shared : YV yX6_shared cX6_shared 5 (some .int) 2 := ⟨q1839, q1840, q1841, q149, by decide +kernel, by decide +kernel, by decide +kernel, by decide +kernel⟩
theorem r_Mo_shared_63 {C : Cxt} {G : Geo} {M : Mem} {k : Nat} (hC : Cx C cX6_shared 5 "FrameHeirsModel" (some .int) rm_X6_shared G) (hk : LMo G k) (k28 : Int32 → Int32 → Int32 → Int32 → Sl → Option (Int32 × Sl)) (h28 : ∀ (v1 : Int32) (v2 : Int32) (v3 : Int32) (v4 : Int32) (d : Sl), Rz C 5 G (setS M k) (poM avI (setS M k)) 28 [(0, .inr (k, 34)), (1, .inl (.int v1)), (2, .inl (.int v2)), (3, .inl (.int v3)), (4, .inl (.int v4))] [] d (k28 v1 v2 v3 v4 d)) (v1 : Int32) (v2 : Int32) (v4 : Int32) (s0 : Int32) (s1 : Int32) (d : Sl) : Rz C 5 G (setS M k) (poM avI (setS M k)) 63 [(0, .inr (k, 34)), (1, .inl (.int v1)), (2, .inl (.int v2)), (4, .inl (.int v4))] [.inl (.int s0), .inl (.int s1)] d (Mo_shared_63 k28 v1 v2 v4 s0 s1 d) := by
  unfold Mo_shared_63
  refine z_iadd (pc := 63) hC dX6_shared_63 ?_
  refine z_istore_n (pc := 64) (ls1 := fun v => [(3, .inl (.int v)), (0, .inr (k, 34)), (1, .inl (.int v1)), (2, .inl (.int v2)), (4, .inl (.int v4))]) hC 3 rfl (by decide) (fun v => rfl) dX6_shared_64 (fun v3_1 => ?_)
  refine z_iinc (pc := 65) (ls1 := fun v => [(4, .inl (.int v)), (3, .inl (.int v3_1)), (0, .inr (k, 34)), (1, .inl (.int v1)), (2, .inl (.int v2))]) hC 4 4 (by decide) (1 : Int32) rfl rfl (fun v => rfl) dX6_shared_65 (fun v4_2 => ?_)
  refine z_goto (pc := 68) hC 28 rfl dX6_shared_68 ?_
  exact z_sub [2, 3, 4, 1, 0] rfl (h28 v1 v2 v3_1 v4_2 d)
theorem r_Mo_shared_62 {C : Cxt} {G : Geo} {M : Mem} {k : Nat} (hC : Cx C cX6_shared 5 "FrameHeirsModel" (some .int) rm_X6_shared G) (hk : LMo G k) (k28 : Int32 → Int32 → Int32 → Int32 → Sl → Option (Int32 × Sl)) (h28 : ∀ (v1 : Int32) (v2 : Int32) (v3 : Int32) (v4 : Int32) (d : Sl), Rz C 5 G (setS M k) (poM avI (setS M k)) 28 [(0, .inr (k, 34)), (1, .inl (.int v1)), (2, .inl (.int v2)), (3, .inl (.int v3)), (4, .inl (.int v4))] [] d (k28 v1 v2 v3 v4 d)) (v1 : Int32) (v2 : Int32) (v4 : Int32) (s0 : Int32) (d : Sl) : Rz C 5 G (setS M k) (poM avI (setS M k)) 62 [(0, .inr (k, 34)), (1, .inl (.int v1)), (2, .inl (.int v2)), (4, .inl (.int v4))] [.inl (.int s0)] d (Mo_shared_62 k28 v1 v2 v4 s0 d) := by
  unfold Mo_shared_62
  refine z_iconst (pc := 62) hC (0 : Int32) rfl dX6_shared_62 ?_
  exact z_sub [0, 1, 2, 3] rfl (r_Mo_shared_63 hC hk k28 h28 v1 v2 v4 (0 : Int32) s0 d)
theorem r_Mo_shared_28 {C : Cxt} {G : Geo} {M : Mem} {k : Nat} (hC : Cx C cX6_shared 5 "FrameHeirsModel" (some .int) rm_X6_shared G) (hk : LMo G k) : ∀ (n : Nat) (v1 : Int32) (v2 : Int32) (v3 : Int32) (v4 : Int32) (d : Sl), Rz C 5 G (setS M k) (poM avI (setS M k)) 28 [(0, .inr (k, 34)), (1, .inl (.int v1)), (2, .inl (.int v2)), (3, .inl (.int v3)), (4, .inl (.int v4))] [] d (Mo_shared_28 n v1 v2 v3 v4 d) := by
  intro n
  induction n with
  | zero => intros; exact z_none
  | succ n ih =>
    intro v1 v2 v3 v4 d
    rw [Mo_shared_28]
    refine z_iload (pc := 28) hC 4 4 rfl dX6_shared_28 ?_
    refine z_aload_n (pc := 30) hC 0 rfl 0 rfl dX6_shared_30 ?_
    refine z_piV (pc := 31) (st := [.inl (.int v4)]) hC y_X6_size q1250 [] rfl (hk 34 rfl) rfl rfl (c_X6_size hC.2.2.2.2.2.2.1 hk) rfl ⟨rfl, rfl, (Nat.le_of_ble_eq_true rfl), (Nat.le_of_ble_eq_true rfl)⟩ (Nat.le_of_ble_eq_true rfl) dX6_shared_31 (fun r3 => ?_)
    refine z_icmp_ge (pc := 34) hC 71 rfl dX6_shared_34 ?_ ?_
    · refine z_iload_n (pc := 71) hC 3 rfl 3 rfl dX6_shared_71 ?_
      exact z_iret (pc := 72) hC rfl dX6_shared_72
    · refine z_iload_n (pc := 37) hC 3 rfl 3 rfl dX6_shared_37 ?_
      refine z_aload_n (pc := 38) hC 0 rfl 0 rfl dX6_shared_38 ?_
      refine z_iload_n (pc := 39) hC 1 rfl 1 rfl dX6_shared_39 ?_
      refine z_iload (pc := 40) hC 4 4 rfl dX6_shared_40 ?_
      refine z_piV (pc := 42) (st := [.inl (.int v3)]) hC y_X6_aliasesOf q1737 [.inl (.int v1), .inl (.int v4)] rfl (hk 34 rfl) rfl rfl (c_X6_aliasesOf hC.2.2.2.2.2.2.1 hk) rfl ⟨rfl, rfl, (Nat.le_of_ble_eq_true rfl), (Nat.le_of_ble_eq_true rfl)⟩ (Nat.le_of_ble_eq_true rfl) dX6_shared_42 (fun r4 => ?_)
      refine z_if_le (pc := 45) hC 62 rfl dX6_shared_45 ?_ ?_
      · exact z_sub [0, 1, 2, 4] rfl (r_Mo_shared_62 hC hk _ ih v1 v2 v4 v3 d)
      · refine z_aload_n (pc := 48) hC 0 rfl 0 rfl dX6_shared_48 ?_
        refine z_iload_n (pc := 49) hC 2 rfl 2 rfl dX6_shared_49 ?_
        refine z_iload (pc := 50) hC 4 4 rfl dX6_shared_50 ?_
        refine z_piV (pc := 52) (st := [.inl (.int v3)]) hC y_X6_aliasesOf q1737 [.inl (.int v2), .inl (.int v4)] rfl (hk 34 rfl) rfl rfl (c_X6_aliasesOf hC.2.2.2.2.2.2.1 hk) rfl ⟨rfl, rfl, (Nat.le_of_ble_eq_true rfl), (Nat.le_of_ble_eq_true rfl)⟩ (Nat.le_of_ble_eq_true rfl) dX6_shared_52 (fun r5 => ?_)
        refine z_if_le (pc := 55) hC 62 rfl dX6_shared_55 ?_ ?_
        · exact z_sub [0, 1, 2, 4] rfl (r_Mo_shared_62 hC hk _ ih v1 v2 v4 v3 d)
        · refine z_iconst (pc := 58) hC (1 : Int32) rfl dX6_shared_58 ?_
          refine z_goto (pc := 59) hC 63 rfl dX6_shared_59 ?_
          exact z_sub [0, 1, 2, 4] rfl (r_Mo_shared_63 hC hk _ ih v1 v2 v4 (1 : Int32) v3 d)
theorem r_Mo_shared {C : Cxt} {G : Geo} {M : Mem} {k : Nat} (hC : Cx C cX6_shared 5 "FrameHeirsModel" (some .int) rm_X6_shared G) (hk : LMo G k) (d : Sl) (a1 : Int32) (a2 : Int32) : Rz C 5 G (setS M k) (poM avI (setS M k)) 0 [(0, .inr (k, 34)), (1, .inl (.int a1)), (2, .inl (.int a2))] [] d (Mo_shared d a1 a2) := by
  unfold Mo_shared
  refine z_aload_n (pc := 0) hC 0 rfl 0 rfl dX6_shared_0 ?_
  refine z_iconst (pc := 1) hC (0 : Int32) rfl dX6_shared_1 ?_
  refine zs_puti (pc := 2) hC (hk 34 rfl) f_34_2 q1272 dX6_shared_2 (fun d6 => ?_)
  refine z_aload_n (pc := 5) hC 0 rfl 0 rfl dX6_shared_5 ?_
  refine z_iload_n (pc := 6) hC 1 rfl 1 rfl dX6_shared_6 ?_
  refine z_piV (pc := 7) (st := []) hC y_X6_isSpace q1484 [.inl (.int a1)] rfl (hk 34 rfl) rfl rfl (c_X6_isSpace hC.2.2.2.2.2.2.1 hk) rfl ⟨rfl, rfl, (Nat.le_of_ble_eq_true rfl), (Nat.le_of_ble_eq_true rfl)⟩ (Nat.le_of_ble_eq_true rfl) dX6_shared_7 (fun r7 => ?_)
  refine z_if_eq (pc := 10) hC 21 rfl dX6_shared_10 ?_ ?_
  · refine z_iconst (pc := 21) hC (-1 : Int32) rfl dX6_shared_21 ?_
    exact z_iret (pc := 22) hC rfl dX6_shared_22
  · refine z_aload_n (pc := 13) hC 0 rfl 0 rfl dX6_shared_13 ?_
    refine z_iload_n (pc := 14) hC 2 rfl 2 rfl dX6_shared_14 ?_
    refine z_piV (pc := 15) (st := []) hC y_X6_isSpace q1484 [.inl (.int a2)] rfl (hk 34 rfl) rfl rfl (c_X6_isSpace hC.2.2.2.2.2.2.1 hk) rfl ⟨rfl, rfl, (Nat.le_of_ble_eq_true rfl), (Nat.le_of_ble_eq_true rfl)⟩ (Nat.le_of_ble_eq_true rfl) dX6_shared_15 (fun r8 => ?_)
    refine z_if_ne (pc := 18) hC 23 rfl dX6_shared_18 ?_ ?_
    · refine z_iconst (pc := 23) hC (0 : Int32) rfl dX6_shared_23 ?_
      refine z_istore_n (pc := 24) (ls1 := fun v => [(3, .inl (.int v)), (0, .inr (k, 34)), (1, .inl (.int a1)), (2, .inl (.int a2))]) hC 3 rfl (by decide) (fun v => rfl) dX6_shared_24 (fun v3_9 => ?_)
      refine z_iconst (pc := 25) hC (0 : Int32) rfl dX6_shared_25 ?_
      refine z_istore (pc := 26) (ls1 := fun v => [(4, .inl (.int v)), (3, .inl (.int v3_9)), (0, .inr (k, 34)), (1, .inl (.int a1)), (2, .inl (.int a2))]) hC 4 (by decide) (fun v => rfl) dX6_shared_26 (fun v4_10 => ?_)
      exact z_sub [2, 3, 4, 1, 0] rfl (r_Mo_shared_28 hC hk FU a1 a2 v3_9 v4_10 d6)
    · refine z_iconst (pc := 21) hC (-1 : Int32) rfl dX6_shared_21 ?_
      exact z_iret (pc := 22) hC rfl dX6_shared_22
theorem c_X6_shared {G : Geo} {M : Mem} {k : Nat} (hG : GOk G) (hk : LMo G k) {d : Sl} {a1 : Int32} {a2 : Int32} (l : Launch) (r : Int32) (d1 : Sl) (h : Mo_shared d a1 a2 = some (r, d1)) : Mt l yX6_shared cX6_shared 5 (some .int) rm_X6_shared G [.inr (k, 34), .inl (.int a1), .inl (.int a2)] ((setS M k) d) (avI r) ((setS M k) d1) :=
  mt_of (mem := (setS M k)) (po := poM avI (setS M k)) (x0 := d) (t := (r, d1)) rfl hG [.inr (k, 34), .inl (.int a1), .inl (.int a2)] (Nat.le_of_ble_eq_true rfl) rfl (fun C hC => r_Mo_shared hC hk d a1 a2) h
-- FrameHeirsModel.isGate(II)Z
abbrev rm_X6_isGate : Room := { frames := 3, cells := 0, slots := 0, locals := 65 }
theorem dX6_isGate_0 : decode cX6_isGate 0 = .ok (.iload_n 1, 1) := by decide +kernel
theorem dX6_isGate_1 : decode cX6_isGate 1 = .ok (.bipush 32, 2) := by decide +kernel
theorem dX6_isGate_3 : decode cX6_isGate 3 = .ok (.idiv, 1) := by decide +kernel
theorem dX6_isGate_4 : decode cX6_isGate 4 = .ok (.iload_n 2, 1) := by decide +kernel
theorem dX6_isGate_5 : decode cX6_isGate 5 = .ok (.if_icmp .eq 16, 3) := by decide +kernel
theorem dX6_isGate_8 : decode cX6_isGate 8 = .ok (.aload_n 0, 1) := by decide +kernel
theorem dX6_isGate_9 : decode cX6_isGate 9 = .ok (.iload_n 1, 1) := by decide +kernel
theorem dX6_isGate_10 : decode cX6_isGate 10 = .ok (.iload_n 2, 1) := by decide +kernel
theorem dX6_isGate_11 : decode cX6_isGate 11 = .ok (.invokevirtual 448, 3) := by decide +kernel
theorem dX6_isGate_14 : decode cX6_isGate 14 = .ok (.ifCond .eq 7, 3) := by decide +kernel
theorem dX6_isGate_17 : decode cX6_isGate 17 = .ok (.iconst 1, 1) := by decide +kernel
theorem dX6_isGate_18 : decode cX6_isGate 18 = .ok (.goto 4, 3) := by decide +kernel
theorem dX6_isGate_21 : decode cX6_isGate 21 = .ok (.iconst 0, 1) := by decide +kernel
theorem dX6_isGate_22 : decode cX6_isGate 22 = .ok (.ireturn, 1) := by decide +kernel
def Mo_isGate (d : Sl) (a1 : Int32) (a2 : Int32) : Option Int32 :=
  if ¬ (32 : Int32) = 0 then
  if (a1 / (32 : Int32)) = a2 then
    (some (0 : Int32))
  else
    (bp (Mo_isBelow d a1 a2) fun r1 =>
    if r1 = 0 then
      (some (0 : Int32))
    else
      (some (1 : Int32)))
  else none
theorem y_X6_isGate : YV yX6_isGate cX6_isGate 3 (some .boolean) 2 := ⟨q1852, q136, q1853, q149, by decide +kernel, by decide +kernel, by decide +kernel, by decide +kernel⟩
theorem r_Mo_isGate {C : Cxt} {G : Geo} {M : Mem} {k : Nat} (hC : Cx C cX6_isGate 3 "FrameHeirsModel" (some .boolean) rm_X6_isGate G) (hk : LMo G k) (d : Sl) (a1 : Int32) (a2 : Int32) : Rz C 3 G (setS M k) (poP avI ((setS M k) d)) 0 [(0, .inr (k, 34)), (1, .inl (.int a1)), (2, .inl (.int a2))] [] d (Mo_isGate d a1 a2) := by
  unfold Mo_isGate
  refine z_iload_n (pc := 0) hC 1 rfl 1 rfl dX6_isGate_0 ?_
  refine z_bipush (pc := 1) hC (32 : Int32) rfl dX6_isGate_1 ?_
  refine z_idiv (pc := 3) hC dX6_isGate_3 ?_
  refine z_iload_n (pc := 4) hC 2 rfl 2 rfl dX6_isGate_4 ?_
  refine z_icmp_eq (pc := 5) hC 21 rfl dX6_isGate_5 ?_ ?_
  · refine z_iconst (pc := 21) hC (0 : Int32) rfl dX6_isGate_21 ?_
    exact z_zret (pc := 22) hC rfl rfl dX6_isGate_22
  · refine z_aload_n (pc := 8) hC 0 rfl 0 rfl dX6_isGate_8 ?_
    refine z_iload_n (pc := 9) hC 1 rfl 1 rfl dX6_isGate_9 ?_
    refine z_iload_n (pc := 10) hC 2 rfl 2 rfl dX6_isGate_10 ?_
    refine z_piV (pc := 11) (st := []) hC y_X6_isBelow q1834 [.inl (.int a1), .inl (.int a2)] rfl (hk 34 rfl) rfl rfl (c_X6_isBelow hC.2.2.2.2.2.2.1 hk) rfl ⟨rfl, rfl, (Nat.le_of_ble_eq_true rfl), (Nat.le_of_ble_eq_true rfl)⟩ (Nat.le_of_ble_eq_true rfl) dX6_isGate_11 (fun r1 => ?_)
    refine z_if_eq (pc := 14) hC 21 rfl dX6_isGate_14 ?_ ?_
    · refine z_iconst (pc := 21) hC (0 : Int32) rfl dX6_isGate_21 ?_
      exact z_zret (pc := 22) hC rfl rfl dX6_isGate_22
    · refine z_iconst (pc := 17) hC (1 : Int32) rfl dX6_isGate_17 ?_
      refine z_goto (pc := 18) hC 22 rfl dX6_isGate_18 ?_
      exact z_zret (pc := 22) hC rfl rfl dX6_isGate_22
theorem c_X6_isGate {G : Geo} {M : Mem} {k : Nat} (hG : GOk G) (hk : LMo G k) {d : Sl} {a1 : Int32} {a2 : Int32} (l : Launch) (r : Int32) (h : Mo_isGate d a1 a2 = some r) : Mt l yX6_isGate cX6_isGate 3 (some .boolean) rm_X6_isGate G [.inr (k, 34), .inl (.int a1), .inl (.int a2)] ((setS M k) d) (avI r) ((setS M k) d) :=
  mt_of (mem := (setS M k)) (po := poP avI ((setS M k) d)) (x0 := d) (t := r) rfl hG [.inr (k, 34), .inl (.int a1), .inl (.int a2)] (Nat.le_of_ble_eq_true rfl) rfl (fun C hC => r_Mo_isGate hC hk d a1 a2) h
-- FrameHeirsModel.isTopGate(II)Z
abbrev rm_X6_isTopGate : Room := { frames := 4, cells := 0, slots := 0, locals := 87 }
theorem dX6_isTopGate_0 : decode cX6_isTopGate 0 = .ok (.aload_n 0, 1) := by decide +kernel
theorem dX6_isTopGate_1 : decode cX6_isTopGate 1 = .ok (.iload_n 1, 1) := by decide +kernel
theorem dX6_isTopGate_2 : decode cX6_isTopGate 2 = .ok (.iload_n 2, 1) := by decide +kernel
theorem dX6_isTopGate_3 : decode cX6_isTopGate 3 = .ok (.invokevirtual 451, 3) := by decide +kernel
theorem dX6_isTopGate_6 : decode cX6_isTopGate 6 = .ok (.ifCond .ne 5, 3) := by decide +kernel
theorem dX6_isTopGate_9 : decode cX6_isTopGate 9 = .ok (.iconst 0, 1) := by decide +kernel
theorem dX6_isTopGate_10 : decode cX6_isTopGate 10 = .ok (.ireturn, 1) := by decide +kernel
theorem dX6_isTopGate_11 : decode cX6_isTopGate 11 = .ok (.aload_n 0, 1) := by decide +kernel
theorem dX6_isTopGate_12 : decode cX6_isTopGate 12 = .ok (.iload_n 1, 1) := by decide +kernel
theorem dX6_isTopGate_13 : decode cX6_isTopGate 13 = .ok (.invokevirtual 210, 3) := by decide +kernel
theorem dX6_isTopGate_16 : decode cX6_isTopGate 16 = .ok (.istore_n 3, 1) := by decide +kernel
theorem dX6_isTopGate_17 : decode cX6_isTopGate 17 = .ok (.iload_n 3, 1) := by decide +kernel
theorem dX6_isTopGate_18 : decode cX6_isTopGate 18 = .ok (.ifCond .lt 23, 3) := by decide +kernel
theorem dX6_isTopGate_21 : decode cX6_isTopGate 21 = .ok (.aload_n 0, 1) := by decide +kernel
theorem dX6_isTopGate_22 : decode cX6_isTopGate 22 = .ok (.iload_n 3, 1) := by decide +kernel
theorem dX6_isTopGate_23 : decode cX6_isTopGate 23 = .ok (.iload_n 2, 1) := by decide +kernel
theorem dX6_isTopGate_24 : decode cX6_isTopGate 24 = .ok (.invokevirtual 451, 3) := by decide +kernel
theorem dX6_isTopGate_27 : decode cX6_isTopGate 27 = .ok (.ifCond .eq 5, 3) := by decide +kernel
theorem dX6_isTopGate_30 : decode cX6_isTopGate 30 = .ok (.iconst 0, 1) := by decide +kernel
theorem dX6_isTopGate_31 : decode cX6_isTopGate 31 = .ok (.ireturn, 1) := by decide +kernel
theorem dX6_isTopGate_32 : decode cX6_isTopGate 32 = .ok (.aload_n 0, 1) := by decide +kernel
theorem dX6_isTopGate_33 : decode cX6_isTopGate 33 = .ok (.iload_n 3, 1) := by decide +kernel
theorem dX6_isTopGate_34 : decode cX6_isTopGate 34 = .ok (.invokevirtual 210, 3) := by decide +kernel
theorem dX6_isTopGate_37 : decode cX6_isTopGate 37 = .ok (.istore_n 3, 1) := by decide +kernel
theorem dX6_isTopGate_38 : decode cX6_isTopGate 38 = .ok (.goto (-21), 3) := by decide +kernel
theorem dX6_isTopGate_41 : decode cX6_isTopGate 41 = .ok (.iconst 1, 1) := by decide +kernel
theorem dX6_isTopGate_42 : decode cX6_isTopGate 42 = .ok (.ireturn, 1) := by decide +kernel
def Mo_isTopGate_17 (d : Sl) : Nat → Int32 → Int32 → Option Int32
  | 0, _, _ => none
  | n + 1, v2, v3 =>
    if v3 < 0 then
      (some (1 : Int32))
    else
      (bp (Mo_isGate d v3 v2) fun r1 =>
      if r1 = 0 then
        (bp (Mo_giverOf d v3) fun r2 =>
        bnd r2 fun v3_3 =>
        Mo_isTopGate_17 d n v2 v3_3)
      else
        (some (0 : Int32)))
def Mo_isTopGate (d : Sl) (a1 : Int32) (a2 : Int32) : Option Int32 :=
  bp (Mo_isGate d a1 a2) fun r4 =>
  if r4 = 0 then
    (some (0 : Int32))
  else
    (bp (Mo_giverOf d a1) fun r5 =>
    bnd r5 fun v3_6 =>
    Mo_isTopGate_17 d FU a2 v3_6)
theorem y_X6_isTopGate : YV yX6_isTopGate cX6_isTopGate 4 (some .boolean) 2 := ⟨q1848, q135, q1849, q149, by decide +kernel, by decide +kernel, by decide +kernel, by decide +kernel⟩
theorem r_Mo_isTopGate_17 {C : Cxt} {G : Geo} {M : Mem} {k : Nat} {d : Sl} (hC : Cx C cX6_isTopGate 4 "FrameHeirsModel" (some .boolean) rm_X6_isTopGate G) (hk : LMo G k) : ∀ (n : Nat) (v2 : Int32) (v3 : Int32), Rz C 4 G (setS M k) (poP avI ((setS M k) d)) 17 [(0, .inr (k, 34)), (2, .inl (.int v2)), (3, .inl (.int v3))] [] d (Mo_isTopGate_17 d n v2 v3) := by
  intro n
  induction n with
  | zero => intros; exact z_none
  | succ n ih =>
    intro v2 v3
    rw [Mo_isTopGate_17]
    refine z_iload_n (pc := 17) hC 3 rfl 2 rfl dX6_isTopGate_17 ?_
    refine z_if_lt (pc := 18) hC 41 rfl dX6_isTopGate_18 ?_ ?_
    · refine z_iconst (pc := 41) hC (1 : Int32) rfl dX6_isTopGate_41 ?_
      exact z_zret (pc := 42) hC rfl rfl dX6_isTopGate_42
    · refine z_aload_n (pc := 21) hC 0 rfl 0 rfl dX6_isTopGate_21 ?_
      refine z_iload_n (pc := 22) hC 3 rfl 2 rfl dX6_isTopGate_22 ?_
      refine z_iload_n (pc := 23) hC 2 rfl 1 rfl dX6_isTopGate_23 ?_
      refine z_piV (pc := 24) (st := []) hC y_X6_isGate q1850 [.inl (.int v3), .inl (.int v2)] rfl (hk 34 rfl) rfl rfl (c_X6_isGate hC.2.2.2.2.2.2.1 hk) rfl ⟨rfl, rfl, (Nat.le_of_ble_eq_true rfl), (Nat.le_of_ble_eq_true rfl)⟩ (Nat.le_of_ble_eq_true rfl) dX6_isTopGate_24 (fun r1 => ?_)
      refine z_if_eq (pc := 27) hC 32 rfl dX6_isTopGate_27 ?_ ?_
      · refine z_aload_n (pc := 32) hC 0 rfl 0 rfl dX6_isTopGate_32 ?_
        refine z_iload_n (pc := 33) hC 3 rfl 2 rfl dX6_isTopGate_33 ?_
        refine z_piV (pc := 34) (st := []) hC y_X6_giverOf q1532 [.inl (.int v3)] rfl (hk 34 rfl) rfl rfl (c_X6_giverOf hC.2.2.2.2.2.2.1 hk) rfl ⟨rfl, rfl, (Nat.le_of_ble_eq_true rfl), (Nat.le_of_ble_eq_true rfl)⟩ (Nat.le_of_ble_eq_true rfl) dX6_isTopGate_34 (fun r2 => ?_)
        refine z_istore_n (pc := 37) (ls1 := fun v => [(3, .inl (.int v)), (0, .inr (k, 34)), (2, .inl (.int v2))]) hC 3 rfl (by decide) (fun v => rfl) dX6_isTopGate_37 (fun v3_3 => ?_)
        refine z_goto (pc := 38) hC 17 rfl dX6_isTopGate_38 ?_
        exact z_sub [1, 2, 0] rfl (ih v2 v3_3)
      · refine z_iconst (pc := 30) hC (0 : Int32) rfl dX6_isTopGate_30 ?_
        exact z_zret (pc := 31) hC rfl rfl dX6_isTopGate_31
theorem r_Mo_isTopGate {C : Cxt} {G : Geo} {M : Mem} {k : Nat} (hC : Cx C cX6_isTopGate 4 "FrameHeirsModel" (some .boolean) rm_X6_isTopGate G) (hk : LMo G k) (d : Sl) (a1 : Int32) (a2 : Int32) : Rz C 4 G (setS M k) (poP avI ((setS M k) d)) 0 [(0, .inr (k, 34)), (1, .inl (.int a1)), (2, .inl (.int a2))] [] d (Mo_isTopGate d a1 a2) := by
  unfold Mo_isTopGate
  refine z_aload_n (pc := 0) hC 0 rfl 0 rfl dX6_isTopGate_0 ?_
  refine z_iload_n (pc := 1) hC 1 rfl 1 rfl dX6_isTopGate_1 ?_
  refine z_iload_n (pc := 2) hC 2 rfl 2 rfl dX6_isTopGate_2 ?_
  refine z_piV (pc := 3) (st := []) hC y_X6_isGate q1850 [.inl (.int a1), .inl (.int a2)] rfl (hk 34 rfl) rfl rfl (c_X6_isGate hC.2.2.2.2.2.2.1 hk) rfl ⟨rfl, rfl, (Nat.le_of_ble_eq_true rfl), (Nat.le_of_ble_eq_true rfl)⟩ (Nat.le_of_ble_eq_true rfl) dX6_isTopGate_3 (fun r4 => ?_)
  refine z_if_ne (pc := 6) hC 11 rfl dX6_isTopGate_6 ?_ ?_
  · refine z_aload_n (pc := 11) hC 0 rfl 0 rfl dX6_isTopGate_11 ?_
    refine z_iload_n (pc := 12) hC 1 rfl 1 rfl dX6_isTopGate_12 ?_
    refine z_piV (pc := 13) (st := []) hC y_X6_giverOf q1532 [.inl (.int a1)] rfl (hk 34 rfl) rfl rfl (c_X6_giverOf hC.2.2.2.2.2.2.1 hk) rfl ⟨rfl, rfl, (Nat.le_of_ble_eq_true rfl), (Nat.le_of_ble_eq_true rfl)⟩ (Nat.le_of_ble_eq_true rfl) dX6_isTopGate_13 (fun r5 => ?_)
    refine z_istore_n (pc := 16) (ls1 := fun v => [(3, .inl (.int v)), (0, .inr (k, 34)), (1, .inl (.int a1)), (2, .inl (.int a2))]) hC 3 rfl (by decide) (fun v => rfl) dX6_isTopGate_16 (fun v3_6 => ?_)
    exact z_sub [1, 3, 0] rfl (r_Mo_isTopGate_17 hC hk FU a2 v3_6)
  · refine z_iconst (pc := 9) hC (0 : Int32) rfl dX6_isTopGate_9 ?_
    exact z_zret (pc := 10) hC rfl rfl dX6_isTopGate_10
theorem c_X6_isTopGate {G : Geo} {M : Mem} {k : Nat} (hG : GOk G) (hk : LMo G k) {d : Sl} {a1 : Int32} {a2 : Int32} (l : Launch) (r : Int32) (h : Mo_isTopGate d a1 a2 = some r) : Mt l yX6_isTopGate cX6_isTopGate 4 (some .boolean) rm_X6_isTopGate G [.inr (k, 34), .inl (.int a1), .inl (.int a2)] ((setS M k) d) (avI r) ((setS M k) d) :=
  mt_of (mem := (setS M k)) (po := poP avI ((setS M k) d)) (x0 := d) (t := r) rfl hG [.inr (k, 34), .inl (.int a1), .inl (.int a2)] (Nat.le_of_ble_eq_true rfl) rfl (fun C hC => r_Mo_isTopGate hC hk d a1 a2) h
-- FrameHeirsModel.gates(II)I
abbrev rm_X6_gates : Room := { frames := 5, cells := 0, slots := 0, locals := 110 }
theorem dX6_gates_0 : decode cX6_gates 0 = .ok (.aload_n 0, 1) := by decide +kernel
theorem dX6_gates_1 : decode cX6_gates 1 = .ok (.iconst 0, 1) := by decide +kernel
theorem dX6_gates_2 : decode cX6_gates 2 = .ok (.putfield 61, 3) := by decide +kernel
theorem dX6_gates_5 : decode cX6_gates 5 = .ok (.aload_n 0, 1) := by decide +kernel
theorem dX6_gates_6 : decode cX6_gates 6 = .ok (.iload_n 1, 1) := by decide +kernel
theorem dX6_gates_7 : decode cX6_gates 7 = .ok (.invokevirtual 264, 3) := by decide +kernel
theorem dX6_gates_10 : decode cX6_gates 10 = .ok (.ifCond .eq 16, 3) := by decide +kernel
theorem dX6_gates_13 : decode cX6_gates 13 = .ok (.aload_n 0, 1) := by decide +kernel
theorem dX6_gates_14 : decode cX6_gates 14 = .ok (.iload_n 2, 1) := by decide +kernel
theorem dX6_gates_15 : decode cX6_gates 15 = .ok (.invokevirtual 264, 3) := by decide +kernel
theorem dX6_gates_18 : decode cX6_gates 18 = .ok (.ifCond .eq 8, 3) := by decide +kernel
theorem dX6_gates_21 : decode cX6_gates 21 = .ok (.iload_n 1, 1) := by decide +kernel
theorem dX6_gates_22 : decode cX6_gates 22 = .ok (.iload_n 2, 1) := by decide +kernel
theorem dX6_gates_23 : decode cX6_gates 23 = .ok (.if_icmp .ne 5, 3) := by decide +kernel
theorem dX6_gates_26 : decode cX6_gates 26 = .ok (.iconst (-1), 1) := by decide +kernel
theorem dX6_gates_27 : decode cX6_gates 27 = .ok (.ireturn, 1) := by decide +kernel
theorem dX6_gates_28 : decode cX6_gates 28 = .ok (.iconst 0, 1) := by decide +kernel
theorem dX6_gates_29 : decode cX6_gates 29 = .ok (.istore_n 3, 1) := by decide +kernel
theorem dX6_gates_30 : decode cX6_gates 30 = .ok (.iconst 0, 1) := by decide +kernel
theorem dX6_gates_31 : decode cX6_gates 31 = .ok (.istore 4, 2) := by decide +kernel
theorem dX6_gates_33 : decode cX6_gates 33 = .ok (.iload 4, 2) := by decide +kernel
theorem dX6_gates_35 : decode cX6_gates 35 = .ok (.sipush 192, 3) := by decide +kernel
theorem dX6_gates_38 : decode cX6_gates 38 = .ok (.if_icmp .ge 85, 3) := by decide +kernel
theorem dX6_gates_41 : decode cX6_gates 41 = .ok (.aload_n 0, 1) := by decide +kernel
theorem dX6_gates_42 : decode cX6_gates 42 = .ok (.iload 4, 2) := by decide +kernel
theorem dX6_gates_44 : decode cX6_gates 44 = .ok (.invokevirtual 216, 3) := by decide +kernel
theorem dX6_gates_47 : decode cX6_gates 47 = .ok (.ifCond .eq 70, 3) := by decide +kernel
theorem dX6_gates_50 : decode cX6_gates 50 = .ok (.aload_n 0, 1) := by decide +kernel
theorem dX6_gates_51 : decode cX6_gates 51 = .ok (.iload 4, 2) := by decide +kernel
theorem dX6_gates_53 : decode cX6_gates 53 = .ok (.iload_n 1, 1) := by decide +kernel
theorem dX6_gates_54 : decode cX6_gates 54 = .ok (.invokevirtual 454, 3) := by decide +kernel
theorem dX6_gates_57 : decode cX6_gates 57 = .ok (.ifCond .ne 6, 3) := by decide +kernel
theorem dX6_gates_60 : decode cX6_gates 60 = .ok (.goto 57, 3) := by decide +kernel
theorem dX6_gates_63 : decode cX6_gates 63 = .ok (.aload_n 0, 1) := by decide +kernel
theorem dX6_gates_64 : decode cX6_gates 64 = .ok (.iload 4, 2) := by decide +kernel
theorem dX6_gates_66 : decode cX6_gates 66 = .ok (.invokevirtual 237, 3) := by decide +kernel
theorem dX6_gates_69 : decode cX6_gates 69 = .ok (.iconst 0, 1) := by decide +kernel
theorem dX6_gates_70 : decode cX6_gates 70 = .ok (.istore 5, 2) := by decide +kernel
theorem dX6_gates_72 : decode cX6_gates 72 = .ok (.iconst 0, 1) := by decide +kernel
theorem dX6_gates_73 : decode cX6_gates 73 = .ok (.istore 6, 2) := by decide +kernel
theorem dX6_gates_75 : decode cX6_gates 75 = .ok (.iload 6, 2) := by decide +kernel
theorem dX6_gates_77 : decode cX6_gates 77 = .ok (.aload_n 0, 1) := by decide +kernel
theorem dX6_gates_78 : decode cX6_gates 78 = .ok (.getfield 222, 3) := by decide +kernel
theorem dX6_gates_81 : decode cX6_gates 81 = .ok (.if_icmp .ge 31, 3) := by decide +kernel
theorem dX6_gates_84 : decode cX6_gates 84 = .ok (.aload_n 0, 1) := by decide +kernel
theorem dX6_gates_85 : decode cX6_gates 85 = .ok (.getfield 49, 3) := by decide +kernel
theorem dX6_gates_88 : decode cX6_gates 88 = .ok (.iload 6, 2) := by decide +kernel
theorem dX6_gates_90 : decode cX6_gates 90 = .ok (.iaload, 1) := by decide +kernel
theorem dX6_gates_91 : decode cX6_gates 91 = .ok (.bipush 32, 2) := by decide +kernel
theorem dX6_gates_93 : decode cX6_gates 93 = .ok (.idiv, 1) := by decide +kernel
theorem dX6_gates_94 : decode cX6_gates 94 = .ok (.iload_n 2, 1) := by decide +kernel
theorem dX6_gates_95 : decode cX6_gates 95 = .ok (.if_icmp .ne 7, 3) := by decide +kernel
theorem dX6_gates_98 : decode cX6_gates 98 = .ok (.iconst 1, 1) := by decide +kernel
theorem dX6_gates_99 : decode cX6_gates 99 = .ok (.goto 5, 3) := by decide +kernel
theorem dX6_gates_102 : decode cX6_gates 102 = .ok (.iload 5, 2) := by decide +kernel
theorem dX6_gates_104 : decode cX6_gates 104 = .ok (.istore 5, 2) := by decide +kernel
theorem dX6_gates_106 : decode cX6_gates 106 = .ok (.iinc 6 1, 3) := by decide +kernel
theorem dX6_gates_109 : decode cX6_gates 109 = .ok (.goto (-34), 3) := by decide +kernel
theorem dX6_gates_112 : decode cX6_gates 112 = .ok (.iload_n 3, 1) := by decide +kernel
theorem dX6_gates_113 : decode cX6_gates 113 = .ok (.iload 5, 2) := by decide +kernel
theorem dX6_gates_115 : decode cX6_gates 115 = .ok (.iadd, 1) := by decide +kernel
theorem dX6_gates_116 : decode cX6_gates 116 = .ok (.istore_n 3, 1) := by decide +kernel
theorem dX6_gates_117 : decode cX6_gates 117 = .ok (.iinc 4 1, 3) := by decide +kernel
theorem dX6_gates_120 : decode cX6_gates 120 = .ok (.goto (-87), 3) := by decide +kernel
theorem dX6_gates_123 : decode cX6_gates 123 = .ok (.iload_n 3, 1) := by decide +kernel
theorem dX6_gates_124 : decode cX6_gates 124 = .ok (.ireturn, 1) := by decide +kernel
def Mo_gates_117 (k33 : Int32 → Int32 → Int32 → Int32 → Sl → Option (Int32 × Sl)) (v1 : Int32) (v2 : Int32) (v3 : Int32) (v4 : Int32) (d : Sl) : Option (Int32 × Sl) :=
  bnd (v4 + (1 : Int32)) fun v4_1 =>
  k33 v1 v2 v3 v4_1 d
def Mo_gates_104 (k33 : Int32 → Int32 → Int32 → Int32 → Sl → Option (Int32 × Sl)) (k75 : Int32 → Int32 → Int32 → Int32 → Int32 → Int32 → Sl → Option (Int32 × Sl)) (v1 : Int32) (v2 : Int32) (v3 : Int32) (v4 : Int32) (v6 : Int32) (s0 : Int32) (d : Sl) : Option (Int32 × Sl) :=
  bnd s0 fun v5_2 =>
  bnd (v6 + (1 : Int32)) fun v6_3 =>
  k75 v1 v2 v3 v4 v5_2 v6_3 d
def Mo_gates_75 (k33 : Int32 → Int32 → Int32 → Int32 → Sl → Option (Int32 × Sl)) : Nat → Int32 → Int32 → Int32 → Int32 → Int32 → Int32 → Sl → Option (Int32 × Sl)
  | 0, _, _, _, _, _, _, _ => none
  | n + 1, v1, v2, v3, v4, v5, v6, d =>
    if (d 34 28) ≤ v6 then
      (bnd (v3 + v5) fun v3_4 =>
      Mo_gates_117 k33 v1 v2 v3_4 v4 d)
    else
      (if inb v6 192 then
      if ¬ (32 : Int32) = 0 then
      if ((d 46 (ix v6)) / (32 : Int32)) = v2 then
        (Mo_gates_104 k33 (Mo_gates_75 k33 n) v1 v2 v3 v4 v6 (1 : Int32) d)
      else
        (Mo_gates_104 k33 (Mo_gates_75 k33 n) v1 v2 v3 v4 v6 v5 d)
      else none
      else none)
def Mo_gates_33 : Nat → Int32 → Int32 → Int32 → Int32 → Sl → Option (Int32 × Sl)
  | 0, _, _, _, _, _ => none
  | n + 1, v1, v2, v3, v4, d =>
    if (192 : Int32) ≤ v4 then
      (some (v3, d))
    else
      (bp (Mo_isDeed d v4) fun r5 =>
      if r5 = 0 then
        (Mo_gates_117 (Mo_gates_33 n) v1 v2 v3 v4 d)
      else
        (bp (Mo_isTopGate d v4 v1) fun r6 =>
        if r6 = 0 then
          (Mo_gates_117 (Mo_gates_33 n) v1 v2 v3 v4 d)
        else
          (bd (Mo_tree d v4) fun r7 d8 =>
          bnd (0 : Int32) fun v5_9 =>
          bnd (0 : Int32) fun v6_10 =>
          Mo_gates_75 (Mo_gates_33 n) FU v1 v2 v3 v4 v5_9 v6_10 d8)))
def Mo_gates (d : Sl) (a1 : Int32) (a2 : Int32) : Option (Int32 × Sl) :=
  bnd (wr d 34 2 (0 : Int32)) fun d11 =>
  bp (Mo_isSpace d11 a1) fun r12 =>
  if r12 = 0 then
    (some ((-1 : Int32), d11))
  else
    (bp (Mo_isSpace d11 a2) fun r13 =>
    if r13 = 0 then
      (some ((-1 : Int32), d11))
    else
      (if a1 = a2 then
        (some ((-1 : Int32), d11))
      else
        (bnd (0 : Int32) fun v3_14 =>
        bnd (0 : Int32) fun v4_15 =>
        Mo_gates_33 FU a1 a2 v3_14 v4_15 d11)))
theorem y_X6_gates : YV yX6_gates cX6_gates 7 (some .int) 2 := ⟨q1843, q1844, q1845, q149, by decide +kernel, by decide +kernel, by decide +kernel, by decide +kernel⟩
theorem r_Mo_gates_117 {C : Cxt} {G : Geo} {M : Mem} {k : Nat} (hC : Cx C cX6_gates 7 "FrameHeirsModel" (some .int) rm_X6_gates G) (hk : LMo G k) (k33 : Int32 → Int32 → Int32 → Int32 → Sl → Option (Int32 × Sl)) (h33 : ∀ (v1 : Int32) (v2 : Int32) (v3 : Int32) (v4 : Int32) (d : Sl), Rz C 7 G (setS M k) (poM avI (setS M k)) 33 [(0, .inr (k, 34)), (1, .inl (.int v1)), (2, .inl (.int v2)), (3, .inl (.int v3)), (4, .inl (.int v4))] [] d (k33 v1 v2 v3 v4 d)) (v1 : Int32) (v2 : Int32) (v3 : Int32) (v4 : Int32) (d : Sl) : Rz C 7 G (setS M k) (poM avI (setS M k)) 117 [(0, .inr (k, 34)), (1, .inl (.int v1)), (2, .inl (.int v2)), (3, .inl (.int v3)), (4, .inl (.int v4))] [] d (Mo_gates_117 k33 v1 v2 v3 v4 d) := by
  unfold Mo_gates_117
  refine z_iinc (pc := 117) (ls1 := fun v => [(4, .inl (.int v)), (0, .inr (k, 34)), (1, .inl (.int v1)), (2, .inl (.int v2)), (3, .inl (.int v3))]) hC 4 4 (by decide) (1 : Int32) rfl rfl (fun v => rfl) dX6_gates_117 (fun v4_1 => ?_)
  refine z_goto (pc := 120) hC 33 rfl dX6_gates_120 ?_
  exact z_sub [1, 2, 3, 4, 0] rfl (h33 v1 v2 v3 v4_1 d)
theorem r_Mo_gates_104 {C : Cxt} {G : Geo} {M : Mem} {k : Nat} (hC : Cx C cX6_gates 7 "FrameHeirsModel" (some .int) rm_X6_gates G) (hk : LMo G k) (k33 : Int32 → Int32 → Int32 → Int32 → Sl → Option (Int32 × Sl)) (h33 : ∀ (v1 : Int32) (v2 : Int32) (v3 : Int32) (v4 : Int32) (d : Sl), Rz C 7 G (setS M k) (poM avI (setS M k)) 33 [(0, .inr (k, 34)), (1, .inl (.int v1)), (2, .inl (.int v2)), (3, .inl (.int v3)), (4, .inl (.int v4))] [] d (k33 v1 v2 v3 v4 d)) (k75 : Int32 → Int32 → Int32 → Int32 → Int32 → Int32 → Sl → Option (Int32 × Sl)) (h75 : ∀ (v1 : Int32) (v2 : Int32) (v3 : Int32) (v4 : Int32) (v5 : Int32) (v6 : Int32) (d : Sl), Rz C 7 G (setS M k) (poM avI (setS M k)) 75 [(0, .inr (k, 34)), (1, .inl (.int v1)), (2, .inl (.int v2)), (3, .inl (.int v3)), (4, .inl (.int v4)), (5, .inl (.int v5)), (6, .inl (.int v6))] [] d (k75 v1 v2 v3 v4 v5 v6 d)) (v1 : Int32) (v2 : Int32) (v3 : Int32) (v4 : Int32) (v6 : Int32) (s0 : Int32) (d : Sl) : Rz C 7 G (setS M k) (poM avI (setS M k)) 104 [(0, .inr (k, 34)), (1, .inl (.int v1)), (2, .inl (.int v2)), (3, .inl (.int v3)), (4, .inl (.int v4)), (6, .inl (.int v6))] [.inl (.int s0)] d (Mo_gates_104 k33 k75 v1 v2 v3 v4 v6 s0 d) := by
  unfold Mo_gates_104
  refine z_istore (pc := 104) (ls1 := fun v => [(5, .inl (.int v)), (0, .inr (k, 34)), (1, .inl (.int v1)), (2, .inl (.int v2)), (3, .inl (.int v3)), (4, .inl (.int v4)), (6, .inl (.int v6))]) hC 5 (by decide) (fun v => rfl) dX6_gates_104 (fun v5_2 => ?_)
  refine z_iinc (pc := 106) (ls1 := fun v => [(6, .inl (.int v)), (5, .inl (.int v5_2)), (0, .inr (k, 34)), (1, .inl (.int v1)), (2, .inl (.int v2)), (3, .inl (.int v3)), (4, .inl (.int v4))]) hC 6 6 (by decide) (1 : Int32) rfl rfl (fun v => rfl) dX6_gates_106 (fun v6_3 => ?_)
  refine z_goto (pc := 109) hC 75 rfl dX6_gates_109 ?_
  exact z_sub [2, 3, 4, 5, 6, 1, 0] rfl (h75 v1 v2 v3 v4 v5_2 v6_3 d)
theorem r_Mo_gates_75 {C : Cxt} {G : Geo} {M : Mem} {k : Nat} (hC : Cx C cX6_gates 7 "FrameHeirsModel" (some .int) rm_X6_gates G) (hk : LMo G k) (k33 : Int32 → Int32 → Int32 → Int32 → Sl → Option (Int32 × Sl)) (h33 : ∀ (v1 : Int32) (v2 : Int32) (v3 : Int32) (v4 : Int32) (d : Sl), Rz C 7 G (setS M k) (poM avI (setS M k)) 33 [(0, .inr (k, 34)), (1, .inl (.int v1)), (2, .inl (.int v2)), (3, .inl (.int v3)), (4, .inl (.int v4))] [] d (k33 v1 v2 v3 v4 d)) : ∀ (n : Nat) (v1 : Int32) (v2 : Int32) (v3 : Int32) (v4 : Int32) (v5 : Int32) (v6 : Int32) (d : Sl), Rz C 7 G (setS M k) (poM avI (setS M k)) 75 [(0, .inr (k, 34)), (1, .inl (.int v1)), (2, .inl (.int v2)), (3, .inl (.int v3)), (4, .inl (.int v4)), (5, .inl (.int v5)), (6, .inl (.int v6))] [] d (Mo_gates_75 k33 n v1 v2 v3 v4 v5 v6 d) := by
  intro n
  induction n with
  | zero => intros; exact z_none
  | succ n ih =>
    intro v1 v2 v3 v4 v5 v6 d
    rw [Mo_gates_75]
    refine z_iload (pc := 75) hC 6 6 rfl dX6_gates_75 ?_
    refine z_aload_n (pc := 77) hC 0 rfl 0 rfl dX6_gates_77 ?_
    refine zs_geti (pc := 78) hC (hk 34 rfl) f_34_28 q1298 dX6_gates_78 ?_
    refine z_icmp_ge (pc := 81) hC 112 rfl dX6_gates_81 ?_ ?_
    · refine z_iload_n (pc := 112) hC 3 rfl 3 rfl dX6_gates_112 ?_
      refine z_iload (pc := 113) hC 5 5 rfl dX6_gates_113 ?_
      refine z_iadd (pc := 115) hC dX6_gates_115 ?_
      refine z_istore_n (pc := 116) (ls1 := fun v => [(3, .inl (.int v)), (0, .inr (k, 34)), (1, .inl (.int v1)), (2, .inl (.int v2)), (4, .inl (.int v4)), (5, .inl (.int v5)), (6, .inl (.int v6))]) hC 3 rfl (by decide) (fun v => rfl) dX6_gates_116 (fun v3_4 => ?_)
      exact z_sub [1, 2, 3, 0, 4] rfl (r_Mo_gates_117 hC hk k33 h33 v1 v2 v3_4 v4 d)
    · refine z_aload_n (pc := 84) hC 0 rfl 0 rfl dX6_gates_84 ?_
      refine z_getc (pc := 85) hC (hk 34 rfl) f_34_27 q1297 dX6_gates_85 ?_
      refine z_iload (pc := 88) hC 6 6 rfl dX6_gates_88 ?_
      refine zs_iald (pc := 90) hC (hk 46 rfl) rfl dX6_gates_90 ?_
      refine z_bipush (pc := 91) hC (32 : Int32) rfl dX6_gates_91 ?_
      refine z_idiv (pc := 93) hC dX6_gates_93 ?_
      refine z_iload_n (pc := 94) hC 2 rfl 2 rfl dX6_gates_94 ?_
      refine z_icmp_ne (pc := 95) hC 102 rfl dX6_gates_95 ?_ ?_
      · refine z_iload (pc := 102) hC 5 5 rfl dX6_gates_102 ?_
        exact z_sub [0, 1, 2, 3, 4, 6] rfl (r_Mo_gates_104 hC hk k33 h33 _ ih v1 v2 v3 v4 v6 v5 d)
      · refine z_iconst (pc := 98) hC (1 : Int32) rfl dX6_gates_98 ?_
        refine z_goto (pc := 99) hC 104 rfl dX6_gates_99 ?_
        exact z_sub [0, 1, 2, 3, 4, 6] rfl (r_Mo_gates_104 hC hk k33 h33 _ ih v1 v2 v3 v4 v6 (1 : Int32) d)
theorem r_Mo_gates_33 {C : Cxt} {G : Geo} {M : Mem} {k : Nat} (hC : Cx C cX6_gates 7 "FrameHeirsModel" (some .int) rm_X6_gates G) (hk : LMo G k) : ∀ (n : Nat) (v1 : Int32) (v2 : Int32) (v3 : Int32) (v4 : Int32) (d : Sl), Rz C 7 G (setS M k) (poM avI (setS M k)) 33 [(0, .inr (k, 34)), (1, .inl (.int v1)), (2, .inl (.int v2)), (3, .inl (.int v3)), (4, .inl (.int v4))] [] d (Mo_gates_33 n v1 v2 v3 v4 d) := by
  intro n
  induction n with
  | zero => intros; exact z_none
  | succ n ih =>
    intro v1 v2 v3 v4 d
    rw [Mo_gates_33]
    refine z_iload (pc := 33) hC 4 4 rfl dX6_gates_33 ?_
    refine z_sipush (pc := 35) hC (192 : Int32) rfl dX6_gates_35 ?_
    refine z_icmp_ge (pc := 38) hC 123 rfl dX6_gates_38 ?_ ?_
    · refine z_iload_n (pc := 123) hC 3 rfl 3 rfl dX6_gates_123 ?_
      exact z_iret (pc := 124) hC rfl dX6_gates_124
    · refine z_aload_n (pc := 41) hC 0 rfl 0 rfl dX6_gates_41 ?_
      refine z_iload (pc := 42) hC 4 4 rfl dX6_gates_42 ?_
      refine z_piV (pc := 44) (st := []) hC y_X6_isDeed q1520 [.inl (.int v4)] rfl (hk 34 rfl) rfl rfl (c_X6_isDeed hC.2.2.2.2.2.2.1 hk) rfl ⟨rfl, rfl, (Nat.le_of_ble_eq_true rfl), (Nat.le_of_ble_eq_true rfl)⟩ (Nat.le_of_ble_eq_true rfl) dX6_gates_44 (fun r5 => ?_)
      refine z_if_eq (pc := 47) hC 117 rfl dX6_gates_47 ?_ ?_
      · exact z_sub [0, 1, 2, 3, 4] rfl (r_Mo_gates_117 hC hk _ ih v1 v2 v3 v4 d)
      · refine z_aload_n (pc := 50) hC 0 rfl 0 rfl dX6_gates_50 ?_
        refine z_iload (pc := 51) hC 4 4 rfl dX6_gates_51 ?_
        refine z_iload_n (pc := 53) hC 1 rfl 1 rfl dX6_gates_53 ?_
        refine z_piV (pc := 54) (st := []) hC y_X6_isTopGate q1846 [.inl (.int v4), .inl (.int v1)] rfl (hk 34 rfl) rfl rfl (c_X6_isTopGate hC.2.2.2.2.2.2.1 hk) rfl ⟨rfl, rfl, (Nat.le_of_ble_eq_true rfl), (Nat.le_of_ble_eq_true rfl)⟩ (Nat.le_of_ble_eq_true rfl) dX6_gates_54 (fun r6 => ?_)
        refine z_if_ne (pc := 57) hC 63 rfl dX6_gates_57 ?_ ?_
        · refine z_aload_n (pc := 63) hC 0 rfl 0 rfl dX6_gates_63 ?_
          refine z_iload (pc := 64) hC 4 4 rfl dX6_gates_64 ?_
          refine z_cvV (pc := 66) (st := []) hC y_X6_tree q1644 [.inl (.int v4)] rfl (hk 34 rfl) rfl rfl (c_X6_tree hC.2.2.2.2.2.2.1 hk) rfl ⟨rfl, rfl, (Nat.le_of_ble_eq_true rfl), (Nat.le_of_ble_eq_true rfl)⟩ (Nat.le_of_ble_eq_true rfl) dX6_gates_66 (fun r7 d8 => ?_)
          refine z_iconst (pc := 69) hC (0 : Int32) rfl dX6_gates_69 ?_
          refine z_istore (pc := 70) (ls1 := fun v => [(5, .inl (.int v)), (0, .inr (k, 34)), (1, .inl (.int v1)), (2, .inl (.int v2)), (3, .inl (.int v3)), (4, .inl (.int v4))]) hC 5 (by decide) (fun v => rfl) dX6_gates_70 (fun v5_9 => ?_)
          refine z_iconst (pc := 72) hC (0 : Int32) rfl dX6_gates_72 ?_
          refine z_istore (pc := 73) (ls1 := fun v => [(6, .inl (.int v)), (5, .inl (.int v5_9)), (0, .inr (k, 34)), (1, .inl (.int v1)), (2, .inl (.int v2)), (3, .inl (.int v3)), (4, .inl (.int v4))]) hC 6 (by decide) (fun v => rfl) dX6_gates_73 (fun v6_10 => ?_)
          exact z_sub [2, 3, 4, 5, 6, 1, 0] rfl (r_Mo_gates_75 hC hk _ ih FU v1 v2 v3 v4 v5_9 v6_10 d8)
        · refine z_goto (pc := 60) hC 117 rfl dX6_gates_60 ?_
          exact z_sub [0, 1, 2, 3, 4] rfl (r_Mo_gates_117 hC hk _ ih v1 v2 v3 v4 d)
theorem r_Mo_gates {C : Cxt} {G : Geo} {M : Mem} {k : Nat} (hC : Cx C cX6_gates 7 "FrameHeirsModel" (some .int) rm_X6_gates G) (hk : LMo G k) (d : Sl) (a1 : Int32) (a2 : Int32) : Rz C 7 G (setS M k) (poM avI (setS M k)) 0 [(0, .inr (k, 34)), (1, .inl (.int a1)), (2, .inl (.int a2))] [] d (Mo_gates d a1 a2) := by
  unfold Mo_gates
  refine z_aload_n (pc := 0) hC 0 rfl 0 rfl dX6_gates_0 ?_
  refine z_iconst (pc := 1) hC (0 : Int32) rfl dX6_gates_1 ?_
  refine zs_puti (pc := 2) hC (hk 34 rfl) f_34_2 q1272 dX6_gates_2 (fun d11 => ?_)
  refine z_aload_n (pc := 5) hC 0 rfl 0 rfl dX6_gates_5 ?_
  refine z_iload_n (pc := 6) hC 1 rfl 1 rfl dX6_gates_6 ?_
  refine z_piV (pc := 7) (st := []) hC y_X6_isSpace q1484 [.inl (.int a1)] rfl (hk 34 rfl) rfl rfl (c_X6_isSpace hC.2.2.2.2.2.2.1 hk) rfl ⟨rfl, rfl, (Nat.le_of_ble_eq_true rfl), (Nat.le_of_ble_eq_true rfl)⟩ (Nat.le_of_ble_eq_true rfl) dX6_gates_7 (fun r12 => ?_)
  refine z_if_eq (pc := 10) hC 26 rfl dX6_gates_10 ?_ ?_
  · refine z_iconst (pc := 26) hC (-1 : Int32) rfl dX6_gates_26 ?_
    exact z_iret (pc := 27) hC rfl dX6_gates_27
  · refine z_aload_n (pc := 13) hC 0 rfl 0 rfl dX6_gates_13 ?_
    refine z_iload_n (pc := 14) hC 2 rfl 2 rfl dX6_gates_14 ?_
    refine z_piV (pc := 15) (st := []) hC y_X6_isSpace q1484 [.inl (.int a2)] rfl (hk 34 rfl) rfl rfl (c_X6_isSpace hC.2.2.2.2.2.2.1 hk) rfl ⟨rfl, rfl, (Nat.le_of_ble_eq_true rfl), (Nat.le_of_ble_eq_true rfl)⟩ (Nat.le_of_ble_eq_true rfl) dX6_gates_15 (fun r13 => ?_)
    refine z_if_eq (pc := 18) hC 26 rfl dX6_gates_18 ?_ ?_
    · refine z_iconst (pc := 26) hC (-1 : Int32) rfl dX6_gates_26 ?_
      exact z_iret (pc := 27) hC rfl dX6_gates_27
    · refine z_iload_n (pc := 21) hC 1 rfl 1 rfl dX6_gates_21 ?_
      refine z_iload_n (pc := 22) hC 2 rfl 2 rfl dX6_gates_22 ?_
      refine z_icmp_ne (pc := 23) hC 28 rfl dX6_gates_23 ?_ ?_
      · refine z_iconst (pc := 28) hC (0 : Int32) rfl dX6_gates_28 ?_
        refine z_istore_n (pc := 29) (ls1 := fun v => [(3, .inl (.int v)), (0, .inr (k, 34)), (1, .inl (.int a1)), (2, .inl (.int a2))]) hC 3 rfl (by decide) (fun v => rfl) dX6_gates_29 (fun v3_14 => ?_)
        refine z_iconst (pc := 30) hC (0 : Int32) rfl dX6_gates_30 ?_
        refine z_istore (pc := 31) (ls1 := fun v => [(4, .inl (.int v)), (3, .inl (.int v3_14)), (0, .inr (k, 34)), (1, .inl (.int a1)), (2, .inl (.int a2))]) hC 4 (by decide) (fun v => rfl) dX6_gates_31 (fun v4_15 => ?_)
        exact z_sub [2, 3, 4, 1, 0] rfl (r_Mo_gates_33 hC hk FU a1 a2 v3_14 v4_15 d11)
      · refine z_iconst (pc := 26) hC (-1 : Int32) rfl dX6_gates_26 ?_
        exact z_iret (pc := 27) hC rfl dX6_gates_27
theorem c_X6_gates {G : Geo} {M : Mem} {k : Nat} (hG : GOk G) (hk : LMo G k) {d : Sl} {a1 : Int32} {a2 : Int32} (l : Launch) (r : Int32) (d1 : Sl) (h : Mo_gates d a1 a2 = some (r, d1)) : Mt l yX6_gates cX6_gates 7 (some .int) rm_X6_gates G [.inr (k, 34), .inl (.int a1), .inl (.int a2)] ((setS M k) d) (avI r) ((setS M k) d1) :=
  mt_of (mem := (setS M k)) (po := poM avI (setS M k)) (x0 := d) (t := (r, d1)) rfl hG [.inr (k, 34), .inl (.int a1), .inl (.int a2)] (Nat.le_of_ble_eq_true rfl) rfl (fun C hC => r_Mo_gates hC hk d a1 a2) h
-- FrameHeirsModel.gap(II)I
abbrev rm_X6_gap : Room := { frames := 3, cells := 0, slots := 0, locals := 69 }
theorem dX6_gap_0 : decode cX6_gap 0 = .ok (.aload_n 0, 1) := by decide +kernel
theorem dX6_gap_1 : decode cX6_gap 1 = .ok (.iconst 0, 1) := by decide +kernel
theorem dX6_gap_2 : decode cX6_gap 2 = .ok (.putfield 61, 3) := by decide +kernel
theorem dX6_gap_5 : decode cX6_gap 5 = .ok (.aload_n 0, 1) := by decide +kernel
theorem dX6_gap_6 : decode cX6_gap 6 = .ok (.iload_n 1, 1) := by decide +kernel
theorem dX6_gap_7 : decode cX6_gap 7 = .ok (.invokevirtual 264, 3) := by decide +kernel
theorem dX6_gap_10 : decode cX6_gap 10 = .ok (.ifCond .eq 12, 3) := by decide +kernel
theorem dX6_gap_13 : decode cX6_gap 13 = .ok (.iload_n 2, 1) := by decide +kernel
theorem dX6_gap_14 : decode cX6_gap 14 = .ok (.iconst 0, 1) := by decide +kernel
theorem dX6_gap_15 : decode cX6_gap 15 = .ok (.iconst 3, 1) := by decide +kernel
theorem dX6_gap_16 : decode cX6_gap 16 = .ok (.invokestatic 137, 3) := by decide +kernel
theorem dX6_gap_19 : decode cX6_gap 19 = .ok (.ifCond .ne 5, 3) := by decide +kernel
theorem dX6_gap_22 : decode cX6_gap 22 = .ok (.iconst (-1), 1) := by decide +kernel
theorem dX6_gap_23 : decode cX6_gap 23 = .ok (.ireturn, 1) := by decide +kernel
theorem dX6_gap_24 : decode cX6_gap 24 = .ok (.iconst 0, 1) := by decide +kernel
theorem dX6_gap_25 : decode cX6_gap 25 = .ok (.istore_n 3, 1) := by decide +kernel
theorem dX6_gap_26 : decode cX6_gap 26 = .ok (.iload_n 3, 1) := by decide +kernel
theorem dX6_gap_27 : decode cX6_gap 27 = .ok (.aload_n 0, 1) := by decide +kernel
theorem dX6_gap_28 : decode cX6_gap 28 = .ok (.invokevirtual 126, 3) := by decide +kernel
theorem dX6_gap_31 : decode cX6_gap 31 = .ok (.if_icmp .ge 24, 3) := by decide +kernel
theorem dX6_gap_34 : decode cX6_gap 34 = .ok (.aload_n 0, 1) := by decide +kernel
theorem dX6_gap_35 : decode cX6_gap 35 = .ok (.iload_n 1, 1) := by decide +kernel
theorem dX6_gap_36 : decode cX6_gap 36 = .ok (.iload_n 3, 1) := by decide +kernel
theorem dX6_gap_37 : decode cX6_gap 37 = .ok (.iload_n 2, 1) := by decide +kernel
theorem dX6_gap_38 : decode cX6_gap 38 = .ok (.invokevirtual 276, 3) := by decide +kernel
theorem dX6_gap_41 : decode cX6_gap 41 = .ok (.ifCond .eq 5, 3) := by decide +kernel
theorem dX6_gap_44 : decode cX6_gap 44 = .ok (.iload_n 3, 1) := by decide +kernel
theorem dX6_gap_45 : decode cX6_gap 45 = .ok (.ireturn, 1) := by decide +kernel
theorem dX6_gap_46 : decode cX6_gap 46 = .ok (.iload_n 3, 1) := by decide +kernel
theorem dX6_gap_47 : decode cX6_gap 47 = .ok (.iconst 1, 1) := by decide +kernel
theorem dX6_gap_48 : decode cX6_gap 48 = .ok (.iload_n 2, 1) := by decide +kernel
theorem dX6_gap_49 : decode cX6_gap 49 = .ok (.ishl, 1) := by decide +kernel
theorem dX6_gap_50 : decode cX6_gap 50 = .ok (.iadd, 1) := by decide +kernel
theorem dX6_gap_51 : decode cX6_gap 51 = .ok (.istore_n 3, 1) := by decide +kernel
theorem dX6_gap_52 : decode cX6_gap 52 = .ok (.goto (-26), 3) := by decide +kernel
theorem dX6_gap_55 : decode cX6_gap 55 = .ok (.bipush (-2), 2) := by decide +kernel
theorem dX6_gap_57 : decode cX6_gap 57 = .ok (.ireturn, 1) := by decide +kernel
def Mo_gap_26 : Nat → Int32 → Int32 → Int32 → Sl → Option (Int32 × Sl)
  | 0, _, _, _, _ => none
  | n + 1, v1, v2, v3, d =>
    bp (Mo_size d) fun r1 =>
    if r1 ≤ v3 then
      (some ((-2 : Int32), d))
    else
      (bp (Mo_isFree d v1 v3 v2) fun r2 =>
      if r2 = 0 then
        (bnd (v3 + ((1 : Int32) <<< (v2 &&& 31))) fun v3_3 =>
        Mo_gap_26 n v1 v2 v3_3 d)
      else
        (some (v3, d)))
def Mo_gap (d : Sl) (a1 : Int32) (a2 : Int32) : Option (Int32 × Sl) :=
  bnd (wr d 34 2 (0 : Int32)) fun d4 =>
  bp (Mo_isSpace d4 a1) fun r5 =>
  if r5 = 0 then
    (some ((-1 : Int32), d4))
  else
    (bp (Mo_isIn a2 (0 : Int32) (3 : Int32)) fun r6 =>
    if r6 = 0 then
      (some ((-1 : Int32), d4))
    else
      (bnd (0 : Int32) fun v3_7 =>
      Mo_gap_26 FU a1 a2 v3_7 d4))
theorem y_X6_gap : YV yX6_gap cX6_gap 4 (some .int) 2 := ⟨q1855, q1856, q1857, q149, by decide +kernel, by decide +kernel, by decide +kernel, by decide +kernel⟩
theorem r_Mo_gap_26 {C : Cxt} {G : Geo} {M : Mem} {k : Nat} (hC : Cx C cX6_gap 4 "FrameHeirsModel" (some .int) rm_X6_gap G) (hk : LMo G k) : ∀ (n : Nat) (v1 : Int32) (v2 : Int32) (v3 : Int32) (d : Sl), Rz C 4 G (setS M k) (poM avI (setS M k)) 26 [(0, .inr (k, 34)), (1, .inl (.int v1)), (2, .inl (.int v2)), (3, .inl (.int v3))] [] d (Mo_gap_26 n v1 v2 v3 d) := by
  intro n
  induction n with
  | zero => intros; exact z_none
  | succ n ih =>
    intro v1 v2 v3 d
    rw [Mo_gap_26]
    refine z_iload_n (pc := 26) hC 3 rfl 3 rfl dX6_gap_26 ?_
    refine z_aload_n (pc := 27) hC 0 rfl 0 rfl dX6_gap_27 ?_
    refine z_piV (pc := 28) (st := [.inl (.int v3)]) hC y_X6_size q1250 [] rfl (hk 34 rfl) rfl rfl (c_X6_size hC.2.2.2.2.2.2.1 hk) rfl ⟨rfl, rfl, (Nat.le_of_ble_eq_true rfl), (Nat.le_of_ble_eq_true rfl)⟩ (Nat.le_of_ble_eq_true rfl) dX6_gap_28 (fun r1 => ?_)
    refine z_icmp_ge (pc := 31) hC 55 rfl dX6_gap_31 ?_ ?_
    · refine z_bipush (pc := 55) hC (-2 : Int32) rfl dX6_gap_55 ?_
      exact z_iret (pc := 57) hC rfl dX6_gap_57
    · refine z_aload_n (pc := 34) hC 0 rfl 0 rfl dX6_gap_34 ?_
      refine z_iload_n (pc := 35) hC 1 rfl 1 rfl dX6_gap_35 ?_
      refine z_iload_n (pc := 36) hC 3 rfl 3 rfl dX6_gap_36 ?_
      refine z_iload_n (pc := 37) hC 2 rfl 2 rfl dX6_gap_37 ?_
      refine z_piV (pc := 38) (st := []) hC y_X6_isFree q1536 [.inl (.int v1), .inl (.int v3), .inl (.int v2)] rfl (hk 34 rfl) rfl rfl (c_X6_isFree hC.2.2.2.2.2.2.1 hk) rfl ⟨rfl, rfl, (Nat.le_of_ble_eq_true rfl), (Nat.le_of_ble_eq_true rfl)⟩ (Nat.le_of_ble_eq_true rfl) dX6_gap_38 (fun r2 => ?_)
      refine z_if_eq (pc := 41) hC 46 rfl dX6_gap_41 ?_ ?_
      · refine z_iload_n (pc := 46) hC 3 rfl 3 rfl dX6_gap_46 ?_
        refine z_iconst (pc := 47) hC (1 : Int32) rfl dX6_gap_47 ?_
        refine z_iload_n (pc := 48) hC 2 rfl 2 rfl dX6_gap_48 ?_
        refine z_ishl (pc := 49) hC dX6_gap_49 ?_
        refine z_iadd (pc := 50) hC dX6_gap_50 ?_
        refine z_istore_n (pc := 51) (ls1 := fun v => [(3, .inl (.int v)), (0, .inr (k, 34)), (1, .inl (.int v1)), (2, .inl (.int v2))]) hC 3 rfl (by decide) (fun v => rfl) dX6_gap_51 (fun v3_3 => ?_)
        refine z_goto (pc := 52) hC 26 rfl dX6_gap_52 ?_
        exact z_sub [1, 2, 3, 0] rfl (ih v1 v2 v3_3 d)
      · refine z_iload_n (pc := 44) hC 3 rfl 3 rfl dX6_gap_44 ?_
        exact z_iret (pc := 45) hC rfl dX6_gap_45
theorem r_Mo_gap {C : Cxt} {G : Geo} {M : Mem} {k : Nat} (hC : Cx C cX6_gap 4 "FrameHeirsModel" (some .int) rm_X6_gap G) (hk : LMo G k) (d : Sl) (a1 : Int32) (a2 : Int32) : Rz C 4 G (setS M k) (poM avI (setS M k)) 0 [(0, .inr (k, 34)), (1, .inl (.int a1)), (2, .inl (.int a2))] [] d (Mo_gap d a1 a2) := by
  unfold Mo_gap
  refine z_aload_n (pc := 0) hC 0 rfl 0 rfl dX6_gap_0 ?_
  refine z_iconst (pc := 1) hC (0 : Int32) rfl dX6_gap_1 ?_
  refine zs_puti (pc := 2) hC (hk 34 rfl) f_34_2 q1272 dX6_gap_2 (fun d4 => ?_)
  refine z_aload_n (pc := 5) hC 0 rfl 0 rfl dX6_gap_5 ?_
  refine z_iload_n (pc := 6) hC 1 rfl 1 rfl dX6_gap_6 ?_
  refine z_piV (pc := 7) (st := []) hC y_X6_isSpace q1484 [.inl (.int a1)] rfl (hk 34 rfl) rfl rfl (c_X6_isSpace hC.2.2.2.2.2.2.1 hk) rfl ⟨rfl, rfl, (Nat.le_of_ble_eq_true rfl), (Nat.le_of_ble_eq_true rfl)⟩ (Nat.le_of_ble_eq_true rfl) dX6_gap_7 (fun r5 => ?_)
  refine z_if_eq (pc := 10) hC 22 rfl dX6_gap_10 ?_ ?_
  · refine z_iconst (pc := 22) hC (-1 : Int32) rfl dX6_gap_22 ?_
    exact z_iret (pc := 23) hC rfl dX6_gap_23
  · refine z_iload_n (pc := 13) hC 2 rfl 2 rfl dX6_gap_13 ?_
    refine z_iconst (pc := 14) hC (0 : Int32) rfl dX6_gap_14 ?_
    refine z_iconst (pc := 15) hC (3 : Int32) rfl dX6_gap_15 ?_
    refine z_piS (pc := 16) (st := []) hC y_X6_isIn q1429 [.inl (.int a2), .inl (.int (0 : Int32)), .inl (.int (3 : Int32))] rfl (c_X6_isIn hC.2.2.2.2.2.2.1) rfl ⟨rfl, rfl, (Nat.le_of_ble_eq_true rfl), (Nat.le_of_ble_eq_true rfl)⟩ (Nat.le_of_ble_eq_true rfl) dX6_gap_16 (fun r6 => ?_)
    refine z_if_ne (pc := 19) hC 24 rfl dX6_gap_19 ?_ ?_
    · refine z_iconst (pc := 24) hC (0 : Int32) rfl dX6_gap_24 ?_
      refine z_istore_n (pc := 25) (ls1 := fun v => [(3, .inl (.int v)), (0, .inr (k, 34)), (1, .inl (.int a1)), (2, .inl (.int a2))]) hC 3 rfl (by decide) (fun v => rfl) dX6_gap_25 (fun v3_7 => ?_)
      exact z_sub [1, 2, 3, 0] rfl (r_Mo_gap_26 hC hk FU a1 a2 v3_7 d4)
    · refine z_iconst (pc := 22) hC (-1 : Int32) rfl dX6_gap_22 ?_
      exact z_iret (pc := 23) hC rfl dX6_gap_23
theorem c_X6_gap {G : Geo} {M : Mem} {k : Nat} (hG : GOk G) (hk : LMo G k) {d : Sl} {a1 : Int32} {a2 : Int32} (l : Launch) (r : Int32) (d1 : Sl) (h : Mo_gap d a1 a2 = some (r, d1)) : Mt l yX6_gap cX6_gap 4 (some .int) rm_X6_gap G [.inr (k, 34), .inl (.int a1), .inl (.int a2)] ((setS M k) d) (avI r) ((setS M k) d1) :=
  mt_of (mem := (setS M k)) (po := poM avI (setS M k)) (x0 := d) (t := (r, d1)) rfl hG [.inr (k, 34), .inl (.int a1), .inl (.int a2)] (Nat.le_of_ble_eq_true rfl) rfl (fun C hC => r_Mo_gap hC hk d a1 a2) h
-- FrameHeirsModel.free(I)I
abbrev rm_X6_free : Room := { frames := 4, cells := 0, slots := 0, locals := 86 }
theorem dX6_free_0 : decode cX6_free 0 = .ok (.aload_n 0, 1) := by decide +kernel
theorem dX6_free_1 : decode cX6_free 1 = .ok (.iconst 0, 1) := by decide +kernel
theorem dX6_free_2 : decode cX6_free 2 = .ok (.putfield 61, 3) := by decide +kernel
theorem dX6_free_5 : decode cX6_free 5 = .ok (.aload_n 0, 1) := by decide +kernel
theorem dX6_free_6 : decode cX6_free 6 = .ok (.iload_n 1, 1) := by decide +kernel
theorem dX6_free_7 : decode cX6_free 7 = .ok (.invokevirtual 264, 3) := by decide +kernel
theorem dX6_free_10 : decode cX6_free 10 = .ok (.ifCond .ne 5, 3) := by decide +kernel
theorem dX6_free_13 : decode cX6_free 13 = .ok (.iconst (-1), 1) := by decide +kernel
theorem dX6_free_14 : decode cX6_free 14 = .ok (.ireturn, 1) := by decide +kernel
theorem dX6_free_15 : decode cX6_free 15 = .ok (.aload_n 0, 1) := by decide +kernel
theorem dX6_free_16 : decode cX6_free 16 = .ok (.iload_n 1, 1) := by decide +kernel
theorem dX6_free_17 : decode cX6_free 17 = .ok (.invokevirtual 282, 3) := by decide +kernel
theorem dX6_free_20 : decode cX6_free 20 = .ok (.aload_n 0, 1) := by decide +kernel
theorem dX6_free_21 : decode cX6_free 21 = .ok (.invokevirtual 126, 3) := by decide +kernel
theorem dX6_free_24 : decode cX6_free 24 = .ok (.if_icmp .ge 11, 3) := by decide +kernel
theorem dX6_free_27 : decode cX6_free 27 = .ok (.aload_n 0, 1) := by decide +kernel
theorem dX6_free_28 : decode cX6_free 28 = .ok (.iload_n 1, 1) := by decide +kernel
theorem dX6_free_29 : decode cX6_free 29 = .ok (.invokevirtual 282, 3) := by decide +kernel
theorem dX6_free_32 : decode cX6_free 32 = .ok (.goto 7, 3) := by decide +kernel
theorem dX6_free_35 : decode cX6_free 35 = .ok (.aload_n 0, 1) := by decide +kernel
theorem dX6_free_36 : decode cX6_free 36 = .ok (.invokevirtual 126, 3) := by decide +kernel
theorem dX6_free_39 : decode cX6_free 39 = .ok (.istore_n 2, 1) := by decide +kernel
theorem dX6_free_40 : decode cX6_free 40 = .ok (.iload_n 2, 1) := by decide +kernel
theorem dX6_free_41 : decode cX6_free 41 = .ok (.aload_n 0, 1) := by decide +kernel
theorem dX6_free_42 : decode cX6_free 42 = .ok (.iload_n 1, 1) := by decide +kernel
theorem dX6_free_43 : decode cX6_free 43 = .ok (.invokevirtual 279, 3) := by decide +kernel
theorem dX6_free_46 : decode cX6_free 46 = .ok (.isub, 1) := by decide +kernel
theorem dX6_free_47 : decode cX6_free 47 = .ok (.ireturn, 1) := by decide +kernel
def Mo_free_39 (v1 : Int32) (s0 : Int32) (d : Sl) : Option (Int32 × Sl) :=
  bnd s0 fun v2_1 =>
  bp (Mo_pagesIn d v1) fun r2 =>
  some ((v2_1 - r2), d)
def Mo_free (d : Sl) (a1 : Int32) : Option (Int32 × Sl) :=
  bnd (wr d 34 2 (0 : Int32)) fun d3 =>
  bp (Mo_isSpace d3 a1) fun r4 =>
  if r4 = 0 then
    (some ((-1 : Int32), d3))
  else
    (bp (Mo_mostOf d3 a1) fun r5 =>
    bp (Mo_size d3) fun r6 =>
    if r6 ≤ r5 then
      (bp (Mo_size d3) fun r7 =>
      Mo_free_39 a1 r7 d3)
    else
      (bp (Mo_mostOf d3 a1) fun r8 =>
      Mo_free_39 a1 r8 d3))
theorem y_X6_free : YV yX6_free cX6_free 3 (some .int) 1 := ⟨q1859, q1860, q1861, q149, by decide +kernel, by decide +kernel, by decide +kernel, by decide +kernel⟩
theorem r_Mo_free_39 {C : Cxt} {G : Geo} {M : Mem} {k : Nat} (hC : Cx C cX6_free 3 "FrameHeirsModel" (some .int) rm_X6_free G) (hk : LMo G k) (v1 : Int32) (s0 : Int32) (d : Sl) : Rz C 3 G (setS M k) (poM avI (setS M k)) 39 [(0, .inr (k, 34)), (1, .inl (.int v1))] [.inl (.int s0)] d (Mo_free_39 v1 s0 d) := by
  unfold Mo_free_39
  refine z_istore_n (pc := 39) (ls1 := fun v => [(2, .inl (.int v)), (0, .inr (k, 34)), (1, .inl (.int v1))]) hC 2 rfl (by decide) (fun v => rfl) dX6_free_39 (fun v2_1 => ?_)
  refine z_iload_n (pc := 40) hC 2 rfl 0 rfl dX6_free_40 ?_
  refine z_aload_n (pc := 41) hC 0 rfl 1 rfl dX6_free_41 ?_
  refine z_iload_n (pc := 42) hC 1 rfl 2 rfl dX6_free_42 ?_
  refine z_piV (pc := 43) (st := [.inl (.int v2_1)]) hC y_X6_pagesIn q1544 [.inl (.int v1)] rfl (hk 34 rfl) rfl rfl (c_X6_pagesIn hC.2.2.2.2.2.2.1 hk) rfl ⟨rfl, rfl, (Nat.le_of_ble_eq_true rfl), (Nat.le_of_ble_eq_true rfl)⟩ (Nat.le_of_ble_eq_true rfl) dX6_free_43 (fun r2 => ?_)
  refine z_isub (pc := 46) hC dX6_free_46 ?_
  exact z_iret (pc := 47) hC rfl dX6_free_47
theorem r_Mo_free {C : Cxt} {G : Geo} {M : Mem} {k : Nat} (hC : Cx C cX6_free 3 "FrameHeirsModel" (some .int) rm_X6_free G) (hk : LMo G k) (d : Sl) (a1 : Int32) : Rz C 3 G (setS M k) (poM avI (setS M k)) 0 [(0, .inr (k, 34)), (1, .inl (.int a1))] [] d (Mo_free d a1) := by
  unfold Mo_free
  refine z_aload_n (pc := 0) hC 0 rfl 0 rfl dX6_free_0 ?_
  refine z_iconst (pc := 1) hC (0 : Int32) rfl dX6_free_1 ?_
  refine zs_puti (pc := 2) hC (hk 34 rfl) f_34_2 q1272 dX6_free_2 (fun d3 => ?_)
  refine z_aload_n (pc := 5) hC 0 rfl 0 rfl dX6_free_5 ?_
  refine z_iload_n (pc := 6) hC 1 rfl 1 rfl dX6_free_6 ?_
  refine z_piV (pc := 7) (st := []) hC y_X6_isSpace q1484 [.inl (.int a1)] rfl (hk 34 rfl) rfl rfl (c_X6_isSpace hC.2.2.2.2.2.2.1 hk) rfl ⟨rfl, rfl, (Nat.le_of_ble_eq_true rfl), (Nat.le_of_ble_eq_true rfl)⟩ (Nat.le_of_ble_eq_true rfl) dX6_free_7 (fun r4 => ?_)
  refine z_if_ne (pc := 10) hC 15 rfl dX6_free_10 ?_ ?_
  · refine z_aload_n (pc := 15) hC 0 rfl 0 rfl dX6_free_15 ?_
    refine z_iload_n (pc := 16) hC 1 rfl 1 rfl dX6_free_16 ?_
    refine z_piV (pc := 17) (st := []) hC y_X6_mostOf q1548 [.inl (.int a1)] rfl (hk 34 rfl) rfl rfl (c_X6_mostOf hC.2.2.2.2.2.2.1 hk) rfl ⟨rfl, rfl, (Nat.le_of_ble_eq_true rfl), (Nat.le_of_ble_eq_true rfl)⟩ (Nat.le_of_ble_eq_true rfl) dX6_free_17 (fun r5 => ?_)
    refine z_aload_n (pc := 20) hC 0 rfl 0 rfl dX6_free_20 ?_
    refine z_piV (pc := 21) (st := [.inl (.int r5)]) hC y_X6_size q1250 [] rfl (hk 34 rfl) rfl rfl (c_X6_size hC.2.2.2.2.2.2.1 hk) rfl ⟨rfl, rfl, (Nat.le_of_ble_eq_true rfl), (Nat.le_of_ble_eq_true rfl)⟩ (Nat.le_of_ble_eq_true rfl) dX6_free_21 (fun r6 => ?_)
    refine z_icmp_ge (pc := 24) hC 35 rfl dX6_free_24 ?_ ?_
    · refine z_aload_n (pc := 35) hC 0 rfl 0 rfl dX6_free_35 ?_
      refine z_piV (pc := 36) (st := []) hC y_X6_size q1250 [] rfl (hk 34 rfl) rfl rfl (c_X6_size hC.2.2.2.2.2.2.1 hk) rfl ⟨rfl, rfl, (Nat.le_of_ble_eq_true rfl), (Nat.le_of_ble_eq_true rfl)⟩ (Nat.le_of_ble_eq_true rfl) dX6_free_36 (fun r7 => ?_)
      exact z_sub [0, 1] rfl (r_Mo_free_39 hC hk a1 r7 d3)
    · refine z_aload_n (pc := 27) hC 0 rfl 0 rfl dX6_free_27 ?_
      refine z_iload_n (pc := 28) hC 1 rfl 1 rfl dX6_free_28 ?_
      refine z_piV (pc := 29) (st := []) hC y_X6_mostOf q1548 [.inl (.int a1)] rfl (hk 34 rfl) rfl rfl (c_X6_mostOf hC.2.2.2.2.2.2.1 hk) rfl ⟨rfl, rfl, (Nat.le_of_ble_eq_true rfl), (Nat.le_of_ble_eq_true rfl)⟩ (Nat.le_of_ble_eq_true rfl) dX6_free_29 (fun r8 => ?_)
      refine z_goto (pc := 32) hC 39 rfl dX6_free_32 ?_
      exact z_sub [0, 1] rfl (r_Mo_free_39 hC hk a1 r8 d3)
  · refine z_iconst (pc := 13) hC (-1 : Int32) rfl dX6_free_13 ?_
    exact z_iret (pc := 14) hC rfl dX6_free_14
theorem c_X6_free {G : Geo} {M : Mem} {k : Nat} (hG : GOk G) (hk : LMo G k) {d : Sl} {a1 : Int32} (l : Launch) (r : Int32) (d1 : Sl) (h : Mo_free d a1 = some (r, d1)) : Mt l yX6_free cX6_free 3 (some .int) rm_X6_free G [.inr (k, 34), .inl (.int a1)] ((setS M k) d) (avI r) ((setS M k) d1) :=
  mt_of (mem := (setS M k)) (po := poM avI (setS M k)) (x0 := d) (t := (r, d1)) rfl hG [.inr (k, 34), .inl (.int a1)] (Nat.le_of_ble_eq_true rfl) rfl (fun C hC => r_Mo_free hC hk d a1) h
-- FrameHeirsModel.coldest(I)I
abbrev rm_X6_coldest : Room := { frames := 5, cells := 0, slots := 0, locals := 112 }
theorem dX6_coldest_0 : decode cX6_coldest 0 = .ok (.aload_n 0, 1) := by decide +kernel
theorem dX6_coldest_1 : decode cX6_coldest 1 = .ok (.iconst 0, 1) := by decide +kernel
theorem dX6_coldest_2 : decode cX6_coldest 2 = .ok (.putfield 61, 3) := by decide +kernel
theorem dX6_coldest_5 : decode cX6_coldest 5 = .ok (.aload_n 0, 1) := by decide +kernel
theorem dX6_coldest_6 : decode cX6_coldest 6 = .ok (.iload_n 1, 1) := by decide +kernel
theorem dX6_coldest_7 : decode cX6_coldest 7 = .ok (.invokevirtual 264, 3) := by decide +kernel
theorem dX6_coldest_10 : decode cX6_coldest 10 = .ok (.ifCond .ne 5, 3) := by decide +kernel
theorem dX6_coldest_13 : decode cX6_coldest 13 = .ok (.iconst (-1), 1) := by decide +kernel
theorem dX6_coldest_14 : decode cX6_coldest 14 = .ok (.ireturn, 1) := by decide +kernel
theorem dX6_coldest_15 : decode cX6_coldest 15 = .ok (.aload_n 0, 1) := by decide +kernel
theorem dX6_coldest_16 : decode cX6_coldest 16 = .ok (.iload_n 1, 1) := by decide +kernel
theorem dX6_coldest_17 : decode cX6_coldest 17 = .ok (.iconst 0, 1) := by decide +kernel
theorem dX6_coldest_18 : decode cX6_coldest 18 = .ok (.invokevirtual 407, 3) := by decide +kernel
theorem dX6_coldest_21 : decode cX6_coldest 21 = .ok (.istore_n 2, 1) := by decide +kernel
theorem dX6_coldest_22 : decode cX6_coldest 22 = .ok (.iload_n 2, 1) := by decide +kernel
theorem dX6_coldest_23 : decode cX6_coldest 23 = .ok (.ifCond .ge 8, 3) := by decide +kernel
theorem dX6_coldest_26 : decode cX6_coldest 26 = .ok (.bipush (-2), 2) := by decide +kernel
theorem dX6_coldest_28 : decode cX6_coldest 28 = .ok (.goto 7, 3) := by decide +kernel
theorem dX6_coldest_31 : decode cX6_coldest 31 = .ok (.iload_n 2, 1) := by decide +kernel
theorem dX6_coldest_32 : decode cX6_coldest 32 = .ok (.bipush 32, 2) := by decide +kernel
theorem dX6_coldest_34 : decode cX6_coldest 34 = .ok (.irem, 1) := by decide +kernel
theorem dX6_coldest_35 : decode cX6_coldest 35 = .ok (.ireturn, 1) := by decide +kernel
def Mo_coldest (d : Sl) (a1 : Int32) : Option (Int32 × Sl) :=
  bnd (wr d 34 2 (0 : Int32)) fun d1 =>
  bp (Mo_isSpace d1 a1) fun r2 =>
  if r2 = 0 then
    (some ((-1 : Int32), d1))
  else
    (bp (Mo_coldestOf d1 a1 (0 : Int32)) fun r3 =>
    bnd r3 fun v2_4 =>
    if 0 ≤ v2_4 then
      (if ¬ (32 : Int32) = 0 then
      some ((v2_4 - v2_4 / (32 : Int32) * (32 : Int32)), d1)
      else none)
    else
      (some ((-2 : Int32), d1)))
theorem y_X6_coldest : YV yX6_coldest cX6_coldest 3 (some .int) 1 := ⟨q1863, q1864, q1865, q149, by decide +kernel, by decide +kernel, by decide +kernel, by decide +kernel⟩
theorem r_Mo_coldest {C : Cxt} {G : Geo} {M : Mem} {k : Nat} (hC : Cx C cX6_coldest 3 "FrameHeirsModel" (some .int) rm_X6_coldest G) (hk : LMo G k) (d : Sl) (a1 : Int32) : Rz C 3 G (setS M k) (poM avI (setS M k)) 0 [(0, .inr (k, 34)), (1, .inl (.int a1))] [] d (Mo_coldest d a1) := by
  unfold Mo_coldest
  refine z_aload_n (pc := 0) hC 0 rfl 0 rfl dX6_coldest_0 ?_
  refine z_iconst (pc := 1) hC (0 : Int32) rfl dX6_coldest_1 ?_
  refine zs_puti (pc := 2) hC (hk 34 rfl) f_34_2 q1272 dX6_coldest_2 (fun d1 => ?_)
  refine z_aload_n (pc := 5) hC 0 rfl 0 rfl dX6_coldest_5 ?_
  refine z_iload_n (pc := 6) hC 1 rfl 1 rfl dX6_coldest_6 ?_
  refine z_piV (pc := 7) (st := []) hC y_X6_isSpace q1484 [.inl (.int a1)] rfl (hk 34 rfl) rfl rfl (c_X6_isSpace hC.2.2.2.2.2.2.1 hk) rfl ⟨rfl, rfl, (Nat.le_of_ble_eq_true rfl), (Nat.le_of_ble_eq_true rfl)⟩ (Nat.le_of_ble_eq_true rfl) dX6_coldest_7 (fun r2 => ?_)
  refine z_if_ne (pc := 10) hC 15 rfl dX6_coldest_10 ?_ ?_
  · refine z_aload_n (pc := 15) hC 0 rfl 0 rfl dX6_coldest_15 ?_
    refine z_iload_n (pc := 16) hC 1 rfl 1 rfl dX6_coldest_16 ?_
    refine z_iconst (pc := 17) hC (0 : Int32) rfl dX6_coldest_17 ?_
    refine z_piV (pc := 18) (st := []) hC y_X6_coldestOf q1745 [.inl (.int a1), .inl (.int (0 : Int32))] rfl (hk 34 rfl) rfl rfl (c_X6_coldestOf hC.2.2.2.2.2.2.1 hk) rfl ⟨rfl, rfl, (Nat.le_of_ble_eq_true rfl), (Nat.le_of_ble_eq_true rfl)⟩ (Nat.le_of_ble_eq_true rfl) dX6_coldest_18 (fun r3 => ?_)
    refine z_istore_n (pc := 21) (ls1 := fun v => [(2, .inl (.int v)), (0, .inr (k, 34)), (1, .inl (.int a1))]) hC 2 rfl (by decide) (fun v => rfl) dX6_coldest_21 (fun v2_4 => ?_)
    refine z_iload_n (pc := 22) hC 2 rfl 0 rfl dX6_coldest_22 ?_
    refine z_if_ge (pc := 23) hC 31 rfl dX6_coldest_23 ?_ ?_
    · refine z_iload_n (pc := 31) hC 2 rfl 0 rfl dX6_coldest_31 ?_
      refine z_bipush (pc := 32) hC (32 : Int32) rfl dX6_coldest_32 ?_
      refine z_irem (pc := 34) hC dX6_coldest_34 ?_
      exact z_iret (pc := 35) hC rfl dX6_coldest_35
    · refine z_bipush (pc := 26) hC (-2 : Int32) rfl dX6_coldest_26 ?_
      refine z_goto (pc := 28) hC 35 rfl dX6_coldest_28 ?_
      exact z_iret (pc := 35) hC rfl dX6_coldest_35
  · refine z_iconst (pc := 13) hC (-1 : Int32) rfl dX6_coldest_13 ?_
    exact z_iret (pc := 14) hC rfl dX6_coldest_14
theorem c_X6_coldest {G : Geo} {M : Mem} {k : Nat} (hG : GOk G) (hk : LMo G k) {d : Sl} {a1 : Int32} (l : Launch) (r : Int32) (d1 : Sl) (h : Mo_coldest d a1 = some (r, d1)) : Mt l yX6_coldest cX6_coldest 3 (some .int) rm_X6_coldest G [.inr (k, 34), .inl (.int a1)] ((setS M k) d) (avI r) ((setS M k) d1) :=
  mt_of (mem := (setS M k)) (po := poM avI (setS M k)) (x0 := d) (t := (r, d1)) rfl hG [.inr (k, 34), .inl (.int a1)] (Nat.le_of_ble_eq_true rfl) rfl (fun C hC => r_Mo_coldest hC hk d a1) h
-- FrameHeirsModel.age(II)I
abbrev rm_X6_age : Room := { frames := 2, cells := 0, slots := 0, locals := 45 }
theorem dX6_age_0 : decode cX6_age 0 = .ok (.aload_n 0, 1) := by decide +kernel
theorem dX6_age_1 : decode cX6_age 1 = .ok (.iconst 0, 1) := by decide +kernel
theorem dX6_age_2 : decode cX6_age 2 = .ok (.putfield 61, 3) := by decide +kernel
theorem dX6_age_5 : decode cX6_age 5 = .ok (.aload_n 0, 1) := by decide +kernel
theorem dX6_age_6 : decode cX6_age 6 = .ok (.iload_n 1, 1) := by decide +kernel
theorem dX6_age_7 : decode cX6_age 7 = .ok (.invokevirtual 264, 3) := by decide +kernel
theorem dX6_age_10 : decode cX6_age 10 = .ok (.ifCond .eq 11, 3) := by decide +kernel
theorem dX6_age_13 : decode cX6_age 13 = .ok (.aload_n 0, 1) := by decide +kernel
theorem dX6_age_14 : decode cX6_age 14 = .ok (.iload_n 2, 1) := by decide +kernel
theorem dX6_age_15 : decode cX6_age 15 = .ok (.invokevirtual 252, 3) := by decide +kernel
theorem dX6_age_18 : decode cX6_age 18 = .ok (.ifCond .ne 5, 3) := by decide +kernel
theorem dX6_age_21 : decode cX6_age 21 = .ok (.iconst (-1), 1) := by decide +kernel
theorem dX6_age_22 : decode cX6_age 22 = .ok (.ireturn, 1) := by decide +kernel
theorem dX6_age_23 : decode cX6_age 23 = .ok (.aload_n 0, 1) := by decide +kernel
theorem dX6_age_24 : decode cX6_age 24 = .ok (.iload_n 1, 1) := by decide +kernel
theorem dX6_age_25 : decode cX6_age 25 = .ok (.iload_n 2, 1) := by decide +kernel
theorem dX6_age_26 : decode cX6_age 26 = .ok (.invokevirtual 199, 3) := by decide +kernel
theorem dX6_age_29 : decode cX6_age 29 = .ok (.istore_n 3, 1) := by decide +kernel
theorem dX6_age_30 : decode cX6_age 30 = .ok (.iload_n 3, 1) := by decide +kernel
theorem dX6_age_31 : decode cX6_age 31 = .ok (.ifCond .ge 8, 3) := by decide +kernel
theorem dX6_age_34 : decode cX6_age 34 = .ok (.bipush (-2), 2) := by decide +kernel
theorem dX6_age_36 : decode cX6_age 36 = .ok (.goto 12, 3) := by decide +kernel
theorem dX6_age_39 : decode cX6_age 39 = .ok (.aload_n 0, 1) := by decide +kernel
theorem dX6_age_40 : decode cX6_age 40 = .ok (.sipush 1536, 3) := by decide +kernel
theorem dX6_age_43 : decode cX6_age 43 = .ok (.iload_n 3, 1) := by decide +kernel
theorem dX6_age_44 : decode cX6_age 44 = .ok (.iadd, 1) := by decide +kernel
theorem dX6_age_45 : decode cX6_age 45 = .ok (.invokevirtual 189, 3) := by decide +kernel
theorem dX6_age_48 : decode cX6_age 48 = .ok (.ireturn, 1) := by decide +kernel
def Mo_age (d : Sl) (a1 : Int32) (a2 : Int32) : Option (Int32 × Sl) :=
  bnd (wr d 34 2 (0 : Int32)) fun d1 =>
  bp (Mo_isSpace d1 a1) fun r2 =>
  if r2 = 0 then
    (some ((-1 : Int32), d1))
  else
    (bp (Mo_isPlace d1 a2) fun r3 =>
    if r3 = 0 then
      (some ((-1 : Int32), d1))
    else
      (bp (Mo_cover d1 a1 a2) fun r4 =>
      bnd r4 fun v3_5 =>
      if 0 ≤ v3_5 then
        (bp (Mo_of d1 ((1536 : Int32) + v3_5)) fun r6 =>
        some (r6, d1))
      else
        (some ((-2 : Int32), d1))))
theorem y_X6_age : YV yX6_age cX6_age 4 (some .int) 2 := ⟨q1867, q1868, q1869, q149, by decide +kernel, by decide +kernel, by decide +kernel, by decide +kernel⟩
theorem r_Mo_age {C : Cxt} {G : Geo} {M : Mem} {k : Nat} (hC : Cx C cX6_age 4 "FrameHeirsModel" (some .int) rm_X6_age G) (hk : LMo G k) (d : Sl) (a1 : Int32) (a2 : Int32) : Rz C 4 G (setS M k) (poM avI (setS M k)) 0 [(0, .inr (k, 34)), (1, .inl (.int a1)), (2, .inl (.int a2))] [] d (Mo_age d a1 a2) := by
  unfold Mo_age
  refine z_aload_n (pc := 0) hC 0 rfl 0 rfl dX6_age_0 ?_
  refine z_iconst (pc := 1) hC (0 : Int32) rfl dX6_age_1 ?_
  refine zs_puti (pc := 2) hC (hk 34 rfl) f_34_2 q1272 dX6_age_2 (fun d1 => ?_)
  refine z_aload_n (pc := 5) hC 0 rfl 0 rfl dX6_age_5 ?_
  refine z_iload_n (pc := 6) hC 1 rfl 1 rfl dX6_age_6 ?_
  refine z_piV (pc := 7) (st := []) hC y_X6_isSpace q1484 [.inl (.int a1)] rfl (hk 34 rfl) rfl rfl (c_X6_isSpace hC.2.2.2.2.2.2.1 hk) rfl ⟨rfl, rfl, (Nat.le_of_ble_eq_true rfl), (Nat.le_of_ble_eq_true rfl)⟩ (Nat.le_of_ble_eq_true rfl) dX6_age_7 (fun r2 => ?_)
  refine z_if_eq (pc := 10) hC 21 rfl dX6_age_10 ?_ ?_
  · refine z_iconst (pc := 21) hC (-1 : Int32) rfl dX6_age_21 ?_
    exact z_iret (pc := 22) hC rfl dX6_age_22
  · refine z_aload_n (pc := 13) hC 0 rfl 0 rfl dX6_age_13 ?_
    refine z_iload_n (pc := 14) hC 2 rfl 2 rfl dX6_age_14 ?_
    refine z_piV (pc := 15) (st := []) hC y_X6_isPlace q1496 [.inl (.int a2)] rfl (hk 34 rfl) rfl rfl (c_X6_isPlace hC.2.2.2.2.2.2.1 hk) rfl ⟨rfl, rfl, (Nat.le_of_ble_eq_true rfl), (Nat.le_of_ble_eq_true rfl)⟩ (Nat.le_of_ble_eq_true rfl) dX6_age_15 (fun r3 => ?_)
    refine z_if_ne (pc := 18) hC 23 rfl dX6_age_18 ?_ ?_
    · refine z_aload_n (pc := 23) hC 0 rfl 0 rfl dX6_age_23 ?_
      refine z_iload_n (pc := 24) hC 1 rfl 1 rfl dX6_age_24 ?_
      refine z_iload_n (pc := 25) hC 2 rfl 2 rfl dX6_age_25 ?_
      refine z_piV (pc := 26) (st := []) hC y_X6_cover q1512 [.inl (.int a1), .inl (.int a2)] rfl (hk 34 rfl) rfl rfl (c_X6_cover hC.2.2.2.2.2.2.1 hk) rfl ⟨rfl, rfl, (Nat.le_of_ble_eq_true rfl), (Nat.le_of_ble_eq_true rfl)⟩ (Nat.le_of_ble_eq_true rfl) dX6_age_26 (fun r4 => ?_)
      refine z_istore_n (pc := 29) (ls1 := fun v => [(3, .inl (.int v)), (0, .inr (k, 34)), (1, .inl (.int a1)), (2, .inl (.int a2))]) hC 3 rfl (by decide) (fun v => rfl) dX6_age_29 (fun v3_5 => ?_)
      refine z_iload_n (pc := 30) hC 3 rfl 0 rfl dX6_age_30 ?_
      refine z_if_ge (pc := 31) hC 39 rfl dX6_age_31 ?_ ?_
      · refine z_aload_n (pc := 39) hC 0 rfl 1 rfl dX6_age_39 ?_
        refine z_sipush (pc := 40) hC (1536 : Int32) rfl dX6_age_40 ?_
        refine z_iload_n (pc := 43) hC 3 rfl 0 rfl dX6_age_43 ?_
        refine z_iadd (pc := 44) hC dX6_age_44 ?_
        refine z_piV (pc := 45) (st := []) hC y_X6_of q1262 [.inl (.int ((1536 : Int32) + v3_5))] rfl (hk 34 rfl) rfl rfl (c_X6_of hC.2.2.2.2.2.2.1 hk) rfl ⟨rfl, rfl, (Nat.le_of_ble_eq_true rfl), (Nat.le_of_ble_eq_true rfl)⟩ (Nat.le_of_ble_eq_true rfl) dX6_age_45 (fun r6 => ?_)
        exact z_iret (pc := 48) hC rfl dX6_age_48
      · refine z_bipush (pc := 34) hC (-2 : Int32) rfl dX6_age_34 ?_
        refine z_goto (pc := 36) hC 48 rfl dX6_age_36 ?_
        exact z_iret (pc := 48) hC rfl dX6_age_48
    · refine z_iconst (pc := 21) hC (-1 : Int32) rfl dX6_age_21 ?_
      exact z_iret (pc := 22) hC rfl dX6_age_22
theorem c_X6_age {G : Geo} {M : Mem} {k : Nat} (hG : GOk G) (hk : LMo G k) {d : Sl} {a1 : Int32} {a2 : Int32} (l : Launch) (r : Int32) (d1 : Sl) (h : Mo_age d a1 a2 = some (r, d1)) : Mt l yX6_age cX6_age 4 (some .int) rm_X6_age G [.inr (k, 34), .inl (.int a1), .inl (.int a2)] ((setS M k) d) (avI r) ((setS M k) d1) :=
  mt_of (mem := (setS M k)) (po := poM avI (setS M k)) (x0 := d) (t := (r, d1)) rfl hG [.inr (k, 34), .inl (.int a1), .inl (.int a2)] (Nat.le_of_ble_eq_true rfl) rfl (fun C hC => r_Mo_age hC hk d a1 a2) h
-- FrameHeirsModel.warmth(I)I
abbrev rm_X6_warmth : Room := { frames := 4, cells := 0, slots := 0, locals := 87 }
theorem dX6_warmth_0 : decode cX6_warmth 0 = .ok (.aload_n 0, 1) := by decide +kernel
theorem dX6_warmth_1 : decode cX6_warmth 1 = .ok (.iconst 0, 1) := by decide +kernel
theorem dX6_warmth_2 : decode cX6_warmth 2 = .ok (.putfield 61, 3) := by decide +kernel
theorem dX6_warmth_5 : decode cX6_warmth 5 = .ok (.aload_n 0, 1) := by decide +kernel
theorem dX6_warmth_6 : decode cX6_warmth 6 = .ok (.iload_n 1, 1) := by decide +kernel
theorem dX6_warmth_7 : decode cX6_warmth 7 = .ok (.invokevirtual 264, 3) := by decide +kernel
theorem dX6_warmth_10 : decode cX6_warmth 10 = .ok (.ifCond .eq 11, 3) := by decide +kernel
theorem dX6_warmth_13 : decode cX6_warmth 13 = .ok (.aload_n 0, 1) := by decide +kernel
theorem dX6_warmth_14 : decode cX6_warmth 14 = .ok (.iload_n 1, 1) := by decide +kernel
theorem dX6_warmth_15 : decode cX6_warmth 15 = .ok (.invokevirtual 457, 3) := by decide +kernel
theorem dX6_warmth_18 : decode cX6_warmth 18 = .ok (.goto 4, 3) := by decide +kernel
theorem dX6_warmth_21 : decode cX6_warmth 21 = .ok (.iconst (-1), 1) := by decide +kernel
theorem dX6_warmth_22 : decode cX6_warmth 22 = .ok (.ireturn, 1) := by decide +kernel
def Mo_warmth (d : Sl) (a1 : Int32) : Option (Int32 × Sl) :=
  bnd (wr d 34 2 (0 : Int32)) fun d1 =>
  bp (Mo_isSpace d1 a1) fun r2 =>
  if r2 = 0 then
    (some ((-1 : Int32), d1))
  else
    (bp (Mo_warmthOf d1 a1) fun r3 =>
    some (r3, d1))
theorem y_X6_warmth : YV yX6_warmth cX6_warmth 2 (some .int) 1 := ⟨q1871, q1872, q1873, q149, by decide +kernel, by decide +kernel, by decide +kernel, by decide +kernel⟩
theorem r_Mo_warmth {C : Cxt} {G : Geo} {M : Mem} {k : Nat} (hC : Cx C cX6_warmth 2 "FrameHeirsModel" (some .int) rm_X6_warmth G) (hk : LMo G k) (d : Sl) (a1 : Int32) : Rz C 2 G (setS M k) (poM avI (setS M k)) 0 [(0, .inr (k, 34)), (1, .inl (.int a1))] [] d (Mo_warmth d a1) := by
  unfold Mo_warmth
  refine z_aload_n (pc := 0) hC 0 rfl 0 rfl dX6_warmth_0 ?_
  refine z_iconst (pc := 1) hC (0 : Int32) rfl dX6_warmth_1 ?_
  refine zs_puti (pc := 2) hC (hk 34 rfl) f_34_2 q1272 dX6_warmth_2 (fun d1 => ?_)
  refine z_aload_n (pc := 5) hC 0 rfl 0 rfl dX6_warmth_5 ?_
  refine z_iload_n (pc := 6) hC 1 rfl 1 rfl dX6_warmth_6 ?_
  refine z_piV (pc := 7) (st := []) hC y_X6_isSpace q1484 [.inl (.int a1)] rfl (hk 34 rfl) rfl rfl (c_X6_isSpace hC.2.2.2.2.2.2.1 hk) rfl ⟨rfl, rfl, (Nat.le_of_ble_eq_true rfl), (Nat.le_of_ble_eq_true rfl)⟩ (Nat.le_of_ble_eq_true rfl) dX6_warmth_7 (fun r2 => ?_)
  refine z_if_eq (pc := 10) hC 21 rfl dX6_warmth_10 ?_ ?_
  · refine z_iconst (pc := 21) hC (-1 : Int32) rfl dX6_warmth_21 ?_
    exact z_iret (pc := 22) hC rfl dX6_warmth_22
  · refine z_aload_n (pc := 13) hC 0 rfl 0 rfl dX6_warmth_13 ?_
    refine z_iload_n (pc := 14) hC 1 rfl 1 rfl dX6_warmth_14 ?_
    refine z_piV (pc := 15) (st := []) hC y_X6_warmthOf q1874 [.inl (.int a1)] rfl (hk 34 rfl) rfl rfl (c_X6_warmthOf hC.2.2.2.2.2.2.1 hk) rfl ⟨rfl, rfl, (Nat.le_of_ble_eq_true rfl), (Nat.le_of_ble_eq_true rfl)⟩ (Nat.le_of_ble_eq_true rfl) dX6_warmth_15 (fun r3 => ?_)
    refine z_goto (pc := 18) hC 22 rfl dX6_warmth_18 ?_
    exact z_iret (pc := 22) hC rfl dX6_warmth_22
theorem c_X6_warmth {G : Geo} {M : Mem} {k : Nat} (hG : GOk G) (hk : LMo G k) {d : Sl} {a1 : Int32} (l : Launch) (r : Int32) (d1 : Sl) (h : Mo_warmth d a1 = some (r, d1)) : Mt l yX6_warmth cX6_warmth 2 (some .int) rm_X6_warmth G [.inr (k, 34), .inl (.int a1)] ((setS M k) d) (avI r) ((setS M k) d1) :=
  mt_of (mem := (setS M k)) (po := poM avI (setS M k)) (x0 := d) (t := (r, d1)) rfl hG [.inr (k, 34), .inl (.int a1)] (Nat.le_of_ble_eq_true rfl) rfl (fun C hC => r_Mo_warmth hC hk d a1) h
-- FrameHeirsModel.ratio(II)I
abbrev rm_X6_ratio : Room := { frames := 4, cells := 0, slots := 0, locals := 87 }
theorem dX6_ratio_0 : decode cX6_ratio 0 = .ok (.aload_n 0, 1) := by decide +kernel
theorem dX6_ratio_1 : decode cX6_ratio 1 = .ok (.iconst 0, 1) := by decide +kernel
theorem dX6_ratio_2 : decode cX6_ratio 2 = .ok (.putfield 61, 3) := by decide +kernel
theorem dX6_ratio_5 : decode cX6_ratio 5 = .ok (.aload_n 0, 1) := by decide +kernel
theorem dX6_ratio_6 : decode cX6_ratio 6 = .ok (.iload_n 1, 1) := by decide +kernel
theorem dX6_ratio_7 : decode cX6_ratio 7 = .ok (.invokevirtual 264, 3) := by decide +kernel
theorem dX6_ratio_10 : decode cX6_ratio 10 = .ok (.ifCond .eq 11, 3) := by decide +kernel
theorem dX6_ratio_13 : decode cX6_ratio 13 = .ok (.aload_n 0, 1) := by decide +kernel
theorem dX6_ratio_14 : decode cX6_ratio 14 = .ok (.iload_n 2, 1) := by decide +kernel
theorem dX6_ratio_15 : decode cX6_ratio 15 = .ok (.invokevirtual 264, 3) := by decide +kernel
theorem dX6_ratio_18 : decode cX6_ratio 18 = .ok (.ifCond .ne 5, 3) := by decide +kernel
theorem dX6_ratio_21 : decode cX6_ratio 21 = .ok (.iconst (-1), 1) := by decide +kernel
theorem dX6_ratio_22 : decode cX6_ratio 22 = .ok (.ireturn, 1) := by decide +kernel
theorem dX6_ratio_23 : decode cX6_ratio 23 = .ok (.aload_n 0, 1) := by decide +kernel
theorem dX6_ratio_24 : decode cX6_ratio 24 = .ok (.iload_n 2, 1) := by decide +kernel
theorem dX6_ratio_25 : decode cX6_ratio 25 = .ok (.invokevirtual 457, 3) := by decide +kernel
theorem dX6_ratio_28 : decode cX6_ratio 28 = .ok (.istore_n 3, 1) := by decide +kernel
theorem dX6_ratio_29 : decode cX6_ratio 29 = .ok (.iload_n 3, 1) := by decide +kernel
theorem dX6_ratio_30 : decode cX6_ratio 30 = .ok (.ifCond .ne 8, 3) := by decide +kernel
theorem dX6_ratio_33 : decode cX6_ratio 33 = .ok (.bipush (-2), 2) := by decide +kernel
theorem dX6_ratio_35 : decode cX6_ratio 35 = .ok (.goto 23, 3) := by decide +kernel
theorem dX6_ratio_38 : decode cX6_ratio 38 = .ok (.aload_n 0, 1) := by decide +kernel
theorem dX6_ratio_39 : decode cX6_ratio 39 = .ok (.iload_n 1, 1) := by decide +kernel
theorem dX6_ratio_40 : decode cX6_ratio 40 = .ok (.invokevirtual 457, 3) := by decide +kernel
theorem dX6_ratio_43 : decode cX6_ratio 43 = .ok (.bipush 100, 2) := by decide +kernel
theorem dX6_ratio_45 : decode cX6_ratio 45 = .ok (.invokestatic 358, 3) := by decide +kernel
theorem dX6_ratio_48 : decode cX6_ratio 48 = .ok (.invokestatic 361, 3) := by decide +kernel
theorem dX6_ratio_51 : decode cX6_ratio 51 = .ok (.iload_n 3, 1) := by decide +kernel
theorem dX6_ratio_52 : decode cX6_ratio 52 = .ok (.invokestatic 367, 3) := by decide +kernel
theorem dX6_ratio_55 : decode cX6_ratio 55 = .ok (.invokestatic 460, 3) := by decide +kernel
theorem dX6_ratio_58 : decode cX6_ratio 58 = .ok (.ireturn, 1) := by decide +kernel
def Mo_ratio (d : Sl) (a1 : Int32) (a2 : Int32) : Option (Int32 × Sl) :=
  bnd (wr d 34 2 (0 : Int32)) fun d1 =>
  bp (Mo_isSpace d1 a1) fun r2 =>
  if r2 = 0 then
    (some ((-1 : Int32), d1))
  else
    (bp (Mo_isSpace d1 a2) fun r3 =>
    if r3 = 0 then
      (some ((-1 : Int32), d1))
    else
      (bp (Mo_warmthOf d1 a2) fun r4 =>
      bnd r4 fun v3_5 =>
      if v3_5 = 0 then
        (some ((-2 : Int32), d1))
      else
        (bp (Mo_warmthOf d1 a1) fun r6 =>
        bp (Mo_floatOf (100 : Int32)) fun r7 =>
        bp (Mo_times r6 r7) fun r8 =>
        bp (Mo_divided r8 v3_5) fun r9 =>
        bp (Mo_cutOf r9) fun r10 =>
        some (r10, d1))))
theorem y_X6_ratio : YV yX6_ratio cX6_ratio 4 (some .int) 2 := ⟨q1879, q1880, q1881, q149, by decide +kernel, by decide +kernel, by decide +kernel, by decide +kernel⟩
theorem r_Mo_ratio {C : Cxt} {G : Geo} {M : Mem} {k : Nat} (hC : Cx C cX6_ratio 4 "FrameHeirsModel" (some .int) rm_X6_ratio G) (hk : LMo G k) (d : Sl) (a1 : Int32) (a2 : Int32) : Rz C 4 G (setS M k) (poM avI (setS M k)) 0 [(0, .inr (k, 34)), (1, .inl (.int a1)), (2, .inl (.int a2))] [] d (Mo_ratio d a1 a2) := by
  unfold Mo_ratio
  refine z_aload_n (pc := 0) hC 0 rfl 0 rfl dX6_ratio_0 ?_
  refine z_iconst (pc := 1) hC (0 : Int32) rfl dX6_ratio_1 ?_
  refine zs_puti (pc := 2) hC (hk 34 rfl) f_34_2 q1272 dX6_ratio_2 (fun d1 => ?_)
  refine z_aload_n (pc := 5) hC 0 rfl 0 rfl dX6_ratio_5 ?_
  refine z_iload_n (pc := 6) hC 1 rfl 1 rfl dX6_ratio_6 ?_
  refine z_piV (pc := 7) (st := []) hC y_X6_isSpace q1484 [.inl (.int a1)] rfl (hk 34 rfl) rfl rfl (c_X6_isSpace hC.2.2.2.2.2.2.1 hk) rfl ⟨rfl, rfl, (Nat.le_of_ble_eq_true rfl), (Nat.le_of_ble_eq_true rfl)⟩ (Nat.le_of_ble_eq_true rfl) dX6_ratio_7 (fun r2 => ?_)
  refine z_if_eq (pc := 10) hC 21 rfl dX6_ratio_10 ?_ ?_
  · refine z_iconst (pc := 21) hC (-1 : Int32) rfl dX6_ratio_21 ?_
    exact z_iret (pc := 22) hC rfl dX6_ratio_22
  · refine z_aload_n (pc := 13) hC 0 rfl 0 rfl dX6_ratio_13 ?_
    refine z_iload_n (pc := 14) hC 2 rfl 2 rfl dX6_ratio_14 ?_
    refine z_piV (pc := 15) (st := []) hC y_X6_isSpace q1484 [.inl (.int a2)] rfl (hk 34 rfl) rfl rfl (c_X6_isSpace hC.2.2.2.2.2.2.1 hk) rfl ⟨rfl, rfl, (Nat.le_of_ble_eq_true rfl), (Nat.le_of_ble_eq_true rfl)⟩ (Nat.le_of_ble_eq_true rfl) dX6_ratio_15 (fun r3 => ?_)
    refine z_if_ne (pc := 18) hC 23 rfl dX6_ratio_18 ?_ ?_
    · refine z_aload_n (pc := 23) hC 0 rfl 0 rfl dX6_ratio_23 ?_
      refine z_iload_n (pc := 24) hC 2 rfl 2 rfl dX6_ratio_24 ?_
      refine z_piV (pc := 25) (st := []) hC y_X6_warmthOf q1874 [.inl (.int a2)] rfl (hk 34 rfl) rfl rfl (c_X6_warmthOf hC.2.2.2.2.2.2.1 hk) rfl ⟨rfl, rfl, (Nat.le_of_ble_eq_true rfl), (Nat.le_of_ble_eq_true rfl)⟩ (Nat.le_of_ble_eq_true rfl) dX6_ratio_25 (fun r4 => ?_)
      refine z_istore_n (pc := 28) (ls1 := fun v => [(3, .inl (.int v)), (0, .inr (k, 34)), (1, .inl (.int a1)), (2, .inl (.int a2))]) hC 3 rfl (by decide) (fun v => rfl) dX6_ratio_28 (fun v3_5 => ?_)
      refine z_iload_n (pc := 29) hC 3 rfl 0 rfl dX6_ratio_29 ?_
      refine z_if_ne (pc := 30) hC 38 rfl dX6_ratio_30 ?_ ?_
      · refine z_aload_n (pc := 38) hC 0 rfl 1 rfl dX6_ratio_38 ?_
        refine z_iload_n (pc := 39) hC 1 rfl 2 rfl dX6_ratio_39 ?_
        refine z_piV (pc := 40) (st := []) hC y_X6_warmthOf q1874 [.inl (.int a1)] rfl (hk 34 rfl) rfl rfl (c_X6_warmthOf hC.2.2.2.2.2.2.1 hk) rfl ⟨rfl, rfl, (Nat.le_of_ble_eq_true rfl), (Nat.le_of_ble_eq_true rfl)⟩ (Nat.le_of_ble_eq_true rfl) dX6_ratio_40 (fun r6 => ?_)
        refine z_bipush (pc := 43) hC (100 : Int32) rfl dX6_ratio_43 ?_
        refine z_piS (pc := 45) (st := [.inl (.int r6)]) hC y_X6_floatOf q1660 [.inl (.int (100 : Int32))] rfl (c_X6_floatOf hC.2.2.2.2.2.2.1) rfl ⟨rfl, rfl, (Nat.le_of_ble_eq_true rfl), (Nat.le_of_ble_eq_true rfl)⟩ (Nat.le_of_ble_eq_true rfl) dX6_ratio_45 (fun r7 => ?_)
        refine z_piS (pc := 48) (st := []) hC y_X6_times q1682 [.inl (.int r6), .inl (.int r7)] rfl (c_X6_times hC.2.2.2.2.2.2.1) rfl ⟨rfl, rfl, (Nat.le_of_ble_eq_true rfl), (Nat.le_of_ble_eq_true rfl)⟩ (Nat.le_of_ble_eq_true rfl) dX6_ratio_48 (fun r8 => ?_)
        refine z_iload_n (pc := 51) hC 3 rfl 0 rfl dX6_ratio_51 ?_
        refine z_piS (pc := 52) (st := []) hC y_X6_divided q1669 [.inl (.int r8), .inl (.int v3_5)] rfl (c_X6_divided hC.2.2.2.2.2.2.1) rfl ⟨rfl, rfl, (Nat.le_of_ble_eq_true rfl), (Nat.le_of_ble_eq_true rfl)⟩ (Nat.le_of_ble_eq_true rfl) dX6_ratio_52 (fun r9 => ?_)
        refine z_piS (pc := 55) (st := []) hC y_X6_cutOf q1882 [.inl (.int r9)] rfl (c_X6_cutOf hC.2.2.2.2.2.2.1) rfl ⟨rfl, rfl, (Nat.le_of_ble_eq_true rfl), (Nat.le_of_ble_eq_true rfl)⟩ (Nat.le_of_ble_eq_true rfl) dX6_ratio_55 (fun r10 => ?_)
        exact z_iret (pc := 58) hC rfl dX6_ratio_58
      · refine z_bipush (pc := 33) hC (-2 : Int32) rfl dX6_ratio_33 ?_
        refine z_goto (pc := 35) hC 58 rfl dX6_ratio_35 ?_
        exact z_iret (pc := 58) hC rfl dX6_ratio_58
    · refine z_iconst (pc := 21) hC (-1 : Int32) rfl dX6_ratio_21 ?_
      exact z_iret (pc := 22) hC rfl dX6_ratio_22
theorem c_X6_ratio {G : Geo} {M : Mem} {k : Nat} (hG : GOk G) (hk : LMo G k) {d : Sl} {a1 : Int32} {a2 : Int32} (l : Launch) (r : Int32) (d1 : Sl) (h : Mo_ratio d a1 a2 = some (r, d1)) : Mt l yX6_ratio cX6_ratio 4 (some .int) rm_X6_ratio G [.inr (k, 34), .inl (.int a1), .inl (.int a2)] ((setS M k) d) (avI r) ((setS M k) d1) :=
  mt_of (mem := (setS M k)) (po := poM avI (setS M k)) (x0 := d) (t := (r, d1)) rfl hG [.inr (k, 34), .inl (.int a1), .inl (.int a2)] (Nat.le_of_ble_eq_true rfl) rfl (fun C hC => r_Mo_ratio hC hk d a1 a2) h
-- FrameHeirsModel.cool(I)I
abbrev rm_X6_cool : Room := { frames := 4, cells := 0, slots := 0, locals := 87 }
theorem dX6_cool_0 : decode cX6_cool 0 = .ok (.aload_n 0, 1) := by decide +kernel
theorem dX6_cool_1 : decode cX6_cool 1 = .ok (.iconst 0, 1) := by decide +kernel
theorem dX6_cool_2 : decode cX6_cool 2 = .ok (.putfield 61, 3) := by decide +kernel
theorem dX6_cool_5 : decode cX6_cool 5 = .ok (.aload_n 0, 1) := by decide +kernel
theorem dX6_cool_6 : decode cX6_cool 6 = .ok (.iload_n 1, 1) := by decide +kernel
theorem dX6_cool_7 : decode cX6_cool 7 = .ok (.invokevirtual 264, 3) := by decide +kernel
theorem dX6_cool_10 : decode cX6_cool 10 = .ok (.ifCond .ne 5, 3) := by decide +kernel
theorem dX6_cool_13 : decode cX6_cool 13 = .ok (.iconst (-1), 1) := by decide +kernel
theorem dX6_cool_14 : decode cX6_cool 14 = .ok (.ireturn, 1) := by decide +kernel
theorem dX6_cool_15 : decode cX6_cool 15 = .ok (.aload_n 0, 1) := by decide +kernel
theorem dX6_cool_16 : decode cX6_cool 16 = .ok (.invokevirtual 463, 3) := by decide +kernel
theorem dX6_cool_19 : decode cX6_cool 19 = .ok (.iconst 0, 1) := by decide +kernel
theorem dX6_cool_20 : decode cX6_cool 20 = .ok (.istore_n 2, 1) := by decide +kernel
theorem dX6_cool_21 : decode cX6_cool 21 = .ok (.iload_n 2, 1) := by decide +kernel
theorem dX6_cool_22 : decode cX6_cool 22 = .ok (.bipush 100, 2) := by decide +kernel
theorem dX6_cool_24 : decode cX6_cool 24 = .ok (.if_icmp .ge 24, 3) := by decide +kernel
theorem dX6_cool_27 : decode cX6_cool 27 = .ok (.aload_n 0, 1) := by decide +kernel
theorem dX6_cool_28 : decode cX6_cool 28 = .ok (.iload_n 1, 1) := by decide +kernel
theorem dX6_cool_29 : decode cX6_cool 29 = .ok (.invokevirtual 457, 3) := by decide +kernel
theorem dX6_cool_32 : decode cX6_cool 32 = .ok (.ldc_w 382, 3) := by decide +kernel
theorem dX6_cool_35 : decode cX6_cool 35 = .ok (.if_icmp .lt 13, 3) := by decide +kernel
theorem dX6_cool_38 : decode cX6_cool 38 = .ok (.aload_n 0, 1) := by decide +kernel
theorem dX6_cool_39 : decode cX6_cool 39 = .ok (.invokevirtual 370, 3) := by decide +kernel
theorem dX6_cool_42 : decode cX6_cool 42 = .ok (.iinc 2 1, 3) := by decide +kernel
theorem dX6_cool_45 : decode cX6_cool 45 = .ok (.goto (-24), 3) := by decide +kernel
theorem dX6_cool_48 : decode cX6_cool 48 = .ok (.aload_n 0, 1) := by decide +kernel
theorem dX6_cool_49 : decode cX6_cool 49 = .ok (.iconst 0, 1) := by decide +kernel
theorem dX6_cool_50 : decode cX6_cool 50 = .ok (.putfield 116, 3) := by decide +kernel
theorem dX6_cool_53 : decode cX6_cool 53 = .ok (.iload_n 2, 1) := by decide +kernel
theorem dX6_cool_54 : decode cX6_cool 54 = .ok (.bipush 100, 2) := by decide +kernel
theorem dX6_cool_56 : decode cX6_cool 56 = .ok (.if_icmp .ne 8, 3) := by decide +kernel
theorem dX6_cool_59 : decode cX6_cool 59 = .ok (.bipush (-2), 2) := by decide +kernel
theorem dX6_cool_61 : decode cX6_cool 61 = .ok (.goto 4, 3) := by decide +kernel
theorem dX6_cool_64 : decode cX6_cool 64 = .ok (.iload_n 2, 1) := by decide +kernel
theorem dX6_cool_65 : decode cX6_cool 65 = .ok (.ireturn, 1) := by decide +kernel
def Mo_cool_48 (v2 : Int32) (d : Sl) : Option (Int32 × Sl) :=
  bnd (wr d 34 25 (0 : Int32)) fun d1 =>
  if v2 = (100 : Int32) then
    (some ((-2 : Int32), d1))
  else
    (some (v2, d1))
def Mo_cool_21 : Nat → Int32 → Int32 → Sl → Option (Int32 × Sl)
  | 0, _, _, _ => none
  | n + 1, v1, v2, d =>
    if (100 : Int32) ≤ v2 then
      (Mo_cool_48 v2 d)
    else
      (bp (Mo_warmthOf d v1) fun r2 =>
      if r2 < (1065353216 : Int32) then
        (Mo_cool_48 v2 d)
      else
        (bd (Mo_ticks d) fun r3 d4 =>
        bnd (v2 + (1 : Int32)) fun v2_5 =>
        Mo_cool_21 n v1 v2_5 d4))
def Mo_cool (d : Sl) (a1 : Int32) : Option (Int32 × Sl) :=
  bnd (wr d 34 2 (0 : Int32)) fun d6 =>
  bp (Mo_isSpace d6 a1) fun r7 =>
  if r7 = 0 then
    (some ((-1 : Int32), d6))
  else
    (bd (Mo_asNow d6) fun r8 d9 =>
    bnd (0 : Int32) fun v2_10 =>
    Mo_cool_21 FU a1 v2_10 d9)
theorem y_X6_cool : YV yX6_cool cX6_cool 3 (some .int) 1 := ⟨q1887, q1888, q1889, q149, by decide +kernel, by decide +kernel, by decide +kernel, by decide +kernel⟩
theorem r_Mo_cool_48 {C : Cxt} {G : Geo} {M : Mem} {k : Nat} (hC : Cx C cX6_cool 3 "FrameHeirsModel" (some .int) rm_X6_cool G) (hk : LMo G k) (v2 : Int32) (d : Sl) : Rz C 3 G (setS M k) (poM avI (setS M k)) 48 [(0, .inr (k, 34)), (2, .inl (.int v2))] [] d (Mo_cool_48 v2 d) := by
  unfold Mo_cool_48
  refine z_aload_n (pc := 48) hC 0 rfl 0 rfl dX6_cool_48 ?_
  refine z_iconst (pc := 49) hC (0 : Int32) rfl dX6_cool_49 ?_
  refine zs_puti (pc := 50) hC (hk 34 rfl) f_34_25 q1295 dX6_cool_50 (fun d1 => ?_)
  refine z_iload_n (pc := 53) hC 2 rfl 1 rfl dX6_cool_53 ?_
  refine z_bipush (pc := 54) hC (100 : Int32) rfl dX6_cool_54 ?_
  refine z_icmp_ne (pc := 56) hC 64 rfl dX6_cool_56 ?_ ?_
  · refine z_iload_n (pc := 64) hC 2 rfl 1 rfl dX6_cool_64 ?_
    exact z_iret (pc := 65) hC rfl dX6_cool_65
  · refine z_bipush (pc := 59) hC (-2 : Int32) rfl dX6_cool_59 ?_
    refine z_goto (pc := 61) hC 65 rfl dX6_cool_61 ?_
    exact z_iret (pc := 65) hC rfl dX6_cool_65
theorem r_Mo_cool_21 {C : Cxt} {G : Geo} {M : Mem} {k : Nat} (hC : Cx C cX6_cool 3 "FrameHeirsModel" (some .int) rm_X6_cool G) (hk : LMo G k) : ∀ (n : Nat) (v1 : Int32) (v2 : Int32) (d : Sl), Rz C 3 G (setS M k) (poM avI (setS M k)) 21 [(0, .inr (k, 34)), (1, .inl (.int v1)), (2, .inl (.int v2))] [] d (Mo_cool_21 n v1 v2 d) := by
  intro n
  induction n with
  | zero => intros; exact z_none
  | succ n ih =>
    intro v1 v2 d
    rw [Mo_cool_21]
    refine z_iload_n (pc := 21) hC 2 rfl 2 rfl dX6_cool_21 ?_
    refine z_bipush (pc := 22) hC (100 : Int32) rfl dX6_cool_22 ?_
    refine z_icmp_ge (pc := 24) hC 48 rfl dX6_cool_24 ?_ ?_
    · exact z_sub [0, 2] rfl (r_Mo_cool_48 hC hk v2 d)
    · refine z_aload_n (pc := 27) hC 0 rfl 0 rfl dX6_cool_27 ?_
      refine z_iload_n (pc := 28) hC 1 rfl 1 rfl dX6_cool_28 ?_
      refine z_piV (pc := 29) (st := []) hC y_X6_warmthOf q1874 [.inl (.int v1)] rfl (hk 34 rfl) rfl rfl (c_X6_warmthOf hC.2.2.2.2.2.2.1 hk) rfl ⟨rfl, rfl, (Nat.le_of_ble_eq_true rfl), (Nat.le_of_ble_eq_true rfl)⟩ (Nat.le_of_ble_eq_true rfl) dX6_cool_29 (fun r2 => ?_)
      refine z_ldcw (pc := 32) hC (1065353216 : Int32) q1709 dX6_cool_32 ?_
      refine z_icmp_lt (pc := 35) hC 48 rfl dX6_cool_35 ?_ ?_
      · exact z_sub [0, 2] rfl (r_Mo_cool_48 hC hk v2 d)
      · refine z_aload_n (pc := 38) hC 0 rfl 0 rfl dX6_cool_38 ?_
        refine z_cvV (pc := 39) (st := []) hC y_X6_ticks q1656 [] rfl (hk 34 rfl) rfl rfl (c_X6_ticks hC.2.2.2.2.2.2.1 hk) rfl ⟨rfl, rfl, (Nat.le_of_ble_eq_true rfl), (Nat.le_of_ble_eq_true rfl)⟩ (Nat.le_of_ble_eq_true rfl) dX6_cool_39 (fun r3 d4 => ?_)
        refine z_iinc (pc := 42) (ls1 := fun v => [(2, .inl (.int v)), (0, .inr (k, 34)), (1, .inl (.int v1))]) hC 2 2 (by decide) (1 : Int32) rfl rfl (fun v => rfl) dX6_cool_42 (fun v2_5 => ?_)
        refine z_goto (pc := 45) hC 21 rfl dX6_cool_45 ?_
        exact z_sub [1, 2, 0] rfl (ih v1 v2_5 d4)
theorem r_Mo_cool {C : Cxt} {G : Geo} {M : Mem} {k : Nat} (hC : Cx C cX6_cool 3 "FrameHeirsModel" (some .int) rm_X6_cool G) (hk : LMo G k) (d : Sl) (a1 : Int32) : Rz C 3 G (setS M k) (poM avI (setS M k)) 0 [(0, .inr (k, 34)), (1, .inl (.int a1))] [] d (Mo_cool d a1) := by
  unfold Mo_cool
  refine z_aload_n (pc := 0) hC 0 rfl 0 rfl dX6_cool_0 ?_
  refine z_iconst (pc := 1) hC (0 : Int32) rfl dX6_cool_1 ?_
  refine zs_puti (pc := 2) hC (hk 34 rfl) f_34_2 q1272 dX6_cool_2 (fun d6 => ?_)
  refine z_aload_n (pc := 5) hC 0 rfl 0 rfl dX6_cool_5 ?_
  refine z_iload_n (pc := 6) hC 1 rfl 1 rfl dX6_cool_6 ?_
  refine z_piV (pc := 7) (st := []) hC y_X6_isSpace q1484 [.inl (.int a1)] rfl (hk 34 rfl) rfl rfl (c_X6_isSpace hC.2.2.2.2.2.2.1 hk) rfl ⟨rfl, rfl, (Nat.le_of_ble_eq_true rfl), (Nat.le_of_ble_eq_true rfl)⟩ (Nat.le_of_ble_eq_true rfl) dX6_cool_7 (fun r7 => ?_)
  refine z_if_ne (pc := 10) hC 15 rfl dX6_cool_10 ?_ ?_
  · refine z_aload_n (pc := 15) hC 0 rfl 0 rfl dX6_cool_15 ?_
    refine z_cvV (pc := 16) (st := []) hC y_X6_asNow q1890 [] rfl (hk 34 rfl) rfl rfl (c_X6_asNow hC.2.2.2.2.2.2.1 hk) rfl ⟨rfl, rfl, (Nat.le_of_ble_eq_true rfl), (Nat.le_of_ble_eq_true rfl)⟩ (Nat.le_of_ble_eq_true rfl) dX6_cool_16 (fun r8 d9 => ?_)
    refine z_iconst (pc := 19) hC (0 : Int32) rfl dX6_cool_19 ?_
    refine z_istore_n (pc := 20) (ls1 := fun v => [(2, .inl (.int v)), (0, .inr (k, 34)), (1, .inl (.int a1))]) hC 2 rfl (by decide) (fun v => rfl) dX6_cool_20 (fun v2_10 => ?_)
    exact z_sub [1, 2, 0] rfl (r_Mo_cool_21 hC hk FU a1 v2_10 d9)
  · refine z_iconst (pc := 13) hC (-1 : Int32) rfl dX6_cool_13 ?_
    exact z_iret (pc := 14) hC rfl dX6_cool_14
theorem c_X6_cool {G : Geo} {M : Mem} {k : Nat} (hG : GOk G) (hk : LMo G k) {d : Sl} {a1 : Int32} (l : Launch) (r : Int32) (d1 : Sl) (h : Mo_cool d a1 = some (r, d1)) : Mt l yX6_cool cX6_cool 3 (some .int) rm_X6_cool G [.inr (k, 34), .inl (.int a1)] ((setS M k) d) (avI r) ((setS M k) d1) :=
  mt_of (mem := (setS M k)) (po := poM avI (setS M k)) (x0 := d) (t := (r, d1)) rfl hG [.inr (k, 34), .inl (.int a1)] (Nat.le_of_ble_eq_true rfl) rfl (fun C hC => r_Mo_cool hC hk d a1) h
-- FrameHeirsModel.kept(I)I
abbrev rm_X6_kept : Room := { frames := 3, cells := 0, slots := 0, locals := 69 }
theorem dX6_kept_0 : decode cX6_kept 0 = .ok (.aload_n 0, 1) := by decide +kernel
theorem dX6_kept_1 : decode cX6_kept 1 = .ok (.iconst 0, 1) := by decide +kernel
theorem dX6_kept_2 : decode cX6_kept 2 = .ok (.putfield 61, 3) := by decide +kernel
theorem dX6_kept_5 : decode cX6_kept 5 = .ok (.aload_n 0, 1) := by decide +kernel
theorem dX6_kept_6 : decode cX6_kept 6 = .ok (.iload_n 1, 1) := by decide +kernel
theorem dX6_kept_7 : decode cX6_kept 7 = .ok (.invokevirtual 264, 3) := by decide +kernel
theorem dX6_kept_10 : decode cX6_kept 10 = .ok (.ifCond .ne 5, 3) := by decide +kernel
theorem dX6_kept_13 : decode cX6_kept 13 = .ok (.iconst (-1), 1) := by decide +kernel
theorem dX6_kept_14 : decode cX6_kept 14 = .ok (.ireturn, 1) := by decide +kernel
theorem dX6_kept_15 : decode cX6_kept 15 = .ok (.iconst 0, 1) := by decide +kernel
theorem dX6_kept_16 : decode cX6_kept 16 = .ok (.istore_n 2, 1) := by decide +kernel
theorem dX6_kept_17 : decode cX6_kept 17 = .ok (.iconst 0, 1) := by decide +kernel
theorem dX6_kept_18 : decode cX6_kept 18 = .ok (.istore_n 3, 1) := by decide +kernel
theorem dX6_kept_19 : decode cX6_kept 19 = .ok (.iload_n 3, 1) := by decide +kernel
theorem dX6_kept_20 : decode cX6_kept 20 = .ok (.aload_n 0, 1) := by decide +kernel
theorem dX6_kept_21 : decode cX6_kept 21 = .ok (.invokevirtual 126, 3) := by decide +kernel
theorem dX6_kept_24 : decode cX6_kept 24 = .ok (.bipush 8, 2) := by decide +kernel
theorem dX6_kept_26 : decode cX6_kept 26 = .ok (.idiv, 1) := by decide +kernel
theorem dX6_kept_27 : decode cX6_kept 27 = .ok (.if_icmp .ge 53, 3) := by decide +kernel
theorem dX6_kept_30 : decode cX6_kept 30 = .ok (.iload_n 2, 1) := by decide +kernel
theorem dX6_kept_31 : decode cX6_kept 31 = .ok (.aload_n 0, 1) := by decide +kernel
theorem dX6_kept_32 : decode cX6_kept 32 = .ok (.sipush 1920, 3) := by decide +kernel
theorem dX6_kept_35 : decode cX6_kept 35 = .ok (.iconst 4, 1) := by decide +kernel
theorem dX6_kept_36 : decode cX6_kept 36 = .ok (.iload_n 1, 1) := by decide +kernel
theorem dX6_kept_37 : decode cX6_kept 37 = .ok (.imul, 1) := by decide +kernel
theorem dX6_kept_38 : decode cX6_kept 38 = .ok (.iadd, 1) := by decide +kernel
theorem dX6_kept_39 : decode cX6_kept 39 = .ok (.iload_n 3, 1) := by decide +kernel
theorem dX6_kept_40 : decode cX6_kept 40 = .ok (.iadd, 1) := by decide +kernel
theorem dX6_kept_41 : decode cX6_kept 41 = .ok (.invokevirtual 189, 3) := by decide +kernel
theorem dX6_kept_44 : decode cX6_kept 44 = .ok (.iconst 1, 1) := by decide +kernel
theorem dX6_kept_45 : decode cX6_kept 45 = .ok (.if_icmp .ne 8, 3) := by decide +kernel
theorem dX6_kept_48 : decode cX6_kept 48 = .ok (.bipush 16, 2) := by decide +kernel
theorem dX6_kept_50 : decode cX6_kept 50 = .ok (.goto 22, 3) := by decide +kernel
theorem dX6_kept_53 : decode cX6_kept 53 = .ok (.aload_n 0, 1) := by decide +kernel
theorem dX6_kept_54 : decode cX6_kept 54 = .ok (.iload_n 1, 1) := by decide +kernel
theorem dX6_kept_55 : decode cX6_kept 55 = .ok (.bipush 8, 2) := by decide +kernel
theorem dX6_kept_57 : decode cX6_kept 57 = .ok (.iload_n 3, 1) := by decide +kernel
theorem dX6_kept_58 : decode cX6_kept 58 = .ok (.imul, 1) := by decide +kernel
theorem dX6_kept_59 : decode cX6_kept 59 = .ok (.iconst 3, 1) := by decide +kernel
theorem dX6_kept_60 : decode cX6_kept 60 = .ok (.invokevirtual 276, 3) := by decide +kernel
theorem dX6_kept_63 : decode cX6_kept 63 = .ok (.ifCond .eq 7, 3) := by decide +kernel
theorem dX6_kept_66 : decode cX6_kept 66 = .ok (.iconst 0, 1) := by decide +kernel
theorem dX6_kept_67 : decode cX6_kept 67 = .ok (.goto 5, 3) := by decide +kernel
theorem dX6_kept_70 : decode cX6_kept 70 = .ok (.bipush 8, 2) := by decide +kernel
theorem dX6_kept_72 : decode cX6_kept 72 = .ok (.iadd, 1) := by decide +kernel
theorem dX6_kept_73 : decode cX6_kept 73 = .ok (.istore_n 2, 1) := by decide +kernel
theorem dX6_kept_74 : decode cX6_kept 74 = .ok (.iinc 3 1, 3) := by decide +kernel
theorem dX6_kept_77 : decode cX6_kept 77 = .ok (.goto (-58), 3) := by decide +kernel
theorem dX6_kept_80 : decode cX6_kept 80 = .ok (.iload_n 2, 1) := by decide +kernel
theorem dX6_kept_81 : decode cX6_kept 81 = .ok (.ireturn, 1) := by decide +kernel
def Mo_kept_72 (k19 : Int32 → Int32 → Int32 → Sl → Option (Int32 × Sl)) (v1 : Int32) (v3 : Int32) (s0 : Int32) (s1 : Int32) (d : Sl) : Option (Int32 × Sl) :=
  bnd (s1 + s0) fun v2_1 =>
  bnd (v3 + (1 : Int32)) fun v3_2 =>
  k19 v1 v2_1 v3_2 d
def Mo_kept_19 : Nat → Int32 → Int32 → Int32 → Sl → Option (Int32 × Sl)
  | 0, _, _, _, _ => none
  | n + 1, v1, v2, v3, d =>
    bp (Mo_size d) fun r3 =>
    if ¬ (8 : Int32) = 0 then
    if (r3 / (8 : Int32)) ≤ v3 then
      (some (v2, d))
    else
      (bp (Mo_of d (((1920 : Int32) + ((4 : Int32) * v1)) + v3)) fun r4 =>
      if r4 = (1 : Int32) then
        (Mo_kept_72 (Mo_kept_19 n) v1 v3 (16 : Int32) v2 d)
      else
        (bp (Mo_isFree d v1 ((8 : Int32) * v3) (3 : Int32)) fun r5 =>
        if r5 = 0 then
          (Mo_kept_72 (Mo_kept_19 n) v1 v3 (8 : Int32) v2 d)
        else
          (Mo_kept_72 (Mo_kept_19 n) v1 v3 (0 : Int32) v2 d)))
    else none
def Mo_kept (d : Sl) (a1 : Int32) : Option (Int32 × Sl) :=
  bnd (wr d 34 2 (0 : Int32)) fun d6 =>
  bp (Mo_isSpace d6 a1) fun r7 =>
  if r7 = 0 then
    (some ((-1 : Int32), d6))
  else
    (bnd (0 : Int32) fun v2_8 =>
    bnd (0 : Int32) fun v3_9 =>
    Mo_kept_19 FU a1 v2_8 v3_9 d6)
theorem y_X6_kept : YV yX6_kept cX6_kept 4 (some .int) 1 := ⟨q1895, q1896, q1897, q149, by decide +kernel, by decide +kernel, by decide +kernel, by decide +kernel⟩
theorem r_Mo_kept_72 {C : Cxt} {G : Geo} {M : Mem} {k : Nat} (hC : Cx C cX6_kept 4 "FrameHeirsModel" (some .int) rm_X6_kept G) (hk : LMo G k) (k19 : Int32 → Int32 → Int32 → Sl → Option (Int32 × Sl)) (h19 : ∀ (v1 : Int32) (v2 : Int32) (v3 : Int32) (d : Sl), Rz C 4 G (setS M k) (poM avI (setS M k)) 19 [(0, .inr (k, 34)), (1, .inl (.int v1)), (2, .inl (.int v2)), (3, .inl (.int v3))] [] d (k19 v1 v2 v3 d)) (v1 : Int32) (v3 : Int32) (s0 : Int32) (s1 : Int32) (d : Sl) : Rz C 4 G (setS M k) (poM avI (setS M k)) 72 [(0, .inr (k, 34)), (1, .inl (.int v1)), (3, .inl (.int v3))] [.inl (.int s0), .inl (.int s1)] d (Mo_kept_72 k19 v1 v3 s0 s1 d) := by
  unfold Mo_kept_72
  refine z_iadd (pc := 72) hC dX6_kept_72 ?_
  refine z_istore_n (pc := 73) (ls1 := fun v => [(2, .inl (.int v)), (0, .inr (k, 34)), (1, .inl (.int v1)), (3, .inl (.int v3))]) hC 2 rfl (by decide) (fun v => rfl) dX6_kept_73 (fun v2_1 => ?_)
  refine z_iinc (pc := 74) (ls1 := fun v => [(3, .inl (.int v)), (2, .inl (.int v2_1)), (0, .inr (k, 34)), (1, .inl (.int v1))]) hC 3 3 (by decide) (1 : Int32) rfl rfl (fun v => rfl) dX6_kept_74 (fun v3_2 => ?_)
  refine z_goto (pc := 77) hC 19 rfl dX6_kept_77 ?_
  exact z_sub [2, 3, 1, 0] rfl (h19 v1 v2_1 v3_2 d)
theorem r_Mo_kept_19 {C : Cxt} {G : Geo} {M : Mem} {k : Nat} (hC : Cx C cX6_kept 4 "FrameHeirsModel" (some .int) rm_X6_kept G) (hk : LMo G k) : ∀ (n : Nat) (v1 : Int32) (v2 : Int32) (v3 : Int32) (d : Sl), Rz C 4 G (setS M k) (poM avI (setS M k)) 19 [(0, .inr (k, 34)), (1, .inl (.int v1)), (2, .inl (.int v2)), (3, .inl (.int v3))] [] d (Mo_kept_19 n v1 v2 v3 d) := by
  intro n
  induction n with
  | zero => intros; exact z_none
  | succ n ih =>
    intro v1 v2 v3 d
    rw [Mo_kept_19]
    refine z_iload_n (pc := 19) hC 3 rfl 3 rfl dX6_kept_19 ?_
    refine z_aload_n (pc := 20) hC 0 rfl 0 rfl dX6_kept_20 ?_
    refine z_piV (pc := 21) (st := [.inl (.int v3)]) hC y_X6_size q1250 [] rfl (hk 34 rfl) rfl rfl (c_X6_size hC.2.2.2.2.2.2.1 hk) rfl ⟨rfl, rfl, (Nat.le_of_ble_eq_true rfl), (Nat.le_of_ble_eq_true rfl)⟩ (Nat.le_of_ble_eq_true rfl) dX6_kept_21 (fun r3 => ?_)
    refine z_bipush (pc := 24) hC (8 : Int32) rfl dX6_kept_24 ?_
    refine z_idiv (pc := 26) hC dX6_kept_26 ?_
    refine z_icmp_ge (pc := 27) hC 80 rfl dX6_kept_27 ?_ ?_
    · refine z_iload_n (pc := 80) hC 2 rfl 2 rfl dX6_kept_80 ?_
      exact z_iret (pc := 81) hC rfl dX6_kept_81
    · refine z_iload_n (pc := 30) hC 2 rfl 2 rfl dX6_kept_30 ?_
      refine z_aload_n (pc := 31) hC 0 rfl 0 rfl dX6_kept_31 ?_
      refine z_sipush (pc := 32) hC (1920 : Int32) rfl dX6_kept_32 ?_
      refine z_iconst (pc := 35) hC (4 : Int32) rfl dX6_kept_35 ?_
      refine z_iload_n (pc := 36) hC 1 rfl 1 rfl dX6_kept_36 ?_
      refine z_imul (pc := 37) hC dX6_kept_37 ?_
      refine z_iadd (pc := 38) hC dX6_kept_38 ?_
      refine z_iload_n (pc := 39) hC 3 rfl 3 rfl dX6_kept_39 ?_
      refine z_iadd (pc := 40) hC dX6_kept_40 ?_
      refine z_piV (pc := 41) (st := [.inl (.int v2)]) hC y_X6_of q1262 [.inl (.int (((1920 : Int32) + ((4 : Int32) * v1)) + v3))] rfl (hk 34 rfl) rfl rfl (c_X6_of hC.2.2.2.2.2.2.1 hk) rfl ⟨rfl, rfl, (Nat.le_of_ble_eq_true rfl), (Nat.le_of_ble_eq_true rfl)⟩ (Nat.le_of_ble_eq_true rfl) dX6_kept_41 (fun r4 => ?_)
      refine z_iconst (pc := 44) hC (1 : Int32) rfl dX6_kept_44 ?_
      refine z_icmp_ne (pc := 45) hC 53 rfl dX6_kept_45 ?_ ?_
      · refine z_aload_n (pc := 53) hC 0 rfl 0 rfl dX6_kept_53 ?_
        refine z_iload_n (pc := 54) hC 1 rfl 1 rfl dX6_kept_54 ?_
        refine z_bipush (pc := 55) hC (8 : Int32) rfl dX6_kept_55 ?_
        refine z_iload_n (pc := 57) hC 3 rfl 3 rfl dX6_kept_57 ?_
        refine z_imul (pc := 58) hC dX6_kept_58 ?_
        refine z_iconst (pc := 59) hC (3 : Int32) rfl dX6_kept_59 ?_
        refine z_piV (pc := 60) (st := [.inl (.int v2)]) hC y_X6_isFree q1536 [.inl (.int v1), .inl (.int ((8 : Int32) * v3)), .inl (.int (3 : Int32))] rfl (hk 34 rfl) rfl rfl (c_X6_isFree hC.2.2.2.2.2.2.1 hk) rfl ⟨rfl, rfl, (Nat.le_of_ble_eq_true rfl), (Nat.le_of_ble_eq_true rfl)⟩ (Nat.le_of_ble_eq_true rfl) dX6_kept_60 (fun r5 => ?_)
        refine z_if_eq (pc := 63) hC 70 rfl dX6_kept_63 ?_ ?_
        · refine z_bipush (pc := 70) hC (8 : Int32) rfl dX6_kept_70 ?_
          exact z_sub [0, 1, 3] rfl (r_Mo_kept_72 hC hk _ ih v1 v3 (8 : Int32) v2 d)
        · refine z_iconst (pc := 66) hC (0 : Int32) rfl dX6_kept_66 ?_
          refine z_goto (pc := 67) hC 72 rfl dX6_kept_67 ?_
          exact z_sub [0, 1, 3] rfl (r_Mo_kept_72 hC hk _ ih v1 v3 (0 : Int32) v2 d)
      · refine z_bipush (pc := 48) hC (16 : Int32) rfl dX6_kept_48 ?_
        refine z_goto (pc := 50) hC 72 rfl dX6_kept_50 ?_
        exact z_sub [0, 1, 3] rfl (r_Mo_kept_72 hC hk _ ih v1 v3 (16 : Int32) v2 d)
theorem r_Mo_kept {C : Cxt} {G : Geo} {M : Mem} {k : Nat} (hC : Cx C cX6_kept 4 "FrameHeirsModel" (some .int) rm_X6_kept G) (hk : LMo G k) (d : Sl) (a1 : Int32) : Rz C 4 G (setS M k) (poM avI (setS M k)) 0 [(0, .inr (k, 34)), (1, .inl (.int a1))] [] d (Mo_kept d a1) := by
  unfold Mo_kept
  refine z_aload_n (pc := 0) hC 0 rfl 0 rfl dX6_kept_0 ?_
  refine z_iconst (pc := 1) hC (0 : Int32) rfl dX6_kept_1 ?_
  refine zs_puti (pc := 2) hC (hk 34 rfl) f_34_2 q1272 dX6_kept_2 (fun d6 => ?_)
  refine z_aload_n (pc := 5) hC 0 rfl 0 rfl dX6_kept_5 ?_
  refine z_iload_n (pc := 6) hC 1 rfl 1 rfl dX6_kept_6 ?_
  refine z_piV (pc := 7) (st := []) hC y_X6_isSpace q1484 [.inl (.int a1)] rfl (hk 34 rfl) rfl rfl (c_X6_isSpace hC.2.2.2.2.2.2.1 hk) rfl ⟨rfl, rfl, (Nat.le_of_ble_eq_true rfl), (Nat.le_of_ble_eq_true rfl)⟩ (Nat.le_of_ble_eq_true rfl) dX6_kept_7 (fun r7 => ?_)
  refine z_if_ne (pc := 10) hC 15 rfl dX6_kept_10 ?_ ?_
  · refine z_iconst (pc := 15) hC (0 : Int32) rfl dX6_kept_15 ?_
    refine z_istore_n (pc := 16) (ls1 := fun v => [(2, .inl (.int v)), (0, .inr (k, 34)), (1, .inl (.int a1))]) hC 2 rfl (by decide) (fun v => rfl) dX6_kept_16 (fun v2_8 => ?_)
    refine z_iconst (pc := 17) hC (0 : Int32) rfl dX6_kept_17 ?_
    refine z_istore_n (pc := 18) (ls1 := fun v => [(3, .inl (.int v)), (2, .inl (.int v2_8)), (0, .inr (k, 34)), (1, .inl (.int a1))]) hC 3 rfl (by decide) (fun v => rfl) dX6_kept_18 (fun v3_9 => ?_)
    exact z_sub [2, 3, 1, 0] rfl (r_Mo_kept_19 hC hk FU a1 v2_8 v3_9 d6)
  · refine z_iconst (pc := 13) hC (-1 : Int32) rfl dX6_kept_13 ?_
    exact z_iret (pc := 14) hC rfl dX6_kept_14
theorem c_X6_kept {G : Geo} {M : Mem} {k : Nat} (hG : GOk G) (hk : LMo G k) {d : Sl} {a1 : Int32} (l : Launch) (r : Int32) (d1 : Sl) (h : Mo_kept d a1 = some (r, d1)) : Mt l yX6_kept cX6_kept 4 (some .int) rm_X6_kept G [.inr (k, 34), .inl (.int a1)] ((setS M k) d) (avI r) ((setS M k) d1) :=
  mt_of (mem := (setS M k)) (po := poM avI (setS M k)) (x0 := d) (t := (r, d1)) rfl hG [.inr (k, 34), .inl (.int a1)] (Nat.le_of_ble_eq_true rfl) rfl (fun C hC => r_Mo_kept hC hk d a1) h
-- FrameHeirsModel.job(II)I
abbrev rm_X6_job : Room := { frames := 1, cells := 0, slots := 0, locals := 21 }
theorem dX6_job_0 : decode cX6_job 0 = .ok (.aload_n 0, 1) := by decide +kernel
theorem dX6_job_1 : decode cX6_job 1 = .ok (.iconst 0, 1) := by decide +kernel
theorem dX6_job_2 : decode cX6_job 2 = .ok (.putfield 61, 3) := by decide +kernel
theorem dX6_job_5 : decode cX6_job 5 = .ok (.iload_n 1, 1) := by decide +kernel
theorem dX6_job_6 : decode cX6_job 6 = .ok (.ifCond .lt 14, 3) := by decide +kernel
theorem dX6_job_9 : decode cX6_job 9 = .ok (.iload_n 1, 1) := by decide +kernel
theorem dX6_job_10 : decode cX6_job 10 = .ok (.aload_n 0, 1) := by decide +kernel
theorem dX6_job_11 : decode cX6_job 11 = .ok (.sipush 1944, 3) := by decide +kernel
theorem dX6_job_14 : decode cX6_job 14 = .ok (.invokevirtual 189, 3) := by decide +kernel
theorem dX6_job_17 : decode cX6_job 17 = .ok (.if_icmp .lt 5, 3) := by decide +kernel
theorem dX6_job_20 : decode cX6_job 20 = .ok (.iconst (-1), 1) := by decide +kernel
theorem dX6_job_21 : decode cX6_job 21 = .ok (.ireturn, 1) := by decide +kernel
theorem dX6_job_22 : decode cX6_job 22 = .ok (.iload_n 2, 1) := by decide +kernel
theorem dX6_job_23 : decode cX6_job 23 = .ok (.tableswitch 69 0 3 #[29, 39, 49, 59], 29) := by decide +kernel
theorem dX6_job_52 : decode cX6_job 52 = .ok (.aload_n 0, 1) := by decide +kernel
theorem dX6_job_53 : decode cX6_job 53 = .ok (.sipush 1956, 3) := by decide +kernel
theorem dX6_job_56 : decode cX6_job 56 = .ok (.iload_n 1, 1) := by decide +kernel
theorem dX6_job_57 : decode cX6_job 57 = .ok (.iadd, 1) := by decide +kernel
theorem dX6_job_58 : decode cX6_job 58 = .ok (.invokevirtual 189, 3) := by decide +kernel
theorem dX6_job_61 : decode cX6_job 61 = .ok (.ireturn, 1) := by decide +kernel
theorem dX6_job_62 : decode cX6_job 62 = .ok (.aload_n 0, 1) := by decide +kernel
theorem dX6_job_63 : decode cX6_job 63 = .ok (.sipush 1962, 3) := by decide +kernel
theorem dX6_job_66 : decode cX6_job 66 = .ok (.iload_n 1, 1) := by decide +kernel
theorem dX6_job_67 : decode cX6_job 67 = .ok (.iadd, 1) := by decide +kernel
theorem dX6_job_68 : decode cX6_job 68 = .ok (.invokevirtual 189, 3) := by decide +kernel
theorem dX6_job_71 : decode cX6_job 71 = .ok (.ireturn, 1) := by decide +kernel
theorem dX6_job_72 : decode cX6_job 72 = .ok (.aload_n 0, 1) := by decide +kernel
theorem dX6_job_73 : decode cX6_job 73 = .ok (.sipush 1974, 3) := by decide +kernel
theorem dX6_job_76 : decode cX6_job 76 = .ok (.iload_n 1, 1) := by decide +kernel
theorem dX6_job_77 : decode cX6_job 77 = .ok (.iadd, 1) := by decide +kernel
theorem dX6_job_78 : decode cX6_job 78 = .ok (.invokevirtual 189, 3) := by decide +kernel
theorem dX6_job_81 : decode cX6_job 81 = .ok (.ireturn, 1) := by decide +kernel
theorem dX6_job_82 : decode cX6_job 82 = .ok (.aload_n 0, 1) := by decide +kernel
theorem dX6_job_83 : decode cX6_job 83 = .ok (.sipush 1968, 3) := by decide +kernel
theorem dX6_job_86 : decode cX6_job 86 = .ok (.iload_n 1, 1) := by decide +kernel
theorem dX6_job_87 : decode cX6_job 87 = .ok (.iadd, 1) := by decide +kernel
theorem dX6_job_88 : decode cX6_job 88 = .ok (.invokevirtual 189, 3) := by decide +kernel
theorem dX6_job_91 : decode cX6_job 91 = .ok (.ireturn, 1) := by decide +kernel
theorem dX6_job_92 : decode cX6_job 92 = .ok (.iconst (-1), 1) := by decide +kernel
theorem dX6_job_93 : decode cX6_job 93 = .ok (.ireturn, 1) := by decide +kernel
def Mo_job (d : Sl) (a1 : Int32) (a2 : Int32) : Option (Int32 × Sl) :=
  bnd (wr d 34 2 (0 : Int32)) fun d1 =>
  if a1 < 0 then
    (some ((-1 : Int32), d1))
  else
    (bp (Mo_of d1 (1944 : Int32)) fun r2 =>
    if a1 < r2 then
      (if a2 = (0 : Int32) then
        (bp (Mo_of d1 ((1956 : Int32) + a1)) fun r6 =>
        some (r6, d1))
      else
        (if a2 = (1 : Int32) then
          (bp (Mo_of d1 ((1962 : Int32) + a1)) fun r5 =>
          some (r5, d1))
        else
          (if a2 = (2 : Int32) then
            (bp (Mo_of d1 ((1974 : Int32) + a1)) fun r4 =>
            some (r4, d1))
          else
            (if a2 = (3 : Int32) then
              (bp (Mo_of d1 ((1968 : Int32) + a1)) fun r3 =>
              some (r3, d1))
            else
              (some ((-1 : Int32), d1))))))
    else
      (some ((-1 : Int32), d1)))
theorem y_X6_job : YV yX6_job cX6_job 3 (some .int) 2 := ⟨q1899, q1900, q1901, q149, by decide +kernel, by decide +kernel, by decide +kernel, by decide +kernel⟩
theorem r_Mo_job {C : Cxt} {G : Geo} {M : Mem} {k : Nat} (hC : Cx C cX6_job 3 "FrameHeirsModel" (some .int) rm_X6_job G) (hk : LMo G k) (d : Sl) (a1 : Int32) (a2 : Int32) : Rz C 3 G (setS M k) (poM avI (setS M k)) 0 [(0, .inr (k, 34)), (1, .inl (.int a1)), (2, .inl (.int a2))] [] d (Mo_job d a1 a2) := by
  unfold Mo_job
  refine z_aload_n (pc := 0) hC 0 rfl 0 rfl dX6_job_0 ?_
  refine z_iconst (pc := 1) hC (0 : Int32) rfl dX6_job_1 ?_
  refine zs_puti (pc := 2) hC (hk 34 rfl) f_34_2 q1272 dX6_job_2 (fun d1 => ?_)
  refine z_iload_n (pc := 5) hC 1 rfl 1 rfl dX6_job_5 ?_
  refine z_if_lt (pc := 6) hC 20 rfl dX6_job_6 ?_ ?_
  · refine z_iconst (pc := 20) hC (-1 : Int32) rfl dX6_job_20 ?_
    exact z_iret (pc := 21) hC rfl dX6_job_21
  · refine z_iload_n (pc := 9) hC 1 rfl 1 rfl dX6_job_9 ?_
    refine z_aload_n (pc := 10) hC 0 rfl 0 rfl dX6_job_10 ?_
    refine z_sipush (pc := 11) hC (1944 : Int32) rfl dX6_job_11 ?_
    refine z_piV (pc := 14) (st := [.inl (.int a1)]) hC y_X6_of q1262 [.inl (.int (1944 : Int32))] rfl (hk 34 rfl) rfl rfl (c_X6_of hC.2.2.2.2.2.2.1 hk) rfl ⟨rfl, rfl, (Nat.le_of_ble_eq_true rfl), (Nat.le_of_ble_eq_true rfl)⟩ (Nat.le_of_ble_eq_true rfl) dX6_job_14 (fun r2 => ?_)
    refine z_icmp_lt (pc := 17) hC 22 rfl dX6_job_17 ?_ ?_
    · refine z_iload_n (pc := 22) hC 2 rfl 2 rfl dX6_job_22 ?_
      refine z_ite (fun e => ?_) (fun e0 => ?_)
      · refine z_tswIn (pc := 23) hC 0 52 (by rw [e]; rfl) (by decide) (by decide) rfl rfl dX6_job_23 ?_
        refine z_aload_n (pc := 52) hC 0 rfl 0 rfl dX6_job_52 ?_
        refine z_sipush (pc := 53) hC (1956 : Int32) rfl dX6_job_53 ?_
        refine z_iload_n (pc := 56) hC 1 rfl 1 rfl dX6_job_56 ?_
        refine z_iadd (pc := 57) hC dX6_job_57 ?_
        refine z_piV (pc := 58) (st := []) hC y_X6_of q1262 [.inl (.int ((1956 : Int32) + a1))] rfl (hk 34 rfl) rfl rfl (c_X6_of hC.2.2.2.2.2.2.1 hk) rfl ⟨rfl, rfl, (Nat.le_of_ble_eq_true rfl), (Nat.le_of_ble_eq_true rfl)⟩ (Nat.le_of_ble_eq_true rfl) dX6_job_58 (fun r6 => ?_)
        exact z_iret (pc := 61) hC rfl dX6_job_61
      · refine z_ite (fun e => ?_) (fun e1 => ?_)
        · refine z_tswIn (pc := 23) hC 1 62 (by rw [e]; rfl) (by decide) (by decide) rfl rfl dX6_job_23 ?_
          refine z_aload_n (pc := 62) hC 0 rfl 0 rfl dX6_job_62 ?_
          refine z_sipush (pc := 63) hC (1962 : Int32) rfl dX6_job_63 ?_
          refine z_iload_n (pc := 66) hC 1 rfl 1 rfl dX6_job_66 ?_
          refine z_iadd (pc := 67) hC dX6_job_67 ?_
          refine z_piV (pc := 68) (st := []) hC y_X6_of q1262 [.inl (.int ((1962 : Int32) + a1))] rfl (hk 34 rfl) rfl rfl (c_X6_of hC.2.2.2.2.2.2.1 hk) rfl ⟨rfl, rfl, (Nat.le_of_ble_eq_true rfl), (Nat.le_of_ble_eq_true rfl)⟩ (Nat.le_of_ble_eq_true rfl) dX6_job_68 (fun r5 => ?_)
          exact z_iret (pc := 71) hC rfl dX6_job_71
        · refine z_ite (fun e => ?_) (fun e2 => ?_)
          · refine z_tswIn (pc := 23) hC 2 72 (by rw [e]; rfl) (by decide) (by decide) rfl rfl dX6_job_23 ?_
            refine z_aload_n (pc := 72) hC 0 rfl 0 rfl dX6_job_72 ?_
            refine z_sipush (pc := 73) hC (1974 : Int32) rfl dX6_job_73 ?_
            refine z_iload_n (pc := 76) hC 1 rfl 1 rfl dX6_job_76 ?_
            refine z_iadd (pc := 77) hC dX6_job_77 ?_
            refine z_piV (pc := 78) (st := []) hC y_X6_of q1262 [.inl (.int ((1974 : Int32) + a1))] rfl (hk 34 rfl) rfl rfl (c_X6_of hC.2.2.2.2.2.2.1 hk) rfl ⟨rfl, rfl, (Nat.le_of_ble_eq_true rfl), (Nat.le_of_ble_eq_true rfl)⟩ (Nat.le_of_ble_eq_true rfl) dX6_job_78 (fun r4 => ?_)
            exact z_iret (pc := 81) hC rfl dX6_job_81
          · refine z_ite (fun e => ?_) (fun e3 => ?_)
            · refine z_tswIn (pc := 23) hC 3 82 (by rw [e]; rfl) (by decide) (by decide) rfl rfl dX6_job_23 ?_
              refine z_aload_n (pc := 82) hC 0 rfl 0 rfl dX6_job_82 ?_
              refine z_sipush (pc := 83) hC (1968 : Int32) rfl dX6_job_83 ?_
              refine z_iload_n (pc := 86) hC 1 rfl 1 rfl dX6_job_86 ?_
              refine z_iadd (pc := 87) hC dX6_job_87 ?_
              refine z_piV (pc := 88) (st := []) hC y_X6_of q1262 [.inl (.int ((1968 : Int32) + a1))] rfl (hk 34 rfl) rfl rfl (c_X6_of hC.2.2.2.2.2.2.1 hk) rfl ⟨rfl, rfl, (Nat.le_of_ble_eq_true rfl), (Nat.le_of_ble_eq_true rfl)⟩ (Nat.le_of_ble_eq_true rfl) dX6_job_88 (fun r3 => ?_)
              exact z_iret (pc := 91) hC rfl dX6_job_91
            · have e0_ : (a2).toInt ≠ 0 := fun h => e0 (Int32.toInt_inj.mp (by rw [h]; rfl))
              have e1_ : (a2).toInt ≠ 1 := fun h => e1 (Int32.toInt_inj.mp (by rw [h]; rfl))
              have e2_ : (a2).toInt ≠ 2 := fun h => e2 (Int32.toInt_inj.mp (by rw [h]; rfl))
              have e3_ : (a2).toInt ≠ 3 := fun h => e3 (Int32.toInt_inj.mp (by rw [h]; rfl))
              refine z_tswOut (pc := 23) hC 92 (by omega) rfl dX6_job_23 ?_
              refine z_iconst (pc := 92) hC (-1 : Int32) rfl dX6_job_92 ?_
              exact z_iret (pc := 93) hC rfl dX6_job_93
    · refine z_iconst (pc := 20) hC (-1 : Int32) rfl dX6_job_20 ?_
      exact z_iret (pc := 21) hC rfl dX6_job_21
theorem c_X6_job {G : Geo} {M : Mem} {k : Nat} (hG : GOk G) (hk : LMo G k) {d : Sl} {a1 : Int32} {a2 : Int32} (l : Launch) (r : Int32) (d1 : Sl) (h : Mo_job d a1 a2 = some (r, d1)) : Mt l yX6_job cX6_job 3 (some .int) rm_X6_job G [.inr (k, 34), .inl (.int a1), .inl (.int a2)] ((setS M k) d) (avI r) ((setS M k) d1) :=
  mt_of (mem := (setS M k)) (po := poM avI (setS M k)) (x0 := d) (t := (r, d1)) rfl hG [.inr (k, 34), .inl (.int a1), .inl (.int a2)] (Nat.le_of_ble_eq_true rfl) rfl (fun C hC => r_Mo_job hC hk d a1 a2) h
-- FrameHeirsModel.waits(II)I
abbrev rm_X6_waits : Room := { frames := 2, cells := 0, slots := 0, locals := 42 }
theorem dX6_waits_0 : decode cX6_waits 0 = .ok (.aload_n 0, 1) := by decide +kernel
theorem dX6_waits_1 : decode cX6_waits 1 = .ok (.iconst 0, 1) := by decide +kernel
theorem dX6_waits_2 : decode cX6_waits 2 = .ok (.putfield 61, 3) := by decide +kernel
theorem dX6_waits_5 : decode cX6_waits 5 = .ok (.aload_n 0, 1) := by decide +kernel
theorem dX6_waits_6 : decode cX6_waits 6 = .ok (.iload_n 1, 1) := by decide +kernel
theorem dX6_waits_7 : decode cX6_waits 7 = .ok (.invokevirtual 264, 3) := by decide +kernel
theorem dX6_waits_10 : decode cX6_waits 10 = .ok (.ifCond .eq 12, 3) := by decide +kernel
theorem dX6_waits_13 : decode cX6_waits 13 = .ok (.iload_n 2, 1) := by decide +kernel
theorem dX6_waits_14 : decode cX6_waits 14 = .ok (.iconst 0, 1) := by decide +kernel
theorem dX6_waits_15 : decode cX6_waits 15 = .ok (.iconst 3, 1) := by decide +kernel
theorem dX6_waits_16 : decode cX6_waits 16 = .ok (.invokestatic 137, 3) := by decide +kernel
theorem dX6_waits_19 : decode cX6_waits 19 = .ok (.ifCond .ne 5, 3) := by decide +kernel
theorem dX6_waits_22 : decode cX6_waits 22 = .ok (.iconst (-1), 1) := by decide +kernel
theorem dX6_waits_23 : decode cX6_waits 23 = .ok (.ireturn, 1) := by decide +kernel
theorem dX6_waits_24 : decode cX6_waits 24 = .ok (.iload_n 2, 1) := by decide +kernel
theorem dX6_waits_25 : decode cX6_waits 25 = .ok (.ifCond .ne 13, 3) := by decide +kernel
theorem dX6_waits_28 : decode cX6_waits 28 = .ok (.aload_n 0, 1) := by decide +kernel
theorem dX6_waits_29 : decode cX6_waits 29 = .ok (.sipush 2172, 3) := by decide +kernel
theorem dX6_waits_32 : decode cX6_waits 32 = .ok (.iload_n 1, 1) := by decide +kernel
theorem dX6_waits_33 : decode cX6_waits 33 = .ok (.iadd, 1) := by decide +kernel
theorem dX6_waits_34 : decode cX6_waits 34 = .ok (.invokevirtual 189, 3) := by decide +kernel
theorem dX6_waits_37 : decode cX6_waits 37 = .ok (.ireturn, 1) := by decide +kernel
theorem dX6_waits_38 : decode cX6_waits 38 = .ok (.aload_n 0, 1) := by decide +kernel
theorem dX6_waits_39 : decode cX6_waits 39 = .ok (.iload_n 1, 1) := by decide +kernel
theorem dX6_waits_40 : decode cX6_waits 40 = .ok (.invokevirtual 376, 3) := by decide +kernel
theorem dX6_waits_43 : decode cX6_waits 43 = .ok (.ifCond .ne 6, 3) := by decide +kernel
theorem dX6_waits_46 : decode cX6_waits 46 = .ok (.bipush (-2), 2) := by decide +kernel
theorem dX6_waits_48 : decode cX6_waits 48 = .ok (.ireturn, 1) := by decide +kernel
theorem dX6_waits_49 : decode cX6_waits 49 = .ok (.iload_n 2, 1) := by decide +kernel
theorem dX6_waits_50 : decode cX6_waits 50 = .ok (.iconst 3, 1) := by decide +kernel
theorem dX6_waits_51 : decode cX6_waits 51 = .ok (.if_icmp .ge 30, 3) := by decide +kernel
theorem dX6_waits_54 : decode cX6_waits 54 = .ok (.iload_n 2, 1) := by decide +kernel
theorem dX6_waits_55 : decode cX6_waits 55 = .ok (.iconst 1, 1) := by decide +kernel
theorem dX6_waits_56 : decode cX6_waits 56 = .ok (.if_icmp .ne 15, 3) := by decide +kernel
theorem dX6_waits_59 : decode cX6_waits 59 = .ok (.aload_n 0, 1) := by decide +kernel
theorem dX6_waits_60 : decode cX6_waits 60 = .ok (.sipush 2178, 3) := by decide +kernel
theorem dX6_waits_63 : decode cX6_waits 63 = .ok (.iload_n 1, 1) := by decide +kernel
theorem dX6_waits_64 : decode cX6_waits 64 = .ok (.iadd, 1) := by decide +kernel
theorem dX6_waits_65 : decode cX6_waits 65 = .ok (.invokevirtual 189, 3) := by decide +kernel
theorem dX6_waits_68 : decode cX6_waits 68 = .ok (.goto 12, 3) := by decide +kernel
theorem dX6_waits_71 : decode cX6_waits 71 = .ok (.aload_n 0, 1) := by decide +kernel
theorem dX6_waits_72 : decode cX6_waits 72 = .ok (.sipush 2184, 3) := by decide +kernel
theorem dX6_waits_75 : decode cX6_waits 75 = .ok (.iload_n 1, 1) := by decide +kernel
theorem dX6_waits_76 : decode cX6_waits 76 = .ok (.iadd, 1) := by decide +kernel
theorem dX6_waits_77 : decode cX6_waits 77 = .ok (.invokevirtual 189, 3) := by decide +kernel
theorem dX6_waits_80 : decode cX6_waits 80 = .ok (.ireturn, 1) := by decide +kernel
theorem dX6_waits_81 : decode cX6_waits 81 = .ok (.iconst 0, 1) := by decide +kernel
theorem dX6_waits_82 : decode cX6_waits 82 = .ok (.istore_n 3, 1) := by decide +kernel
theorem dX6_waits_83 : decode cX6_waits 83 = .ok (.iconst 0, 1) := by decide +kernel
theorem dX6_waits_84 : decode cX6_waits 84 = .ok (.istore 4, 2) := by decide +kernel
theorem dX6_waits_86 : decode cX6_waits 86 = .ok (.iload 4, 2) := by decide +kernel
theorem dX6_waits_88 : decode cX6_waits 88 = .ok (.aload_n 0, 1) := by decide +kernel
theorem dX6_waits_89 : decode cX6_waits 89 = .ok (.getfield 106, 3) := by decide +kernel
theorem dX6_waits_92 : decode cX6_waits 92 = .ok (.if_icmp .ge 64, 3) := by decide +kernel
theorem dX6_waits_95 : decode cX6_waits 95 = .ok (.iload_n 3, 1) := by decide +kernel
theorem dX6_waits_96 : decode cX6_waits 96 = .ok (.aload_n 0, 1) := by decide +kernel
theorem dX6_waits_97 : decode cX6_waits 97 = .ok (.iload 4, 2) := by decide +kernel
theorem dX6_waits_99 : decode cX6_waits 99 = .ok (.invokevirtual 376, 3) := by decide +kernel
theorem dX6_waits_102 : decode cX6_waits 102 = .ok (.ifCond .eq 45, 3) := by decide +kernel
theorem dX6_waits_105 : decode cX6_waits 105 = .ok (.aload_n 0, 1) := by decide +kernel
theorem dX6_waits_106 : decode cX6_waits 106 = .ok (.getfield 23, 3) := by decide +kernel
theorem dX6_waits_109 : decode cX6_waits 109 = .ok (.iload 4, 2) := by decide +kernel
theorem dX6_waits_111 : decode cX6_waits 111 = .ok (.iaload, 1) := by decide +kernel
theorem dX6_waits_112 : decode cX6_waits 112 = .ok (.aload_n 0, 1) := by decide +kernel
theorem dX6_waits_113 : decode cX6_waits 113 = .ok (.getfield 23, 3) := by decide +kernel
theorem dX6_waits_116 : decode cX6_waits 116 = .ok (.iload_n 1, 1) := by decide +kernel
theorem dX6_waits_117 : decode cX6_waits 117 = .ok (.iaload, 1) := by decide +kernel
theorem dX6_waits_118 : decode cX6_waits 118 = .ok (.if_icmp .ne 29, 3) := by decide +kernel
theorem dX6_waits_121 : decode cX6_waits 121 = .ok (.aload_n 0, 1) := by decide +kernel
theorem dX6_waits_122 : decode cX6_waits 122 = .ok (.sipush 2190, 3) := by decide +kernel
theorem dX6_waits_125 : decode cX6_waits 125 = .ok (.iload 4, 2) := by decide +kernel
theorem dX6_waits_127 : decode cX6_waits 127 = .ok (.iadd, 1) := by decide +kernel
theorem dX6_waits_128 : decode cX6_waits 128 = .ok (.invokevirtual 189, 3) := by decide +kernel
theorem dX6_waits_131 : decode cX6_waits 131 = .ok (.aload_n 0, 1) := by decide +kernel
theorem dX6_waits_132 : decode cX6_waits 132 = .ok (.sipush 2190, 3) := by decide +kernel
theorem dX6_waits_135 : decode cX6_waits 135 = .ok (.iload_n 1, 1) := by decide +kernel
theorem dX6_waits_136 : decode cX6_waits 136 = .ok (.iadd, 1) := by decide +kernel
theorem dX6_waits_137 : decode cX6_waits 137 = .ok (.invokevirtual 189, 3) := by decide +kernel
theorem dX6_waits_140 : decode cX6_waits 140 = .ok (.if_icmp .ge 7, 3) := by decide +kernel
theorem dX6_waits_143 : decode cX6_waits 143 = .ok (.iconst 1, 1) := by decide +kernel
theorem dX6_waits_144 : decode cX6_waits 144 = .ok (.goto 4, 3) := by decide +kernel
theorem dX6_waits_147 : decode cX6_waits 147 = .ok (.iconst 0, 1) := by decide +kernel
theorem dX6_waits_148 : decode cX6_waits 148 = .ok (.iadd, 1) := by decide +kernel
theorem dX6_waits_149 : decode cX6_waits 149 = .ok (.istore_n 3, 1) := by decide +kernel
theorem dX6_waits_150 : decode cX6_waits 150 = .ok (.iinc 4 1, 3) := by decide +kernel
theorem dX6_waits_153 : decode cX6_waits 153 = .ok (.goto (-67), 3) := by decide +kernel
theorem dX6_waits_156 : decode cX6_waits 156 = .ok (.iload_n 3, 1) := by decide +kernel
theorem dX6_waits_157 : decode cX6_waits 157 = .ok (.ireturn, 1) := by decide +kernel
def Mo_waits_148 (k86 : Int32 → Int32 → Int32 → Sl → Option (Int32 × Sl)) (v1 : Int32) (v4 : Int32) (s0 : Int32) (s1 : Int32) (d : Sl) : Option (Int32 × Sl) :=
  bnd (s1 + s0) fun v3_1 =>
  bnd (v4 + (1 : Int32)) fun v4_2 =>
  k86 v1 v3_1 v4_2 d
def Mo_waits_147 (k86 : Int32 → Int32 → Int32 → Sl → Option (Int32 × Sl)) (v1 : Int32) (v4 : Int32) (s0 : Int32) (d : Sl) : Option (Int32 × Sl) :=
  Mo_waits_148 k86 v1 v4 (0 : Int32) s0 d
def Mo_waits_86 : Nat → Int32 → Int32 → Int32 → Sl → Option (Int32 × Sl)
  | 0, _, _, _, _ => none
  | n + 1, v1, v3, v4, d =>
    if (d 34 11) ≤ v4 then
      (some (v3, d))
    else
      (bp (Mo_isWaiting d v4) fun r3 =>
      if r3 = 0 then
        (Mo_waits_147 (Mo_waits_86 n) v1 v4 v3 d)
      else
        (if inb v4 12 then
        if inb v1 12 then
        if (d 38 (ix v4)) = (d 38 (ix v1)) then
          (bp (Mo_of d ((2190 : Int32) + v4)) fun r4 =>
          bp (Mo_of d ((2190 : Int32) + v1)) fun r5 =>
          if r5 ≤ r4 then
            (Mo_waits_147 (Mo_waits_86 n) v1 v4 v3 d)
          else
            (Mo_waits_148 (Mo_waits_86 n) v1 v4 (1 : Int32) v3 d))
        else
          (Mo_waits_147 (Mo_waits_86 n) v1 v4 v3 d)
        else none
        else none))
def Mo_waits (d : Sl) (a1 : Int32) (a2 : Int32) : Option (Int32 × Sl) :=
  bnd (wr d 34 2 (0 : Int32)) fun d6 =>
  bp (Mo_isSpace d6 a1) fun r7 =>
  if r7 = 0 then
    (some ((-1 : Int32), d6))
  else
    (bp (Mo_isIn a2 (0 : Int32) (3 : Int32)) fun r8 =>
    if r8 = 0 then
      (some ((-1 : Int32), d6))
    else
      (if a2 = 0 then
        (bp (Mo_of d6 ((2172 : Int32) + a1)) fun r14 =>
        some (r14, d6))
      else
        (bp (Mo_isWaiting d6 a1) fun r9 =>
        if r9 = 0 then
          (some ((-2 : Int32), d6))
        else
          (if (3 : Int32) ≤ a2 then
            (bnd (0 : Int32) fun v3_10 =>
            bnd (0 : Int32) fun v4_11 =>
            Mo_waits_86 FU a1 v3_10 v4_11 d6)
          else
            (if a2 = (1 : Int32) then
              (bp (Mo_of d6 ((2178 : Int32) + a1)) fun r13 =>
              some (r13, d6))
            else
              (bp (Mo_of d6 ((2184 : Int32) + a1)) fun r12 =>
              some (r12, d6)))))))
theorem y_X6_waits : YV yX6_waits cX6_waits 5 (some .int) 2 := ⟨q1903, q1904, q1905, q149, by decide +kernel, by decide +kernel, by decide +kernel, by decide +kernel⟩
theorem r_Mo_waits_148 {C : Cxt} {G : Geo} {M : Mem} {k : Nat} (hC : Cx C cX6_waits 5 "FrameHeirsModel" (some .int) rm_X6_waits G) (hk : LMo G k) (k86 : Int32 → Int32 → Int32 → Sl → Option (Int32 × Sl)) (h86 : ∀ (v1 : Int32) (v3 : Int32) (v4 : Int32) (d : Sl), Rz C 5 G (setS M k) (poM avI (setS M k)) 86 [(0, .inr (k, 34)), (1, .inl (.int v1)), (3, .inl (.int v3)), (4, .inl (.int v4))] [] d (k86 v1 v3 v4 d)) (v1 : Int32) (v4 : Int32) (s0 : Int32) (s1 : Int32) (d : Sl) : Rz C 5 G (setS M k) (poM avI (setS M k)) 148 [(0, .inr (k, 34)), (1, .inl (.int v1)), (4, .inl (.int v4))] [.inl (.int s0), .inl (.int s1)] d (Mo_waits_148 k86 v1 v4 s0 s1 d) := by
  unfold Mo_waits_148
  refine z_iadd (pc := 148) hC dX6_waits_148 ?_
  refine z_istore_n (pc := 149) (ls1 := fun v => [(3, .inl (.int v)), (0, .inr (k, 34)), (1, .inl (.int v1)), (4, .inl (.int v4))]) hC 3 rfl (by decide) (fun v => rfl) dX6_waits_149 (fun v3_1 => ?_)
  refine z_iinc (pc := 150) (ls1 := fun v => [(4, .inl (.int v)), (3, .inl (.int v3_1)), (0, .inr (k, 34)), (1, .inl (.int v1))]) hC 4 3 (by decide) (1 : Int32) rfl rfl (fun v => rfl) dX6_waits_150 (fun v4_2 => ?_)
  refine z_goto (pc := 153) hC 86 rfl dX6_waits_153 ?_
  exact z_sub [2, 3, 1, 0] rfl (h86 v1 v3_1 v4_2 d)
theorem r_Mo_waits_147 {C : Cxt} {G : Geo} {M : Mem} {k : Nat} (hC : Cx C cX6_waits 5 "FrameHeirsModel" (some .int) rm_X6_waits G) (hk : LMo G k) (k86 : Int32 → Int32 → Int32 → Sl → Option (Int32 × Sl)) (h86 : ∀ (v1 : Int32) (v3 : Int32) (v4 : Int32) (d : Sl), Rz C 5 G (setS M k) (poM avI (setS M k)) 86 [(0, .inr (k, 34)), (1, .inl (.int v1)), (3, .inl (.int v3)), (4, .inl (.int v4))] [] d (k86 v1 v3 v4 d)) (v1 : Int32) (v4 : Int32) (s0 : Int32) (d : Sl) : Rz C 5 G (setS M k) (poM avI (setS M k)) 147 [(0, .inr (k, 34)), (1, .inl (.int v1)), (4, .inl (.int v4))] [.inl (.int s0)] d (Mo_waits_147 k86 v1 v4 s0 d) := by
  unfold Mo_waits_147
  refine z_iconst (pc := 147) hC (0 : Int32) rfl dX6_waits_147 ?_
  exact z_sub [0, 1, 2] rfl (r_Mo_waits_148 hC hk k86 h86 v1 v4 (0 : Int32) s0 d)
theorem r_Mo_waits_86 {C : Cxt} {G : Geo} {M : Mem} {k : Nat} (hC : Cx C cX6_waits 5 "FrameHeirsModel" (some .int) rm_X6_waits G) (hk : LMo G k) : ∀ (n : Nat) (v1 : Int32) (v3 : Int32) (v4 : Int32) (d : Sl), Rz C 5 G (setS M k) (poM avI (setS M k)) 86 [(0, .inr (k, 34)), (1, .inl (.int v1)), (3, .inl (.int v3)), (4, .inl (.int v4))] [] d (Mo_waits_86 n v1 v3 v4 d) := by
  intro n
  induction n with
  | zero => intros; exact z_none
  | succ n ih =>
    intro v1 v3 v4 d
    rw [Mo_waits_86]
    refine z_iload (pc := 86) hC 4 3 rfl dX6_waits_86 ?_
    refine z_aload_n (pc := 88) hC 0 rfl 0 rfl dX6_waits_88 ?_
    refine zs_geti (pc := 89) hC (hk 34 rfl) f_34_11 q1281 dX6_waits_89 ?_
    refine z_icmp_ge (pc := 92) hC 156 rfl dX6_waits_92 ?_ ?_
    · refine z_iload_n (pc := 156) hC 3 rfl 2 rfl dX6_waits_156 ?_
      exact z_iret (pc := 157) hC rfl dX6_waits_157
    · refine z_iload_n (pc := 95) hC 3 rfl 2 rfl dX6_waits_95 ?_
      refine z_aload_n (pc := 96) hC 0 rfl 0 rfl dX6_waits_96 ?_
      refine z_iload (pc := 97) hC 4 3 rfl dX6_waits_97 ?_
      refine z_piV (pc := 99) (st := [.inl (.int v3)]) hC y_X6_isWaiting q1697 [.inl (.int v4)] rfl (hk 34 rfl) rfl rfl (c_X6_isWaiting hC.2.2.2.2.2.2.1 hk) rfl ⟨rfl, rfl, (Nat.le_of_ble_eq_true rfl), (Nat.le_of_ble_eq_true rfl)⟩ (Nat.le_of_ble_eq_true rfl) dX6_waits_99 (fun r3 => ?_)
      refine z_if_eq (pc := 102) hC 147 rfl dX6_waits_102 ?_ ?_
      · exact z_sub [0, 1, 3] rfl (r_Mo_waits_147 hC hk _ ih v1 v4 v3 d)
      · refine z_aload_n (pc := 105) hC 0 rfl 0 rfl dX6_waits_105 ?_
        refine z_getc (pc := 106) hC (hk 34 rfl) f_34_16 q1286 dX6_waits_106 ?_
        refine z_iload (pc := 109) hC 4 3 rfl dX6_waits_109 ?_
        refine zs_iald (pc := 111) hC (hk 38 rfl) rfl dX6_waits_111 ?_
        refine z_aload_n (pc := 112) hC 0 rfl 0 rfl dX6_waits_112 ?_
        refine z_getc (pc := 113) hC (hk 34 rfl) f_34_16 q1286 dX6_waits_113 ?_
        refine z_iload_n (pc := 116) hC 1 rfl 1 rfl dX6_waits_116 ?_
        refine zs_iald (pc := 117) hC (hk 38 rfl) rfl dX6_waits_117 ?_
        refine z_icmp_ne (pc := 118) hC 147 rfl dX6_waits_118 ?_ ?_
        · exact z_sub [0, 1, 3] rfl (r_Mo_waits_147 hC hk _ ih v1 v4 v3 d)
        · refine z_aload_n (pc := 121) hC 0 rfl 0 rfl dX6_waits_121 ?_
          refine z_sipush (pc := 122) hC (2190 : Int32) rfl dX6_waits_122 ?_
          refine z_iload (pc := 125) hC 4 3 rfl dX6_waits_125 ?_
          refine z_iadd (pc := 127) hC dX6_waits_127 ?_
          refine z_piV (pc := 128) (st := [.inl (.int v3)]) hC y_X6_of q1262 [.inl (.int ((2190 : Int32) + v4))] rfl (hk 34 rfl) rfl rfl (c_X6_of hC.2.2.2.2.2.2.1 hk) rfl ⟨rfl, rfl, (Nat.le_of_ble_eq_true rfl), (Nat.le_of_ble_eq_true rfl)⟩ (Nat.le_of_ble_eq_true rfl) dX6_waits_128 (fun r4 => ?_)
          refine z_aload_n (pc := 131) hC 0 rfl 0 rfl dX6_waits_131 ?_
          refine z_sipush (pc := 132) hC (2190 : Int32) rfl dX6_waits_132 ?_
          refine z_iload_n (pc := 135) hC 1 rfl 1 rfl dX6_waits_135 ?_
          refine z_iadd (pc := 136) hC dX6_waits_136 ?_
          refine z_piV (pc := 137) (st := [.inl (.int r4), .inl (.int v3)]) hC y_X6_of q1262 [.inl (.int ((2190 : Int32) + v1))] rfl (hk 34 rfl) rfl rfl (c_X6_of hC.2.2.2.2.2.2.1 hk) rfl ⟨rfl, rfl, (Nat.le_of_ble_eq_true rfl), (Nat.le_of_ble_eq_true rfl)⟩ (Nat.le_of_ble_eq_true rfl) dX6_waits_137 (fun r5 => ?_)
          refine z_icmp_ge (pc := 140) hC 147 rfl dX6_waits_140 ?_ ?_
          · exact z_sub [0, 1, 3] rfl (r_Mo_waits_147 hC hk _ ih v1 v4 v3 d)
          · refine z_iconst (pc := 143) hC (1 : Int32) rfl dX6_waits_143 ?_
            refine z_goto (pc := 144) hC 148 rfl dX6_waits_144 ?_
            exact z_sub [0, 1, 3] rfl (r_Mo_waits_148 hC hk _ ih v1 v4 (1 : Int32) v3 d)
theorem r_Mo_waits {C : Cxt} {G : Geo} {M : Mem} {k : Nat} (hC : Cx C cX6_waits 5 "FrameHeirsModel" (some .int) rm_X6_waits G) (hk : LMo G k) (d : Sl) (a1 : Int32) (a2 : Int32) : Rz C 5 G (setS M k) (poM avI (setS M k)) 0 [(0, .inr (k, 34)), (1, .inl (.int a1)), (2, .inl (.int a2))] [] d (Mo_waits d a1 a2) := by
  unfold Mo_waits
  refine z_aload_n (pc := 0) hC 0 rfl 0 rfl dX6_waits_0 ?_
  refine z_iconst (pc := 1) hC (0 : Int32) rfl dX6_waits_1 ?_
  refine zs_puti (pc := 2) hC (hk 34 rfl) f_34_2 q1272 dX6_waits_2 (fun d6 => ?_)
  refine z_aload_n (pc := 5) hC 0 rfl 0 rfl dX6_waits_5 ?_
  refine z_iload_n (pc := 6) hC 1 rfl 1 rfl dX6_waits_6 ?_
  refine z_piV (pc := 7) (st := []) hC y_X6_isSpace q1484 [.inl (.int a1)] rfl (hk 34 rfl) rfl rfl (c_X6_isSpace hC.2.2.2.2.2.2.1 hk) rfl ⟨rfl, rfl, (Nat.le_of_ble_eq_true rfl), (Nat.le_of_ble_eq_true rfl)⟩ (Nat.le_of_ble_eq_true rfl) dX6_waits_7 (fun r7 => ?_)
  refine z_if_eq (pc := 10) hC 22 rfl dX6_waits_10 ?_ ?_
  · refine z_iconst (pc := 22) hC (-1 : Int32) rfl dX6_waits_22 ?_
    exact z_iret (pc := 23) hC rfl dX6_waits_23
  · refine z_iload_n (pc := 13) hC 2 rfl 2 rfl dX6_waits_13 ?_
    refine z_iconst (pc := 14) hC (0 : Int32) rfl dX6_waits_14 ?_
    refine z_iconst (pc := 15) hC (3 : Int32) rfl dX6_waits_15 ?_
    refine z_piS (pc := 16) (st := []) hC y_X6_isIn q1429 [.inl (.int a2), .inl (.int (0 : Int32)), .inl (.int (3 : Int32))] rfl (c_X6_isIn hC.2.2.2.2.2.2.1) rfl ⟨rfl, rfl, (Nat.le_of_ble_eq_true rfl), (Nat.le_of_ble_eq_true rfl)⟩ (Nat.le_of_ble_eq_true rfl) dX6_waits_16 (fun r8 => ?_)
    refine z_if_ne (pc := 19) hC 24 rfl dX6_waits_19 ?_ ?_
    · refine z_iload_n (pc := 24) hC 2 rfl 2 rfl dX6_waits_24 ?_
      refine z_if_ne (pc := 25) hC 38 rfl dX6_waits_25 ?_ ?_
      · refine z_aload_n (pc := 38) hC 0 rfl 0 rfl dX6_waits_38 ?_
        refine z_iload_n (pc := 39) hC 1 rfl 1 rfl dX6_waits_39 ?_
        refine z_piV (pc := 40) (st := []) hC y_X6_isWaiting q1697 [.inl (.int a1)] rfl (hk 34 rfl) rfl rfl (c_X6_isWaiting hC.2.2.2.2.2.2.1 hk) rfl ⟨rfl, rfl, (Nat.le_of_ble_eq_true rfl), (Nat.le_of_ble_eq_true rfl)⟩ (Nat.le_of_ble_eq_true rfl) dX6_waits_40 (fun r9 => ?_)
        refine z_if_ne (pc := 43) hC 49 rfl dX6_waits_43 ?_ ?_
        · refine z_iload_n (pc := 49) hC 2 rfl 2 rfl dX6_waits_49 ?_
          refine z_iconst (pc := 50) hC (3 : Int32) rfl dX6_waits_50 ?_
          refine z_icmp_ge (pc := 51) hC 81 rfl dX6_waits_51 ?_ ?_
          · refine z_iconst (pc := 81) hC (0 : Int32) rfl dX6_waits_81 ?_
            refine z_istore_n (pc := 82) (ls1 := fun v => [(3, .inl (.int v)), (0, .inr (k, 34)), (1, .inl (.int a1)), (2, .inl (.int a2))]) hC 3 rfl (by decide) (fun v => rfl) dX6_waits_82 (fun v3_10 => ?_)
            refine z_iconst (pc := 83) hC (0 : Int32) rfl dX6_waits_83 ?_
            refine z_istore (pc := 84) (ls1 := fun v => [(4, .inl (.int v)), (3, .inl (.int v3_10)), (0, .inr (k, 34)), (1, .inl (.int a1)), (2, .inl (.int a2))]) hC 4 (by decide) (fun v => rfl) dX6_waits_84 (fun v4_11 => ?_)
            exact z_sub [2, 3, 1, 0] rfl (r_Mo_waits_86 hC hk FU a1 v3_10 v4_11 d6)
          · refine z_iload_n (pc := 54) hC 2 rfl 2 rfl dX6_waits_54 ?_
            refine z_iconst (pc := 55) hC (1 : Int32) rfl dX6_waits_55 ?_
            refine z_icmp_ne (pc := 56) hC 71 rfl dX6_waits_56 ?_ ?_
            · refine z_aload_n (pc := 71) hC 0 rfl 0 rfl dX6_waits_71 ?_
              refine z_sipush (pc := 72) hC (2184 : Int32) rfl dX6_waits_72 ?_
              refine z_iload_n (pc := 75) hC 1 rfl 1 rfl dX6_waits_75 ?_
              refine z_iadd (pc := 76) hC dX6_waits_76 ?_
              refine z_piV (pc := 77) (st := []) hC y_X6_of q1262 [.inl (.int ((2184 : Int32) + a1))] rfl (hk 34 rfl) rfl rfl (c_X6_of hC.2.2.2.2.2.2.1 hk) rfl ⟨rfl, rfl, (Nat.le_of_ble_eq_true rfl), (Nat.le_of_ble_eq_true rfl)⟩ (Nat.le_of_ble_eq_true rfl) dX6_waits_77 (fun r12 => ?_)
              exact z_iret (pc := 80) hC rfl dX6_waits_80
            · refine z_aload_n (pc := 59) hC 0 rfl 0 rfl dX6_waits_59 ?_
              refine z_sipush (pc := 60) hC (2178 : Int32) rfl dX6_waits_60 ?_
              refine z_iload_n (pc := 63) hC 1 rfl 1 rfl dX6_waits_63 ?_
              refine z_iadd (pc := 64) hC dX6_waits_64 ?_
              refine z_piV (pc := 65) (st := []) hC y_X6_of q1262 [.inl (.int ((2178 : Int32) + a1))] rfl (hk 34 rfl) rfl rfl (c_X6_of hC.2.2.2.2.2.2.1 hk) rfl ⟨rfl, rfl, (Nat.le_of_ble_eq_true rfl), (Nat.le_of_ble_eq_true rfl)⟩ (Nat.le_of_ble_eq_true rfl) dX6_waits_65 (fun r13 => ?_)
              refine z_goto (pc := 68) hC 80 rfl dX6_waits_68 ?_
              exact z_iret (pc := 80) hC rfl dX6_waits_80
        · refine z_bipush (pc := 46) hC (-2 : Int32) rfl dX6_waits_46 ?_
          exact z_iret (pc := 48) hC rfl dX6_waits_48
      · refine z_aload_n (pc := 28) hC 0 rfl 0 rfl dX6_waits_28 ?_
        refine z_sipush (pc := 29) hC (2172 : Int32) rfl dX6_waits_29 ?_
        refine z_iload_n (pc := 32) hC 1 rfl 1 rfl dX6_waits_32 ?_
        refine z_iadd (pc := 33) hC dX6_waits_33 ?_
        refine z_piV (pc := 34) (st := []) hC y_X6_of q1262 [.inl (.int ((2172 : Int32) + a1))] rfl (hk 34 rfl) rfl rfl (c_X6_of hC.2.2.2.2.2.2.1 hk) rfl ⟨rfl, rfl, (Nat.le_of_ble_eq_true rfl), (Nat.le_of_ble_eq_true rfl)⟩ (Nat.le_of_ble_eq_true rfl) dX6_waits_34 (fun r14 => ?_)
        exact z_iret (pc := 37) hC rfl dX6_waits_37
    · refine z_iconst (pc := 22) hC (-1 : Int32) rfl dX6_waits_22 ?_
      exact z_iret (pc := 23) hC rfl dX6_waits_23
theorem c_X6_waits {G : Geo} {M : Mem} {k : Nat} (hG : GOk G) (hk : LMo G k) {d : Sl} {a1 : Int32} {a2 : Int32} (l : Launch) (r : Int32) (d1 : Sl) (h : Mo_waits d a1 a2 = some (r, d1)) : Mt l yX6_waits cX6_waits 5 (some .int) rm_X6_waits G [.inr (k, 34), .inl (.int a1), .inl (.int a2)] ((setS M k) d) (avI r) ((setS M k) d1) :=
  mt_of (mem := (setS M k)) (po := poM avI (setS M k)) (x0 := d) (t := (r, d1)) rfl hG [.inr (k, 34), .inl (.int a1), .inl (.int a2)] (Nat.le_of_ble_eq_true rfl) rfl (fun C hC => r_Mo_waits hC hk d a1 a2) h
-- FrameHeirsModel.isBelowThere(I)Z
abbrev rm_X6_isBelowThere : Room := { frames := 3, cells := 0, slots := 0, locals := 65 }
theorem dX6_isBelowThere_0 : decode cX6_isBelowThere 0 = .ok (.iconst 0, 1) := by decide +kernel
theorem dX6_isBelowThere_1 : decode cX6_isBelowThere 1 = .ok (.istore_n 2, 1) := by decide +kernel
theorem dX6_isBelowThere_2 : decode cX6_isBelowThere 2 = .ok (.iload_n 2, 1) := by decide +kernel
theorem dX6_isBelowThere_3 : decode cX6_isBelowThere 3 = .ok (.aload_n 0, 1) := by decide +kernel
theorem dX6_isBelowThere_4 : decode cX6_isBelowThere 4 = .ok (.getfield 255, 3) := by decide +kernel
theorem dX6_isBelowThere_7 : decode cX6_isBelowThere 7 = .ok (.if_icmp .ge 25, 3) := by decide +kernel
theorem dX6_isBelowThere_10 : decode cX6_isBelowThere 10 = .ok (.aload_n 0, 1) := by decide +kernel
theorem dX6_isBelowThere_11 : decode cX6_isBelowThere 11 = .ok (.aload_n 0, 1) := by decide +kernel
theorem dX6_isBelowThere_12 : decode cX6_isBelowThere 12 = .ok (.getfield 52, 3) := by decide +kernel
theorem dX6_isBelowThere_15 : decode cX6_isBelowThere 15 = .ok (.iload_n 2, 1) := by decide +kernel
theorem dX6_isBelowThere_16 : decode cX6_isBelowThere 16 = .ok (.iaload, 1) := by decide +kernel
theorem dX6_isBelowThere_17 : decode cX6_isBelowThere 17 = .ok (.iload_n 1, 1) := by decide +kernel
theorem dX6_isBelowThere_18 : decode cX6_isBelowThere 18 = .ok (.invokevirtual 219, 3) := by decide +kernel
theorem dX6_isBelowThere_21 : decode cX6_isBelowThere 21 = .ok (.ifCond .eq 5, 3) := by decide +kernel
theorem dX6_isBelowThere_24 : decode cX6_isBelowThere 24 = .ok (.iconst 1, 1) := by decide +kernel
theorem dX6_isBelowThere_25 : decode cX6_isBelowThere 25 = .ok (.ireturn, 1) := by decide +kernel
theorem dX6_isBelowThere_26 : decode cX6_isBelowThere 26 = .ok (.iinc 2 1, 3) := by decide +kernel
theorem dX6_isBelowThere_29 : decode cX6_isBelowThere 29 = .ok (.goto (-27), 3) := by decide +kernel
theorem dX6_isBelowThere_32 : decode cX6_isBelowThere 32 = .ok (.iconst 0, 1) := by decide +kernel
theorem dX6_isBelowThere_33 : decode cX6_isBelowThere 33 = .ok (.ireturn, 1) := by decide +kernel
def Mo_isBelowThere_2 (d : Sl) : Nat → Int32 → Int32 → Option Int32
  | 0, _, _ => none
  | n + 1, v1, v2 =>
    if (d 34 30) ≤ v2 then
      (some (0 : Int32))
    else
      (if inb v2 8 then
      bp (Mo_isAbove d (d 47 (ix v2)) v1) fun r1 =>
      if r1 = 0 then
        (bnd (v2 + (1 : Int32)) fun v2_2 =>
        Mo_isBelowThere_2 d n v1 v2_2)
      else
        (some (1 : Int32))
      else none)
def Mo_isBelowThere (d : Sl) (a1 : Int32) : Option Int32 :=
  bnd (0 : Int32) fun v2_3 =>
  Mo_isBelowThere_2 d FU a1 v2_3
theorem y_X6_isBelowThere : YV yX6_isBelowThere cX6_isBelowThere 3 (some .boolean) 1 := ⟨q1912, q139, q1913, q149, by decide +kernel, by decide +kernel, by decide +kernel, by decide +kernel⟩
theorem r_Mo_isBelowThere_2 {C : Cxt} {G : Geo} {M : Mem} {k : Nat} {d : Sl} (hC : Cx C cX6_isBelowThere 3 "FrameHeirsModel" (some .boolean) rm_X6_isBelowThere G) (hk : LMo G k) : ∀ (n : Nat) (v1 : Int32) (v2 : Int32), Rz C 3 G (setS M k) (poP avI ((setS M k) d)) 2 [(0, .inr (k, 34)), (1, .inl (.int v1)), (2, .inl (.int v2))] [] d (Mo_isBelowThere_2 d n v1 v2) := by
  intro n
  induction n with
  | zero => intros; exact z_none
  | succ n ih =>
    intro v1 v2
    rw [Mo_isBelowThere_2]
    refine z_iload_n (pc := 2) hC 2 rfl 2 rfl dX6_isBelowThere_2 ?_
    refine z_aload_n (pc := 3) hC 0 rfl 0 rfl dX6_isBelowThere_3 ?_
    refine zs_geti (pc := 4) hC (hk 34 rfl) f_34_30 q1300 dX6_isBelowThere_4 ?_
    refine z_icmp_ge (pc := 7) hC 32 rfl dX6_isBelowThere_7 ?_ ?_
    · refine z_iconst (pc := 32) hC (0 : Int32) rfl dX6_isBelowThere_32 ?_
      exact z_zret (pc := 33) hC rfl rfl dX6_isBelowThere_33
    · refine z_aload_n (pc := 10) hC 0 rfl 0 rfl dX6_isBelowThere_10 ?_
      refine z_aload_n (pc := 11) hC 0 rfl 0 rfl dX6_isBelowThere_11 ?_
      refine z_getc (pc := 12) hC (hk 34 rfl) f_34_29 q1299 dX6_isBelowThere_12 ?_
      refine z_iload_n (pc := 15) hC 2 rfl 2 rfl dX6_isBelowThere_15 ?_
      refine zs_iald (pc := 16) hC (hk 47 rfl) rfl dX6_isBelowThere_16 ?_
      refine z_iload_n (pc := 17) hC 1 rfl 1 rfl dX6_isBelowThere_17 ?_
      refine z_piV (pc := 18) (st := []) hC y_X6_isAbove q1568 [.inl (.int (d 47 (ix v2))), .inl (.int v1)] rfl (hk 34 rfl) rfl rfl (c_X6_isAbove hC.2.2.2.2.2.2.1 hk) rfl ⟨rfl, rfl, (Nat.le_of_ble_eq_true rfl), (Nat.le_of_ble_eq_true rfl)⟩ (Nat.le_of_ble_eq_true rfl) dX6_isBelowThere_18 (fun r1 => ?_)
      refine z_if_eq (pc := 21) hC 26 rfl dX6_isBelowThere_21 ?_ ?_
      · refine z_iinc (pc := 26) (ls1 := fun v => [(2, .inl (.int v)), (0, .inr (k, 34)), (1, .inl (.int v1))]) hC 2 2 (by decide) (1 : Int32) rfl rfl (fun v => rfl) dX6_isBelowThere_26 (fun v2_2 => ?_)
        refine z_goto (pc := 29) hC 2 rfl dX6_isBelowThere_29 ?_
        exact z_sub [1, 2, 0] rfl (ih v1 v2_2)
      · refine z_iconst (pc := 24) hC (1 : Int32) rfl dX6_isBelowThere_24 ?_
        exact z_zret (pc := 25) hC rfl rfl dX6_isBelowThere_25
theorem r_Mo_isBelowThere {C : Cxt} {G : Geo} {M : Mem} {k : Nat} (hC : Cx C cX6_isBelowThere 3 "FrameHeirsModel" (some .boolean) rm_X6_isBelowThere G) (hk : LMo G k) (d : Sl) (a1 : Int32) : Rz C 3 G (setS M k) (poP avI ((setS M k) d)) 0 [(0, .inr (k, 34)), (1, .inl (.int a1))] [] d (Mo_isBelowThere d a1) := by
  unfold Mo_isBelowThere
  refine z_iconst (pc := 0) hC (0 : Int32) rfl dX6_isBelowThere_0 ?_
  refine z_istore_n (pc := 1) (ls1 := fun v => [(2, .inl (.int v)), (0, .inr (k, 34)), (1, .inl (.int a1))]) hC 2 rfl (by decide) (fun v => rfl) dX6_isBelowThere_1 (fun v2_3 => ?_)
  exact z_sub [1, 2, 0] rfl (r_Mo_isBelowThere_2 hC hk FU a1 v2_3)
theorem c_X6_isBelowThere {G : Geo} {M : Mem} {k : Nat} (hG : GOk G) (hk : LMo G k) {d : Sl} {a1 : Int32} (l : Launch) (r : Int32) (h : Mo_isBelowThere d a1 = some r) : Mt l yX6_isBelowThere cX6_isBelowThere 3 (some .boolean) rm_X6_isBelowThere G [.inr (k, 34), .inl (.int a1)] ((setS M k) d) (avI r) ((setS M k) d) :=
  mt_of (mem := (setS M k)) (po := poP avI ((setS M k) d)) (x0 := d) (t := r) rfl hG [.inr (k, 34), .inl (.int a1)] (Nat.le_of_ble_eq_true rfl) rfl (fun C hC => r_Mo_isBelowThere hC hk d a1) h
-- FrameHeirsModel.lost(III)I
abbrev rm_X6_lost : Room := { frames := 4, cells := 0, slots := 0, locals := 87 }
theorem dX6_lost_0 : decode cX6_lost 0 = .ok (.aload_n 0, 1) := by decide +kernel
theorem dX6_lost_1 : decode cX6_lost 1 = .ok (.iconst 0, 1) := by decide +kernel
theorem dX6_lost_2 : decode cX6_lost 2 = .ok (.putfield 61, 3) := by decide +kernel
theorem dX6_lost_5 : decode cX6_lost 5 = .ok (.aload_n 0, 1) := by decide +kernel
theorem dX6_lost_6 : decode cX6_lost 6 = .ok (.iload_n 1, 1) := by decide +kernel
theorem dX6_lost_7 : decode cX6_lost 7 = .ok (.invokevirtual 264, 3) := by decide +kernel
theorem dX6_lost_10 : decode cX6_lost 10 = .ok (.ifCond .eq 20, 3) := by decide +kernel
theorem dX6_lost_13 : decode cX6_lost 13 = .ok (.aload_n 0, 1) := by decide +kernel
theorem dX6_lost_14 : decode cX6_lost 14 = .ok (.iload_n 2, 1) := by decide +kernel
theorem dX6_lost_15 : decode cX6_lost 15 = .ok (.invokevirtual 267, 3) := by decide +kernel
theorem dX6_lost_18 : decode cX6_lost 18 = .ok (.ifCond .eq 12, 3) := by decide +kernel
theorem dX6_lost_21 : decode cX6_lost 21 = .ok (.iload_n 3, 1) := by decide +kernel
theorem dX6_lost_22 : decode cX6_lost 22 = .ok (.iconst 0, 1) := by decide +kernel
theorem dX6_lost_23 : decode cX6_lost 23 = .ok (.iconst 1, 1) := by decide +kernel
theorem dX6_lost_24 : decode cX6_lost 24 = .ok (.invokestatic 137, 3) := by decide +kernel
theorem dX6_lost_27 : decode cX6_lost 27 = .ok (.ifCond .ne 5, 3) := by decide +kernel
theorem dX6_lost_30 : decode cX6_lost 30 = .ok (.iconst (-1), 1) := by decide +kernel
theorem dX6_lost_31 : decode cX6_lost 31 = .ok (.ireturn, 1) := by decide +kernel
theorem dX6_lost_32 : decode cX6_lost 32 = .ok (.iload_n 2, 1) := by decide +kernel
theorem dX6_lost_33 : decode cX6_lost 33 = .ok (.iconst 4, 1) := by decide +kernel
theorem dX6_lost_34 : decode cX6_lost 34 = .ok (.irem, 1) := by decide +kernel
theorem dX6_lost_35 : decode cX6_lost 35 = .ok (.istore 4, 2) := by decide +kernel
theorem dX6_lost_37 : decode cX6_lost 37 = .ok (.iload_n 2, 1) := by decide +kernel
theorem dX6_lost_38 : decode cX6_lost 38 = .ok (.iconst 4, 1) := by decide +kernel
theorem dX6_lost_39 : decode cX6_lost 39 = .ok (.idiv, 1) := by decide +kernel
theorem dX6_lost_40 : decode cX6_lost 40 = .ok (.istore 5, 2) := by decide +kernel
theorem dX6_lost_42 : decode cX6_lost 42 = .ok (.aload_n 0, 1) := by decide +kernel
theorem dX6_lost_43 : decode cX6_lost 43 = .ok (.iload_n 1, 1) := by decide +kernel
theorem dX6_lost_44 : decode cX6_lost 44 = .ok (.iload 5, 2) := by decide +kernel
theorem dX6_lost_46 : decode cX6_lost 46 = .ok (.iload 4, 2) := by decide +kernel
theorem dX6_lost_48 : decode cX6_lost 48 = .ok (.invokevirtual 270, 3) := by decide +kernel
theorem dX6_lost_51 : decode cX6_lost 51 = .ok (.aload_n 0, 1) := by decide +kernel
theorem dX6_lost_52 : decode cX6_lost 52 = .ok (.getfield 255, 3) := by decide +kernel
theorem dX6_lost_55 : decode cX6_lost 55 = .ok (.ifCond .ne 6, 3) := by decide +kernel
theorem dX6_lost_58 : decode cX6_lost 58 = .ok (.bipush (-2), 2) := by decide +kernel
theorem dX6_lost_60 : decode cX6_lost 60 = .ok (.ireturn, 1) := by decide +kernel
theorem dX6_lost_61 : decode cX6_lost 61 = .ok (.aload_n 0, 1) := by decide +kernel
theorem dX6_lost_62 : decode cX6_lost 62 = .ok (.aload_n 0, 1) := by decide +kernel
theorem dX6_lost_63 : decode cX6_lost 63 = .ok (.getfield 52, 3) := by decide +kernel
theorem dX6_lost_66 : decode cX6_lost 66 = .ok (.iconst 0, 1) := by decide +kernel
theorem dX6_lost_67 : decode cX6_lost 67 = .ok (.iaload, 1) := by decide +kernel
theorem dX6_lost_68 : decode cX6_lost 68 = .ok (.invokevirtual 196, 3) := by decide +kernel
theorem dX6_lost_71 : decode cX6_lost 71 = .ok (.iload 4, 2) := by decide +kernel
theorem dX6_lost_73 : decode cX6_lost 73 = .ok (.if_icmp .le 7, 3) := by decide +kernel
theorem dX6_lost_76 : decode cX6_lost 76 = .ok (.iconst 1, 1) := by decide +kernel
theorem dX6_lost_77 : decode cX6_lost 77 = .ok (.goto 4, 3) := by decide +kernel
theorem dX6_lost_80 : decode cX6_lost 80 = .ok (.iconst 0, 1) := by decide +kernel
theorem dX6_lost_81 : decode cX6_lost 81 = .ok (.istore 6, 2) := by decide +kernel
theorem dX6_lost_83 : decode cX6_lost 83 = .ok (.iconst 0, 1) := by decide +kernel
theorem dX6_lost_84 : decode cX6_lost 84 = .ok (.istore 7, 2) := by decide +kernel
theorem dX6_lost_86 : decode cX6_lost 86 = .ok (.iconst 0, 1) := by decide +kernel
theorem dX6_lost_87 : decode cX6_lost 87 = .ok (.istore 8, 2) := by decide +kernel
theorem dX6_lost_89 : decode cX6_lost 89 = .ok (.iconst 0, 1) := by decide +kernel
theorem dX6_lost_90 : decode cX6_lost 90 = .ok (.istore 9, 2) := by decide +kernel
theorem dX6_lost_92 : decode cX6_lost 92 = .ok (.iload 9, 2) := by decide +kernel
theorem dX6_lost_94 : decode cX6_lost 94 = .ok (.sipush 192, 3) := by decide +kernel
theorem dX6_lost_97 : decode cX6_lost 97 = .ok (.if_icmp .ge 117, 3) := by decide +kernel
theorem dX6_lost_100 : decode cX6_lost 100 = .ok (.aload_n 0, 1) := by decide +kernel
theorem dX6_lost_101 : decode cX6_lost 101 = .ok (.iload 9, 2) := by decide +kernel
theorem dX6_lost_103 : decode cX6_lost 103 = .ok (.invokevirtual 216, 3) := by decide +kernel
theorem dX6_lost_106 : decode cX6_lost 106 = .ok (.ifCond .eq 102, 3) := by decide +kernel
theorem dX6_lost_109 : decode cX6_lost 109 = .ok (.aload_n 0, 1) := by decide +kernel
theorem dX6_lost_110 : decode cX6_lost 110 = .ok (.iload 9, 2) := by decide +kernel
theorem dX6_lost_112 : decode cX6_lost 112 = .ok (.invokevirtual 466, 3) := by decide +kernel
theorem dX6_lost_115 : decode cX6_lost 115 = .ok (.ifCond .ne 6, 3) := by decide +kernel
theorem dX6_lost_118 : decode cX6_lost 118 = .ok (.goto 90, 3) := by decide +kernel
theorem dX6_lost_121 : decode cX6_lost 121 = .ok (.iconst 0, 1) := by decide +kernel
theorem dX6_lost_122 : decode cX6_lost 122 = .ok (.istore 10, 2) := by decide +kernel
theorem dX6_lost_124 : decode cX6_lost 124 = .ok (.iload 10, 2) := by decide +kernel
theorem dX6_lost_126 : decode cX6_lost 126 = .ok (.aload_n 0, 1) := by decide +kernel
theorem dX6_lost_127 : decode cX6_lost 127 = .ok (.iload 9, 2) := by decide +kernel
theorem dX6_lost_129 : decode cX6_lost 129 = .ok (.invokevirtual 258, 3) := by decide +kernel
theorem dX6_lost_132 : decode cX6_lost 132 = .ok (.if_icmp .ge 76, 3) := by decide +kernel
theorem dX6_lost_135 : decode cX6_lost 135 = .ok (.aload_n 0, 1) := by decide +kernel
theorem dX6_lost_136 : decode cX6_lost 136 = .ok (.sipush 192, 3) := by decide +kernel
theorem dX6_lost_139 : decode cX6_lost 139 = .ok (.iload 9, 2) := by decide +kernel
theorem dX6_lost_141 : decode cX6_lost 141 = .ok (.iadd, 1) := by decide +kernel
theorem dX6_lost_142 : decode cX6_lost 142 = .ok (.invokevirtual 189, 3) := by decide +kernel
theorem dX6_lost_145 : decode cX6_lost 145 = .ok (.iload 10, 2) := by decide +kernel
theorem dX6_lost_147 : decode cX6_lost 147 = .ok (.iadd, 1) := by decide +kernel
theorem dX6_lost_148 : decode cX6_lost 148 = .ok (.istore 11, 2) := by decide +kernel
theorem dX6_lost_150 : decode cX6_lost 150 = .ok (.iload 6, 2) := by decide +kernel
theorem dX6_lost_152 : decode cX6_lost 152 = .ok (.ifCond .eq 35, 3) := by decide +kernel
theorem dX6_lost_155 : decode cX6_lost 155 = .ok (.iload 11, 2) := by decide +kernel
theorem dX6_lost_157 : decode cX6_lost 157 = .ok (.aload_n 0, 1) := by decide +kernel
theorem dX6_lost_158 : decode cX6_lost 158 = .ok (.iload_n 1, 1) := by decide +kernel
theorem dX6_lost_159 : decode cX6_lost 159 = .ok (.iload 5, 2) := by decide +kernel
theorem dX6_lost_161 : decode cX6_lost 161 = .ok (.invokevirtual 383, 3) := by decide +kernel
theorem dX6_lost_164 : decode cX6_lost 164 = .ok (.if_icmp .lt 38, 3) := by decide +kernel
theorem dX6_lost_167 : decode cX6_lost 167 = .ok (.iload 11, 2) := by decide +kernel
theorem dX6_lost_169 : decode cX6_lost 169 = .ok (.aload_n 0, 1) := by decide +kernel
theorem dX6_lost_170 : decode cX6_lost 170 = .ok (.iload_n 1, 1) := by decide +kernel
theorem dX6_lost_171 : decode cX6_lost 171 = .ok (.iload 5, 2) := by decide +kernel
theorem dX6_lost_173 : decode cX6_lost 173 = .ok (.invokevirtual 383, 3) := by decide +kernel
theorem dX6_lost_176 : decode cX6_lost 176 = .ok (.iconst 1, 1) := by decide +kernel
theorem dX6_lost_177 : decode cX6_lost 177 = .ok (.iload 4, 2) := by decide +kernel
theorem dX6_lost_179 : decode cX6_lost 179 = .ok (.ishl, 1) := by decide +kernel
theorem dX6_lost_180 : decode cX6_lost 180 = .ok (.iadd, 1) := by decide +kernel
theorem dX6_lost_181 : decode cX6_lost 181 = .ok (.if_icmp .lt 6, 3) := by decide +kernel
theorem dX6_lost_184 : decode cX6_lost 184 = .ok (.goto 18, 3) := by decide +kernel
theorem dX6_lost_187 : decode cX6_lost 187 = .ok (.iinc 7 1, 3) := by decide +kernel
theorem dX6_lost_190 : decode cX6_lost 190 = .ok (.iload 8, 2) := by decide +kernel
theorem dX6_lost_192 : decode cX6_lost 192 = .ok (.iconst 1, 1) := by decide +kernel
theorem dX6_lost_193 : decode cX6_lost 193 = .ok (.iload 9, 2) := by decide +kernel
theorem dX6_lost_195 : decode cX6_lost 195 = .ok (.bipush 32, 2) := by decide +kernel
theorem dX6_lost_197 : decode cX6_lost 197 = .ok (.idiv, 1) := by decide +kernel
theorem dX6_lost_198 : decode cX6_lost 198 = .ok (.ishl, 1) := by decide +kernel
theorem dX6_lost_199 : decode cX6_lost 199 = .ok (.ior, 1) := by decide +kernel
theorem dX6_lost_200 : decode cX6_lost 200 = .ok (.istore 8, 2) := by decide +kernel
theorem dX6_lost_202 : decode cX6_lost 202 = .ok (.iinc 10 1, 3) := by decide +kernel
theorem dX6_lost_205 : decode cX6_lost 205 = .ok (.goto (-81), 3) := by decide +kernel
theorem dX6_lost_208 : decode cX6_lost 208 = .ok (.iinc 9 1, 3) := by decide +kernel
theorem dX6_lost_211 : decode cX6_lost 211 = .ok (.goto (-119), 3) := by decide +kernel
theorem dX6_lost_214 : decode cX6_lost 214 = .ok (.iconst 0, 1) := by decide +kernel
theorem dX6_lost_215 : decode cX6_lost 215 = .ok (.istore 9, 2) := by decide +kernel
theorem dX6_lost_217 : decode cX6_lost 217 = .ok (.iconst 0, 1) := by decide +kernel
theorem dX6_lost_218 : decode cX6_lost 218 = .ok (.istore 10, 2) := by decide +kernel
theorem dX6_lost_220 : decode cX6_lost 220 = .ok (.iload 10, 2) := by decide +kernel
theorem dX6_lost_222 : decode cX6_lost 222 = .ok (.aload_n 0, 1) := by decide +kernel
theorem dX6_lost_223 : decode cX6_lost 223 = .ok (.getfield 106, 3) := by decide +kernel
theorem dX6_lost_226 : decode cX6_lost 226 = .ok (.if_icmp .ge 21, 3) := by decide +kernel
theorem dX6_lost_229 : decode cX6_lost 229 = .ok (.iload 9, 2) := by decide +kernel
theorem dX6_lost_231 : decode cX6_lost 231 = .ok (.iload 8, 2) := by decide +kernel
theorem dX6_lost_233 : decode cX6_lost 233 = .ok (.iload 10, 2) := by decide +kernel
theorem dX6_lost_235 : decode cX6_lost 235 = .ok (.ishr, 1) := by decide +kernel
theorem dX6_lost_236 : decode cX6_lost 236 = .ok (.iconst 1, 1) := by decide +kernel
theorem dX6_lost_237 : decode cX6_lost 237 = .ok (.iand, 1) := by decide +kernel
theorem dX6_lost_238 : decode cX6_lost 238 = .ok (.iadd, 1) := by decide +kernel
theorem dX6_lost_239 : decode cX6_lost 239 = .ok (.istore 9, 2) := by decide +kernel
theorem dX6_lost_241 : decode cX6_lost 241 = .ok (.iinc 10 1, 3) := by decide +kernel
theorem dX6_lost_244 : decode cX6_lost 244 = .ok (.goto (-24), 3) := by decide +kernel
theorem dX6_lost_247 : decode cX6_lost 247 = .ok (.iload_n 3, 1) := by decide +kernel
theorem dX6_lost_248 : decode cX6_lost 248 = .ok (.ifCond .ne 8, 3) := by decide +kernel
theorem dX6_lost_251 : decode cX6_lost 251 = .ok (.iload 7, 2) := by decide +kernel
theorem dX6_lost_253 : decode cX6_lost 253 = .ok (.goto 5, 3) := by decide +kernel
theorem dX6_lost_256 : decode cX6_lost 256 = .ok (.iload 9, 2) := by decide +kernel
theorem dX6_lost_258 : decode cX6_lost 258 = .ok (.ireturn, 1) := by decide +kernel
def Mo_lost_220 : Nat → Int32 → Int32 → Int32 → Int32 → Int32 → Sl → Option (Int32 × Sl)
  | 0, _, _, _, _, _, _ => none
  | n + 1, v3, v7, v8, v9, v10, d =>
    if (d 34 11) ≤ v10 then
      (if v3 = 0 then
        (some (v7, d))
      else
        (some (v9, d)))
    else
      (bnd (v9 + ((v8 >>> (v10 &&& 31)) &&& (1 : Int32))) fun v9_1 =>
      bnd (v10 + (1 : Int32)) fun v10_2 =>
      Mo_lost_220 n v3 v7 v8 v9_1 v10_2 d)
def Mo_lost_208 (k92 : Int32 → Int32 → Int32 → Int32 → Int32 → Int32 → Int32 → Int32 → Sl → Option (Int32 × Sl)) (v1 : Int32) (v3 : Int32) (v4 : Int32) (v5 : Int32) (v6 : Int32) (v7 : Int32) (v8 : Int32) (v9 : Int32) (d : Sl) : Option (Int32 × Sl) :=
  bnd (v9 + (1 : Int32)) fun v9_3 =>
  k92 v1 v3 v4 v5 v6 v7 v8 v9_3 d
def Mo_lost_202 (k92 : Int32 → Int32 → Int32 → Int32 → Int32 → Int32 → Int32 → Int32 → Sl → Option (Int32 × Sl)) (k124 : Int32 → Int32 → Int32 → Int32 → Int32 → Int32 → Int32 → Int32 → Int32 → Sl → Option (Int32 × Sl)) (v1 : Int32) (v3 : Int32) (v4 : Int32) (v5 : Int32) (v6 : Int32) (v7 : Int32) (v8 : Int32) (v9 : Int32) (v10 : Int32) (d : Sl) : Option (Int32 × Sl) :=
  bnd (v10 + (1 : Int32)) fun v10_4 =>
  k124 v1 v3 v4 v5 v6 v7 v8 v9 v10_4 d
def Mo_lost_187 (k92 : Int32 → Int32 → Int32 → Int32 → Int32 → Int32 → Int32 → Int32 → Sl → Option (Int32 × Sl)) (k124 : Int32 → Int32 → Int32 → Int32 → Int32 → Int32 → Int32 → Int32 → Int32 → Sl → Option (Int32 × Sl)) (v1 : Int32) (v3 : Int32) (v4 : Int32) (v5 : Int32) (v6 : Int32) (v7 : Int32) (v8 : Int32) (v9 : Int32) (v10 : Int32) (d : Sl) : Option (Int32 × Sl) :=
  bnd (v7 + (1 : Int32)) fun v7_5 =>
  if ¬ (32 : Int32) = 0 then
  bnd (v8 ||| ((1 : Int32) <<< ((v9 / (32 : Int32)) &&& 31))) fun v8_6 =>
  Mo_lost_202 k92 k124 v1 v3 v4 v5 v6 v7_5 v8_6 v9 v10 d
  else none
def Mo_lost_124 (k92 : Int32 → Int32 → Int32 → Int32 → Int32 → Int32 → Int32 → Int32 → Sl → Option (Int32 × Sl)) : Nat → Int32 → Int32 → Int32 → Int32 → Int32 → Int32 → Int32 → Int32 → Int32 → Sl → Option (Int32 × Sl)
  | 0, _, _, _, _, _, _, _, _, _, _ => none
  | n + 1, v1, v3, v4, v5, v6, v7, v8, v9, v10, d =>
    bp (Mo_pagesOf d v9) fun r7 =>
    if r7 ≤ v10 then
      (Mo_lost_208 k92 v1 v3 v4 v5 v6 v7 v8 v9 d)
    else
      (bp (Mo_of d ((192 : Int32) + v9)) fun r8 =>
      bnd (r8 + v10) fun v11_9 =>
      if v6 = 0 then
        (Mo_lost_187 k92 (Mo_lost_124 k92 n) v1 v3 v4 v5 v6 v7 v8 v9 v10 d)
      else
        (bp (Mo_frameAt d v1 v5) fun r10 =>
        if v11_9 < r10 then
          (Mo_lost_202 k92 (Mo_lost_124 k92 n) v1 v3 v4 v5 v6 v7 v8 v9 v10 d)
        else
          (bp (Mo_frameAt d v1 v5) fun r11 =>
          if v11_9 < (r11 + ((1 : Int32) <<< (v4 &&& 31))) then
            (Mo_lost_187 k92 (Mo_lost_124 k92 n) v1 v3 v4 v5 v6 v7 v8 v9 v10 d)
          else
            (Mo_lost_202 k92 (Mo_lost_124 k92 n) v1 v3 v4 v5 v6 v7 v8 v9 v10 d))))
def Mo_lost_92 : Nat → Int32 → Int32 → Int32 → Int32 → Int32 → Int32 → Int32 → Int32 → Sl → Option (Int32 × Sl)
  | 0, _, _, _, _, _, _, _, _, _ => none
  | n + 1, v1, v3, v4, v5, v6, v7, v8, v9, d =>
    if (192 : Int32) ≤ v9 then
      (bnd (0 : Int32) fun v9_12 =>
      bnd (0 : Int32) fun v10_13 =>
      Mo_lost_220 FU v3 v7 v8 v9_12 v10_13 d)
    else
      (bp (Mo_isDeed d v9) fun r14 =>
      if r14 = 0 then
        (Mo_lost_208 (Mo_lost_92 n) v1 v3 v4 v5 v6 v7 v8 v9 d)
      else
        (bp (Mo_isBelowThere d v9) fun r15 =>
        if r15 = 0 then
          (Mo_lost_208 (Mo_lost_92 n) v1 v3 v4 v5 v6 v7 v8 v9 d)
        else
          (bnd (0 : Int32) fun v10_16 =>
          Mo_lost_124 (Mo_lost_92 n) FU v1 v3 v4 v5 v6 v7 v8 v9 v10_16 d)))
def Mo_lost_81 (v1 : Int32) (v3 : Int32) (v4 : Int32) (v5 : Int32) (s0 : Int32) (d : Sl) : Option (Int32 × Sl) :=
  bnd s0 fun v6_17 =>
  bnd (0 : Int32) fun v7_18 =>
  bnd (0 : Int32) fun v8_19 =>
  bnd (0 : Int32) fun v9_20 =>
  Mo_lost_92 FU v1 v3 v4 v5 v6_17 v7_18 v8_19 v9_20 d
def Mo_lost (d : Sl) (a1 : Int32) (a2 : Int32) (a3 : Int32) : Option (Int32 × Sl) :=
  bnd (wr d 34 2 (0 : Int32)) fun d21 =>
  bp (Mo_isSpace d21 a1) fun r22 =>
  if r22 = 0 then
    (some ((-1 : Int32), d21))
  else
    (bp (Mo_isRegion d21 a2) fun r23 =>
    if r23 = 0 then
      (some ((-1 : Int32), d21))
    else
      (bp (Mo_isIn a3 (0 : Int32) (1 : Int32)) fun r24 =>
      if r24 = 0 then
        (some ((-1 : Int32), d21))
      else
        (if ¬ (4 : Int32) = 0 then
        bnd (a2 - a2 / (4 : Int32) * (4 : Int32)) fun v4_25 =>
        if ¬ (4 : Int32) = 0 then
        bnd (a2 / (4 : Int32)) fun v5_26 =>
        bd (Mo_looks d21 a1 v5_26 v4_25) fun r27 d28 =>
        if (d28 34 30) = 0 then
          (some ((-2 : Int32), d28))
        else
          (if inb (0 : Int32) 8 then
          bp (Mo_orderOf d28 (d28 47 (ix (0 : Int32)))) fun r29 =>
          if r29 ≤ v4_25 then
            (Mo_lost_81 a1 a3 v4_25 v5_26 (0 : Int32) d28)
          else
            (Mo_lost_81 a1 a3 v4_25 v5_26 (1 : Int32) d28)
          else none)
        else none
        else none)))
theorem y_X6_lost : YV yX6_lost cX6_lost 12 (some .int) 3 := ⟨q1907, q1908, q1909, q149, by decide +kernel, by decide +kernel, by decide +kernel, by decide +kernel⟩
theorem r_Mo_lost_220 {C : Cxt} {G : Geo} {M : Mem} {k : Nat} (hC : Cx C cX6_lost 12 "FrameHeirsModel" (some .int) rm_X6_lost G) (hk : LMo G k) : ∀ (n : Nat) (v3 : Int32) (v7 : Int32) (v8 : Int32) (v9 : Int32) (v10 : Int32) (d : Sl), Rz C 12 G (setS M k) (poM avI (setS M k)) 220 [(0, .inr (k, 34)), (3, .inl (.int v3)), (7, .inl (.int v7)), (8, .inl (.int v8)), (9, .inl (.int v9)), (10, .inl (.int v10))] [] d (Mo_lost_220 n v3 v7 v8 v9 v10 d) := by
  intro n
  induction n with
  | zero => intros; exact z_none
  | succ n ih =>
    intro v3 v7 v8 v9 v10 d
    rw [Mo_lost_220]
    refine z_iload (pc := 220) hC 10 5 rfl dX6_lost_220 ?_
    refine z_aload_n (pc := 222) hC 0 rfl 0 rfl dX6_lost_222 ?_
    refine zs_geti (pc := 223) hC (hk 34 rfl) f_34_11 q1281 dX6_lost_223 ?_
    refine z_icmp_ge (pc := 226) hC 247 rfl dX6_lost_226 ?_ ?_
    · refine z_iload_n (pc := 247) hC 3 rfl 1 rfl dX6_lost_247 ?_
      refine z_if_ne (pc := 248) hC 256 rfl dX6_lost_248 ?_ ?_
      · refine z_iload (pc := 256) hC 9 4 rfl dX6_lost_256 ?_
        exact z_iret (pc := 258) hC rfl dX6_lost_258
      · refine z_iload (pc := 251) hC 7 2 rfl dX6_lost_251 ?_
        refine z_goto (pc := 253) hC 258 rfl dX6_lost_253 ?_
        exact z_iret (pc := 258) hC rfl dX6_lost_258
    · refine z_iload (pc := 229) hC 9 4 rfl dX6_lost_229 ?_
      refine z_iload (pc := 231) hC 8 3 rfl dX6_lost_231 ?_
      refine z_iload (pc := 233) hC 10 5 rfl dX6_lost_233 ?_
      refine z_ishr (pc := 235) hC dX6_lost_235 ?_
      refine z_iconst (pc := 236) hC (1 : Int32) rfl dX6_lost_236 ?_
      refine z_iand (pc := 237) hC dX6_lost_237 ?_
      refine z_iadd (pc := 238) hC dX6_lost_238 ?_
      refine z_istore (pc := 239) (ls1 := fun v => [(9, .inl (.int v)), (0, .inr (k, 34)), (3, .inl (.int v3)), (7, .inl (.int v7)), (8, .inl (.int v8)), (10, .inl (.int v10))]) hC 9 (by decide) (fun v => rfl) dX6_lost_239 (fun v9_1 => ?_)
      refine z_iinc (pc := 241) (ls1 := fun v => [(10, .inl (.int v)), (9, .inl (.int v9_1)), (0, .inr (k, 34)), (3, .inl (.int v3)), (7, .inl (.int v7)), (8, .inl (.int v8))]) hC 10 5 (by decide) (1 : Int32) rfl rfl (fun v => rfl) dX6_lost_241 (fun v10_2 => ?_)
      refine z_goto (pc := 244) hC 220 rfl dX6_lost_244 ?_
      exact z_sub [2, 3, 4, 5, 1, 0] rfl (ih v3 v7 v8 v9_1 v10_2 d)
theorem r_Mo_lost_208 {C : Cxt} {G : Geo} {M : Mem} {k : Nat} (hC : Cx C cX6_lost 12 "FrameHeirsModel" (some .int) rm_X6_lost G) (hk : LMo G k) (k92 : Int32 → Int32 → Int32 → Int32 → Int32 → Int32 → Int32 → Int32 → Sl → Option (Int32 × Sl)) (h92 : ∀ (v1 : Int32) (v3 : Int32) (v4 : Int32) (v5 : Int32) (v6 : Int32) (v7 : Int32) (v8 : Int32) (v9 : Int32) (d : Sl), Rz C 12 G (setS M k) (poM avI (setS M k)) 92 [(0, .inr (k, 34)), (1, .inl (.int v1)), (3, .inl (.int v3)), (4, .inl (.int v4)), (5, .inl (.int v5)), (6, .inl (.int v6)), (7, .inl (.int v7)), (8, .inl (.int v8)), (9, .inl (.int v9))] [] d (k92 v1 v3 v4 v5 v6 v7 v8 v9 d)) (v1 : Int32) (v3 : Int32) (v4 : Int32) (v5 : Int32) (v6 : Int32) (v7 : Int32) (v8 : Int32) (v9 : Int32) (d : Sl) : Rz C 12 G (setS M k) (poM avI (setS M k)) 208 [(0, .inr (k, 34)), (1, .inl (.int v1)), (3, .inl (.int v3)), (4, .inl (.int v4)), (5, .inl (.int v5)), (6, .inl (.int v6)), (7, .inl (.int v7)), (8, .inl (.int v8)), (9, .inl (.int v9))] [] d (Mo_lost_208 k92 v1 v3 v4 v5 v6 v7 v8 v9 d) := by
  unfold Mo_lost_208
  refine z_iinc (pc := 208) (ls1 := fun v => [(9, .inl (.int v)), (0, .inr (k, 34)), (1, .inl (.int v1)), (3, .inl (.int v3)), (4, .inl (.int v4)), (5, .inl (.int v5)), (6, .inl (.int v6)), (7, .inl (.int v7)), (8, .inl (.int v8))]) hC 9 8 (by decide) (1 : Int32) rfl rfl (fun v => rfl) dX6_lost_208 (fun v9_3 => ?_)
  refine z_goto (pc := 211) hC 92 rfl dX6_lost_211 ?_
  exact z_sub [1, 2, 3, 4, 5, 6, 7, 8, 0] rfl (h92 v1 v3 v4 v5 v6 v7 v8 v9_3 d)
theorem r_Mo_lost_202 {C : Cxt} {G : Geo} {M : Mem} {k : Nat} (hC : Cx C cX6_lost 12 "FrameHeirsModel" (some .int) rm_X6_lost G) (hk : LMo G k) (k92 : Int32 → Int32 → Int32 → Int32 → Int32 → Int32 → Int32 → Int32 → Sl → Option (Int32 × Sl)) (h92 : ∀ (v1 : Int32) (v3 : Int32) (v4 : Int32) (v5 : Int32) (v6 : Int32) (v7 : Int32) (v8 : Int32) (v9 : Int32) (d : Sl), Rz C 12 G (setS M k) (poM avI (setS M k)) 92 [(0, .inr (k, 34)), (1, .inl (.int v1)), (3, .inl (.int v3)), (4, .inl (.int v4)), (5, .inl (.int v5)), (6, .inl (.int v6)), (7, .inl (.int v7)), (8, .inl (.int v8)), (9, .inl (.int v9))] [] d (k92 v1 v3 v4 v5 v6 v7 v8 v9 d)) (k124 : Int32 → Int32 → Int32 → Int32 → Int32 → Int32 → Int32 → Int32 → Int32 → Sl → Option (Int32 × Sl)) (h124 : ∀ (v1 : Int32) (v3 : Int32) (v4 : Int32) (v5 : Int32) (v6 : Int32) (v7 : Int32) (v8 : Int32) (v9 : Int32) (v10 : Int32) (d : Sl), Rz C 12 G (setS M k) (poM avI (setS M k)) 124 [(0, .inr (k, 34)), (1, .inl (.int v1)), (3, .inl (.int v3)), (4, .inl (.int v4)), (5, .inl (.int v5)), (6, .inl (.int v6)), (7, .inl (.int v7)), (8, .inl (.int v8)), (9, .inl (.int v9)), (10, .inl (.int v10))] [] d (k124 v1 v3 v4 v5 v6 v7 v8 v9 v10 d)) (v1 : Int32) (v3 : Int32) (v4 : Int32) (v5 : Int32) (v6 : Int32) (v7 : Int32) (v8 : Int32) (v9 : Int32) (v10 : Int32) (d : Sl) : Rz C 12 G (setS M k) (poM avI (setS M k)) 202 [(0, .inr (k, 34)), (1, .inl (.int v1)), (3, .inl (.int v3)), (4, .inl (.int v4)), (5, .inl (.int v5)), (6, .inl (.int v6)), (7, .inl (.int v7)), (8, .inl (.int v8)), (9, .inl (.int v9)), (10, .inl (.int v10))] [] d (Mo_lost_202 k92 k124 v1 v3 v4 v5 v6 v7 v8 v9 v10 d) := by
  unfold Mo_lost_202
  refine z_iinc (pc := 202) (ls1 := fun v => [(10, .inl (.int v)), (0, .inr (k, 34)), (1, .inl (.int v1)), (3, .inl (.int v3)), (4, .inl (.int v4)), (5, .inl (.int v5)), (6, .inl (.int v6)), (7, .inl (.int v7)), (8, .inl (.int v8)), (9, .inl (.int v9))]) hC 10 9 (by decide) (1 : Int32) rfl rfl (fun v => rfl) dX6_lost_202 (fun v10_4 => ?_)
  refine z_goto (pc := 205) hC 124 rfl dX6_lost_205 ?_
  exact z_sub [1, 2, 3, 4, 5, 6, 7, 8, 9, 0] rfl (h124 v1 v3 v4 v5 v6 v7 v8 v9 v10_4 d)
theorem r_Mo_lost_187 {C : Cxt} {G : Geo} {M : Mem} {k : Nat} (hC : Cx C cX6_lost 12 "FrameHeirsModel" (some .int) rm_X6_lost G) (hk : LMo G k) (k92 : Int32 → Int32 → Int32 → Int32 → Int32 → Int32 → Int32 → Int32 → Sl → Option (Int32 × Sl)) (h92 : ∀ (v1 : Int32) (v3 : Int32) (v4 : Int32) (v5 : Int32) (v6 : Int32) (v7 : Int32) (v8 : Int32) (v9 : Int32) (d : Sl), Rz C 12 G (setS M k) (poM avI (setS M k)) 92 [(0, .inr (k, 34)), (1, .inl (.int v1)), (3, .inl (.int v3)), (4, .inl (.int v4)), (5, .inl (.int v5)), (6, .inl (.int v6)), (7, .inl (.int v7)), (8, .inl (.int v8)), (9, .inl (.int v9))] [] d (k92 v1 v3 v4 v5 v6 v7 v8 v9 d)) (k124 : Int32 → Int32 → Int32 → Int32 → Int32 → Int32 → Int32 → Int32 → Int32 → Sl → Option (Int32 × Sl)) (h124 : ∀ (v1 : Int32) (v3 : Int32) (v4 : Int32) (v5 : Int32) (v6 : Int32) (v7 : Int32) (v8 : Int32) (v9 : Int32) (v10 : Int32) (d : Sl), Rz C 12 G (setS M k) (poM avI (setS M k)) 124 [(0, .inr (k, 34)), (1, .inl (.int v1)), (3, .inl (.int v3)), (4, .inl (.int v4)), (5, .inl (.int v5)), (6, .inl (.int v6)), (7, .inl (.int v7)), (8, .inl (.int v8)), (9, .inl (.int v9)), (10, .inl (.int v10))] [] d (k124 v1 v3 v4 v5 v6 v7 v8 v9 v10 d)) (v1 : Int32) (v3 : Int32) (v4 : Int32) (v5 : Int32) (v6 : Int32) (v7 : Int32) (v8 : Int32) (v9 : Int32) (v10 : Int32) (d : Sl) : Rz C 12 G (setS M k) (poM avI (setS M k)) 187 [(0, .inr (k, 34)), (1, .inl (.int v1)), (3, .inl (.int v3)), (4, .inl (.int v4)), (5, .inl (.int v5)), (6, .inl (.int v6)), (7, .inl (.int v7)), (8, .inl (.int v8)), (9, .inl (.int v9)), (10, .inl (.int v10))] [] d (Mo_lost_187 k92 k124 v1 v3 v4 v5 v6 v7 v8 v9 v10 d) := by
  unfold Mo_lost_187
  refine z_iinc (pc := 187) (ls1 := fun v => [(7, .inl (.int v)), (0, .inr (k, 34)), (1, .inl (.int v1)), (3, .inl (.int v3)), (4, .inl (.int v4)), (5, .inl (.int v5)), (6, .inl (.int v6)), (8, .inl (.int v8)), (9, .inl (.int v9)), (10, .inl (.int v10))]) hC 7 6 (by decide) (1 : Int32) rfl rfl (fun v => rfl) dX6_lost_187 (fun v7_5 => ?_)
  refine z_iload (pc := 190) hC 8 7 rfl dX6_lost_190 ?_
  refine z_iconst (pc := 192) hC (1 : Int32) rfl dX6_lost_192 ?_
  refine z_iload (pc := 193) hC 9 8 rfl dX6_lost_193 ?_
  refine z_bipush (pc := 195) hC (32 : Int32) rfl dX6_lost_195 ?_
  refine z_idiv (pc := 197) hC dX6_lost_197 ?_
  refine z_ishl (pc := 198) hC dX6_lost_198 ?_
  refine z_ior (pc := 199) hC dX6_lost_199 ?_
  refine z_istore (pc := 200) (ls1 := fun v => [(8, .inl (.int v)), (7, .inl (.int v7_5)), (0, .inr (k, 34)), (1, .inl (.int v1)), (3, .inl (.int v3)), (4, .inl (.int v4)), (5, .inl (.int v5)), (6, .inl (.int v6)), (9, .inl (.int v9)), (10, .inl (.int v10))]) hC 8 (by decide) (fun v => rfl) dX6_lost_200 (fun v8_6 => ?_)
  exact z_sub [2, 3, 4, 5, 6, 7, 1, 0, 8, 9] rfl (r_Mo_lost_202 hC hk k92 h92 k124 h124 v1 v3 v4 v5 v6 v7_5 v8_6 v9 v10 d)
theorem r_Mo_lost_124 {C : Cxt} {G : Geo} {M : Mem} {k : Nat} (hC : Cx C cX6_lost 12 "FrameHeirsModel" (some .int) rm_X6_lost G) (hk : LMo G k) (k92 : Int32 → Int32 → Int32 → Int32 → Int32 → Int32 → Int32 → Int32 → Sl → Option (Int32 × Sl)) (h92 : ∀ (v1 : Int32) (v3 : Int32) (v4 : Int32) (v5 : Int32) (v6 : Int32) (v7 : Int32) (v8 : Int32) (v9 : Int32) (d : Sl), Rz C 12 G (setS M k) (poM avI (setS M k)) 92 [(0, .inr (k, 34)), (1, .inl (.int v1)), (3, .inl (.int v3)), (4, .inl (.int v4)), (5, .inl (.int v5)), (6, .inl (.int v6)), (7, .inl (.int v7)), (8, .inl (.int v8)), (9, .inl (.int v9))] [] d (k92 v1 v3 v4 v5 v6 v7 v8 v9 d)) : ∀ (n : Nat) (v1 : Int32) (v3 : Int32) (v4 : Int32) (v5 : Int32) (v6 : Int32) (v7 : Int32) (v8 : Int32) (v9 : Int32) (v10 : Int32) (d : Sl), Rz C 12 G (setS M k) (poM avI (setS M k)) 124 [(0, .inr (k, 34)), (1, .inl (.int v1)), (3, .inl (.int v3)), (4, .inl (.int v4)), (5, .inl (.int v5)), (6, .inl (.int v6)), (7, .inl (.int v7)), (8, .inl (.int v8)), (9, .inl (.int v9)), (10, .inl (.int v10))] [] d (Mo_lost_124 k92 n v1 v3 v4 v5 v6 v7 v8 v9 v10 d) := by
  intro n
  induction n with
  | zero => intros; exact z_none
  | succ n ih =>
    intro v1 v3 v4 v5 v6 v7 v8 v9 v10 d
    rw [Mo_lost_124]
    refine z_iload (pc := 124) hC 10 9 rfl dX6_lost_124 ?_
    refine z_aload_n (pc := 126) hC 0 rfl 0 rfl dX6_lost_126 ?_
    refine z_iload (pc := 127) hC 9 8 rfl dX6_lost_127 ?_
    refine z_piV (pc := 129) (st := [.inl (.int v10)]) hC y_X6_pagesOf q1540 [.inl (.int v9)] rfl (hk 34 rfl) rfl rfl (c_X6_pagesOf hC.2.2.2.2.2.2.1 hk) rfl ⟨rfl, rfl, (Nat.le_of_ble_eq_true rfl), (Nat.le_of_ble_eq_true rfl)⟩ (Nat.le_of_ble_eq_true rfl) dX6_lost_129 (fun r7 => ?_)
    refine z_icmp_ge (pc := 132) hC 208 rfl dX6_lost_132 ?_ ?_
    · exact z_sub [0, 1, 2, 3, 4, 5, 6, 7, 8] rfl (r_Mo_lost_208 hC hk k92 h92 v1 v3 v4 v5 v6 v7 v8 v9 d)
    · refine z_aload_n (pc := 135) hC 0 rfl 0 rfl dX6_lost_135 ?_
      refine z_sipush (pc := 136) hC (192 : Int32) rfl dX6_lost_136 ?_
      refine z_iload (pc := 139) hC 9 8 rfl dX6_lost_139 ?_
      refine z_iadd (pc := 141) hC dX6_lost_141 ?_
      refine z_piV (pc := 142) (st := []) hC y_X6_of q1262 [.inl (.int ((192 : Int32) + v9))] rfl (hk 34 rfl) rfl rfl (c_X6_of hC.2.2.2.2.2.2.1 hk) rfl ⟨rfl, rfl, (Nat.le_of_ble_eq_true rfl), (Nat.le_of_ble_eq_true rfl)⟩ (Nat.le_of_ble_eq_true rfl) dX6_lost_142 (fun r8 => ?_)
      refine z_iload (pc := 145) hC 10 9 rfl dX6_lost_145 ?_
      refine z_iadd (pc := 147) hC dX6_lost_147 ?_
      refine z_istore (pc := 148) (ls1 := fun v => [(11, .inl (.int v)), (0, .inr (k, 34)), (1, .inl (.int v1)), (3, .inl (.int v3)), (4, .inl (.int v4)), (5, .inl (.int v5)), (6, .inl (.int v6)), (7, .inl (.int v7)), (8, .inl (.int v8)), (9, .inl (.int v9)), (10, .inl (.int v10))]) hC 11 (by decide) (fun v => rfl) dX6_lost_148 (fun v11_9 => ?_)
      refine z_iload (pc := 150) hC 6 6 rfl dX6_lost_150 ?_
      refine z_if_eq (pc := 152) hC 187 rfl dX6_lost_152 ?_ ?_
      · exact z_sub [1, 2, 3, 4, 5, 6, 7, 8, 9, 10] rfl (r_Mo_lost_187 hC hk k92 h92 _ ih v1 v3 v4 v5 v6 v7 v8 v9 v10 d)
      · refine z_iload (pc := 155) hC 11 0 rfl dX6_lost_155 ?_
        refine z_aload_n (pc := 157) hC 0 rfl 1 rfl dX6_lost_157 ?_
        refine z_iload_n (pc := 158) hC 1 rfl 2 rfl dX6_lost_158 ?_
        refine z_iload (pc := 159) hC 5 5 rfl dX6_lost_159 ?_
        refine z_piV (pc := 161) (st := [.inl (.int v11_9)]) hC y_X6_frameAt q1713 [.inl (.int v1), .inl (.int v5)] rfl (hk 34 rfl) rfl rfl (c_X6_frameAt hC.2.2.2.2.2.2.1 hk) rfl ⟨rfl, rfl, (Nat.le_of_ble_eq_true rfl), (Nat.le_of_ble_eq_true rfl)⟩ (Nat.le_of_ble_eq_true rfl) dX6_lost_161 (fun r10 => ?_)
        refine z_icmp_lt (pc := 164) hC 202 rfl dX6_lost_164 ?_ ?_
        · exact z_sub [1, 2, 3, 4, 5, 6, 7, 8, 9, 10] rfl (r_Mo_lost_202 hC hk k92 h92 _ ih v1 v3 v4 v5 v6 v7 v8 v9 v10 d)
        · refine z_iload (pc := 167) hC 11 0 rfl dX6_lost_167 ?_
          refine z_aload_n (pc := 169) hC 0 rfl 1 rfl dX6_lost_169 ?_
          refine z_iload_n (pc := 170) hC 1 rfl 2 rfl dX6_lost_170 ?_
          refine z_iload (pc := 171) hC 5 5 rfl dX6_lost_171 ?_
          refine z_piV (pc := 173) (st := [.inl (.int v11_9)]) hC y_X6_frameAt q1713 [.inl (.int v1), .inl (.int v5)] rfl (hk 34 rfl) rfl rfl (c_X6_frameAt hC.2.2.2.2.2.2.1 hk) rfl ⟨rfl, rfl, (Nat.le_of_ble_eq_true rfl), (Nat.le_of_ble_eq_true rfl)⟩ (Nat.le_of_ble_eq_true rfl) dX6_lost_173 (fun r11 => ?_)
          refine z_iconst (pc := 176) hC (1 : Int32) rfl dX6_lost_176 ?_
          refine z_iload (pc := 177) hC 4 4 rfl dX6_lost_177 ?_
          refine z_ishl (pc := 179) hC dX6_lost_179 ?_
          refine z_iadd (pc := 180) hC dX6_lost_180 ?_
          refine z_icmp_lt (pc := 181) hC 187 rfl dX6_lost_181 ?_ ?_
          · exact z_sub [1, 2, 3, 4, 5, 6, 7, 8, 9, 10] rfl (r_Mo_lost_187 hC hk k92 h92 _ ih v1 v3 v4 v5 v6 v7 v8 v9 v10 d)
          · refine z_goto (pc := 184) hC 202 rfl dX6_lost_184 ?_
            exact z_sub [1, 2, 3, 4, 5, 6, 7, 8, 9, 10] rfl (r_Mo_lost_202 hC hk k92 h92 _ ih v1 v3 v4 v5 v6 v7 v8 v9 v10 d)
theorem r_Mo_lost_92 {C : Cxt} {G : Geo} {M : Mem} {k : Nat} (hC : Cx C cX6_lost 12 "FrameHeirsModel" (some .int) rm_X6_lost G) (hk : LMo G k) : ∀ (n : Nat) (v1 : Int32) (v3 : Int32) (v4 : Int32) (v5 : Int32) (v6 : Int32) (v7 : Int32) (v8 : Int32) (v9 : Int32) (d : Sl), Rz C 12 G (setS M k) (poM avI (setS M k)) 92 [(0, .inr (k, 34)), (1, .inl (.int v1)), (3, .inl (.int v3)), (4, .inl (.int v4)), (5, .inl (.int v5)), (6, .inl (.int v6)), (7, .inl (.int v7)), (8, .inl (.int v8)), (9, .inl (.int v9))] [] d (Mo_lost_92 n v1 v3 v4 v5 v6 v7 v8 v9 d) := by
  intro n
  induction n with
  | zero => intros; exact z_none
  | succ n ih =>
    intro v1 v3 v4 v5 v6 v7 v8 v9 d
    rw [Mo_lost_92]
    refine z_iload (pc := 92) hC 9 8 rfl dX6_lost_92 ?_
    refine z_sipush (pc := 94) hC (192 : Int32) rfl dX6_lost_94 ?_
    refine z_icmp_ge (pc := 97) hC 214 rfl dX6_lost_97 ?_ ?_
    · refine z_iconst (pc := 214) hC (0 : Int32) rfl dX6_lost_214 ?_
      refine z_istore (pc := 215) (ls1 := fun v => [(9, .inl (.int v)), (0, .inr (k, 34)), (1, .inl (.int v1)), (3, .inl (.int v3)), (4, .inl (.int v4)), (5, .inl (.int v5)), (6, .inl (.int v6)), (7, .inl (.int v7)), (8, .inl (.int v8))]) hC 9 (by decide) (fun v => rfl) dX6_lost_215 (fun v9_12 => ?_)
      refine z_iconst (pc := 217) hC (0 : Int32) rfl dX6_lost_217 ?_
      refine z_istore (pc := 218) (ls1 := fun v => [(10, .inl (.int v)), (9, .inl (.int v9_12)), (0, .inr (k, 34)), (1, .inl (.int v1)), (3, .inl (.int v3)), (4, .inl (.int v4)), (5, .inl (.int v5)), (6, .inl (.int v6)), (7, .inl (.int v7)), (8, .inl (.int v8))]) hC 10 (by decide) (fun v => rfl) dX6_lost_218 (fun v10_13 => ?_)
      exact z_sub [2, 4, 8, 9, 1, 0] rfl (r_Mo_lost_220 hC hk FU v3 v7 v8 v9_12 v10_13 d)
    · refine z_aload_n (pc := 100) hC 0 rfl 0 rfl dX6_lost_100 ?_
      refine z_iload (pc := 101) hC 9 8 rfl dX6_lost_101 ?_
      refine z_piV (pc := 103) (st := []) hC y_X6_isDeed q1520 [.inl (.int v9)] rfl (hk 34 rfl) rfl rfl (c_X6_isDeed hC.2.2.2.2.2.2.1 hk) rfl ⟨rfl, rfl, (Nat.le_of_ble_eq_true rfl), (Nat.le_of_ble_eq_true rfl)⟩ (Nat.le_of_ble_eq_true rfl) dX6_lost_103 (fun r14 => ?_)
      refine z_if_eq (pc := 106) hC 208 rfl dX6_lost_106 ?_ ?_
      · exact z_sub [0, 1, 2, 3, 4, 5, 6, 7, 8] rfl (r_Mo_lost_208 hC hk _ ih v1 v3 v4 v5 v6 v7 v8 v9 d)
      · refine z_aload_n (pc := 109) hC 0 rfl 0 rfl dX6_lost_109 ?_
        refine z_iload (pc := 110) hC 9 8 rfl dX6_lost_110 ?_
        refine z_piV (pc := 112) (st := []) hC y_X6_isBelowThere q1910 [.inl (.int v9)] rfl (hk 34 rfl) rfl rfl (c_X6_isBelowThere hC.2.2.2.2.2.2.1 hk) rfl ⟨rfl, rfl, (Nat.le_of_ble_eq_true rfl), (Nat.le_of_ble_eq_true rfl)⟩ (Nat.le_of_ble_eq_true rfl) dX6_lost_112 (fun r15 => ?_)
        refine z_if_ne (pc := 115) hC 121 rfl dX6_lost_115 ?_ ?_
        · refine z_iconst (pc := 121) hC (0 : Int32) rfl dX6_lost_121 ?_
          refine z_istore (pc := 122) (ls1 := fun v => [(10, .inl (.int v)), (0, .inr (k, 34)), (1, .inl (.int v1)), (3, .inl (.int v3)), (4, .inl (.int v4)), (5, .inl (.int v5)), (6, .inl (.int v6)), (7, .inl (.int v7)), (8, .inl (.int v8)), (9, .inl (.int v9))]) hC 10 (by decide) (fun v => rfl) dX6_lost_122 (fun v10_16 => ?_)
          exact z_sub [1, 2, 3, 4, 5, 6, 7, 8, 9, 0] rfl (r_Mo_lost_124 hC hk _ ih FU v1 v3 v4 v5 v6 v7 v8 v9 v10_16 d)
        · refine z_goto (pc := 118) hC 208 rfl dX6_lost_118 ?_
          exact z_sub [0, 1, 2, 3, 4, 5, 6, 7, 8] rfl (r_Mo_lost_208 hC hk _ ih v1 v3 v4 v5 v6 v7 v8 v9 d)
theorem r_Mo_lost_81 {C : Cxt} {G : Geo} {M : Mem} {k : Nat} (hC : Cx C cX6_lost 12 "FrameHeirsModel" (some .int) rm_X6_lost G) (hk : LMo G k) (v1 : Int32) (v3 : Int32) (v4 : Int32) (v5 : Int32) (s0 : Int32) (d : Sl) : Rz C 12 G (setS M k) (poM avI (setS M k)) 81 [(0, .inr (k, 34)), (1, .inl (.int v1)), (3, .inl (.int v3)), (4, .inl (.int v4)), (5, .inl (.int v5))] [.inl (.int s0)] d (Mo_lost_81 v1 v3 v4 v5 s0 d) := by
  unfold Mo_lost_81
  refine z_istore (pc := 81) (ls1 := fun v => [(6, .inl (.int v)), (0, .inr (k, 34)), (1, .inl (.int v1)), (3, .inl (.int v3)), (4, .inl (.int v4)), (5, .inl (.int v5))]) hC 6 (by decide) (fun v => rfl) dX6_lost_81 (fun v6_17 => ?_)
  refine z_iconst (pc := 83) hC (0 : Int32) rfl dX6_lost_83 ?_
  refine z_istore (pc := 84) (ls1 := fun v => [(7, .inl (.int v)), (6, .inl (.int v6_17)), (0, .inr (k, 34)), (1, .inl (.int v1)), (3, .inl (.int v3)), (4, .inl (.int v4)), (5, .inl (.int v5))]) hC 7 (by decide) (fun v => rfl) dX6_lost_84 (fun v7_18 => ?_)
  refine z_iconst (pc := 86) hC (0 : Int32) rfl dX6_lost_86 ?_
  refine z_istore (pc := 87) (ls1 := fun v => [(8, .inl (.int v)), (7, .inl (.int v7_18)), (6, .inl (.int v6_17)), (0, .inr (k, 34)), (1, .inl (.int v1)), (3, .inl (.int v3)), (4, .inl (.int v4)), (5, .inl (.int v5))]) hC 8 (by decide) (fun v => rfl) dX6_lost_87 (fun v8_19 => ?_)
  refine z_iconst (pc := 89) hC (0 : Int32) rfl dX6_lost_89 ?_
  refine z_istore (pc := 90) (ls1 := fun v => [(9, .inl (.int v)), (8, .inl (.int v8_19)), (7, .inl (.int v7_18)), (6, .inl (.int v6_17)), (0, .inr (k, 34)), (1, .inl (.int v1)), (3, .inl (.int v3)), (4, .inl (.int v4)), (5, .inl (.int v5))]) hC 9 (by decide) (fun v => rfl) dX6_lost_90 (fun v9_20 => ?_)
  exact z_sub [4, 5, 6, 7, 8, 3, 2, 1, 0] rfl (r_Mo_lost_92 hC hk FU v1 v3 v4 v5 v6_17 v7_18 v8_19 v9_20 d)
theorem r_Mo_lost {C : Cxt} {G : Geo} {M : Mem} {k : Nat} (hC : Cx C cX6_lost 12 "FrameHeirsModel" (some .int) rm_X6_lost G) (hk : LMo G k) (d : Sl) (a1 : Int32) (a2 : Int32) (a3 : Int32) : Rz C 12 G (setS M k) (poM avI (setS M k)) 0 [(0, .inr (k, 34)), (1, .inl (.int a1)), (2, .inl (.int a2)), (3, .inl (.int a3))] [] d (Mo_lost d a1 a2 a3) := by
  unfold Mo_lost
  refine z_aload_n (pc := 0) hC 0 rfl 0 rfl dX6_lost_0 ?_
  refine z_iconst (pc := 1) hC (0 : Int32) rfl dX6_lost_1 ?_
  refine zs_puti (pc := 2) hC (hk 34 rfl) f_34_2 q1272 dX6_lost_2 (fun d21 => ?_)
  refine z_aload_n (pc := 5) hC 0 rfl 0 rfl dX6_lost_5 ?_
  refine z_iload_n (pc := 6) hC 1 rfl 1 rfl dX6_lost_6 ?_
  refine z_piV (pc := 7) (st := []) hC y_X6_isSpace q1484 [.inl (.int a1)] rfl (hk 34 rfl) rfl rfl (c_X6_isSpace hC.2.2.2.2.2.2.1 hk) rfl ⟨rfl, rfl, (Nat.le_of_ble_eq_true rfl), (Nat.le_of_ble_eq_true rfl)⟩ (Nat.le_of_ble_eq_true rfl) dX6_lost_7 (fun r22 => ?_)
  refine z_if_eq (pc := 10) hC 30 rfl dX6_lost_10 ?_ ?_
  · refine z_iconst (pc := 30) hC (-1 : Int32) rfl dX6_lost_30 ?_
    exact z_iret (pc := 31) hC rfl dX6_lost_31
  · refine z_aload_n (pc := 13) hC 0 rfl 0 rfl dX6_lost_13 ?_
    refine z_iload_n (pc := 14) hC 2 rfl 2 rfl dX6_lost_14 ?_
    refine z_piV (pc := 15) (st := []) hC y_X6_isRegion q1488 [.inl (.int a2)] rfl (hk 34 rfl) rfl rfl (c_X6_isRegion hC.2.2.2.2.2.2.1 hk) rfl ⟨rfl, rfl, (Nat.le_of_ble_eq_true rfl), (Nat.le_of_ble_eq_true rfl)⟩ (Nat.le_of_ble_eq_true rfl) dX6_lost_15 (fun r23 => ?_)
    refine z_if_eq (pc := 18) hC 30 rfl dX6_lost_18 ?_ ?_
    · refine z_iconst (pc := 30) hC (-1 : Int32) rfl dX6_lost_30 ?_
      exact z_iret (pc := 31) hC rfl dX6_lost_31
    · refine z_iload_n (pc := 21) hC 3 rfl 3 rfl dX6_lost_21 ?_
      refine z_iconst (pc := 22) hC (0 : Int32) rfl dX6_lost_22 ?_
      refine z_iconst (pc := 23) hC (1 : Int32) rfl dX6_lost_23 ?_
      refine z_piS (pc := 24) (st := []) hC y_X6_isIn q1429 [.inl (.int a3), .inl (.int (0 : Int32)), .inl (.int (1 : Int32))] rfl (c_X6_isIn hC.2.2.2.2.2.2.1) rfl ⟨rfl, rfl, (Nat.le_of_ble_eq_true rfl), (Nat.le_of_ble_eq_true rfl)⟩ (Nat.le_of_ble_eq_true rfl) dX6_lost_24 (fun r24 => ?_)
      refine z_if_ne (pc := 27) hC 32 rfl dX6_lost_27 ?_ ?_
      · refine z_iload_n (pc := 32) hC 2 rfl 2 rfl dX6_lost_32 ?_
        refine z_iconst (pc := 33) hC (4 : Int32) rfl dX6_lost_33 ?_
        refine z_irem (pc := 34) hC dX6_lost_34 ?_
        refine z_istore (pc := 35) (ls1 := fun v => [(4, .inl (.int v)), (0, .inr (k, 34)), (1, .inl (.int a1)), (2, .inl (.int a2)), (3, .inl (.int a3))]) hC 4 (by decide) (fun v => rfl) dX6_lost_35 (fun v4_25 => ?_)
        refine z_iload_n (pc := 37) hC 2 rfl 3 rfl dX6_lost_37 ?_
        refine z_iconst (pc := 38) hC (4 : Int32) rfl dX6_lost_38 ?_
        refine z_idiv (pc := 39) hC dX6_lost_39 ?_
        refine z_istore (pc := 40) (ls1 := fun v => [(5, .inl (.int v)), (4, .inl (.int v4_25)), (0, .inr (k, 34)), (1, .inl (.int a1)), (2, .inl (.int a2)), (3, .inl (.int a3))]) hC 5 (by decide) (fun v => rfl) dX6_lost_40 (fun v5_26 => ?_)
        refine z_aload_n (pc := 42) hC 0 rfl 2 rfl dX6_lost_42 ?_
        refine z_iload_n (pc := 43) hC 1 rfl 3 rfl dX6_lost_43 ?_
        refine z_iload (pc := 44) hC 5 0 rfl dX6_lost_44 ?_
        refine z_iload (pc := 46) hC 4 1 rfl dX6_lost_46 ?_
        refine z_cvV (pc := 48) (st := []) hC y_X6_looks q1508 [.inl (.int a1), .inl (.int v5_26), .inl (.int v4_25)] rfl (hk 34 rfl) rfl rfl (c_X6_looks hC.2.2.2.2.2.2.1 hk) rfl ⟨rfl, rfl, (Nat.le_of_ble_eq_true rfl), (Nat.le_of_ble_eq_true rfl)⟩ (Nat.le_of_ble_eq_true rfl) dX6_lost_48 (fun r27 d28 => ?_)
        refine z_aload_n (pc := 51) hC 0 rfl 2 rfl dX6_lost_51 ?_
        refine zs_geti (pc := 52) hC (hk 34 rfl) f_34_30 q1300 dX6_lost_52 ?_
        refine z_if_ne (pc := 55) hC 61 rfl dX6_lost_55 ?_ ?_
        · refine z_aload_n (pc := 61) hC 0 rfl 2 rfl dX6_lost_61 ?_
          refine z_aload_n (pc := 62) hC 0 rfl 2 rfl dX6_lost_62 ?_
          refine z_getc (pc := 63) hC (hk 34 rfl) f_34_29 q1299 dX6_lost_63 ?_
          refine z_iconst (pc := 66) hC (0 : Int32) rfl dX6_lost_66 ?_
          refine zs_iald (pc := 67) hC (hk 47 rfl) rfl dX6_lost_67 ?_
          refine z_piV (pc := 68) (st := []) hC y_X6_orderOf q1516 [.inl (.int (d28 47 (ix (0 : Int32))))] rfl (hk 34 rfl) rfl rfl (c_X6_orderOf hC.2.2.2.2.2.2.1 hk) rfl ⟨rfl, rfl, (Nat.le_of_ble_eq_true rfl), (Nat.le_of_ble_eq_true rfl)⟩ (Nat.le_of_ble_eq_true rfl) dX6_lost_68 (fun r29 => ?_)
          refine z_iload (pc := 71) hC 4 1 rfl dX6_lost_71 ?_
          refine z_icmp_le (pc := 73) hC 80 rfl dX6_lost_73 ?_ ?_
          · refine z_iconst (pc := 80) hC (0 : Int32) rfl dX6_lost_80 ?_
            exact z_sub [2, 3, 5, 1, 0] rfl (r_Mo_lost_81 hC hk a1 a3 v4_25 v5_26 (0 : Int32) d28)
          · refine z_iconst (pc := 76) hC (1 : Int32) rfl dX6_lost_76 ?_
            refine z_goto (pc := 77) hC 81 rfl dX6_lost_77 ?_
            exact z_sub [2, 3, 5, 1, 0] rfl (r_Mo_lost_81 hC hk a1 a3 v4_25 v5_26 (1 : Int32) d28)
        · refine z_bipush (pc := 58) hC (-2 : Int32) rfl dX6_lost_58 ?_
          exact z_iret (pc := 60) hC rfl dX6_lost_60
      · refine z_iconst (pc := 30) hC (-1 : Int32) rfl dX6_lost_30 ?_
        exact z_iret (pc := 31) hC rfl dX6_lost_31
theorem c_X6_lost {G : Geo} {M : Mem} {k : Nat} (hG : GOk G) (hk : LMo G k) {d : Sl} {a1 : Int32} {a2 : Int32} {a3 : Int32} (l : Launch) (r : Int32) (d1 : Sl) (h : Mo_lost d a1 a2 a3 = some (r, d1)) : Mt l yX6_lost cX6_lost 12 (some .int) rm_X6_lost G [.inr (k, 34), .inl (.int a1), .inl (.int a2), .inl (.int a3)] ((setS M k) d) (avI r) ((setS M k) d1) :=
  mt_of (mem := (setS M k)) (po := poM avI (setS M k)) (x0 := d) (t := (r, d1)) rfl hG [.inr (k, 34), .inl (.int a1), .inl (.int a2), .inl (.int a3)] (Nat.le_of_ble_eq_true rfl) rfl (fun C hC => r_Mo_lost hC hk d a1 a2 a3) h
-- FrameHeirsModel.steps(II)I
abbrev rm_X6_steps : Room := { frames := 7, cells := 0, slots := 0, locals := 181 }
theorem dX6_steps_0 : decode cX6_steps 0 = .ok (.aload_n 0, 1) := by decide +kernel
theorem dX6_steps_1 : decode cX6_steps 1 = .ok (.iconst 0, 1) := by decide +kernel
theorem dX6_steps_2 : decode cX6_steps 2 = .ok (.putfield 61, 3) := by decide +kernel
theorem dX6_steps_5 : decode cX6_steps 5 = .ok (.aload_n 0, 1) := by decide +kernel
theorem dX6_steps_6 : decode cX6_steps 6 = .ok (.iload_n 1, 1) := by decide +kernel
theorem dX6_steps_7 : decode cX6_steps 7 = .ok (.invokevirtual 264, 3) := by decide +kernel
theorem dX6_steps_10 : decode cX6_steps 10 = .ok (.ifCond .eq 11, 3) := by decide +kernel
theorem dX6_steps_13 : decode cX6_steps 13 = .ok (.aload_n 0, 1) := by decide +kernel
theorem dX6_steps_14 : decode cX6_steps 14 = .ok (.iload_n 2, 1) := by decide +kernel
theorem dX6_steps_15 : decode cX6_steps 15 = .ok (.invokevirtual 267, 3) := by decide +kernel
theorem dX6_steps_18 : decode cX6_steps 18 = .ok (.ifCond .ne 5, 3) := by decide +kernel
theorem dX6_steps_21 : decode cX6_steps 21 = .ok (.iconst (-1), 1) := by decide +kernel
theorem dX6_steps_22 : decode cX6_steps 22 = .ok (.ireturn, 1) := by decide +kernel
theorem dX6_steps_23 : decode cX6_steps 23 = .ok (.aload_n 0, 1) := by decide +kernel
theorem dX6_steps_24 : decode cX6_steps 24 = .ok (.invokevirtual 463, 3) := by decide +kernel
theorem dX6_steps_27 : decode cX6_steps 27 = .ok (.aload_n 0, 1) := by decide +kernel
theorem dX6_steps_28 : decode cX6_steps 28 = .ok (.iload_n 1, 1) := by decide +kernel
theorem dX6_steps_29 : decode cX6_steps 29 = .ok (.iload_n 2, 1) := by decide +kernel
theorem dX6_steps_30 : decode cX6_steps 30 = .ok (.bipush 7, 2) := by decide +kernel
theorem dX6_steps_32 : decode cX6_steps 32 = .ok (.iconst 0, 1) := by decide +kernel
theorem dX6_steps_33 : decode cX6_steps 33 = .ok (.invokevirtual 319, 3) := by decide +kernel
theorem dX6_steps_36 : decode cX6_steps 36 = .ok (.istore_n 3, 1) := by decide +kernel
theorem dX6_steps_37 : decode cX6_steps 37 = .ok (.aload_n 0, 1) := by decide +kernel
theorem dX6_steps_38 : decode cX6_steps 38 = .ok (.iconst 0, 1) := by decide +kernel
theorem dX6_steps_39 : decode cX6_steps 39 = .ok (.putfield 116, 3) := by decide +kernel
theorem dX6_steps_42 : decode cX6_steps 42 = .ok (.iload_n 3, 1) := by decide +kernel
theorem dX6_steps_43 : decode cX6_steps 43 = .ok (.ireturn, 1) := by decide +kernel
def Mo_steps (d : Sl) (a1 : Int32) (a2 : Int32) : Option (Int32 × Sl) :=
  bnd (wr d 34 2 (0 : Int32)) fun d1 =>
  bp (Mo_isSpace d1 a1) fun r2 =>
  if r2 = 0 then
    (some ((-1 : Int32), d1))
  else
    (bp (Mo_isRegion d1 a2) fun r3 =>
    if r3 = 0 then
      (some ((-1 : Int32), d1))
    else
      (bd (Mo_asNow d1) fun r4 d5 =>
      bd (Mo_flushed d5 a1 a2 (7 : Int32) (0 : Int32)) fun r6 d7 =>
      bnd r6 fun v3_8 =>
      bnd (wr d7 34 25 (0 : Int32)) fun d9 =>
      some (v3_8, d9)))
theorem y_X6_steps : YV yX6_steps cX6_steps 4 (some .int) 2 := ⟨q1915, q1916, q1917, q149, by decide +kernel, by decide +kernel, by decide +kernel, by decide +kernel⟩
theorem r_Mo_steps {C : Cxt} {G : Geo} {M : Mem} {k : Nat} (hC : Cx C cX6_steps 4 "FrameHeirsModel" (some .int) rm_X6_steps G) (hk : LMo G k) (d : Sl) (a1 : Int32) (a2 : Int32) : Rz C 4 G (setS M k) (poM avI (setS M k)) 0 [(0, .inr (k, 34)), (1, .inl (.int a1)), (2, .inl (.int a2))] [] d (Mo_steps d a1 a2) := by
  unfold Mo_steps
  refine z_aload_n (pc := 0) hC 0 rfl 0 rfl dX6_steps_0 ?_
  refine z_iconst (pc := 1) hC (0 : Int32) rfl dX6_steps_1 ?_
  refine zs_puti (pc := 2) hC (hk 34 rfl) f_34_2 q1272 dX6_steps_2 (fun d1 => ?_)
  refine z_aload_n (pc := 5) hC 0 rfl 0 rfl dX6_steps_5 ?_
  refine z_iload_n (pc := 6) hC 1 rfl 1 rfl dX6_steps_6 ?_
  refine z_piV (pc := 7) (st := []) hC y_X6_isSpace q1484 [.inl (.int a1)] rfl (hk 34 rfl) rfl rfl (c_X6_isSpace hC.2.2.2.2.2.2.1 hk) rfl ⟨rfl, rfl, (Nat.le_of_ble_eq_true rfl), (Nat.le_of_ble_eq_true rfl)⟩ (Nat.le_of_ble_eq_true rfl) dX6_steps_7 (fun r2 => ?_)
  refine z_if_eq (pc := 10) hC 21 rfl dX6_steps_10 ?_ ?_
  · refine z_iconst (pc := 21) hC (-1 : Int32) rfl dX6_steps_21 ?_
    exact z_iret (pc := 22) hC rfl dX6_steps_22
  · refine z_aload_n (pc := 13) hC 0 rfl 0 rfl dX6_steps_13 ?_
    refine z_iload_n (pc := 14) hC 2 rfl 2 rfl dX6_steps_14 ?_
    refine z_piV (pc := 15) (st := []) hC y_X6_isRegion q1488 [.inl (.int a2)] rfl (hk 34 rfl) rfl rfl (c_X6_isRegion hC.2.2.2.2.2.2.1 hk) rfl ⟨rfl, rfl, (Nat.le_of_ble_eq_true rfl), (Nat.le_of_ble_eq_true rfl)⟩ (Nat.le_of_ble_eq_true rfl) dX6_steps_15 (fun r3 => ?_)
    refine z_if_ne (pc := 18) hC 23 rfl dX6_steps_18 ?_ ?_
    · refine z_aload_n (pc := 23) hC 0 rfl 0 rfl dX6_steps_23 ?_
      refine z_cvV (pc := 24) (st := []) hC y_X6_asNow q1890 [] rfl (hk 34 rfl) rfl rfl (c_X6_asNow hC.2.2.2.2.2.2.1 hk) rfl ⟨rfl, rfl, (Nat.le_of_ble_eq_true rfl), (Nat.le_of_ble_eq_true rfl)⟩ (Nat.le_of_ble_eq_true rfl) dX6_steps_24 (fun r4 d5 => ?_)
      refine z_aload_n (pc := 27) hC 0 rfl 0 rfl dX6_steps_27 ?_
      refine z_iload_n (pc := 28) hC 1 rfl 1 rfl dX6_steps_28 ?_
      refine z_iload_n (pc := 29) hC 2 rfl 2 rfl dX6_steps_29 ?_
      refine z_bipush (pc := 30) hC (7 : Int32) rfl dX6_steps_30 ?_
      refine z_iconst (pc := 32) hC (0 : Int32) rfl dX6_steps_32 ?_
      refine z_ciV (pc := 33) (st := []) hC y_X6_flushed q1608 [.inl (.int a1), .inl (.int a2), .inl (.int (7 : Int32)), .inl (.int (0 : Int32))] rfl (hk 34 rfl) rfl rfl (c_X6_flushed hC.2.2.2.2.2.2.1 hk) rfl ⟨rfl, rfl, (Nat.le_of_ble_eq_true rfl), (Nat.le_of_ble_eq_true rfl)⟩ (Nat.le_of_ble_eq_true rfl) dX6_steps_33 (fun r6 d7 => ?_)
      refine z_istore_n (pc := 36) (ls1 := fun v => [(3, .inl (.int v)), (0, .inr (k, 34)), (1, .inl (.int a1)), (2, .inl (.int a2))]) hC 3 rfl (by decide) (fun v => rfl) dX6_steps_36 (fun v3_8 => ?_)
      refine z_aload_n (pc := 37) hC 0 rfl 1 rfl dX6_steps_37 ?_
      refine z_iconst (pc := 38) hC (0 : Int32) rfl dX6_steps_38 ?_
      refine zs_puti (pc := 39) hC (hk 34 rfl) f_34_25 q1295 dX6_steps_39 (fun d9 => ?_)
      refine z_iload_n (pc := 42) hC 3 rfl 0 rfl dX6_steps_42 ?_
      exact z_iret (pc := 43) hC rfl dX6_steps_43
    · refine z_iconst (pc := 21) hC (-1 : Int32) rfl dX6_steps_21 ?_
      exact z_iret (pc := 22) hC rfl dX6_steps_22
theorem c_X6_steps {G : Geo} {M : Mem} {k : Nat} (hG : GOk G) (hk : LMo G k) {d : Sl} {a1 : Int32} {a2 : Int32} (l : Launch) (r : Int32) (d1 : Sl) (h : Mo_steps d a1 a2 = some (r, d1)) : Mt l yX6_steps cX6_steps 4 (some .int) rm_X6_steps G [.inr (k, 34), .inl (.int a1), .inl (.int a2)] ((setS M k) d) (avI r) ((setS M k) d1) :=
  mt_of (mem := (setS M k)) (po := poM avI (setS M k)) (x0 := d) (t := (r, d1)) rfl hG [.inr (k, 34), .inl (.int a1), .inl (.int a2)] (Nat.le_of_ble_eq_true rfl) rfl (fun C hC => r_Mo_steps hC hk d a1 a2) h
-- FrameHeirsModel.tried(I)I
abbrev rm_X6_tried : Room := { frames := 8, cells := 0, slots := 0, locals := 201 }
theorem dX6_tried_0 : decode cX6_tried 0 = .ok (.aload_n 0, 1) := by decide +kernel
theorem dX6_tried_1 : decode cX6_tried 1 = .ok (.iconst 0, 1) := by decide +kernel
theorem dX6_tried_2 : decode cX6_tried 2 = .ok (.putfield 61, 3) := by decide +kernel
theorem dX6_tried_5 : decode cX6_tried 5 = .ok (.iload_n 1, 1) := by decide +kernel
theorem dX6_tried_6 : decode cX6_tried 6 = .ok (.iconst 0, 1) := by decide +kernel
theorem dX6_tried_7 : decode cX6_tried 7 = .ok (.iconst 4, 1) := by decide +kernel
theorem dX6_tried_8 : decode cX6_tried 8 = .ok (.invokestatic 137, 3) := by decide +kernel
theorem dX6_tried_11 : decode cX6_tried 11 = .ok (.ifCond .ne 5, 3) := by decide +kernel
theorem dX6_tried_14 : decode cX6_tried 14 = .ok (.iconst (-1), 1) := by decide +kernel
theorem dX6_tried_15 : decode cX6_tried 15 = .ok (.ireturn, 1) := by decide +kernel
theorem dX6_tried_16 : decode cX6_tried 16 = .ok (.aload_n 0, 1) := by decide +kernel
theorem dX6_tried_17 : decode cX6_tried 17 = .ok (.invokevirtual 463, 3) := by decide +kernel
theorem dX6_tried_20 : decode cX6_tried 20 = .ok (.aload_n 0, 1) := by decide +kernel
theorem dX6_tried_21 : decode cX6_tried 21 = .ok (.sipush 2200, 3) := by decide +kernel
theorem dX6_tried_24 : decode cX6_tried 24 = .ok (.invokevirtual 189, 3) := by decide +kernel
theorem dX6_tried_27 : decode cX6_tried 27 = .ok (.istore_n 2, 1) := by decide +kernel
theorem dX6_tried_28 : decode cX6_tried 28 = .ok (.aload_n 0, 1) := by decide +kernel
theorem dX6_tried_29 : decode cX6_tried 29 = .ok (.invokevirtual 312, 3) := by decide +kernel
theorem dX6_tried_32 : decode cX6_tried 32 = .ok (.istore_n 3, 1) := by decide +kernel
theorem dX6_tried_33 : decode cX6_tried 33 = .ok (.iload_n 1, 1) := by decide +kernel
theorem dX6_tried_34 : decode cX6_tried 34 = .ok (.iconst 2, 1) := by decide +kernel
theorem dX6_tried_35 : decode cX6_tried 35 = .ok (.if_icmp .ge 8, 3) := by decide +kernel
theorem dX6_tried_38 : decode cX6_tried 38 = .ok (.aload_n 0, 1) := by decide +kernel
theorem dX6_tried_39 : decode cX6_tried 39 = .ok (.invokevirtual 414, 3) := by decide +kernel
theorem dX6_tried_42 : decode cX6_tried 42 = .ok (.pop, 1) := by decide +kernel
theorem dX6_tried_43 : decode cX6_tried 43 = .ok (.iload_n 1, 1) := by decide +kernel
theorem dX6_tried_44 : decode cX6_tried 44 = .ok (.iconst 3, 1) := by decide +kernel
theorem dX6_tried_45 : decode cX6_tried 45 = .ok (.if_icmp .ne 9, 3) := by decide +kernel
theorem dX6_tried_48 : decode cX6_tried 48 = .ok (.aload_n 0, 1) := by decide +kernel
theorem dX6_tried_49 : decode cX6_tried 49 = .ok (.iload_n 3, 1) := by decide +kernel
theorem dX6_tried_50 : decode cX6_tried 50 = .ok (.invokevirtual 332, 3) := by decide +kernel
theorem dX6_tried_53 : decode cX6_tried 53 = .ok (.pop, 1) := by decide +kernel
theorem dX6_tried_54 : decode cX6_tried 54 = .ok (.iconst 0, 1) := by decide +kernel
theorem dX6_tried_55 : decode cX6_tried 55 = .ok (.istore 4, 2) := by decide +kernel
theorem dX6_tried_57 : decode cX6_tried 57 = .ok (.iload 4, 2) := by decide +kernel
theorem dX6_tried_59 : decode cX6_tried 59 = .ok (.aload_n 0, 1) := by decide +kernel
theorem dX6_tried_60 : decode cX6_tried 60 = .ok (.getfield 106, 3) := by decide +kernel
theorem dX6_tried_63 : decode cX6_tried 63 = .ok (.if_icmp .ge 21, 3) := by decide +kernel
theorem dX6_tried_66 : decode cX6_tried 66 = .ok (.iload_n 1, 1) := by decide +kernel
theorem dX6_tried_67 : decode cX6_tried 67 = .ok (.iconst 4, 1) := by decide +kernel
theorem dX6_tried_68 : decode cX6_tried 68 = .ok (.if_icmp .ne 16, 3) := by decide +kernel
theorem dX6_tried_71 : decode cX6_tried 71 = .ok (.aload_n 0, 1) := by decide +kernel
theorem dX6_tried_72 : decode cX6_tried 72 = .ok (.iload 4, 2) := by decide +kernel
theorem dX6_tried_74 : decode cX6_tried 74 = .ok (.invokevirtual 430, 3) := by decide +kernel
theorem dX6_tried_77 : decode cX6_tried 77 = .ok (.pop, 1) := by decide +kernel
theorem dX6_tried_78 : decode cX6_tried 78 = .ok (.iinc 4 1, 3) := by decide +kernel
theorem dX6_tried_81 : decode cX6_tried 81 = .ok (.goto (-24), 3) := by decide +kernel
theorem dX6_tried_84 : decode cX6_tried 84 = .ok (.iload_n 1, 1) := by decide +kernel
theorem dX6_tried_85 : decode cX6_tried 85 = .ok (.iconst 1, 1) := by decide +kernel
theorem dX6_tried_86 : decode cX6_tried 86 = .ok (.if_icmp .ne 15, 3) := by decide +kernel
theorem dX6_tried_89 : decode cX6_tried 89 = .ok (.aload_n 0, 1) := by decide +kernel
theorem dX6_tried_90 : decode cX6_tried 90 = .ok (.sipush 2200, 3) := by decide +kernel
theorem dX6_tried_93 : decode cX6_tried 93 = .ok (.invokevirtual 189, 3) := by decide +kernel
theorem dX6_tried_96 : decode cX6_tried 96 = .ok (.iload_n 2, 1) := by decide +kernel
theorem dX6_tried_97 : decode cX6_tried 97 = .ok (.isub, 1) := by decide +kernel
theorem dX6_tried_98 : decode cX6_tried 98 = .ok (.goto 28, 3) := by decide +kernel
theorem dX6_tried_101 : decode cX6_tried 101 = .ok (.iload_n 1, 1) := by decide +kernel
theorem dX6_tried_102 : decode cX6_tried 102 = .ok (.iconst 2, 1) := by decide +kernel
theorem dX6_tried_103 : decode cX6_tried 103 = .ok (.if_icmp .ne 7, 3) := by decide +kernel
theorem dX6_tried_106 : decode cX6_tried 106 = .ok (.iload_n 3, 1) := by decide +kernel
theorem dX6_tried_107 : decode cX6_tried 107 = .ok (.goto 19, 3) := by decide +kernel
theorem dX6_tried_110 : decode cX6_tried 110 = .ok (.iload_n 1, 1) := by decide +kernel
theorem dX6_tried_111 : decode cX6_tried 111 = .ok (.iconst 4, 1) := by decide +kernel
theorem dX6_tried_112 : decode cX6_tried 112 = .ok (.if_icmp .ne 10, 3) := by decide +kernel
theorem dX6_tried_115 : decode cX6_tried 115 = .ok (.aload_n 0, 1) := by decide +kernel
theorem dX6_tried_116 : decode cX6_tried 116 = .ok (.invokevirtual 373, 3) := by decide +kernel
theorem dX6_tried_119 : decode cX6_tried 119 = .ok (.goto 7, 3) := by decide +kernel
theorem dX6_tried_122 : decode cX6_tried 122 = .ok (.aload_n 0, 1) := by decide +kernel
theorem dX6_tried_123 : decode cX6_tried 123 = .ok (.invokevirtual 469, 3) := by decide +kernel
theorem dX6_tried_126 : decode cX6_tried 126 = .ok (.istore 4, 2) := by decide +kernel
theorem dX6_tried_128 : decode cX6_tried 128 = .ok (.aload_n 0, 1) := by decide +kernel
theorem dX6_tried_129 : decode cX6_tried 129 = .ok (.iconst 0, 1) := by decide +kernel
theorem dX6_tried_130 : decode cX6_tried 130 = .ok (.putfield 116, 3) := by decide +kernel
theorem dX6_tried_133 : decode cX6_tried 133 = .ok (.iload 4, 2) := by decide +kernel
theorem dX6_tried_135 : decode cX6_tried 135 = .ok (.ireturn, 1) := by decide +kernel
def Mo_tried_126 (s0 : Int32) (d : Sl) : Option (Int32 × Sl) :=
  bnd s0 fun v4_1 =>
  bnd (wr d 34 25 (0 : Int32)) fun d2 =>
  some (v4_1, d2)
def Mo_tried_84 (v1 : Int32) (v2 : Int32) (v3 : Int32) (d : Sl) : Option (Int32 × Sl) :=
  if v1 = (1 : Int32) then
    (bp (Mo_of d (2200 : Int32)) fun r5 =>
    Mo_tried_126 (r5 - v2) d)
  else
    (if v1 = (2 : Int32) then
      (Mo_tried_126 v3 d)
    else
      (if v1 = (4 : Int32) then
        (bp (Mo_deedsMany d) fun r4 =>
        Mo_tried_126 r4 d)
      else
        (bp (Mo_pagesAll d) fun r3 =>
        Mo_tried_126 r3 d)))
def Mo_tried_57 : Nat → Int32 → Int32 → Int32 → Int32 → Sl → Option (Int32 × Sl)
  | 0, _, _, _, _, _ => none
  | n + 1, v1, v2, v3, v4, d =>
    if (d 34 11) ≤ v4 then
      (Mo_tried_84 v1 v2 v3 d)
    else
      (if v1 = (4 : Int32) then
        (bd (Mo_tidies d v4) fun r6 d7 =>
        bnd (v4 + (1 : Int32)) fun v4_8 =>
        Mo_tried_57 n v1 v2 v3 v4_8 d7)
      else
        (Mo_tried_84 v1 v2 v3 d))
def Mo_tried_54 (v1 : Int32) (v2 : Int32) (v3 : Int32) (d : Sl) : Option (Int32 × Sl) :=
  bnd (0 : Int32) fun v4_9 =>
  Mo_tried_57 FU v1 v2 v3 v4_9 d
def Mo_tried_43 (v1 : Int32) (v2 : Int32) (v3 : Int32) (d : Sl) : Option (Int32 × Sl) :=
  if v1 = (3 : Int32) then
    (bd (Mo_worked d v3) fun r10 d11 =>
    Mo_tried_54 v1 v2 v3 d11)
  else
    (Mo_tried_54 v1 v2 v3 d)
def Mo_tried (d : Sl) (a1 : Int32) : Option (Int32 × Sl) :=
  bnd (wr d 34 2 (0 : Int32)) fun d12 =>
  bp (Mo_isIn a1 (0 : Int32) (4 : Int32)) fun r13 =>
  if r13 = 0 then
    (some ((-1 : Int32), d12))
  else
    (bd (Mo_asNow d12) fun r14 d15 =>
    bp (Mo_of d15 (2200 : Int32)) fun r16 =>
    bnd r16 fun v2_17 =>
    bp (Mo_pendingMany d15) fun r18 =>
    bnd r18 fun v3_19 =>
    if (2 : Int32) ≤ a1 then
      (Mo_tried_43 a1 v2_17 v3_19 d15)
    else
      (bd (Mo_settles d15) fun r20 d21 =>
      Mo_tried_43 a1 v2_17 v3_19 d21))
theorem y_X6_tried : YV yX6_tried cX6_tried 5 (some .int) 1 := ⟨q1919, q1920, q1921, q149, by decide +kernel, by decide +kernel, by decide +kernel, by decide +kernel⟩
theorem r_Mo_tried_126 {C : Cxt} {G : Geo} {M : Mem} {k : Nat} (hC : Cx C cX6_tried 5 "FrameHeirsModel" (some .int) rm_X6_tried G) (hk : LMo G k) (s0 : Int32) (d : Sl) : Rz C 5 G (setS M k) (poM avI (setS M k)) 126 [(0, .inr (k, 34))] [.inl (.int s0)] d (Mo_tried_126 s0 d) := by
  unfold Mo_tried_126
  refine z_istore (pc := 126) (ls1 := fun v => [(4, .inl (.int v)), (0, .inr (k, 34))]) hC 4 (by decide) (fun v => rfl) dX6_tried_126 (fun v4_1 => ?_)
  refine z_aload_n (pc := 128) hC 0 rfl 1 rfl dX6_tried_128 ?_
  refine z_iconst (pc := 129) hC (0 : Int32) rfl dX6_tried_129 ?_
  refine zs_puti (pc := 130) hC (hk 34 rfl) f_34_25 q1295 dX6_tried_130 (fun d2 => ?_)
  refine z_iload (pc := 133) hC 4 0 rfl dX6_tried_133 ?_
  exact z_iret (pc := 135) hC rfl dX6_tried_135
theorem r_Mo_tried_84 {C : Cxt} {G : Geo} {M : Mem} {k : Nat} (hC : Cx C cX6_tried 5 "FrameHeirsModel" (some .int) rm_X6_tried G) (hk : LMo G k) (v1 : Int32) (v2 : Int32) (v3 : Int32) (d : Sl) : Rz C 5 G (setS M k) (poM avI (setS M k)) 84 [(0, .inr (k, 34)), (1, .inl (.int v1)), (2, .inl (.int v2)), (3, .inl (.int v3))] [] d (Mo_tried_84 v1 v2 v3 d) := by
  unfold Mo_tried_84
  refine z_iload_n (pc := 84) hC 1 rfl 1 rfl dX6_tried_84 ?_
  refine z_iconst (pc := 85) hC (1 : Int32) rfl dX6_tried_85 ?_
  refine z_icmp_ne (pc := 86) hC 101 rfl dX6_tried_86 ?_ ?_
  · refine z_iload_n (pc := 101) hC 1 rfl 1 rfl dX6_tried_101 ?_
    refine z_iconst (pc := 102) hC (2 : Int32) rfl dX6_tried_102 ?_
    refine z_icmp_ne (pc := 103) hC 110 rfl dX6_tried_103 ?_ ?_
    · refine z_iload_n (pc := 110) hC 1 rfl 1 rfl dX6_tried_110 ?_
      refine z_iconst (pc := 111) hC (4 : Int32) rfl dX6_tried_111 ?_
      refine z_icmp_ne (pc := 112) hC 122 rfl dX6_tried_112 ?_ ?_
      · refine z_aload_n (pc := 122) hC 0 rfl 0 rfl dX6_tried_122 ?_
        refine z_piV (pc := 123) (st := []) hC y_X6_pagesAll q1922 [] rfl (hk 34 rfl) rfl rfl (c_X6_pagesAll hC.2.2.2.2.2.2.1 hk) rfl ⟨rfl, rfl, (Nat.le_of_ble_eq_true rfl), (Nat.le_of_ble_eq_true rfl)⟩ (Nat.le_of_ble_eq_true rfl) dX6_tried_123 (fun r3 => ?_)
        exact z_sub [0] rfl (r_Mo_tried_126 hC hk r3 d)
      · refine z_aload_n (pc := 115) hC 0 rfl 0 rfl dX6_tried_115 ?_
        refine z_piV (pc := 116) (st := []) hC y_X6_deedsMany q1685 [] rfl (hk 34 rfl) rfl rfl (c_X6_deedsMany hC.2.2.2.2.2.2.1 hk) rfl ⟨rfl, rfl, (Nat.le_of_ble_eq_true rfl), (Nat.le_of_ble_eq_true rfl)⟩ (Nat.le_of_ble_eq_true rfl) dX6_tried_116 (fun r4 => ?_)
        refine z_goto (pc := 119) hC 126 rfl dX6_tried_119 ?_
        exact z_sub [0] rfl (r_Mo_tried_126 hC hk r4 d)
    · refine z_iload_n (pc := 106) hC 3 rfl 3 rfl dX6_tried_106 ?_
      refine z_goto (pc := 107) hC 126 rfl dX6_tried_107 ?_
      exact z_sub [0] rfl (r_Mo_tried_126 hC hk v3 d)
  · refine z_aload_n (pc := 89) hC 0 rfl 0 rfl dX6_tried_89 ?_
    refine z_sipush (pc := 90) hC (2200 : Int32) rfl dX6_tried_90 ?_
    refine z_piV (pc := 93) (st := []) hC y_X6_of q1262 [.inl (.int (2200 : Int32))] rfl (hk 34 rfl) rfl rfl (c_X6_of hC.2.2.2.2.2.2.1 hk) rfl ⟨rfl, rfl, (Nat.le_of_ble_eq_true rfl), (Nat.le_of_ble_eq_true rfl)⟩ (Nat.le_of_ble_eq_true rfl) dX6_tried_93 (fun r5 => ?_)
    refine z_iload_n (pc := 96) hC 2 rfl 2 rfl dX6_tried_96 ?_
    refine z_isub (pc := 97) hC dX6_tried_97 ?_
    refine z_goto (pc := 98) hC 126 rfl dX6_tried_98 ?_
    exact z_sub [0] rfl (r_Mo_tried_126 hC hk (r5 - v2) d)
theorem r_Mo_tried_57 {C : Cxt} {G : Geo} {M : Mem} {k : Nat} (hC : Cx C cX6_tried 5 "FrameHeirsModel" (some .int) rm_X6_tried G) (hk : LMo G k) : ∀ (n : Nat) (v1 : Int32) (v2 : Int32) (v3 : Int32) (v4 : Int32) (d : Sl), Rz C 5 G (setS M k) (poM avI (setS M k)) 57 [(0, .inr (k, 34)), (1, .inl (.int v1)), (2, .inl (.int v2)), (3, .inl (.int v3)), (4, .inl (.int v4))] [] d (Mo_tried_57 n v1 v2 v3 v4 d) := by
  intro n
  induction n with
  | zero => intros; exact z_none
  | succ n ih =>
    intro v1 v2 v3 v4 d
    rw [Mo_tried_57]
    refine z_iload (pc := 57) hC 4 4 rfl dX6_tried_57 ?_
    refine z_aload_n (pc := 59) hC 0 rfl 0 rfl dX6_tried_59 ?_
    refine zs_geti (pc := 60) hC (hk 34 rfl) f_34_11 q1281 dX6_tried_60 ?_
    refine z_icmp_ge (pc := 63) hC 84 rfl dX6_tried_63 ?_ ?_
    · exact z_sub [0, 1, 2, 3] rfl (r_Mo_tried_84 hC hk v1 v2 v3 d)
    · refine z_iload_n (pc := 66) hC 1 rfl 1 rfl dX6_tried_66 ?_
      refine z_iconst (pc := 67) hC (4 : Int32) rfl dX6_tried_67 ?_
      refine z_icmp_ne (pc := 68) hC 84 rfl dX6_tried_68 ?_ ?_
      · exact z_sub [0, 1, 2, 3] rfl (r_Mo_tried_84 hC hk v1 v2 v3 d)
      · refine z_aload_n (pc := 71) hC 0 rfl 0 rfl dX6_tried_71 ?_
        refine z_iload (pc := 72) hC 4 4 rfl dX6_tried_72 ?_
        refine z_ciV (pc := 74) (st := []) hC y_X6_tidies q1761 [.inl (.int v4)] rfl (hk 34 rfl) rfl rfl (c_X6_tidies hC.2.2.2.2.2.2.1 hk) rfl ⟨rfl, rfl, (Nat.le_of_ble_eq_true rfl), (Nat.le_of_ble_eq_true rfl)⟩ (Nat.le_of_ble_eq_true rfl) dX6_tried_74 (fun r6 d7 => ?_)
        refine z_pop (pc := 77) hC rfl dX6_tried_77 ?_
        refine z_iinc (pc := 78) (ls1 := fun v => [(4, .inl (.int v)), (0, .inr (k, 34)), (1, .inl (.int v1)), (2, .inl (.int v2)), (3, .inl (.int v3))]) hC 4 4 (by decide) (1 : Int32) rfl rfl (fun v => rfl) dX6_tried_78 (fun v4_8 => ?_)
        refine z_goto (pc := 81) hC 57 rfl dX6_tried_81 ?_
        exact z_sub [1, 2, 3, 4, 0] rfl (ih v1 v2 v3 v4_8 d7)
theorem r_Mo_tried_54 {C : Cxt} {G : Geo} {M : Mem} {k : Nat} (hC : Cx C cX6_tried 5 "FrameHeirsModel" (some .int) rm_X6_tried G) (hk : LMo G k) (v1 : Int32) (v2 : Int32) (v3 : Int32) (d : Sl) : Rz C 5 G (setS M k) (poM avI (setS M k)) 54 [(0, .inr (k, 34)), (1, .inl (.int v1)), (2, .inl (.int v2)), (3, .inl (.int v3))] [] d (Mo_tried_54 v1 v2 v3 d) := by
  unfold Mo_tried_54
  refine z_iconst (pc := 54) hC (0 : Int32) rfl dX6_tried_54 ?_
  refine z_istore (pc := 55) (ls1 := fun v => [(4, .inl (.int v)), (0, .inr (k, 34)), (1, .inl (.int v1)), (2, .inl (.int v2)), (3, .inl (.int v3))]) hC 4 (by decide) (fun v => rfl) dX6_tried_55 (fun v4_9 => ?_)
  exact z_sub [1, 2, 3, 4, 0] rfl (r_Mo_tried_57 hC hk FU v1 v2 v3 v4_9 d)
theorem r_Mo_tried_43 {C : Cxt} {G : Geo} {M : Mem} {k : Nat} (hC : Cx C cX6_tried 5 "FrameHeirsModel" (some .int) rm_X6_tried G) (hk : LMo G k) (v1 : Int32) (v2 : Int32) (v3 : Int32) (d : Sl) : Rz C 5 G (setS M k) (poM avI (setS M k)) 43 [(0, .inr (k, 34)), (1, .inl (.int v1)), (2, .inl (.int v2)), (3, .inl (.int v3))] [] d (Mo_tried_43 v1 v2 v3 d) := by
  unfold Mo_tried_43
  refine z_iload_n (pc := 43) hC 1 rfl 1 rfl dX6_tried_43 ?_
  refine z_iconst (pc := 44) hC (3 : Int32) rfl dX6_tried_44 ?_
  refine z_icmp_ne (pc := 45) hC 54 rfl dX6_tried_45 ?_ ?_
  · exact z_sub [0, 1, 2, 3] rfl (r_Mo_tried_54 hC hk v1 v2 v3 d)
  · refine z_aload_n (pc := 48) hC 0 rfl 0 rfl dX6_tried_48 ?_
    refine z_iload_n (pc := 49) hC 3 rfl 3 rfl dX6_tried_49 ?_
    refine z_ciV (pc := 50) (st := []) hC y_X6_worked q1628 [.inl (.int v3)] rfl (hk 34 rfl) rfl rfl (c_X6_worked hC.2.2.2.2.2.2.1 hk) rfl ⟨rfl, rfl, (Nat.le_of_ble_eq_true rfl), (Nat.le_of_ble_eq_true rfl)⟩ (Nat.le_of_ble_eq_true rfl) dX6_tried_50 (fun r10 d11 => ?_)
    refine z_pop (pc := 53) hC rfl dX6_tried_53 ?_
    exact z_sub [0, 1, 2, 3] rfl (r_Mo_tried_54 hC hk v1 v2 v3 d11)
theorem r_Mo_tried {C : Cxt} {G : Geo} {M : Mem} {k : Nat} (hC : Cx C cX6_tried 5 "FrameHeirsModel" (some .int) rm_X6_tried G) (hk : LMo G k) (d : Sl) (a1 : Int32) : Rz C 5 G (setS M k) (poM avI (setS M k)) 0 [(0, .inr (k, 34)), (1, .inl (.int a1))] [] d (Mo_tried d a1) := by
  unfold Mo_tried
  refine z_aload_n (pc := 0) hC 0 rfl 0 rfl dX6_tried_0 ?_
  refine z_iconst (pc := 1) hC (0 : Int32) rfl dX6_tried_1 ?_
  refine zs_puti (pc := 2) hC (hk 34 rfl) f_34_2 q1272 dX6_tried_2 (fun d12 => ?_)
  refine z_iload_n (pc := 5) hC 1 rfl 1 rfl dX6_tried_5 ?_
  refine z_iconst (pc := 6) hC (0 : Int32) rfl dX6_tried_6 ?_
  refine z_iconst (pc := 7) hC (4 : Int32) rfl dX6_tried_7 ?_
  refine z_piS (pc := 8) (st := []) hC y_X6_isIn q1429 [.inl (.int a1), .inl (.int (0 : Int32)), .inl (.int (4 : Int32))] rfl (c_X6_isIn hC.2.2.2.2.2.2.1) rfl ⟨rfl, rfl, (Nat.le_of_ble_eq_true rfl), (Nat.le_of_ble_eq_true rfl)⟩ (Nat.le_of_ble_eq_true rfl) dX6_tried_8 (fun r13 => ?_)
  refine z_if_ne (pc := 11) hC 16 rfl dX6_tried_11 ?_ ?_
  · refine z_aload_n (pc := 16) hC 0 rfl 0 rfl dX6_tried_16 ?_
    refine z_cvV (pc := 17) (st := []) hC y_X6_asNow q1890 [] rfl (hk 34 rfl) rfl rfl (c_X6_asNow hC.2.2.2.2.2.2.1 hk) rfl ⟨rfl, rfl, (Nat.le_of_ble_eq_true rfl), (Nat.le_of_ble_eq_true rfl)⟩ (Nat.le_of_ble_eq_true rfl) dX6_tried_17 (fun r14 d15 => ?_)
    refine z_aload_n (pc := 20) hC 0 rfl 0 rfl dX6_tried_20 ?_
    refine z_sipush (pc := 21) hC (2200 : Int32) rfl dX6_tried_21 ?_
    refine z_piV (pc := 24) (st := []) hC y_X6_of q1262 [.inl (.int (2200 : Int32))] rfl (hk 34 rfl) rfl rfl (c_X6_of hC.2.2.2.2.2.2.1 hk) rfl ⟨rfl, rfl, (Nat.le_of_ble_eq_true rfl), (Nat.le_of_ble_eq_true rfl)⟩ (Nat.le_of_ble_eq_true rfl) dX6_tried_24 (fun r16 => ?_)
    refine z_istore_n (pc := 27) (ls1 := fun v => [(2, .inl (.int v)), (0, .inr (k, 34)), (1, .inl (.int a1))]) hC 2 rfl (by decide) (fun v => rfl) dX6_tried_27 (fun v2_17 => ?_)
    refine z_aload_n (pc := 28) hC 0 rfl 1 rfl dX6_tried_28 ?_
    refine z_piV (pc := 29) (st := []) hC y_X6_pendingMany q1612 [] rfl (hk 34 rfl) rfl rfl (c_X6_pendingMany hC.2.2.2.2.2.2.1 hk) rfl ⟨rfl, rfl, (Nat.le_of_ble_eq_true rfl), (Nat.le_of_ble_eq_true rfl)⟩ (Nat.le_of_ble_eq_true rfl) dX6_tried_29 (fun r18 => ?_)
    refine z_istore_n (pc := 32) (ls1 := fun v => [(3, .inl (.int v)), (2, .inl (.int v2_17)), (0, .inr (k, 34)), (1, .inl (.int a1))]) hC 3 rfl (by decide) (fun v => rfl) dX6_tried_32 (fun v3_19 => ?_)
    refine z_iload_n (pc := 33) hC 1 rfl 3 rfl dX6_tried_33 ?_
    refine z_iconst (pc := 34) hC (2 : Int32) rfl dX6_tried_34 ?_
    refine z_icmp_ge (pc := 35) hC 43 rfl dX6_tried_35 ?_ ?_
    · exact z_sub [2, 3, 1, 0] rfl (r_Mo_tried_43 hC hk a1 v2_17 v3_19 d15)
    · refine z_aload_n (pc := 38) hC 0 rfl 2 rfl dX6_tried_38 ?_
      refine z_ciV (pc := 39) (st := []) hC y_X6_settles q1753 [] rfl (hk 34 rfl) rfl rfl (c_X6_settles hC.2.2.2.2.2.2.1 hk) rfl ⟨rfl, rfl, (Nat.le_of_ble_eq_true rfl), (Nat.le_of_ble_eq_true rfl)⟩ (Nat.le_of_ble_eq_true rfl) dX6_tried_39 (fun r20 d21 => ?_)
      refine z_pop (pc := 42) hC rfl dX6_tried_42 ?_
      exact z_sub [2, 3, 1, 0] rfl (r_Mo_tried_43 hC hk a1 v2_17 v3_19 d21)
  · refine z_iconst (pc := 14) hC (-1 : Int32) rfl dX6_tried_14 ?_
    exact z_iret (pc := 15) hC rfl dX6_tried_15
theorem c_X6_tried {G : Geo} {M : Mem} {k : Nat} (hG : GOk G) (hk : LMo G k) {d : Sl} {a1 : Int32} (l : Launch) (r : Int32) (d1 : Sl) (h : Mo_tried d a1 = some (r, d1)) : Mt l yX6_tried cX6_tried 5 (some .int) rm_X6_tried G [.inr (k, 34), .inl (.int a1)] ((setS M k) d) (avI r) ((setS M k) d1) :=
  mt_of (mem := (setS M k)) (po := poM avI (setS M k)) (x0 := d) (t := (r, d1)) rfl hG [.inr (k, 34), .inl (.int a1)] (Nat.le_of_ble_eq_true rfl) rfl (fun C hC => r_Mo_tried hC hk d a1) h
-- FrameHeirsModel.drawnBy(I)I
abbrev rm_X6_drawnBy : Room := { frames := 0, cells := 0, slots := 0, locals := 0 }
theorem dX6_drawnBy_0 : decode cX6_drawnBy 0 = .ok (.aload_n 0, 1) := by decide +kernel
theorem dX6_drawnBy_1 : decode cX6_drawnBy 1 = .ok (.aload_n 0, 1) := by decide +kernel
theorem dX6_drawnBy_2 : decode cX6_drawnBy 2 = .ok (.getfield 472, 3) := by decide +kernel
theorem dX6_drawnBy_5 : decode cX6_drawnBy 5 = .ok (.ldc2_w 476, 3) := by decide +kernel
theorem dX6_drawnBy_8 : decode cX6_drawnBy 8 = .ok (.lmul, 1) := by decide +kernel
theorem dX6_drawnBy_9 : decode cX6_drawnBy 9 = .ok (.ldc2_w 478, 3) := by decide +kernel
theorem dX6_drawnBy_12 : decode cX6_drawnBy 12 = .ok (.ladd, 1) := by decide +kernel
theorem dX6_drawnBy_13 : decode cX6_drawnBy 13 = .ok (.ldc2_w 480, 3) := by decide +kernel
theorem dX6_drawnBy_16 : decode cX6_drawnBy 16 = .ok (.land, 1) := by decide +kernel
theorem dX6_drawnBy_17 : decode cX6_drawnBy 17 = .ok (.putfield 472, 3) := by decide +kernel
theorem dX6_drawnBy_20 : decode cX6_drawnBy 20 = .ok (.aload_n 0, 1) := by decide +kernel
theorem dX6_drawnBy_21 : decode cX6_drawnBy 21 = .ok (.getfield 472, 3) := by decide +kernel
theorem dX6_drawnBy_24 : decode cX6_drawnBy 24 = .ok (.ldc2_w 482, 3) := by decide +kernel
theorem dX6_drawnBy_27 : decode cX6_drawnBy 27 = .ok (.ldiv, 1) := by decide +kernel
theorem dX6_drawnBy_28 : decode cX6_drawnBy 28 = .ok (.iload_n 1, 1) := by decide +kernel
theorem dX6_drawnBy_29 : decode cX6_drawnBy 29 = .ok (.i2l, 1) := by decide +kernel
theorem dX6_drawnBy_30 : decode cX6_drawnBy 30 = .ok (.lrem, 1) := by decide +kernel
theorem dX6_drawnBy_31 : decode cX6_drawnBy 31 = .ok (.l2i, 1) := by decide +kernel
theorem dX6_drawnBy_32 : decode cX6_drawnBy 32 = .ok (.ireturn, 1) := by decide +kernel
def Mo_drawnBy (d : Sl) (a1 : Int32) : Option (Int32 × Sl) :=
  bnd (wr (wr d 34 31 (lo32 ((((dl (d 34 31) (d 34 (31 + 64))) * (1103515245 : Int64)) + (12345 : Int64)) &&& (2147483647 : Int64)))) 34 (31 + 64) (hi32 ((((dl (d 34 31) (d 34 (31 + 64))) * (1103515245 : Int64)) + (12345 : Int64)) &&& (2147483647 : Int64)))) fun d1 =>
  if ¬ (65536 : Int64) = 0 then
  if ¬ (Int32.toInt64 a1) = 0 then
  some ((Int64.toInt32 (((dl (d1 34 31) (d1 34 (31 + 64))) / (65536 : Int64)) - ((dl (d1 34 31) (d1 34 (31 + 64))) / (65536 : Int64)) / (Int32.toInt64 a1) * (Int32.toInt64 a1))), d1)
  else none
  else none
theorem y_X6_drawnBy : YV yX6_drawnBy cX6_drawnBy 2 (some .int) 1 := ⟨q1932, q141, q1933, q149, by decide +kernel, by decide +kernel, by decide +kernel, by decide +kernel⟩
theorem r_Mo_drawnBy {C : Cxt} {G : Geo} {M : Mem} {k : Nat} (hC : Cx C cX6_drawnBy 2 "FrameHeirsModel" (some .int) rm_X6_drawnBy G) (hk : LMo G k) (d : Sl) (a1 : Int32) : Rz C 2 G (setS M k) (poM avI (setS M k)) 0 [(0, .inr (k, 34)), (1, .inl (.int a1))] [] d (Mo_drawnBy d a1) := by
  unfold Mo_drawnBy
  refine z_aload_n (pc := 0) hC 0 rfl 0 rfl dX6_drawnBy_0 ?_
  refine z_aload_n (pc := 1) hC 0 rfl 0 rfl dX6_drawnBy_1 ?_
  refine zs_getl (pc := 2) hC (hk 34 rfl) f_34_31 q1301 dX6_drawnBy_2 ?_
  refine z_ldc2 (pc := 5) hC (1103515245 : Int64) q1934 dX6_drawnBy_5 ?_
  refine z_lmul (pc := 8) hC dX6_drawnBy_8 ?_
  refine z_ldc2 (pc := 9) hC (12345 : Int64) q1935 dX6_drawnBy_9 ?_
  refine z_ladd (pc := 12) hC dX6_drawnBy_12 ?_
  refine z_ldc2 (pc := 13) hC (2147483647 : Int64) q1936 dX6_drawnBy_13 ?_
  refine z_land (pc := 16) hC dX6_drawnBy_16 ?_
  refine zs_putl (pc := 17) hC (hk 34 rfl) f_34_31 q1301 dX6_drawnBy_17 (fun d1 => ?_)
  refine z_aload_n (pc := 20) hC 0 rfl 0 rfl dX6_drawnBy_20 ?_
  refine zs_getl (pc := 21) hC (hk 34 rfl) f_34_31 q1301 dX6_drawnBy_21 ?_
  refine z_ldc2 (pc := 24) hC (65536 : Int64) q1937 dX6_drawnBy_24 ?_
  refine z_ldiv (pc := 27) hC dX6_drawnBy_27 ?_
  refine z_iload_n (pc := 28) hC 1 rfl 1 rfl dX6_drawnBy_28 ?_
  refine z_i2l (pc := 29) hC dX6_drawnBy_29 ?_
  refine z_lrem (pc := 30) hC dX6_drawnBy_30 ?_
  refine z_l2i (pc := 31) hC dX6_drawnBy_31 ?_
  exact z_iret (pc := 32) hC rfl dX6_drawnBy_32
theorem c_X6_drawnBy {G : Geo} {M : Mem} {k : Nat} (hG : GOk G) (hk : LMo G k) {d : Sl} {a1 : Int32} (l : Launch) (r : Int32) (d1 : Sl) (h : Mo_drawnBy d a1 = some (r, d1)) : Mt l yX6_drawnBy cX6_drawnBy 2 (some .int) rm_X6_drawnBy G [.inr (k, 34), .inl (.int a1)] ((setS M k) d) (avI r) ((setS M k) d1) :=
  mt_of (mem := (setS M k)) (po := poM avI (setS M k)) (x0 := d) (t := (r, d1)) rfl hG [.inr (k, 34), .inl (.int a1)] (Nat.le_of_ble_eq_true rfl) rfl (fun C hC => r_Mo_drawnBy hC hk d a1) h
-- FrameHeirsModel.churn(II)I
abbrev rm_X6_churn : Room := { frames := 8, cells := 0, slots := 0, locals := 201 }
theorem dX6_churn_0 : decode cX6_churn 0 = .ok (.aload_n 0, 1) := by decide +kernel
theorem dX6_churn_1 : decode cX6_churn 1 = .ok (.iconst 0, 1) := by decide +kernel
theorem dX6_churn_2 : decode cX6_churn 2 = .ok (.putfield 61, 3) := by decide +kernel
theorem dX6_churn_5 : decode cX6_churn 5 = .ok (.iload_n 1, 1) := by decide +kernel
theorem dX6_churn_6 : decode cX6_churn 6 = .ok (.iconst (-1), 1) := by decide +kernel
theorem dX6_churn_7 : decode cX6_churn 7 = .ok (.if_icmp .lt 13, 3) := by decide +kernel
theorem dX6_churn_10 : decode cX6_churn 10 = .ok (.iload_n 2, 1) := by decide +kernel
theorem dX6_churn_11 : decode cX6_churn 11 = .ok (.iconst 1, 1) := by decide +kernel
theorem dX6_churn_12 : decode cX6_churn 12 = .ok (.bipush 20, 2) := by decide +kernel
theorem dX6_churn_14 : decode cX6_churn 14 = .ok (.invokestatic 137, 3) := by decide +kernel
theorem dX6_churn_17 : decode cX6_churn 17 = .ok (.ifCond .ne 5, 3) := by decide +kernel
theorem dX6_churn_20 : decode cX6_churn 20 = .ok (.iconst (-1), 1) := by decide +kernel
theorem dX6_churn_21 : decode cX6_churn 21 = .ok (.ireturn, 1) := by decide +kernel
theorem dX6_churn_22 : decode cX6_churn 22 = .ok (.aload_n 0, 1) := by decide +kernel
theorem dX6_churn_23 : decode cX6_churn 23 = .ok (.getfield 106, 3) := by decide +kernel
theorem dX6_churn_26 : decode cX6_churn 26 = .ok (.ifCond .ne 6, 3) := by decide +kernel
theorem dX6_churn_29 : decode cX6_churn 29 = .ok (.bipush (-2), 2) := by decide +kernel
theorem dX6_churn_31 : decode cX6_churn 31 = .ok (.ireturn, 1) := by decide +kernel
theorem dX6_churn_32 : decode cX6_churn 32 = .ok (.aload_n 0, 1) := by decide +kernel
theorem dX6_churn_33 : decode cX6_churn 33 = .ok (.iload_n 1, 1) := by decide +kernel
theorem dX6_churn_34 : decode cX6_churn 34 = .ok (.ifCond .ge 14, 3) := by decide +kernel
theorem dX6_churn_37 : decode cX6_churn 37 = .ok (.aload_n 0, 1) := by decide +kernel
theorem dX6_churn_38 : decode cX6_churn 38 = .ok (.getfield 32, 3) := by decide +kernel
theorem dX6_churn_41 : decode cX6_churn 41 = .ok (.bipush 6, 2) := by decide +kernel
theorem dX6_churn_43 : decode cX6_churn 43 = .ok (.iaload, 1) := by decide +kernel
theorem dX6_churn_44 : decode cX6_churn 44 = .ok (.i2l, 1) := by decide +kernel
theorem dX6_churn_45 : decode cX6_churn 45 = .ok (.goto 5, 3) := by decide +kernel
theorem dX6_churn_48 : decode cX6_churn 48 = .ok (.iload_n 1, 1) := by decide +kernel
theorem dX6_churn_49 : decode cX6_churn 49 = .ok (.i2l, 1) := by decide +kernel
theorem dX6_churn_50 : decode cX6_churn 50 = .ok (.putfield 472, 3) := by decide +kernel
theorem dX6_churn_53 : decode cX6_churn 53 = .ok (.aload_n 0, 1) := by decide +kernel
theorem dX6_churn_54 : decode cX6_churn 54 = .ok (.invokevirtual 463, 3) := by decide +kernel
theorem dX6_churn_57 : decode cX6_churn 57 = .ok (.iconst 0, 1) := by decide +kernel
theorem dX6_churn_58 : decode cX6_churn 58 = .ok (.istore_n 3, 1) := by decide +kernel
theorem dX6_churn_59 : decode cX6_churn 59 = .ok (.iconst 0, 1) := by decide +kernel
theorem dX6_churn_60 : decode cX6_churn 60 = .ok (.istore 4, 2) := by decide +kernel
theorem dX6_churn_62 : decode cX6_churn 62 = .ok (.iload 4, 2) := by decide +kernel
theorem dX6_churn_64 : decode cX6_churn 64 = .ok (.iload_n 2, 1) := by decide +kernel
theorem dX6_churn_65 : decode cX6_churn 65 = .ok (.if_icmp .ge 73, 3) := by decide +kernel
theorem dX6_churn_68 : decode cX6_churn 68 = .ok (.aload_n 0, 1) := by decide +kernel
theorem dX6_churn_69 : decode cX6_churn 69 = .ok (.aload_n 0, 1) := by decide +kernel
theorem dX6_churn_70 : decode cX6_churn 70 = .ok (.getfield 106, 3) := by decide +kernel
theorem dX6_churn_73 : decode cX6_churn 73 = .ok (.invokevirtual 484, 3) := by decide +kernel
theorem dX6_churn_76 : decode cX6_churn 76 = .ok (.istore 5, 2) := by decide +kernel
theorem dX6_churn_78 : decode cX6_churn 78 = .ok (.aload_n 0, 1) := by decide +kernel
theorem dX6_churn_79 : decode cX6_churn 79 = .ok (.aload_n 0, 1) := by decide +kernel
theorem dX6_churn_80 : decode cX6_churn 80 = .ok (.invokevirtual 126, 3) := by decide +kernel
theorem dX6_churn_83 : decode cX6_churn 83 = .ok (.invokevirtual 484, 3) := by decide +kernel
theorem dX6_churn_86 : decode cX6_churn 86 = .ok (.istore 6, 2) := by decide +kernel
theorem dX6_churn_88 : decode cX6_churn 88 = .ok (.iconst 1, 1) := by decide +kernel
theorem dX6_churn_89 : decode cX6_churn 89 = .ok (.aload_n 0, 1) := by decide +kernel
theorem dX6_churn_90 : decode cX6_churn 90 = .ok (.iconst 3, 1) := by decide +kernel
theorem dX6_churn_91 : decode cX6_churn 91 = .ok (.invokevirtual 484, 3) := by decide +kernel
theorem dX6_churn_94 : decode cX6_churn 94 = .ok (.ishl, 1) := by decide +kernel
theorem dX6_churn_95 : decode cX6_churn 95 = .ok (.istore 7, 2) := by decide +kernel
theorem dX6_churn_97 : decode cX6_churn 97 = .ok (.aload_n 0, 1) := by decide +kernel
theorem dX6_churn_98 : decode cX6_churn 98 = .ok (.iload 5, 2) := by decide +kernel
theorem dX6_churn_100 : decode cX6_churn 100 = .ok (.invokevirtual 376, 3) := by decide +kernel
theorem dX6_churn_103 : decode cX6_churn 103 = .ok (.ifCond .ne 24, 3) := by decide +kernel
theorem dX6_churn_106 : decode cX6_churn 106 = .ok (.iload_n 3, 1) := by decide +kernel
theorem dX6_churn_107 : decode cX6_churn 107 = .ok (.aload_n 0, 1) := by decide +kernel
theorem dX6_churn_108 : decode cX6_churn 108 = .ok (.iload 5, 2) := by decide +kernel
theorem dX6_churn_110 : decode cX6_churn 110 = .ok (.iload 6, 2) := by decide +kernel
theorem dX6_churn_112 : decode cX6_churn 112 = .ok (.iload 7, 2) := by decide +kernel
theorem dX6_churn_114 : decode cX6_churn 114 = .ok (.invokevirtual 392, 3) := by decide +kernel
theorem dX6_churn_117 : decode cX6_churn 117 = .ok (.ifCond .lt 7, 3) := by decide +kernel
theorem dX6_churn_120 : decode cX6_churn 120 = .ok (.iconst 1, 1) := by decide +kernel
theorem dX6_churn_121 : decode cX6_churn 121 = .ok (.goto 4, 3) := by decide +kernel
theorem dX6_churn_124 : decode cX6_churn 124 = .ok (.iconst 0, 1) := by decide +kernel
theorem dX6_churn_125 : decode cX6_churn 125 = .ok (.iadd, 1) := by decide +kernel
theorem dX6_churn_126 : decode cX6_churn 126 = .ok (.istore_n 3, 1) := by decide +kernel
theorem dX6_churn_127 : decode cX6_churn 127 = .ok (.aload_n 0, 1) := by decide +kernel
theorem dX6_churn_128 : decode cX6_churn 128 = .ok (.invokevirtual 414, 3) := by decide +kernel
theorem dX6_churn_131 : decode cX6_churn 131 = .ok (.pop, 1) := by decide +kernel
theorem dX6_churn_132 : decode cX6_churn 132 = .ok (.iinc 4 1, 3) := by decide +kernel
theorem dX6_churn_135 : decode cX6_churn 135 = .ok (.goto (-73), 3) := by decide +kernel
theorem dX6_churn_138 : decode cX6_churn 138 = .ok (.aload_n 0, 1) := by decide +kernel
theorem dX6_churn_139 : decode cX6_churn 139 = .ok (.iconst 0, 1) := by decide +kernel
theorem dX6_churn_140 : decode cX6_churn 140 = .ok (.putfield 116, 3) := by decide +kernel
theorem dX6_churn_143 : decode cX6_churn 143 = .ok (.iload_n 3, 1) := by decide +kernel
theorem dX6_churn_144 : decode cX6_churn 144 = .ok (.ireturn, 1) := by decide +kernel
def Mo_churn_127 (k62 : Int32 → Int32 → Int32 → Sl → Option (Int32 × Sl)) (v2 : Int32) (v3 : Int32) (v4 : Int32) (d : Sl) : Option (Int32 × Sl) :=
  bd (Mo_settles d) fun r1 d2 =>
  bnd (v4 + (1 : Int32)) fun v4_3 =>
  k62 v2 v3 v4_3 d2
def Mo_churn_125 (k62 : Int32 → Int32 → Int32 → Sl → Option (Int32 × Sl)) (v2 : Int32) (v4 : Int32) (s0 : Int32) (s1 : Int32) (d : Sl) : Option (Int32 × Sl) :=
  bnd (s1 + s0) fun v3_4 =>
  Mo_churn_127 k62 v2 v3_4 v4 d
def Mo_churn_62 : Nat → Int32 → Int32 → Int32 → Sl → Option (Int32 × Sl)
  | 0, _, _, _, _ => none
  | n + 1, v2, v3, v4, d =>
    if v2 ≤ v4 then
      (bnd (wr d 34 25 (0 : Int32)) fun d5 =>
      some (v3, d5))
    else
      (bd (Mo_drawnBy d (d 34 11)) fun r6 d7 =>
      bnd r6 fun v5_8 =>
      bp (Mo_size d7) fun r9 =>
      bd (Mo_drawnBy d7 r9) fun r10 d11 =>
      bnd r10 fun v6_12 =>
      bd (Mo_drawnBy d11 (3 : Int32)) fun r13 d14 =>
      bnd ((1 : Int32) <<< (r13 &&& 31)) fun v7_15 =>
      bp (Mo_isWaiting d14 v5_8) fun r16 =>
      if r16 = 0 then
        (bd (Mo_touched d14 v5_8 v6_12 v7_15) fun r17 d18 =>
        if r17 < 0 then
          (Mo_churn_125 (Mo_churn_62 n) v2 v4 (0 : Int32) v3 d18)
        else
          (Mo_churn_125 (Mo_churn_62 n) v2 v4 (1 : Int32) v3 d18))
      else
        (Mo_churn_127 (Mo_churn_62 n) v2 v3 v4 d14))
def Mo_churn_50 (v2 : Int32) (s0 : Int64) (d : Sl) : Option (Int32 × Sl) :=
  bnd (wr (wr d 34 31 (lo32 s0)) 34 (31 + 64) (hi32 s0)) fun d19 =>
  bd (Mo_asNow d19) fun r20 d21 =>
  bnd (0 : Int32) fun v3_22 =>
  bnd (0 : Int32) fun v4_23 =>
  Mo_churn_62 FU v2 v3_22 v4_23 d21
def Mo_churn (d : Sl) (a1 : Int32) (a2 : Int32) : Option (Int32 × Sl) :=
  bnd (wr d 34 2 (0 : Int32)) fun d24 =>
  if a1 < (-1 : Int32) then
    (some ((-1 : Int32), d24))
  else
    (bp (Mo_isIn a2 (1 : Int32) (20 : Int32)) fun r25 =>
    if r25 = 0 then
      (some ((-1 : Int32), d24))
    else
      (if (d24 34 11) = 0 then
        (some ((-2 : Int32), d24))
      else
        (if 0 ≤ a1 then
          (Mo_churn_50 a2 (Int32.toInt64 a1) d24)
        else
          (if inb (6 : Int32) 14 then
          Mo_churn_50 a2 (Int32.toInt64 (d24 41 (ix (6 : Int32)))) d24
          else none))))
theorem y_X6_churn : YV yX6_churn cX6_churn 8 (some .int) 2 := ⟨q1927, q1928, q1929, q149, by decide +kernel, by decide +kernel, by decide +kernel, by decide +kernel⟩
theorem r_Mo_churn_127 {C : Cxt} {G : Geo} {M : Mem} {k : Nat} (hC : Cx C cX6_churn 8 "FrameHeirsModel" (some .int) rm_X6_churn G) (hk : LMo G k) (k62 : Int32 → Int32 → Int32 → Sl → Option (Int32 × Sl)) (h62 : ∀ (v2 : Int32) (v3 : Int32) (v4 : Int32) (d : Sl), Rz C 8 G (setS M k) (poM avI (setS M k)) 62 [(0, .inr (k, 34)), (2, .inl (.int v2)), (3, .inl (.int v3)), (4, .inl (.int v4))] [] d (k62 v2 v3 v4 d)) (v2 : Int32) (v3 : Int32) (v4 : Int32) (d : Sl) : Rz C 8 G (setS M k) (poM avI (setS M k)) 127 [(0, .inr (k, 34)), (2, .inl (.int v2)), (3, .inl (.int v3)), (4, .inl (.int v4))] [] d (Mo_churn_127 k62 v2 v3 v4 d) := by
  unfold Mo_churn_127
  refine z_aload_n (pc := 127) hC 0 rfl 0 rfl dX6_churn_127 ?_
  refine z_ciV (pc := 128) (st := []) hC y_X6_settles q1753 [] rfl (hk 34 rfl) rfl rfl (c_X6_settles hC.2.2.2.2.2.2.1 hk) rfl ⟨rfl, rfl, (Nat.le_of_ble_eq_true rfl), (Nat.le_of_ble_eq_true rfl)⟩ (Nat.le_of_ble_eq_true rfl) dX6_churn_128 (fun r1 d2 => ?_)
  refine z_pop (pc := 131) hC rfl dX6_churn_131 ?_
  refine z_iinc (pc := 132) (ls1 := fun v => [(4, .inl (.int v)), (0, .inr (k, 34)), (2, .inl (.int v2)), (3, .inl (.int v3))]) hC 4 3 (by decide) (1 : Int32) rfl rfl (fun v => rfl) dX6_churn_132 (fun v4_3 => ?_)
  refine z_goto (pc := 135) hC 62 rfl dX6_churn_135 ?_
  exact z_sub [1, 2, 3, 0] rfl (h62 v2 v3 v4_3 d2)
theorem r_Mo_churn_125 {C : Cxt} {G : Geo} {M : Mem} {k : Nat} (hC : Cx C cX6_churn 8 "FrameHeirsModel" (some .int) rm_X6_churn G) (hk : LMo G k) (k62 : Int32 → Int32 → Int32 → Sl → Option (Int32 × Sl)) (h62 : ∀ (v2 : Int32) (v3 : Int32) (v4 : Int32) (d : Sl), Rz C 8 G (setS M k) (poM avI (setS M k)) 62 [(0, .inr (k, 34)), (2, .inl (.int v2)), (3, .inl (.int v3)), (4, .inl (.int v4))] [] d (k62 v2 v3 v4 d)) (v2 : Int32) (v4 : Int32) (s0 : Int32) (s1 : Int32) (d : Sl) : Rz C 8 G (setS M k) (poM avI (setS M k)) 125 [(0, .inr (k, 34)), (2, .inl (.int v2)), (4, .inl (.int v4))] [.inl (.int s0), .inl (.int s1)] d (Mo_churn_125 k62 v2 v4 s0 s1 d) := by
  unfold Mo_churn_125
  refine z_iadd (pc := 125) hC dX6_churn_125 ?_
  refine z_istore_n (pc := 126) (ls1 := fun v => [(3, .inl (.int v)), (0, .inr (k, 34)), (2, .inl (.int v2)), (4, .inl (.int v4))]) hC 3 rfl (by decide) (fun v => rfl) dX6_churn_126 (fun v3_4 => ?_)
  exact z_sub [1, 2, 0, 3] rfl (r_Mo_churn_127 hC hk k62 h62 v2 v3_4 v4 d)
theorem r_Mo_churn_62 {C : Cxt} {G : Geo} {M : Mem} {k : Nat} (hC : Cx C cX6_churn 8 "FrameHeirsModel" (some .int) rm_X6_churn G) (hk : LMo G k) : ∀ (n : Nat) (v2 : Int32) (v3 : Int32) (v4 : Int32) (d : Sl), Rz C 8 G (setS M k) (poM avI (setS M k)) 62 [(0, .inr (k, 34)), (2, .inl (.int v2)), (3, .inl (.int v3)), (4, .inl (.int v4))] [] d (Mo_churn_62 n v2 v3 v4 d) := by
  intro n
  induction n with
  | zero => intros; exact z_none
  | succ n ih =>
    intro v2 v3 v4 d
    rw [Mo_churn_62]
    refine z_iload (pc := 62) hC 4 3 rfl dX6_churn_62 ?_
    refine z_iload_n (pc := 64) hC 2 rfl 1 rfl dX6_churn_64 ?_
    refine z_icmp_ge (pc := 65) hC 138 rfl dX6_churn_65 ?_ ?_
    · refine z_aload_n (pc := 138) hC 0 rfl 0 rfl dX6_churn_138 ?_
      refine z_iconst (pc := 139) hC (0 : Int32) rfl dX6_churn_139 ?_
      refine zs_puti (pc := 140) hC (hk 34 rfl) f_34_25 q1295 dX6_churn_140 (fun d5 => ?_)
      refine z_iload_n (pc := 143) hC 3 rfl 2 rfl dX6_churn_143 ?_
      exact z_iret (pc := 144) hC rfl dX6_churn_144
    · refine z_aload_n (pc := 68) hC 0 rfl 0 rfl dX6_churn_68 ?_
      refine z_aload_n (pc := 69) hC 0 rfl 0 rfl dX6_churn_69 ?_
      refine zs_geti (pc := 70) hC (hk 34 rfl) f_34_11 q1281 dX6_churn_70 ?_
      refine z_ciV (pc := 73) (st := []) hC y_X6_drawnBy q1930 [.inl (.int (d 34 11))] rfl (hk 34 rfl) rfl rfl (c_X6_drawnBy hC.2.2.2.2.2.2.1 hk) rfl ⟨rfl, rfl, (Nat.le_of_ble_eq_true rfl), (Nat.le_of_ble_eq_true rfl)⟩ (Nat.le_of_ble_eq_true rfl) dX6_churn_73 (fun r6 d7 => ?_)
      refine z_istore (pc := 76) (ls1 := fun v => [(5, .inl (.int v)), (0, .inr (k, 34)), (2, .inl (.int v2)), (3, .inl (.int v3)), (4, .inl (.int v4))]) hC 5 (by decide) (fun v => rfl) dX6_churn_76 (fun v5_8 => ?_)
      refine z_aload_n (pc := 78) hC 0 rfl 1 rfl dX6_churn_78 ?_
      refine z_aload_n (pc := 79) hC 0 rfl 1 rfl dX6_churn_79 ?_
      refine z_piV (pc := 80) (st := [.inr (k, 34)]) hC y_X6_size q1250 [] rfl (hk 34 rfl) rfl rfl (c_X6_size hC.2.2.2.2.2.2.1 hk) rfl ⟨rfl, rfl, (Nat.le_of_ble_eq_true rfl), (Nat.le_of_ble_eq_true rfl)⟩ (Nat.le_of_ble_eq_true rfl) dX6_churn_80 (fun r9 => ?_)
      refine z_ciV (pc := 83) (st := []) hC y_X6_drawnBy q1930 [.inl (.int r9)] rfl (hk 34 rfl) rfl rfl (c_X6_drawnBy hC.2.2.2.2.2.2.1 hk) rfl ⟨rfl, rfl, (Nat.le_of_ble_eq_true rfl), (Nat.le_of_ble_eq_true rfl)⟩ (Nat.le_of_ble_eq_true rfl) dX6_churn_83 (fun r10 d11 => ?_)
      refine z_istore (pc := 86) (ls1 := fun v => [(6, .inl (.int v)), (5, .inl (.int v5_8)), (0, .inr (k, 34)), (2, .inl (.int v2)), (3, .inl (.int v3)), (4, .inl (.int v4))]) hC 6 (by decide) (fun v => rfl) dX6_churn_86 (fun v6_12 => ?_)
      refine z_iconst (pc := 88) hC (1 : Int32) rfl dX6_churn_88 ?_
      refine z_aload_n (pc := 89) hC 0 rfl 2 rfl dX6_churn_89 ?_
      refine z_iconst (pc := 90) hC (3 : Int32) rfl dX6_churn_90 ?_
      refine z_ciV (pc := 91) (st := [.inl (.int (1 : Int32))]) hC y_X6_drawnBy q1930 [.inl (.int (3 : Int32))] rfl (hk 34 rfl) rfl rfl (c_X6_drawnBy hC.2.2.2.2.2.2.1 hk) rfl ⟨rfl, rfl, (Nat.le_of_ble_eq_true rfl), (Nat.le_of_ble_eq_true rfl)⟩ (Nat.le_of_ble_eq_true rfl) dX6_churn_91 (fun r13 d14 => ?_)
      refine z_ishl (pc := 94) hC dX6_churn_94 ?_
      refine z_istore (pc := 95) (ls1 := fun v => [(7, .inl (.int v)), (6, .inl (.int v6_12)), (5, .inl (.int v5_8)), (0, .inr (k, 34)), (2, .inl (.int v2)), (3, .inl (.int v3)), (4, .inl (.int v4))]) hC 7 (by decide) (fun v => rfl) dX6_churn_95 (fun v7_15 => ?_)
      refine z_aload_n (pc := 97) hC 0 rfl 3 rfl dX6_churn_97 ?_
      refine z_iload (pc := 98) hC 5 2 rfl dX6_churn_98 ?_
      refine z_piV (pc := 100) (st := []) hC y_X6_isWaiting q1697 [.inl (.int v5_8)] rfl (hk 34 rfl) rfl rfl (c_X6_isWaiting hC.2.2.2.2.2.2.1 hk) rfl ⟨rfl, rfl, (Nat.le_of_ble_eq_true rfl), (Nat.le_of_ble_eq_true rfl)⟩ (Nat.le_of_ble_eq_true rfl) dX6_churn_100 (fun r16 => ?_)
      refine z_if_ne (pc := 103) hC 127 rfl dX6_churn_103 ?_ ?_
      · exact z_sub [3, 4, 5, 6] rfl (r_Mo_churn_127 hC hk _ ih v2 v3 v4 d14)
      · refine z_iload_n (pc := 106) hC 3 rfl 5 rfl dX6_churn_106 ?_
        refine z_aload_n (pc := 107) hC 0 rfl 3 rfl dX6_churn_107 ?_
        refine z_iload (pc := 108) hC 5 2 rfl dX6_churn_108 ?_
        refine z_iload (pc := 110) hC 6 1 rfl dX6_churn_110 ?_
        refine z_iload (pc := 112) hC 7 0 rfl dX6_churn_112 ?_
        refine z_ciV (pc := 114) (st := [.inl (.int v3)]) hC y_X6_touched q1701 [.inl (.int v5_8), .inl (.int v6_12), .inl (.int v7_15)] rfl (hk 34 rfl) rfl rfl (c_X6_touched hC.2.2.2.2.2.2.1 hk) rfl ⟨rfl, rfl, (Nat.le_of_ble_eq_true rfl), (Nat.le_of_ble_eq_true rfl)⟩ (Nat.le_of_ble_eq_true rfl) dX6_churn_114 (fun r17 d18 => ?_)
        refine z_if_lt (pc := 117) hC 124 rfl dX6_churn_117 ?_ ?_
        · refine z_iconst (pc := 124) hC (0 : Int32) rfl dX6_churn_124 ?_
          exact z_sub [3, 4, 6] rfl (r_Mo_churn_125 hC hk _ ih v2 v4 (0 : Int32) v3 d18)
        · refine z_iconst (pc := 120) hC (1 : Int32) rfl dX6_churn_120 ?_
          refine z_goto (pc := 121) hC 125 rfl dX6_churn_121 ?_
          exact z_sub [3, 4, 6] rfl (r_Mo_churn_125 hC hk _ ih v2 v4 (1 : Int32) v3 d18)
theorem r_Mo_churn_50 {C : Cxt} {G : Geo} {M : Mem} {k : Nat} (hC : Cx C cX6_churn 8 "FrameHeirsModel" (some .int) rm_X6_churn G) (hk : LMo G k) (v2 : Int32) (s0 : Int64) (d : Sl) : Rz C 8 G (setS M k) (poM avI (setS M k)) 50 [(0, .inr (k, 34)), (2, .inl (.int v2))] [.inl (.long s0), .inr (k, 34)] d (Mo_churn_50 v2 s0 d) := by
  unfold Mo_churn_50
  refine zs_putl (pc := 50) hC (hk 34 rfl) f_34_31 q1301 dX6_churn_50 (fun d19 => ?_)
  refine z_aload_n (pc := 53) hC 0 rfl 0 rfl dX6_churn_53 ?_
  refine z_cvV (pc := 54) (st := []) hC y_X6_asNow q1890 [] rfl (hk 34 rfl) rfl rfl (c_X6_asNow hC.2.2.2.2.2.2.1 hk) rfl ⟨rfl, rfl, (Nat.le_of_ble_eq_true rfl), (Nat.le_of_ble_eq_true rfl)⟩ (Nat.le_of_ble_eq_true rfl) dX6_churn_54 (fun r20 d21 => ?_)
  refine z_iconst (pc := 57) hC (0 : Int32) rfl dX6_churn_57 ?_
  refine z_istore_n (pc := 58) (ls1 := fun v => [(3, .inl (.int v)), (0, .inr (k, 34)), (2, .inl (.int v2))]) hC 3 rfl (by decide) (fun v => rfl) dX6_churn_58 (fun v3_22 => ?_)
  refine z_iconst (pc := 59) hC (0 : Int32) rfl dX6_churn_59 ?_
  refine z_istore (pc := 60) (ls1 := fun v => [(4, .inl (.int v)), (3, .inl (.int v3_22)), (0, .inr (k, 34)), (2, .inl (.int v2))]) hC 4 (by decide) (fun v => rfl) dX6_churn_60 (fun v4_23 => ?_)
  exact z_sub [2, 3, 1, 0] rfl (r_Mo_churn_62 hC hk FU v2 v3_22 v4_23 d21)
theorem r_Mo_churn {C : Cxt} {G : Geo} {M : Mem} {k : Nat} (hC : Cx C cX6_churn 8 "FrameHeirsModel" (some .int) rm_X6_churn G) (hk : LMo G k) (d : Sl) (a1 : Int32) (a2 : Int32) : Rz C 8 G (setS M k) (poM avI (setS M k)) 0 [(0, .inr (k, 34)), (1, .inl (.int a1)), (2, .inl (.int a2))] [] d (Mo_churn d a1 a2) := by
  unfold Mo_churn
  refine z_aload_n (pc := 0) hC 0 rfl 0 rfl dX6_churn_0 ?_
  refine z_iconst (pc := 1) hC (0 : Int32) rfl dX6_churn_1 ?_
  refine zs_puti (pc := 2) hC (hk 34 rfl) f_34_2 q1272 dX6_churn_2 (fun d24 => ?_)
  refine z_iload_n (pc := 5) hC 1 rfl 1 rfl dX6_churn_5 ?_
  refine z_iconst (pc := 6) hC (-1 : Int32) rfl dX6_churn_6 ?_
  refine z_icmp_lt (pc := 7) hC 20 rfl dX6_churn_7 ?_ ?_
  · refine z_iconst (pc := 20) hC (-1 : Int32) rfl dX6_churn_20 ?_
    exact z_iret (pc := 21) hC rfl dX6_churn_21
  · refine z_iload_n (pc := 10) hC 2 rfl 2 rfl dX6_churn_10 ?_
    refine z_iconst (pc := 11) hC (1 : Int32) rfl dX6_churn_11 ?_
    refine z_bipush (pc := 12) hC (20 : Int32) rfl dX6_churn_12 ?_
    refine z_piS (pc := 14) (st := []) hC y_X6_isIn q1429 [.inl (.int a2), .inl (.int (1 : Int32)), .inl (.int (20 : Int32))] rfl (c_X6_isIn hC.2.2.2.2.2.2.1) rfl ⟨rfl, rfl, (Nat.le_of_ble_eq_true rfl), (Nat.le_of_ble_eq_true rfl)⟩ (Nat.le_of_ble_eq_true rfl) dX6_churn_14 (fun r25 => ?_)
    refine z_if_ne (pc := 17) hC 22 rfl dX6_churn_17 ?_ ?_
    · refine z_aload_n (pc := 22) hC 0 rfl 0 rfl dX6_churn_22 ?_
      refine zs_geti (pc := 23) hC (hk 34 rfl) f_34_11 q1281 dX6_churn_23 ?_
      refine z_if_ne (pc := 26) hC 32 rfl dX6_churn_26 ?_ ?_
      · refine z_aload_n (pc := 32) hC 0 rfl 0 rfl dX6_churn_32 ?_
        refine z_iload_n (pc := 33) hC 1 rfl 1 rfl dX6_churn_33 ?_
        refine z_if_ge (pc := 34) hC 48 rfl dX6_churn_34 ?_ ?_
        · refine z_iload_n (pc := 48) hC 1 rfl 1 rfl dX6_churn_48 ?_
          refine z_i2l (pc := 49) hC dX6_churn_49 ?_
          exact z_sub [0, 2] rfl (r_Mo_churn_50 hC hk a2 (Int32.toInt64 a1) d24)
        · refine z_aload_n (pc := 37) hC 0 rfl 0 rfl dX6_churn_37 ?_
          refine z_getc (pc := 38) hC (hk 34 rfl) f_34_19 q1289 dX6_churn_38 ?_
          refine z_bipush (pc := 41) hC (6 : Int32) rfl dX6_churn_41 ?_
          refine zs_iald (pc := 43) hC (hk 41 rfl) rfl dX6_churn_43 ?_
          refine z_i2l (pc := 44) hC dX6_churn_44 ?_
          refine z_goto (pc := 45) hC 50 rfl dX6_churn_45 ?_
          exact z_sub [0, 2] rfl (r_Mo_churn_50 hC hk a2 (Int32.toInt64 (d24 41 (ix (6 : Int32)))) d24)
      · refine z_bipush (pc := 29) hC (-2 : Int32) rfl dX6_churn_29 ?_
        exact z_iret (pc := 31) hC rfl dX6_churn_31
    · refine z_iconst (pc := 20) hC (-1 : Int32) rfl dX6_churn_20 ?_
      exact z_iret (pc := 21) hC rfl dX6_churn_21
theorem c_X6_churn {G : Geo} {M : Mem} {k : Nat} (hG : GOk G) (hk : LMo G k) {d : Sl} {a1 : Int32} {a2 : Int32} (l : Launch) (r : Int32) (d1 : Sl) (h : Mo_churn d a1 a2 = some (r, d1)) : Mt l yX6_churn cX6_churn 8 (some .int) rm_X6_churn G [.inr (k, 34), .inl (.int a1), .inl (.int a2)] ((setS M k) d) (avI r) ((setS M k) d1) :=
  mt_of (mem := (setS M k)) (po := poM avI (setS M k)) (x0 := d) (t := (r, d1)) rfl hG [.inr (k, 34), .inl (.int a1), .inl (.int a2)] (Nat.le_of_ble_eq_true rfl) rfl (fun C hC => r_Mo_churn hC hk d a1 a2) h
-- FrameHeirsModel.count(I)I
abbrev rm_X6_count : Room := { frames := 5, cells := 0, slots := 0, locals := 108 }
theorem dX6_count_0 : decode cX6_count 0 = .ok (.aload_n 0, 1) := by decide +kernel
theorem dX6_count_1 : decode cX6_count 1 = .ok (.iconst 0, 1) := by decide +kernel
theorem dX6_count_2 : decode cX6_count 2 = .ok (.putfield 61, 3) := by decide +kernel
theorem dX6_count_5 : decode cX6_count 5 = .ok (.iconst 0, 1) := by decide +kernel
theorem dX6_count_6 : decode cX6_count 6 = .ok (.istore_n 2, 1) := by decide +kernel
theorem dX6_count_7 : decode cX6_count 7 = .ok (.iload_n 1, 1) := by decide +kernel
theorem dX6_count_8 : decode cX6_count 8 = .ok (.tableswitch 190 0 12 #[68, 73, 78, 83, 88, 96, 101, 109, 117, 125, 133, 141, 185], 68) := by decide +kernel
theorem dX6_count_76 : decode cX6_count 76 = .ok (.aload_n 0, 1) := by decide +kernel
theorem dX6_count_77 : decode cX6_count 77 = .ok (.getfield 106, 3) := by decide +kernel
theorem dX6_count_80 : decode cX6_count 80 = .ok (.ireturn, 1) := by decide +kernel
theorem dX6_count_81 : decode cX6_count 81 = .ok (.aload_n 0, 1) := by decide +kernel
theorem dX6_count_82 : decode cX6_count 82 = .ok (.invokevirtual 126, 3) := by decide +kernel
theorem dX6_count_85 : decode cX6_count 85 = .ok (.ireturn, 1) := by decide +kernel
theorem dX6_count_86 : decode cX6_count 86 = .ok (.aload_n 0, 1) := by decide +kernel
theorem dX6_count_87 : decode cX6_count 87 = .ok (.invokevirtual 373, 3) := by decide +kernel
theorem dX6_count_90 : decode cX6_count 90 = .ok (.ireturn, 1) := by decide +kernel
theorem dX6_count_91 : decode cX6_count 91 = .ok (.aload_n 0, 1) := by decide +kernel
theorem dX6_count_92 : decode cX6_count 92 = .ok (.invokevirtual 469, 3) := by decide +kernel
theorem dX6_count_95 : decode cX6_count 95 = .ok (.ireturn, 1) := by decide +kernel
theorem dX6_count_96 : decode cX6_count 96 = .ok (.aload_n 0, 1) := by decide +kernel
theorem dX6_count_97 : decode cX6_count 97 = .ok (.sipush 1944, 3) := by decide +kernel
theorem dX6_count_100 : decode cX6_count 100 = .ok (.invokevirtual 189, 3) := by decide +kernel
theorem dX6_count_103 : decode cX6_count 103 = .ok (.ireturn, 1) := by decide +kernel
theorem dX6_count_104 : decode cX6_count 104 = .ok (.aload_n 0, 1) := by decide +kernel
theorem dX6_count_105 : decode cX6_count 105 = .ok (.getfield 109, 3) := by decide +kernel
theorem dX6_count_108 : decode cX6_count 108 = .ok (.ireturn, 1) := by decide +kernel
theorem dX6_count_109 : decode cX6_count 109 = .ok (.aload_n 0, 1) := by decide +kernel
theorem dX6_count_110 : decode cX6_count 110 = .ok (.sipush 2202, 3) := by decide +kernel
theorem dX6_count_113 : decode cX6_count 113 = .ok (.invokevirtual 189, 3) := by decide +kernel
theorem dX6_count_116 : decode cX6_count 116 = .ok (.ireturn, 1) := by decide +kernel
theorem dX6_count_117 : decode cX6_count 117 = .ok (.aload_n 0, 1) := by decide +kernel
theorem dX6_count_118 : decode cX6_count 118 = .ok (.sipush 2198, 3) := by decide +kernel
theorem dX6_count_121 : decode cX6_count 121 = .ok (.invokevirtual 189, 3) := by decide +kernel
theorem dX6_count_124 : decode cX6_count 124 = .ok (.ireturn, 1) := by decide +kernel
theorem dX6_count_125 : decode cX6_count 125 = .ok (.aload_n 0, 1) := by decide +kernel
theorem dX6_count_126 : decode cX6_count 126 = .ok (.sipush 2199, 3) := by decide +kernel
theorem dX6_count_129 : decode cX6_count 129 = .ok (.invokevirtual 189, 3) := by decide +kernel
theorem dX6_count_132 : decode cX6_count 132 = .ok (.ireturn, 1) := by decide +kernel
theorem dX6_count_133 : decode cX6_count 133 = .ok (.aload_n 0, 1) := by decide +kernel
theorem dX6_count_134 : decode cX6_count 134 = .ok (.sipush 2200, 3) := by decide +kernel
theorem dX6_count_137 : decode cX6_count 137 = .ok (.invokevirtual 189, 3) := by decide +kernel
theorem dX6_count_140 : decode cX6_count 140 = .ok (.ireturn, 1) := by decide +kernel
theorem dX6_count_141 : decode cX6_count 141 = .ok (.aload_n 0, 1) := by decide +kernel
theorem dX6_count_142 : decode cX6_count 142 = .ok (.sipush 2201, 3) := by decide +kernel
theorem dX6_count_145 : decode cX6_count 145 = .ok (.invokevirtual 189, 3) := by decide +kernel
theorem dX6_count_148 : decode cX6_count 148 = .ok (.ireturn, 1) := by decide +kernel
theorem dX6_count_149 : decode cX6_count 149 = .ok (.iconst 0, 1) := by decide +kernel
theorem dX6_count_150 : decode cX6_count 150 = .ok (.istore_n 3, 1) := by decide +kernel
theorem dX6_count_151 : decode cX6_count 151 = .ok (.iload_n 3, 1) := by decide +kernel
theorem dX6_count_152 : decode cX6_count 152 = .ok (.sipush 192, 3) := by decide +kernel
theorem dX6_count_155 : decode cX6_count 155 = .ok (.if_icmp .ge 36, 3) := by decide +kernel
theorem dX6_count_158 : decode cX6_count 158 = .ok (.aload_n 0, 1) := by decide +kernel
theorem dX6_count_159 : decode cX6_count 159 = .ok (.iload_n 3, 1) := by decide +kernel
theorem dX6_count_160 : decode cX6_count 160 = .ok (.invokevirtual 216, 3) := by decide +kernel
theorem dX6_count_163 : decode cX6_count 163 = .ok (.ifCond .eq 20, 3) := by decide +kernel
theorem dX6_count_166 : decode cX6_count 166 = .ok (.aload_n 0, 1) := by decide +kernel
theorem dX6_count_167 : decode cX6_count 167 = .ok (.iload_n 3, 1) := by decide +kernel
theorem dX6_count_168 : decode cX6_count 168 = .ok (.invokevirtual 439, 3) := by decide +kernel
theorem dX6_count_171 : decode cX6_count 171 = .ok (.iload_n 2, 1) := by decide +kernel
theorem dX6_count_172 : decode cX6_count 172 = .ok (.if_icmp .le 11, 3) := by decide +kernel
theorem dX6_count_175 : decode cX6_count 175 = .ok (.aload_n 0, 1) := by decide +kernel
theorem dX6_count_176 : decode cX6_count 176 = .ok (.iload_n 3, 1) := by decide +kernel
theorem dX6_count_177 : decode cX6_count 177 = .ok (.invokevirtual 439, 3) := by decide +kernel
theorem dX6_count_180 : decode cX6_count 180 = .ok (.goto 4, 3) := by decide +kernel
theorem dX6_count_183 : decode cX6_count 183 = .ok (.iload_n 2, 1) := by decide +kernel
theorem dX6_count_184 : decode cX6_count 184 = .ok (.istore_n 2, 1) := by decide +kernel
theorem dX6_count_185 : decode cX6_count 185 = .ok (.iinc 3 1, 3) := by decide +kernel
theorem dX6_count_188 : decode cX6_count 188 = .ok (.goto (-37), 3) := by decide +kernel
theorem dX6_count_191 : decode cX6_count 191 = .ok (.iload_n 2, 1) := by decide +kernel
theorem dX6_count_192 : decode cX6_count 192 = .ok (.ireturn, 1) := by decide +kernel
theorem dX6_count_193 : decode cX6_count 193 = .ok (.aload_n 0, 1) := by decide +kernel
theorem dX6_count_194 : decode cX6_count 194 = .ok (.getfield 119, 3) := by decide +kernel
theorem dX6_count_197 : decode cX6_count 197 = .ok (.ireturn, 1) := by decide +kernel
theorem dX6_count_198 : decode cX6_count 198 = .ok (.iconst (-1), 1) := by decide +kernel
theorem dX6_count_199 : decode cX6_count 199 = .ok (.ireturn, 1) := by decide +kernel
def Mo_count_184 (k151 : Int32 → Int32 → Sl → Option (Int32 × Sl)) (v3 : Int32) (s0 : Int32) (d : Sl) : Option (Int32 × Sl) :=
  bnd s0 fun v2_1 =>
  bnd (v3 + (1 : Int32)) fun v3_2 =>
  k151 v2_1 v3_2 d
def Mo_count_183 (k151 : Int32 → Int32 → Sl → Option (Int32 × Sl)) (v2 : Int32) (v3 : Int32) (d : Sl) : Option (Int32 × Sl) :=
  Mo_count_184 k151 v3 v2 d
def Mo_count_151 : Nat → Int32 → Int32 → Sl → Option (Int32 × Sl)
  | 0, _, _, _ => none
  | n + 1, v2, v3, d =>
    if (192 : Int32) ≤ v3 then
      (some (v2, d))
    else
      (bp (Mo_isDeed d v3) fun r3 =>
      if r3 = 0 then
        (Mo_count_183 (Mo_count_151 n) v2 v3 d)
      else
        (bp (Mo_aboveMany d v3) fun r4 =>
        if r4 ≤ v2 then
          (Mo_count_183 (Mo_count_151 n) v2 v3 d)
        else
          (bp (Mo_aboveMany d v3) fun r5 =>
          Mo_count_184 (Mo_count_151 n) v3 r5 d)))
def Mo_count (d : Sl) (a1 : Int32) : Option (Int32 × Sl) :=
  bnd (wr d 34 2 (0 : Int32)) fun d6 =>
  bnd (0 : Int32) fun v2_7 =>
  if a1 = (0 : Int32) then
    (some ((d6 34 11), d6))
  else
    (if a1 = (1 : Int32) then
      (bp (Mo_size d6) fun r17 =>
      some (r17, d6))
    else
      (if a1 = (2 : Int32) then
        (bp (Mo_deedsMany d6) fun r16 =>
        some (r16, d6))
      else
        (if a1 = (3 : Int32) then
          (bp (Mo_pagesAll d6) fun r15 =>
          some (r15, d6))
        else
          (if a1 = (4 : Int32) then
            (bp (Mo_of d6 (1944 : Int32)) fun r14 =>
            some (r14, d6))
          else
            (if a1 = (5 : Int32) then
              (some ((d6 34 13), d6))
            else
              (if a1 = (6 : Int32) then
                (bp (Mo_of d6 (2202 : Int32)) fun r13 =>
                some (r13, d6))
              else
                (if a1 = (7 : Int32) then
                  (bp (Mo_of d6 (2198 : Int32)) fun r12 =>
                  some (r12, d6))
                else
                  (if a1 = (8 : Int32) then
                    (bp (Mo_of d6 (2199 : Int32)) fun r11 =>
                    some (r11, d6))
                  else
                    (if a1 = (9 : Int32) then
                      (bp (Mo_of d6 (2200 : Int32)) fun r10 =>
                      some (r10, d6))
                    else
                      (if a1 = (10 : Int32) then
                        (bp (Mo_of d6 (2201 : Int32)) fun r9 =>
                        some (r9, d6))
                      else
                        (if a1 = (11 : Int32) then
                          (bnd (0 : Int32) fun v3_8 =>
                          Mo_count_151 FU v2_7 v3_8 d6)
                        else
                          (if a1 = (12 : Int32) then
                            (some ((d6 34 26), d6))
                          else
                            (some ((-1 : Int32), d6))))))))))))))
theorem y_X6_count : YV yX6_count cX6_count 4 (some .int) 1 := ⟨q1939, q1940, q1941, q149, by decide +kernel, by decide +kernel, by decide +kernel, by decide +kernel⟩
theorem r_Mo_count_184 {C : Cxt} {G : Geo} {M : Mem} {k : Nat} (hC : Cx C cX6_count 4 "FrameHeirsModel" (some .int) rm_X6_count G) (hk : LMo G k) (k151 : Int32 → Int32 → Sl → Option (Int32 × Sl)) (h151 : ∀ (v2 : Int32) (v3 : Int32) (d : Sl), Rz C 4 G (setS M k) (poM avI (setS M k)) 151 [(0, .inr (k, 34)), (2, .inl (.int v2)), (3, .inl (.int v3))] [] d (k151 v2 v3 d)) (v3 : Int32) (s0 : Int32) (d : Sl) : Rz C 4 G (setS M k) (poM avI (setS M k)) 184 [(0, .inr (k, 34)), (3, .inl (.int v3))] [.inl (.int s0)] d (Mo_count_184 k151 v3 s0 d) := by
  unfold Mo_count_184
  refine z_istore_n (pc := 184) (ls1 := fun v => [(2, .inl (.int v)), (0, .inr (k, 34)), (3, .inl (.int v3))]) hC 2 rfl (by decide) (fun v => rfl) dX6_count_184 (fun v2_1 => ?_)
  refine z_iinc (pc := 185) (ls1 := fun v => [(3, .inl (.int v)), (2, .inl (.int v2_1)), (0, .inr (k, 34))]) hC 3 2 (by decide) (1 : Int32) rfl rfl (fun v => rfl) dX6_count_185 (fun v3_2 => ?_)
  refine z_goto (pc := 188) hC 151 rfl dX6_count_188 ?_
  exact z_sub [2, 1, 0] rfl (h151 v2_1 v3_2 d)
theorem r_Mo_count_183 {C : Cxt} {G : Geo} {M : Mem} {k : Nat} (hC : Cx C cX6_count 4 "FrameHeirsModel" (some .int) rm_X6_count G) (hk : LMo G k) (k151 : Int32 → Int32 → Sl → Option (Int32 × Sl)) (h151 : ∀ (v2 : Int32) (v3 : Int32) (d : Sl), Rz C 4 G (setS M k) (poM avI (setS M k)) 151 [(0, .inr (k, 34)), (2, .inl (.int v2)), (3, .inl (.int v3))] [] d (k151 v2 v3 d)) (v2 : Int32) (v3 : Int32) (d : Sl) : Rz C 4 G (setS M k) (poM avI (setS M k)) 183 [(0, .inr (k, 34)), (2, .inl (.int v2)), (3, .inl (.int v3))] [] d (Mo_count_183 k151 v2 v3 d) := by
  unfold Mo_count_183
  refine z_iload_n (pc := 183) hC 2 rfl 1 rfl dX6_count_183 ?_
  exact z_sub [0, 2] rfl (r_Mo_count_184 hC hk k151 h151 v3 v2 d)
theorem r_Mo_count_151 {C : Cxt} {G : Geo} {M : Mem} {k : Nat} (hC : Cx C cX6_count 4 "FrameHeirsModel" (some .int) rm_X6_count G) (hk : LMo G k) : ∀ (n : Nat) (v2 : Int32) (v3 : Int32) (d : Sl), Rz C 4 G (setS M k) (poM avI (setS M k)) 151 [(0, .inr (k, 34)), (2, .inl (.int v2)), (3, .inl (.int v3))] [] d (Mo_count_151 n v2 v3 d) := by
  intro n
  induction n with
  | zero => intros; exact z_none
  | succ n ih =>
    intro v2 v3 d
    rw [Mo_count_151]
    refine z_iload_n (pc := 151) hC 3 rfl 2 rfl dX6_count_151 ?_
    refine z_sipush (pc := 152) hC (192 : Int32) rfl dX6_count_152 ?_
    refine z_icmp_ge (pc := 155) hC 191 rfl dX6_count_155 ?_ ?_
    · refine z_iload_n (pc := 191) hC 2 rfl 1 rfl dX6_count_191 ?_
      exact z_iret (pc := 192) hC rfl dX6_count_192
    · refine z_aload_n (pc := 158) hC 0 rfl 0 rfl dX6_count_158 ?_
      refine z_iload_n (pc := 159) hC 3 rfl 2 rfl dX6_count_159 ?_
      refine z_piV (pc := 160) (st := []) hC y_X6_isDeed q1520 [.inl (.int v3)] rfl (hk 34 rfl) rfl rfl (c_X6_isDeed hC.2.2.2.2.2.2.1 hk) rfl ⟨rfl, rfl, (Nat.le_of_ble_eq_true rfl), (Nat.le_of_ble_eq_true rfl)⟩ (Nat.le_of_ble_eq_true rfl) dX6_count_160 (fun r3 => ?_)
      refine z_if_eq (pc := 163) hC 183 rfl dX6_count_163 ?_ ?_
      · exact z_sub [0, 1, 2] rfl (r_Mo_count_183 hC hk _ ih v2 v3 d)
      · refine z_aload_n (pc := 166) hC 0 rfl 0 rfl dX6_count_166 ?_
        refine z_iload_n (pc := 167) hC 3 rfl 2 rfl dX6_count_167 ?_
        refine z_piV (pc := 168) (st := []) hC y_X6_aboveMany q1802 [.inl (.int v3)] rfl (hk 34 rfl) rfl rfl (c_X6_aboveMany hC.2.2.2.2.2.2.1 hk) rfl ⟨rfl, rfl, (Nat.le_of_ble_eq_true rfl), (Nat.le_of_ble_eq_true rfl)⟩ (Nat.le_of_ble_eq_true rfl) dX6_count_168 (fun r4 => ?_)
        refine z_iload_n (pc := 171) hC 2 rfl 1 rfl dX6_count_171 ?_
        refine z_icmp_le (pc := 172) hC 183 rfl dX6_count_172 ?_ ?_
        · exact z_sub [0, 1, 2] rfl (r_Mo_count_183 hC hk _ ih v2 v3 d)
        · refine z_aload_n (pc := 175) hC 0 rfl 0 rfl dX6_count_175 ?_
          refine z_iload_n (pc := 176) hC 3 rfl 2 rfl dX6_count_176 ?_
          refine z_piV (pc := 177) (st := []) hC y_X6_aboveMany q1802 [.inl (.int v3)] rfl (hk 34 rfl) rfl rfl (c_X6_aboveMany hC.2.2.2.2.2.2.1 hk) rfl ⟨rfl, rfl, (Nat.le_of_ble_eq_true rfl), (Nat.le_of_ble_eq_true rfl)⟩ (Nat.le_of_ble_eq_true rfl) dX6_count_177 (fun r5 => ?_)
          refine z_goto (pc := 180) hC 184 rfl dX6_count_180 ?_
          exact z_sub [0, 2] rfl (r_Mo_count_184 hC hk _ ih v3 r5 d)
theorem r_Mo_count {C : Cxt} {G : Geo} {M : Mem} {k : Nat} (hC : Cx C cX6_count 4 "FrameHeirsModel" (some .int) rm_X6_count G) (hk : LMo G k) (d : Sl) (a1 : Int32) : Rz C 4 G (setS M k) (poM avI (setS M k)) 0 [(0, .inr (k, 34)), (1, .inl (.int a1))] [] d (Mo_count d a1) := by
  unfold Mo_count
  refine z_aload_n (pc := 0) hC 0 rfl 0 rfl dX6_count_0 ?_
  refine z_iconst (pc := 1) hC (0 : Int32) rfl dX6_count_1 ?_
  refine zs_puti (pc := 2) hC (hk 34 rfl) f_34_2 q1272 dX6_count_2 (fun d6 => ?_)
  refine z_iconst (pc := 5) hC (0 : Int32) rfl dX6_count_5 ?_
  refine z_istore_n (pc := 6) (ls1 := fun v => [(2, .inl (.int v)), (0, .inr (k, 34)), (1, .inl (.int a1))]) hC 2 rfl (by decide) (fun v => rfl) dX6_count_6 (fun v2_7 => ?_)
  refine z_iload_n (pc := 7) hC 1 rfl 2 rfl dX6_count_7 ?_
  refine z_ite (fun e => ?_) (fun e0 => ?_)
  · refine z_tswIn (pc := 8) hC 0 76 (by rw [e]; rfl) (by decide) (by decide) rfl rfl dX6_count_8 ?_
    refine z_aload_n (pc := 76) hC 0 rfl 1 rfl dX6_count_76 ?_
    refine zs_geti (pc := 77) hC (hk 34 rfl) f_34_11 q1281 dX6_count_77 ?_
    exact z_iret (pc := 80) hC rfl dX6_count_80
  · refine z_ite (fun e => ?_) (fun e1 => ?_)
    · refine z_tswIn (pc := 8) hC 1 81 (by rw [e]; rfl) (by decide) (by decide) rfl rfl dX6_count_8 ?_
      refine z_aload_n (pc := 81) hC 0 rfl 1 rfl dX6_count_81 ?_
      refine z_piV (pc := 82) (st := []) hC y_X6_size q1250 [] rfl (hk 34 rfl) rfl rfl (c_X6_size hC.2.2.2.2.2.2.1 hk) rfl ⟨rfl, rfl, (Nat.le_of_ble_eq_true rfl), (Nat.le_of_ble_eq_true rfl)⟩ (Nat.le_of_ble_eq_true rfl) dX6_count_82 (fun r17 => ?_)
      exact z_iret (pc := 85) hC rfl dX6_count_85
    · refine z_ite (fun e => ?_) (fun e2 => ?_)
      · refine z_tswIn (pc := 8) hC 2 86 (by rw [e]; rfl) (by decide) (by decide) rfl rfl dX6_count_8 ?_
        refine z_aload_n (pc := 86) hC 0 rfl 1 rfl dX6_count_86 ?_
        refine z_piV (pc := 87) (st := []) hC y_X6_deedsMany q1685 [] rfl (hk 34 rfl) rfl rfl (c_X6_deedsMany hC.2.2.2.2.2.2.1 hk) rfl ⟨rfl, rfl, (Nat.le_of_ble_eq_true rfl), (Nat.le_of_ble_eq_true rfl)⟩ (Nat.le_of_ble_eq_true rfl) dX6_count_87 (fun r16 => ?_)
        exact z_iret (pc := 90) hC rfl dX6_count_90
      · refine z_ite (fun e => ?_) (fun e3 => ?_)
        · refine z_tswIn (pc := 8) hC 3 91 (by rw [e]; rfl) (by decide) (by decide) rfl rfl dX6_count_8 ?_
          refine z_aload_n (pc := 91) hC 0 rfl 1 rfl dX6_count_91 ?_
          refine z_piV (pc := 92) (st := []) hC y_X6_pagesAll q1922 [] rfl (hk 34 rfl) rfl rfl (c_X6_pagesAll hC.2.2.2.2.2.2.1 hk) rfl ⟨rfl, rfl, (Nat.le_of_ble_eq_true rfl), (Nat.le_of_ble_eq_true rfl)⟩ (Nat.le_of_ble_eq_true rfl) dX6_count_92 (fun r15 => ?_)
          exact z_iret (pc := 95) hC rfl dX6_count_95
        · refine z_ite (fun e => ?_) (fun e4 => ?_)
          · refine z_tswIn (pc := 8) hC 4 96 (by rw [e]; rfl) (by decide) (by decide) rfl rfl dX6_count_8 ?_
            refine z_aload_n (pc := 96) hC 0 rfl 1 rfl dX6_count_96 ?_
            refine z_sipush (pc := 97) hC (1944 : Int32) rfl dX6_count_97 ?_
            refine z_piV (pc := 100) (st := []) hC y_X6_of q1262 [.inl (.int (1944 : Int32))] rfl (hk 34 rfl) rfl rfl (c_X6_of hC.2.2.2.2.2.2.1 hk) rfl ⟨rfl, rfl, (Nat.le_of_ble_eq_true rfl), (Nat.le_of_ble_eq_true rfl)⟩ (Nat.le_of_ble_eq_true rfl) dX6_count_100 (fun r14 => ?_)
            exact z_iret (pc := 103) hC rfl dX6_count_103
          · refine z_ite (fun e => ?_) (fun e5 => ?_)
            · refine z_tswIn (pc := 8) hC 5 104 (by rw [e]; rfl) (by decide) (by decide) rfl rfl dX6_count_8 ?_
              refine z_aload_n (pc := 104) hC 0 rfl 1 rfl dX6_count_104 ?_
              refine zs_geti (pc := 105) hC (hk 34 rfl) f_34_13 q1283 dX6_count_105 ?_
              exact z_iret (pc := 108) hC rfl dX6_count_108
            · refine z_ite (fun e => ?_) (fun e6 => ?_)
              · refine z_tswIn (pc := 8) hC 6 109 (by rw [e]; rfl) (by decide) (by decide) rfl rfl dX6_count_8 ?_
                refine z_aload_n (pc := 109) hC 0 rfl 1 rfl dX6_count_109 ?_
                refine z_sipush (pc := 110) hC (2202 : Int32) rfl dX6_count_110 ?_
                refine z_piV (pc := 113) (st := []) hC y_X6_of q1262 [.inl (.int (2202 : Int32))] rfl (hk 34 rfl) rfl rfl (c_X6_of hC.2.2.2.2.2.2.1 hk) rfl ⟨rfl, rfl, (Nat.le_of_ble_eq_true rfl), (Nat.le_of_ble_eq_true rfl)⟩ (Nat.le_of_ble_eq_true rfl) dX6_count_113 (fun r13 => ?_)
                exact z_iret (pc := 116) hC rfl dX6_count_116
              · refine z_ite (fun e => ?_) (fun e7 => ?_)
                · refine z_tswIn (pc := 8) hC 7 117 (by rw [e]; rfl) (by decide) (by decide) rfl rfl dX6_count_8 ?_
                  refine z_aload_n (pc := 117) hC 0 rfl 1 rfl dX6_count_117 ?_
                  refine z_sipush (pc := 118) hC (2198 : Int32) rfl dX6_count_118 ?_
                  refine z_piV (pc := 121) (st := []) hC y_X6_of q1262 [.inl (.int (2198 : Int32))] rfl (hk 34 rfl) rfl rfl (c_X6_of hC.2.2.2.2.2.2.1 hk) rfl ⟨rfl, rfl, (Nat.le_of_ble_eq_true rfl), (Nat.le_of_ble_eq_true rfl)⟩ (Nat.le_of_ble_eq_true rfl) dX6_count_121 (fun r12 => ?_)
                  exact z_iret (pc := 124) hC rfl dX6_count_124
                · refine z_ite (fun e => ?_) (fun e8 => ?_)
                  · refine z_tswIn (pc := 8) hC 8 125 (by rw [e]; rfl) (by decide) (by decide) rfl rfl dX6_count_8 ?_
                    refine z_aload_n (pc := 125) hC 0 rfl 1 rfl dX6_count_125 ?_
                    refine z_sipush (pc := 126) hC (2199 : Int32) rfl dX6_count_126 ?_
                    refine z_piV (pc := 129) (st := []) hC y_X6_of q1262 [.inl (.int (2199 : Int32))] rfl (hk 34 rfl) rfl rfl (c_X6_of hC.2.2.2.2.2.2.1 hk) rfl ⟨rfl, rfl, (Nat.le_of_ble_eq_true rfl), (Nat.le_of_ble_eq_true rfl)⟩ (Nat.le_of_ble_eq_true rfl) dX6_count_129 (fun r11 => ?_)
                    exact z_iret (pc := 132) hC rfl dX6_count_132
                  · refine z_ite (fun e => ?_) (fun e9 => ?_)
                    · refine z_tswIn (pc := 8) hC 9 133 (by rw [e]; rfl) (by decide) (by decide) rfl rfl dX6_count_8 ?_
                      refine z_aload_n (pc := 133) hC 0 rfl 1 rfl dX6_count_133 ?_
                      refine z_sipush (pc := 134) hC (2200 : Int32) rfl dX6_count_134 ?_
                      refine z_piV (pc := 137) (st := []) hC y_X6_of q1262 [.inl (.int (2200 : Int32))] rfl (hk 34 rfl) rfl rfl (c_X6_of hC.2.2.2.2.2.2.1 hk) rfl ⟨rfl, rfl, (Nat.le_of_ble_eq_true rfl), (Nat.le_of_ble_eq_true rfl)⟩ (Nat.le_of_ble_eq_true rfl) dX6_count_137 (fun r10 => ?_)
                      exact z_iret (pc := 140) hC rfl dX6_count_140
                    · refine z_ite (fun e => ?_) (fun e10 => ?_)
                      · refine z_tswIn (pc := 8) hC 10 141 (by rw [e]; rfl) (by decide) (by decide) rfl rfl dX6_count_8 ?_
                        refine z_aload_n (pc := 141) hC 0 rfl 1 rfl dX6_count_141 ?_
                        refine z_sipush (pc := 142) hC (2201 : Int32) rfl dX6_count_142 ?_
                        refine z_piV (pc := 145) (st := []) hC y_X6_of q1262 [.inl (.int (2201 : Int32))] rfl (hk 34 rfl) rfl rfl (c_X6_of hC.2.2.2.2.2.2.1 hk) rfl ⟨rfl, rfl, (Nat.le_of_ble_eq_true rfl), (Nat.le_of_ble_eq_true rfl)⟩ (Nat.le_of_ble_eq_true rfl) dX6_count_145 (fun r9 => ?_)
                        exact z_iret (pc := 148) hC rfl dX6_count_148
                      · refine z_ite (fun e => ?_) (fun e11 => ?_)
                        · refine z_tswIn (pc := 8) hC 11 149 (by rw [e]; rfl) (by decide) (by decide) rfl rfl dX6_count_8 ?_
                          refine z_iconst (pc := 149) hC (0 : Int32) rfl dX6_count_149 ?_
                          refine z_istore_n (pc := 150) (ls1 := fun v => [(3, .inl (.int v)), (2, .inl (.int v2_7)), (0, .inr (k, 34)), (1, .inl (.int a1))]) hC 3 rfl (by decide) (fun v => rfl) dX6_count_150 (fun v3_8 => ?_)
                          exact z_sub [2, 1, 0] rfl (r_Mo_count_151 hC hk FU v2_7 v3_8 d6)
                        · refine z_ite (fun e => ?_) (fun e12 => ?_)
                          · refine z_tswIn (pc := 8) hC 12 193 (by rw [e]; rfl) (by decide) (by decide) rfl rfl dX6_count_8 ?_
                            refine z_aload_n (pc := 193) hC 0 rfl 1 rfl dX6_count_193 ?_
                            refine zs_geti (pc := 194) hC (hk 34 rfl) f_34_26 q1296 dX6_count_194 ?_
                            exact z_iret (pc := 197) hC rfl dX6_count_197
                          · have e0_ : (a1).toInt ≠ 0 := fun h => e0 (Int32.toInt_inj.mp (by rw [h]; rfl))
                            have e1_ : (a1).toInt ≠ 1 := fun h => e1 (Int32.toInt_inj.mp (by rw [h]; rfl))
                            have e2_ : (a1).toInt ≠ 2 := fun h => e2 (Int32.toInt_inj.mp (by rw [h]; rfl))
                            have e3_ : (a1).toInt ≠ 3 := fun h => e3 (Int32.toInt_inj.mp (by rw [h]; rfl))
                            have e4_ : (a1).toInt ≠ 4 := fun h => e4 (Int32.toInt_inj.mp (by rw [h]; rfl))
                            have e5_ : (a1).toInt ≠ 5 := fun h => e5 (Int32.toInt_inj.mp (by rw [h]; rfl))
                            have e6_ : (a1).toInt ≠ 6 := fun h => e6 (Int32.toInt_inj.mp (by rw [h]; rfl))
                            have e7_ : (a1).toInt ≠ 7 := fun h => e7 (Int32.toInt_inj.mp (by rw [h]; rfl))
                            have e8_ : (a1).toInt ≠ 8 := fun h => e8 (Int32.toInt_inj.mp (by rw [h]; rfl))
                            have e9_ : (a1).toInt ≠ 9 := fun h => e9 (Int32.toInt_inj.mp (by rw [h]; rfl))
                            have e10_ : (a1).toInt ≠ 10 := fun h => e10 (Int32.toInt_inj.mp (by rw [h]; rfl))
                            have e11_ : (a1).toInt ≠ 11 := fun h => e11 (Int32.toInt_inj.mp (by rw [h]; rfl))
                            have e12_ : (a1).toInt ≠ 12 := fun h => e12 (Int32.toInt_inj.mp (by rw [h]; rfl))
                            refine z_tswOut (pc := 8) hC 198 (by omega) rfl dX6_count_8 ?_
                            refine z_iconst (pc := 198) hC (-1 : Int32) rfl dX6_count_198 ?_
                            exact z_iret (pc := 199) hC rfl dX6_count_199
theorem c_X6_count {G : Geo} {M : Mem} {k : Nat} (hG : GOk G) (hk : LMo G k) {d : Sl} {a1 : Int32} (l : Launch) (r : Int32) (d1 : Sl) (h : Mo_count d a1 = some (r, d1)) : Mt l yX6_count cX6_count 4 (some .int) rm_X6_count G [.inr (k, 34), .inl (.int a1)] ((setS M k) d) (avI r) ((setS M k) d1) :=
  mt_of (mem := (setS M k)) (po := poM avI (setS M k)) (x0 := d) (t := (r, d1)) rfl hG [.inr (k, 34), .inl (.int a1)] (Nat.le_of_ble_eq_true rfl) rfl (fun C hC => r_Mo_count hC hk d a1) h

