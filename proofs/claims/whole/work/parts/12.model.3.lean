-- FrameHeirsModel.jobOver()V
abbrev rm_X6_jobOver : Room := { frames := 1, cells := 0, slots := 0, locals := 22 }
theorem dX6_jobOver_0 : decode cX6_jobOver 0 = .ok (.iconst 0, 1) := by decide +kernel
theorem dX6_jobOver_1 : decode cX6_jobOver 1 = .ok (.istore_n 1, 1) := by decide +kernel
theorem dX6_jobOver_2 : decode cX6_jobOver 2 = .ok (.iload_n 1, 1) := by decide +kernel
theorem dX6_jobOver_3 : decode cX6_jobOver 3 = .ok (.sipush 192, 3) := by decide +kernel
theorem dX6_jobOver_6 : decode cX6_jobOver 6 = .ok (.if_icmp .ge 38, 3) := by decide +kernel
theorem dX6_jobOver_9 : decode cX6_jobOver 9 = .ok (.aload_n 0, 1) := by decide +kernel
theorem dX6_jobOver_10 : decode cX6_jobOver 10 = .ok (.sipush 1728, 3) := by decide +kernel
theorem dX6_jobOver_13 : decode cX6_jobOver 13 = .ok (.iload_n 1, 1) := by decide +kernel
theorem dX6_jobOver_14 : decode cX6_jobOver 14 = .ok (.iadd, 1) := by decide +kernel
theorem dX6_jobOver_15 : decode cX6_jobOver 15 = .ok (.invokevirtual 189, 3) := by decide +kernel
theorem dX6_jobOver_18 : decode cX6_jobOver 18 = .ok (.aload_n 0, 1) := by decide +kernel
theorem dX6_jobOver_19 : decode cX6_jobOver 19 = .ok (.sipush 1950, 3) := by decide +kernel
theorem dX6_jobOver_22 : decode cX6_jobOver 22 = .ok (.invokevirtual 189, 3) := by decide +kernel
theorem dX6_jobOver_25 : decode cX6_jobOver 25 = .ok (.if_icmp .ne 13, 3) := by decide +kernel
theorem dX6_jobOver_28 : decode cX6_jobOver 28 = .ok (.aload_n 0, 1) := by decide +kernel
theorem dX6_jobOver_29 : decode cX6_jobOver 29 = .ok (.sipush 1728, 3) := by decide +kernel
theorem dX6_jobOver_32 : decode cX6_jobOver 32 = .ok (.iload_n 1, 1) := by decide +kernel
theorem dX6_jobOver_33 : decode cX6_jobOver 33 = .ok (.iadd, 1) := by decide +kernel
theorem dX6_jobOver_34 : decode cX6_jobOver 34 = .ok (.iconst 0, 1) := by decide +kernel
theorem dX6_jobOver_35 : decode cX6_jobOver 35 = .ok (.invokevirtual 122, 3) := by decide +kernel
theorem dX6_jobOver_38 : decode cX6_jobOver 38 = .ok (.iinc 1 1, 3) := by decide +kernel
theorem dX6_jobOver_41 : decode cX6_jobOver 41 = .ok (.goto (-39), 3) := by decide +kernel
theorem dX6_jobOver_44 : decode cX6_jobOver 44 = .ok (.iconst 1, 1) := by decide +kernel
theorem dX6_jobOver_45 : decode cX6_jobOver 45 = .ok (.istore_n 1, 1) := by decide +kernel
theorem dX6_jobOver_46 : decode cX6_jobOver 46 = .ok (.iload_n 1, 1) := by decide +kernel
theorem dX6_jobOver_47 : decode cX6_jobOver 47 = .ok (.bipush 6, 2) := by decide +kernel
theorem dX6_jobOver_49 : decode cX6_jobOver 49 = .ok (.if_icmp .ge 109, 3) := by decide +kernel
theorem dX6_jobOver_52 : decode cX6_jobOver 52 = .ok (.aload_n 0, 1) := by decide +kernel
theorem dX6_jobOver_53 : decode cX6_jobOver 53 = .ok (.sipush 1950, 3) := by decide +kernel
theorem dX6_jobOver_56 : decode cX6_jobOver 56 = .ok (.iload_n 1, 1) := by decide +kernel
theorem dX6_jobOver_57 : decode cX6_jobOver 57 = .ok (.iadd, 1) := by decide +kernel
theorem dX6_jobOver_58 : decode cX6_jobOver 58 = .ok (.iconst 1, 1) := by decide +kernel
theorem dX6_jobOver_59 : decode cX6_jobOver 59 = .ok (.isub, 1) := by decide +kernel
theorem dX6_jobOver_60 : decode cX6_jobOver 60 = .ok (.aload_n 0, 1) := by decide +kernel
theorem dX6_jobOver_61 : decode cX6_jobOver 61 = .ok (.sipush 1950, 3) := by decide +kernel
theorem dX6_jobOver_64 : decode cX6_jobOver 64 = .ok (.iload_n 1, 1) := by decide +kernel
theorem dX6_jobOver_65 : decode cX6_jobOver 65 = .ok (.iadd, 1) := by decide +kernel
theorem dX6_jobOver_66 : decode cX6_jobOver 66 = .ok (.invokevirtual 189, 3) := by decide +kernel
theorem dX6_jobOver_69 : decode cX6_jobOver 69 = .ok (.invokevirtual 122, 3) := by decide +kernel
theorem dX6_jobOver_72 : decode cX6_jobOver 72 = .ok (.aload_n 0, 1) := by decide +kernel
theorem dX6_jobOver_73 : decode cX6_jobOver 73 = .ok (.sipush 1956, 3) := by decide +kernel
theorem dX6_jobOver_76 : decode cX6_jobOver 76 = .ok (.iload_n 1, 1) := by decide +kernel
theorem dX6_jobOver_77 : decode cX6_jobOver 77 = .ok (.iadd, 1) := by decide +kernel
theorem dX6_jobOver_78 : decode cX6_jobOver 78 = .ok (.iconst 1, 1) := by decide +kernel
theorem dX6_jobOver_79 : decode cX6_jobOver 79 = .ok (.isub, 1) := by decide +kernel
theorem dX6_jobOver_80 : decode cX6_jobOver 80 = .ok (.aload_n 0, 1) := by decide +kernel
theorem dX6_jobOver_81 : decode cX6_jobOver 81 = .ok (.sipush 1956, 3) := by decide +kernel
theorem dX6_jobOver_84 : decode cX6_jobOver 84 = .ok (.iload_n 1, 1) := by decide +kernel
theorem dX6_jobOver_85 : decode cX6_jobOver 85 = .ok (.iadd, 1) := by decide +kernel
theorem dX6_jobOver_86 : decode cX6_jobOver 86 = .ok (.invokevirtual 189, 3) := by decide +kernel
theorem dX6_jobOver_89 : decode cX6_jobOver 89 = .ok (.invokevirtual 122, 3) := by decide +kernel
theorem dX6_jobOver_92 : decode cX6_jobOver 92 = .ok (.aload_n 0, 1) := by decide +kernel
theorem dX6_jobOver_93 : decode cX6_jobOver 93 = .ok (.sipush 1962, 3) := by decide +kernel
theorem dX6_jobOver_96 : decode cX6_jobOver 96 = .ok (.iload_n 1, 1) := by decide +kernel
theorem dX6_jobOver_97 : decode cX6_jobOver 97 = .ok (.iadd, 1) := by decide +kernel
theorem dX6_jobOver_98 : decode cX6_jobOver 98 = .ok (.iconst 1, 1) := by decide +kernel
theorem dX6_jobOver_99 : decode cX6_jobOver 99 = .ok (.isub, 1) := by decide +kernel
theorem dX6_jobOver_100 : decode cX6_jobOver 100 = .ok (.aload_n 0, 1) := by decide +kernel
theorem dX6_jobOver_101 : decode cX6_jobOver 101 = .ok (.sipush 1962, 3) := by decide +kernel
theorem dX6_jobOver_104 : decode cX6_jobOver 104 = .ok (.iload_n 1, 1) := by decide +kernel
theorem dX6_jobOver_105 : decode cX6_jobOver 105 = .ok (.iadd, 1) := by decide +kernel
theorem dX6_jobOver_106 : decode cX6_jobOver 106 = .ok (.invokevirtual 189, 3) := by decide +kernel
theorem dX6_jobOver_109 : decode cX6_jobOver 109 = .ok (.invokevirtual 122, 3) := by decide +kernel
theorem dX6_jobOver_112 : decode cX6_jobOver 112 = .ok (.aload_n 0, 1) := by decide +kernel
theorem dX6_jobOver_113 : decode cX6_jobOver 113 = .ok (.sipush 1968, 3) := by decide +kernel
theorem dX6_jobOver_116 : decode cX6_jobOver 116 = .ok (.iload_n 1, 1) := by decide +kernel
theorem dX6_jobOver_117 : decode cX6_jobOver 117 = .ok (.iadd, 1) := by decide +kernel
theorem dX6_jobOver_118 : decode cX6_jobOver 118 = .ok (.iconst 1, 1) := by decide +kernel
theorem dX6_jobOver_119 : decode cX6_jobOver 119 = .ok (.isub, 1) := by decide +kernel
theorem dX6_jobOver_120 : decode cX6_jobOver 120 = .ok (.aload_n 0, 1) := by decide +kernel
theorem dX6_jobOver_121 : decode cX6_jobOver 121 = .ok (.sipush 1968, 3) := by decide +kernel
theorem dX6_jobOver_124 : decode cX6_jobOver 124 = .ok (.iload_n 1, 1) := by decide +kernel
theorem dX6_jobOver_125 : decode cX6_jobOver 125 = .ok (.iadd, 1) := by decide +kernel
theorem dX6_jobOver_126 : decode cX6_jobOver 126 = .ok (.invokevirtual 189, 3) := by decide +kernel
theorem dX6_jobOver_129 : decode cX6_jobOver 129 = .ok (.invokevirtual 122, 3) := by decide +kernel
theorem dX6_jobOver_132 : decode cX6_jobOver 132 = .ok (.aload_n 0, 1) := by decide +kernel
theorem dX6_jobOver_133 : decode cX6_jobOver 133 = .ok (.sipush 1974, 3) := by decide +kernel
theorem dX6_jobOver_136 : decode cX6_jobOver 136 = .ok (.iload_n 1, 1) := by decide +kernel
theorem dX6_jobOver_137 : decode cX6_jobOver 137 = .ok (.iadd, 1) := by decide +kernel
theorem dX6_jobOver_138 : decode cX6_jobOver 138 = .ok (.iconst 1, 1) := by decide +kernel
theorem dX6_jobOver_139 : decode cX6_jobOver 139 = .ok (.isub, 1) := by decide +kernel
theorem dX6_jobOver_140 : decode cX6_jobOver 140 = .ok (.aload_n 0, 1) := by decide +kernel
theorem dX6_jobOver_141 : decode cX6_jobOver 141 = .ok (.sipush 1974, 3) := by decide +kernel
theorem dX6_jobOver_144 : decode cX6_jobOver 144 = .ok (.iload_n 1, 1) := by decide +kernel
theorem dX6_jobOver_145 : decode cX6_jobOver 145 = .ok (.iadd, 1) := by decide +kernel
theorem dX6_jobOver_146 : decode cX6_jobOver 146 = .ok (.invokevirtual 189, 3) := by decide +kernel
theorem dX6_jobOver_149 : decode cX6_jobOver 149 = .ok (.invokevirtual 122, 3) := by decide +kernel
theorem dX6_jobOver_152 : decode cX6_jobOver 152 = .ok (.iinc 1 1, 3) := by decide +kernel
theorem dX6_jobOver_155 : decode cX6_jobOver 155 = .ok (.goto (-109), 3) := by decide +kernel
theorem dX6_jobOver_158 : decode cX6_jobOver 158 = .ok (.aload_n 0, 1) := by decide +kernel
theorem dX6_jobOver_159 : decode cX6_jobOver 159 = .ok (.sipush 1944, 3) := by decide +kernel
theorem dX6_jobOver_162 : decode cX6_jobOver 162 = .ok (.aload_n 0, 1) := by decide +kernel
theorem dX6_jobOver_163 : decode cX6_jobOver 163 = .ok (.sipush 1944, 3) := by decide +kernel
theorem dX6_jobOver_166 : decode cX6_jobOver 166 = .ok (.invokevirtual 189, 3) := by decide +kernel
theorem dX6_jobOver_169 : decode cX6_jobOver 169 = .ok (.iconst 1, 1) := by decide +kernel
theorem dX6_jobOver_170 : decode cX6_jobOver 170 = .ok (.isub, 1) := by decide +kernel
theorem dX6_jobOver_171 : decode cX6_jobOver 171 = .ok (.invokevirtual 122, 3) := by decide +kernel
theorem dX6_jobOver_174 : decode cX6_jobOver 174 = .ok (.return_, 1) := by decide +kernel
def Mo_jobOver_46 : Nat → Int32 → Sl → Option (Unit × Sl)
  | 0, _, _ => none
  | n + 1, v1, d =>
    if (6 : Int32) ≤ v1 then
      (bp (Mo_of d (1944 : Int32)) fun r1 =>
      bd (Mo_lay d (1944 : Int32) (r1 - (1 : Int32))) fun r2 d3 =>
      some ((), d3))
    else
      (bp (Mo_of d ((1950 : Int32) + v1)) fun r4 =>
      bd (Mo_lay d (((1950 : Int32) + v1) - (1 : Int32)) r4) fun r5 d6 =>
      bp (Mo_of d6 ((1956 : Int32) + v1)) fun r7 =>
      bd (Mo_lay d6 (((1956 : Int32) + v1) - (1 : Int32)) r7) fun r8 d9 =>
      bp (Mo_of d9 ((1962 : Int32) + v1)) fun r10 =>
      bd (Mo_lay d9 (((1962 : Int32) + v1) - (1 : Int32)) r10) fun r11 d12 =>
      bp (Mo_of d12 ((1968 : Int32) + v1)) fun r13 =>
      bd (Mo_lay d12 (((1968 : Int32) + v1) - (1 : Int32)) r13) fun r14 d15 =>
      bp (Mo_of d15 ((1974 : Int32) + v1)) fun r16 =>
      bd (Mo_lay d15 (((1974 : Int32) + v1) - (1 : Int32)) r16) fun r17 d18 =>
      bnd (v1 + (1 : Int32)) fun v1_19 =>
      Mo_jobOver_46 n v1_19 d18)
def Mo_jobOver_38 (k2 : Int32 → Sl → Option (Unit × Sl)) (v1 : Int32) (d : Sl) : Option (Unit × Sl) :=
  bnd (v1 + (1 : Int32)) fun v1_20 =>
  k2 v1_20 d
def Mo_jobOver_2 : Nat → Int32 → Sl → Option (Unit × Sl)
  | 0, _, _ => none
  | n + 1, v1, d =>
    if (192 : Int32) ≤ v1 then
      (bnd (1 : Int32) fun v1_21 =>
      Mo_jobOver_46 FU v1_21 d)
    else
      (bp (Mo_of d ((1728 : Int32) + v1)) fun r22 =>
      bp (Mo_of d (1950 : Int32)) fun r23 =>
      if r22 = r23 then
        (bd (Mo_lay d ((1728 : Int32) + v1) (0 : Int32)) fun r24 d25 =>
        Mo_jobOver_38 (Mo_jobOver_2 n) v1 d25)
      else
        (Mo_jobOver_38 (Mo_jobOver_2 n) v1 d))
def Mo_jobOver (d : Sl) : Option (Unit × Sl) :=
  bnd (0 : Int32) fun v1_26 =>
  Mo_jobOver_2 FU v1_26 d
theorem y_X6_jobOver : YV yX6_jobOver cX6_jobOver 2 none 0 := ⟨q1650, q108, q1651, q149, by decide +kernel, by decide +kernel, by decide +kernel, by decide +kernel⟩
theorem r_Mo_jobOver_46 {C : Cxt} {G : Geo} {M : Mem} {k : Nat} (hC : Cx C cX6_jobOver 2 "FrameHeirsModel" none rm_X6_jobOver G) (hk : LMo G k) : ∀ (n : Nat) (v1 : Int32) (d : Sl), Rz C 2 G (setS M k) (poM avV (setS M k)) 46 [(0, .inr (k, 34)), (1, .inl (.int v1))] [] d (Mo_jobOver_46 n v1 d) := by
  intro n
  induction n with
  | zero => intros; exact z_none
  | succ n ih =>
    intro v1 d
    rw [Mo_jobOver_46]
    refine z_iload_n (pc := 46) hC 1 rfl 1 rfl dX6_jobOver_46 ?_
    refine z_bipush (pc := 47) hC (6 : Int32) rfl dX6_jobOver_47 ?_
    refine z_icmp_ge (pc := 49) hC 158 rfl dX6_jobOver_49 ?_ ?_
    · refine z_aload_n (pc := 158) hC 0 rfl 0 rfl dX6_jobOver_158 ?_
      refine z_sipush (pc := 159) hC (1944 : Int32) rfl dX6_jobOver_159 ?_
      refine z_aload_n (pc := 162) hC 0 rfl 0 rfl dX6_jobOver_162 ?_
      refine z_sipush (pc := 163) hC (1944 : Int32) rfl dX6_jobOver_163 ?_
      refine z_piV (pc := 166) (st := [.inl (.int (1944 : Int32)), .inr (k, 34)]) hC y_X6_of q1262 [.inl (.int (1944 : Int32))] rfl (hk 34 rfl) rfl rfl (c_X6_of hC.2.2.2.2.2.2.1 hk) rfl ⟨rfl, rfl, (Nat.le_of_ble_eq_true rfl), (Nat.le_of_ble_eq_true rfl)⟩ (Nat.le_of_ble_eq_true rfl) dX6_jobOver_166 (fun r1 => ?_)
      refine z_iconst (pc := 169) hC (1 : Int32) rfl dX6_jobOver_169 ?_
      refine z_isub (pc := 170) hC dX6_jobOver_170 ?_
      refine z_cvV (pc := 171) (st := []) hC y_X6_lay q1246 [.inl (.int (1944 : Int32)), .inl (.int (r1 - (1 : Int32)))] rfl (hk 34 rfl) rfl rfl (c_X6_lay hC.2.2.2.2.2.2.1 hk) rfl ⟨rfl, rfl, (Nat.le_of_ble_eq_true rfl), (Nat.le_of_ble_eq_true rfl)⟩ (Nat.le_of_ble_eq_true rfl) dX6_jobOver_171 (fun r2 d3 => ?_)
      exact z_vret (pc := 174) hC rfl dX6_jobOver_174
    · refine z_aload_n (pc := 52) hC 0 rfl 0 rfl dX6_jobOver_52 ?_
      refine z_sipush (pc := 53) hC (1950 : Int32) rfl dX6_jobOver_53 ?_
      refine z_iload_n (pc := 56) hC 1 rfl 1 rfl dX6_jobOver_56 ?_
      refine z_iadd (pc := 57) hC dX6_jobOver_57 ?_
      refine z_iconst (pc := 58) hC (1 : Int32) rfl dX6_jobOver_58 ?_
      refine z_isub (pc := 59) hC dX6_jobOver_59 ?_
      refine z_aload_n (pc := 60) hC 0 rfl 0 rfl dX6_jobOver_60 ?_
      refine z_sipush (pc := 61) hC (1950 : Int32) rfl dX6_jobOver_61 ?_
      refine z_iload_n (pc := 64) hC 1 rfl 1 rfl dX6_jobOver_64 ?_
      refine z_iadd (pc := 65) hC dX6_jobOver_65 ?_
      refine z_piV (pc := 66) (st := [.inl (.int (((1950 : Int32) + v1) - (1 : Int32))), .inr (k, 34)]) hC y_X6_of q1262 [.inl (.int ((1950 : Int32) + v1))] rfl (hk 34 rfl) rfl rfl (c_X6_of hC.2.2.2.2.2.2.1 hk) rfl ⟨rfl, rfl, (Nat.le_of_ble_eq_true rfl), (Nat.le_of_ble_eq_true rfl)⟩ (Nat.le_of_ble_eq_true rfl) dX6_jobOver_66 (fun r4 => ?_)
      refine z_cvV (pc := 69) (st := []) hC y_X6_lay q1246 [.inl (.int (((1950 : Int32) + v1) - (1 : Int32))), .inl (.int r4)] rfl (hk 34 rfl) rfl rfl (c_X6_lay hC.2.2.2.2.2.2.1 hk) rfl ⟨rfl, rfl, (Nat.le_of_ble_eq_true rfl), (Nat.le_of_ble_eq_true rfl)⟩ (Nat.le_of_ble_eq_true rfl) dX6_jobOver_69 (fun r5 d6 => ?_)
      refine z_aload_n (pc := 72) hC 0 rfl 0 rfl dX6_jobOver_72 ?_
      refine z_sipush (pc := 73) hC (1956 : Int32) rfl dX6_jobOver_73 ?_
      refine z_iload_n (pc := 76) hC 1 rfl 1 rfl dX6_jobOver_76 ?_
      refine z_iadd (pc := 77) hC dX6_jobOver_77 ?_
      refine z_iconst (pc := 78) hC (1 : Int32) rfl dX6_jobOver_78 ?_
      refine z_isub (pc := 79) hC dX6_jobOver_79 ?_
      refine z_aload_n (pc := 80) hC 0 rfl 0 rfl dX6_jobOver_80 ?_
      refine z_sipush (pc := 81) hC (1956 : Int32) rfl dX6_jobOver_81 ?_
      refine z_iload_n (pc := 84) hC 1 rfl 1 rfl dX6_jobOver_84 ?_
      refine z_iadd (pc := 85) hC dX6_jobOver_85 ?_
      refine z_piV (pc := 86) (st := [.inl (.int (((1956 : Int32) + v1) - (1 : Int32))), .inr (k, 34)]) hC y_X6_of q1262 [.inl (.int ((1956 : Int32) + v1))] rfl (hk 34 rfl) rfl rfl (c_X6_of hC.2.2.2.2.2.2.1 hk) rfl ⟨rfl, rfl, (Nat.le_of_ble_eq_true rfl), (Nat.le_of_ble_eq_true rfl)⟩ (Nat.le_of_ble_eq_true rfl) dX6_jobOver_86 (fun r7 => ?_)
      refine z_cvV (pc := 89) (st := []) hC y_X6_lay q1246 [.inl (.int (((1956 : Int32) + v1) - (1 : Int32))), .inl (.int r7)] rfl (hk 34 rfl) rfl rfl (c_X6_lay hC.2.2.2.2.2.2.1 hk) rfl ⟨rfl, rfl, (Nat.le_of_ble_eq_true rfl), (Nat.le_of_ble_eq_true rfl)⟩ (Nat.le_of_ble_eq_true rfl) dX6_jobOver_89 (fun r8 d9 => ?_)
      refine z_aload_n (pc := 92) hC 0 rfl 0 rfl dX6_jobOver_92 ?_
      refine z_sipush (pc := 93) hC (1962 : Int32) rfl dX6_jobOver_93 ?_
      refine z_iload_n (pc := 96) hC 1 rfl 1 rfl dX6_jobOver_96 ?_
      refine z_iadd (pc := 97) hC dX6_jobOver_97 ?_
      refine z_iconst (pc := 98) hC (1 : Int32) rfl dX6_jobOver_98 ?_
      refine z_isub (pc := 99) hC dX6_jobOver_99 ?_
      refine z_aload_n (pc := 100) hC 0 rfl 0 rfl dX6_jobOver_100 ?_
      refine z_sipush (pc := 101) hC (1962 : Int32) rfl dX6_jobOver_101 ?_
      refine z_iload_n (pc := 104) hC 1 rfl 1 rfl dX6_jobOver_104 ?_
      refine z_iadd (pc := 105) hC dX6_jobOver_105 ?_
      refine z_piV (pc := 106) (st := [.inl (.int (((1962 : Int32) + v1) - (1 : Int32))), .inr (k, 34)]) hC y_X6_of q1262 [.inl (.int ((1962 : Int32) + v1))] rfl (hk 34 rfl) rfl rfl (c_X6_of hC.2.2.2.2.2.2.1 hk) rfl ⟨rfl, rfl, (Nat.le_of_ble_eq_true rfl), (Nat.le_of_ble_eq_true rfl)⟩ (Nat.le_of_ble_eq_true rfl) dX6_jobOver_106 (fun r10 => ?_)
      refine z_cvV (pc := 109) (st := []) hC y_X6_lay q1246 [.inl (.int (((1962 : Int32) + v1) - (1 : Int32))), .inl (.int r10)] rfl (hk 34 rfl) rfl rfl (c_X6_lay hC.2.2.2.2.2.2.1 hk) rfl ⟨rfl, rfl, (Nat.le_of_ble_eq_true rfl), (Nat.le_of_ble_eq_true rfl)⟩ (Nat.le_of_ble_eq_true rfl) dX6_jobOver_109 (fun r11 d12 => ?_)
      refine z_aload_n (pc := 112) hC 0 rfl 0 rfl dX6_jobOver_112 ?_
      refine z_sipush (pc := 113) hC (1968 : Int32) rfl dX6_jobOver_113 ?_
      refine z_iload_n (pc := 116) hC 1 rfl 1 rfl dX6_jobOver_116 ?_
      refine z_iadd (pc := 117) hC dX6_jobOver_117 ?_
      refine z_iconst (pc := 118) hC (1 : Int32) rfl dX6_jobOver_118 ?_
      refine z_isub (pc := 119) hC dX6_jobOver_119 ?_
      refine z_aload_n (pc := 120) hC 0 rfl 0 rfl dX6_jobOver_120 ?_
      refine z_sipush (pc := 121) hC (1968 : Int32) rfl dX6_jobOver_121 ?_
      refine z_iload_n (pc := 124) hC 1 rfl 1 rfl dX6_jobOver_124 ?_
      refine z_iadd (pc := 125) hC dX6_jobOver_125 ?_
      refine z_piV (pc := 126) (st := [.inl (.int (((1968 : Int32) + v1) - (1 : Int32))), .inr (k, 34)]) hC y_X6_of q1262 [.inl (.int ((1968 : Int32) + v1))] rfl (hk 34 rfl) rfl rfl (c_X6_of hC.2.2.2.2.2.2.1 hk) rfl ⟨rfl, rfl, (Nat.le_of_ble_eq_true rfl), (Nat.le_of_ble_eq_true rfl)⟩ (Nat.le_of_ble_eq_true rfl) dX6_jobOver_126 (fun r13 => ?_)
      refine z_cvV (pc := 129) (st := []) hC y_X6_lay q1246 [.inl (.int (((1968 : Int32) + v1) - (1 : Int32))), .inl (.int r13)] rfl (hk 34 rfl) rfl rfl (c_X6_lay hC.2.2.2.2.2.2.1 hk) rfl ⟨rfl, rfl, (Nat.le_of_ble_eq_true rfl), (Nat.le_of_ble_eq_true rfl)⟩ (Nat.le_of_ble_eq_true rfl) dX6_jobOver_129 (fun r14 d15 => ?_)
      refine z_aload_n (pc := 132) hC 0 rfl 0 rfl dX6_jobOver_132 ?_
      refine z_sipush (pc := 133) hC (1974 : Int32) rfl dX6_jobOver_133 ?_
      refine z_iload_n (pc := 136) hC 1 rfl 1 rfl dX6_jobOver_136 ?_
      refine z_iadd (pc := 137) hC dX6_jobOver_137 ?_
      refine z_iconst (pc := 138) hC (1 : Int32) rfl dX6_jobOver_138 ?_
      refine z_isub (pc := 139) hC dX6_jobOver_139 ?_
      refine z_aload_n (pc := 140) hC 0 rfl 0 rfl dX6_jobOver_140 ?_
      refine z_sipush (pc := 141) hC (1974 : Int32) rfl dX6_jobOver_141 ?_
      refine z_iload_n (pc := 144) hC 1 rfl 1 rfl dX6_jobOver_144 ?_
      refine z_iadd (pc := 145) hC dX6_jobOver_145 ?_
      refine z_piV (pc := 146) (st := [.inl (.int (((1974 : Int32) + v1) - (1 : Int32))), .inr (k, 34)]) hC y_X6_of q1262 [.inl (.int ((1974 : Int32) + v1))] rfl (hk 34 rfl) rfl rfl (c_X6_of hC.2.2.2.2.2.2.1 hk) rfl ⟨rfl, rfl, (Nat.le_of_ble_eq_true rfl), (Nat.le_of_ble_eq_true rfl)⟩ (Nat.le_of_ble_eq_true rfl) dX6_jobOver_146 (fun r16 => ?_)
      refine z_cvV (pc := 149) (st := []) hC y_X6_lay q1246 [.inl (.int (((1974 : Int32) + v1) - (1 : Int32))), .inl (.int r16)] rfl (hk 34 rfl) rfl rfl (c_X6_lay hC.2.2.2.2.2.2.1 hk) rfl ⟨rfl, rfl, (Nat.le_of_ble_eq_true rfl), (Nat.le_of_ble_eq_true rfl)⟩ (Nat.le_of_ble_eq_true rfl) dX6_jobOver_149 (fun r17 d18 => ?_)
      refine z_iinc (pc := 152) (ls1 := fun v => [(1, .inl (.int v)), (0, .inr (k, 34))]) hC 1 1 (by decide) (1 : Int32) rfl rfl (fun v => rfl) dX6_jobOver_152 (fun v1_19 => ?_)
      refine z_goto (pc := 155) hC 46 rfl dX6_jobOver_155 ?_
      exact z_sub [1, 0] rfl (ih v1_19 d18)
theorem r_Mo_jobOver_38 {C : Cxt} {G : Geo} {M : Mem} {k : Nat} (hC : Cx C cX6_jobOver 2 "FrameHeirsModel" none rm_X6_jobOver G) (hk : LMo G k) (k2 : Int32 → Sl → Option (Unit × Sl)) (h2 : ∀ (v1 : Int32) (d : Sl), Rz C 2 G (setS M k) (poM avV (setS M k)) 2 [(0, .inr (k, 34)), (1, .inl (.int v1))] [] d (k2 v1 d)) (v1 : Int32) (d : Sl) : Rz C 2 G (setS M k) (poM avV (setS M k)) 38 [(0, .inr (k, 34)), (1, .inl (.int v1))] [] d (Mo_jobOver_38 k2 v1 d) := by
  unfold Mo_jobOver_38
  refine z_iinc (pc := 38) (ls1 := fun v => [(1, .inl (.int v)), (0, .inr (k, 34))]) hC 1 1 (by decide) (1 : Int32) rfl rfl (fun v => rfl) dX6_jobOver_38 (fun v1_20 => ?_)
  refine z_goto (pc := 41) hC 2 rfl dX6_jobOver_41 ?_
  exact z_sub [1, 0] rfl (h2 v1_20 d)
theorem r_Mo_jobOver_2 {C : Cxt} {G : Geo} {M : Mem} {k : Nat} (hC : Cx C cX6_jobOver 2 "FrameHeirsModel" none rm_X6_jobOver G) (hk : LMo G k) : ∀ (n : Nat) (v1 : Int32) (d : Sl), Rz C 2 G (setS M k) (poM avV (setS M k)) 2 [(0, .inr (k, 34)), (1, .inl (.int v1))] [] d (Mo_jobOver_2 n v1 d) := by
  intro n
  induction n with
  | zero => intros; exact z_none
  | succ n ih =>
    intro v1 d
    rw [Mo_jobOver_2]
    refine z_iload_n (pc := 2) hC 1 rfl 1 rfl dX6_jobOver_2 ?_
    refine z_sipush (pc := 3) hC (192 : Int32) rfl dX6_jobOver_3 ?_
    refine z_icmp_ge (pc := 6) hC 44 rfl dX6_jobOver_6 ?_ ?_
    · refine z_iconst (pc := 44) hC (1 : Int32) rfl dX6_jobOver_44 ?_
      refine z_istore_n (pc := 45) (ls1 := fun v => [(1, .inl (.int v)), (0, .inr (k, 34))]) hC 1 rfl (by decide) (fun v => rfl) dX6_jobOver_45 (fun v1_21 => ?_)
      exact z_sub [1, 0] rfl (r_Mo_jobOver_46 hC hk FU v1_21 d)
    · refine z_aload_n (pc := 9) hC 0 rfl 0 rfl dX6_jobOver_9 ?_
      refine z_sipush (pc := 10) hC (1728 : Int32) rfl dX6_jobOver_10 ?_
      refine z_iload_n (pc := 13) hC 1 rfl 1 rfl dX6_jobOver_13 ?_
      refine z_iadd (pc := 14) hC dX6_jobOver_14 ?_
      refine z_piV (pc := 15) (st := []) hC y_X6_of q1262 [.inl (.int ((1728 : Int32) + v1))] rfl (hk 34 rfl) rfl rfl (c_X6_of hC.2.2.2.2.2.2.1 hk) rfl ⟨rfl, rfl, (Nat.le_of_ble_eq_true rfl), (Nat.le_of_ble_eq_true rfl)⟩ (Nat.le_of_ble_eq_true rfl) dX6_jobOver_15 (fun r22 => ?_)
      refine z_aload_n (pc := 18) hC 0 rfl 0 rfl dX6_jobOver_18 ?_
      refine z_sipush (pc := 19) hC (1950 : Int32) rfl dX6_jobOver_19 ?_
      refine z_piV (pc := 22) (st := [.inl (.int r22)]) hC y_X6_of q1262 [.inl (.int (1950 : Int32))] rfl (hk 34 rfl) rfl rfl (c_X6_of hC.2.2.2.2.2.2.1 hk) rfl ⟨rfl, rfl, (Nat.le_of_ble_eq_true rfl), (Nat.le_of_ble_eq_true rfl)⟩ (Nat.le_of_ble_eq_true rfl) dX6_jobOver_22 (fun r23 => ?_)
      refine z_icmp_ne (pc := 25) hC 38 rfl dX6_jobOver_25 ?_ ?_
      · exact z_sub [0, 1] rfl (r_Mo_jobOver_38 hC hk _ ih v1 d)
      · refine z_aload_n (pc := 28) hC 0 rfl 0 rfl dX6_jobOver_28 ?_
        refine z_sipush (pc := 29) hC (1728 : Int32) rfl dX6_jobOver_29 ?_
        refine z_iload_n (pc := 32) hC 1 rfl 1 rfl dX6_jobOver_32 ?_
        refine z_iadd (pc := 33) hC dX6_jobOver_33 ?_
        refine z_iconst (pc := 34) hC (0 : Int32) rfl dX6_jobOver_34 ?_
        refine z_cvV (pc := 35) (st := []) hC y_X6_lay q1246 [.inl (.int ((1728 : Int32) + v1)), .inl (.int (0 : Int32))] rfl (hk 34 rfl) rfl rfl (c_X6_lay hC.2.2.2.2.2.2.1 hk) rfl ⟨rfl, rfl, (Nat.le_of_ble_eq_true rfl), (Nat.le_of_ble_eq_true rfl)⟩ (Nat.le_of_ble_eq_true rfl) dX6_jobOver_35 (fun r24 d25 => ?_)
        exact z_sub [0, 1] rfl (r_Mo_jobOver_38 hC hk _ ih v1 d25)
theorem r_Mo_jobOver {C : Cxt} {G : Geo} {M : Mem} {k : Nat} (hC : Cx C cX6_jobOver 2 "FrameHeirsModel" none rm_X6_jobOver G) (hk : LMo G k) (d : Sl) : Rz C 2 G (setS M k) (poM avV (setS M k)) 0 [(0, .inr (k, 34))] [] d (Mo_jobOver d) := by
  unfold Mo_jobOver
  refine z_iconst (pc := 0) hC (0 : Int32) rfl dX6_jobOver_0 ?_
  refine z_istore_n (pc := 1) (ls1 := fun v => [(1, .inl (.int v)), (0, .inr (k, 34))]) hC 1 rfl (by decide) (fun v => rfl) dX6_jobOver_1 (fun v1_26 => ?_)
  exact z_sub [1, 0] rfl (r_Mo_jobOver_2 hC hk FU v1_26 d)
theorem c_X6_jobOver {G : Geo} {M : Mem} {k : Nat} (hG : GOk G) (hk : LMo G k) {d : Sl} (l : Launch) (r : Unit) (d1 : Sl) (h : Mo_jobOver d = some (r, d1)) : Mt l yX6_jobOver cX6_jobOver 2 none rm_X6_jobOver G [.inr (k, 34)] ((setS M k) d) (avV r) ((setS M k) d1) :=
  mt_of (mem := (setS M k)) (po := poM avV (setS M k)) (x0 := d) (t := (r, d1)) rfl hG [.inr (k, 34)] (Nat.le_of_ble_eq_true rfl) rfl (fun C hC => r_Mo_jobOver hC hk d) h
-- FrameHeirsModel.isWorking()Z
abbrev rm_X6_isWorking : Room := { frames := 4, cells := 0, slots := 0, locals := 88 }
theorem dX6_isWorking_0 : decode cX6_isWorking 0 = .ok (.aload_n 0, 1) := by decide +kernel
theorem dX6_isWorking_1 : decode cX6_isWorking 1 = .ok (.sipush 1944, 3) := by decide +kernel
theorem dX6_isWorking_4 : decode cX6_isWorking 4 = .ok (.invokevirtual 189, 3) := by decide +kernel
theorem dX6_isWorking_7 : decode cX6_isWorking 7 = .ok (.ifCond .ne 5, 3) := by decide +kernel
theorem dX6_isWorking_10 : decode cX6_isWorking 10 = .ok (.iconst 0, 1) := by decide +kernel
theorem dX6_isWorking_11 : decode cX6_isWorking 11 = .ok (.ireturn, 1) := by decide +kernel
theorem dX6_isWorking_12 : decode cX6_isWorking 12 = .ok (.aload_n 0, 1) := by decide +kernel
theorem dX6_isWorking_13 : decode cX6_isWorking 13 = .ok (.sipush 1980, 3) := by decide +kernel
theorem dX6_isWorking_16 : decode cX6_isWorking 16 = .ok (.invokevirtual 189, 3) := by decide +kernel
theorem dX6_isWorking_19 : decode cX6_isWorking 19 = .ok (.istore_n 1, 1) := by decide +kernel
theorem dX6_isWorking_20 : decode cX6_isWorking 20 = .ok (.aload_n 0, 1) := by decide +kernel
theorem dX6_isWorking_21 : decode cX6_isWorking 21 = .ok (.invokevirtual 312, 3) := by decide +kernel
theorem dX6_isWorking_24 : decode cX6_isWorking 24 = .ok (.istore_n 2, 1) := by decide +kernel
theorem dX6_isWorking_25 : decode cX6_isWorking 25 = .ok (.iconst 1, 1) := by decide +kernel
theorem dX6_isWorking_26 : decode cX6_isWorking 26 = .ok (.istore_n 3, 1) := by decide +kernel
theorem dX6_isWorking_27 : decode cX6_isWorking 27 = .ok (.iload_n 3, 1) := by decide +kernel
theorem dX6_isWorking_28 : decode cX6_isWorking 28 = .ok (.iload_n 2, 1) := by decide +kernel
theorem dX6_isWorking_29 : decode cX6_isWorking 29 = .ok (.if_icmp .ge 29, 3) := by decide +kernel
theorem dX6_isWorking_32 : decode cX6_isWorking 32 = .ok (.aload_n 0, 1) := by decide +kernel
theorem dX6_isWorking_33 : decode cX6_isWorking 33 = .ok (.sipush 1980, 3) := by decide +kernel
theorem dX6_isWorking_36 : decode cX6_isWorking 36 = .ok (.iload_n 3, 1) := by decide +kernel
theorem dX6_isWorking_37 : decode cX6_isWorking 37 = .ok (.iadd, 1) := by decide +kernel
theorem dX6_isWorking_38 : decode cX6_isWorking 38 = .ok (.iconst 1, 1) := by decide +kernel
theorem dX6_isWorking_39 : decode cX6_isWorking 39 = .ok (.isub, 1) := by decide +kernel
theorem dX6_isWorking_40 : decode cX6_isWorking 40 = .ok (.aload_n 0, 1) := by decide +kernel
theorem dX6_isWorking_41 : decode cX6_isWorking 41 = .ok (.sipush 1980, 3) := by decide +kernel
theorem dX6_isWorking_44 : decode cX6_isWorking 44 = .ok (.iload_n 3, 1) := by decide +kernel
theorem dX6_isWorking_45 : decode cX6_isWorking 45 = .ok (.iadd, 1) := by decide +kernel
theorem dX6_isWorking_46 : decode cX6_isWorking 46 = .ok (.invokevirtual 189, 3) := by decide +kernel
theorem dX6_isWorking_49 : decode cX6_isWorking 49 = .ok (.invokevirtual 122, 3) := by decide +kernel
theorem dX6_isWorking_52 : decode cX6_isWorking 52 = .ok (.iinc 3 1, 3) := by decide +kernel
theorem dX6_isWorking_55 : decode cX6_isWorking 55 = .ok (.goto (-28), 3) := by decide +kernel
theorem dX6_isWorking_58 : decode cX6_isWorking 58 = .ok (.aload_n 0, 1) := by decide +kernel
theorem dX6_isWorking_59 : decode cX6_isWorking 59 = .ok (.sipush 1974, 3) := by decide +kernel
theorem dX6_isWorking_62 : decode cX6_isWorking 62 = .ok (.aload_n 0, 1) := by decide +kernel
theorem dX6_isWorking_63 : decode cX6_isWorking 63 = .ok (.sipush 1974, 3) := by decide +kernel
theorem dX6_isWorking_66 : decode cX6_isWorking 66 = .ok (.invokevirtual 189, 3) := by decide +kernel
theorem dX6_isWorking_69 : decode cX6_isWorking 69 = .ok (.iconst 1, 1) := by decide +kernel
theorem dX6_isWorking_70 : decode cX6_isWorking 70 = .ok (.isub, 1) := by decide +kernel
theorem dX6_isWorking_71 : decode cX6_isWorking 71 = .ok (.invokevirtual 122, 3) := by decide +kernel
theorem dX6_isWorking_74 : decode cX6_isWorking 74 = .ok (.aload_n 0, 1) := by decide +kernel
theorem dX6_isWorking_75 : decode cX6_isWorking 75 = .ok (.sipush 384, 3) := by decide +kernel
theorem dX6_isWorking_78 : decode cX6_isWorking 78 = .ok (.iload_n 1, 1) := by decide +kernel
theorem dX6_isWorking_79 : decode cX6_isWorking 79 = .ok (.iadd, 1) := by decide +kernel
theorem dX6_isWorking_80 : decode cX6_isWorking 80 = .ok (.aload_n 0, 1) := by decide +kernel
theorem dX6_isWorking_81 : decode cX6_isWorking 81 = .ok (.sipush 384, 3) := by decide +kernel
theorem dX6_isWorking_84 : decode cX6_isWorking 84 = .ok (.iload_n 1, 1) := by decide +kernel
theorem dX6_isWorking_85 : decode cX6_isWorking 85 = .ok (.iadd, 1) := by decide +kernel
theorem dX6_isWorking_86 : decode cX6_isWorking 86 = .ok (.invokevirtual 189, 3) := by decide +kernel
theorem dX6_isWorking_89 : decode cX6_isWorking 89 = .ok (.aload_n 0, 1) := by decide +kernel
theorem dX6_isWorking_90 : decode cX6_isWorking 90 = .ok (.sipush 1968, 3) := by decide +kernel
theorem dX6_isWorking_93 : decode cX6_isWorking 93 = .ok (.invokevirtual 189, 3) := by decide +kernel
theorem dX6_isWorking_96 : decode cX6_isWorking 96 = .ok (.iconst (-1), 1) := by decide +kernel
theorem dX6_isWorking_97 : decode cX6_isWorking 97 = .ok (.ixor, 1) := by decide +kernel
theorem dX6_isWorking_98 : decode cX6_isWorking 98 = .ok (.iand, 1) := by decide +kernel
theorem dX6_isWorking_99 : decode cX6_isWorking 99 = .ok (.invokevirtual 122, 3) := by decide +kernel
theorem dX6_isWorking_102 : decode cX6_isWorking 102 = .ok (.aload_n 0, 1) := by decide +kernel
theorem dX6_isWorking_103 : decode cX6_isWorking 103 = .ok (.sipush 384, 3) := by decide +kernel
theorem dX6_isWorking_106 : decode cX6_isWorking 106 = .ok (.iload_n 1, 1) := by decide +kernel
theorem dX6_isWorking_107 : decode cX6_isWorking 107 = .ok (.iadd, 1) := by decide +kernel
theorem dX6_isWorking_108 : decode cX6_isWorking 108 = .ok (.invokevirtual 189, 3) := by decide +kernel
theorem dX6_isWorking_111 : decode cX6_isWorking 111 = .ok (.ifCond .ne 8, 3) := by decide +kernel
theorem dX6_isWorking_114 : decode cX6_isWorking 114 = .ok (.aload_n 0, 1) := by decide +kernel
theorem dX6_isWorking_115 : decode cX6_isWorking 115 = .ok (.iload_n 1, 1) := by decide +kernel
theorem dX6_isWorking_116 : decode cX6_isWorking 116 = .ok (.invokevirtual 323, 3) := by decide +kernel
theorem dX6_isWorking_119 : decode cX6_isWorking 119 = .ok (.aload_n 0, 1) := by decide +kernel
theorem dX6_isWorking_120 : decode cX6_isWorking 120 = .ok (.sipush 2201, 3) := by decide +kernel
theorem dX6_isWorking_123 : decode cX6_isWorking 123 = .ok (.invokevirtual 240, 3) := by decide +kernel
theorem dX6_isWorking_126 : decode cX6_isWorking 126 = .ok (.aload_n 0, 1) := by decide +kernel
theorem dX6_isWorking_127 : decode cX6_isWorking 127 = .ok (.sipush 1974, 3) := by decide +kernel
theorem dX6_isWorking_130 : decode cX6_isWorking 130 = .ok (.invokevirtual 189, 3) := by decide +kernel
theorem dX6_isWorking_133 : decode cX6_isWorking 133 = .ok (.ifCond .ne 7, 3) := by decide +kernel
theorem dX6_isWorking_136 : decode cX6_isWorking 136 = .ok (.aload_n 0, 1) := by decide +kernel
theorem dX6_isWorking_137 : decode cX6_isWorking 137 = .ok (.invokevirtual 326, 3) := by decide +kernel
theorem dX6_isWorking_140 : decode cX6_isWorking 140 = .ok (.iconst 1, 1) := by decide +kernel
theorem dX6_isWorking_141 : decode cX6_isWorking 141 = .ok (.ireturn, 1) := by decide +kernel
def Mo_isWorking_119 (d : Sl) : Option (Int32 × Sl) :=
  bd (Mo_more d (2201 : Int32)) fun r1 d2 =>
  bp (Mo_of d2 (1974 : Int32)) fun r3 =>
  if r3 = 0 then
    (bd (Mo_jobOver d2) fun r4 d5 =>
    some ((1 : Int32), d5))
  else
    (some ((1 : Int32), d2))
def Mo_isWorking_27 : Nat → Int32 → Int32 → Int32 → Sl → Option (Int32 × Sl)
  | 0, _, _, _, _ => none
  | n + 1, v1, v2, v3, d =>
    if v2 ≤ v3 then
      (bp (Mo_of d (1974 : Int32)) fun r6 =>
      bd (Mo_lay d (1974 : Int32) (r6 - (1 : Int32))) fun r7 d8 =>
      bp (Mo_of d8 ((384 : Int32) + v1)) fun r9 =>
      bp (Mo_of d8 (1968 : Int32)) fun r10 =>
      bd (Mo_lay d8 ((384 : Int32) + v1) (r9 &&& (r10 ^^^ (-1 : Int32)))) fun r11 d12 =>
      bp (Mo_of d12 ((384 : Int32) + v1)) fun r13 =>
      if r13 = 0 then
        (bd (Mo_goes d12 v1) fun r14 d15 =>
        Mo_isWorking_119 d15)
      else
        (Mo_isWorking_119 d12))
    else
      (bp (Mo_of d ((1980 : Int32) + v3)) fun r16 =>
      bd (Mo_lay d (((1980 : Int32) + v3) - (1 : Int32)) r16) fun r17 d18 =>
      bnd (v3 + (1 : Int32)) fun v3_19 =>
      Mo_isWorking_27 n v1 v2 v3_19 d18)
def Mo_isWorking (d : Sl) : Option (Int32 × Sl) :=
  bp (Mo_of d (1944 : Int32)) fun r20 =>
  if r20 = 0 then
    (some ((0 : Int32), d))
  else
    (bp (Mo_of d (1980 : Int32)) fun r21 =>
    bnd r21 fun v1_22 =>
    bp (Mo_pendingMany d) fun r23 =>
    bnd r23 fun v2_24 =>
    bnd (1 : Int32) fun v3_25 =>
    Mo_isWorking_27 FU v1_22 v2_24 v3_25 d)
theorem y_X6_isWorking : YV yX6_isWorking cX6_isWorking 4 (some .boolean) 0 := ⟨q1634, q104, q1635, q149, by decide +kernel, by decide +kernel, by decide +kernel, by decide +kernel⟩
theorem r_Mo_isWorking_119 {C : Cxt} {G : Geo} {M : Mem} {k : Nat} (hC : Cx C cX6_isWorking 4 "FrameHeirsModel" (some .boolean) rm_X6_isWorking G) (hk : LMo G k) (d : Sl) : Rz C 4 G (setS M k) (poM avI (setS M k)) 119 [(0, .inr (k, 34))] [] d (Mo_isWorking_119 d) := by
  unfold Mo_isWorking_119
  refine z_aload_n (pc := 119) hC 0 rfl 0 rfl dX6_isWorking_119 ?_
  refine z_sipush (pc := 120) hC (2201 : Int32) rfl dX6_isWorking_120 ?_
  refine z_cvV (pc := 123) (st := []) hC y_X6_more q1596 [.inl (.int (2201 : Int32))] rfl (hk 34 rfl) rfl rfl (c_X6_more hC.2.2.2.2.2.2.1 hk) rfl ⟨rfl, rfl, (Nat.le_of_ble_eq_true rfl), (Nat.le_of_ble_eq_true rfl)⟩ (Nat.le_of_ble_eq_true rfl) dX6_isWorking_123 (fun r1 d2 => ?_)
  refine z_aload_n (pc := 126) hC 0 rfl 0 rfl dX6_isWorking_126 ?_
  refine z_sipush (pc := 127) hC (1974 : Int32) rfl dX6_isWorking_127 ?_
  refine z_piV (pc := 130) (st := []) hC y_X6_of q1262 [.inl (.int (1974 : Int32))] rfl (hk 34 rfl) rfl rfl (c_X6_of hC.2.2.2.2.2.2.1 hk) rfl ⟨rfl, rfl, (Nat.le_of_ble_eq_true rfl), (Nat.le_of_ble_eq_true rfl)⟩ (Nat.le_of_ble_eq_true rfl) dX6_isWorking_130 (fun r3 => ?_)
  refine z_if_ne (pc := 133) hC 140 rfl dX6_isWorking_133 ?_ ?_
  · refine z_iconst (pc := 140) hC (1 : Int32) rfl dX6_isWorking_140 ?_
    exact z_zret (pc := 141) hC rfl rfl dX6_isWorking_141
  · refine z_aload_n (pc := 136) hC 0 rfl 0 rfl dX6_isWorking_136 ?_
    refine z_cvV (pc := 137) (st := []) hC y_X6_jobOver q1648 [] rfl (hk 34 rfl) rfl rfl (c_X6_jobOver hC.2.2.2.2.2.2.1 hk) rfl ⟨rfl, rfl, (Nat.le_of_ble_eq_true rfl), (Nat.le_of_ble_eq_true rfl)⟩ (Nat.le_of_ble_eq_true rfl) dX6_isWorking_137 (fun r4 d5 => ?_)
    refine z_iconst (pc := 140) hC (1 : Int32) rfl dX6_isWorking_140 ?_
    exact z_zret (pc := 141) hC rfl rfl dX6_isWorking_141
theorem r_Mo_isWorking_27 {C : Cxt} {G : Geo} {M : Mem} {k : Nat} (hC : Cx C cX6_isWorking 4 "FrameHeirsModel" (some .boolean) rm_X6_isWorking G) (hk : LMo G k) : ∀ (n : Nat) (v1 : Int32) (v2 : Int32) (v3 : Int32) (d : Sl), Rz C 4 G (setS M k) (poM avI (setS M k)) 27 [(0, .inr (k, 34)), (1, .inl (.int v1)), (2, .inl (.int v2)), (3, .inl (.int v3))] [] d (Mo_isWorking_27 n v1 v2 v3 d) := by
  intro n
  induction n with
  | zero => intros; exact z_none
  | succ n ih =>
    intro v1 v2 v3 d
    rw [Mo_isWorking_27]
    refine z_iload_n (pc := 27) hC 3 rfl 3 rfl dX6_isWorking_27 ?_
    refine z_iload_n (pc := 28) hC 2 rfl 2 rfl dX6_isWorking_28 ?_
    refine z_icmp_ge (pc := 29) hC 58 rfl dX6_isWorking_29 ?_ ?_
    · refine z_aload_n (pc := 58) hC 0 rfl 0 rfl dX6_isWorking_58 ?_
      refine z_sipush (pc := 59) hC (1974 : Int32) rfl dX6_isWorking_59 ?_
      refine z_aload_n (pc := 62) hC 0 rfl 0 rfl dX6_isWorking_62 ?_
      refine z_sipush (pc := 63) hC (1974 : Int32) rfl dX6_isWorking_63 ?_
      refine z_piV (pc := 66) (st := [.inl (.int (1974 : Int32)), .inr (k, 34)]) hC y_X6_of q1262 [.inl (.int (1974 : Int32))] rfl (hk 34 rfl) rfl rfl (c_X6_of hC.2.2.2.2.2.2.1 hk) rfl ⟨rfl, rfl, (Nat.le_of_ble_eq_true rfl), (Nat.le_of_ble_eq_true rfl)⟩ (Nat.le_of_ble_eq_true rfl) dX6_isWorking_66 (fun r6 => ?_)
      refine z_iconst (pc := 69) hC (1 : Int32) rfl dX6_isWorking_69 ?_
      refine z_isub (pc := 70) hC dX6_isWorking_70 ?_
      refine z_cvV (pc := 71) (st := []) hC y_X6_lay q1246 [.inl (.int (1974 : Int32)), .inl (.int (r6 - (1 : Int32)))] rfl (hk 34 rfl) rfl rfl (c_X6_lay hC.2.2.2.2.2.2.1 hk) rfl ⟨rfl, rfl, (Nat.le_of_ble_eq_true rfl), (Nat.le_of_ble_eq_true rfl)⟩ (Nat.le_of_ble_eq_true rfl) dX6_isWorking_71 (fun r7 d8 => ?_)
      refine z_aload_n (pc := 74) hC 0 rfl 0 rfl dX6_isWorking_74 ?_
      refine z_sipush (pc := 75) hC (384 : Int32) rfl dX6_isWorking_75 ?_
      refine z_iload_n (pc := 78) hC 1 rfl 1 rfl dX6_isWorking_78 ?_
      refine z_iadd (pc := 79) hC dX6_isWorking_79 ?_
      refine z_aload_n (pc := 80) hC 0 rfl 0 rfl dX6_isWorking_80 ?_
      refine z_sipush (pc := 81) hC (384 : Int32) rfl dX6_isWorking_81 ?_
      refine z_iload_n (pc := 84) hC 1 rfl 1 rfl dX6_isWorking_84 ?_
      refine z_iadd (pc := 85) hC dX6_isWorking_85 ?_
      refine z_piV (pc := 86) (st := [.inl (.int ((384 : Int32) + v1)), .inr (k, 34)]) hC y_X6_of q1262 [.inl (.int ((384 : Int32) + v1))] rfl (hk 34 rfl) rfl rfl (c_X6_of hC.2.2.2.2.2.2.1 hk) rfl ⟨rfl, rfl, (Nat.le_of_ble_eq_true rfl), (Nat.le_of_ble_eq_true rfl)⟩ (Nat.le_of_ble_eq_true rfl) dX6_isWorking_86 (fun r9 => ?_)
      refine z_aload_n (pc := 89) hC 0 rfl 0 rfl dX6_isWorking_89 ?_
      refine z_sipush (pc := 90) hC (1968 : Int32) rfl dX6_isWorking_90 ?_
      refine z_piV (pc := 93) (st := [.inl (.int r9), .inl (.int ((384 : Int32) + v1)), .inr (k, 34)]) hC y_X6_of q1262 [.inl (.int (1968 : Int32))] rfl (hk 34 rfl) rfl rfl (c_X6_of hC.2.2.2.2.2.2.1 hk) rfl ⟨rfl, rfl, (Nat.le_of_ble_eq_true rfl), (Nat.le_of_ble_eq_true rfl)⟩ (Nat.le_of_ble_eq_true rfl) dX6_isWorking_93 (fun r10 => ?_)
      refine z_iconst (pc := 96) hC (-1 : Int32) rfl dX6_isWorking_96 ?_
      refine z_ixor (pc := 97) hC dX6_isWorking_97 ?_
      refine z_iand (pc := 98) hC dX6_isWorking_98 ?_
      refine z_cvV (pc := 99) (st := []) hC y_X6_lay q1246 [.inl (.int ((384 : Int32) + v1)), .inl (.int (r9 &&& (r10 ^^^ (-1 : Int32))))] rfl (hk 34 rfl) rfl rfl (c_X6_lay hC.2.2.2.2.2.2.1 hk) rfl ⟨rfl, rfl, (Nat.le_of_ble_eq_true rfl), (Nat.le_of_ble_eq_true rfl)⟩ (Nat.le_of_ble_eq_true rfl) dX6_isWorking_99 (fun r11 d12 => ?_)
      refine z_aload_n (pc := 102) hC 0 rfl 0 rfl dX6_isWorking_102 ?_
      refine z_sipush (pc := 103) hC (384 : Int32) rfl dX6_isWorking_103 ?_
      refine z_iload_n (pc := 106) hC 1 rfl 1 rfl dX6_isWorking_106 ?_
      refine z_iadd (pc := 107) hC dX6_isWorking_107 ?_
      refine z_piV (pc := 108) (st := []) hC y_X6_of q1262 [.inl (.int ((384 : Int32) + v1))] rfl (hk 34 rfl) rfl rfl (c_X6_of hC.2.2.2.2.2.2.1 hk) rfl ⟨rfl, rfl, (Nat.le_of_ble_eq_true rfl), (Nat.le_of_ble_eq_true rfl)⟩ (Nat.le_of_ble_eq_true rfl) dX6_isWorking_108 (fun r13 => ?_)
      refine z_if_ne (pc := 111) hC 119 rfl dX6_isWorking_111 ?_ ?_
      · exact z_sub [0] rfl (r_Mo_isWorking_119 hC hk d12)
      · refine z_aload_n (pc := 114) hC 0 rfl 0 rfl dX6_isWorking_114 ?_
        refine z_iload_n (pc := 115) hC 1 rfl 1 rfl dX6_isWorking_115 ?_
        refine z_cvV (pc := 116) (st := []) hC y_X6_goes q1636 [.inl (.int v1)] rfl (hk 34 rfl) rfl rfl (c_X6_goes hC.2.2.2.2.2.2.1 hk) rfl ⟨rfl, rfl, (Nat.le_of_ble_eq_true rfl), (Nat.le_of_ble_eq_true rfl)⟩ (Nat.le_of_ble_eq_true rfl) dX6_isWorking_116 (fun r14 d15 => ?_)
        exact z_sub [0] rfl (r_Mo_isWorking_119 hC hk d15)
    · refine z_aload_n (pc := 32) hC 0 rfl 0 rfl dX6_isWorking_32 ?_
      refine z_sipush (pc := 33) hC (1980 : Int32) rfl dX6_isWorking_33 ?_
      refine z_iload_n (pc := 36) hC 3 rfl 3 rfl dX6_isWorking_36 ?_
      refine z_iadd (pc := 37) hC dX6_isWorking_37 ?_
      refine z_iconst (pc := 38) hC (1 : Int32) rfl dX6_isWorking_38 ?_
      refine z_isub (pc := 39) hC dX6_isWorking_39 ?_
      refine z_aload_n (pc := 40) hC 0 rfl 0 rfl dX6_isWorking_40 ?_
      refine z_sipush (pc := 41) hC (1980 : Int32) rfl dX6_isWorking_41 ?_
      refine z_iload_n (pc := 44) hC 3 rfl 3 rfl dX6_isWorking_44 ?_
      refine z_iadd (pc := 45) hC dX6_isWorking_45 ?_
      refine z_piV (pc := 46) (st := [.inl (.int (((1980 : Int32) + v3) - (1 : Int32))), .inr (k, 34)]) hC y_X6_of q1262 [.inl (.int ((1980 : Int32) + v3))] rfl (hk 34 rfl) rfl rfl (c_X6_of hC.2.2.2.2.2.2.1 hk) rfl ⟨rfl, rfl, (Nat.le_of_ble_eq_true rfl), (Nat.le_of_ble_eq_true rfl)⟩ (Nat.le_of_ble_eq_true rfl) dX6_isWorking_46 (fun r16 => ?_)
      refine z_cvV (pc := 49) (st := []) hC y_X6_lay q1246 [.inl (.int (((1980 : Int32) + v3) - (1 : Int32))), .inl (.int r16)] rfl (hk 34 rfl) rfl rfl (c_X6_lay hC.2.2.2.2.2.2.1 hk) rfl ⟨rfl, rfl, (Nat.le_of_ble_eq_true rfl), (Nat.le_of_ble_eq_true rfl)⟩ (Nat.le_of_ble_eq_true rfl) dX6_isWorking_49 (fun r17 d18 => ?_)
      refine z_iinc (pc := 52) (ls1 := fun v => [(3, .inl (.int v)), (0, .inr (k, 34)), (1, .inl (.int v1)), (2, .inl (.int v2))]) hC 3 3 (by decide) (1 : Int32) rfl rfl (fun v => rfl) dX6_isWorking_52 (fun v3_19 => ?_)
      refine z_goto (pc := 55) hC 27 rfl dX6_isWorking_55 ?_
      exact z_sub [1, 2, 3, 0] rfl (ih v1 v2 v3_19 d18)
theorem r_Mo_isWorking {C : Cxt} {G : Geo} {M : Mem} {k : Nat} (hC : Cx C cX6_isWorking 4 "FrameHeirsModel" (some .boolean) rm_X6_isWorking G) (hk : LMo G k) (d : Sl) : Rz C 4 G (setS M k) (poM avI (setS M k)) 0 [(0, .inr (k, 34))] [] d (Mo_isWorking d) := by
  unfold Mo_isWorking
  refine z_aload_n (pc := 0) hC 0 rfl 0 rfl dX6_isWorking_0 ?_
  refine z_sipush (pc := 1) hC (1944 : Int32) rfl dX6_isWorking_1 ?_
  refine z_piV (pc := 4) (st := []) hC y_X6_of q1262 [.inl (.int (1944 : Int32))] rfl (hk 34 rfl) rfl rfl (c_X6_of hC.2.2.2.2.2.2.1 hk) rfl ⟨rfl, rfl, (Nat.le_of_ble_eq_true rfl), (Nat.le_of_ble_eq_true rfl)⟩ (Nat.le_of_ble_eq_true rfl) dX6_isWorking_4 (fun r20 => ?_)
  refine z_if_ne (pc := 7) hC 12 rfl dX6_isWorking_7 ?_ ?_
  · refine z_aload_n (pc := 12) hC 0 rfl 0 rfl dX6_isWorking_12 ?_
    refine z_sipush (pc := 13) hC (1980 : Int32) rfl dX6_isWorking_13 ?_
    refine z_piV (pc := 16) (st := []) hC y_X6_of q1262 [.inl (.int (1980 : Int32))] rfl (hk 34 rfl) rfl rfl (c_X6_of hC.2.2.2.2.2.2.1 hk) rfl ⟨rfl, rfl, (Nat.le_of_ble_eq_true rfl), (Nat.le_of_ble_eq_true rfl)⟩ (Nat.le_of_ble_eq_true rfl) dX6_isWorking_16 (fun r21 => ?_)
    refine z_istore_n (pc := 19) (ls1 := fun v => [(1, .inl (.int v)), (0, .inr (k, 34))]) hC 1 rfl (by decide) (fun v => rfl) dX6_isWorking_19 (fun v1_22 => ?_)
    refine z_aload_n (pc := 20) hC 0 rfl 1 rfl dX6_isWorking_20 ?_
    refine z_piV (pc := 21) (st := []) hC y_X6_pendingMany q1612 [] rfl (hk 34 rfl) rfl rfl (c_X6_pendingMany hC.2.2.2.2.2.2.1 hk) rfl ⟨rfl, rfl, (Nat.le_of_ble_eq_true rfl), (Nat.le_of_ble_eq_true rfl)⟩ (Nat.le_of_ble_eq_true rfl) dX6_isWorking_21 (fun r23 => ?_)
    refine z_istore_n (pc := 24) (ls1 := fun v => [(2, .inl (.int v)), (1, .inl (.int v1_22)), (0, .inr (k, 34))]) hC 2 rfl (by decide) (fun v => rfl) dX6_isWorking_24 (fun v2_24 => ?_)
    refine z_iconst (pc := 25) hC (1 : Int32) rfl dX6_isWorking_25 ?_
    refine z_istore_n (pc := 26) (ls1 := fun v => [(3, .inl (.int v)), (2, .inl (.int v2_24)), (1, .inl (.int v1_22)), (0, .inr (k, 34))]) hC 3 rfl (by decide) (fun v => rfl) dX6_isWorking_26 (fun v3_25 => ?_)
    exact z_sub [3, 2, 1, 0] rfl (r_Mo_isWorking_27 hC hk FU v1_22 v2_24 v3_25 d)
  · refine z_iconst (pc := 10) hC (0 : Int32) rfl dX6_isWorking_10 ?_
    exact z_zret (pc := 11) hC rfl rfl dX6_isWorking_11
theorem c_X6_isWorking {G : Geo} {M : Mem} {k : Nat} (hG : GOk G) (hk : LMo G k) {d : Sl} (l : Launch) (r : Int32) (d1 : Sl) (h : Mo_isWorking d = some (r, d1)) : Mt l yX6_isWorking cX6_isWorking 4 (some .boolean) rm_X6_isWorking G [.inr (k, 34)] ((setS M k) d) (avI r) ((setS M k) d1) :=
  mt_of (mem := (setS M k)) (po := poM avI (setS M k)) (x0 := d) (t := (r, d1)) rfl hG [.inr (k, 34)] (Nat.le_of_ble_eq_true rfl) rfl (fun C hC => r_Mo_isWorking hC hk d) h
-- FrameHeirsModel.worked(I)I
abbrev rm_X6_worked : Room := { frames := 5, cells := 0, slots := 0, locals := 111 }
theorem dX6_worked_0 : decode cX6_worked 0 = .ok (.iconst 0, 1) := by decide +kernel
theorem dX6_worked_1 : decode cX6_worked 1 = .ok (.istore_n 2, 1) := by decide +kernel
theorem dX6_worked_2 : decode cX6_worked 2 = .ok (.iload_n 2, 1) := by decide +kernel
theorem dX6_worked_3 : decode cX6_worked 3 = .ok (.iload_n 1, 1) := by decide +kernel
theorem dX6_worked_4 : decode cX6_worked 4 = .ok (.if_icmp .ge 16, 3) := by decide +kernel
theorem dX6_worked_7 : decode cX6_worked 7 = .ok (.aload_n 0, 1) := by decide +kernel
theorem dX6_worked_8 : decode cX6_worked 8 = .ok (.invokevirtual 329, 3) := by decide +kernel
theorem dX6_worked_11 : decode cX6_worked 11 = .ok (.ifCond .eq 9, 3) := by decide +kernel
theorem dX6_worked_14 : decode cX6_worked 14 = .ok (.iinc 2 1, 3) := by decide +kernel
theorem dX6_worked_17 : decode cX6_worked 17 = .ok (.goto (-15), 3) := by decide +kernel
theorem dX6_worked_20 : decode cX6_worked 20 = .ok (.iload_n 2, 1) := by decide +kernel
theorem dX6_worked_21 : decode cX6_worked 21 = .ok (.ireturn, 1) := by decide +kernel
def Mo_worked_2 : Nat → Int32 → Int32 → Sl → Option (Int32 × Sl)
  | 0, _, _, _ => none
  | n + 1, v1, v2, d =>
    if v1 ≤ v2 then
      (some (v2, d))
    else
      (bd (Mo_isWorking d) fun r1 d2 =>
      if r1 = 0 then
        (some (v2, d2))
      else
        (bnd (v2 + (1 : Int32)) fun v2_3 =>
        Mo_worked_2 n v1 v2_3 d2))
def Mo_worked (d : Sl) (a1 : Int32) : Option (Int32 × Sl) :=
  bnd (0 : Int32) fun v2_4 =>
  Mo_worked_2 FU a1 v2_4 d
theorem y_X6_worked : YV yX6_worked cX6_worked 3 (some .int) 1 := ⟨q1630, q103, q1631, q149, by decide +kernel, by decide +kernel, by decide +kernel, by decide +kernel⟩
theorem r_Mo_worked_2 {C : Cxt} {G : Geo} {M : Mem} {k : Nat} (hC : Cx C cX6_worked 3 "FrameHeirsModel" (some .int) rm_X6_worked G) (hk : LMo G k) : ∀ (n : Nat) (v1 : Int32) (v2 : Int32) (d : Sl), Rz C 3 G (setS M k) (poM avI (setS M k)) 2 [(0, .inr (k, 34)), (1, .inl (.int v1)), (2, .inl (.int v2))] [] d (Mo_worked_2 n v1 v2 d) := by
  intro n
  induction n with
  | zero => intros; exact z_none
  | succ n ih =>
    intro v1 v2 d
    rw [Mo_worked_2]
    refine z_iload_n (pc := 2) hC 2 rfl 2 rfl dX6_worked_2 ?_
    refine z_iload_n (pc := 3) hC 1 rfl 1 rfl dX6_worked_3 ?_
    refine z_icmp_ge (pc := 4) hC 20 rfl dX6_worked_4 ?_ ?_
    · refine z_iload_n (pc := 20) hC 2 rfl 2 rfl dX6_worked_20 ?_
      exact z_iret (pc := 21) hC rfl dX6_worked_21
    · refine z_aload_n (pc := 7) hC 0 rfl 0 rfl dX6_worked_7 ?_
      refine z_ciV (pc := 8) (st := []) hC y_X6_isWorking q1632 [] rfl (hk 34 rfl) rfl rfl (c_X6_isWorking hC.2.2.2.2.2.2.1 hk) rfl ⟨rfl, rfl, (Nat.le_of_ble_eq_true rfl), (Nat.le_of_ble_eq_true rfl)⟩ (Nat.le_of_ble_eq_true rfl) dX6_worked_8 (fun r1 d2 => ?_)
      refine z_if_eq (pc := 11) hC 20 rfl dX6_worked_11 ?_ ?_
      · refine z_iload_n (pc := 20) hC 2 rfl 2 rfl dX6_worked_20 ?_
        exact z_iret (pc := 21) hC rfl dX6_worked_21
      · refine z_iinc (pc := 14) (ls1 := fun v => [(2, .inl (.int v)), (0, .inr (k, 34)), (1, .inl (.int v1))]) hC 2 2 (by decide) (1 : Int32) rfl rfl (fun v => rfl) dX6_worked_14 (fun v2_3 => ?_)
        refine z_goto (pc := 17) hC 2 rfl dX6_worked_17 ?_
        exact z_sub [1, 2, 0] rfl (ih v1 v2_3 d2)
theorem r_Mo_worked {C : Cxt} {G : Geo} {M : Mem} {k : Nat} (hC : Cx C cX6_worked 3 "FrameHeirsModel" (some .int) rm_X6_worked G) (hk : LMo G k) (d : Sl) (a1 : Int32) : Rz C 3 G (setS M k) (poM avI (setS M k)) 0 [(0, .inr (k, 34)), (1, .inl (.int a1))] [] d (Mo_worked d a1) := by
  unfold Mo_worked
  refine z_iconst (pc := 0) hC (0 : Int32) rfl dX6_worked_0 ?_
  refine z_istore_n (pc := 1) (ls1 := fun v => [(2, .inl (.int v)), (0, .inr (k, 34)), (1, .inl (.int a1))]) hC 2 rfl (by decide) (fun v => rfl) dX6_worked_1 (fun v2_4 => ?_)
  exact z_sub [1, 2, 0] rfl (r_Mo_worked_2 hC hk FU a1 v2_4 d)
theorem c_X6_worked {G : Geo} {M : Mem} {k : Nat} (hG : GOk G) (hk : LMo G k) {d : Sl} {a1 : Int32} (l : Launch) (r : Int32) (d1 : Sl) (h : Mo_worked d a1 = some (r, d1)) : Mt l yX6_worked cX6_worked 3 (some .int) rm_X6_worked G [.inr (k, 34), .inl (.int a1)] ((setS M k) d) (avI r) ((setS M k) d1) :=
  mt_of (mem := (setS M k)) (po := poM avI (setS M k)) (x0 := d) (t := (r, d1)) rfl hG [.inr (k, 34), .inl (.int a1)] (Nat.le_of_ble_eq_true rfl) rfl (fun C hC => r_Mo_worked hC hk d a1) h
-- FrameHeirsModel.work(I)I
abbrev rm_X6_work : Room := { frames := 6, cells := 0, slots := 0, locals := 133 }
theorem dX6_work_0 : decode cX6_work 0 = .ok (.aload_n 0, 1) := by decide +kernel
theorem dX6_work_1 : decode cX6_work 1 = .ok (.iconst 0, 1) := by decide +kernel
theorem dX6_work_2 : decode cX6_work 2 = .ok (.putfield 61, 3) := by decide +kernel
theorem dX6_work_5 : decode cX6_work 5 = .ok (.iload_n 1, 1) := by decide +kernel
theorem dX6_work_6 : decode cX6_work 6 = .ok (.iconst 0, 1) := by decide +kernel
theorem dX6_work_7 : decode cX6_work 7 = .ok (.bipush 99, 2) := by decide +kernel
theorem dX6_work_9 : decode cX6_work 9 = .ok (.invokestatic 137, 3) := by decide +kernel
theorem dX6_work_12 : decode cX6_work 12 = .ok (.ifCond .ne 5, 3) := by decide +kernel
theorem dX6_work_15 : decode cX6_work 15 = .ok (.iconst (-1), 1) := by decide +kernel
theorem dX6_work_16 : decode cX6_work 16 = .ok (.ireturn, 1) := by decide +kernel
theorem dX6_work_17 : decode cX6_work 17 = .ok (.aload_n 0, 1) := by decide +kernel
theorem dX6_work_18 : decode cX6_work 18 = .ok (.invokevirtual 289, 3) := by decide +kernel
theorem dX6_work_21 : decode cX6_work 21 = .ok (.aload_n 0, 1) := by decide +kernel
theorem dX6_work_22 : decode cX6_work 22 = .ok (.iload_n 1, 1) := by decide +kernel
theorem dX6_work_23 : decode cX6_work 23 = .ok (.invokevirtual 332, 3) := by decide +kernel
theorem dX6_work_26 : decode cX6_work 26 = .ok (.ireturn, 1) := by decide +kernel
def Mo_work (d : Sl) (a1 : Int32) : Option (Int32 × Sl) :=
  bnd (wr d 34 2 (0 : Int32)) fun d1 =>
  bp (Mo_isIn a1 (0 : Int32) (99 : Int32)) fun r2 =>
  if r2 = 0 then
    (some ((-1 : Int32), d1))
  else
    (bd (Mo_canUndo d1) fun r3 d4 =>
    bd (Mo_worked d4 a1) fun r5 d6 =>
    some (r5, d6))
theorem y_X6_work : YV yX6_work cX6_work 2 (some .int) 1 := ⟨q1625, q1626, q1627, q149, by decide +kernel, by decide +kernel, by decide +kernel, by decide +kernel⟩
theorem r_Mo_work {C : Cxt} {G : Geo} {M : Mem} {k : Nat} (hC : Cx C cX6_work 2 "FrameHeirsModel" (some .int) rm_X6_work G) (hk : LMo G k) (d : Sl) (a1 : Int32) : Rz C 2 G (setS M k) (poM avI (setS M k)) 0 [(0, .inr (k, 34)), (1, .inl (.int a1))] [] d (Mo_work d a1) := by
  unfold Mo_work
  refine z_aload_n (pc := 0) hC 0 rfl 0 rfl dX6_work_0 ?_
  refine z_iconst (pc := 1) hC (0 : Int32) rfl dX6_work_1 ?_
  refine zs_puti (pc := 2) hC (hk 34 rfl) f_34_2 q1272 dX6_work_2 (fun d1 => ?_)
  refine z_iload_n (pc := 5) hC 1 rfl 1 rfl dX6_work_5 ?_
  refine z_iconst (pc := 6) hC (0 : Int32) rfl dX6_work_6 ?_
  refine z_bipush (pc := 7) hC (99 : Int32) rfl dX6_work_7 ?_
  refine z_piS (pc := 9) (st := []) hC y_X6_isIn q1429 [.inl (.int a1), .inl (.int (0 : Int32)), .inl (.int (99 : Int32))] rfl (c_X6_isIn hC.2.2.2.2.2.2.1) rfl ⟨rfl, rfl, (Nat.le_of_ble_eq_true rfl), (Nat.le_of_ble_eq_true rfl)⟩ (Nat.le_of_ble_eq_true rfl) dX6_work_9 (fun r2 => ?_)
  refine z_if_ne (pc := 12) hC 17 rfl dX6_work_12 ?_ ?_
  · refine z_aload_n (pc := 17) hC 0 rfl 0 rfl dX6_work_17 ?_
    refine z_cvV (pc := 18) (st := []) hC y_X6_canUndo q1500 [] rfl (hk 34 rfl) rfl rfl (c_X6_canUndo hC.2.2.2.2.2.2.1 hk) rfl ⟨rfl, rfl, (Nat.le_of_ble_eq_true rfl), (Nat.le_of_ble_eq_true rfl)⟩ (Nat.le_of_ble_eq_true rfl) dX6_work_18 (fun r3 d4 => ?_)
    refine z_aload_n (pc := 21) hC 0 rfl 0 rfl dX6_work_21 ?_
    refine z_iload_n (pc := 22) hC 1 rfl 1 rfl dX6_work_22 ?_
    refine z_ciV (pc := 23) (st := []) hC y_X6_worked q1628 [.inl (.int a1)] rfl (hk 34 rfl) rfl rfl (c_X6_worked hC.2.2.2.2.2.2.1 hk) rfl ⟨rfl, rfl, (Nat.le_of_ble_eq_true rfl), (Nat.le_of_ble_eq_true rfl)⟩ (Nat.le_of_ble_eq_true rfl) dX6_work_23 (fun r5 d6 => ?_)
    exact z_iret (pc := 26) hC rfl dX6_work_26
  · refine z_iconst (pc := 15) hC (-1 : Int32) rfl dX6_work_15 ?_
    exact z_iret (pc := 16) hC rfl dX6_work_16
theorem c_X6_work {G : Geo} {M : Mem} {k : Nat} (hG : GOk G) (hk : LMo G k) {d : Sl} {a1 : Int32} (l : Launch) (r : Int32) (d1 : Sl) (h : Mo_work d a1 = some (r, d1)) : Mt l yX6_work cX6_work 2 (some .int) rm_X6_work G [.inr (k, 34), .inl (.int a1)] ((setS M k) d) (avI r) ((setS M k) d1) :=
  mt_of (mem := (setS M k)) (po := poM avI (setS M k)) (x0 := d) (t := (r, d1)) rfl hG [.inr (k, 34), .inl (.int a1)] (Nat.le_of_ble_eq_true rfl) rfl (fun C hC => r_Mo_work hC hk d a1) h
-- FrameHeirsModel.warmthOf(I)I
abbrev rm_X6_warmthOf : Room := { frames := 3, cells := 0, slots := 0, locals := 63 }
theorem dX6_warmthOf_0 : decode cX6_warmthOf 0 = .ok (.iconst 0, 1) := by decide +kernel
theorem dX6_warmthOf_1 : decode cX6_warmthOf 1 = .ok (.istore_n 2, 1) := by decide +kernel
theorem dX6_warmthOf_2 : decode cX6_warmthOf 2 = .ok (.iconst 0, 1) := by decide +kernel
theorem dX6_warmthOf_3 : decode cX6_warmthOf 3 = .ok (.istore_n 3, 1) := by decide +kernel
theorem dX6_warmthOf_4 : decode cX6_warmthOf 4 = .ok (.iload_n 3, 1) := by decide +kernel
theorem dX6_warmthOf_5 : decode cX6_warmthOf 5 = .ok (.aload_n 0, 1) := by decide +kernel
theorem dX6_warmthOf_6 : decode cX6_warmthOf 6 = .ok (.invokevirtual 126, 3) := by decide +kernel
theorem dX6_warmthOf_9 : decode cX6_warmthOf 9 = .ok (.if_icmp .ge 53, 3) := by decide +kernel
theorem dX6_warmthOf_12 : decode cX6_warmthOf 12 = .ok (.bipush 32, 2) := by decide +kernel
theorem dX6_warmthOf_14 : decode cX6_warmthOf 14 = .ok (.iload_n 1, 1) := by decide +kernel
theorem dX6_warmthOf_15 : decode cX6_warmthOf 15 = .ok (.imul, 1) := by decide +kernel
theorem dX6_warmthOf_16 : decode cX6_warmthOf 16 = .ok (.iload_n 3, 1) := by decide +kernel
theorem dX6_warmthOf_17 : decode cX6_warmthOf 17 = .ok (.iadd, 1) := by decide +kernel
theorem dX6_warmthOf_18 : decode cX6_warmthOf 18 = .ok (.istore 4, 2) := by decide +kernel
theorem dX6_warmthOf_20 : decode cX6_warmthOf 20 = .ok (.aload_n 0, 1) := by decide +kernel
theorem dX6_warmthOf_21 : decode cX6_warmthOf 21 = .ok (.iload 4, 2) := by decide +kernel
theorem dX6_warmthOf_23 : decode cX6_warmthOf 23 = .ok (.invokevirtual 216, 3) := by decide +kernel
theorem dX6_warmthOf_26 : decode cX6_warmthOf 26 = .ok (.ifCond .eq 30, 3) := by decide +kernel
theorem dX6_warmthOf_29 : decode cX6_warmthOf 29 = .ok (.iload_n 2, 1) := by decide +kernel
theorem dX6_warmthOf_30 : decode cX6_warmthOf 30 = .ok (.aload_n 0, 1) := by decide +kernel
theorem dX6_warmthOf_31 : decode cX6_warmthOf 31 = .ok (.sipush 1536, 3) := by decide +kernel
theorem dX6_warmthOf_34 : decode cX6_warmthOf 34 = .ok (.iload 4, 2) := by decide +kernel
theorem dX6_warmthOf_36 : decode cX6_warmthOf 36 = .ok (.iadd, 1) := by decide +kernel
theorem dX6_warmthOf_37 : decode cX6_warmthOf 37 = .ok (.invokevirtual 189, 3) := by decide +kernel
theorem dX6_warmthOf_40 : decode cX6_warmthOf 40 = .ok (.aload_n 0, 1) := by decide +kernel
theorem dX6_warmthOf_41 : decode cX6_warmthOf 41 = .ok (.iload 4, 2) := by decide +kernel
theorem dX6_warmthOf_43 : decode cX6_warmthOf 43 = .ok (.invokevirtual 258, 3) := by decide +kernel
theorem dX6_warmthOf_46 : decode cX6_warmthOf 46 = .ok (.invokestatic 358, 3) := by decide +kernel
theorem dX6_warmthOf_49 : decode cX6_warmthOf 49 = .ok (.invokestatic 361, 3) := by decide +kernel
theorem dX6_warmthOf_52 : decode cX6_warmthOf 52 = .ok (.invokestatic 364, 3) := by decide +kernel
theorem dX6_warmthOf_55 : decode cX6_warmthOf 55 = .ok (.istore_n 2, 1) := by decide +kernel
theorem dX6_warmthOf_56 : decode cX6_warmthOf 56 = .ok (.iinc 3 1, 3) := by decide +kernel
theorem dX6_warmthOf_59 : decode cX6_warmthOf 59 = .ok (.goto (-55), 3) := by decide +kernel
theorem dX6_warmthOf_62 : decode cX6_warmthOf 62 = .ok (.iload_n 2, 1) := by decide +kernel
theorem dX6_warmthOf_63 : decode cX6_warmthOf 63 = .ok (.ireturn, 1) := by decide +kernel
def Mo_warmthOf_56 (k4 : Int32 → Int32 → Int32 → Option Int32) (d : Sl) (v1 : Int32) (v2 : Int32) (v3 : Int32) : Option Int32 :=
  bnd (v3 + (1 : Int32)) fun v3_1 =>
  k4 v1 v2 v3_1
def Mo_warmthOf_4 (d : Sl) : Nat → Int32 → Int32 → Int32 → Option Int32
  | 0, _, _, _ => none
  | n + 1, v1, v2, v3 =>
    bp (Mo_size d) fun r2 =>
    if r2 ≤ v3 then
      (some v2)
    else
      (bnd (((32 : Int32) * v1) + v3) fun v4_3 =>
      bp (Mo_isDeed d v4_3) fun r4 =>
      if r4 = 0 then
        (Mo_warmthOf_56 (Mo_warmthOf_4 d n) d v1 v2 v3)
      else
        (bp (Mo_of d ((1536 : Int32) + v4_3)) fun r5 =>
        bp (Mo_pagesOf d v4_3) fun r6 =>
        bp (Mo_floatOf r6) fun r7 =>
        bp (Mo_times r5 r7) fun r8 =>
        bp (Mo_added v2 r8) fun r9 =>
        bnd r9 fun v2_10 =>
        Mo_warmthOf_56 (Mo_warmthOf_4 d n) d v1 v2_10 v3))
def Mo_warmthOf (d : Sl) (a1 : Int32) : Option Int32 :=
  bnd (0 : Int32) fun v2_11 =>
  bnd (0 : Int32) fun v3_12 =>
  Mo_warmthOf_4 d FU a1 v2_11 v3_12
theorem y_X6_warmthOf : YV yX6_warmthOf cX6_warmthOf 5 (some .int) 1 := ⟨q1876, q137, q1877, q149, by decide +kernel, by decide +kernel, by decide +kernel, by decide +kernel⟩
theorem r_Mo_warmthOf_56 {C : Cxt} {G : Geo} {M : Mem} {k : Nat} {d : Sl} (hC : Cx C cX6_warmthOf 5 "FrameHeirsModel" (some .int) rm_X6_warmthOf G) (hk : LMo G k) (k4 : Int32 → Int32 → Int32 → Option Int32) (h4 : ∀ (v1 : Int32) (v2 : Int32) (v3 : Int32), Rz C 5 G (setS M k) (poP avI ((setS M k) d)) 4 [(0, .inr (k, 34)), (1, .inl (.int v1)), (2, .inl (.int v2)), (3, .inl (.int v3))] [] d (k4 v1 v2 v3)) (v1 : Int32) (v2 : Int32) (v3 : Int32) : Rz C 5 G (setS M k) (poP avI ((setS M k) d)) 56 [(0, .inr (k, 34)), (1, .inl (.int v1)), (2, .inl (.int v2)), (3, .inl (.int v3))] [] d (Mo_warmthOf_56 k4 d v1 v2 v3) := by
  unfold Mo_warmthOf_56
  refine z_iinc (pc := 56) (ls1 := fun v => [(3, .inl (.int v)), (0, .inr (k, 34)), (1, .inl (.int v1)), (2, .inl (.int v2))]) hC 3 3 (by decide) (1 : Int32) rfl rfl (fun v => rfl) dX6_warmthOf_56 (fun v3_1 => ?_)
  refine z_goto (pc := 59) hC 4 rfl dX6_warmthOf_59 ?_
  exact z_sub [1, 2, 3, 0] rfl (h4 v1 v2 v3_1)
theorem r_Mo_warmthOf_4 {C : Cxt} {G : Geo} {M : Mem} {k : Nat} {d : Sl} (hC : Cx C cX6_warmthOf 5 "FrameHeirsModel" (some .int) rm_X6_warmthOf G) (hk : LMo G k) : ∀ (n : Nat) (v1 : Int32) (v2 : Int32) (v3 : Int32), Rz C 5 G (setS M k) (poP avI ((setS M k) d)) 4 [(0, .inr (k, 34)), (1, .inl (.int v1)), (2, .inl (.int v2)), (3, .inl (.int v3))] [] d (Mo_warmthOf_4 d n v1 v2 v3) := by
  intro n
  induction n with
  | zero => intros; exact z_none
  | succ n ih =>
    intro v1 v2 v3
    rw [Mo_warmthOf_4]
    refine z_iload_n (pc := 4) hC 3 rfl 3 rfl dX6_warmthOf_4 ?_
    refine z_aload_n (pc := 5) hC 0 rfl 0 rfl dX6_warmthOf_5 ?_
    refine z_piV (pc := 6) (st := [.inl (.int v3)]) hC y_X6_size q1250 [] rfl (hk 34 rfl) rfl rfl (c_X6_size hC.2.2.2.2.2.2.1 hk) rfl ⟨rfl, rfl, (Nat.le_of_ble_eq_true rfl), (Nat.le_of_ble_eq_true rfl)⟩ (Nat.le_of_ble_eq_true rfl) dX6_warmthOf_6 (fun r2 => ?_)
    refine z_icmp_ge (pc := 9) hC 62 rfl dX6_warmthOf_9 ?_ ?_
    · refine z_iload_n (pc := 62) hC 2 rfl 2 rfl dX6_warmthOf_62 ?_
      exact z_iret (pc := 63) hC rfl dX6_warmthOf_63
    · refine z_bipush (pc := 12) hC (32 : Int32) rfl dX6_warmthOf_12 ?_
      refine z_iload_n (pc := 14) hC 1 rfl 1 rfl dX6_warmthOf_14 ?_
      refine z_imul (pc := 15) hC dX6_warmthOf_15 ?_
      refine z_iload_n (pc := 16) hC 3 rfl 3 rfl dX6_warmthOf_16 ?_
      refine z_iadd (pc := 17) hC dX6_warmthOf_17 ?_
      refine z_istore (pc := 18) (ls1 := fun v => [(4, .inl (.int v)), (0, .inr (k, 34)), (1, .inl (.int v1)), (2, .inl (.int v2)), (3, .inl (.int v3))]) hC 4 (by decide) (fun v => rfl) dX6_warmthOf_18 (fun v4_3 => ?_)
      refine z_aload_n (pc := 20) hC 0 rfl 1 rfl dX6_warmthOf_20 ?_
      refine z_iload (pc := 21) hC 4 0 rfl dX6_warmthOf_21 ?_
      refine z_piV (pc := 23) (st := []) hC y_X6_isDeed q1520 [.inl (.int v4_3)] rfl (hk 34 rfl) rfl rfl (c_X6_isDeed hC.2.2.2.2.2.2.1 hk) rfl ⟨rfl, rfl, (Nat.le_of_ble_eq_true rfl), (Nat.le_of_ble_eq_true rfl)⟩ (Nat.le_of_ble_eq_true rfl) dX6_warmthOf_23 (fun r4 => ?_)
      refine z_if_eq (pc := 26) hC 56 rfl dX6_warmthOf_26 ?_ ?_
      · exact z_sub [1, 2, 3, 4] rfl (r_Mo_warmthOf_56 hC hk _ ih v1 v2 v3)
      · refine z_iload_n (pc := 29) hC 2 rfl 3 rfl dX6_warmthOf_29 ?_
        refine z_aload_n (pc := 30) hC 0 rfl 1 rfl dX6_warmthOf_30 ?_
        refine z_sipush (pc := 31) hC (1536 : Int32) rfl dX6_warmthOf_31 ?_
        refine z_iload (pc := 34) hC 4 0 rfl dX6_warmthOf_34 ?_
        refine z_iadd (pc := 36) hC dX6_warmthOf_36 ?_
        refine z_piV (pc := 37) (st := [.inl (.int v2)]) hC y_X6_of q1262 [.inl (.int ((1536 : Int32) + v4_3))] rfl (hk 34 rfl) rfl rfl (c_X6_of hC.2.2.2.2.2.2.1 hk) rfl ⟨rfl, rfl, (Nat.le_of_ble_eq_true rfl), (Nat.le_of_ble_eq_true rfl)⟩ (Nat.le_of_ble_eq_true rfl) dX6_warmthOf_37 (fun r5 => ?_)
        refine z_aload_n (pc := 40) hC 0 rfl 1 rfl dX6_warmthOf_40 ?_
        refine z_iload (pc := 41) hC 4 0 rfl dX6_warmthOf_41 ?_
        refine z_piV (pc := 43) (st := [.inl (.int r5), .inl (.int v2)]) hC y_X6_pagesOf q1540 [.inl (.int v4_3)] rfl (hk 34 rfl) rfl rfl (c_X6_pagesOf hC.2.2.2.2.2.2.1 hk) rfl ⟨rfl, rfl, (Nat.le_of_ble_eq_true rfl), (Nat.le_of_ble_eq_true rfl)⟩ (Nat.le_of_ble_eq_true rfl) dX6_warmthOf_43 (fun r6 => ?_)
        refine z_piS (pc := 46) (st := [.inl (.int r5), .inl (.int v2)]) hC y_X6_floatOf q1660 [.inl (.int r6)] rfl (c_X6_floatOf hC.2.2.2.2.2.2.1) rfl ⟨rfl, rfl, (Nat.le_of_ble_eq_true rfl), (Nat.le_of_ble_eq_true rfl)⟩ (Nat.le_of_ble_eq_true rfl) dX6_warmthOf_46 (fun r7 => ?_)
        refine z_piS (pc := 49) (st := [.inl (.int v2)]) hC y_X6_times q1682 [.inl (.int r5), .inl (.int r7)] rfl (c_X6_times hC.2.2.2.2.2.2.1) rfl ⟨rfl, rfl, (Nat.le_of_ble_eq_true rfl), (Nat.le_of_ble_eq_true rfl)⟩ (Nat.le_of_ble_eq_true rfl) dX6_warmthOf_49 (fun r8 => ?_)
        refine z_piS (pc := 52) (st := []) hC y_X6_added q1710 [.inl (.int v2), .inl (.int r8)] rfl (c_X6_added hC.2.2.2.2.2.2.1) rfl ⟨rfl, rfl, (Nat.le_of_ble_eq_true rfl), (Nat.le_of_ble_eq_true rfl)⟩ (Nat.le_of_ble_eq_true rfl) dX6_warmthOf_52 (fun r9 => ?_)
        refine z_istore_n (pc := 55) (ls1 := fun v => [(2, .inl (.int v)), (4, .inl (.int v4_3)), (0, .inr (k, 34)), (1, .inl (.int v1)), (3, .inl (.int v3))]) hC 2 rfl (by decide) (fun v => rfl) dX6_warmthOf_55 (fun v2_10 => ?_)
        exact z_sub [2, 3, 0, 4] rfl (r_Mo_warmthOf_56 hC hk _ ih v1 v2_10 v3)
theorem r_Mo_warmthOf {C : Cxt} {G : Geo} {M : Mem} {k : Nat} (hC : Cx C cX6_warmthOf 5 "FrameHeirsModel" (some .int) rm_X6_warmthOf G) (hk : LMo G k) (d : Sl) (a1 : Int32) : Rz C 5 G (setS M k) (poP avI ((setS M k) d)) 0 [(0, .inr (k, 34)), (1, .inl (.int a1))] [] d (Mo_warmthOf d a1) := by
  unfold Mo_warmthOf
  refine z_iconst (pc := 0) hC (0 : Int32) rfl dX6_warmthOf_0 ?_
  refine z_istore_n (pc := 1) (ls1 := fun v => [(2, .inl (.int v)), (0, .inr (k, 34)), (1, .inl (.int a1))]) hC 2 rfl (by decide) (fun v => rfl) dX6_warmthOf_1 (fun v2_11 => ?_)
  refine z_iconst (pc := 2) hC (0 : Int32) rfl dX6_warmthOf_2 ?_
  refine z_istore_n (pc := 3) (ls1 := fun v => [(3, .inl (.int v)), (2, .inl (.int v2_11)), (0, .inr (k, 34)), (1, .inl (.int a1))]) hC 3 rfl (by decide) (fun v => rfl) dX6_warmthOf_3 (fun v3_12 => ?_)
  exact z_sub [2, 3, 1, 0] rfl (r_Mo_warmthOf_4 hC hk FU a1 v2_11 v3_12)
theorem c_X6_warmthOf {G : Geo} {M : Mem} {k : Nat} (hG : GOk G) (hk : LMo G k) {d : Sl} {a1 : Int32} (l : Launch) (r : Int32) (h : Mo_warmthOf d a1 = some r) : Mt l yX6_warmthOf cX6_warmthOf 5 (some .int) rm_X6_warmthOf G [.inr (k, 34), .inl (.int a1)] ((setS M k) d) (avI r) ((setS M k) d) :=
  mt_of (mem := (setS M k)) (po := poP avI ((setS M k) d)) (x0 := d) (t := r) rfl hG [.inr (k, 34), .inl (.int a1)] (Nat.le_of_ble_eq_true rfl) rfl (fun C hC => r_Mo_warmthOf hC hk d a1) h
-- FrameHeirsModel.ticks()V
abbrev rm_X6_ticks : Room := { frames := 2, cells := 0, slots := 0, locals := 57 }
theorem dX6_ticks_0 : decode cX6_ticks 0 = .ok (.aload_n 0, 1) := by decide +kernel
theorem dX6_ticks_1 : decode cX6_ticks 1 = .ok (.getfield 32, 3) := by decide +kernel
theorem dX6_ticks_4 : decode cX6_ticks 4 = .ok (.iconst 5, 1) := by decide +kernel
theorem dX6_ticks_5 : decode cX6_ticks 5 = .ok (.iaload, 1) := by decide +kernel
theorem dX6_ticks_6 : decode cX6_ticks 6 = .ok (.invokestatic 358, 3) := by decide +kernel
theorem dX6_ticks_9 : decode cX6_ticks 9 = .ok (.bipush 10, 2) := by decide +kernel
theorem dX6_ticks_11 : decode cX6_ticks 11 = .ok (.invokestatic 358, 3) := by decide +kernel
theorem dX6_ticks_14 : decode cX6_ticks 14 = .ok (.invokestatic 367, 3) := by decide +kernel
theorem dX6_ticks_17 : decode cX6_ticks 17 = .ok (.istore_n 1, 1) := by decide +kernel
theorem dX6_ticks_18 : decode cX6_ticks 18 = .ok (.iconst 0, 1) := by decide +kernel
theorem dX6_ticks_19 : decode cX6_ticks 19 = .ok (.istore_n 2, 1) := by decide +kernel
theorem dX6_ticks_20 : decode cX6_ticks 20 = .ok (.iload_n 2, 1) := by decide +kernel
theorem dX6_ticks_21 : decode cX6_ticks 21 = .ok (.sipush 192, 3) := by decide +kernel
theorem dX6_ticks_24 : decode cX6_ticks 24 = .ok (.if_icmp .ge 39, 3) := by decide +kernel
theorem dX6_ticks_27 : decode cX6_ticks 27 = .ok (.aload_n 0, 1) := by decide +kernel
theorem dX6_ticks_28 : decode cX6_ticks 28 = .ok (.iload_n 2, 1) := by decide +kernel
theorem dX6_ticks_29 : decode cX6_ticks 29 = .ok (.invokevirtual 216, 3) := by decide +kernel
theorem dX6_ticks_32 : decode cX6_ticks 32 = .ok (.ifCond .eq 25, 3) := by decide +kernel
theorem dX6_ticks_35 : decode cX6_ticks 35 = .ok (.aload_n 0, 1) := by decide +kernel
theorem dX6_ticks_36 : decode cX6_ticks 36 = .ok (.sipush 1536, 3) := by decide +kernel
theorem dX6_ticks_39 : decode cX6_ticks 39 = .ok (.iload_n 2, 1) := by decide +kernel
theorem dX6_ticks_40 : decode cX6_ticks 40 = .ok (.iadd, 1) := by decide +kernel
theorem dX6_ticks_41 : decode cX6_ticks 41 = .ok (.aload_n 0, 1) := by decide +kernel
theorem dX6_ticks_42 : decode cX6_ticks 42 = .ok (.sipush 1536, 3) := by decide +kernel
theorem dX6_ticks_45 : decode cX6_ticks 45 = .ok (.iload_n 2, 1) := by decide +kernel
theorem dX6_ticks_46 : decode cX6_ticks 46 = .ok (.iadd, 1) := by decide +kernel
theorem dX6_ticks_47 : decode cX6_ticks 47 = .ok (.invokevirtual 189, 3) := by decide +kernel
theorem dX6_ticks_50 : decode cX6_ticks 50 = .ok (.iload_n 1, 1) := by decide +kernel
theorem dX6_ticks_51 : decode cX6_ticks 51 = .ok (.invokestatic 361, 3) := by decide +kernel
theorem dX6_ticks_54 : decode cX6_ticks 54 = .ok (.invokevirtual 122, 3) := by decide +kernel
theorem dX6_ticks_57 : decode cX6_ticks 57 = .ok (.iinc 2 1, 3) := by decide +kernel
theorem dX6_ticks_60 : decode cX6_ticks 60 = .ok (.goto (-40), 3) := by decide +kernel
theorem dX6_ticks_63 : decode cX6_ticks 63 = .ok (.return_, 1) := by decide +kernel
def Mo_ticks_57 (k20 : Int32 → Int32 → Sl → Option (Unit × Sl)) (v1 : Int32) (v2 : Int32) (d : Sl) : Option (Unit × Sl) :=
  bnd (v2 + (1 : Int32)) fun v2_1 =>
  k20 v1 v2_1 d
def Mo_ticks_20 : Nat → Int32 → Int32 → Sl → Option (Unit × Sl)
  | 0, _, _, _ => none
  | n + 1, v1, v2, d =>
    if (192 : Int32) ≤ v2 then
      (some ((), d))
    else
      (bp (Mo_isDeed d v2) fun r2 =>
      if r2 = 0 then
        (Mo_ticks_57 (Mo_ticks_20 n) v1 v2 d)
      else
        (bp (Mo_of d ((1536 : Int32) + v2)) fun r3 =>
        bp (Mo_times r3 v1) fun r4 =>
        bd (Mo_lay d ((1536 : Int32) + v2) r4) fun r5 d6 =>
        Mo_ticks_57 (Mo_ticks_20 n) v1 v2 d6))
def Mo_ticks (d : Sl) : Option (Unit × Sl) :=
  if inb (5 : Int32) 14 then
  bp (Mo_floatOf (d 41 (ix (5 : Int32)))) fun r7 =>
  bp (Mo_floatOf (10 : Int32)) fun r8 =>
  bp (Mo_divided r7 r8) fun r9 =>
  bnd r9 fun v1_10 =>
  bnd (0 : Int32) fun v2_11 =>
  Mo_ticks_20 FU v1_10 v2_11 d
  else none
theorem y_X6_ticks : YV yX6_ticks cX6_ticks 3 none 0 := ⟨q1658, q109, q1659, q149, by decide +kernel, by decide +kernel, by decide +kernel, by decide +kernel⟩
theorem r_Mo_ticks_57 {C : Cxt} {G : Geo} {M : Mem} {k : Nat} (hC : Cx C cX6_ticks 3 "FrameHeirsModel" none rm_X6_ticks G) (hk : LMo G k) (k20 : Int32 → Int32 → Sl → Option (Unit × Sl)) (h20 : ∀ (v1 : Int32) (v2 : Int32) (d : Sl), Rz C 3 G (setS M k) (poM avV (setS M k)) 20 [(0, .inr (k, 34)), (1, .inl (.int v1)), (2, .inl (.int v2))] [] d (k20 v1 v2 d)) (v1 : Int32) (v2 : Int32) (d : Sl) : Rz C 3 G (setS M k) (poM avV (setS M k)) 57 [(0, .inr (k, 34)), (1, .inl (.int v1)), (2, .inl (.int v2))] [] d (Mo_ticks_57 k20 v1 v2 d) := by
  unfold Mo_ticks_57
  refine z_iinc (pc := 57) (ls1 := fun v => [(2, .inl (.int v)), (0, .inr (k, 34)), (1, .inl (.int v1))]) hC 2 2 (by decide) (1 : Int32) rfl rfl (fun v => rfl) dX6_ticks_57 (fun v2_1 => ?_)
  refine z_goto (pc := 60) hC 20 rfl dX6_ticks_60 ?_
  exact z_sub [1, 2, 0] rfl (h20 v1 v2_1 d)
theorem r_Mo_ticks_20 {C : Cxt} {G : Geo} {M : Mem} {k : Nat} (hC : Cx C cX6_ticks 3 "FrameHeirsModel" none rm_X6_ticks G) (hk : LMo G k) : ∀ (n : Nat) (v1 : Int32) (v2 : Int32) (d : Sl), Rz C 3 G (setS M k) (poM avV (setS M k)) 20 [(0, .inr (k, 34)), (1, .inl (.int v1)), (2, .inl (.int v2))] [] d (Mo_ticks_20 n v1 v2 d) := by
  intro n
  induction n with
  | zero => intros; exact z_none
  | succ n ih =>
    intro v1 v2 d
    rw [Mo_ticks_20]
    refine z_iload_n (pc := 20) hC 2 rfl 2 rfl dX6_ticks_20 ?_
    refine z_sipush (pc := 21) hC (192 : Int32) rfl dX6_ticks_21 ?_
    refine z_icmp_ge (pc := 24) hC 63 rfl dX6_ticks_24 ?_ ?_
    · exact z_vret (pc := 63) hC rfl dX6_ticks_63
    · refine z_aload_n (pc := 27) hC 0 rfl 0 rfl dX6_ticks_27 ?_
      refine z_iload_n (pc := 28) hC 2 rfl 2 rfl dX6_ticks_28 ?_
      refine z_piV (pc := 29) (st := []) hC y_X6_isDeed q1520 [.inl (.int v2)] rfl (hk 34 rfl) rfl rfl (c_X6_isDeed hC.2.2.2.2.2.2.1 hk) rfl ⟨rfl, rfl, (Nat.le_of_ble_eq_true rfl), (Nat.le_of_ble_eq_true rfl)⟩ (Nat.le_of_ble_eq_true rfl) dX6_ticks_29 (fun r2 => ?_)
      refine z_if_eq (pc := 32) hC 57 rfl dX6_ticks_32 ?_ ?_
      · exact z_sub [0, 1, 2] rfl (r_Mo_ticks_57 hC hk _ ih v1 v2 d)
      · refine z_aload_n (pc := 35) hC 0 rfl 0 rfl dX6_ticks_35 ?_
        refine z_sipush (pc := 36) hC (1536 : Int32) rfl dX6_ticks_36 ?_
        refine z_iload_n (pc := 39) hC 2 rfl 2 rfl dX6_ticks_39 ?_
        refine z_iadd (pc := 40) hC dX6_ticks_40 ?_
        refine z_aload_n (pc := 41) hC 0 rfl 0 rfl dX6_ticks_41 ?_
        refine z_sipush (pc := 42) hC (1536 : Int32) rfl dX6_ticks_42 ?_
        refine z_iload_n (pc := 45) hC 2 rfl 2 rfl dX6_ticks_45 ?_
        refine z_iadd (pc := 46) hC dX6_ticks_46 ?_
        refine z_piV (pc := 47) (st := [.inl (.int ((1536 : Int32) + v2)), .inr (k, 34)]) hC y_X6_of q1262 [.inl (.int ((1536 : Int32) + v2))] rfl (hk 34 rfl) rfl rfl (c_X6_of hC.2.2.2.2.2.2.1 hk) rfl ⟨rfl, rfl, (Nat.le_of_ble_eq_true rfl), (Nat.le_of_ble_eq_true rfl)⟩ (Nat.le_of_ble_eq_true rfl) dX6_ticks_47 (fun r3 => ?_)
        refine z_iload_n (pc := 50) hC 1 rfl 1 rfl dX6_ticks_50 ?_
        refine z_piS (pc := 51) (st := [.inl (.int ((1536 : Int32) + v2)), .inr (k, 34)]) hC y_X6_times q1682 [.inl (.int r3), .inl (.int v1)] rfl (c_X6_times hC.2.2.2.2.2.2.1) rfl ⟨rfl, rfl, (Nat.le_of_ble_eq_true rfl), (Nat.le_of_ble_eq_true rfl)⟩ (Nat.le_of_ble_eq_true rfl) dX6_ticks_51 (fun r4 => ?_)
        refine z_cvV (pc := 54) (st := []) hC y_X6_lay q1246 [.inl (.int ((1536 : Int32) + v2)), .inl (.int r4)] rfl (hk 34 rfl) rfl rfl (c_X6_lay hC.2.2.2.2.2.2.1 hk) rfl ⟨rfl, rfl, (Nat.le_of_ble_eq_true rfl), (Nat.le_of_ble_eq_true rfl)⟩ (Nat.le_of_ble_eq_true rfl) dX6_ticks_54 (fun r5 d6 => ?_)
        exact z_sub [0, 1, 2] rfl (r_Mo_ticks_57 hC hk _ ih v1 v2 d6)
theorem r_Mo_ticks {C : Cxt} {G : Geo} {M : Mem} {k : Nat} (hC : Cx C cX6_ticks 3 "FrameHeirsModel" none rm_X6_ticks G) (hk : LMo G k) (d : Sl) : Rz C 3 G (setS M k) (poM avV (setS M k)) 0 [(0, .inr (k, 34))] [] d (Mo_ticks d) := by
  unfold Mo_ticks
  refine z_aload_n (pc := 0) hC 0 rfl 0 rfl dX6_ticks_0 ?_
  refine z_getc (pc := 1) hC (hk 34 rfl) f_34_19 q1289 dX6_ticks_1 ?_
  refine z_iconst (pc := 4) hC (5 : Int32) rfl dX6_ticks_4 ?_
  refine zs_iald (pc := 5) hC (hk 41 rfl) rfl dX6_ticks_5 ?_
  refine z_piS (pc := 6) (st := []) hC y_X6_floatOf q1660 [.inl (.int (d 41 (ix (5 : Int32))))] rfl (c_X6_floatOf hC.2.2.2.2.2.2.1) rfl ⟨rfl, rfl, (Nat.le_of_ble_eq_true rfl), (Nat.le_of_ble_eq_true rfl)⟩ (Nat.le_of_ble_eq_true rfl) dX6_ticks_6 (fun r7 => ?_)
  refine z_bipush (pc := 9) hC (10 : Int32) rfl dX6_ticks_9 ?_
  refine z_piS (pc := 11) (st := [.inl (.int r7)]) hC y_X6_floatOf q1660 [.inl (.int (10 : Int32))] rfl (c_X6_floatOf hC.2.2.2.2.2.2.1) rfl ⟨rfl, rfl, (Nat.le_of_ble_eq_true rfl), (Nat.le_of_ble_eq_true rfl)⟩ (Nat.le_of_ble_eq_true rfl) dX6_ticks_11 (fun r8 => ?_)
  refine z_piS (pc := 14) (st := []) hC y_X6_divided q1669 [.inl (.int r7), .inl (.int r8)] rfl (c_X6_divided hC.2.2.2.2.2.2.1) rfl ⟨rfl, rfl, (Nat.le_of_ble_eq_true rfl), (Nat.le_of_ble_eq_true rfl)⟩ (Nat.le_of_ble_eq_true rfl) dX6_ticks_14 (fun r9 => ?_)
  refine z_istore_n (pc := 17) (ls1 := fun v => [(1, .inl (.int v)), (0, .inr (k, 34))]) hC 1 rfl (by decide) (fun v => rfl) dX6_ticks_17 (fun v1_10 => ?_)
  refine z_iconst (pc := 18) hC (0 : Int32) rfl dX6_ticks_18 ?_
  refine z_istore_n (pc := 19) (ls1 := fun v => [(2, .inl (.int v)), (1, .inl (.int v1_10)), (0, .inr (k, 34))]) hC 2 rfl (by decide) (fun v => rfl) dX6_ticks_19 (fun v2_11 => ?_)
  exact z_sub [2, 1, 0] rfl (r_Mo_ticks_20 hC hk FU v1_10 v2_11 d)
theorem c_X6_ticks {G : Geo} {M : Mem} {k : Nat} (hG : GOk G) (hk : LMo G k) {d : Sl} (l : Launch) (r : Unit) (d1 : Sl) (h : Mo_ticks d = some (r, d1)) : Mt l yX6_ticks cX6_ticks 3 none rm_X6_ticks G [.inr (k, 34)] ((setS M k) d) (avV r) ((setS M k) d1) :=
  mt_of (mem := (setS M k)) (po := poM avV (setS M k)) (x0 := d) (t := (r, d1)) rfl hG [.inr (k, 34)] (Nat.le_of_ble_eq_true rfl) rfl (fun C hC => r_Mo_ticks hC hk d) h
-- FrameHeirsModel.deedsMany()I
abbrev rm_X6_deedsMany : Room := { frames := 2, cells := 0, slots := 0, locals := 42 }
theorem dX6_deedsMany_0 : decode cX6_deedsMany 0 = .ok (.iconst 0, 1) := by decide +kernel
theorem dX6_deedsMany_1 : decode cX6_deedsMany 1 = .ok (.istore_n 1, 1) := by decide +kernel
theorem dX6_deedsMany_2 : decode cX6_deedsMany 2 = .ok (.iconst 0, 1) := by decide +kernel
theorem dX6_deedsMany_3 : decode cX6_deedsMany 3 = .ok (.istore_n 2, 1) := by decide +kernel
theorem dX6_deedsMany_4 : decode cX6_deedsMany 4 = .ok (.iload_n 2, 1) := by decide +kernel
theorem dX6_deedsMany_5 : decode cX6_deedsMany 5 = .ok (.sipush 192, 3) := by decide +kernel
theorem dX6_deedsMany_8 : decode cX6_deedsMany 8 = .ok (.if_icmp .ge 25, 3) := by decide +kernel
theorem dX6_deedsMany_11 : decode cX6_deedsMany 11 = .ok (.iload_n 1, 1) := by decide +kernel
theorem dX6_deedsMany_12 : decode cX6_deedsMany 12 = .ok (.aload_n 0, 1) := by decide +kernel
theorem dX6_deedsMany_13 : decode cX6_deedsMany 13 = .ok (.iload_n 2, 1) := by decide +kernel
theorem dX6_deedsMany_14 : decode cX6_deedsMany 14 = .ok (.invokevirtual 216, 3) := by decide +kernel
theorem dX6_deedsMany_17 : decode cX6_deedsMany 17 = .ok (.ifCond .eq 7, 3) := by decide +kernel
theorem dX6_deedsMany_20 : decode cX6_deedsMany 20 = .ok (.iconst 1, 1) := by decide +kernel
theorem dX6_deedsMany_21 : decode cX6_deedsMany 21 = .ok (.goto 4, 3) := by decide +kernel
theorem dX6_deedsMany_24 : decode cX6_deedsMany 24 = .ok (.iconst 0, 1) := by decide +kernel
theorem dX6_deedsMany_25 : decode cX6_deedsMany 25 = .ok (.iadd, 1) := by decide +kernel
theorem dX6_deedsMany_26 : decode cX6_deedsMany 26 = .ok (.istore_n 1, 1) := by decide +kernel
theorem dX6_deedsMany_27 : decode cX6_deedsMany 27 = .ok (.iinc 2 1, 3) := by decide +kernel
theorem dX6_deedsMany_30 : decode cX6_deedsMany 30 = .ok (.goto (-26), 3) := by decide +kernel
theorem dX6_deedsMany_33 : decode cX6_deedsMany 33 = .ok (.iload_n 1, 1) := by decide +kernel
theorem dX6_deedsMany_34 : decode cX6_deedsMany 34 = .ok (.ireturn, 1) := by decide +kernel
def Mo_deedsMany_25 (k4 : Int32 → Int32 → Option Int32) (d : Sl) (v2 : Int32) (s0 : Int32) (s1 : Int32) : Option Int32 :=
  bnd (s1 + s0) fun v1_1 =>
  bnd (v2 + (1 : Int32)) fun v2_2 =>
  k4 v1_1 v2_2
def Mo_deedsMany_4 (d : Sl) : Nat → Int32 → Int32 → Option Int32
  | 0, _, _ => none
  | n + 1, v1, v2 =>
    if (192 : Int32) ≤ v2 then
      (some v1)
    else
      (bp (Mo_isDeed d v2) fun r3 =>
      if r3 = 0 then
        (Mo_deedsMany_25 (Mo_deedsMany_4 d n) d v2 (0 : Int32) v1)
      else
        (Mo_deedsMany_25 (Mo_deedsMany_4 d n) d v2 (1 : Int32) v1))
def Mo_deedsMany (d : Sl) : Option Int32 :=
  bnd (0 : Int32) fun v1_4 =>
  bnd (0 : Int32) fun v2_5 =>
  Mo_deedsMany_4 d FU v1_4 v2_5
theorem y_X6_deedsMany : YV yX6_deedsMany cX6_deedsMany 3 (some .int) 0 := ⟨q1687, q110, q1688, q149, by decide +kernel, by decide +kernel, by decide +kernel, by decide +kernel⟩
theorem r_Mo_deedsMany_25 {C : Cxt} {G : Geo} {M : Mem} {k : Nat} {d : Sl} (hC : Cx C cX6_deedsMany 3 "FrameHeirsModel" (some .int) rm_X6_deedsMany G) (hk : LMo G k) (k4 : Int32 → Int32 → Option Int32) (h4 : ∀ (v1 : Int32) (v2 : Int32), Rz C 3 G (setS M k) (poP avI ((setS M k) d)) 4 [(0, .inr (k, 34)), (1, .inl (.int v1)), (2, .inl (.int v2))] [] d (k4 v1 v2)) (v2 : Int32) (s0 : Int32) (s1 : Int32) : Rz C 3 G (setS M k) (poP avI ((setS M k) d)) 25 [(0, .inr (k, 34)), (2, .inl (.int v2))] [.inl (.int s0), .inl (.int s1)] d (Mo_deedsMany_25 k4 d v2 s0 s1) := by
  unfold Mo_deedsMany_25
  refine z_iadd (pc := 25) hC dX6_deedsMany_25 ?_
  refine z_istore_n (pc := 26) (ls1 := fun v => [(1, .inl (.int v)), (0, .inr (k, 34)), (2, .inl (.int v2))]) hC 1 rfl (by decide) (fun v => rfl) dX6_deedsMany_26 (fun v1_1 => ?_)
  refine z_iinc (pc := 27) (ls1 := fun v => [(2, .inl (.int v)), (1, .inl (.int v1_1)), (0, .inr (k, 34))]) hC 2 2 (by decide) (1 : Int32) rfl rfl (fun v => rfl) dX6_deedsMany_27 (fun v2_2 => ?_)
  refine z_goto (pc := 30) hC 4 rfl dX6_deedsMany_30 ?_
  exact z_sub [2, 1, 0] rfl (h4 v1_1 v2_2)
theorem r_Mo_deedsMany_4 {C : Cxt} {G : Geo} {M : Mem} {k : Nat} {d : Sl} (hC : Cx C cX6_deedsMany 3 "FrameHeirsModel" (some .int) rm_X6_deedsMany G) (hk : LMo G k) : ∀ (n : Nat) (v1 : Int32) (v2 : Int32), Rz C 3 G (setS M k) (poP avI ((setS M k) d)) 4 [(0, .inr (k, 34)), (1, .inl (.int v1)), (2, .inl (.int v2))] [] d (Mo_deedsMany_4 d n v1 v2) := by
  intro n
  induction n with
  | zero => intros; exact z_none
  | succ n ih =>
    intro v1 v2
    rw [Mo_deedsMany_4]
    refine z_iload_n (pc := 4) hC 2 rfl 2 rfl dX6_deedsMany_4 ?_
    refine z_sipush (pc := 5) hC (192 : Int32) rfl dX6_deedsMany_5 ?_
    refine z_icmp_ge (pc := 8) hC 33 rfl dX6_deedsMany_8 ?_ ?_
    · refine z_iload_n (pc := 33) hC 1 rfl 1 rfl dX6_deedsMany_33 ?_
      exact z_iret (pc := 34) hC rfl dX6_deedsMany_34
    · refine z_iload_n (pc := 11) hC 1 rfl 1 rfl dX6_deedsMany_11 ?_
      refine z_aload_n (pc := 12) hC 0 rfl 0 rfl dX6_deedsMany_12 ?_
      refine z_iload_n (pc := 13) hC 2 rfl 2 rfl dX6_deedsMany_13 ?_
      refine z_piV (pc := 14) (st := [.inl (.int v1)]) hC y_X6_isDeed q1520 [.inl (.int v2)] rfl (hk 34 rfl) rfl rfl (c_X6_isDeed hC.2.2.2.2.2.2.1 hk) rfl ⟨rfl, rfl, (Nat.le_of_ble_eq_true rfl), (Nat.le_of_ble_eq_true rfl)⟩ (Nat.le_of_ble_eq_true rfl) dX6_deedsMany_14 (fun r3 => ?_)
      refine z_if_eq (pc := 17) hC 24 rfl dX6_deedsMany_17 ?_ ?_
      · refine z_iconst (pc := 24) hC (0 : Int32) rfl dX6_deedsMany_24 ?_
        exact z_sub [0, 2] rfl (r_Mo_deedsMany_25 hC hk _ ih v2 (0 : Int32) v1)
      · refine z_iconst (pc := 20) hC (1 : Int32) rfl dX6_deedsMany_20 ?_
        refine z_goto (pc := 21) hC 25 rfl dX6_deedsMany_21 ?_
        exact z_sub [0, 2] rfl (r_Mo_deedsMany_25 hC hk _ ih v2 (1 : Int32) v1)
theorem r_Mo_deedsMany {C : Cxt} {G : Geo} {M : Mem} {k : Nat} (hC : Cx C cX6_deedsMany 3 "FrameHeirsModel" (some .int) rm_X6_deedsMany G) (hk : LMo G k) (d : Sl) : Rz C 3 G (setS M k) (poP avI ((setS M k) d)) 0 [(0, .inr (k, 34))] [] d (Mo_deedsMany d) := by
  unfold Mo_deedsMany
  refine z_iconst (pc := 0) hC (0 : Int32) rfl dX6_deedsMany_0 ?_
  refine z_istore_n (pc := 1) (ls1 := fun v => [(1, .inl (.int v)), (0, .inr (k, 34))]) hC 1 rfl (by decide) (fun v => rfl) dX6_deedsMany_1 (fun v1_4 => ?_)
  refine z_iconst (pc := 2) hC (0 : Int32) rfl dX6_deedsMany_2 ?_
  refine z_istore_n (pc := 3) (ls1 := fun v => [(2, .inl (.int v)), (1, .inl (.int v1_4)), (0, .inr (k, 34))]) hC 2 rfl (by decide) (fun v => rfl) dX6_deedsMany_3 (fun v2_5 => ?_)
  exact z_sub [2, 1, 0] rfl (r_Mo_deedsMany_4 hC hk FU v1_4 v2_5)
theorem c_X6_deedsMany {G : Geo} {M : Mem} {k : Nat} (hG : GOk G) (hk : LMo G k) {d : Sl} (l : Launch) (r : Int32) (h : Mo_deedsMany d = some r) : Mt l yX6_deedsMany cX6_deedsMany 3 (some .int) rm_X6_deedsMany G [.inr (k, 34)] ((setS M k) d) (avI r) ((setS M k) d) :=
  mt_of (mem := (setS M k)) (po := poP avI ((setS M k) d)) (x0 := d) (t := r) rfl hG [.inr (k, 34)] (Nat.le_of_ble_eq_true rfl) rfl (fun C hC => r_Mo_deedsMany hC hk d) h
-- FrameHeirsModel.pagesAll()I
abbrev rm_X6_pagesAll : Room := { frames := 4, cells := 0, slots := 0, locals := 86 }
theorem dX6_pagesAll_0 : decode cX6_pagesAll 0 = .ok (.iconst 0, 1) := by decide +kernel
theorem dX6_pagesAll_1 : decode cX6_pagesAll 1 = .ok (.istore_n 1, 1) := by decide +kernel
theorem dX6_pagesAll_2 : decode cX6_pagesAll 2 = .ok (.iconst 0, 1) := by decide +kernel
theorem dX6_pagesAll_3 : decode cX6_pagesAll 3 = .ok (.istore_n 2, 1) := by decide +kernel
theorem dX6_pagesAll_4 : decode cX6_pagesAll 4 = .ok (.iload_n 2, 1) := by decide +kernel
theorem dX6_pagesAll_5 : decode cX6_pagesAll 5 = .ok (.aload_n 0, 1) := by decide +kernel
theorem dX6_pagesAll_6 : decode cX6_pagesAll 6 = .ok (.getfield 106, 3) := by decide +kernel
theorem dX6_pagesAll_9 : decode cX6_pagesAll 9 = .ok (.if_icmp .ge 17, 3) := by decide +kernel
theorem dX6_pagesAll_12 : decode cX6_pagesAll 12 = .ok (.iload_n 1, 1) := by decide +kernel
theorem dX6_pagesAll_13 : decode cX6_pagesAll 13 = .ok (.aload_n 0, 1) := by decide +kernel
theorem dX6_pagesAll_14 : decode cX6_pagesAll 14 = .ok (.iload_n 2, 1) := by decide +kernel
theorem dX6_pagesAll_15 : decode cX6_pagesAll 15 = .ok (.invokevirtual 279, 3) := by decide +kernel
theorem dX6_pagesAll_18 : decode cX6_pagesAll 18 = .ok (.iadd, 1) := by decide +kernel
theorem dX6_pagesAll_19 : decode cX6_pagesAll 19 = .ok (.istore_n 1, 1) := by decide +kernel
theorem dX6_pagesAll_20 : decode cX6_pagesAll 20 = .ok (.iinc 2 1, 3) := by decide +kernel
theorem dX6_pagesAll_23 : decode cX6_pagesAll 23 = .ok (.goto (-19), 3) := by decide +kernel
theorem dX6_pagesAll_26 : decode cX6_pagesAll 26 = .ok (.iload_n 1, 1) := by decide +kernel
theorem dX6_pagesAll_27 : decode cX6_pagesAll 27 = .ok (.ireturn, 1) := by decide +kernel
def Mo_pagesAll_4 (d : Sl) : Nat → Int32 → Int32 → Option Int32
  | 0, _, _ => none
  | n + 1, v1, v2 =>
    if (d 34 11) ≤ v2 then
      (some v1)
    else
      (bp (Mo_pagesIn d v2) fun r1 =>
      bnd (v1 + r1) fun v1_2 =>
      bnd (v2 + (1 : Int32)) fun v2_3 =>
      Mo_pagesAll_4 d n v1_2 v2_3)
def Mo_pagesAll (d : Sl) : Option Int32 :=
  bnd (0 : Int32) fun v1_4 =>
  bnd (0 : Int32) fun v2_5 =>
  Mo_pagesAll_4 d FU v1_4 v2_5
theorem y_X6_pagesAll : YV yX6_pagesAll cX6_pagesAll 3 (some .int) 0 := ⟨q1924, q140, q1925, q149, by decide +kernel, by decide +kernel, by decide +kernel, by decide +kernel⟩
theorem r_Mo_pagesAll_4 {C : Cxt} {G : Geo} {M : Mem} {k : Nat} {d : Sl} (hC : Cx C cX6_pagesAll 3 "FrameHeirsModel" (some .int) rm_X6_pagesAll G) (hk : LMo G k) : ∀ (n : Nat) (v1 : Int32) (v2 : Int32), Rz C 3 G (setS M k) (poP avI ((setS M k) d)) 4 [(0, .inr (k, 34)), (1, .inl (.int v1)), (2, .inl (.int v2))] [] d (Mo_pagesAll_4 d n v1 v2) := by
  intro n
  induction n with
  | zero => intros; exact z_none
  | succ n ih =>
    intro v1 v2
    rw [Mo_pagesAll_4]
    refine z_iload_n (pc := 4) hC 2 rfl 2 rfl dX6_pagesAll_4 ?_
    refine z_aload_n (pc := 5) hC 0 rfl 0 rfl dX6_pagesAll_5 ?_
    refine zs_geti (pc := 6) hC (hk 34 rfl) f_34_11 q1281 dX6_pagesAll_6 ?_
    refine z_icmp_ge (pc := 9) hC 26 rfl dX6_pagesAll_9 ?_ ?_
    · refine z_iload_n (pc := 26) hC 1 rfl 1 rfl dX6_pagesAll_26 ?_
      exact z_iret (pc := 27) hC rfl dX6_pagesAll_27
    · refine z_iload_n (pc := 12) hC 1 rfl 1 rfl dX6_pagesAll_12 ?_
      refine z_aload_n (pc := 13) hC 0 rfl 0 rfl dX6_pagesAll_13 ?_
      refine z_iload_n (pc := 14) hC 2 rfl 2 rfl dX6_pagesAll_14 ?_
      refine z_piV (pc := 15) (st := [.inl (.int v1)]) hC y_X6_pagesIn q1544 [.inl (.int v2)] rfl (hk 34 rfl) rfl rfl (c_X6_pagesIn hC.2.2.2.2.2.2.1 hk) rfl ⟨rfl, rfl, (Nat.le_of_ble_eq_true rfl), (Nat.le_of_ble_eq_true rfl)⟩ (Nat.le_of_ble_eq_true rfl) dX6_pagesAll_15 (fun r1 => ?_)
      refine z_iadd (pc := 18) hC dX6_pagesAll_18 ?_
      refine z_istore_n (pc := 19) (ls1 := fun v => [(1, .inl (.int v)), (0, .inr (k, 34)), (2, .inl (.int v2))]) hC 1 rfl (by decide) (fun v => rfl) dX6_pagesAll_19 (fun v1_2 => ?_)
      refine z_iinc (pc := 20) (ls1 := fun v => [(2, .inl (.int v)), (1, .inl (.int v1_2)), (0, .inr (k, 34))]) hC 2 2 (by decide) (1 : Int32) rfl rfl (fun v => rfl) dX6_pagesAll_20 (fun v2_3 => ?_)
      refine z_goto (pc := 23) hC 4 rfl dX6_pagesAll_23 ?_
      exact z_sub [2, 1, 0] rfl (ih v1_2 v2_3)
theorem r_Mo_pagesAll {C : Cxt} {G : Geo} {M : Mem} {k : Nat} (hC : Cx C cX6_pagesAll 3 "FrameHeirsModel" (some .int) rm_X6_pagesAll G) (hk : LMo G k) (d : Sl) : Rz C 3 G (setS M k) (poP avI ((setS M k) d)) 0 [(0, .inr (k, 34))] [] d (Mo_pagesAll d) := by
  unfold Mo_pagesAll
  refine z_iconst (pc := 0) hC (0 : Int32) rfl dX6_pagesAll_0 ?_
  refine z_istore_n (pc := 1) (ls1 := fun v => [(1, .inl (.int v)), (0, .inr (k, 34))]) hC 1 rfl (by decide) (fun v => rfl) dX6_pagesAll_1 (fun v1_4 => ?_)
  refine z_iconst (pc := 2) hC (0 : Int32) rfl dX6_pagesAll_2 ?_
  refine z_istore_n (pc := 3) (ls1 := fun v => [(2, .inl (.int v)), (1, .inl (.int v1_4)), (0, .inr (k, 34))]) hC 2 rfl (by decide) (fun v => rfl) dX6_pagesAll_3 (fun v2_5 => ?_)
  exact z_sub [2, 1, 0] rfl (r_Mo_pagesAll_4 hC hk FU v1_4 v2_5)
theorem c_X6_pagesAll {G : Geo} {M : Mem} {k : Nat} (hG : GOk G) (hk : LMo G k) {d : Sl} (l : Launch) (r : Int32) (h : Mo_pagesAll d = some r) : Mt l yX6_pagesAll cX6_pagesAll 3 (some .int) rm_X6_pagesAll G [.inr (k, 34)] ((setS M k) d) (avI r) ((setS M k) d) :=
  mt_of (mem := (setS M k)) (po := poP avI ((setS M k) d)) (x0 := d) (t := r) rfl hG [.inr (k, 34)] (Nat.le_of_ble_eq_true rfl) rfl (fun C hC => r_Mo_pagesAll hC hk d) h
-- FrameHeirsModel.tick()I
abbrev rm_X6_tick : Room := { frames := 3, cells := 0, slots := 0, locals := 79 }
theorem dX6_tick_0 : decode cX6_tick 0 = .ok (.aload_n 0, 1) := by decide +kernel
theorem dX6_tick_1 : decode cX6_tick 1 = .ok (.iconst 0, 1) := by decide +kernel
theorem dX6_tick_2 : decode cX6_tick 2 = .ok (.putfield 61, 3) := by decide +kernel
theorem dX6_tick_5 : decode cX6_tick 5 = .ok (.aload_n 0, 1) := by decide +kernel
theorem dX6_tick_6 : decode cX6_tick 6 = .ok (.invokevirtual 289, 3) := by decide +kernel
theorem dX6_tick_9 : decode cX6_tick 9 = .ok (.aload_n 0, 1) := by decide +kernel
theorem dX6_tick_10 : decode cX6_tick 10 = .ok (.invokevirtual 370, 3) := by decide +kernel
theorem dX6_tick_13 : decode cX6_tick 13 = .ok (.aload_n 0, 1) := by decide +kernel
theorem dX6_tick_14 : decode cX6_tick 14 = .ok (.invokevirtual 373, 3) := by decide +kernel
theorem dX6_tick_17 : decode cX6_tick 17 = .ok (.ireturn, 1) := by decide +kernel
def Mo_tick (d : Sl) : Option (Int32 × Sl) :=
  bnd (wr d 34 2 (0 : Int32)) fun d1 =>
  bd (Mo_canUndo d1) fun r2 d3 =>
  bd (Mo_ticks d3) fun r4 d5 =>
  bp (Mo_deedsMany d5) fun r6 =>
  some (r6, d5)
theorem y_X6_tick : YV yX6_tick cX6_tick 1 (some .int) 0 := ⟨q1653, q1654, q1655, q149, by decide +kernel, by decide +kernel, by decide +kernel, by decide +kernel⟩
theorem r_Mo_tick {C : Cxt} {G : Geo} {M : Mem} {k : Nat} (hC : Cx C cX6_tick 1 "FrameHeirsModel" (some .int) rm_X6_tick G) (hk : LMo G k) (d : Sl) : Rz C 1 G (setS M k) (poM avI (setS M k)) 0 [(0, .inr (k, 34))] [] d (Mo_tick d) := by
  unfold Mo_tick
  refine z_aload_n (pc := 0) hC 0 rfl 0 rfl dX6_tick_0 ?_
  refine z_iconst (pc := 1) hC (0 : Int32) rfl dX6_tick_1 ?_
  refine zs_puti (pc := 2) hC (hk 34 rfl) f_34_2 q1272 dX6_tick_2 (fun d1 => ?_)
  refine z_aload_n (pc := 5) hC 0 rfl 0 rfl dX6_tick_5 ?_
  refine z_cvV (pc := 6) (st := []) hC y_X6_canUndo q1500 [] rfl (hk 34 rfl) rfl rfl (c_X6_canUndo hC.2.2.2.2.2.2.1 hk) rfl ⟨rfl, rfl, (Nat.le_of_ble_eq_true rfl), (Nat.le_of_ble_eq_true rfl)⟩ (Nat.le_of_ble_eq_true rfl) dX6_tick_6 (fun r2 d3 => ?_)
  refine z_aload_n (pc := 9) hC 0 rfl 0 rfl dX6_tick_9 ?_
  refine z_cvV (pc := 10) (st := []) hC y_X6_ticks q1656 [] rfl (hk 34 rfl) rfl rfl (c_X6_ticks hC.2.2.2.2.2.2.1 hk) rfl ⟨rfl, rfl, (Nat.le_of_ble_eq_true rfl), (Nat.le_of_ble_eq_true rfl)⟩ (Nat.le_of_ble_eq_true rfl) dX6_tick_10 (fun r4 d5 => ?_)
  refine z_aload_n (pc := 13) hC 0 rfl 0 rfl dX6_tick_13 ?_
  refine z_piV (pc := 14) (st := []) hC y_X6_deedsMany q1685 [] rfl (hk 34 rfl) rfl rfl (c_X6_deedsMany hC.2.2.2.2.2.2.1 hk) rfl ⟨rfl, rfl, (Nat.le_of_ble_eq_true rfl), (Nat.le_of_ble_eq_true rfl)⟩ (Nat.le_of_ble_eq_true rfl) dX6_tick_14 (fun r6 => ?_)
  exact z_iret (pc := 17) hC rfl dX6_tick_17
theorem c_X6_tick {G : Geo} {M : Mem} {k : Nat} (hG : GOk G) (hk : LMo G k) {d : Sl} (l : Launch) (r : Int32) (d1 : Sl) (h : Mo_tick d = some (r, d1)) : Mt l yX6_tick cX6_tick 1 (some .int) rm_X6_tick G [.inr (k, 34)] ((setS M k) d) (avI r) ((setS M k) d1) :=
  mt_of (mem := (setS M k)) (po := poM avI (setS M k)) (x0 := d) (t := (r, d1)) rfl hG [.inr (k, 34)] (Nat.le_of_ble_eq_true rfl) rfl (fun C hC => r_Mo_tick hC hk d) h
-- FrameHeirsModel.has(III)Z
abbrev rm_X6_has : Room := { frames := 2, cells := 0, slots := 0, locals := 45 }
theorem dX6_has_0 : decode cX6_has 0 = .ok (.aload_n 0, 1) := by decide +kernel
theorem dX6_has_1 : decode cX6_has 1 = .ok (.iload_n 1, 1) := by decide +kernel
theorem dX6_has_2 : decode cX6_has 2 = .ok (.iload_n 2, 1) := by decide +kernel
theorem dX6_has_3 : decode cX6_has 3 = .ok (.invokevirtual 199, 3) := by decide +kernel
theorem dX6_has_6 : decode cX6_has 6 = .ok (.istore 4, 2) := by decide +kernel
theorem dX6_has_8 : decode cX6_has 8 = .ok (.iload 4, 2) := by decide +kernel
theorem dX6_has_10 : decode cX6_has 10 = .ok (.ifCond .lt 22, 3) := by decide +kernel
theorem dX6_has_13 : decode cX6_has 13 = .ok (.aload_n 0, 1) := by decide +kernel
theorem dX6_has_14 : decode cX6_has 14 = .ok (.sipush 384, 3) := by decide +kernel
theorem dX6_has_17 : decode cX6_has 17 = .ok (.iload 4, 2) := by decide +kernel
theorem dX6_has_19 : decode cX6_has 19 = .ok (.iadd, 1) := by decide +kernel
theorem dX6_has_20 : decode cX6_has 20 = .ok (.invokevirtual 189, 3) := by decide +kernel
theorem dX6_has_23 : decode cX6_has 23 = .ok (.iload_n 3, 1) := by decide +kernel
theorem dX6_has_24 : decode cX6_has 24 = .ok (.iand, 1) := by decide +kernel
theorem dX6_has_25 : decode cX6_has 25 = .ok (.ifCond .eq 7, 3) := by decide +kernel
theorem dX6_has_28 : decode cX6_has 28 = .ok (.iconst 1, 1) := by decide +kernel
theorem dX6_has_29 : decode cX6_has 29 = .ok (.goto 4, 3) := by decide +kernel
theorem dX6_has_32 : decode cX6_has 32 = .ok (.iconst 0, 1) := by decide +kernel
theorem dX6_has_33 : decode cX6_has 33 = .ok (.ireturn, 1) := by decide +kernel
def Mo_has (d : Sl) (a1 : Int32) (a2 : Int32) (a3 : Int32) : Option Int32 :=
  bp (Mo_cover d a1 a2) fun r1 =>
  bnd r1 fun v4_2 =>
  if v4_2 < 0 then
    (some (0 : Int32))
  else
    (bp (Mo_of d ((384 : Int32) + v4_2)) fun r3 =>
    if (r3 &&& a3) = 0 then
      (some (0 : Int32))
    else
      (some (1 : Int32)))
theorem y_X6_has : YV yX6_has cX6_has 5 (some .boolean) 3 := ⟨q1707, q114, q1708, q149, by decide +kernel, by decide +kernel, by decide +kernel, by decide +kernel⟩
theorem r_Mo_has {C : Cxt} {G : Geo} {M : Mem} {k : Nat} (hC : Cx C cX6_has 5 "FrameHeirsModel" (some .boolean) rm_X6_has G) (hk : LMo G k) (d : Sl) (a1 : Int32) (a2 : Int32) (a3 : Int32) : Rz C 5 G (setS M k) (poP avI ((setS M k) d)) 0 [(0, .inr (k, 34)), (1, .inl (.int a1)), (2, .inl (.int a2)), (3, .inl (.int a3))] [] d (Mo_has d a1 a2 a3) := by
  unfold Mo_has
  refine z_aload_n (pc := 0) hC 0 rfl 0 rfl dX6_has_0 ?_
  refine z_iload_n (pc := 1) hC 1 rfl 1 rfl dX6_has_1 ?_
  refine z_iload_n (pc := 2) hC 2 rfl 2 rfl dX6_has_2 ?_
  refine z_piV (pc := 3) (st := []) hC y_X6_cover q1512 [.inl (.int a1), .inl (.int a2)] rfl (hk 34 rfl) rfl rfl (c_X6_cover hC.2.2.2.2.2.2.1 hk) rfl ⟨rfl, rfl, (Nat.le_of_ble_eq_true rfl), (Nat.le_of_ble_eq_true rfl)⟩ (Nat.le_of_ble_eq_true rfl) dX6_has_3 (fun r1 => ?_)
  refine z_istore (pc := 6) (ls1 := fun v => [(4, .inl (.int v)), (0, .inr (k, 34)), (1, .inl (.int a1)), (2, .inl (.int a2)), (3, .inl (.int a3))]) hC 4 (by decide) (fun v => rfl) dX6_has_6 (fun v4_2 => ?_)
  refine z_iload (pc := 8) hC 4 0 rfl dX6_has_8 ?_
  refine z_if_lt (pc := 10) hC 32 rfl dX6_has_10 ?_ ?_
  · refine z_iconst (pc := 32) hC (0 : Int32) rfl dX6_has_32 ?_
    exact z_zret (pc := 33) hC rfl rfl dX6_has_33
  · refine z_aload_n (pc := 13) hC 0 rfl 1 rfl dX6_has_13 ?_
    refine z_sipush (pc := 14) hC (384 : Int32) rfl dX6_has_14 ?_
    refine z_iload (pc := 17) hC 4 0 rfl dX6_has_17 ?_
    refine z_iadd (pc := 19) hC dX6_has_19 ?_
    refine z_piV (pc := 20) (st := []) hC y_X6_of q1262 [.inl (.int ((384 : Int32) + v4_2))] rfl (hk 34 rfl) rfl rfl (c_X6_of hC.2.2.2.2.2.2.1 hk) rfl ⟨rfl, rfl, (Nat.le_of_ble_eq_true rfl), (Nat.le_of_ble_eq_true rfl)⟩ (Nat.le_of_ble_eq_true rfl) dX6_has_20 (fun r3 => ?_)
    refine z_iload_n (pc := 23) hC 3 rfl 4 rfl dX6_has_23 ?_
    refine z_iand (pc := 24) hC dX6_has_24 ?_
    refine z_if_eq (pc := 25) hC 32 rfl dX6_has_25 ?_ ?_
    · refine z_iconst (pc := 32) hC (0 : Int32) rfl dX6_has_32 ?_
      exact z_zret (pc := 33) hC rfl rfl dX6_has_33
    · refine z_iconst (pc := 28) hC (1 : Int32) rfl dX6_has_28 ?_
      refine z_goto (pc := 29) hC 33 rfl dX6_has_29 ?_
      exact z_zret (pc := 33) hC rfl rfl dX6_has_33
theorem c_X6_has {G : Geo} {M : Mem} {k : Nat} (hG : GOk G) (hk : LMo G k) {d : Sl} {a1 : Int32} {a2 : Int32} {a3 : Int32} (l : Launch) (r : Int32) (h : Mo_has d a1 a2 a3 = some r) : Mt l yX6_has cX6_has 5 (some .boolean) rm_X6_has G [.inr (k, 34), .inl (.int a1), .inl (.int a2), .inl (.int a3)] ((setS M k) d) (avI r) ((setS M k) d) :=
  mt_of (mem := (setS M k)) (po := poP avI ((setS M k) d)) (x0 := d) (t := r) rfl hG [.inr (k, 34), .inl (.int a1), .inl (.int a2), .inl (.int a3)] (Nat.le_of_ble_eq_true rfl) rfl (fun C hC => r_Mo_has hC hk d a1 a2 a3) h
-- FrameHeirsModel.waitsFor(III)V
abbrev rm_X6_waitsFor : Room := { frames := 2, cells := 0, slots := 0, locals := 43 }
theorem dX6_waitsFor_0 : decode cX6_waitsFor 0 = .ok (.aload_n 0, 1) := by decide +kernel
theorem dX6_waitsFor_1 : decode cX6_waitsFor 1 = .ok (.sipush 2199, 3) := by decide +kernel
theorem dX6_waitsFor_4 : decode cX6_waitsFor 4 = .ok (.invokevirtual 240, 3) := by decide +kernel
theorem dX6_waitsFor_7 : decode cX6_waitsFor 7 = .ok (.aload_n 0, 1) := by decide +kernel
theorem dX6_waitsFor_8 : decode cX6_waitsFor 8 = .ok (.sipush 2196, 3) := by decide +kernel
theorem dX6_waitsFor_11 : decode cX6_waitsFor 11 = .ok (.invokevirtual 240, 3) := by decide +kernel
theorem dX6_waitsFor_14 : decode cX6_waitsFor 14 = .ok (.aload_n 0, 1) := by decide +kernel
theorem dX6_waitsFor_15 : decode cX6_waitsFor 15 = .ok (.sipush 2172, 3) := by decide +kernel
theorem dX6_waitsFor_18 : decode cX6_waitsFor 18 = .ok (.iload_n 1, 1) := by decide +kernel
theorem dX6_waitsFor_19 : decode cX6_waitsFor 19 = .ok (.iadd, 1) := by decide +kernel
theorem dX6_waitsFor_20 : decode cX6_waitsFor 20 = .ok (.iconst 1, 1) := by decide +kernel
theorem dX6_waitsFor_21 : decode cX6_waitsFor 21 = .ok (.invokevirtual 122, 3) := by decide +kernel
theorem dX6_waitsFor_24 : decode cX6_waitsFor 24 = .ok (.aload_n 0, 1) := by decide +kernel
theorem dX6_waitsFor_25 : decode cX6_waitsFor 25 = .ok (.sipush 2178, 3) := by decide +kernel
theorem dX6_waitsFor_28 : decode cX6_waitsFor 28 = .ok (.iload_n 1, 1) := by decide +kernel
theorem dX6_waitsFor_29 : decode cX6_waitsFor 29 = .ok (.iadd, 1) := by decide +kernel
theorem dX6_waitsFor_30 : decode cX6_waitsFor 30 = .ok (.iload_n 2, 1) := by decide +kernel
theorem dX6_waitsFor_31 : decode cX6_waitsFor 31 = .ok (.invokevirtual 122, 3) := by decide +kernel
theorem dX6_waitsFor_34 : decode cX6_waitsFor 34 = .ok (.aload_n 0, 1) := by decide +kernel
theorem dX6_waitsFor_35 : decode cX6_waitsFor 35 = .ok (.sipush 2184, 3) := by decide +kernel
theorem dX6_waitsFor_38 : decode cX6_waitsFor 38 = .ok (.iload_n 1, 1) := by decide +kernel
theorem dX6_waitsFor_39 : decode cX6_waitsFor 39 = .ok (.iadd, 1) := by decide +kernel
theorem dX6_waitsFor_40 : decode cX6_waitsFor 40 = .ok (.iload_n 3, 1) := by decide +kernel
theorem dX6_waitsFor_41 : decode cX6_waitsFor 41 = .ok (.invokevirtual 122, 3) := by decide +kernel
theorem dX6_waitsFor_44 : decode cX6_waitsFor 44 = .ok (.aload_n 0, 1) := by decide +kernel
theorem dX6_waitsFor_45 : decode cX6_waitsFor 45 = .ok (.sipush 2190, 3) := by decide +kernel
theorem dX6_waitsFor_48 : decode cX6_waitsFor 48 = .ok (.iload_n 1, 1) := by decide +kernel
theorem dX6_waitsFor_49 : decode cX6_waitsFor 49 = .ok (.iadd, 1) := by decide +kernel
theorem dX6_waitsFor_50 : decode cX6_waitsFor 50 = .ok (.aload_n 0, 1) := by decide +kernel
theorem dX6_waitsFor_51 : decode cX6_waitsFor 51 = .ok (.sipush 2196, 3) := by decide +kernel
theorem dX6_waitsFor_54 : decode cX6_waitsFor 54 = .ok (.invokevirtual 189, 3) := by decide +kernel
theorem dX6_waitsFor_57 : decode cX6_waitsFor 57 = .ok (.invokevirtual 122, 3) := by decide +kernel
theorem dX6_waitsFor_60 : decode cX6_waitsFor 60 = .ok (.return_, 1) := by decide +kernel
def Mo_waitsFor (d : Sl) (a1 : Int32) (a2 : Int32) (a3 : Int32) : Option (Unit × Sl) :=
  bd (Mo_more d (2199 : Int32)) fun r1 d2 =>
  bd (Mo_more d2 (2196 : Int32)) fun r3 d4 =>
  bd (Mo_lay d4 ((2172 : Int32) + a1) (1 : Int32)) fun r5 d6 =>
  bd (Mo_lay d6 ((2178 : Int32) + a1) a2) fun r7 d8 =>
  bd (Mo_lay d8 ((2184 : Int32) + a1) a3) fun r9 d10 =>
  bp (Mo_of d10 (2196 : Int32)) fun r11 =>
  bd (Mo_lay d10 ((2190 : Int32) + a1) r11) fun r12 d13 =>
  some ((), d13)
theorem y_X6_waitsFor : YV yX6_waitsFor cX6_waitsFor 4 none 3 := ⟨q1719, q116, q1720, q149, by decide +kernel, by decide +kernel, by decide +kernel, by decide +kernel⟩
theorem r_Mo_waitsFor {C : Cxt} {G : Geo} {M : Mem} {k : Nat} (hC : Cx C cX6_waitsFor 4 "FrameHeirsModel" none rm_X6_waitsFor G) (hk : LMo G k) (d : Sl) (a1 : Int32) (a2 : Int32) (a3 : Int32) : Rz C 4 G (setS M k) (poM avV (setS M k)) 0 [(0, .inr (k, 34)), (1, .inl (.int a1)), (2, .inl (.int a2)), (3, .inl (.int a3))] [] d (Mo_waitsFor d a1 a2 a3) := by
  unfold Mo_waitsFor
  refine z_aload_n (pc := 0) hC 0 rfl 0 rfl dX6_waitsFor_0 ?_
  refine z_sipush (pc := 1) hC (2199 : Int32) rfl dX6_waitsFor_1 ?_
  refine z_cvV (pc := 4) (st := []) hC y_X6_more q1596 [.inl (.int (2199 : Int32))] rfl (hk 34 rfl) rfl rfl (c_X6_more hC.2.2.2.2.2.2.1 hk) rfl ⟨rfl, rfl, (Nat.le_of_ble_eq_true rfl), (Nat.le_of_ble_eq_true rfl)⟩ (Nat.le_of_ble_eq_true rfl) dX6_waitsFor_4 (fun r1 d2 => ?_)
  refine z_aload_n (pc := 7) hC 0 rfl 0 rfl dX6_waitsFor_7 ?_
  refine z_sipush (pc := 8) hC (2196 : Int32) rfl dX6_waitsFor_8 ?_
  refine z_cvV (pc := 11) (st := []) hC y_X6_more q1596 [.inl (.int (2196 : Int32))] rfl (hk 34 rfl) rfl rfl (c_X6_more hC.2.2.2.2.2.2.1 hk) rfl ⟨rfl, rfl, (Nat.le_of_ble_eq_true rfl), (Nat.le_of_ble_eq_true rfl)⟩ (Nat.le_of_ble_eq_true rfl) dX6_waitsFor_11 (fun r3 d4 => ?_)
  refine z_aload_n (pc := 14) hC 0 rfl 0 rfl dX6_waitsFor_14 ?_
  refine z_sipush (pc := 15) hC (2172 : Int32) rfl dX6_waitsFor_15 ?_
  refine z_iload_n (pc := 18) hC 1 rfl 1 rfl dX6_waitsFor_18 ?_
  refine z_iadd (pc := 19) hC dX6_waitsFor_19 ?_
  refine z_iconst (pc := 20) hC (1 : Int32) rfl dX6_waitsFor_20 ?_
  refine z_cvV (pc := 21) (st := []) hC y_X6_lay q1246 [.inl (.int ((2172 : Int32) + a1)), .inl (.int (1 : Int32))] rfl (hk 34 rfl) rfl rfl (c_X6_lay hC.2.2.2.2.2.2.1 hk) rfl ⟨rfl, rfl, (Nat.le_of_ble_eq_true rfl), (Nat.le_of_ble_eq_true rfl)⟩ (Nat.le_of_ble_eq_true rfl) dX6_waitsFor_21 (fun r5 d6 => ?_)
  refine z_aload_n (pc := 24) hC 0 rfl 0 rfl dX6_waitsFor_24 ?_
  refine z_sipush (pc := 25) hC (2178 : Int32) rfl dX6_waitsFor_25 ?_
  refine z_iload_n (pc := 28) hC 1 rfl 1 rfl dX6_waitsFor_28 ?_
  refine z_iadd (pc := 29) hC dX6_waitsFor_29 ?_
  refine z_iload_n (pc := 30) hC 2 rfl 2 rfl dX6_waitsFor_30 ?_
  refine z_cvV (pc := 31) (st := []) hC y_X6_lay q1246 [.inl (.int ((2178 : Int32) + a1)), .inl (.int a2)] rfl (hk 34 rfl) rfl rfl (c_X6_lay hC.2.2.2.2.2.2.1 hk) rfl ⟨rfl, rfl, (Nat.le_of_ble_eq_true rfl), (Nat.le_of_ble_eq_true rfl)⟩ (Nat.le_of_ble_eq_true rfl) dX6_waitsFor_31 (fun r7 d8 => ?_)
  refine z_aload_n (pc := 34) hC 0 rfl 0 rfl dX6_waitsFor_34 ?_
  refine z_sipush (pc := 35) hC (2184 : Int32) rfl dX6_waitsFor_35 ?_
  refine z_iload_n (pc := 38) hC 1 rfl 1 rfl dX6_waitsFor_38 ?_
  refine z_iadd (pc := 39) hC dX6_waitsFor_39 ?_
  refine z_iload_n (pc := 40) hC 3 rfl 3 rfl dX6_waitsFor_40 ?_
  refine z_cvV (pc := 41) (st := []) hC y_X6_lay q1246 [.inl (.int ((2184 : Int32) + a1)), .inl (.int a3)] rfl (hk 34 rfl) rfl rfl (c_X6_lay hC.2.2.2.2.2.2.1 hk) rfl ⟨rfl, rfl, (Nat.le_of_ble_eq_true rfl), (Nat.le_of_ble_eq_true rfl)⟩ (Nat.le_of_ble_eq_true rfl) dX6_waitsFor_41 (fun r9 d10 => ?_)
  refine z_aload_n (pc := 44) hC 0 rfl 0 rfl dX6_waitsFor_44 ?_
  refine z_sipush (pc := 45) hC (2190 : Int32) rfl dX6_waitsFor_45 ?_
  refine z_iload_n (pc := 48) hC 1 rfl 1 rfl dX6_waitsFor_48 ?_
  refine z_iadd (pc := 49) hC dX6_waitsFor_49 ?_
  refine z_aload_n (pc := 50) hC 0 rfl 0 rfl dX6_waitsFor_50 ?_
  refine z_sipush (pc := 51) hC (2196 : Int32) rfl dX6_waitsFor_51 ?_
  refine z_piV (pc := 54) (st := [.inl (.int ((2190 : Int32) + a1)), .inr (k, 34)]) hC y_X6_of q1262 [.inl (.int (2196 : Int32))] rfl (hk 34 rfl) rfl rfl (c_X6_of hC.2.2.2.2.2.2.1 hk) rfl ⟨rfl, rfl, (Nat.le_of_ble_eq_true rfl), (Nat.le_of_ble_eq_true rfl)⟩ (Nat.le_of_ble_eq_true rfl) dX6_waitsFor_54 (fun r11 => ?_)
  refine z_cvV (pc := 57) (st := []) hC y_X6_lay q1246 [.inl (.int ((2190 : Int32) + a1)), .inl (.int r11)] rfl (hk 34 rfl) rfl rfl (c_X6_lay hC.2.2.2.2.2.2.1 hk) rfl ⟨rfl, rfl, (Nat.le_of_ble_eq_true rfl), (Nat.le_of_ble_eq_true rfl)⟩ (Nat.le_of_ble_eq_true rfl) dX6_waitsFor_57 (fun r12 d13 => ?_)
  exact z_vret (pc := 60) hC rfl dX6_waitsFor_60
theorem c_X6_waitsFor {G : Geo} {M : Mem} {k : Nat} (hG : GOk G) (hk : LMo G k) {d : Sl} {a1 : Int32} {a2 : Int32} {a3 : Int32} (l : Launch) (r : Unit) (d1 : Sl) (h : Mo_waitsFor d a1 a2 a3 = some (r, d1)) : Mt l yX6_waitsFor cX6_waitsFor 4 none rm_X6_waitsFor G [.inr (k, 34), .inl (.int a1), .inl (.int a2), .inl (.int a3)] ((setS M k) d) (avV r) ((setS M k) d1) :=
  mt_of (mem := (setS M k)) (po := poM avV (setS M k)) (x0 := d) (t := (r, d1)) rfl hG [.inr (k, 34), .inl (.int a1), .inl (.int a2), .inl (.int a3)] (Nat.le_of_ble_eq_true rfl) rfl (fun C hC => r_Mo_waitsFor hC hk d a1 a2 a3) h
-- FrameHeirsModel.isWaiting(I)Z
abbrev rm_X6_isWaiting : Room := { frames := 1, cells := 0, slots := 0, locals := 21 }
theorem dX6_isWaiting_0 : decode cX6_isWaiting 0 = .ok (.aload_n 0, 1) := by decide +kernel
theorem dX6_isWaiting_1 : decode cX6_isWaiting 1 = .ok (.sipush 2172, 3) := by decide +kernel
theorem dX6_isWaiting_4 : decode cX6_isWaiting 4 = .ok (.iload_n 1, 1) := by decide +kernel
theorem dX6_isWaiting_5 : decode cX6_isWaiting 5 = .ok (.iadd, 1) := by decide +kernel
theorem dX6_isWaiting_6 : decode cX6_isWaiting 6 = .ok (.invokevirtual 189, 3) := by decide +kernel
theorem dX6_isWaiting_9 : decode cX6_isWaiting 9 = .ok (.iconst 1, 1) := by decide +kernel
theorem dX6_isWaiting_10 : decode cX6_isWaiting 10 = .ok (.if_icmp .ne 7, 3) := by decide +kernel
theorem dX6_isWaiting_13 : decode cX6_isWaiting 13 = .ok (.iconst 1, 1) := by decide +kernel
theorem dX6_isWaiting_14 : decode cX6_isWaiting 14 = .ok (.goto 4, 3) := by decide +kernel
theorem dX6_isWaiting_17 : decode cX6_isWaiting 17 = .ok (.iconst 0, 1) := by decide +kernel
theorem dX6_isWaiting_18 : decode cX6_isWaiting 18 = .ok (.ireturn, 1) := by decide +kernel
def Mo_isWaiting (d : Sl) (a1 : Int32) : Option Int32 :=
  bp (Mo_of d ((2172 : Int32) + a1)) fun r1 =>
  if r1 = (1 : Int32) then
    (some (1 : Int32))
  else
    (some (0 : Int32))
theorem y_X6_isWaiting : YV yX6_isWaiting cX6_isWaiting 2 (some .boolean) 1 := ⟨q1699, q112, q1700, q149, by decide +kernel, by decide +kernel, by decide +kernel, by decide +kernel⟩
theorem r_Mo_isWaiting {C : Cxt} {G : Geo} {M : Mem} {k : Nat} (hC : Cx C cX6_isWaiting 2 "FrameHeirsModel" (some .boolean) rm_X6_isWaiting G) (hk : LMo G k) (d : Sl) (a1 : Int32) : Rz C 2 G (setS M k) (poP avI ((setS M k) d)) 0 [(0, .inr (k, 34)), (1, .inl (.int a1))] [] d (Mo_isWaiting d a1) := by
  unfold Mo_isWaiting
  refine z_aload_n (pc := 0) hC 0 rfl 0 rfl dX6_isWaiting_0 ?_
  refine z_sipush (pc := 1) hC (2172 : Int32) rfl dX6_isWaiting_1 ?_
  refine z_iload_n (pc := 4) hC 1 rfl 1 rfl dX6_isWaiting_4 ?_
  refine z_iadd (pc := 5) hC dX6_isWaiting_5 ?_
  refine z_piV (pc := 6) (st := []) hC y_X6_of q1262 [.inl (.int ((2172 : Int32) + a1))] rfl (hk 34 rfl) rfl rfl (c_X6_of hC.2.2.2.2.2.2.1 hk) rfl ⟨rfl, rfl, (Nat.le_of_ble_eq_true rfl), (Nat.le_of_ble_eq_true rfl)⟩ (Nat.le_of_ble_eq_true rfl) dX6_isWaiting_6 (fun r1 => ?_)
  refine z_iconst (pc := 9) hC (1 : Int32) rfl dX6_isWaiting_9 ?_
  refine z_icmp_ne (pc := 10) hC 17 rfl dX6_isWaiting_10 ?_ ?_
  · refine z_iconst (pc := 17) hC (0 : Int32) rfl dX6_isWaiting_17 ?_
    exact z_zret (pc := 18) hC rfl rfl dX6_isWaiting_18
  · refine z_iconst (pc := 13) hC (1 : Int32) rfl dX6_isWaiting_13 ?_
    refine z_goto (pc := 14) hC 18 rfl dX6_isWaiting_14 ?_
    exact z_zret (pc := 18) hC rfl rfl dX6_isWaiting_18
theorem c_X6_isWaiting {G : Geo} {M : Mem} {k : Nat} (hG : GOk G) (hk : LMo G k) {d : Sl} {a1 : Int32} (l : Launch) (r : Int32) (h : Mo_isWaiting d a1 = some r) : Mt l yX6_isWaiting cX6_isWaiting 2 (some .boolean) rm_X6_isWaiting G [.inr (k, 34), .inl (.int a1)] ((setS M k) d) (avI r) ((setS M k) d) :=
  mt_of (mem := (setS M k)) (po := poP avI ((setS M k) d)) (x0 := d) (t := r) rfl hG [.inr (k, 34), .inl (.int a1)] (Nat.le_of_ble_eq_true rfl) rfl (fun C hC => r_Mo_isWaiting hC hk d a1) h
-- FrameHeirsModel.isTouch(III)Z
abbrev rm_X6_isTouch : Room := { frames := 2, cells := 0, slots := 0, locals := 42 }
theorem dX6_isTouch_0 : decode cX6_isTouch 0 = .ok (.aload_n 0, 1) := by decide +kernel
theorem dX6_isTouch_1 : decode cX6_isTouch 1 = .ok (.iload_n 1, 1) := by decide +kernel
theorem dX6_isTouch_2 : decode cX6_isTouch 2 = .ok (.invokevirtual 264, 3) := by decide +kernel
theorem dX6_isTouch_5 : decode cX6_isTouch 5 = .ok (.ifCond .eq 38, 3) := by decide +kernel
theorem dX6_isTouch_8 : decode cX6_isTouch 8 = .ok (.aload_n 0, 1) := by decide +kernel
theorem dX6_isTouch_9 : decode cX6_isTouch 9 = .ok (.iload_n 2, 1) := by decide +kernel
theorem dX6_isTouch_10 : decode cX6_isTouch 10 = .ok (.invokevirtual 252, 3) := by decide +kernel
theorem dX6_isTouch_13 : decode cX6_isTouch 13 = .ok (.ifCond .eq 30, 3) := by decide +kernel
theorem dX6_isTouch_16 : decode cX6_isTouch 16 = .ok (.iload_n 3, 1) := by decide +kernel
theorem dX6_isTouch_17 : decode cX6_isTouch 17 = .ok (.iconst 1, 1) := by decide +kernel
theorem dX6_isTouch_18 : decode cX6_isTouch 18 = .ok (.if_icmp .eq 13, 3) := by decide +kernel
theorem dX6_isTouch_21 : decode cX6_isTouch 21 = .ok (.iload_n 3, 1) := by decide +kernel
theorem dX6_isTouch_22 : decode cX6_isTouch 22 = .ok (.iconst 2, 1) := by decide +kernel
theorem dX6_isTouch_23 : decode cX6_isTouch 23 = .ok (.if_icmp .eq 8, 3) := by decide +kernel
theorem dX6_isTouch_26 : decode cX6_isTouch 26 = .ok (.iload_n 3, 1) := by decide +kernel
theorem dX6_isTouch_27 : decode cX6_isTouch 27 = .ok (.iconst 4, 1) := by decide +kernel
theorem dX6_isTouch_28 : decode cX6_isTouch 28 = .ok (.if_icmp .ne 15, 3) := by decide +kernel
theorem dX6_isTouch_31 : decode cX6_isTouch 31 = .ok (.aload_n 0, 1) := by decide +kernel
theorem dX6_isTouch_32 : decode cX6_isTouch 32 = .ok (.iload_n 1, 1) := by decide +kernel
theorem dX6_isTouch_33 : decode cX6_isTouch 33 = .ok (.invokevirtual 376, 3) := by decide +kernel
theorem dX6_isTouch_36 : decode cX6_isTouch 36 = .ok (.ifCond .ne 7, 3) := by decide +kernel
theorem dX6_isTouch_39 : decode cX6_isTouch 39 = .ok (.iconst 1, 1) := by decide +kernel
theorem dX6_isTouch_40 : decode cX6_isTouch 40 = .ok (.goto 4, 3) := by decide +kernel
theorem dX6_isTouch_43 : decode cX6_isTouch 43 = .ok (.iconst 0, 1) := by decide +kernel
theorem dX6_isTouch_44 : decode cX6_isTouch 44 = .ok (.ireturn, 1) := by decide +kernel
def Mo_isTouch_31 (d : Sl) (v1 : Int32) : Option Int32 :=
  bp (Mo_isWaiting d v1) fun r1 =>
  if r1 = 0 then
    (some (1 : Int32))
  else
    (some (0 : Int32))
def Mo_isTouch (d : Sl) (a1 : Int32) (a2 : Int32) (a3 : Int32) : Option Int32 :=
  bp (Mo_isSpace d a1) fun r2 =>
  if r2 = 0 then
    (some (0 : Int32))
  else
    (bp (Mo_isPlace d a2) fun r3 =>
    if r3 = 0 then
      (some (0 : Int32))
    else
      (if a3 = (1 : Int32) then
        (Mo_isTouch_31 d a1)
      else
        (if a3 = (2 : Int32) then
          (Mo_isTouch_31 d a1)
        else
          (if a3 = (4 : Int32) then
            (Mo_isTouch_31 d a1)
          else
            (some (0 : Int32))))))
theorem y_X6_isTouch : YV yX6_isTouch cX6_isTouch 4 (some .boolean) 3 := ⟨q1695, q111, q1696, q149, by decide +kernel, by decide +kernel, by decide +kernel, by decide +kernel⟩
theorem r_Mo_isTouch_31 {C : Cxt} {G : Geo} {M : Mem} {k : Nat} {d : Sl} (hC : Cx C cX6_isTouch 4 "FrameHeirsModel" (some .boolean) rm_X6_isTouch G) (hk : LMo G k) (v1 : Int32) : Rz C 4 G (setS M k) (poP avI ((setS M k) d)) 31 [(0, .inr (k, 34)), (1, .inl (.int v1))] [] d (Mo_isTouch_31 d v1) := by
  unfold Mo_isTouch_31
  refine z_aload_n (pc := 31) hC 0 rfl 0 rfl dX6_isTouch_31 ?_
  refine z_iload_n (pc := 32) hC 1 rfl 1 rfl dX6_isTouch_32 ?_
  refine z_piV (pc := 33) (st := []) hC y_X6_isWaiting q1697 [.inl (.int v1)] rfl (hk 34 rfl) rfl rfl (c_X6_isWaiting hC.2.2.2.2.2.2.1 hk) rfl ⟨rfl, rfl, (Nat.le_of_ble_eq_true rfl), (Nat.le_of_ble_eq_true rfl)⟩ (Nat.le_of_ble_eq_true rfl) dX6_isTouch_33 (fun r1 => ?_)
  refine z_if_ne (pc := 36) hC 43 rfl dX6_isTouch_36 ?_ ?_
  · refine z_iconst (pc := 43) hC (0 : Int32) rfl dX6_isTouch_43 ?_
    exact z_zret (pc := 44) hC rfl rfl dX6_isTouch_44
  · refine z_iconst (pc := 39) hC (1 : Int32) rfl dX6_isTouch_39 ?_
    refine z_goto (pc := 40) hC 44 rfl dX6_isTouch_40 ?_
    exact z_zret (pc := 44) hC rfl rfl dX6_isTouch_44
theorem r_Mo_isTouch {C : Cxt} {G : Geo} {M : Mem} {k : Nat} (hC : Cx C cX6_isTouch 4 "FrameHeirsModel" (some .boolean) rm_X6_isTouch G) (hk : LMo G k) (d : Sl) (a1 : Int32) (a2 : Int32) (a3 : Int32) : Rz C 4 G (setS M k) (poP avI ((setS M k) d)) 0 [(0, .inr (k, 34)), (1, .inl (.int a1)), (2, .inl (.int a2)), (3, .inl (.int a3))] [] d (Mo_isTouch d a1 a2 a3) := by
  unfold Mo_isTouch
  refine z_aload_n (pc := 0) hC 0 rfl 0 rfl dX6_isTouch_0 ?_
  refine z_iload_n (pc := 1) hC 1 rfl 1 rfl dX6_isTouch_1 ?_
  refine z_piV (pc := 2) (st := []) hC y_X6_isSpace q1484 [.inl (.int a1)] rfl (hk 34 rfl) rfl rfl (c_X6_isSpace hC.2.2.2.2.2.2.1 hk) rfl ⟨rfl, rfl, (Nat.le_of_ble_eq_true rfl), (Nat.le_of_ble_eq_true rfl)⟩ (Nat.le_of_ble_eq_true rfl) dX6_isTouch_2 (fun r2 => ?_)
  refine z_if_eq (pc := 5) hC 43 rfl dX6_isTouch_5 ?_ ?_
  · refine z_iconst (pc := 43) hC (0 : Int32) rfl dX6_isTouch_43 ?_
    exact z_zret (pc := 44) hC rfl rfl dX6_isTouch_44
  · refine z_aload_n (pc := 8) hC 0 rfl 0 rfl dX6_isTouch_8 ?_
    refine z_iload_n (pc := 9) hC 2 rfl 2 rfl dX6_isTouch_9 ?_
    refine z_piV (pc := 10) (st := []) hC y_X6_isPlace q1496 [.inl (.int a2)] rfl (hk 34 rfl) rfl rfl (c_X6_isPlace hC.2.2.2.2.2.2.1 hk) rfl ⟨rfl, rfl, (Nat.le_of_ble_eq_true rfl), (Nat.le_of_ble_eq_true rfl)⟩ (Nat.le_of_ble_eq_true rfl) dX6_isTouch_10 (fun r3 => ?_)
    refine z_if_eq (pc := 13) hC 43 rfl dX6_isTouch_13 ?_ ?_
    · refine z_iconst (pc := 43) hC (0 : Int32) rfl dX6_isTouch_43 ?_
      exact z_zret (pc := 44) hC rfl rfl dX6_isTouch_44
    · refine z_iload_n (pc := 16) hC 3 rfl 3 rfl dX6_isTouch_16 ?_
      refine z_iconst (pc := 17) hC (1 : Int32) rfl dX6_isTouch_17 ?_
      refine z_icmp_eq (pc := 18) hC 31 rfl dX6_isTouch_18 ?_ ?_
      · exact z_sub [0, 1] rfl (r_Mo_isTouch_31 hC hk a1)
      · refine z_iload_n (pc := 21) hC 3 rfl 3 rfl dX6_isTouch_21 ?_
        refine z_iconst (pc := 22) hC (2 : Int32) rfl dX6_isTouch_22 ?_
        refine z_icmp_eq (pc := 23) hC 31 rfl dX6_isTouch_23 ?_ ?_
        · exact z_sub [0, 1] rfl (r_Mo_isTouch_31 hC hk a1)
        · refine z_iload_n (pc := 26) hC 3 rfl 3 rfl dX6_isTouch_26 ?_
          refine z_iconst (pc := 27) hC (4 : Int32) rfl dX6_isTouch_27 ?_
          refine z_icmp_ne (pc := 28) hC 43 rfl dX6_isTouch_28 ?_ ?_
          · refine z_iconst (pc := 43) hC (0 : Int32) rfl dX6_isTouch_43 ?_
            exact z_zret (pc := 44) hC rfl rfl dX6_isTouch_44
          · exact z_sub [0, 1] rfl (r_Mo_isTouch_31 hC hk a1)
theorem c_X6_isTouch {G : Geo} {M : Mem} {k : Nat} (hG : GOk G) (hk : LMo G k) {d : Sl} {a1 : Int32} {a2 : Int32} {a3 : Int32} (l : Launch) (r : Int32) (h : Mo_isTouch d a1 a2 a3 = some r) : Mt l yX6_isTouch cX6_isTouch 4 (some .boolean) rm_X6_isTouch G [.inr (k, 34), .inl (.int a1), .inl (.int a2), .inl (.int a3)] ((setS M k) d) (avI r) ((setS M k) d) :=
  mt_of (mem := (setS M k)) (po := poP avI ((setS M k) d)) (x0 := d) (t := r) rfl hG [.inr (k, 34), .inl (.int a1), .inl (.int a2), .inl (.int a3)] (Nat.le_of_ble_eq_true rfl) rfl (fun C hC => r_Mo_isTouch hC hk d a1 a2 a3) h
-- FrameHeirsModel.touched(III)I
abbrev rm_X6_touched : Room := { frames := 3, cells := 0, slots := 0, locals := 69 }
theorem dX6_touched_0 : decode cX6_touched 0 = .ok (.aload_n 0, 1) := by decide +kernel
theorem dX6_touched_1 : decode cX6_touched 1 = .ok (.iload_n 1, 1) := by decide +kernel
theorem dX6_touched_2 : decode cX6_touched 2 = .ok (.iload_n 2, 1) := by decide +kernel
theorem dX6_touched_3 : decode cX6_touched 3 = .ok (.iload_n 3, 1) := by decide +kernel
theorem dX6_touched_4 : decode cX6_touched 4 = .ok (.invokevirtual 379, 3) := by decide +kernel
theorem dX6_touched_7 : decode cX6_touched 7 = .ok (.ifCond .eq 44, 3) := by decide +kernel
theorem dX6_touched_10 : decode cX6_touched 10 = .ok (.aload_n 0, 1) := by decide +kernel
theorem dX6_touched_11 : decode cX6_touched 11 = .ok (.iload_n 1, 1) := by decide +kernel
theorem dX6_touched_12 : decode cX6_touched 12 = .ok (.iload_n 2, 1) := by decide +kernel
theorem dX6_touched_13 : decode cX6_touched 13 = .ok (.invokevirtual 199, 3) := by decide +kernel
theorem dX6_touched_16 : decode cX6_touched 16 = .ok (.istore 4, 2) := by decide +kernel
theorem dX6_touched_18 : decode cX6_touched 18 = .ok (.aload_n 0, 1) := by decide +kernel
theorem dX6_touched_19 : decode cX6_touched 19 = .ok (.sipush 1536, 3) := by decide +kernel
theorem dX6_touched_22 : decode cX6_touched 22 = .ok (.iload 4, 2) := by decide +kernel
theorem dX6_touched_24 : decode cX6_touched 24 = .ok (.iadd, 1) := by decide +kernel
theorem dX6_touched_25 : decode cX6_touched 25 = .ok (.aload_n 0, 1) := by decide +kernel
theorem dX6_touched_26 : decode cX6_touched 26 = .ok (.sipush 1536, 3) := by decide +kernel
theorem dX6_touched_29 : decode cX6_touched 29 = .ok (.iload 4, 2) := by decide +kernel
theorem dX6_touched_31 : decode cX6_touched 31 = .ok (.iadd, 1) := by decide +kernel
theorem dX6_touched_32 : decode cX6_touched 32 = .ok (.invokevirtual 189, 3) := by decide +kernel
theorem dX6_touched_35 : decode cX6_touched 35 = .ok (.ldc_w 382, 3) := by decide +kernel
theorem dX6_touched_38 : decode cX6_touched 38 = .ok (.invokestatic 364, 3) := by decide +kernel
theorem dX6_touched_41 : decode cX6_touched 41 = .ok (.invokevirtual 122, 3) := by decide +kernel
theorem dX6_touched_44 : decode cX6_touched 44 = .ok (.aload_n 0, 1) := by decide +kernel
theorem dX6_touched_45 : decode cX6_touched 45 = .ok (.iload_n 1, 1) := by decide +kernel
theorem dX6_touched_46 : decode cX6_touched 46 = .ok (.iload_n 2, 1) := by decide +kernel
theorem dX6_touched_47 : decode cX6_touched 47 = .ok (.invokevirtual 383, 3) := by decide +kernel
theorem dX6_touched_50 : decode cX6_touched 50 = .ok (.ireturn, 1) := by decide +kernel
theorem dX6_touched_51 : decode cX6_touched 51 = .ok (.aload_n 0, 1) := by decide +kernel
theorem dX6_touched_52 : decode cX6_touched 52 = .ok (.getfield 23, 3) := by decide +kernel
theorem dX6_touched_55 : decode cX6_touched 55 = .ok (.iload_n 1, 1) := by decide +kernel
theorem dX6_touched_56 : decode cX6_touched 56 = .ok (.iaload, 1) := by decide +kernel
theorem dX6_touched_57 : decode cX6_touched 57 = .ok (.ifCond .ge 6, 3) := by decide +kernel
theorem dX6_touched_60 : decode cX6_touched 60 = .ok (.bipush (-3), 2) := by decide +kernel
theorem dX6_touched_62 : decode cX6_touched 62 = .ok (.ireturn, 1) := by decide +kernel
theorem dX6_touched_63 : decode cX6_touched 63 = .ok (.aload_n 0, 1) := by decide +kernel
theorem dX6_touched_64 : decode cX6_touched 64 = .ok (.iload_n 1, 1) := by decide +kernel
theorem dX6_touched_65 : decode cX6_touched 65 = .ok (.iload_n 2, 1) := by decide +kernel
theorem dX6_touched_66 : decode cX6_touched 66 = .ok (.iload_n 3, 1) := by decide +kernel
theorem dX6_touched_67 : decode cX6_touched 67 = .ok (.invokevirtual 386, 3) := by decide +kernel
theorem dX6_touched_70 : decode cX6_touched 70 = .ok (.bipush (-2), 2) := by decide +kernel
theorem dX6_touched_72 : decode cX6_touched 72 = .ok (.ireturn, 1) := by decide +kernel
def Mo_touched (d : Sl) (a1 : Int32) (a2 : Int32) (a3 : Int32) : Option (Int32 × Sl) :=
  bp (Mo_has d a1 a2 a3) fun r1 =>
  if r1 = 0 then
    (if inb a1 12 then
    if 0 ≤ (d 38 (ix a1)) then
      (bd (Mo_waitsFor d a1 a2 a3) fun r2 d3 =>
      some ((-2 : Int32), d3))
    else
      (some ((-3 : Int32), d))
    else none)
  else
    (bp (Mo_cover d a1 a2) fun r4 =>
    bnd r4 fun v4_5 =>
    bp (Mo_of d ((1536 : Int32) + v4_5)) fun r6 =>
    bp (Mo_added r6 (1065353216 : Int32)) fun r7 =>
    bd (Mo_lay d ((1536 : Int32) + v4_5) r7) fun r8 d9 =>
    bp (Mo_frameAt d9 a1 a2) fun r10 =>
    some (r10, d9))
theorem y_X6_touched : YV yX6_touched cX6_touched 5 (some .int) 3 := ⟨q1703, q113, q1704, q149, by decide +kernel, by decide +kernel, by decide +kernel, by decide +kernel⟩
theorem r_Mo_touched {C : Cxt} {G : Geo} {M : Mem} {k : Nat} (hC : Cx C cX6_touched 5 "FrameHeirsModel" (some .int) rm_X6_touched G) (hk : LMo G k) (d : Sl) (a1 : Int32) (a2 : Int32) (a3 : Int32) : Rz C 5 G (setS M k) (poM avI (setS M k)) 0 [(0, .inr (k, 34)), (1, .inl (.int a1)), (2, .inl (.int a2)), (3, .inl (.int a3))] [] d (Mo_touched d a1 a2 a3) := by
  unfold Mo_touched
  refine z_aload_n (pc := 0) hC 0 rfl 0 rfl dX6_touched_0 ?_
  refine z_iload_n (pc := 1) hC 1 rfl 1 rfl dX6_touched_1 ?_
  refine z_iload_n (pc := 2) hC 2 rfl 2 rfl dX6_touched_2 ?_
  refine z_iload_n (pc := 3) hC 3 rfl 3 rfl dX6_touched_3 ?_
  refine z_piV (pc := 4) (st := []) hC y_X6_has q1705 [.inl (.int a1), .inl (.int a2), .inl (.int a3)] rfl (hk 34 rfl) rfl rfl (c_X6_has hC.2.2.2.2.2.2.1 hk) rfl ⟨rfl, rfl, (Nat.le_of_ble_eq_true rfl), (Nat.le_of_ble_eq_true rfl)⟩ (Nat.le_of_ble_eq_true rfl) dX6_touched_4 (fun r1 => ?_)
  refine z_if_eq (pc := 7) hC 51 rfl dX6_touched_7 ?_ ?_
  · refine z_aload_n (pc := 51) hC 0 rfl 0 rfl dX6_touched_51 ?_
    refine z_getc (pc := 52) hC (hk 34 rfl) f_34_16 q1286 dX6_touched_52 ?_
    refine z_iload_n (pc := 55) hC 1 rfl 1 rfl dX6_touched_55 ?_
    refine zs_iald (pc := 56) hC (hk 38 rfl) rfl dX6_touched_56 ?_
    refine z_if_ge (pc := 57) hC 63 rfl dX6_touched_57 ?_ ?_
    · refine z_aload_n (pc := 63) hC 0 rfl 0 rfl dX6_touched_63 ?_
      refine z_iload_n (pc := 64) hC 1 rfl 1 rfl dX6_touched_64 ?_
      refine z_iload_n (pc := 65) hC 2 rfl 2 rfl dX6_touched_65 ?_
      refine z_iload_n (pc := 66) hC 3 rfl 3 rfl dX6_touched_66 ?_
      refine z_cvV (pc := 67) (st := []) hC y_X6_waitsFor q1717 [.inl (.int a1), .inl (.int a2), .inl (.int a3)] rfl (hk 34 rfl) rfl rfl (c_X6_waitsFor hC.2.2.2.2.2.2.1 hk) rfl ⟨rfl, rfl, (Nat.le_of_ble_eq_true rfl), (Nat.le_of_ble_eq_true rfl)⟩ (Nat.le_of_ble_eq_true rfl) dX6_touched_67 (fun r2 d3 => ?_)
      refine z_bipush (pc := 70) hC (-2 : Int32) rfl dX6_touched_70 ?_
      exact z_iret (pc := 72) hC rfl dX6_touched_72
    · refine z_bipush (pc := 60) hC (-3 : Int32) rfl dX6_touched_60 ?_
      exact z_iret (pc := 62) hC rfl dX6_touched_62
  · refine z_aload_n (pc := 10) hC 0 rfl 0 rfl dX6_touched_10 ?_
    refine z_iload_n (pc := 11) hC 1 rfl 1 rfl dX6_touched_11 ?_
    refine z_iload_n (pc := 12) hC 2 rfl 2 rfl dX6_touched_12 ?_
    refine z_piV (pc := 13) (st := []) hC y_X6_cover q1512 [.inl (.int a1), .inl (.int a2)] rfl (hk 34 rfl) rfl rfl (c_X6_cover hC.2.2.2.2.2.2.1 hk) rfl ⟨rfl, rfl, (Nat.le_of_ble_eq_true rfl), (Nat.le_of_ble_eq_true rfl)⟩ (Nat.le_of_ble_eq_true rfl) dX6_touched_13 (fun r4 => ?_)
    refine z_istore (pc := 16) (ls1 := fun v => [(4, .inl (.int v)), (0, .inr (k, 34)), (1, .inl (.int a1)), (2, .inl (.int a2)), (3, .inl (.int a3))]) hC 4 (by decide) (fun v => rfl) dX6_touched_16 (fun v4_5 => ?_)
    refine z_aload_n (pc := 18) hC 0 rfl 1 rfl dX6_touched_18 ?_
    refine z_sipush (pc := 19) hC (1536 : Int32) rfl dX6_touched_19 ?_
    refine z_iload (pc := 22) hC 4 0 rfl dX6_touched_22 ?_
    refine z_iadd (pc := 24) hC dX6_touched_24 ?_
    refine z_aload_n (pc := 25) hC 0 rfl 1 rfl dX6_touched_25 ?_
    refine z_sipush (pc := 26) hC (1536 : Int32) rfl dX6_touched_26 ?_
    refine z_iload (pc := 29) hC 4 0 rfl dX6_touched_29 ?_
    refine z_iadd (pc := 31) hC dX6_touched_31 ?_
    refine z_piV (pc := 32) (st := [.inl (.int ((1536 : Int32) + v4_5)), .inr (k, 34)]) hC y_X6_of q1262 [.inl (.int ((1536 : Int32) + v4_5))] rfl (hk 34 rfl) rfl rfl (c_X6_of hC.2.2.2.2.2.2.1 hk) rfl ⟨rfl, rfl, (Nat.le_of_ble_eq_true rfl), (Nat.le_of_ble_eq_true rfl)⟩ (Nat.le_of_ble_eq_true rfl) dX6_touched_32 (fun r6 => ?_)
    refine z_ldcw (pc := 35) hC (1065353216 : Int32) q1709 dX6_touched_35 ?_
    refine z_piS (pc := 38) (st := [.inl (.int ((1536 : Int32) + v4_5)), .inr (k, 34)]) hC y_X6_added q1710 [.inl (.int r6), .inl (.int (1065353216 : Int32))] rfl (c_X6_added hC.2.2.2.2.2.2.1) rfl ⟨rfl, rfl, (Nat.le_of_ble_eq_true rfl), (Nat.le_of_ble_eq_true rfl)⟩ (Nat.le_of_ble_eq_true rfl) dX6_touched_38 (fun r7 => ?_)
    refine z_cvV (pc := 41) (st := []) hC y_X6_lay q1246 [.inl (.int ((1536 : Int32) + v4_5)), .inl (.int r7)] rfl (hk 34 rfl) rfl rfl (c_X6_lay hC.2.2.2.2.2.2.1 hk) rfl ⟨rfl, rfl, (Nat.le_of_ble_eq_true rfl), (Nat.le_of_ble_eq_true rfl)⟩ (Nat.le_of_ble_eq_true rfl) dX6_touched_41 (fun r8 d9 => ?_)
    refine z_aload_n (pc := 44) hC 0 rfl 1 rfl dX6_touched_44 ?_
    refine z_iload_n (pc := 45) hC 1 rfl 2 rfl dX6_touched_45 ?_
    refine z_iload_n (pc := 46) hC 2 rfl 3 rfl dX6_touched_46 ?_
    refine z_piV (pc := 47) (st := []) hC y_X6_frameAt q1713 [.inl (.int a1), .inl (.int a2)] rfl (hk 34 rfl) rfl rfl (c_X6_frameAt hC.2.2.2.2.2.2.1 hk) rfl ⟨rfl, rfl, (Nat.le_of_ble_eq_true rfl), (Nat.le_of_ble_eq_true rfl)⟩ (Nat.le_of_ble_eq_true rfl) dX6_touched_47 (fun r10 => ?_)
    exact z_iret (pc := 50) hC rfl dX6_touched_50
theorem c_X6_touched {G : Geo} {M : Mem} {k : Nat} (hG : GOk G) (hk : LMo G k) {d : Sl} {a1 : Int32} {a2 : Int32} {a3 : Int32} (l : Launch) (r : Int32) (d1 : Sl) (h : Mo_touched d a1 a2 a3 = some (r, d1)) : Mt l yX6_touched cX6_touched 5 (some .int) rm_X6_touched G [.inr (k, 34), .inl (.int a1), .inl (.int a2), .inl (.int a3)] ((setS M k) d) (avI r) ((setS M k) d1) :=
  mt_of (mem := (setS M k)) (po := poM avI (setS M k)) (x0 := d) (t := (r, d1)) rfl hG [.inr (k, 34), .inl (.int a1), .inl (.int a2), .inl (.int a3)] (Nat.le_of_ble_eq_true rfl) rfl (fun C hC => r_Mo_touched hC hk d a1 a2 a3) h
-- FrameHeirsModel.touch(III)I
abbrev rm_X6_touch : Room := { frames := 4, cells := 0, slots := 0, locals := 93 }
theorem dX6_touch_0 : decode cX6_touch 0 = .ok (.aload_n 0, 1) := by decide +kernel
theorem dX6_touch_1 : decode cX6_touch 1 = .ok (.iconst 0, 1) := by decide +kernel
theorem dX6_touch_2 : decode cX6_touch 2 = .ok (.putfield 61, 3) := by decide +kernel
theorem dX6_touch_5 : decode cX6_touch 5 = .ok (.aload_n 0, 1) := by decide +kernel
theorem dX6_touch_6 : decode cX6_touch 6 = .ok (.iload_n 1, 1) := by decide +kernel
theorem dX6_touch_7 : decode cX6_touch 7 = .ok (.iload_n 2, 1) := by decide +kernel
theorem dX6_touch_8 : decode cX6_touch 8 = .ok (.iload_n 3, 1) := by decide +kernel
theorem dX6_touch_9 : decode cX6_touch 9 = .ok (.invokevirtual 389, 3) := by decide +kernel
theorem dX6_touch_12 : decode cX6_touch 12 = .ok (.ifCond .ne 5, 3) := by decide +kernel
theorem dX6_touch_15 : decode cX6_touch 15 = .ok (.iconst (-1), 1) := by decide +kernel
theorem dX6_touch_16 : decode cX6_touch 16 = .ok (.ireturn, 1) := by decide +kernel
theorem dX6_touch_17 : decode cX6_touch 17 = .ok (.aload_n 0, 1) := by decide +kernel
theorem dX6_touch_18 : decode cX6_touch 18 = .ok (.invokevirtual 289, 3) := by decide +kernel
theorem dX6_touch_21 : decode cX6_touch 21 = .ok (.aload_n 0, 1) := by decide +kernel
theorem dX6_touch_22 : decode cX6_touch 22 = .ok (.iload_n 1, 1) := by decide +kernel
theorem dX6_touch_23 : decode cX6_touch 23 = .ok (.iload_n 2, 1) := by decide +kernel
theorem dX6_touch_24 : decode cX6_touch 24 = .ok (.iload_n 3, 1) := by decide +kernel
theorem dX6_touch_25 : decode cX6_touch 25 = .ok (.invokevirtual 392, 3) := by decide +kernel
theorem dX6_touch_28 : decode cX6_touch 28 = .ok (.ireturn, 1) := by decide +kernel
def Mo_touch (d : Sl) (a1 : Int32) (a2 : Int32) (a3 : Int32) : Option (Int32 × Sl) :=
  bnd (wr d 34 2 (0 : Int32)) fun d1 =>
  bp (Mo_isTouch d1 a1 a2 a3) fun r2 =>
  if r2 = 0 then
    (some ((-1 : Int32), d1))
  else
    (bd (Mo_canUndo d1) fun r3 d4 =>
    bd (Mo_touched d4 a1 a2 a3) fun r5 d6 =>
    some (r5, d6))
theorem y_X6_touch : YV yX6_touch cX6_touch 4 (some .int) 3 := ⟨q1690, q1691, q1692, q149, by decide +kernel, by decide +kernel, by decide +kernel, by decide +kernel⟩
theorem r_Mo_touch {C : Cxt} {G : Geo} {M : Mem} {k : Nat} (hC : Cx C cX6_touch 4 "FrameHeirsModel" (some .int) rm_X6_touch G) (hk : LMo G k) (d : Sl) (a1 : Int32) (a2 : Int32) (a3 : Int32) : Rz C 4 G (setS M k) (poM avI (setS M k)) 0 [(0, .inr (k, 34)), (1, .inl (.int a1)), (2, .inl (.int a2)), (3, .inl (.int a3))] [] d (Mo_touch d a1 a2 a3) := by
  unfold Mo_touch
  refine z_aload_n (pc := 0) hC 0 rfl 0 rfl dX6_touch_0 ?_
  refine z_iconst (pc := 1) hC (0 : Int32) rfl dX6_touch_1 ?_
  refine zs_puti (pc := 2) hC (hk 34 rfl) f_34_2 q1272 dX6_touch_2 (fun d1 => ?_)
  refine z_aload_n (pc := 5) hC 0 rfl 0 rfl dX6_touch_5 ?_
  refine z_iload_n (pc := 6) hC 1 rfl 1 rfl dX6_touch_6 ?_
  refine z_iload_n (pc := 7) hC 2 rfl 2 rfl dX6_touch_7 ?_
  refine z_iload_n (pc := 8) hC 3 rfl 3 rfl dX6_touch_8 ?_
  refine z_piV (pc := 9) (st := []) hC y_X6_isTouch q1693 [.inl (.int a1), .inl (.int a2), .inl (.int a3)] rfl (hk 34 rfl) rfl rfl (c_X6_isTouch hC.2.2.2.2.2.2.1 hk) rfl ⟨rfl, rfl, (Nat.le_of_ble_eq_true rfl), (Nat.le_of_ble_eq_true rfl)⟩ (Nat.le_of_ble_eq_true rfl) dX6_touch_9 (fun r2 => ?_)
  refine z_if_ne (pc := 12) hC 17 rfl dX6_touch_12 ?_ ?_
  · refine z_aload_n (pc := 17) hC 0 rfl 0 rfl dX6_touch_17 ?_
    refine z_cvV (pc := 18) (st := []) hC y_X6_canUndo q1500 [] rfl (hk 34 rfl) rfl rfl (c_X6_canUndo hC.2.2.2.2.2.2.1 hk) rfl ⟨rfl, rfl, (Nat.le_of_ble_eq_true rfl), (Nat.le_of_ble_eq_true rfl)⟩ (Nat.le_of_ble_eq_true rfl) dX6_touch_18 (fun r3 d4 => ?_)
    refine z_aload_n (pc := 21) hC 0 rfl 0 rfl dX6_touch_21 ?_
    refine z_iload_n (pc := 22) hC 1 rfl 1 rfl dX6_touch_22 ?_
    refine z_iload_n (pc := 23) hC 2 rfl 2 rfl dX6_touch_23 ?_
    refine z_iload_n (pc := 24) hC 3 rfl 3 rfl dX6_touch_24 ?_
    refine z_ciV (pc := 25) (st := []) hC y_X6_touched q1701 [.inl (.int a1), .inl (.int a2), .inl (.int a3)] rfl (hk 34 rfl) rfl rfl (c_X6_touched hC.2.2.2.2.2.2.1 hk) rfl ⟨rfl, rfl, (Nat.le_of_ble_eq_true rfl), (Nat.le_of_ble_eq_true rfl)⟩ (Nat.le_of_ble_eq_true rfl) dX6_touch_25 (fun r5 d6 => ?_)
    exact z_iret (pc := 28) hC rfl dX6_touch_28
  · refine z_iconst (pc := 15) hC (-1 : Int32) rfl dX6_touch_15 ?_
    exact z_iret (pc := 16) hC rfl dX6_touch_16
theorem c_X6_touch {G : Geo} {M : Mem} {k : Nat} (hG : GOk G) (hk : LMo G k) {d : Sl} {a1 : Int32} {a2 : Int32} {a3 : Int32} (l : Launch) (r : Int32) (d1 : Sl) (h : Mo_touch d a1 a2 a3 = some (r, d1)) : Mt l yX6_touch cX6_touch 4 (some .int) rm_X6_touch G [.inr (k, 34), .inl (.int a1), .inl (.int a2), .inl (.int a3)] ((setS M k) d) (avI r) ((setS M k) d1) :=
  mt_of (mem := (setS M k)) (po := poM avI (setS M k)) (x0 := d) (t := (r, d1)) rfl hG [.inr (k, 34), .inl (.int a1), .inl (.int a2), .inl (.int a3)] (Nat.le_of_ble_eq_true rfl) rfl (fun C hC => r_Mo_touch hC hk d a1 a2 a3) h
-- FrameHeirsModel.firstFor(I)I
abbrev rm_X6_firstFor : Room := { frames := 2, cells := 0, slots := 0, locals := 42 }
theorem dX6_firstFor_0 : decode cX6_firstFor 0 = .ok (.iconst (-1), 1) := by decide +kernel
theorem dX6_firstFor_1 : decode cX6_firstFor 1 = .ok (.istore_n 2, 1) := by decide +kernel
theorem dX6_firstFor_2 : decode cX6_firstFor 2 = .ok (.iconst 0, 1) := by decide +kernel
theorem dX6_firstFor_3 : decode cX6_firstFor 3 = .ok (.istore_n 3, 1) := by decide +kernel
theorem dX6_firstFor_4 : decode cX6_firstFor 4 = .ok (.iload_n 3, 1) := by decide +kernel
theorem dX6_firstFor_5 : decode cX6_firstFor 5 = .ok (.aload_n 0, 1) := by decide +kernel
theorem dX6_firstFor_6 : decode cX6_firstFor 6 = .ok (.getfield 106, 3) := by decide +kernel
theorem dX6_firstFor_9 : decode cX6_firstFor 9 = .ok (.if_icmp .ge 57, 3) := by decide +kernel
theorem dX6_firstFor_12 : decode cX6_firstFor 12 = .ok (.aload_n 0, 1) := by decide +kernel
theorem dX6_firstFor_13 : decode cX6_firstFor 13 = .ok (.getfield 23, 3) := by decide +kernel
theorem dX6_firstFor_16 : decode cX6_firstFor 16 = .ok (.iload_n 3, 1) := by decide +kernel
theorem dX6_firstFor_17 : decode cX6_firstFor 17 = .ok (.iaload, 1) := by decide +kernel
theorem dX6_firstFor_18 : decode cX6_firstFor 18 = .ok (.iload_n 1, 1) := by decide +kernel
theorem dX6_firstFor_19 : decode cX6_firstFor 19 = .ok (.if_icmp .ne 41, 3) := by decide +kernel
theorem dX6_firstFor_22 : decode cX6_firstFor 22 = .ok (.aload_n 0, 1) := by decide +kernel
theorem dX6_firstFor_23 : decode cX6_firstFor 23 = .ok (.iload_n 3, 1) := by decide +kernel
theorem dX6_firstFor_24 : decode cX6_firstFor 24 = .ok (.invokevirtual 376, 3) := by decide +kernel
theorem dX6_firstFor_27 : decode cX6_firstFor 27 = .ok (.ifCond .ne 6, 3) := by decide +kernel
theorem dX6_firstFor_30 : decode cX6_firstFor 30 = .ok (.goto 30, 3) := by decide +kernel
theorem dX6_firstFor_33 : decode cX6_firstFor 33 = .ok (.iload_n 2, 1) := by decide +kernel
theorem dX6_firstFor_34 : decode cX6_firstFor 34 = .ok (.ifCond .lt 24, 3) := by decide +kernel
theorem dX6_firstFor_37 : decode cX6_firstFor 37 = .ok (.aload_n 0, 1) := by decide +kernel
theorem dX6_firstFor_38 : decode cX6_firstFor 38 = .ok (.sipush 2190, 3) := by decide +kernel
theorem dX6_firstFor_41 : decode cX6_firstFor 41 = .ok (.iload_n 3, 1) := by decide +kernel
theorem dX6_firstFor_42 : decode cX6_firstFor 42 = .ok (.iadd, 1) := by decide +kernel
theorem dX6_firstFor_43 : decode cX6_firstFor 43 = .ok (.invokevirtual 189, 3) := by decide +kernel
theorem dX6_firstFor_46 : decode cX6_firstFor 46 = .ok (.aload_n 0, 1) := by decide +kernel
theorem dX6_firstFor_47 : decode cX6_firstFor 47 = .ok (.sipush 2190, 3) := by decide +kernel
theorem dX6_firstFor_50 : decode cX6_firstFor 50 = .ok (.iload_n 2, 1) := by decide +kernel
theorem dX6_firstFor_51 : decode cX6_firstFor 51 = .ok (.iadd, 1) := by decide +kernel
theorem dX6_firstFor_52 : decode cX6_firstFor 52 = .ok (.invokevirtual 189, 3) := by decide +kernel
theorem dX6_firstFor_55 : decode cX6_firstFor 55 = .ok (.if_icmp .ge 5, 3) := by decide +kernel
theorem dX6_firstFor_58 : decode cX6_firstFor 58 = .ok (.iload_n 3, 1) := by decide +kernel
theorem dX6_firstFor_59 : decode cX6_firstFor 59 = .ok (.istore_n 2, 1) := by decide +kernel
theorem dX6_firstFor_60 : decode cX6_firstFor 60 = .ok (.iinc 3 1, 3) := by decide +kernel
theorem dX6_firstFor_63 : decode cX6_firstFor 63 = .ok (.goto (-59), 3) := by decide +kernel
theorem dX6_firstFor_66 : decode cX6_firstFor 66 = .ok (.iload_n 2, 1) := by decide +kernel
theorem dX6_firstFor_67 : decode cX6_firstFor 67 = .ok (.ireturn, 1) := by decide +kernel
def Mo_firstFor_60 (k4 : Int32 → Int32 → Int32 → Option Int32) (d : Sl) (v1 : Int32) (v2 : Int32) (v3 : Int32) : Option Int32 :=
  bnd (v3 + (1 : Int32)) fun v3_1 =>
  k4 v1 v2 v3_1
def Mo_firstFor_58 (k4 : Int32 → Int32 → Int32 → Option Int32) (d : Sl) (v1 : Int32) (v3 : Int32) : Option Int32 :=
  bnd v3 fun v2_2 =>
  Mo_firstFor_60 k4 d v1 v2_2 v3
def Mo_firstFor_4 (d : Sl) : Nat → Int32 → Int32 → Int32 → Option Int32
  | 0, _, _, _ => none
  | n + 1, v1, v2, v3 =>
    if (d 34 11) ≤ v3 then
      (some v2)
    else
      (if inb v3 12 then
      if (d 38 (ix v3)) = v1 then
        (bp (Mo_isWaiting d v3) fun r3 =>
        if r3 = 0 then
          (Mo_firstFor_60 (Mo_firstFor_4 d n) d v1 v2 v3)
        else
          (if v2 < 0 then
            (Mo_firstFor_58 (Mo_firstFor_4 d n) d v1 v3)
          else
            (bp (Mo_of d ((2190 : Int32) + v3)) fun r4 =>
            bp (Mo_of d ((2190 : Int32) + v2)) fun r5 =>
            if r5 ≤ r4 then
              (Mo_firstFor_60 (Mo_firstFor_4 d n) d v1 v2 v3)
            else
              (Mo_firstFor_58 (Mo_firstFor_4 d n) d v1 v3))))
      else
        (Mo_firstFor_60 (Mo_firstFor_4 d n) d v1 v2 v3)
      else none)
def Mo_firstFor (d : Sl) (a1 : Int32) : Option Int32 :=
  bnd (-1 : Int32) fun v2_6 =>
  bnd (0 : Int32) fun v3_7 =>
  Mo_firstFor_4 d FU a1 v2_6 v3_7
theorem y_X6_firstFor : YV yX6_firstFor cX6_firstFor 4 (some .int) 1 := ⟨q1731, q118, q1732, q149, by decide +kernel, by decide +kernel, by decide +kernel, by decide +kernel⟩
theorem r_Mo_firstFor_60 {C : Cxt} {G : Geo} {M : Mem} {k : Nat} {d : Sl} (hC : Cx C cX6_firstFor 4 "FrameHeirsModel" (some .int) rm_X6_firstFor G) (hk : LMo G k) (k4 : Int32 → Int32 → Int32 → Option Int32) (h4 : ∀ (v1 : Int32) (v2 : Int32) (v3 : Int32), Rz C 4 G (setS M k) (poP avI ((setS M k) d)) 4 [(0, .inr (k, 34)), (1, .inl (.int v1)), (2, .inl (.int v2)), (3, .inl (.int v3))] [] d (k4 v1 v2 v3)) (v1 : Int32) (v2 : Int32) (v3 : Int32) : Rz C 4 G (setS M k) (poP avI ((setS M k) d)) 60 [(0, .inr (k, 34)), (1, .inl (.int v1)), (2, .inl (.int v2)), (3, .inl (.int v3))] [] d (Mo_firstFor_60 k4 d v1 v2 v3) := by
  unfold Mo_firstFor_60
  refine z_iinc (pc := 60) (ls1 := fun v => [(3, .inl (.int v)), (0, .inr (k, 34)), (1, .inl (.int v1)), (2, .inl (.int v2))]) hC 3 3 (by decide) (1 : Int32) rfl rfl (fun v => rfl) dX6_firstFor_60 (fun v3_1 => ?_)
  refine z_goto (pc := 63) hC 4 rfl dX6_firstFor_63 ?_
  exact z_sub [1, 2, 3, 0] rfl (h4 v1 v2 v3_1)
theorem r_Mo_firstFor_58 {C : Cxt} {G : Geo} {M : Mem} {k : Nat} {d : Sl} (hC : Cx C cX6_firstFor 4 "FrameHeirsModel" (some .int) rm_X6_firstFor G) (hk : LMo G k) (k4 : Int32 → Int32 → Int32 → Option Int32) (h4 : ∀ (v1 : Int32) (v2 : Int32) (v3 : Int32), Rz C 4 G (setS M k) (poP avI ((setS M k) d)) 4 [(0, .inr (k, 34)), (1, .inl (.int v1)), (2, .inl (.int v2)), (3, .inl (.int v3))] [] d (k4 v1 v2 v3)) (v1 : Int32) (v3 : Int32) : Rz C 4 G (setS M k) (poP avI ((setS M k) d)) 58 [(0, .inr (k, 34)), (1, .inl (.int v1)), (3, .inl (.int v3))] [] d (Mo_firstFor_58 k4 d v1 v3) := by
  unfold Mo_firstFor_58
  refine z_iload_n (pc := 58) hC 3 rfl 2 rfl dX6_firstFor_58 ?_
  refine z_istore_n (pc := 59) (ls1 := fun v => [(2, .inl (.int v)), (0, .inr (k, 34)), (1, .inl (.int v1)), (3, .inl (.int v3))]) hC 2 rfl (by decide) (fun v => rfl) dX6_firstFor_59 (fun v2_2 => ?_)
  exact z_sub [1, 2, 0, 3] rfl (r_Mo_firstFor_60 hC hk k4 h4 v1 v2_2 v3)
theorem r_Mo_firstFor_4 {C : Cxt} {G : Geo} {M : Mem} {k : Nat} {d : Sl} (hC : Cx C cX6_firstFor 4 "FrameHeirsModel" (some .int) rm_X6_firstFor G) (hk : LMo G k) : ∀ (n : Nat) (v1 : Int32) (v2 : Int32) (v3 : Int32), Rz C 4 G (setS M k) (poP avI ((setS M k) d)) 4 [(0, .inr (k, 34)), (1, .inl (.int v1)), (2, .inl (.int v2)), (3, .inl (.int v3))] [] d (Mo_firstFor_4 d n v1 v2 v3) := by
  intro n
  induction n with
  | zero => intros; exact z_none
  | succ n ih =>
    intro v1 v2 v3
    rw [Mo_firstFor_4]
    refine z_iload_n (pc := 4) hC 3 rfl 3 rfl dX6_firstFor_4 ?_
    refine z_aload_n (pc := 5) hC 0 rfl 0 rfl dX6_firstFor_5 ?_
    refine zs_geti (pc := 6) hC (hk 34 rfl) f_34_11 q1281 dX6_firstFor_6 ?_
    refine z_icmp_ge (pc := 9) hC 66 rfl dX6_firstFor_9 ?_ ?_
    · refine z_iload_n (pc := 66) hC 2 rfl 2 rfl dX6_firstFor_66 ?_
      exact z_iret (pc := 67) hC rfl dX6_firstFor_67
    · refine z_aload_n (pc := 12) hC 0 rfl 0 rfl dX6_firstFor_12 ?_
      refine z_getc (pc := 13) hC (hk 34 rfl) f_34_16 q1286 dX6_firstFor_13 ?_
      refine z_iload_n (pc := 16) hC 3 rfl 3 rfl dX6_firstFor_16 ?_
      refine zs_iald (pc := 17) hC (hk 38 rfl) rfl dX6_firstFor_17 ?_
      refine z_iload_n (pc := 18) hC 1 rfl 1 rfl dX6_firstFor_18 ?_
      refine z_icmp_ne (pc := 19) hC 60 rfl dX6_firstFor_19 ?_ ?_
      · exact z_sub [0, 1, 2, 3] rfl (r_Mo_firstFor_60 hC hk _ ih v1 v2 v3)
      · refine z_aload_n (pc := 22) hC 0 rfl 0 rfl dX6_firstFor_22 ?_
        refine z_iload_n (pc := 23) hC 3 rfl 3 rfl dX6_firstFor_23 ?_
        refine z_piV (pc := 24) (st := []) hC y_X6_isWaiting q1697 [.inl (.int v3)] rfl (hk 34 rfl) rfl rfl (c_X6_isWaiting hC.2.2.2.2.2.2.1 hk) rfl ⟨rfl, rfl, (Nat.le_of_ble_eq_true rfl), (Nat.le_of_ble_eq_true rfl)⟩ (Nat.le_of_ble_eq_true rfl) dX6_firstFor_24 (fun r3 => ?_)
        refine z_if_ne (pc := 27) hC 33 rfl dX6_firstFor_27 ?_ ?_
        · refine z_iload_n (pc := 33) hC 2 rfl 2 rfl dX6_firstFor_33 ?_
          refine z_if_lt (pc := 34) hC 58 rfl dX6_firstFor_34 ?_ ?_
          · exact z_sub [0, 1, 3] rfl (r_Mo_firstFor_58 hC hk _ ih v1 v3)
          · refine z_aload_n (pc := 37) hC 0 rfl 0 rfl dX6_firstFor_37 ?_
            refine z_sipush (pc := 38) hC (2190 : Int32) rfl dX6_firstFor_38 ?_
            refine z_iload_n (pc := 41) hC 3 rfl 3 rfl dX6_firstFor_41 ?_
            refine z_iadd (pc := 42) hC dX6_firstFor_42 ?_
            refine z_piV (pc := 43) (st := []) hC y_X6_of q1262 [.inl (.int ((2190 : Int32) + v3))] rfl (hk 34 rfl) rfl rfl (c_X6_of hC.2.2.2.2.2.2.1 hk) rfl ⟨rfl, rfl, (Nat.le_of_ble_eq_true rfl), (Nat.le_of_ble_eq_true rfl)⟩ (Nat.le_of_ble_eq_true rfl) dX6_firstFor_43 (fun r4 => ?_)
            refine z_aload_n (pc := 46) hC 0 rfl 0 rfl dX6_firstFor_46 ?_
            refine z_sipush (pc := 47) hC (2190 : Int32) rfl dX6_firstFor_47 ?_
            refine z_iload_n (pc := 50) hC 2 rfl 2 rfl dX6_firstFor_50 ?_
            refine z_iadd (pc := 51) hC dX6_firstFor_51 ?_
            refine z_piV (pc := 52) (st := [.inl (.int r4)]) hC y_X6_of q1262 [.inl (.int ((2190 : Int32) + v2))] rfl (hk 34 rfl) rfl rfl (c_X6_of hC.2.2.2.2.2.2.1 hk) rfl ⟨rfl, rfl, (Nat.le_of_ble_eq_true rfl), (Nat.le_of_ble_eq_true rfl)⟩ (Nat.le_of_ble_eq_true rfl) dX6_firstFor_52 (fun r5 => ?_)
            refine z_icmp_ge (pc := 55) hC 60 rfl dX6_firstFor_55 ?_ ?_
            · exact z_sub [0, 1, 2, 3] rfl (r_Mo_firstFor_60 hC hk _ ih v1 v2 v3)
            · exact z_sub [0, 1, 3] rfl (r_Mo_firstFor_58 hC hk _ ih v1 v3)
        · refine z_goto (pc := 30) hC 60 rfl dX6_firstFor_30 ?_
          exact z_sub [0, 1, 2, 3] rfl (r_Mo_firstFor_60 hC hk _ ih v1 v2 v3)
theorem r_Mo_firstFor {C : Cxt} {G : Geo} {M : Mem} {k : Nat} (hC : Cx C cX6_firstFor 4 "FrameHeirsModel" (some .int) rm_X6_firstFor G) (hk : LMo G k) (d : Sl) (a1 : Int32) : Rz C 4 G (setS M k) (poP avI ((setS M k) d)) 0 [(0, .inr (k, 34)), (1, .inl (.int a1))] [] d (Mo_firstFor d a1) := by
  unfold Mo_firstFor
  refine z_iconst (pc := 0) hC (-1 : Int32) rfl dX6_firstFor_0 ?_
  refine z_istore_n (pc := 1) (ls1 := fun v => [(2, .inl (.int v)), (0, .inr (k, 34)), (1, .inl (.int a1))]) hC 2 rfl (by decide) (fun v => rfl) dX6_firstFor_1 (fun v2_6 => ?_)
  refine z_iconst (pc := 2) hC (0 : Int32) rfl dX6_firstFor_2 ?_
  refine z_istore_n (pc := 3) (ls1 := fun v => [(3, .inl (.int v)), (2, .inl (.int v2_6)), (0, .inr (k, 34)), (1, .inl (.int a1))]) hC 3 rfl (by decide) (fun v => rfl) dX6_firstFor_3 (fun v3_7 => ?_)
  exact z_sub [2, 3, 1, 0] rfl (r_Mo_firstFor_4 hC hk FU a1 v2_6 v3_7)
theorem c_X6_firstFor {G : Geo} {M : Mem} {k : Nat} (hG : GOk G) (hk : LMo G k) {d : Sl} {a1 : Int32} (l : Launch) (r : Int32) (h : Mo_firstFor d a1 = some r) : Mt l yX6_firstFor cX6_firstFor 4 (some .int) rm_X6_firstFor G [.inr (k, 34), .inl (.int a1)] ((setS M k) d) (avI r) ((setS M k) d) :=
  mt_of (mem := (setS M k)) (po := poP avI ((setS M k) d)) (x0 := d) (t := r) rfl hG [.inr (k, 34), .inl (.int a1)] (Nat.le_of_ble_eq_true rfl) rfl (fun C hC => r_Mo_firstFor hC hk d a1) h
-- FrameHeirsModel.aliasesOf(II)I
abbrev rm_X6_aliasesOf : Room := { frames := 3, cells := 0, slots := 0, locals := 68 }
theorem dX6_aliasesOf_0 : decode cX6_aliasesOf 0 = .ok (.iconst 0, 1) := by decide +kernel
theorem dX6_aliasesOf_1 : decode cX6_aliasesOf 1 = .ok (.istore_n 3, 1) := by decide +kernel
theorem dX6_aliasesOf_2 : decode cX6_aliasesOf 2 = .ok (.iconst 0, 1) := by decide +kernel
theorem dX6_aliasesOf_3 : decode cX6_aliasesOf 3 = .ok (.istore 4, 2) := by decide +kernel
theorem dX6_aliasesOf_5 : decode cX6_aliasesOf 5 = .ok (.iload 4, 2) := by decide +kernel
theorem dX6_aliasesOf_7 : decode cX6_aliasesOf 7 = .ok (.aload_n 0, 1) := by decide +kernel
theorem dX6_aliasesOf_8 : decode cX6_aliasesOf 8 = .ok (.invokevirtual 126, 3) := by decide +kernel
theorem dX6_aliasesOf_11 : decode cX6_aliasesOf 11 = .ok (.if_icmp .ge 28, 3) := by decide +kernel
theorem dX6_aliasesOf_14 : decode cX6_aliasesOf 14 = .ok (.iload_n 3, 1) := by decide +kernel
theorem dX6_aliasesOf_15 : decode cX6_aliasesOf 15 = .ok (.aload_n 0, 1) := by decide +kernel
theorem dX6_aliasesOf_16 : decode cX6_aliasesOf 16 = .ok (.iload_n 1, 1) := by decide +kernel
theorem dX6_aliasesOf_17 : decode cX6_aliasesOf 17 = .ok (.iload 4, 2) := by decide +kernel
theorem dX6_aliasesOf_19 : decode cX6_aliasesOf 19 = .ok (.invokevirtual 383, 3) := by decide +kernel
theorem dX6_aliasesOf_22 : decode cX6_aliasesOf 22 = .ok (.iload_n 2, 1) := by decide +kernel
theorem dX6_aliasesOf_23 : decode cX6_aliasesOf 23 = .ok (.if_icmp .ne 7, 3) := by decide +kernel
theorem dX6_aliasesOf_26 : decode cX6_aliasesOf 26 = .ok (.iconst 1, 1) := by decide +kernel
theorem dX6_aliasesOf_27 : decode cX6_aliasesOf 27 = .ok (.goto 4, 3) := by decide +kernel
theorem dX6_aliasesOf_30 : decode cX6_aliasesOf 30 = .ok (.iconst 0, 1) := by decide +kernel
theorem dX6_aliasesOf_31 : decode cX6_aliasesOf 31 = .ok (.iadd, 1) := by decide +kernel
theorem dX6_aliasesOf_32 : decode cX6_aliasesOf 32 = .ok (.istore_n 3, 1) := by decide +kernel
theorem dX6_aliasesOf_33 : decode cX6_aliasesOf 33 = .ok (.iinc 4 1, 3) := by decide +kernel
theorem dX6_aliasesOf_36 : decode cX6_aliasesOf 36 = .ok (.goto (-31), 3) := by decide +kernel
theorem dX6_aliasesOf_39 : decode cX6_aliasesOf 39 = .ok (.iload_n 3, 1) := by decide +kernel
theorem dX6_aliasesOf_40 : decode cX6_aliasesOf 40 = .ok (.ireturn, 1) := by decide +kernel
def Mo_aliasesOf_31 (k5 : Int32 → Int32 → Int32 → Int32 → Option Int32) (d : Sl) (v1 : Int32) (v2 : Int32) (v4 : Int32) (s0 : Int32) (s1 : Int32) : Option Int32 :=
  bnd (s1 + s0) fun v3_1 =>
  bnd (v4 + (1 : Int32)) fun v4_2 =>
  k5 v1 v2 v3_1 v4_2
def Mo_aliasesOf_5 (d : Sl) : Nat → Int32 → Int32 → Int32 → Int32 → Option Int32
  | 0, _, _, _, _ => none
  | n + 1, v1, v2, v3, v4 =>
    bp (Mo_size d) fun r3 =>
    if r3 ≤ v4 then
      (some v3)
    else
      (bp (Mo_frameAt d v1 v4) fun r4 =>
      if r4 = v2 then
        (Mo_aliasesOf_31 (Mo_aliasesOf_5 d n) d v1 v2 v4 (1 : Int32) v3)
      else
        (Mo_aliasesOf_31 (Mo_aliasesOf_5 d n) d v1 v2 v4 (0 : Int32) v3))
def Mo_aliasesOf (d : Sl) (a1 : Int32) (a2 : Int32) : Option Int32 :=
  bnd (0 : Int32) fun v3_5 =>
  bnd (0 : Int32) fun v4_6 =>
  Mo_aliasesOf_5 d FU a1 a2 v3_5 v4_6
theorem y_X6_aliasesOf : YV yX6_aliasesOf cX6_aliasesOf 5 (some .int) 2 := ⟨q1739, q120, q1740, q149, by decide +kernel, by decide +kernel, by decide +kernel, by decide +kernel⟩
theorem r_Mo_aliasesOf_31 {C : Cxt} {G : Geo} {M : Mem} {k : Nat} {d : Sl} (hC : Cx C cX6_aliasesOf 5 "FrameHeirsModel" (some .int) rm_X6_aliasesOf G) (hk : LMo G k) (k5 : Int32 → Int32 → Int32 → Int32 → Option Int32) (h5 : ∀ (v1 : Int32) (v2 : Int32) (v3 : Int32) (v4 : Int32), Rz C 5 G (setS M k) (poP avI ((setS M k) d)) 5 [(0, .inr (k, 34)), (1, .inl (.int v1)), (2, .inl (.int v2)), (3, .inl (.int v3)), (4, .inl (.int v4))] [] d (k5 v1 v2 v3 v4)) (v1 : Int32) (v2 : Int32) (v4 : Int32) (s0 : Int32) (s1 : Int32) : Rz C 5 G (setS M k) (poP avI ((setS M k) d)) 31 [(0, .inr (k, 34)), (1, .inl (.int v1)), (2, .inl (.int v2)), (4, .inl (.int v4))] [.inl (.int s0), .inl (.int s1)] d (Mo_aliasesOf_31 k5 d v1 v2 v4 s0 s1) := by
  unfold Mo_aliasesOf_31
  refine z_iadd (pc := 31) hC dX6_aliasesOf_31 ?_
  refine z_istore_n (pc := 32) (ls1 := fun v => [(3, .inl (.int v)), (0, .inr (k, 34)), (1, .inl (.int v1)), (2, .inl (.int v2)), (4, .inl (.int v4))]) hC 3 rfl (by decide) (fun v => rfl) dX6_aliasesOf_32 (fun v3_1 => ?_)
  refine z_iinc (pc := 33) (ls1 := fun v => [(4, .inl (.int v)), (3, .inl (.int v3_1)), (0, .inr (k, 34)), (1, .inl (.int v1)), (2, .inl (.int v2))]) hC 4 4 (by decide) (1 : Int32) rfl rfl (fun v => rfl) dX6_aliasesOf_33 (fun v4_2 => ?_)
  refine z_goto (pc := 36) hC 5 rfl dX6_aliasesOf_36 ?_
  exact z_sub [2, 3, 4, 1, 0] rfl (h5 v1 v2 v3_1 v4_2)
theorem r_Mo_aliasesOf_5 {C : Cxt} {G : Geo} {M : Mem} {k : Nat} {d : Sl} (hC : Cx C cX6_aliasesOf 5 "FrameHeirsModel" (some .int) rm_X6_aliasesOf G) (hk : LMo G k) : ∀ (n : Nat) (v1 : Int32) (v2 : Int32) (v3 : Int32) (v4 : Int32), Rz C 5 G (setS M k) (poP avI ((setS M k) d)) 5 [(0, .inr (k, 34)), (1, .inl (.int v1)), (2, .inl (.int v2)), (3, .inl (.int v3)), (4, .inl (.int v4))] [] d (Mo_aliasesOf_5 d n v1 v2 v3 v4) := by
  intro n
  induction n with
  | zero => intros; exact z_none
  | succ n ih =>
    intro v1 v2 v3 v4
    rw [Mo_aliasesOf_5]
    refine z_iload (pc := 5) hC 4 4 rfl dX6_aliasesOf_5 ?_
    refine z_aload_n (pc := 7) hC 0 rfl 0 rfl dX6_aliasesOf_7 ?_
    refine z_piV (pc := 8) (st := [.inl (.int v4)]) hC y_X6_size q1250 [] rfl (hk 34 rfl) rfl rfl (c_X6_size hC.2.2.2.2.2.2.1 hk) rfl ⟨rfl, rfl, (Nat.le_of_ble_eq_true rfl), (Nat.le_of_ble_eq_true rfl)⟩ (Nat.le_of_ble_eq_true rfl) dX6_aliasesOf_8 (fun r3 => ?_)
    refine z_icmp_ge (pc := 11) hC 39 rfl dX6_aliasesOf_11 ?_ ?_
    · refine z_iload_n (pc := 39) hC 3 rfl 3 rfl dX6_aliasesOf_39 ?_
      exact z_iret (pc := 40) hC rfl dX6_aliasesOf_40
    · refine z_iload_n (pc := 14) hC 3 rfl 3 rfl dX6_aliasesOf_14 ?_
      refine z_aload_n (pc := 15) hC 0 rfl 0 rfl dX6_aliasesOf_15 ?_
      refine z_iload_n (pc := 16) hC 1 rfl 1 rfl dX6_aliasesOf_16 ?_
      refine z_iload (pc := 17) hC 4 4 rfl dX6_aliasesOf_17 ?_
      refine z_piV (pc := 19) (st := [.inl (.int v3)]) hC y_X6_frameAt q1713 [.inl (.int v1), .inl (.int v4)] rfl (hk 34 rfl) rfl rfl (c_X6_frameAt hC.2.2.2.2.2.2.1 hk) rfl ⟨rfl, rfl, (Nat.le_of_ble_eq_true rfl), (Nat.le_of_ble_eq_true rfl)⟩ (Nat.le_of_ble_eq_true rfl) dX6_aliasesOf_19 (fun r4 => ?_)
      refine z_iload_n (pc := 22) hC 2 rfl 2 rfl dX6_aliasesOf_22 ?_
      refine z_icmp_ne (pc := 23) hC 30 rfl dX6_aliasesOf_23 ?_ ?_
      · refine z_iconst (pc := 30) hC (0 : Int32) rfl dX6_aliasesOf_30 ?_
        exact z_sub [0, 1, 2, 4] rfl (r_Mo_aliasesOf_31 hC hk _ ih v1 v2 v4 (0 : Int32) v3)
      · refine z_iconst (pc := 26) hC (1 : Int32) rfl dX6_aliasesOf_26 ?_
        refine z_goto (pc := 27) hC 31 rfl dX6_aliasesOf_27 ?_
        exact z_sub [0, 1, 2, 4] rfl (r_Mo_aliasesOf_31 hC hk _ ih v1 v2 v4 (1 : Int32) v3)
theorem r_Mo_aliasesOf {C : Cxt} {G : Geo} {M : Mem} {k : Nat} (hC : Cx C cX6_aliasesOf 5 "FrameHeirsModel" (some .int) rm_X6_aliasesOf G) (hk : LMo G k) (d : Sl) (a1 : Int32) (a2 : Int32) : Rz C 5 G (setS M k) (poP avI ((setS M k) d)) 0 [(0, .inr (k, 34)), (1, .inl (.int a1)), (2, .inl (.int a2))] [] d (Mo_aliasesOf d a1 a2) := by
  unfold Mo_aliasesOf
  refine z_iconst (pc := 0) hC (0 : Int32) rfl dX6_aliasesOf_0 ?_
  refine z_istore_n (pc := 1) (ls1 := fun v => [(3, .inl (.int v)), (0, .inr (k, 34)), (1, .inl (.int a1)), (2, .inl (.int a2))]) hC 3 rfl (by decide) (fun v => rfl) dX6_aliasesOf_1 (fun v3_5 => ?_)
  refine z_iconst (pc := 2) hC (0 : Int32) rfl dX6_aliasesOf_2 ?_
  refine z_istore (pc := 3) (ls1 := fun v => [(4, .inl (.int v)), (3, .inl (.int v3_5)), (0, .inr (k, 34)), (1, .inl (.int a1)), (2, .inl (.int a2))]) hC 4 (by decide) (fun v => rfl) dX6_aliasesOf_3 (fun v4_6 => ?_)
  exact z_sub [2, 3, 4, 1, 0] rfl (r_Mo_aliasesOf_5 hC hk FU a1 a2 v3_5 v4_6)
theorem c_X6_aliasesOf {G : Geo} {M : Mem} {k : Nat} (hG : GOk G) (hk : LMo G k) {d : Sl} {a1 : Int32} {a2 : Int32} (l : Launch) (r : Int32) (h : Mo_aliasesOf d a1 a2 = some r) : Mt l yX6_aliasesOf cX6_aliasesOf 5 (some .int) rm_X6_aliasesOf G [.inr (k, 34), .inl (.int a1), .inl (.int a2)] ((setS M k) d) (avI r) ((setS M k) d) :=
  mt_of (mem := (setS M k)) (po := poP avI ((setS M k) d)) (x0 := d) (t := r) rfl hG [.inr (k, 34), .inl (.int a1), .inl (.int a2)] (Nat.le_of_ble_eq_true rfl) rfl (fun C hC => r_Mo_aliasesOf hC hk d a1 a2) h
-- FrameHeirsModel.placeBy(IIII)I
abbrev rm_X6_placeBy : Room := { frames := 4, cells := 0, slots := 0, locals := 92 }
theorem dX6_placeBy_0 : decode cX6_placeBy 0 = .ok (.aload_n 0, 1) := by decide +kernel
theorem dX6_placeBy_1 : decode cX6_placeBy 1 = .ok (.getfield 26, 3) := by decide +kernel
theorem dX6_placeBy_4 : decode cX6_placeBy 4 = .ok (.iload_n 2, 1) := by decide +kernel
theorem dX6_placeBy_5 : decode cX6_placeBy 5 = .ok (.iaload, 1) := by decide +kernel
theorem dX6_placeBy_6 : decode cX6_placeBy 6 = .ok (.tableswitch 51 0 2 #[26, 28, 42], 26) := by decide +kernel
theorem dX6_placeBy_32 : decode cX6_placeBy 32 = .ok (.iload_n 3, 1) := by decide +kernel
theorem dX6_placeBy_33 : decode cX6_placeBy 33 = .ok (.ireturn, 1) := by decide +kernel
theorem dX6_placeBy_34 : decode cX6_placeBy 34 = .ok (.iload_n 3, 1) := by decide +kernel
theorem dX6_placeBy_35 : decode cX6_placeBy 35 = .ok (.aload_n 0, 1) := by decide +kernel
theorem dX6_placeBy_36 : decode cX6_placeBy 36 = .ok (.invokevirtual 126, 3) := by decide +kernel
theorem dX6_placeBy_39 : decode cX6_placeBy 39 = .ok (.iconst 2, 1) := by decide +kernel
theorem dX6_placeBy_40 : decode cX6_placeBy 40 = .ok (.idiv, 1) := by decide +kernel
theorem dX6_placeBy_41 : decode cX6_placeBy 41 = .ok (.iadd, 1) := by decide +kernel
theorem dX6_placeBy_42 : decode cX6_placeBy 42 = .ok (.aload_n 0, 1) := by decide +kernel
theorem dX6_placeBy_43 : decode cX6_placeBy 43 = .ok (.invokevirtual 126, 3) := by decide +kernel
theorem dX6_placeBy_46 : decode cX6_placeBy 46 = .ok (.irem, 1) := by decide +kernel
theorem dX6_placeBy_47 : decode cX6_placeBy 47 = .ok (.ireturn, 1) := by decide +kernel
theorem dX6_placeBy_48 : decode cX6_placeBy 48 = .ok (.aload_n 0, 1) := by decide +kernel
theorem dX6_placeBy_49 : decode cX6_placeBy 49 = .ok (.invokevirtual 126, 3) := by decide +kernel
theorem dX6_placeBy_52 : decode cX6_placeBy 52 = .ok (.iconst 1, 1) := by decide +kernel
theorem dX6_placeBy_53 : decode cX6_placeBy 53 = .ok (.isub, 1) := by decide +kernel
theorem dX6_placeBy_54 : decode cX6_placeBy 54 = .ok (.iload_n 3, 1) := by decide +kernel
theorem dX6_placeBy_55 : decode cX6_placeBy 55 = .ok (.isub, 1) := by decide +kernel
theorem dX6_placeBy_56 : decode cX6_placeBy 56 = .ok (.ireturn, 1) := by decide +kernel
theorem dX6_placeBy_57 : decode cX6_placeBy 57 = .ok (.iconst 0, 1) := by decide +kernel
theorem dX6_placeBy_58 : decode cX6_placeBy 58 = .ok (.istore 5, 2) := by decide +kernel
theorem dX6_placeBy_60 : decode cX6_placeBy 60 = .ok (.iload 5, 2) := by decide +kernel
theorem dX6_placeBy_62 : decode cX6_placeBy 62 = .ok (.aload_n 0, 1) := by decide +kernel
theorem dX6_placeBy_63 : decode cX6_placeBy 63 = .ok (.invokevirtual 126, 3) := by decide +kernel
theorem dX6_placeBy_66 : decode cX6_placeBy 66 = .ok (.if_icmp .ge 39, 3) := by decide +kernel
theorem dX6_placeBy_69 : decode cX6_placeBy 69 = .ok (.aload_n 0, 1) := by decide +kernel
theorem dX6_placeBy_70 : decode cX6_placeBy 70 = .ok (.iload_n 1, 1) := by decide +kernel
theorem dX6_placeBy_71 : decode cX6_placeBy 71 = .ok (.iload 5, 2) := by decide +kernel
theorem dX6_placeBy_73 : decode cX6_placeBy 73 = .ok (.iload 4, 2) := by decide +kernel
theorem dX6_placeBy_75 : decode cX6_placeBy 75 = .ok (.invokevirtual 379, 3) := by decide +kernel
theorem dX6_placeBy_78 : decode cX6_placeBy 78 = .ok (.ifCond .eq 21, 3) := by decide +kernel
theorem dX6_placeBy_81 : decode cX6_placeBy 81 = .ok (.aload_n 0, 1) := by decide +kernel
theorem dX6_placeBy_82 : decode cX6_placeBy 82 = .ok (.iload_n 2, 1) := by decide +kernel
theorem dX6_placeBy_83 : decode cX6_placeBy 83 = .ok (.aload_n 0, 1) := by decide +kernel
theorem dX6_placeBy_84 : decode cX6_placeBy 84 = .ok (.iload_n 1, 1) := by decide +kernel
theorem dX6_placeBy_85 : decode cX6_placeBy 85 = .ok (.iload 5, 2) := by decide +kernel
theorem dX6_placeBy_87 : decode cX6_placeBy 87 = .ok (.invokevirtual 383, 3) := by decide +kernel
theorem dX6_placeBy_90 : decode cX6_placeBy 90 = .ok (.invokevirtual 395, 3) := by decide +kernel
theorem dX6_placeBy_93 : decode cX6_placeBy 93 = .ok (.ifCond .ne 6, 3) := by decide +kernel
theorem dX6_placeBy_96 : decode cX6_placeBy 96 = .ok (.iload 5, 2) := by decide +kernel
theorem dX6_placeBy_98 : decode cX6_placeBy 98 = .ok (.ireturn, 1) := by decide +kernel
theorem dX6_placeBy_99 : decode cX6_placeBy 99 = .ok (.iinc 5 1, 3) := by decide +kernel
theorem dX6_placeBy_102 : decode cX6_placeBy 102 = .ok (.goto (-42), 3) := by decide +kernel
theorem dX6_placeBy_105 : decode cX6_placeBy 105 = .ok (.iload_n 3, 1) := by decide +kernel
theorem dX6_placeBy_106 : decode cX6_placeBy 106 = .ok (.ireturn, 1) := by decide +kernel
def Mo_placeBy_99 (k60 : Int32 → Int32 → Int32 → Int32 → Int32 → Option Int32) (d : Sl) (v1 : Int32) (v2 : Int32) (v3 : Int32) (v4 : Int32) (v5 : Int32) : Option Int32 :=
  bnd (v5 + (1 : Int32)) fun v5_1 =>
  k60 v1 v2 v3 v4 v5_1
def Mo_placeBy_60 (d : Sl) : Nat → Int32 → Int32 → Int32 → Int32 → Int32 → Option Int32
  | 0, _, _, _, _, _ => none
  | n + 1, v1, v2, v3, v4, v5 =>
    bp (Mo_size d) fun r2 =>
    if r2 ≤ v5 then
      (some v3)
    else
      (bp (Mo_has d v1 v5 v4) fun r3 =>
      if r3 = 0 then
        (Mo_placeBy_99 (Mo_placeBy_60 d n) d v1 v2 v3 v4 v5)
      else
        (bp (Mo_frameAt d v1 v5) fun r4 =>
        bp (Mo_aliasesOf d v2 r4) fun r5 =>
        if r5 = 0 then
          (some v5)
        else
          (Mo_placeBy_99 (Mo_placeBy_60 d n) d v1 v2 v3 v4 v5)))
def Mo_placeBy (d : Sl) (a1 : Int32) (a2 : Int32) (a3 : Int32) (a4 : Int32) : Option Int32 :=
  if inb a2 12 then
  if (d 39 (ix a2)) = (0 : Int32) then
    (some a3)
  else
    (if (d 39 (ix a2)) = (1 : Int32) then
      (bp (Mo_size d) fun r8 =>
      if ¬ (2 : Int32) = 0 then
      bp (Mo_size d) fun r9 =>
      if ¬ r9 = 0 then
      some ((a3 + (r8 / (2 : Int32))) - (a3 + (r8 / (2 : Int32))) / r9 * r9)
      else none
      else none)
    else
      (if (d 39 (ix a2)) = (2 : Int32) then
        (bp (Mo_size d) fun r7 =>
        some ((r7 - (1 : Int32)) - a3))
      else
        (bnd (0 : Int32) fun v5_6 =>
        Mo_placeBy_60 d FU a1 a2 a3 a4 v5_6)))
  else none
theorem y_X6_placeBy : YV yX6_placeBy cX6_placeBy 6 (some .int) 4 := ⟨q1735, q119, q1736, q149, by decide +kernel, by decide +kernel, by decide +kernel, by decide +kernel⟩
theorem r_Mo_placeBy_99 {C : Cxt} {G : Geo} {M : Mem} {k : Nat} {d : Sl} (hC : Cx C cX6_placeBy 6 "FrameHeirsModel" (some .int) rm_X6_placeBy G) (hk : LMo G k) (k60 : Int32 → Int32 → Int32 → Int32 → Int32 → Option Int32) (h60 : ∀ (v1 : Int32) (v2 : Int32) (v3 : Int32) (v4 : Int32) (v5 : Int32), Rz C 6 G (setS M k) (poP avI ((setS M k) d)) 60 [(0, .inr (k, 34)), (1, .inl (.int v1)), (2, .inl (.int v2)), (3, .inl (.int v3)), (4, .inl (.int v4)), (5, .inl (.int v5))] [] d (k60 v1 v2 v3 v4 v5)) (v1 : Int32) (v2 : Int32) (v3 : Int32) (v4 : Int32) (v5 : Int32) : Rz C 6 G (setS M k) (poP avI ((setS M k) d)) 99 [(0, .inr (k, 34)), (1, .inl (.int v1)), (2, .inl (.int v2)), (3, .inl (.int v3)), (4, .inl (.int v4)), (5, .inl (.int v5))] [] d (Mo_placeBy_99 k60 d v1 v2 v3 v4 v5) := by
  unfold Mo_placeBy_99
  refine z_iinc (pc := 99) (ls1 := fun v => [(5, .inl (.int v)), (0, .inr (k, 34)), (1, .inl (.int v1)), (2, .inl (.int v2)), (3, .inl (.int v3)), (4, .inl (.int v4))]) hC 5 5 (by decide) (1 : Int32) rfl rfl (fun v => rfl) dX6_placeBy_99 (fun v5_1 => ?_)
  refine z_goto (pc := 102) hC 60 rfl dX6_placeBy_102 ?_
  exact z_sub [1, 2, 3, 4, 5, 0] rfl (h60 v1 v2 v3 v4 v5_1)
theorem r_Mo_placeBy_60 {C : Cxt} {G : Geo} {M : Mem} {k : Nat} {d : Sl} (hC : Cx C cX6_placeBy 6 "FrameHeirsModel" (some .int) rm_X6_placeBy G) (hk : LMo G k) : ∀ (n : Nat) (v1 : Int32) (v2 : Int32) (v3 : Int32) (v4 : Int32) (v5 : Int32), Rz C 6 G (setS M k) (poP avI ((setS M k) d)) 60 [(0, .inr (k, 34)), (1, .inl (.int v1)), (2, .inl (.int v2)), (3, .inl (.int v3)), (4, .inl (.int v4)), (5, .inl (.int v5))] [] d (Mo_placeBy_60 d n v1 v2 v3 v4 v5) := by
  intro n
  induction n with
  | zero => intros; exact z_none
  | succ n ih =>
    intro v1 v2 v3 v4 v5
    rw [Mo_placeBy_60]
    refine z_iload (pc := 60) hC 5 5 rfl dX6_placeBy_60 ?_
    refine z_aload_n (pc := 62) hC 0 rfl 0 rfl dX6_placeBy_62 ?_
    refine z_piV (pc := 63) (st := [.inl (.int v5)]) hC y_X6_size q1250 [] rfl (hk 34 rfl) rfl rfl (c_X6_size hC.2.2.2.2.2.2.1 hk) rfl ⟨rfl, rfl, (Nat.le_of_ble_eq_true rfl), (Nat.le_of_ble_eq_true rfl)⟩ (Nat.le_of_ble_eq_true rfl) dX6_placeBy_63 (fun r2 => ?_)
    refine z_icmp_ge (pc := 66) hC 105 rfl dX6_placeBy_66 ?_ ?_
    · refine z_iload_n (pc := 105) hC 3 rfl 3 rfl dX6_placeBy_105 ?_
      exact z_iret (pc := 106) hC rfl dX6_placeBy_106
    · refine z_aload_n (pc := 69) hC 0 rfl 0 rfl dX6_placeBy_69 ?_
      refine z_iload_n (pc := 70) hC 1 rfl 1 rfl dX6_placeBy_70 ?_
      refine z_iload (pc := 71) hC 5 5 rfl dX6_placeBy_71 ?_
      refine z_iload (pc := 73) hC 4 4 rfl dX6_placeBy_73 ?_
      refine z_piV (pc := 75) (st := []) hC y_X6_has q1705 [.inl (.int v1), .inl (.int v5), .inl (.int v4)] rfl (hk 34 rfl) rfl rfl (c_X6_has hC.2.2.2.2.2.2.1 hk) rfl ⟨rfl, rfl, (Nat.le_of_ble_eq_true rfl), (Nat.le_of_ble_eq_true rfl)⟩ (Nat.le_of_ble_eq_true rfl) dX6_placeBy_75 (fun r3 => ?_)
      refine z_if_eq (pc := 78) hC 99 rfl dX6_placeBy_78 ?_ ?_
      · exact z_sub [0, 1, 2, 3, 4, 5] rfl (r_Mo_placeBy_99 hC hk _ ih v1 v2 v3 v4 v5)
      · refine z_aload_n (pc := 81) hC 0 rfl 0 rfl dX6_placeBy_81 ?_
        refine z_iload_n (pc := 82) hC 2 rfl 2 rfl dX6_placeBy_82 ?_
        refine z_aload_n (pc := 83) hC 0 rfl 0 rfl dX6_placeBy_83 ?_
        refine z_iload_n (pc := 84) hC 1 rfl 1 rfl dX6_placeBy_84 ?_
        refine z_iload (pc := 85) hC 5 5 rfl dX6_placeBy_85 ?_
        refine z_piV (pc := 87) (st := [.inl (.int v2), .inr (k, 34)]) hC y_X6_frameAt q1713 [.inl (.int v1), .inl (.int v5)] rfl (hk 34 rfl) rfl rfl (c_X6_frameAt hC.2.2.2.2.2.2.1 hk) rfl ⟨rfl, rfl, (Nat.le_of_ble_eq_true rfl), (Nat.le_of_ble_eq_true rfl)⟩ (Nat.le_of_ble_eq_true rfl) dX6_placeBy_87 (fun r4 => ?_)
        refine z_piV (pc := 90) (st := []) hC y_X6_aliasesOf q1737 [.inl (.int v2), .inl (.int r4)] rfl (hk 34 rfl) rfl rfl (c_X6_aliasesOf hC.2.2.2.2.2.2.1 hk) rfl ⟨rfl, rfl, (Nat.le_of_ble_eq_true rfl), (Nat.le_of_ble_eq_true rfl)⟩ (Nat.le_of_ble_eq_true rfl) dX6_placeBy_90 (fun r5 => ?_)
        refine z_if_ne (pc := 93) hC 99 rfl dX6_placeBy_93 ?_ ?_
        · exact z_sub [0, 1, 2, 3, 4, 5] rfl (r_Mo_placeBy_99 hC hk _ ih v1 v2 v3 v4 v5)
        · refine z_iload (pc := 96) hC 5 5 rfl dX6_placeBy_96 ?_
          exact z_iret (pc := 98) hC rfl dX6_placeBy_98
theorem r_Mo_placeBy {C : Cxt} {G : Geo} {M : Mem} {k : Nat} (hC : Cx C cX6_placeBy 6 "FrameHeirsModel" (some .int) rm_X6_placeBy G) (hk : LMo G k) (d : Sl) (a1 : Int32) (a2 : Int32) (a3 : Int32) (a4 : Int32) : Rz C 6 G (setS M k) (poP avI ((setS M k) d)) 0 [(0, .inr (k, 34)), (1, .inl (.int a1)), (2, .inl (.int a2)), (3, .inl (.int a3)), (4, .inl (.int a4))] [] d (Mo_placeBy d a1 a2 a3 a4) := by
  unfold Mo_placeBy
  refine z_aload_n (pc := 0) hC 0 rfl 0 rfl dX6_placeBy_0 ?_
  refine z_getc (pc := 1) hC (hk 34 rfl) f_34_17 q1287 dX6_placeBy_1 ?_
  refine z_iload_n (pc := 4) hC 2 rfl 2 rfl dX6_placeBy_4 ?_
  refine zs_iald (pc := 5) hC (hk 39 rfl) rfl dX6_placeBy_5 ?_
  refine z_ite (fun e => ?_) (fun e0 => ?_)
  · refine z_tswIn (pc := 6) hC 0 32 (by rw [e]; rfl) (by decide) (by decide) rfl rfl dX6_placeBy_6 ?_
    refine z_iload_n (pc := 32) hC 3 rfl 3 rfl dX6_placeBy_32 ?_
    exact z_iret (pc := 33) hC rfl dX6_placeBy_33
  · refine z_ite (fun e => ?_) (fun e1 => ?_)
    · refine z_tswIn (pc := 6) hC 1 34 (by rw [e]; rfl) (by decide) (by decide) rfl rfl dX6_placeBy_6 ?_
      refine z_iload_n (pc := 34) hC 3 rfl 3 rfl dX6_placeBy_34 ?_
      refine z_aload_n (pc := 35) hC 0 rfl 0 rfl dX6_placeBy_35 ?_
      refine z_piV (pc := 36) (st := [.inl (.int a3)]) hC y_X6_size q1250 [] rfl (hk 34 rfl) rfl rfl (c_X6_size hC.2.2.2.2.2.2.1 hk) rfl ⟨rfl, rfl, (Nat.le_of_ble_eq_true rfl), (Nat.le_of_ble_eq_true rfl)⟩ (Nat.le_of_ble_eq_true rfl) dX6_placeBy_36 (fun r8 => ?_)
      refine z_iconst (pc := 39) hC (2 : Int32) rfl dX6_placeBy_39 ?_
      refine z_idiv (pc := 40) hC dX6_placeBy_40 ?_
      refine z_iadd (pc := 41) hC dX6_placeBy_41 ?_
      refine z_aload_n (pc := 42) hC 0 rfl 0 rfl dX6_placeBy_42 ?_
      refine z_piV (pc := 43) (st := [.inl (.int (a3 + (r8 / (2 : Int32))))]) hC y_X6_size q1250 [] rfl (hk 34 rfl) rfl rfl (c_X6_size hC.2.2.2.2.2.2.1 hk) rfl ⟨rfl, rfl, (Nat.le_of_ble_eq_true rfl), (Nat.le_of_ble_eq_true rfl)⟩ (Nat.le_of_ble_eq_true rfl) dX6_placeBy_43 (fun r9 => ?_)
      refine z_irem (pc := 46) hC dX6_placeBy_46 ?_
      exact z_iret (pc := 47) hC rfl dX6_placeBy_47
    · refine z_ite (fun e => ?_) (fun e2 => ?_)
      · refine z_tswIn (pc := 6) hC 2 48 (by rw [e]; rfl) (by decide) (by decide) rfl rfl dX6_placeBy_6 ?_
        refine z_aload_n (pc := 48) hC 0 rfl 0 rfl dX6_placeBy_48 ?_
        refine z_piV (pc := 49) (st := []) hC y_X6_size q1250 [] rfl (hk 34 rfl) rfl rfl (c_X6_size hC.2.2.2.2.2.2.1 hk) rfl ⟨rfl, rfl, (Nat.le_of_ble_eq_true rfl), (Nat.le_of_ble_eq_true rfl)⟩ (Nat.le_of_ble_eq_true rfl) dX6_placeBy_49 (fun r7 => ?_)
        refine z_iconst (pc := 52) hC (1 : Int32) rfl dX6_placeBy_52 ?_
        refine z_isub (pc := 53) hC dX6_placeBy_53 ?_
        refine z_iload_n (pc := 54) hC 3 rfl 3 rfl dX6_placeBy_54 ?_
        refine z_isub (pc := 55) hC dX6_placeBy_55 ?_
        exact z_iret (pc := 56) hC rfl dX6_placeBy_56
      · have e0_ : ((d 39 (ix a2))).toInt ≠ 0 := fun h => e0 (Int32.toInt_inj.mp (by rw [h]; rfl))
        have e1_ : ((d 39 (ix a2))).toInt ≠ 1 := fun h => e1 (Int32.toInt_inj.mp (by rw [h]; rfl))
        have e2_ : ((d 39 (ix a2))).toInt ≠ 2 := fun h => e2 (Int32.toInt_inj.mp (by rw [h]; rfl))
        refine z_tswOut (pc := 6) hC 57 (by omega) rfl dX6_placeBy_6 ?_
        refine z_iconst (pc := 57) hC (0 : Int32) rfl dX6_placeBy_57 ?_
        refine z_istore (pc := 58) (ls1 := fun v => [(5, .inl (.int v)), (0, .inr (k, 34)), (1, .inl (.int a1)), (2, .inl (.int a2)), (3, .inl (.int a3)), (4, .inl (.int a4))]) hC 5 (by decide) (fun v => rfl) dX6_placeBy_58 (fun v5_6 => ?_)
        exact z_sub [1, 2, 3, 4, 5, 0] rfl (r_Mo_placeBy_60 hC hk FU a1 a2 a3 a4 v5_6)
theorem c_X6_placeBy {G : Geo} {M : Mem} {k : Nat} (hG : GOk G) (hk : LMo G k) {d : Sl} {a1 : Int32} {a2 : Int32} {a3 : Int32} {a4 : Int32} (l : Launch) (r : Int32) (h : Mo_placeBy d a1 a2 a3 a4 = some r) : Mt l yX6_placeBy cX6_placeBy 6 (some .int) rm_X6_placeBy G [.inr (k, 34), .inl (.int a1), .inl (.int a2), .inl (.int a3), .inl (.int a4)] ((setS M k) d) (avI r) ((setS M k) d) :=
  mt_of (mem := (setS M k)) (po := poP avI ((setS M k) d)) (x0 := d) (t := r) rfl hG [.inr (k, 34), .inl (.int a1), .inl (.int a2), .inl (.int a3), .inl (.int a4)] (Nat.le_of_ble_eq_true rfl) rfl (fun C hC => r_Mo_placeBy hC hk d a1 a2 a3 a4) h
-- FrameHeirsModel.coldestOf(IZ)I
abbrev rm_X6_coldestOf : Room := { frames := 4, cells := 0, slots := 0, locals := 87 }
theorem dX6_coldestOf_0 : decode cX6_coldestOf 0 = .ok (.iconst (-1), 1) := by decide +kernel
theorem dX6_coldestOf_1 : decode cX6_coldestOf 1 = .ok (.istore_n 3, 1) := by decide +kernel
theorem dX6_coldestOf_2 : decode cX6_coldestOf 2 = .ok (.iconst 0, 1) := by decide +kernel
theorem dX6_coldestOf_3 : decode cX6_coldestOf 3 = .ok (.istore 4, 2) := by decide +kernel
theorem dX6_coldestOf_5 : decode cX6_coldestOf 5 = .ok (.iload 4, 2) := by decide +kernel
theorem dX6_coldestOf_7 : decode cX6_coldestOf 7 = .ok (.aload_n 0, 1) := by decide +kernel
theorem dX6_coldestOf_8 : decode cX6_coldestOf 8 = .ok (.invokevirtual 126, 3) := by decide +kernel
theorem dX6_coldestOf_11 : decode cX6_coldestOf 11 = .ok (.if_icmp .ge 81, 3) := by decide +kernel
theorem dX6_coldestOf_14 : decode cX6_coldestOf 14 = .ok (.bipush 32, 2) := by decide +kernel
theorem dX6_coldestOf_16 : decode cX6_coldestOf 16 = .ok (.iload_n 1, 1) := by decide +kernel
theorem dX6_coldestOf_17 : decode cX6_coldestOf 17 = .ok (.imul, 1) := by decide +kernel
theorem dX6_coldestOf_18 : decode cX6_coldestOf 18 = .ok (.iload 4, 2) := by decide +kernel
theorem dX6_coldestOf_20 : decode cX6_coldestOf 20 = .ok (.iadd, 1) := by decide +kernel
theorem dX6_coldestOf_21 : decode cX6_coldestOf 21 = .ok (.istore 5, 2) := by decide +kernel
theorem dX6_coldestOf_23 : decode cX6_coldestOf 23 = .ok (.aload_n 0, 1) := by decide +kernel
theorem dX6_coldestOf_24 : decode cX6_coldestOf 24 = .ok (.iload 5, 2) := by decide +kernel
theorem dX6_coldestOf_26 : decode cX6_coldestOf 26 = .ok (.invokevirtual 216, 3) := by decide +kernel
theorem dX6_coldestOf_29 : decode cX6_coldestOf 29 = .ok (.ifCond .eq 57, 3) := by decide +kernel
theorem dX6_coldestOf_32 : decode cX6_coldestOf 32 = .ok (.iload_n 2, 1) := by decide +kernel
theorem dX6_coldestOf_33 : decode cX6_coldestOf 33 = .ok (.ifCond .eq 24, 3) := by decide +kernel
theorem dX6_coldestOf_36 : decode cX6_coldestOf 36 = .ok (.aload_n 0, 1) := by decide +kernel
theorem dX6_coldestOf_37 : decode cX6_coldestOf 37 = .ok (.iload 5, 2) := by decide +kernel
theorem dX6_coldestOf_39 : decode cX6_coldestOf 39 = .ok (.invokevirtual 210, 3) := by decide +kernel
theorem dX6_coldestOf_42 : decode cX6_coldestOf 42 = .ok (.ifCond .lt 44, 3) := by decide +kernel
theorem dX6_coldestOf_45 : decode cX6_coldestOf 45 = .ok (.aload_n 0, 1) := by decide +kernel
theorem dX6_coldestOf_46 : decode cX6_coldestOf 46 = .ok (.iload 5, 2) := by decide +kernel
theorem dX6_coldestOf_48 : decode cX6_coldestOf 48 = .ok (.invokevirtual 261, 3) := by decide +kernel
theorem dX6_coldestOf_51 : decode cX6_coldestOf 51 = .ok (.ifCond .eq 6, 3) := by decide +kernel
theorem dX6_coldestOf_54 : decode cX6_coldestOf 54 = .ok (.goto 32, 3) := by decide +kernel
theorem dX6_coldestOf_57 : decode cX6_coldestOf 57 = .ok (.iload_n 3, 1) := by decide +kernel
theorem dX6_coldestOf_58 : decode cX6_coldestOf 58 = .ok (.ifCond .lt 25, 3) := by decide +kernel
theorem dX6_coldestOf_61 : decode cX6_coldestOf 61 = .ok (.aload_n 0, 1) := by decide +kernel
theorem dX6_coldestOf_62 : decode cX6_coldestOf 62 = .ok (.sipush 1536, 3) := by decide +kernel
theorem dX6_coldestOf_65 : decode cX6_coldestOf 65 = .ok (.iload 5, 2) := by decide +kernel
theorem dX6_coldestOf_67 : decode cX6_coldestOf 67 = .ok (.iadd, 1) := by decide +kernel
theorem dX6_coldestOf_68 : decode cX6_coldestOf 68 = .ok (.invokevirtual 189, 3) := by decide +kernel
theorem dX6_coldestOf_71 : decode cX6_coldestOf 71 = .ok (.aload_n 0, 1) := by decide +kernel
theorem dX6_coldestOf_72 : decode cX6_coldestOf 72 = .ok (.sipush 1536, 3) := by decide +kernel
theorem dX6_coldestOf_75 : decode cX6_coldestOf 75 = .ok (.iload_n 3, 1) := by decide +kernel
theorem dX6_coldestOf_76 : decode cX6_coldestOf 76 = .ok (.iadd, 1) := by decide +kernel
theorem dX6_coldestOf_77 : decode cX6_coldestOf 77 = .ok (.invokevirtual 189, 3) := by decide +kernel
theorem dX6_coldestOf_80 : decode cX6_coldestOf 80 = .ok (.if_icmp .ge 6, 3) := by decide +kernel
theorem dX6_coldestOf_83 : decode cX6_coldestOf 83 = .ok (.iload 5, 2) := by decide +kernel
theorem dX6_coldestOf_85 : decode cX6_coldestOf 85 = .ok (.istore_n 3, 1) := by decide +kernel
theorem dX6_coldestOf_86 : decode cX6_coldestOf 86 = .ok (.iinc 4 1, 3) := by decide +kernel
theorem dX6_coldestOf_89 : decode cX6_coldestOf 89 = .ok (.goto (-84), 3) := by decide +kernel
theorem dX6_coldestOf_92 : decode cX6_coldestOf 92 = .ok (.iload_n 3, 1) := by decide +kernel
theorem dX6_coldestOf_93 : decode cX6_coldestOf 93 = .ok (.ireturn, 1) := by decide +kernel
def Mo_coldestOf_86 (k5 : Int32 → Int32 → Int32 → Int32 → Option Int32) (d : Sl) (v1 : Int32) (v2 : Int32) (v3 : Int32) (v4 : Int32) : Option Int32 :=
  bnd (v4 + (1 : Int32)) fun v4_1 =>
  k5 v1 v2 v3 v4_1
def Mo_coldestOf_83 (k5 : Int32 → Int32 → Int32 → Int32 → Option Int32) (d : Sl) (v1 : Int32) (v2 : Int32) (v4 : Int32) (v5 : Int32) : Option Int32 :=
  bnd v5 fun v3_2 =>
  Mo_coldestOf_86 k5 d v1 v2 v3_2 v4
def Mo_coldestOf_57 (k5 : Int32 → Int32 → Int32 → Int32 → Option Int32) (d : Sl) (v1 : Int32) (v2 : Int32) (v3 : Int32) (v4 : Int32) (v5 : Int32) : Option Int32 :=
  if v3 < 0 then
    (Mo_coldestOf_83 k5 d v1 v2 v4 v5)
  else
    (bp (Mo_of d ((1536 : Int32) + v5)) fun r3 =>
    bp (Mo_of d ((1536 : Int32) + v3)) fun r4 =>
    if r4 ≤ r3 then
      (Mo_coldestOf_86 k5 d v1 v2 v3 v4)
    else
      (Mo_coldestOf_83 k5 d v1 v2 v4 v5))
def Mo_coldestOf_5 (d : Sl) : Nat → Int32 → Int32 → Int32 → Int32 → Option Int32
  | 0, _, _, _, _ => none
  | n + 1, v1, v2, v3, v4 =>
    bp (Mo_size d) fun r5 =>
    if r5 ≤ v4 then
      (some v3)
    else
      (bnd (((32 : Int32) * v1) + v4) fun v5_6 =>
      bp (Mo_isDeed d v5_6) fun r7 =>
      if r7 = 0 then
        (Mo_coldestOf_86 (Mo_coldestOf_5 d n) d v1 v2 v3 v4)
      else
        (if v2 = 0 then
          (Mo_coldestOf_57 (Mo_coldestOf_5 d n) d v1 v2 v3 v4 v5_6)
        else
          (bp (Mo_giverOf d v5_6) fun r8 =>
          if r8 < 0 then
            (Mo_coldestOf_86 (Mo_coldestOf_5 d n) d v1 v2 v3 v4)
          else
            (bp (Mo_isBusyBelow d v5_6) fun r9 =>
            if r9 = 0 then
              (Mo_coldestOf_57 (Mo_coldestOf_5 d n) d v1 v2 v3 v4 v5_6)
            else
              (Mo_coldestOf_86 (Mo_coldestOf_5 d n) d v1 v2 v3 v4)))))
def Mo_coldestOf (d : Sl) (a1 : Int32) (a2 : Int32) : Option Int32 :=
  bnd (-1 : Int32) fun v3_10 =>
  bnd (0 : Int32) fun v4_11 =>
  Mo_coldestOf_5 d FU a1 a2 v3_10 v4_11
theorem y_X6_coldestOf : YV yX6_coldestOf cX6_coldestOf 6 (some .int) 2 := ⟨q1747, q122, q1748, q149, by decide +kernel, by decide +kernel, by decide +kernel, by decide +kernel⟩
theorem r_Mo_coldestOf_86 {C : Cxt} {G : Geo} {M : Mem} {k : Nat} {d : Sl} (hC : Cx C cX6_coldestOf 6 "FrameHeirsModel" (some .int) rm_X6_coldestOf G) (hk : LMo G k) (k5 : Int32 → Int32 → Int32 → Int32 → Option Int32) (h5 : ∀ (v1 : Int32) (v2 : Int32) (v3 : Int32) (v4 : Int32), Rz C 6 G (setS M k) (poP avI ((setS M k) d)) 5 [(0, .inr (k, 34)), (1, .inl (.int v1)), (2, .inl (.int v2)), (3, .inl (.int v3)), (4, .inl (.int v4))] [] d (k5 v1 v2 v3 v4)) (v1 : Int32) (v2 : Int32) (v3 : Int32) (v4 : Int32) : Rz C 6 G (setS M k) (poP avI ((setS M k) d)) 86 [(0, .inr (k, 34)), (1, .inl (.int v1)), (2, .inl (.int v2)), (3, .inl (.int v3)), (4, .inl (.int v4))] [] d (Mo_coldestOf_86 k5 d v1 v2 v3 v4) := by
  unfold Mo_coldestOf_86
  refine z_iinc (pc := 86) (ls1 := fun v => [(4, .inl (.int v)), (0, .inr (k, 34)), (1, .inl (.int v1)), (2, .inl (.int v2)), (3, .inl (.int v3))]) hC 4 4 (by decide) (1 : Int32) rfl rfl (fun v => rfl) dX6_coldestOf_86 (fun v4_1 => ?_)
  refine z_goto (pc := 89) hC 5 rfl dX6_coldestOf_89 ?_
  exact z_sub [1, 2, 3, 4, 0] rfl (h5 v1 v2 v3 v4_1)
theorem r_Mo_coldestOf_83 {C : Cxt} {G : Geo} {M : Mem} {k : Nat} {d : Sl} (hC : Cx C cX6_coldestOf 6 "FrameHeirsModel" (some .int) rm_X6_coldestOf G) (hk : LMo G k) (k5 : Int32 → Int32 → Int32 → Int32 → Option Int32) (h5 : ∀ (v1 : Int32) (v2 : Int32) (v3 : Int32) (v4 : Int32), Rz C 6 G (setS M k) (poP avI ((setS M k) d)) 5 [(0, .inr (k, 34)), (1, .inl (.int v1)), (2, .inl (.int v2)), (3, .inl (.int v3)), (4, .inl (.int v4))] [] d (k5 v1 v2 v3 v4)) (v1 : Int32) (v2 : Int32) (v4 : Int32) (v5 : Int32) : Rz C 6 G (setS M k) (poP avI ((setS M k) d)) 83 [(0, .inr (k, 34)), (1, .inl (.int v1)), (2, .inl (.int v2)), (4, .inl (.int v4)), (5, .inl (.int v5))] [] d (Mo_coldestOf_83 k5 d v1 v2 v4 v5) := by
  unfold Mo_coldestOf_83
  refine z_iload (pc := 83) hC 5 4 rfl dX6_coldestOf_83 ?_
  refine z_istore_n (pc := 85) (ls1 := fun v => [(3, .inl (.int v)), (0, .inr (k, 34)), (1, .inl (.int v1)), (2, .inl (.int v2)), (4, .inl (.int v4)), (5, .inl (.int v5))]) hC 3 rfl (by decide) (fun v => rfl) dX6_coldestOf_85 (fun v3_2 => ?_)
  exact z_sub [1, 2, 3, 0, 4] rfl (r_Mo_coldestOf_86 hC hk k5 h5 v1 v2 v3_2 v4)
theorem r_Mo_coldestOf_57 {C : Cxt} {G : Geo} {M : Mem} {k : Nat} {d : Sl} (hC : Cx C cX6_coldestOf 6 "FrameHeirsModel" (some .int) rm_X6_coldestOf G) (hk : LMo G k) (k5 : Int32 → Int32 → Int32 → Int32 → Option Int32) (h5 : ∀ (v1 : Int32) (v2 : Int32) (v3 : Int32) (v4 : Int32), Rz C 6 G (setS M k) (poP avI ((setS M k) d)) 5 [(0, .inr (k, 34)), (1, .inl (.int v1)), (2, .inl (.int v2)), (3, .inl (.int v3)), (4, .inl (.int v4))] [] d (k5 v1 v2 v3 v4)) (v1 : Int32) (v2 : Int32) (v3 : Int32) (v4 : Int32) (v5 : Int32) : Rz C 6 G (setS M k) (poP avI ((setS M k) d)) 57 [(0, .inr (k, 34)), (1, .inl (.int v1)), (2, .inl (.int v2)), (3, .inl (.int v3)), (4, .inl (.int v4)), (5, .inl (.int v5))] [] d (Mo_coldestOf_57 k5 d v1 v2 v3 v4 v5) := by
  unfold Mo_coldestOf_57
  refine z_iload_n (pc := 57) hC 3 rfl 3 rfl dX6_coldestOf_57 ?_
  refine z_if_lt (pc := 58) hC 83 rfl dX6_coldestOf_58 ?_ ?_
  · exact z_sub [0, 1, 2, 4, 5] rfl (r_Mo_coldestOf_83 hC hk k5 h5 v1 v2 v4 v5)
  · refine z_aload_n (pc := 61) hC 0 rfl 0 rfl dX6_coldestOf_61 ?_
    refine z_sipush (pc := 62) hC (1536 : Int32) rfl dX6_coldestOf_62 ?_
    refine z_iload (pc := 65) hC 5 5 rfl dX6_coldestOf_65 ?_
    refine z_iadd (pc := 67) hC dX6_coldestOf_67 ?_
    refine z_piV (pc := 68) (st := []) hC y_X6_of q1262 [.inl (.int ((1536 : Int32) + v5))] rfl (hk 34 rfl) rfl rfl (c_X6_of hC.2.2.2.2.2.2.1 hk) rfl ⟨rfl, rfl, (Nat.le_of_ble_eq_true rfl), (Nat.le_of_ble_eq_true rfl)⟩ (Nat.le_of_ble_eq_true rfl) dX6_coldestOf_68 (fun r3 => ?_)
    refine z_aload_n (pc := 71) hC 0 rfl 0 rfl dX6_coldestOf_71 ?_
    refine z_sipush (pc := 72) hC (1536 : Int32) rfl dX6_coldestOf_72 ?_
    refine z_iload_n (pc := 75) hC 3 rfl 3 rfl dX6_coldestOf_75 ?_
    refine z_iadd (pc := 76) hC dX6_coldestOf_76 ?_
    refine z_piV (pc := 77) (st := [.inl (.int r3)]) hC y_X6_of q1262 [.inl (.int ((1536 : Int32) + v3))] rfl (hk 34 rfl) rfl rfl (c_X6_of hC.2.2.2.2.2.2.1 hk) rfl ⟨rfl, rfl, (Nat.le_of_ble_eq_true rfl), (Nat.le_of_ble_eq_true rfl)⟩ (Nat.le_of_ble_eq_true rfl) dX6_coldestOf_77 (fun r4 => ?_)
    refine z_icmp_ge (pc := 80) hC 86 rfl dX6_coldestOf_80 ?_ ?_
    · exact z_sub [0, 1, 2, 3, 4] rfl (r_Mo_coldestOf_86 hC hk k5 h5 v1 v2 v3 v4)
    · exact z_sub [0, 1, 2, 4, 5] rfl (r_Mo_coldestOf_83 hC hk k5 h5 v1 v2 v4 v5)
theorem r_Mo_coldestOf_5 {C : Cxt} {G : Geo} {M : Mem} {k : Nat} {d : Sl} (hC : Cx C cX6_coldestOf 6 "FrameHeirsModel" (some .int) rm_X6_coldestOf G) (hk : LMo G k) : ∀ (n : Nat) (v1 : Int32) (v2 : Int32) (v3 : Int32) (v4 : Int32), Rz C 6 G (setS M k) (poP avI ((setS M k) d)) 5 [(0, .inr (k, 34)), (1, .inl (.int v1)), (2, .inl (.int v2)), (3, .inl (.int v3)), (4, .inl (.int v4))] [] d (Mo_coldestOf_5 d n v1 v2 v3 v4) := by
  intro n
  induction n with
  | zero => intros; exact z_none
  | succ n ih =>
    intro v1 v2 v3 v4
    rw [Mo_coldestOf_5]
    refine z_iload (pc := 5) hC 4 4 rfl dX6_coldestOf_5 ?_
    refine z_aload_n (pc := 7) hC 0 rfl 0 rfl dX6_coldestOf_7 ?_
    refine z_piV (pc := 8) (st := [.inl (.int v4)]) hC y_X6_size q1250 [] rfl (hk 34 rfl) rfl rfl (c_X6_size hC.2.2.2.2.2.2.1 hk) rfl ⟨rfl, rfl, (Nat.le_of_ble_eq_true rfl), (Nat.le_of_ble_eq_true rfl)⟩ (Nat.le_of_ble_eq_true rfl) dX6_coldestOf_8 (fun r5 => ?_)
    refine z_icmp_ge (pc := 11) hC 92 rfl dX6_coldestOf_11 ?_ ?_
    · refine z_iload_n (pc := 92) hC 3 rfl 3 rfl dX6_coldestOf_92 ?_
      exact z_iret (pc := 93) hC rfl dX6_coldestOf_93
    · refine z_bipush (pc := 14) hC (32 : Int32) rfl dX6_coldestOf_14 ?_
      refine z_iload_n (pc := 16) hC 1 rfl 1 rfl dX6_coldestOf_16 ?_
      refine z_imul (pc := 17) hC dX6_coldestOf_17 ?_
      refine z_iload (pc := 18) hC 4 4 rfl dX6_coldestOf_18 ?_
      refine z_iadd (pc := 20) hC dX6_coldestOf_20 ?_
      refine z_istore (pc := 21) (ls1 := fun v => [(5, .inl (.int v)), (0, .inr (k, 34)), (1, .inl (.int v1)), (2, .inl (.int v2)), (3, .inl (.int v3)), (4, .inl (.int v4))]) hC 5 (by decide) (fun v => rfl) dX6_coldestOf_21 (fun v5_6 => ?_)
      refine z_aload_n (pc := 23) hC 0 rfl 1 rfl dX6_coldestOf_23 ?_
      refine z_iload (pc := 24) hC 5 0 rfl dX6_coldestOf_24 ?_
      refine z_piV (pc := 26) (st := []) hC y_X6_isDeed q1520 [.inl (.int v5_6)] rfl (hk 34 rfl) rfl rfl (c_X6_isDeed hC.2.2.2.2.2.2.1 hk) rfl ⟨rfl, rfl, (Nat.le_of_ble_eq_true rfl), (Nat.le_of_ble_eq_true rfl)⟩ (Nat.le_of_ble_eq_true rfl) dX6_coldestOf_26 (fun r7 => ?_)
      refine z_if_eq (pc := 29) hC 86 rfl dX6_coldestOf_29 ?_ ?_
      · exact z_sub [1, 2, 3, 4, 5] rfl (r_Mo_coldestOf_86 hC hk _ ih v1 v2 v3 v4)
      · refine z_iload_n (pc := 32) hC 2 rfl 3 rfl dX6_coldestOf_32 ?_
        refine z_if_eq (pc := 33) hC 57 rfl dX6_coldestOf_33 ?_ ?_
        · exact z_sub [1, 2, 3, 4, 5, 0] rfl (r_Mo_coldestOf_57 hC hk _ ih v1 v2 v3 v4 v5_6)
        · refine z_aload_n (pc := 36) hC 0 rfl 1 rfl dX6_coldestOf_36 ?_
          refine z_iload (pc := 37) hC 5 0 rfl dX6_coldestOf_37 ?_
          refine z_piV (pc := 39) (st := []) hC y_X6_giverOf q1532 [.inl (.int v5_6)] rfl (hk 34 rfl) rfl rfl (c_X6_giverOf hC.2.2.2.2.2.2.1 hk) rfl ⟨rfl, rfl, (Nat.le_of_ble_eq_true rfl), (Nat.le_of_ble_eq_true rfl)⟩ (Nat.le_of_ble_eq_true rfl) dX6_coldestOf_39 (fun r8 => ?_)
          refine z_if_lt (pc := 42) hC 86 rfl dX6_coldestOf_42 ?_ ?_
          · exact z_sub [1, 2, 3, 4, 5] rfl (r_Mo_coldestOf_86 hC hk _ ih v1 v2 v3 v4)
          · refine z_aload_n (pc := 45) hC 0 rfl 1 rfl dX6_coldestOf_45 ?_
            refine z_iload (pc := 46) hC 5 0 rfl dX6_coldestOf_46 ?_
            refine z_piV (pc := 48) (st := []) hC y_X6_isBusyBelow q1564 [.inl (.int v5_6)] rfl (hk 34 rfl) rfl rfl (c_X6_isBusyBelow hC.2.2.2.2.2.2.1 hk) rfl ⟨rfl, rfl, (Nat.le_of_ble_eq_true rfl), (Nat.le_of_ble_eq_true rfl)⟩ (Nat.le_of_ble_eq_true rfl) dX6_coldestOf_48 (fun r9 => ?_)
            refine z_if_eq (pc := 51) hC 57 rfl dX6_coldestOf_51 ?_ ?_
            · exact z_sub [1, 2, 3, 4, 5, 0] rfl (r_Mo_coldestOf_57 hC hk _ ih v1 v2 v3 v4 v5_6)
            · refine z_goto (pc := 54) hC 86 rfl dX6_coldestOf_54 ?_
              exact z_sub [1, 2, 3, 4, 5] rfl (r_Mo_coldestOf_86 hC hk _ ih v1 v2 v3 v4)
theorem r_Mo_coldestOf {C : Cxt} {G : Geo} {M : Mem} {k : Nat} (hC : Cx C cX6_coldestOf 6 "FrameHeirsModel" (some .int) rm_X6_coldestOf G) (hk : LMo G k) (d : Sl) (a1 : Int32) (a2 : Int32) : Rz C 6 G (setS M k) (poP avI ((setS M k) d)) 0 [(0, .inr (k, 34)), (1, .inl (.int a1)), (2, .inl (.int a2))] [] d (Mo_coldestOf d a1 a2) := by
  unfold Mo_coldestOf
  refine z_iconst (pc := 0) hC (-1 : Int32) rfl dX6_coldestOf_0 ?_
  refine z_istore_n (pc := 1) (ls1 := fun v => [(3, .inl (.int v)), (0, .inr (k, 34)), (1, .inl (.int a1)), (2, .inl (.int a2))]) hC 3 rfl (by decide) (fun v => rfl) dX6_coldestOf_1 (fun v3_10 => ?_)
  refine z_iconst (pc := 2) hC (0 : Int32) rfl dX6_coldestOf_2 ?_
  refine z_istore (pc := 3) (ls1 := fun v => [(4, .inl (.int v)), (3, .inl (.int v3_10)), (0, .inr (k, 34)), (1, .inl (.int a1)), (2, .inl (.int a2))]) hC 4 (by decide) (fun v => rfl) dX6_coldestOf_3 (fun v4_11 => ?_)
  exact z_sub [2, 3, 4, 1, 0] rfl (r_Mo_coldestOf_5 hC hk FU a1 a2 v3_10 v4_11)
theorem c_X6_coldestOf {G : Geo} {M : Mem} {k : Nat} (hG : GOk G) (hk : LMo G k) {d : Sl} {a1 : Int32} {a2 : Int32} (l : Launch) (r : Int32) (h : Mo_coldestOf d a1 a2 = some r) : Mt l yX6_coldestOf cX6_coldestOf 6 (some .int) rm_X6_coldestOf G [.inr (k, 34), .inl (.int a1), .inl (.int a2)] ((setS M k) d) (avI r) ((setS M k) d) :=
  mt_of (mem := (setS M k)) (po := poP avI ((setS M k) d)) (x0 := d) (t := r) rfl hG [.inr (k, 34), .inl (.int a1), .inl (.int a2)] (Nat.le_of_ble_eq_true rfl) rfl (fun C hC => r_Mo_coldestOf hC hk d a1 a2) h
-- FrameHeirsModel.refuses(I)I
abbrev rm_X6_refuses : Room := { frames := 2, cells := 0, slots := 0, locals := 43 }
theorem dX6_refuses_0 : decode cX6_refuses 0 = .ok (.aload_n 0, 1) := by decide +kernel
theorem dX6_refuses_1 : decode cX6_refuses 1 = .ok (.sipush 2172, 3) := by decide +kernel
theorem dX6_refuses_4 : decode cX6_refuses 4 = .ok (.iload_n 1, 1) := by decide +kernel
theorem dX6_refuses_5 : decode cX6_refuses 5 = .ok (.iadd, 1) := by decide +kernel
theorem dX6_refuses_6 : decode cX6_refuses 6 = .ok (.iconst 0, 1) := by decide +kernel
theorem dX6_refuses_7 : decode cX6_refuses 7 = .ok (.invokevirtual 122, 3) := by decide +kernel
theorem dX6_refuses_10 : decode cX6_refuses 10 = .ok (.aload_n 0, 1) := by decide +kernel
theorem dX6_refuses_11 : decode cX6_refuses 11 = .ok (.sipush 2200, 3) := by decide +kernel
theorem dX6_refuses_14 : decode cX6_refuses 14 = .ok (.invokevirtual 240, 3) := by decide +kernel
theorem dX6_refuses_17 : decode cX6_refuses 17 = .ok (.bipush (-5), 2) := by decide +kernel
theorem dX6_refuses_19 : decode cX6_refuses 19 = .ok (.ireturn, 1) := by decide +kernel
def Mo_refuses (d : Sl) (a1 : Int32) : Option (Int32 × Sl) :=
  bd (Mo_lay d ((2172 : Int32) + a1) (0 : Int32)) fun r1 d2 =>
  bd (Mo_more d2 (2200 : Int32)) fun r3 d4 =>
  some ((-5 : Int32), d4)
theorem y_X6_refuses : YV yX6_refuses cX6_refuses 2 (some .int) 1 := ⟨q1743, q121, q1744, q149, by decide +kernel, by decide +kernel, by decide +kernel, by decide +kernel⟩
theorem r_Mo_refuses {C : Cxt} {G : Geo} {M : Mem} {k : Nat} (hC : Cx C cX6_refuses 2 "FrameHeirsModel" (some .int) rm_X6_refuses G) (hk : LMo G k) (d : Sl) (a1 : Int32) : Rz C 2 G (setS M k) (poM avI (setS M k)) 0 [(0, .inr (k, 34)), (1, .inl (.int a1))] [] d (Mo_refuses d a1) := by
  unfold Mo_refuses
  refine z_aload_n (pc := 0) hC 0 rfl 0 rfl dX6_refuses_0 ?_
  refine z_sipush (pc := 1) hC (2172 : Int32) rfl dX6_refuses_1 ?_
  refine z_iload_n (pc := 4) hC 1 rfl 1 rfl dX6_refuses_4 ?_
  refine z_iadd (pc := 5) hC dX6_refuses_5 ?_
  refine z_iconst (pc := 6) hC (0 : Int32) rfl dX6_refuses_6 ?_
  refine z_cvV (pc := 7) (st := []) hC y_X6_lay q1246 [.inl (.int ((2172 : Int32) + a1)), .inl (.int (0 : Int32))] rfl (hk 34 rfl) rfl rfl (c_X6_lay hC.2.2.2.2.2.2.1 hk) rfl ⟨rfl, rfl, (Nat.le_of_ble_eq_true rfl), (Nat.le_of_ble_eq_true rfl)⟩ (Nat.le_of_ble_eq_true rfl) dX6_refuses_7 (fun r1 d2 => ?_)
  refine z_aload_n (pc := 10) hC 0 rfl 0 rfl dX6_refuses_10 ?_
  refine z_sipush (pc := 11) hC (2200 : Int32) rfl dX6_refuses_11 ?_
  refine z_cvV (pc := 14) (st := []) hC y_X6_more q1596 [.inl (.int (2200 : Int32))] rfl (hk 34 rfl) rfl rfl (c_X6_more hC.2.2.2.2.2.2.1 hk) rfl ⟨rfl, rfl, (Nat.le_of_ble_eq_true rfl), (Nat.le_of_ble_eq_true rfl)⟩ (Nat.le_of_ble_eq_true rfl) dX6_refuses_14 (fun r3 d4 => ?_)
  refine z_bipush (pc := 17) hC (-5 : Int32) rfl dX6_refuses_17 ?_
  exact z_iret (pc := 19) hC rfl dX6_refuses_19
theorem c_X6_refuses {G : Geo} {M : Mem} {k : Nat} (hG : GOk G) (hk : LMo G k) {d : Sl} {a1 : Int32} (l : Launch) (r : Int32) (d1 : Sl) (h : Mo_refuses d a1 = some (r, d1)) : Mt l yX6_refuses cX6_refuses 2 (some .int) rm_X6_refuses G [.inr (k, 34), .inl (.int a1)] ((setS M k) d) (avI r) ((setS M k) d1) :=
  mt_of (mem := (setS M k)) (po := poM avI (setS M k)) (x0 := d) (t := (r, d1)) rfl hG [.inr (k, 34), .inl (.int a1)] (Nat.le_of_ble_eq_true rfl) rfl (fun C hC => r_Mo_refuses hC hk d a1) h
-- FrameHeirsModel.served(I)I
abbrev rm_X6_served : Room := { frames := 6, cells := 0, slots := 0, locals := 151 }
theorem dX6_served_0 : decode cX6_served 0 = .ok (.aload_n 0, 1) := by decide +kernel
theorem dX6_served_1 : decode cX6_served 1 = .ok (.iload_n 1, 1) := by decide +kernel
theorem dX6_served_2 : decode cX6_served 2 = .ok (.invokevirtual 398, 3) := by decide +kernel
theorem dX6_served_5 : decode cX6_served 5 = .ok (.istore_n 2, 1) := by decide +kernel
theorem dX6_served_6 : decode cX6_served 6 = .ok (.iload_n 2, 1) := by decide +kernel
theorem dX6_served_7 : decode cX6_served 7 = .ok (.ifCond .ge 6, 3) := by decide +kernel
theorem dX6_served_10 : decode cX6_served 10 = .ok (.bipush (-2), 2) := by decide +kernel
theorem dX6_served_12 : decode cX6_served 12 = .ok (.ireturn, 1) := by decide +kernel
theorem dX6_served_13 : decode cX6_served 13 = .ok (.aload_n 0, 1) := by decide +kernel
theorem dX6_served_14 : decode cX6_served 14 = .ok (.sipush 2178, 3) := by decide +kernel
theorem dX6_served_17 : decode cX6_served 17 = .ok (.iload_n 2, 1) := by decide +kernel
theorem dX6_served_18 : decode cX6_served 18 = .ok (.iadd, 1) := by decide +kernel
theorem dX6_served_19 : decode cX6_served 19 = .ok (.invokevirtual 189, 3) := by decide +kernel
theorem dX6_served_22 : decode cX6_served 22 = .ok (.istore_n 3, 1) := by decide +kernel
theorem dX6_served_23 : decode cX6_served 23 = .ok (.aload_n 0, 1) := by decide +kernel
theorem dX6_served_24 : decode cX6_served 24 = .ok (.sipush 2184, 3) := by decide +kernel
theorem dX6_served_27 : decode cX6_served 27 = .ok (.iload_n 2, 1) := by decide +kernel
theorem dX6_served_28 : decode cX6_served 28 = .ok (.iadd, 1) := by decide +kernel
theorem dX6_served_29 : decode cX6_served 29 = .ok (.invokevirtual 189, 3) := by decide +kernel
theorem dX6_served_32 : decode cX6_served 32 = .ok (.istore 4, 2) := by decide +kernel
theorem dX6_served_34 : decode cX6_served 34 = .ok (.aload_n 0, 1) := by decide +kernel
theorem dX6_served_35 : decode cX6_served 35 = .ok (.iload_n 1, 1) := by decide +kernel
theorem dX6_served_36 : decode cX6_served 36 = .ok (.iload_n 2, 1) := by decide +kernel
theorem dX6_served_37 : decode cX6_served 37 = .ok (.iload_n 3, 1) := by decide +kernel
theorem dX6_served_38 : decode cX6_served 38 = .ok (.iload 4, 2) := by decide +kernel
theorem dX6_served_40 : decode cX6_served 40 = .ok (.invokevirtual 401, 3) := by decide +kernel
theorem dX6_served_43 : decode cX6_served 43 = .ok (.istore 5, 2) := by decide +kernel
theorem dX6_served_45 : decode cX6_served 45 = .ok (.aload_n 0, 1) := by decide +kernel
theorem dX6_served_46 : decode cX6_served 46 = .ok (.iload_n 1, 1) := by decide +kernel
theorem dX6_served_47 : decode cX6_served 47 = .ok (.iload 5, 2) := by decide +kernel
theorem dX6_served_49 : decode cX6_served 49 = .ok (.iload 4, 2) := by decide +kernel
theorem dX6_served_51 : decode cX6_served 51 = .ok (.invokevirtual 379, 3) := by decide +kernel
theorem dX6_served_54 : decode cX6_served 54 = .ok (.ifCond .ne 41, 3) := by decide +kernel
theorem dX6_served_57 : decode cX6_served 57 = .ok (.aload_n 0, 1) := by decide +kernel
theorem dX6_served_58 : decode cX6_served 58 = .ok (.iload_n 1, 1) := by decide +kernel
theorem dX6_served_59 : decode cX6_served 59 = .ok (.invokevirtual 376, 3) := by decide +kernel
theorem dX6_served_62 : decode cX6_served 62 = .ok (.ifCond .eq 6, 3) := by decide +kernel
theorem dX6_served_65 : decode cX6_served 65 = .ok (.bipush (-4), 2) := by decide +kernel
theorem dX6_served_67 : decode cX6_served 67 = .ok (.ireturn, 1) := by decide +kernel
theorem dX6_served_68 : decode cX6_served 68 = .ok (.aload_n 0, 1) := by decide +kernel
theorem dX6_served_69 : decode cX6_served 69 = .ok (.getfield 23, 3) := by decide +kernel
theorem dX6_served_72 : decode cX6_served 72 = .ok (.iload_n 1, 1) := by decide +kernel
theorem dX6_served_73 : decode cX6_served 73 = .ok (.iaload, 1) := by decide +kernel
theorem dX6_served_74 : decode cX6_served 74 = .ok (.ifCond .ge 9, 3) := by decide +kernel
theorem dX6_served_77 : decode cX6_served 77 = .ok (.aload_n 0, 1) := by decide +kernel
theorem dX6_served_78 : decode cX6_served 78 = .ok (.iload_n 2, 1) := by decide +kernel
theorem dX6_served_79 : decode cX6_served 79 = .ok (.invokevirtual 404, 3) := by decide +kernel
theorem dX6_served_82 : decode cX6_served 82 = .ok (.ireturn, 1) := by decide +kernel
theorem dX6_served_83 : decode cX6_served 83 = .ok (.aload_n 0, 1) := by decide +kernel
theorem dX6_served_84 : decode cX6_served 84 = .ok (.iload_n 1, 1) := by decide +kernel
theorem dX6_served_85 : decode cX6_served 85 = .ok (.iload 5, 2) := by decide +kernel
theorem dX6_served_87 : decode cX6_served 87 = .ok (.iload 4, 2) := by decide +kernel
theorem dX6_served_89 : decode cX6_served 89 = .ok (.invokevirtual 386, 3) := by decide +kernel
theorem dX6_served_92 : decode cX6_served 92 = .ok (.bipush (-6), 2) := by decide +kernel
theorem dX6_served_94 : decode cX6_served 94 = .ok (.ireturn, 1) := by decide +kernel
theorem dX6_served_95 : decode cX6_served 95 = .ok (.aload_n 0, 1) := by decide +kernel
theorem dX6_served_96 : decode cX6_served 96 = .ok (.iload_n 2, 1) := by decide +kernel
theorem dX6_served_97 : decode cX6_served 97 = .ok (.iload_n 3, 1) := by decide +kernel
theorem dX6_served_98 : decode cX6_served 98 = .ok (.invokevirtual 199, 3) := by decide +kernel
theorem dX6_served_101 : decode cX6_served 101 = .ok (.istore 6, 2) := by decide +kernel
theorem dX6_served_103 : decode cX6_served 103 = .ok (.aload_n 0, 1) := by decide +kernel
theorem dX6_served_104 : decode cX6_served 104 = .ok (.aload_n 0, 1) := by decide +kernel
theorem dX6_served_105 : decode cX6_served 105 = .ok (.iload_n 1, 1) := by decide +kernel
theorem dX6_served_106 : decode cX6_served 106 = .ok (.iload 5, 2) := by decide +kernel
theorem dX6_served_108 : decode cX6_served 108 = .ok (.invokevirtual 199, 3) := by decide +kernel
theorem dX6_served_111 : decode cX6_served 111 = .ok (.invokevirtual 213, 3) := by decide +kernel
theorem dX6_served_114 : decode cX6_served 114 = .ok (.ifCond .ne 17, 3) := by decide +kernel
theorem dX6_served_117 : decode cX6_served 117 = .ok (.iload 6, 2) := by decide +kernel
theorem dX6_served_119 : decode cX6_served 119 = .ok (.ifCond .lt 15, 3) := by decide +kernel
theorem dX6_served_122 : decode cX6_served 122 = .ok (.aload_n 0, 1) := by decide +kernel
theorem dX6_served_123 : decode cX6_served 123 = .ok (.iload 6, 2) := by decide +kernel
theorem dX6_served_125 : decode cX6_served 125 = .ok (.invokevirtual 261, 3) := by decide +kernel
theorem dX6_served_128 : decode cX6_served 128 = .ok (.ifCond .eq 6, 3) := by decide +kernel
theorem dX6_served_131 : decode cX6_served 131 = .ok (.bipush (-3), 2) := by decide +kernel
theorem dX6_served_133 : decode cX6_served 133 = .ok (.ireturn, 1) := by decide +kernel
theorem dX6_served_134 : decode cX6_served 134 = .ok (.iload 6, 2) := by decide +kernel
theorem dX6_served_136 : decode cX6_served 136 = .ok (.ifCond .lt 35, 3) := by decide +kernel
theorem dX6_served_139 : decode cX6_served 139 = .ok (.aload_n 0, 1) := by decide +kernel
theorem dX6_served_140 : decode cX6_served 140 = .ok (.iload 6, 2) := by decide +kernel
theorem dX6_served_142 : decode cX6_served 142 = .ok (.invokevirtual 210, 3) := by decide +kernel
theorem dX6_served_145 : decode cX6_served 145 = .ok (.ifCond .ge 9, 3) := by decide +kernel
theorem dX6_served_148 : decode cX6_served 148 = .ok (.aload_n 0, 1) := by decide +kernel
theorem dX6_served_149 : decode cX6_served 149 = .ok (.iload_n 2, 1) := by decide +kernel
theorem dX6_served_150 : decode cX6_served 150 = .ok (.invokevirtual 404, 3) := by decide +kernel
theorem dX6_served_153 : decode cX6_served 153 = .ok (.ireturn, 1) := by decide +kernel
theorem dX6_served_154 : decode cX6_served 154 = .ok (.aload_n 0, 1) := by decide +kernel
theorem dX6_served_155 : decode cX6_served 155 = .ok (.iload_n 2, 1) := by decide +kernel
theorem dX6_served_156 : decode cX6_served 156 = .ok (.iload_n 3, 1) := by decide +kernel
theorem dX6_served_157 : decode cX6_served 157 = .ok (.iconst 0, 1) := by decide +kernel
theorem dX6_served_158 : decode cX6_served 158 = .ok (.invokevirtual 299, 3) := by decide +kernel
theorem dX6_served_161 : decode cX6_served 161 = .ok (.aload_n 0, 1) := by decide +kernel
theorem dX6_served_162 : decode cX6_served 162 = .ok (.bipush 32, 2) := by decide +kernel
theorem dX6_served_164 : decode cX6_served 164 = .ok (.iload_n 2, 1) := by decide +kernel
theorem dX6_served_165 : decode cX6_served 165 = .ok (.imul, 1) := by decide +kernel
theorem dX6_served_166 : decode cX6_served 166 = .ok (.iload_n 3, 1) := by decide +kernel
theorem dX6_served_167 : decode cX6_served 167 = .ok (.iadd, 1) := by decide +kernel
theorem dX6_served_168 : decode cX6_served 168 = .ok (.invokevirtual 323, 3) := by decide +kernel
theorem dX6_served_171 : decode cX6_served 171 = .ok (.aload_n 0, 1) := by decide +kernel
theorem dX6_served_172 : decode cX6_served 172 = .ok (.iload_n 2, 1) := by decide +kernel
theorem dX6_served_173 : decode cX6_served 173 = .ok (.invokevirtual 279, 3) := by decide +kernel
theorem dX6_served_176 : decode cX6_served 176 = .ok (.aload_n 0, 1) := by decide +kernel
theorem dX6_served_177 : decode cX6_served 177 = .ok (.iload_n 2, 1) := by decide +kernel
theorem dX6_served_178 : decode cX6_served 178 = .ok (.invokevirtual 282, 3) := by decide +kernel
theorem dX6_served_181 : decode cX6_served 181 = .ok (.if_icmp .lt 44, 3) := by decide +kernel
theorem dX6_served_184 : decode cX6_served 184 = .ok (.iload_n 2, 1) := by decide +kernel
theorem dX6_served_185 : decode cX6_served 185 = .ok (.ifCond .le 40, 3) := by decide +kernel
theorem dX6_served_188 : decode cX6_served 188 = .ok (.aload_n 0, 1) := by decide +kernel
theorem dX6_served_189 : decode cX6_served 189 = .ok (.getfield 29, 3) := by decide +kernel
theorem dX6_served_192 : decode cX6_served 192 = .ok (.iload_n 2, 1) := by decide +kernel
theorem dX6_served_193 : decode cX6_served 193 = .ok (.iaload, 1) := by decide +kernel
theorem dX6_served_194 : decode cX6_served 194 = .ok (.ifCond .le 31, 3) := by decide +kernel
theorem dX6_served_197 : decode cX6_served 197 = .ok (.aload_n 0, 1) := by decide +kernel
theorem dX6_served_198 : decode cX6_served 198 = .ok (.iload_n 2, 1) := by decide +kernel
theorem dX6_served_199 : decode cX6_served 199 = .ok (.iconst 1, 1) := by decide +kernel
theorem dX6_served_200 : decode cX6_served 200 = .ok (.invokevirtual 407, 3) := by decide +kernel
theorem dX6_served_203 : decode cX6_served 203 = .ok (.istore 7, 2) := by decide +kernel
theorem dX6_served_205 : decode cX6_served 205 = .ok (.iload 7, 2) := by decide +kernel
theorem dX6_served_207 : decode cX6_served 207 = .ok (.ifCond .ge 9, 3) := by decide +kernel
theorem dX6_served_210 : decode cX6_served 210 = .ok (.aload_n 0, 1) := by decide +kernel
theorem dX6_served_211 : decode cX6_served 211 = .ok (.iload_n 2, 1) := by decide +kernel
theorem dX6_served_212 : decode cX6_served 212 = .ok (.invokevirtual 404, 3) := by decide +kernel
theorem dX6_served_215 : decode cX6_served 215 = .ok (.ireturn, 1) := by decide +kernel
theorem dX6_served_216 : decode cX6_served 216 = .ok (.aload_n 0, 1) := by decide +kernel
theorem dX6_served_217 : decode cX6_served 217 = .ok (.iload 7, 2) := by decide +kernel
theorem dX6_served_219 : decode cX6_served 219 = .ok (.invokevirtual 323, 3) := by decide +kernel
theorem dX6_served_222 : decode cX6_served 222 = .ok (.goto (-51), 3) := by decide +kernel
theorem dX6_served_225 : decode cX6_served 225 = .ok (.aload_n 0, 1) := by decide +kernel
theorem dX6_served_226 : decode cX6_served 226 = .ok (.iload_n 1, 1) := by decide +kernel
theorem dX6_served_227 : decode cX6_served 227 = .ok (.iload 5, 2) := by decide +kernel
theorem dX6_served_229 : decode cX6_served 229 = .ok (.iload 4, 2) := by decide +kernel
theorem dX6_served_231 : decode cX6_served 231 = .ok (.invokevirtual 379, 3) := by decide +kernel
theorem dX6_served_234 : decode cX6_served 234 = .ok (.ifCond .ne 9, 3) := by decide +kernel
theorem dX6_served_237 : decode cX6_served 237 = .ok (.aload_n 0, 1) := by decide +kernel
theorem dX6_served_238 : decode cX6_served 238 = .ok (.iload_n 2, 1) := by decide +kernel
theorem dX6_served_239 : decode cX6_served 239 = .ok (.invokevirtual 404, 3) := by decide +kernel
theorem dX6_served_242 : decode cX6_served 242 = .ok (.ireturn, 1) := by decide +kernel
theorem dX6_served_243 : decode cX6_served 243 = .ok (.aload_n 0, 1) := by decide +kernel
theorem dX6_served_244 : decode cX6_served 244 = .ok (.iload_n 1, 1) := by decide +kernel
theorem dX6_served_245 : decode cX6_served 245 = .ok (.iload 5, 2) := by decide +kernel
theorem dX6_served_247 : decode cX6_served 247 = .ok (.invokevirtual 199, 3) := by decide +kernel
theorem dX6_served_250 : decode cX6_served 250 = .ok (.istore 7, 2) := by decide +kernel
theorem dX6_served_252 : decode cX6_served 252 = .ok (.aload_n 0, 1) := by decide +kernel
theorem dX6_served_253 : decode cX6_served 253 = .ok (.bipush 32, 2) := by decide +kernel
theorem dX6_served_255 : decode cX6_served 255 = .ok (.iload_n 2, 1) := by decide +kernel
theorem dX6_served_256 : decode cX6_served 256 = .ok (.imul, 1) := by decide +kernel
theorem dX6_served_257 : decode cX6_served 257 = .ok (.iload_n 3, 1) := by decide +kernel
theorem dX6_served_258 : decode cX6_served 258 = .ok (.iadd, 1) := by decide +kernel
theorem dX6_served_259 : decode cX6_served 259 = .ok (.iconst 0, 1) := by decide +kernel
theorem dX6_served_260 : decode cX6_served 260 = .ok (.aload_n 0, 1) := by decide +kernel
theorem dX6_served_261 : decode cX6_served 261 = .ok (.iload_n 1, 1) := by decide +kernel
theorem dX6_served_262 : decode cX6_served 262 = .ok (.iload 5, 2) := by decide +kernel
theorem dX6_served_264 : decode cX6_served 264 = .ok (.invokevirtual 383, 3) := by decide +kernel
theorem dX6_served_267 : decode cX6_served 267 = .ok (.aload_n 0, 1) := by decide +kernel
theorem dX6_served_268 : decode cX6_served 268 = .ok (.sipush 384, 3) := by decide +kernel
theorem dX6_served_271 : decode cX6_served 271 = .ok (.iload 7, 2) := by decide +kernel
theorem dX6_served_273 : decode cX6_served 273 = .ok (.iadd, 1) := by decide +kernel
theorem dX6_served_274 : decode cX6_served 274 = .ok (.invokevirtual 189, 3) := by decide +kernel
theorem dX6_served_277 : decode cX6_served 277 = .ok (.iload 4, 2) := by decide +kernel
theorem dX6_served_279 : decode cX6_served 279 = .ok (.iconst 1, 1) := by decide +kernel
theorem dX6_served_280 : decode cX6_served 280 = .ok (.ior, 1) := by decide +kernel
theorem dX6_served_281 : decode cX6_served 281 = .ok (.iand, 1) := by decide +kernel
theorem dX6_served_282 : decode cX6_served 282 = .ok (.iload 7, 2) := by decide +kernel
theorem dX6_served_284 : decode cX6_served 284 = .ok (.ldc_w 382, 3) := by decide +kernel
theorem dX6_served_287 : decode cX6_served 287 = .ok (.invokevirtual 130, 3) := by decide +kernel
theorem dX6_served_290 : decode cX6_served 290 = .ok (.aload_n 0, 1) := by decide +kernel
theorem dX6_served_291 : decode cX6_served 291 = .ok (.sipush 2172, 3) := by decide +kernel
theorem dX6_served_294 : decode cX6_served 294 = .ok (.iload_n 2, 1) := by decide +kernel
theorem dX6_served_295 : decode cX6_served 295 = .ok (.iadd, 1) := by decide +kernel
theorem dX6_served_296 : decode cX6_served 296 = .ok (.iconst 0, 1) := by decide +kernel
theorem dX6_served_297 : decode cX6_served 297 = .ok (.invokevirtual 122, 3) := by decide +kernel
theorem dX6_served_300 : decode cX6_served 300 = .ok (.aload_n 0, 1) := by decide +kernel
theorem dX6_served_301 : decode cX6_served 301 = .ok (.iload_n 2, 1) := by decide +kernel
theorem dX6_served_302 : decode cX6_served 302 = .ok (.iload_n 3, 1) := by decide +kernel
theorem dX6_served_303 : decode cX6_served 303 = .ok (.invokevirtual 383, 3) := by decide +kernel
theorem dX6_served_306 : decode cX6_served 306 = .ok (.ireturn, 1) := by decide +kernel
def Mo_served_225 (v1 : Int32) (v2 : Int32) (v3 : Int32) (v4 : Int32) (v5 : Int32) (d : Sl) : Option (Int32 × Sl) :=
  bp (Mo_has d v1 v5 v4) fun r1 =>
  if r1 = 0 then
    (bd (Mo_refuses d v2) fun r11 d12 =>
    some (r11, d12))
  else
    (bp (Mo_cover d v1 v5) fun r2 =>
    bnd r2 fun v7_3 =>
    bp (Mo_frameAt d v1 v5) fun r4 =>
    bp (Mo_of d ((384 : Int32) + v7_3)) fun r5 =>
    bd (Mo_comes d (((32 : Int32) * v2) + v3) (0 : Int32) r4 (r5 &&& (v4 ||| (1 : Int32))) v7_3 (1065353216 : Int32)) fun r6 d7 =>
    bd (Mo_lay d7 ((2172 : Int32) + v2) (0 : Int32)) fun r8 d9 =>
    bp (Mo_frameAt d9 v2 v3) fun r10 =>
    some (r10, d9))
def Mo_served_171 : Nat → Int32 → Int32 → Int32 → Int32 → Int32 → Sl → Option (Int32 × Sl)
  | 0, _, _, _, _, _, _ => none
  | n + 1, v1, v2, v3, v4, v5, d =>
    bp (Mo_pagesIn d v2) fun r13 =>
    bp (Mo_mostOf d v2) fun r14 =>
    if r13 < r14 then
      (Mo_served_225 v1 v2 v3 v4 v5 d)
    else
      (if v2 ≤ 0 then
        (Mo_served_225 v1 v2 v3 v4 v5 d)
      else
        (if inb v2 12 then
        if (d 40 (ix v2)) ≤ 0 then
          (Mo_served_225 v1 v2 v3 v4 v5 d)
        else
          (bp (Mo_coldestOf d v2 (1 : Int32)) fun r15 =>
          bnd r15 fun v7_16 =>
          if 0 ≤ v7_16 then
            (bd (Mo_goes d v7_16) fun r17 d18 =>
            Mo_served_171 n v1 v2 v3 v4 v5 d18)
          else
            (bd (Mo_refuses d v2) fun r19 d20 =>
            some (r19, d20)))
        else none))
def Mo_served_134 (v1 : Int32) (v2 : Int32) (v3 : Int32) (v4 : Int32) (v5 : Int32) (v6 : Int32) (d : Sl) : Option (Int32 × Sl) :=
  if v6 < 0 then
    (Mo_served_171 FU v1 v2 v3 v4 v5 d)
  else
    (bp (Mo_giverOf d v6) fun r21 =>
    if 0 ≤ r21 then
      (bd (Mo_cuts d v2 v3 (0 : Int32)) fun r22 d23 =>
      bd (Mo_goes d23 (((32 : Int32) * v2) + v3)) fun r24 d25 =>
      Mo_served_171 FU v1 v2 v3 v4 v5 d25)
    else
      (bd (Mo_refuses d v2) fun r26 d27 =>
      some (r26, d27)))
def Mo_served (d : Sl) (a1 : Int32) : Option (Int32 × Sl) :=
  bp (Mo_firstFor d a1) fun r28 =>
  bnd r28 fun v2_29 =>
  if 0 ≤ v2_29 then
    (bp (Mo_of d ((2178 : Int32) + v2_29)) fun r30 =>
    bnd r30 fun v3_31 =>
    bp (Mo_of d ((2184 : Int32) + v2_29)) fun r32 =>
    bnd r32 fun v4_33 =>
    bp (Mo_placeBy d a1 v2_29 v3_31 v4_33) fun r34 =>
    bnd r34 fun v5_35 =>
    bp (Mo_has d a1 v5_35 v4_33) fun r36 =>
    if r36 = 0 then
      (bp (Mo_isWaiting d a1) fun r42 =>
      if r42 = 0 then
        (if inb a1 12 then
        if 0 ≤ (d 38 (ix a1)) then
          (bd (Mo_waitsFor d a1 v5_35 v4_33) fun r43 d44 =>
          some ((-6 : Int32), d44))
        else
          (bd (Mo_refuses d v2_29) fun r45 d46 =>
          some (r45, d46))
        else none)
      else
        (some ((-4 : Int32), d)))
    else
      (bp (Mo_cover d v2_29 v3_31) fun r37 =>
      bnd r37 fun v6_38 =>
      bp (Mo_cover d a1 v5_35) fun r39 =>
      bp (Mo_isBusy d r39) fun r40 =>
      if r40 = 0 then
        (if v6_38 < 0 then
          (Mo_served_134 a1 v2_29 v3_31 v4_33 v5_35 v6_38 d)
        else
          (bp (Mo_isBusyBelow d v6_38) fun r41 =>
          if r41 = 0 then
            (Mo_served_134 a1 v2_29 v3_31 v4_33 v5_35 v6_38 d)
          else
            (some ((-3 : Int32), d))))
      else
        (some ((-3 : Int32), d))))
  else
    (some ((-2 : Int32), d))
theorem y_X6_served : YV yX6_served cX6_served 8 (some .int) 1 := ⟨q1727, q117, q1728, q149, by decide +kernel, by decide +kernel, by decide +kernel, by decide +kernel⟩
theorem r_Mo_served_225 {C : Cxt} {G : Geo} {M : Mem} {k : Nat} (hC : Cx C cX6_served 8 "FrameHeirsModel" (some .int) rm_X6_served G) (hk : LMo G k) (v1 : Int32) (v2 : Int32) (v3 : Int32) (v4 : Int32) (v5 : Int32) (d : Sl) : Rz C 8 G (setS M k) (poM avI (setS M k)) 225 [(0, .inr (k, 34)), (1, .inl (.int v1)), (2, .inl (.int v2)), (3, .inl (.int v3)), (4, .inl (.int v4)), (5, .inl (.int v5))] [] d (Mo_served_225 v1 v2 v3 v4 v5 d) := by
  unfold Mo_served_225
  refine z_aload_n (pc := 225) hC 0 rfl 0 rfl dX6_served_225 ?_
  refine z_iload_n (pc := 226) hC 1 rfl 1 rfl dX6_served_226 ?_
  refine z_iload (pc := 227) hC 5 5 rfl dX6_served_227 ?_
  refine z_iload (pc := 229) hC 4 4 rfl dX6_served_229 ?_
  refine z_piV (pc := 231) (st := []) hC y_X6_has q1705 [.inl (.int v1), .inl (.int v5), .inl (.int v4)] rfl (hk 34 rfl) rfl rfl (c_X6_has hC.2.2.2.2.2.2.1 hk) rfl ⟨rfl, rfl, (Nat.le_of_ble_eq_true rfl), (Nat.le_of_ble_eq_true rfl)⟩ (Nat.le_of_ble_eq_true rfl) dX6_served_231 (fun r1 => ?_)
  refine z_if_ne (pc := 234) hC 243 rfl dX6_served_234 ?_ ?_
  · refine z_aload_n (pc := 243) hC 0 rfl 0 rfl dX6_served_243 ?_
    refine z_iload_n (pc := 244) hC 1 rfl 1 rfl dX6_served_244 ?_
    refine z_iload (pc := 245) hC 5 5 rfl dX6_served_245 ?_
    refine z_piV (pc := 247) (st := []) hC y_X6_cover q1512 [.inl (.int v1), .inl (.int v5)] rfl (hk 34 rfl) rfl rfl (c_X6_cover hC.2.2.2.2.2.2.1 hk) rfl ⟨rfl, rfl, (Nat.le_of_ble_eq_true rfl), (Nat.le_of_ble_eq_true rfl)⟩ (Nat.le_of_ble_eq_true rfl) dX6_served_247 (fun r2 => ?_)
    refine z_istore (pc := 250) (ls1 := fun v => [(7, .inl (.int v)), (0, .inr (k, 34)), (1, .inl (.int v1)), (2, .inl (.int v2)), (3, .inl (.int v3)), (4, .inl (.int v4)), (5, .inl (.int v5))]) hC 7 (by decide) (fun v => rfl) dX6_served_250 (fun v7_3 => ?_)
    refine z_aload_n (pc := 252) hC 0 rfl 1 rfl dX6_served_252 ?_
    refine z_bipush (pc := 253) hC (32 : Int32) rfl dX6_served_253 ?_
    refine z_iload_n (pc := 255) hC 2 rfl 3 rfl dX6_served_255 ?_
    refine z_imul (pc := 256) hC dX6_served_256 ?_
    refine z_iload_n (pc := 257) hC 3 rfl 4 rfl dX6_served_257 ?_
    refine z_iadd (pc := 258) hC dX6_served_258 ?_
    refine z_iconst (pc := 259) hC (0 : Int32) rfl dX6_served_259 ?_
    refine z_aload_n (pc := 260) hC 0 rfl 1 rfl dX6_served_260 ?_
    refine z_iload_n (pc := 261) hC 1 rfl 2 rfl dX6_served_261 ?_
    refine z_iload (pc := 262) hC 5 6 rfl dX6_served_262 ?_
    refine z_piV (pc := 264) (st := [.inl (.int (0 : Int32)), .inl (.int (((32 : Int32) * v2) + v3)), .inr (k, 34)]) hC y_X6_frameAt q1713 [.inl (.int v1), .inl (.int v5)] rfl (hk 34 rfl) rfl rfl (c_X6_frameAt hC.2.2.2.2.2.2.1 hk) rfl ⟨rfl, rfl, (Nat.le_of_ble_eq_true rfl), (Nat.le_of_ble_eq_true rfl)⟩ (Nat.le_of_ble_eq_true rfl) dX6_served_264 (fun r4 => ?_)
    refine z_aload_n (pc := 267) hC 0 rfl 1 rfl dX6_served_267 ?_
    refine z_sipush (pc := 268) hC (384 : Int32) rfl dX6_served_268 ?_
    refine z_iload (pc := 271) hC 7 0 rfl dX6_served_271 ?_
    refine z_iadd (pc := 273) hC dX6_served_273 ?_
    refine z_piV (pc := 274) (st := [.inl (.int r4), .inl (.int (0 : Int32)), .inl (.int (((32 : Int32) * v2) + v3)), .inr (k, 34)]) hC y_X6_of q1262 [.inl (.int ((384 : Int32) + v7_3))] rfl (hk 34 rfl) rfl rfl (c_X6_of hC.2.2.2.2.2.2.1 hk) rfl ⟨rfl, rfl, (Nat.le_of_ble_eq_true rfl), (Nat.le_of_ble_eq_true rfl)⟩ (Nat.le_of_ble_eq_true rfl) dX6_served_274 (fun r5 => ?_)
    refine z_iload (pc := 277) hC 4 5 rfl dX6_served_277 ?_
    refine z_iconst (pc := 279) hC (1 : Int32) rfl dX6_served_279 ?_
    refine z_ior (pc := 280) hC dX6_served_280 ?_
    refine z_iand (pc := 281) hC dX6_served_281 ?_
    refine z_iload (pc := 282) hC 7 0 rfl dX6_served_282 ?_
    refine z_ldcw (pc := 284) hC (1065353216 : Int32) q1709 dX6_served_284 ?_
    refine z_cvV (pc := 287) (st := []) hC y_X6_comes q1254 [.inl (.int (((32 : Int32) * v2) + v3)), .inl (.int (0 : Int32)), .inl (.int r4), .inl (.int (r5 &&& (v4 ||| (1 : Int32)))), .inl (.int v7_3), .inl (.int (1065353216 : Int32))] rfl (hk 34 rfl) rfl rfl (c_X6_comes hC.2.2.2.2.2.2.1 hk) rfl ⟨rfl, rfl, (Nat.le_of_ble_eq_true rfl), (Nat.le_of_ble_eq_true rfl)⟩ (Nat.le_of_ble_eq_true rfl) dX6_served_287 (fun r6 d7 => ?_)
    refine z_aload_n (pc := 290) hC 0 rfl 1 rfl dX6_served_290 ?_
    refine z_sipush (pc := 291) hC (2172 : Int32) rfl dX6_served_291 ?_
    refine z_iload_n (pc := 294) hC 2 rfl 3 rfl dX6_served_294 ?_
    refine z_iadd (pc := 295) hC dX6_served_295 ?_
    refine z_iconst (pc := 296) hC (0 : Int32) rfl dX6_served_296 ?_
    refine z_cvV (pc := 297) (st := []) hC y_X6_lay q1246 [.inl (.int ((2172 : Int32) + v2)), .inl (.int (0 : Int32))] rfl (hk 34 rfl) rfl rfl (c_X6_lay hC.2.2.2.2.2.2.1 hk) rfl ⟨rfl, rfl, (Nat.le_of_ble_eq_true rfl), (Nat.le_of_ble_eq_true rfl)⟩ (Nat.le_of_ble_eq_true rfl) dX6_served_297 (fun r8 d9 => ?_)
    refine z_aload_n (pc := 300) hC 0 rfl 1 rfl dX6_served_300 ?_
    refine z_iload_n (pc := 301) hC 2 rfl 3 rfl dX6_served_301 ?_
    refine z_iload_n (pc := 302) hC 3 rfl 4 rfl dX6_served_302 ?_
    refine z_piV (pc := 303) (st := []) hC y_X6_frameAt q1713 [.inl (.int v2), .inl (.int v3)] rfl (hk 34 rfl) rfl rfl (c_X6_frameAt hC.2.2.2.2.2.2.1 hk) rfl ⟨rfl, rfl, (Nat.le_of_ble_eq_true rfl), (Nat.le_of_ble_eq_true rfl)⟩ (Nat.le_of_ble_eq_true rfl) dX6_served_303 (fun r10 => ?_)
    exact z_iret (pc := 306) hC rfl dX6_served_306
  · refine z_aload_n (pc := 237) hC 0 rfl 0 rfl dX6_served_237 ?_
    refine z_iload_n (pc := 238) hC 2 rfl 2 rfl dX6_served_238 ?_
    refine z_ciV (pc := 239) (st := []) hC y_X6_refuses q1741 [.inl (.int v2)] rfl (hk 34 rfl) rfl rfl (c_X6_refuses hC.2.2.2.2.2.2.1 hk) rfl ⟨rfl, rfl, (Nat.le_of_ble_eq_true rfl), (Nat.le_of_ble_eq_true rfl)⟩ (Nat.le_of_ble_eq_true rfl) dX6_served_239 (fun r11 d12 => ?_)
    exact z_iret (pc := 242) hC rfl dX6_served_242
theorem r_Mo_served_171 {C : Cxt} {G : Geo} {M : Mem} {k : Nat} (hC : Cx C cX6_served 8 "FrameHeirsModel" (some .int) rm_X6_served G) (hk : LMo G k) : ∀ (n : Nat) (v1 : Int32) (v2 : Int32) (v3 : Int32) (v4 : Int32) (v5 : Int32) (d : Sl), Rz C 8 G (setS M k) (poM avI (setS M k)) 171 [(0, .inr (k, 34)), (1, .inl (.int v1)), (2, .inl (.int v2)), (3, .inl (.int v3)), (4, .inl (.int v4)), (5, .inl (.int v5))] [] d (Mo_served_171 n v1 v2 v3 v4 v5 d) := by
  intro n
  induction n with
  | zero => intros; exact z_none
  | succ n ih =>
    intro v1 v2 v3 v4 v5 d
    rw [Mo_served_171]
    refine z_aload_n (pc := 171) hC 0 rfl 0 rfl dX6_served_171 ?_
    refine z_iload_n (pc := 172) hC 2 rfl 2 rfl dX6_served_172 ?_
    refine z_piV (pc := 173) (st := []) hC y_X6_pagesIn q1544 [.inl (.int v2)] rfl (hk 34 rfl) rfl rfl (c_X6_pagesIn hC.2.2.2.2.2.2.1 hk) rfl ⟨rfl, rfl, (Nat.le_of_ble_eq_true rfl), (Nat.le_of_ble_eq_true rfl)⟩ (Nat.le_of_ble_eq_true rfl) dX6_served_173 (fun r13 => ?_)
    refine z_aload_n (pc := 176) hC 0 rfl 0 rfl dX6_served_176 ?_
    refine z_iload_n (pc := 177) hC 2 rfl 2 rfl dX6_served_177 ?_
    refine z_piV (pc := 178) (st := [.inl (.int r13)]) hC y_X6_mostOf q1548 [.inl (.int v2)] rfl (hk 34 rfl) rfl rfl (c_X6_mostOf hC.2.2.2.2.2.2.1 hk) rfl ⟨rfl, rfl, (Nat.le_of_ble_eq_true rfl), (Nat.le_of_ble_eq_true rfl)⟩ (Nat.le_of_ble_eq_true rfl) dX6_served_178 (fun r14 => ?_)
    refine z_icmp_lt (pc := 181) hC 225 rfl dX6_served_181 ?_ ?_
    · exact z_sub [0, 1, 2, 3, 4, 5] rfl (r_Mo_served_225 hC hk v1 v2 v3 v4 v5 d)
    · refine z_iload_n (pc := 184) hC 2 rfl 2 rfl dX6_served_184 ?_
      refine z_if_le (pc := 185) hC 225 rfl dX6_served_185 ?_ ?_
      · exact z_sub [0, 1, 2, 3, 4, 5] rfl (r_Mo_served_225 hC hk v1 v2 v3 v4 v5 d)
      · refine z_aload_n (pc := 188) hC 0 rfl 0 rfl dX6_served_188 ?_
        refine z_getc (pc := 189) hC (hk 34 rfl) f_34_18 q1288 dX6_served_189 ?_
        refine z_iload_n (pc := 192) hC 2 rfl 2 rfl dX6_served_192 ?_
        refine zs_iald (pc := 193) hC (hk 40 rfl) rfl dX6_served_193 ?_
        refine z_if_le (pc := 194) hC 225 rfl dX6_served_194 ?_ ?_
        · exact z_sub [0, 1, 2, 3, 4, 5] rfl (r_Mo_served_225 hC hk v1 v2 v3 v4 v5 d)
        · refine z_aload_n (pc := 197) hC 0 rfl 0 rfl dX6_served_197 ?_
          refine z_iload_n (pc := 198) hC 2 rfl 2 rfl dX6_served_198 ?_
          refine z_iconst (pc := 199) hC (1 : Int32) rfl dX6_served_199 ?_
          refine z_piV (pc := 200) (st := []) hC y_X6_coldestOf q1745 [.inl (.int v2), .inl (.int (1 : Int32))] rfl (hk 34 rfl) rfl rfl (c_X6_coldestOf hC.2.2.2.2.2.2.1 hk) rfl ⟨rfl, rfl, (Nat.le_of_ble_eq_true rfl), (Nat.le_of_ble_eq_true rfl)⟩ (Nat.le_of_ble_eq_true rfl) dX6_served_200 (fun r15 => ?_)
          refine z_istore (pc := 203) (ls1 := fun v => [(7, .inl (.int v)), (0, .inr (k, 34)), (1, .inl (.int v1)), (2, .inl (.int v2)), (3, .inl (.int v3)), (4, .inl (.int v4)), (5, .inl (.int v5))]) hC 7 (by decide) (fun v => rfl) dX6_served_203 (fun v7_16 => ?_)
          refine z_iload (pc := 205) hC 7 0 rfl dX6_served_205 ?_
          refine z_if_ge (pc := 207) hC 216 rfl dX6_served_207 ?_ ?_
          · refine z_aload_n (pc := 216) hC 0 rfl 1 rfl dX6_served_216 ?_
            refine z_iload (pc := 217) hC 7 0 rfl dX6_served_217 ?_
            refine z_cvV (pc := 219) (st := []) hC y_X6_goes q1636 [.inl (.int v7_16)] rfl (hk 34 rfl) rfl rfl (c_X6_goes hC.2.2.2.2.2.2.1 hk) rfl ⟨rfl, rfl, (Nat.le_of_ble_eq_true rfl), (Nat.le_of_ble_eq_true rfl)⟩ (Nat.le_of_ble_eq_true rfl) dX6_served_219 (fun r17 d18 => ?_)
            refine z_goto (pc := 222) hC 171 rfl dX6_served_222 ?_
            exact z_sub [1, 2, 3, 4, 5, 6] rfl (ih v1 v2 v3 v4 v5 d18)
          · refine z_aload_n (pc := 210) hC 0 rfl 1 rfl dX6_served_210 ?_
            refine z_iload_n (pc := 211) hC 2 rfl 3 rfl dX6_served_211 ?_
            refine z_ciV (pc := 212) (st := []) hC y_X6_refuses q1741 [.inl (.int v2)] rfl (hk 34 rfl) rfl rfl (c_X6_refuses hC.2.2.2.2.2.2.1 hk) rfl ⟨rfl, rfl, (Nat.le_of_ble_eq_true rfl), (Nat.le_of_ble_eq_true rfl)⟩ (Nat.le_of_ble_eq_true rfl) dX6_served_212 (fun r19 d20 => ?_)
            exact z_iret (pc := 215) hC rfl dX6_served_215
theorem r_Mo_served_134 {C : Cxt} {G : Geo} {M : Mem} {k : Nat} (hC : Cx C cX6_served 8 "FrameHeirsModel" (some .int) rm_X6_served G) (hk : LMo G k) (v1 : Int32) (v2 : Int32) (v3 : Int32) (v4 : Int32) (v5 : Int32) (v6 : Int32) (d : Sl) : Rz C 8 G (setS M k) (poM avI (setS M k)) 134 [(0, .inr (k, 34)), (1, .inl (.int v1)), (2, .inl (.int v2)), (3, .inl (.int v3)), (4, .inl (.int v4)), (5, .inl (.int v5)), (6, .inl (.int v6))] [] d (Mo_served_134 v1 v2 v3 v4 v5 v6 d) := by
  unfold Mo_served_134
  refine z_iload (pc := 134) hC 6 6 rfl dX6_served_134 ?_
  refine z_if_lt (pc := 136) hC 171 rfl dX6_served_136 ?_ ?_
  · exact z_sub [0, 1, 2, 3, 4, 5] rfl (r_Mo_served_171 hC hk FU v1 v2 v3 v4 v5 d)
  · refine z_aload_n (pc := 139) hC 0 rfl 0 rfl dX6_served_139 ?_
    refine z_iload (pc := 140) hC 6 6 rfl dX6_served_140 ?_
    refine z_piV (pc := 142) (st := []) hC y_X6_giverOf q1532 [.inl (.int v6)] rfl (hk 34 rfl) rfl rfl (c_X6_giverOf hC.2.2.2.2.2.2.1 hk) rfl ⟨rfl, rfl, (Nat.le_of_ble_eq_true rfl), (Nat.le_of_ble_eq_true rfl)⟩ (Nat.le_of_ble_eq_true rfl) dX6_served_142 (fun r21 => ?_)
    refine z_if_ge (pc := 145) hC 154 rfl dX6_served_145 ?_ ?_
    · refine z_aload_n (pc := 154) hC 0 rfl 0 rfl dX6_served_154 ?_
      refine z_iload_n (pc := 155) hC 2 rfl 2 rfl dX6_served_155 ?_
      refine z_iload_n (pc := 156) hC 3 rfl 3 rfl dX6_served_156 ?_
      refine z_iconst (pc := 157) hC (0 : Int32) rfl dX6_served_157 ?_
      refine z_cvV (pc := 158) (st := []) hC y_X6_cuts q1572 [.inl (.int v2), .inl (.int v3), .inl (.int (0 : Int32))] rfl (hk 34 rfl) rfl rfl (c_X6_cuts hC.2.2.2.2.2.2.1 hk) rfl ⟨rfl, rfl, (Nat.le_of_ble_eq_true rfl), (Nat.le_of_ble_eq_true rfl)⟩ (Nat.le_of_ble_eq_true rfl) dX6_served_158 (fun r22 d23 => ?_)
      refine z_aload_n (pc := 161) hC 0 rfl 0 rfl dX6_served_161 ?_
      refine z_bipush (pc := 162) hC (32 : Int32) rfl dX6_served_162 ?_
      refine z_iload_n (pc := 164) hC 2 rfl 2 rfl dX6_served_164 ?_
      refine z_imul (pc := 165) hC dX6_served_165 ?_
      refine z_iload_n (pc := 166) hC 3 rfl 3 rfl dX6_served_166 ?_
      refine z_iadd (pc := 167) hC dX6_served_167 ?_
      refine z_cvV (pc := 168) (st := []) hC y_X6_goes q1636 [.inl (.int (((32 : Int32) * v2) + v3))] rfl (hk 34 rfl) rfl rfl (c_X6_goes hC.2.2.2.2.2.2.1 hk) rfl ⟨rfl, rfl, (Nat.le_of_ble_eq_true rfl), (Nat.le_of_ble_eq_true rfl)⟩ (Nat.le_of_ble_eq_true rfl) dX6_served_168 (fun r24 d25 => ?_)
      exact z_sub [0, 1, 2, 3, 4, 5] rfl (r_Mo_served_171 hC hk FU v1 v2 v3 v4 v5 d25)
    · refine z_aload_n (pc := 148) hC 0 rfl 0 rfl dX6_served_148 ?_
      refine z_iload_n (pc := 149) hC 2 rfl 2 rfl dX6_served_149 ?_
      refine z_ciV (pc := 150) (st := []) hC y_X6_refuses q1741 [.inl (.int v2)] rfl (hk 34 rfl) rfl rfl (c_X6_refuses hC.2.2.2.2.2.2.1 hk) rfl ⟨rfl, rfl, (Nat.le_of_ble_eq_true rfl), (Nat.le_of_ble_eq_true rfl)⟩ (Nat.le_of_ble_eq_true rfl) dX6_served_150 (fun r26 d27 => ?_)
      exact z_iret (pc := 153) hC rfl dX6_served_153
theorem r_Mo_served {C : Cxt} {G : Geo} {M : Mem} {k : Nat} (hC : Cx C cX6_served 8 "FrameHeirsModel" (some .int) rm_X6_served G) (hk : LMo G k) (d : Sl) (a1 : Int32) : Rz C 8 G (setS M k) (poM avI (setS M k)) 0 [(0, .inr (k, 34)), (1, .inl (.int a1))] [] d (Mo_served d a1) := by
  unfold Mo_served
  refine z_aload_n (pc := 0) hC 0 rfl 0 rfl dX6_served_0 ?_
  refine z_iload_n (pc := 1) hC 1 rfl 1 rfl dX6_served_1 ?_
  refine z_piV (pc := 2) (st := []) hC y_X6_firstFor q1729 [.inl (.int a1)] rfl (hk 34 rfl) rfl rfl (c_X6_firstFor hC.2.2.2.2.2.2.1 hk) rfl ⟨rfl, rfl, (Nat.le_of_ble_eq_true rfl), (Nat.le_of_ble_eq_true rfl)⟩ (Nat.le_of_ble_eq_true rfl) dX6_served_2 (fun r28 => ?_)
  refine z_istore_n (pc := 5) (ls1 := fun v => [(2, .inl (.int v)), (0, .inr (k, 34)), (1, .inl (.int a1))]) hC 2 rfl (by decide) (fun v => rfl) dX6_served_5 (fun v2_29 => ?_)
  refine z_iload_n (pc := 6) hC 2 rfl 0 rfl dX6_served_6 ?_
  refine z_if_ge (pc := 7) hC 13 rfl dX6_served_7 ?_ ?_
  · refine z_aload_n (pc := 13) hC 0 rfl 1 rfl dX6_served_13 ?_
    refine z_sipush (pc := 14) hC (2178 : Int32) rfl dX6_served_14 ?_
    refine z_iload_n (pc := 17) hC 2 rfl 0 rfl dX6_served_17 ?_
    refine z_iadd (pc := 18) hC dX6_served_18 ?_
    refine z_piV (pc := 19) (st := []) hC y_X6_of q1262 [.inl (.int ((2178 : Int32) + v2_29))] rfl (hk 34 rfl) rfl rfl (c_X6_of hC.2.2.2.2.2.2.1 hk) rfl ⟨rfl, rfl, (Nat.le_of_ble_eq_true rfl), (Nat.le_of_ble_eq_true rfl)⟩ (Nat.le_of_ble_eq_true rfl) dX6_served_19 (fun r30 => ?_)
    refine z_istore_n (pc := 22) (ls1 := fun v => [(3, .inl (.int v)), (2, .inl (.int v2_29)), (0, .inr (k, 34)), (1, .inl (.int a1))]) hC 3 rfl (by decide) (fun v => rfl) dX6_served_22 (fun v3_31 => ?_)
    refine z_aload_n (pc := 23) hC 0 rfl 2 rfl dX6_served_23 ?_
    refine z_sipush (pc := 24) hC (2184 : Int32) rfl dX6_served_24 ?_
    refine z_iload_n (pc := 27) hC 2 rfl 1 rfl dX6_served_27 ?_
    refine z_iadd (pc := 28) hC dX6_served_28 ?_
    refine z_piV (pc := 29) (st := []) hC y_X6_of q1262 [.inl (.int ((2184 : Int32) + v2_29))] rfl (hk 34 rfl) rfl rfl (c_X6_of hC.2.2.2.2.2.2.1 hk) rfl ⟨rfl, rfl, (Nat.le_of_ble_eq_true rfl), (Nat.le_of_ble_eq_true rfl)⟩ (Nat.le_of_ble_eq_true rfl) dX6_served_29 (fun r32 => ?_)
    refine z_istore (pc := 32) (ls1 := fun v => [(4, .inl (.int v)), (3, .inl (.int v3_31)), (2, .inl (.int v2_29)), (0, .inr (k, 34)), (1, .inl (.int a1))]) hC 4 (by decide) (fun v => rfl) dX6_served_32 (fun v4_33 => ?_)
    refine z_aload_n (pc := 34) hC 0 rfl 3 rfl dX6_served_34 ?_
    refine z_iload_n (pc := 35) hC 1 rfl 4 rfl dX6_served_35 ?_
    refine z_iload_n (pc := 36) hC 2 rfl 2 rfl dX6_served_36 ?_
    refine z_iload_n (pc := 37) hC 3 rfl 1 rfl dX6_served_37 ?_
    refine z_iload (pc := 38) hC 4 0 rfl dX6_served_38 ?_
    refine z_piV (pc := 40) (st := []) hC y_X6_placeBy q1733 [.inl (.int a1), .inl (.int v2_29), .inl (.int v3_31), .inl (.int v4_33)] rfl (hk 34 rfl) rfl rfl (c_X6_placeBy hC.2.2.2.2.2.2.1 hk) rfl ⟨rfl, rfl, (Nat.le_of_ble_eq_true rfl), (Nat.le_of_ble_eq_true rfl)⟩ (Nat.le_of_ble_eq_true rfl) dX6_served_40 (fun r34 => ?_)
    refine z_istore (pc := 43) (ls1 := fun v => [(5, .inl (.int v)), (4, .inl (.int v4_33)), (3, .inl (.int v3_31)), (2, .inl (.int v2_29)), (0, .inr (k, 34)), (1, .inl (.int a1))]) hC 5 (by decide) (fun v => rfl) dX6_served_43 (fun v5_35 => ?_)
    refine z_aload_n (pc := 45) hC 0 rfl 4 rfl dX6_served_45 ?_
    refine z_iload_n (pc := 46) hC 1 rfl 5 rfl dX6_served_46 ?_
    refine z_iload (pc := 47) hC 5 0 rfl dX6_served_47 ?_
    refine z_iload (pc := 49) hC 4 1 rfl dX6_served_49 ?_
    refine z_piV (pc := 51) (st := []) hC y_X6_has q1705 [.inl (.int a1), .inl (.int v5_35), .inl (.int v4_33)] rfl (hk 34 rfl) rfl rfl (c_X6_has hC.2.2.2.2.2.2.1 hk) rfl ⟨rfl, rfl, (Nat.le_of_ble_eq_true rfl), (Nat.le_of_ble_eq_true rfl)⟩ (Nat.le_of_ble_eq_true rfl) dX6_served_51 (fun r36 => ?_)
    refine z_if_ne (pc := 54) hC 95 rfl dX6_served_54 ?_ ?_
    · refine z_aload_n (pc := 95) hC 0 rfl 4 rfl dX6_served_95 ?_
      refine z_iload_n (pc := 96) hC 2 rfl 3 rfl dX6_served_96 ?_
      refine z_iload_n (pc := 97) hC 3 rfl 2 rfl dX6_served_97 ?_
      refine z_piV (pc := 98) (st := []) hC y_X6_cover q1512 [.inl (.int v2_29), .inl (.int v3_31)] rfl (hk 34 rfl) rfl rfl (c_X6_cover hC.2.2.2.2.2.2.1 hk) rfl ⟨rfl, rfl, (Nat.le_of_ble_eq_true rfl), (Nat.le_of_ble_eq_true rfl)⟩ (Nat.le_of_ble_eq_true rfl) dX6_served_98 (fun r37 => ?_)
      refine z_istore (pc := 101) (ls1 := fun v => [(6, .inl (.int v)), (5, .inl (.int v5_35)), (4, .inl (.int v4_33)), (3, .inl (.int v3_31)), (2, .inl (.int v2_29)), (0, .inr (k, 34)), (1, .inl (.int a1))]) hC 6 (by decide) (fun v => rfl) dX6_served_101 (fun v6_38 => ?_)
      refine z_aload_n (pc := 103) hC 0 rfl 5 rfl dX6_served_103 ?_
      refine z_aload_n (pc := 104) hC 0 rfl 5 rfl dX6_served_104 ?_
      refine z_iload_n (pc := 105) hC 1 rfl 6 rfl dX6_served_105 ?_
      refine z_iload (pc := 106) hC 5 1 rfl dX6_served_106 ?_
      refine z_piV (pc := 108) (st := [.inr (k, 34)]) hC y_X6_cover q1512 [.inl (.int a1), .inl (.int v5_35)] rfl (hk 34 rfl) rfl rfl (c_X6_cover hC.2.2.2.2.2.2.1 hk) rfl ⟨rfl, rfl, (Nat.le_of_ble_eq_true rfl), (Nat.le_of_ble_eq_true rfl)⟩ (Nat.le_of_ble_eq_true rfl) dX6_served_108 (fun r39 => ?_)
      refine z_piV (pc := 111) (st := []) hC y_X6_isBusy q1528 [.inl (.int r39)] rfl (hk 34 rfl) rfl rfl (c_X6_isBusy hC.2.2.2.2.2.2.1 hk) rfl ⟨rfl, rfl, (Nat.le_of_ble_eq_true rfl), (Nat.le_of_ble_eq_true rfl)⟩ (Nat.le_of_ble_eq_true rfl) dX6_served_111 (fun r40 => ?_)
      refine z_if_ne (pc := 114) hC 131 rfl dX6_served_114 ?_ ?_
      · refine z_bipush (pc := 131) hC (-3 : Int32) rfl dX6_served_131 ?_
        exact z_iret (pc := 133) hC rfl dX6_served_133
      · refine z_iload (pc := 117) hC 6 0 rfl dX6_served_117 ?_
        refine z_if_lt (pc := 119) hC 134 rfl dX6_served_119 ?_ ?_
        · exact z_sub [5, 6, 4, 3, 2, 1, 0] rfl (r_Mo_served_134 hC hk a1 v2_29 v3_31 v4_33 v5_35 v6_38 d)
        · refine z_aload_n (pc := 122) hC 0 rfl 5 rfl dX6_served_122 ?_
          refine z_iload (pc := 123) hC 6 0 rfl dX6_served_123 ?_
          refine z_piV (pc := 125) (st := []) hC y_X6_isBusyBelow q1564 [.inl (.int v6_38)] rfl (hk 34 rfl) rfl rfl (c_X6_isBusyBelow hC.2.2.2.2.2.2.1 hk) rfl ⟨rfl, rfl, (Nat.le_of_ble_eq_true rfl), (Nat.le_of_ble_eq_true rfl)⟩ (Nat.le_of_ble_eq_true rfl) dX6_served_125 (fun r41 => ?_)
          refine z_if_eq (pc := 128) hC 134 rfl dX6_served_128 ?_ ?_
          · exact z_sub [5, 6, 4, 3, 2, 1, 0] rfl (r_Mo_served_134 hC hk a1 v2_29 v3_31 v4_33 v5_35 v6_38 d)
          · refine z_bipush (pc := 131) hC (-3 : Int32) rfl dX6_served_131 ?_
            exact z_iret (pc := 133) hC rfl dX6_served_133
    · refine z_aload_n (pc := 57) hC 0 rfl 4 rfl dX6_served_57 ?_
      refine z_iload_n (pc := 58) hC 1 rfl 5 rfl dX6_served_58 ?_
      refine z_piV (pc := 59) (st := []) hC y_X6_isWaiting q1697 [.inl (.int a1)] rfl (hk 34 rfl) rfl rfl (c_X6_isWaiting hC.2.2.2.2.2.2.1 hk) rfl ⟨rfl, rfl, (Nat.le_of_ble_eq_true rfl), (Nat.le_of_ble_eq_true rfl)⟩ (Nat.le_of_ble_eq_true rfl) dX6_served_59 (fun r42 => ?_)
      refine z_if_eq (pc := 62) hC 68 rfl dX6_served_62 ?_ ?_
      · refine z_aload_n (pc := 68) hC 0 rfl 4 rfl dX6_served_68 ?_
        refine z_getc (pc := 69) hC (hk 34 rfl) f_34_16 q1286 dX6_served_69 ?_
        refine z_iload_n (pc := 72) hC 1 rfl 5 rfl dX6_served_72 ?_
        refine zs_iald (pc := 73) hC (hk 38 rfl) rfl dX6_served_73 ?_
        refine z_if_ge (pc := 74) hC 83 rfl dX6_served_74 ?_ ?_
        · refine z_aload_n (pc := 83) hC 0 rfl 4 rfl dX6_served_83 ?_
          refine z_iload_n (pc := 84) hC 1 rfl 5 rfl dX6_served_84 ?_
          refine z_iload (pc := 85) hC 5 0 rfl dX6_served_85 ?_
          refine z_iload (pc := 87) hC 4 1 rfl dX6_served_87 ?_
          refine z_cvV (pc := 89) (st := []) hC y_X6_waitsFor q1717 [.inl (.int a1), .inl (.int v5_35), .inl (.int v4_33)] rfl (hk 34 rfl) rfl rfl (c_X6_waitsFor hC.2.2.2.2.2.2.1 hk) rfl ⟨rfl, rfl, (Nat.le_of_ble_eq_true rfl), (Nat.le_of_ble_eq_true rfl)⟩ (Nat.le_of_ble_eq_true rfl) dX6_served_89 (fun r43 d44 => ?_)
          refine z_bipush (pc := 92) hC (-6 : Int32) rfl dX6_served_92 ?_
          exact z_iret (pc := 94) hC rfl dX6_served_94
        · refine z_aload_n (pc := 77) hC 0 rfl 4 rfl dX6_served_77 ?_
          refine z_iload_n (pc := 78) hC 2 rfl 3 rfl dX6_served_78 ?_
          refine z_ciV (pc := 79) (st := []) hC y_X6_refuses q1741 [.inl (.int v2_29)] rfl (hk 34 rfl) rfl rfl (c_X6_refuses hC.2.2.2.2.2.2.1 hk) rfl ⟨rfl, rfl, (Nat.le_of_ble_eq_true rfl), (Nat.le_of_ble_eq_true rfl)⟩ (Nat.le_of_ble_eq_true rfl) dX6_served_79 (fun r45 d46 => ?_)
          exact z_iret (pc := 82) hC rfl dX6_served_82
      · refine z_bipush (pc := 65) hC (-4 : Int32) rfl dX6_served_65 ?_
        exact z_iret (pc := 67) hC rfl dX6_served_67
  · refine z_bipush (pc := 10) hC (-2 : Int32) rfl dX6_served_10 ?_
    exact z_iret (pc := 12) hC rfl dX6_served_12
theorem c_X6_served {G : Geo} {M : Mem} {k : Nat} (hG : GOk G) (hk : LMo G k) {d : Sl} {a1 : Int32} (l : Launch) (r : Int32) (d1 : Sl) (h : Mo_served d a1 = some (r, d1)) : Mt l yX6_served cX6_served 8 (some .int) rm_X6_served G [.inr (k, 34), .inl (.int a1)] ((setS M k) d) (avI r) ((setS M k) d1) :=
  mt_of (mem := (setS M k)) (po := poM avI (setS M k)) (x0 := d) (t := (r, d1)) rfl hG [.inr (k, 34), .inl (.int a1)] (Nat.le_of_ble_eq_true rfl) rfl (fun C hC => r_Mo_served hC hk d a1) h
-- FrameHeirsModel.serve(I)I
abbrev rm_X6_serve : Room := { frames := 7, cells := 0, slots := 0, locals := 178 }
theorem dX6_serve_0 : decode cX6_serve 0 = .ok (.aload_n 0, 1) := by decide +kernel
theorem dX6_serve_1 : decode cX6_serve 1 = .ok (.iconst 0, 1) := by decide +kernel
theorem dX6_serve_2 : decode cX6_serve 2 = .ok (.putfield 61, 3) := by decide +kernel
theorem dX6_serve_5 : decode cX6_serve 5 = .ok (.aload_n 0, 1) := by decide +kernel
theorem dX6_serve_6 : decode cX6_serve 6 = .ok (.iload_n 1, 1) := by decide +kernel
theorem dX6_serve_7 : decode cX6_serve 7 = .ok (.invokevirtual 264, 3) := by decide +kernel
theorem dX6_serve_10 : decode cX6_serve 10 = .ok (.ifCond .ne 5, 3) := by decide +kernel
theorem dX6_serve_13 : decode cX6_serve 13 = .ok (.iconst (-1), 1) := by decide +kernel
theorem dX6_serve_14 : decode cX6_serve 14 = .ok (.ireturn, 1) := by decide +kernel
theorem dX6_serve_15 : decode cX6_serve 15 = .ok (.aload_n 0, 1) := by decide +kernel
theorem dX6_serve_16 : decode cX6_serve 16 = .ok (.invokevirtual 289, 3) := by decide +kernel
theorem dX6_serve_19 : decode cX6_serve 19 = .ok (.aload_n 0, 1) := by decide +kernel
theorem dX6_serve_20 : decode cX6_serve 20 = .ok (.iload_n 1, 1) := by decide +kernel
theorem dX6_serve_21 : decode cX6_serve 21 = .ok (.invokevirtual 411, 3) := by decide +kernel
theorem dX6_serve_24 : decode cX6_serve 24 = .ok (.ireturn, 1) := by decide +kernel
def Mo_serve (d : Sl) (a1 : Int32) : Option (Int32 × Sl) :=
  bnd (wr d 34 2 (0 : Int32)) fun d1 =>
  bp (Mo_isSpace d1 a1) fun r2 =>
  if r2 = 0 then
    (some ((-1 : Int32), d1))
  else
    (bd (Mo_canUndo d1) fun r3 d4 =>
    bd (Mo_served d4 a1) fun r5 d6 =>
    some (r5, d6))
theorem y_X6_serve : YV yX6_serve cX6_serve 2 (some .int) 1 := ⟨q1722, q1723, q1724, q149, by decide +kernel, by decide +kernel, by decide +kernel, by decide +kernel⟩
theorem r_Mo_serve {C : Cxt} {G : Geo} {M : Mem} {k : Nat} (hC : Cx C cX6_serve 2 "FrameHeirsModel" (some .int) rm_X6_serve G) (hk : LMo G k) (d : Sl) (a1 : Int32) : Rz C 2 G (setS M k) (poM avI (setS M k)) 0 [(0, .inr (k, 34)), (1, .inl (.int a1))] [] d (Mo_serve d a1) := by
  unfold Mo_serve
  refine z_aload_n (pc := 0) hC 0 rfl 0 rfl dX6_serve_0 ?_
  refine z_iconst (pc := 1) hC (0 : Int32) rfl dX6_serve_1 ?_
  refine zs_puti (pc := 2) hC (hk 34 rfl) f_34_2 q1272 dX6_serve_2 (fun d1 => ?_)
  refine z_aload_n (pc := 5) hC 0 rfl 0 rfl dX6_serve_5 ?_
  refine z_iload_n (pc := 6) hC 1 rfl 1 rfl dX6_serve_6 ?_
  refine z_piV (pc := 7) (st := []) hC y_X6_isSpace q1484 [.inl (.int a1)] rfl (hk 34 rfl) rfl rfl (c_X6_isSpace hC.2.2.2.2.2.2.1 hk) rfl ⟨rfl, rfl, (Nat.le_of_ble_eq_true rfl), (Nat.le_of_ble_eq_true rfl)⟩ (Nat.le_of_ble_eq_true rfl) dX6_serve_7 (fun r2 => ?_)
  refine z_if_ne (pc := 10) hC 15 rfl dX6_serve_10 ?_ ?_
  · refine z_aload_n (pc := 15) hC 0 rfl 0 rfl dX6_serve_15 ?_
    refine z_cvV (pc := 16) (st := []) hC y_X6_canUndo q1500 [] rfl (hk 34 rfl) rfl rfl (c_X6_canUndo hC.2.2.2.2.2.2.1 hk) rfl ⟨rfl, rfl, (Nat.le_of_ble_eq_true rfl), (Nat.le_of_ble_eq_true rfl)⟩ (Nat.le_of_ble_eq_true rfl) dX6_serve_16 (fun r3 d4 => ?_)
    refine z_aload_n (pc := 19) hC 0 rfl 0 rfl dX6_serve_19 ?_
    refine z_iload_n (pc := 20) hC 1 rfl 1 rfl dX6_serve_20 ?_
    refine z_ciV (pc := 21) (st := []) hC y_X6_served q1725 [.inl (.int a1)] rfl (hk 34 rfl) rfl rfl (c_X6_served hC.2.2.2.2.2.2.1 hk) rfl ⟨rfl, rfl, (Nat.le_of_ble_eq_true rfl), (Nat.le_of_ble_eq_true rfl)⟩ (Nat.le_of_ble_eq_true rfl) dX6_serve_21 (fun r5 d6 => ?_)
    exact z_iret (pc := 24) hC rfl dX6_serve_24
  · refine z_iconst (pc := 13) hC (-1 : Int32) rfl dX6_serve_13 ?_
    exact z_iret (pc := 14) hC rfl dX6_serve_14
theorem c_X6_serve {G : Geo} {M : Mem} {k : Nat} (hG : GOk G) (hk : LMo G k) {d : Sl} {a1 : Int32} (l : Launch) (r : Int32) (d1 : Sl) (h : Mo_serve d a1 = some (r, d1)) : Mt l yX6_serve cX6_serve 2 (some .int) rm_X6_serve G [.inr (k, 34), .inl (.int a1)] ((setS M k) d) (avI r) ((setS M k) d1) :=
  mt_of (mem := (setS M k)) (po := poM avI (setS M k)) (x0 := d) (t := (r, d1)) rfl hG [.inr (k, 34), .inl (.int a1)] (Nat.le_of_ble_eq_true rfl) rfl (fun C hC => r_Mo_serve hC hk d a1) h
-- FrameHeirsModel.settles()I
abbrev rm_X6_settles : Room := { frames := 7, cells := 0, slots := 0, locals := 178 }
theorem dX6_settles_0 : decode cX6_settles 0 = .ok (.iconst 0, 1) := by decide +kernel
theorem dX6_settles_1 : decode cX6_settles 1 = .ok (.istore_n 1, 1) := by decide +kernel
theorem dX6_settles_2 : decode cX6_settles 2 = .ok (.iconst 0, 1) := by decide +kernel
theorem dX6_settles_3 : decode cX6_settles 3 = .ok (.istore_n 2, 1) := by decide +kernel
theorem dX6_settles_4 : decode cX6_settles 4 = .ok (.iload_n 2, 1) := by decide +kernel
theorem dX6_settles_5 : decode cX6_settles 5 = .ok (.bipush 12, 2) := by decide +kernel
theorem dX6_settles_7 : decode cX6_settles 7 = .ok (.if_icmp .ge 49, 3) := by decide +kernel
theorem dX6_settles_10 : decode cX6_settles 10 = .ok (.iconst 0, 1) := by decide +kernel
theorem dX6_settles_11 : decode cX6_settles 11 = .ok (.istore_n 3, 1) := by decide +kernel
theorem dX6_settles_12 : decode cX6_settles 12 = .ok (.iload_n 3, 1) := by decide +kernel
theorem dX6_settles_13 : decode cX6_settles 13 = .ok (.aload_n 0, 1) := by decide +kernel
theorem dX6_settles_14 : decode cX6_settles 14 = .ok (.getfield 106, 3) := by decide +kernel
theorem dX6_settles_17 : decode cX6_settles 17 = .ok (.if_icmp .ge 33, 3) := by decide +kernel
theorem dX6_settles_20 : decode cX6_settles 20 = .ok (.iload_n 1, 1) := by decide +kernel
theorem dX6_settles_21 : decode cX6_settles 21 = .ok (.aload_n 0, 1) := by decide +kernel
theorem dX6_settles_22 : decode cX6_settles 22 = .ok (.iload_n 3, 1) := by decide +kernel
theorem dX6_settles_23 : decode cX6_settles 23 = .ok (.invokevirtual 398, 3) := by decide +kernel
theorem dX6_settles_26 : decode cX6_settles 26 = .ok (.ifCond .lt 15, 3) := by decide +kernel
theorem dX6_settles_29 : decode cX6_settles 29 = .ok (.aload_n 0, 1) := by decide +kernel
theorem dX6_settles_30 : decode cX6_settles 30 = .ok (.iload_n 3, 1) := by decide +kernel
theorem dX6_settles_31 : decode cX6_settles 31 = .ok (.invokevirtual 411, 3) := by decide +kernel
theorem dX6_settles_34 : decode cX6_settles 34 = .ok (.ifCond .lt 7, 3) := by decide +kernel
theorem dX6_settles_37 : decode cX6_settles 37 = .ok (.iconst 1, 1) := by decide +kernel
theorem dX6_settles_38 : decode cX6_settles 38 = .ok (.goto 4, 3) := by decide +kernel
theorem dX6_settles_41 : decode cX6_settles 41 = .ok (.iconst 0, 1) := by decide +kernel
theorem dX6_settles_42 : decode cX6_settles 42 = .ok (.iadd, 1) := by decide +kernel
theorem dX6_settles_43 : decode cX6_settles 43 = .ok (.istore_n 1, 1) := by decide +kernel
theorem dX6_settles_44 : decode cX6_settles 44 = .ok (.iinc 3 1, 3) := by decide +kernel
theorem dX6_settles_47 : decode cX6_settles 47 = .ok (.goto (-35), 3) := by decide +kernel
theorem dX6_settles_50 : decode cX6_settles 50 = .ok (.iinc 2 1, 3) := by decide +kernel
theorem dX6_settles_53 : decode cX6_settles 53 = .ok (.goto (-49), 3) := by decide +kernel
theorem dX6_settles_56 : decode cX6_settles 56 = .ok (.iload_n 1, 1) := by decide +kernel
theorem dX6_settles_57 : decode cX6_settles 57 = .ok (.ireturn, 1) := by decide +kernel
def Mo_settles_42 (k4 : Int32 → Int32 → Sl → Option (Int32 × Sl)) (k12 : Int32 → Int32 → Int32 → Sl → Option (Int32 × Sl)) (v2 : Int32) (v3 : Int32) (s0 : Int32) (s1 : Int32) (d : Sl) : Option (Int32 × Sl) :=
  bnd (s1 + s0) fun v1_1 =>
  bnd (v3 + (1 : Int32)) fun v3_2 =>
  k12 v1_1 v2 v3_2 d
def Mo_settles_41 (k4 : Int32 → Int32 → Sl → Option (Int32 × Sl)) (k12 : Int32 → Int32 → Int32 → Sl → Option (Int32 × Sl)) (v2 : Int32) (v3 : Int32) (s0 : Int32) (d : Sl) : Option (Int32 × Sl) :=
  Mo_settles_42 k4 k12 v2 v3 (0 : Int32) s0 d
def Mo_settles_12 (k4 : Int32 → Int32 → Sl → Option (Int32 × Sl)) : Nat → Int32 → Int32 → Int32 → Sl → Option (Int32 × Sl)
  | 0, _, _, _, _ => none
  | n + 1, v1, v2, v3, d =>
    if (d 34 11) ≤ v3 then
      (bnd (v2 + (1 : Int32)) fun v2_3 =>
      k4 v1 v2_3 d)
    else
      (bp (Mo_firstFor d v3) fun r4 =>
      if r4 < 0 then
        (Mo_settles_41 k4 (Mo_settles_12 k4 n) v2 v3 v1 d)
      else
        (bd (Mo_served d v3) fun r5 d6 =>
        if r5 < 0 then
          (Mo_settles_41 k4 (Mo_settles_12 k4 n) v2 v3 v1 d6)
        else
          (Mo_settles_42 k4 (Mo_settles_12 k4 n) v2 v3 (1 : Int32) v1 d6)))
def Mo_settles_4 : Nat → Int32 → Int32 → Sl → Option (Int32 × Sl)
  | 0, _, _, _ => none
  | n + 1, v1, v2, d =>
    if (12 : Int32) ≤ v2 then
      (some (v1, d))
    else
      (bnd (0 : Int32) fun v3_7 =>
      Mo_settles_12 (Mo_settles_4 n) FU v1 v2 v3_7 d)
def Mo_settles (d : Sl) : Option (Int32 × Sl) :=
  bnd (0 : Int32) fun v1_8 =>
  bnd (0 : Int32) fun v2_9 =>
  Mo_settles_4 FU v1_8 v2_9 d
theorem y_X6_settles : YV yX6_settles cX6_settles 4 (some .int) 0 := ⟨q1755, q123, q1756, q149, by decide +kernel, by decide +kernel, by decide +kernel, by decide +kernel⟩
theorem r_Mo_settles_42 {C : Cxt} {G : Geo} {M : Mem} {k : Nat} (hC : Cx C cX6_settles 4 "FrameHeirsModel" (some .int) rm_X6_settles G) (hk : LMo G k) (k4 : Int32 → Int32 → Sl → Option (Int32 × Sl)) (h4 : ∀ (v1 : Int32) (v2 : Int32) (d : Sl), Rz C 4 G (setS M k) (poM avI (setS M k)) 4 [(0, .inr (k, 34)), (1, .inl (.int v1)), (2, .inl (.int v2))] [] d (k4 v1 v2 d)) (k12 : Int32 → Int32 → Int32 → Sl → Option (Int32 × Sl)) (h12 : ∀ (v1 : Int32) (v2 : Int32) (v3 : Int32) (d : Sl), Rz C 4 G (setS M k) (poM avI (setS M k)) 12 [(0, .inr (k, 34)), (1, .inl (.int v1)), (2, .inl (.int v2)), (3, .inl (.int v3))] [] d (k12 v1 v2 v3 d)) (v2 : Int32) (v3 : Int32) (s0 : Int32) (s1 : Int32) (d : Sl) : Rz C 4 G (setS M k) (poM avI (setS M k)) 42 [(0, .inr (k, 34)), (2, .inl (.int v2)), (3, .inl (.int v3))] [.inl (.int s0), .inl (.int s1)] d (Mo_settles_42 k4 k12 v2 v3 s0 s1 d) := by
  unfold Mo_settles_42
  refine z_iadd (pc := 42) hC dX6_settles_42 ?_
  refine z_istore_n (pc := 43) (ls1 := fun v => [(1, .inl (.int v)), (0, .inr (k, 34)), (2, .inl (.int v2)), (3, .inl (.int v3))]) hC 1 rfl (by decide) (fun v => rfl) dX6_settles_43 (fun v1_1 => ?_)
  refine z_iinc (pc := 44) (ls1 := fun v => [(3, .inl (.int v)), (1, .inl (.int v1_1)), (0, .inr (k, 34)), (2, .inl (.int v2))]) hC 3 3 (by decide) (1 : Int32) rfl rfl (fun v => rfl) dX6_settles_44 (fun v3_2 => ?_)
  refine z_goto (pc := 47) hC 12 rfl dX6_settles_47 ?_
  exact z_sub [2, 1, 3, 0] rfl (h12 v1_1 v2 v3_2 d)
theorem r_Mo_settles_41 {C : Cxt} {G : Geo} {M : Mem} {k : Nat} (hC : Cx C cX6_settles 4 "FrameHeirsModel" (some .int) rm_X6_settles G) (hk : LMo G k) (k4 : Int32 → Int32 → Sl → Option (Int32 × Sl)) (h4 : ∀ (v1 : Int32) (v2 : Int32) (d : Sl), Rz C 4 G (setS M k) (poM avI (setS M k)) 4 [(0, .inr (k, 34)), (1, .inl (.int v1)), (2, .inl (.int v2))] [] d (k4 v1 v2 d)) (k12 : Int32 → Int32 → Int32 → Sl → Option (Int32 × Sl)) (h12 : ∀ (v1 : Int32) (v2 : Int32) (v3 : Int32) (d : Sl), Rz C 4 G (setS M k) (poM avI (setS M k)) 12 [(0, .inr (k, 34)), (1, .inl (.int v1)), (2, .inl (.int v2)), (3, .inl (.int v3))] [] d (k12 v1 v2 v3 d)) (v2 : Int32) (v3 : Int32) (s0 : Int32) (d : Sl) : Rz C 4 G (setS M k) (poM avI (setS M k)) 41 [(0, .inr (k, 34)), (2, .inl (.int v2)), (3, .inl (.int v3))] [.inl (.int s0)] d (Mo_settles_41 k4 k12 v2 v3 s0 d) := by
  unfold Mo_settles_41
  refine z_iconst (pc := 41) hC (0 : Int32) rfl dX6_settles_41 ?_
  exact z_sub [0, 1, 2] rfl (r_Mo_settles_42 hC hk k4 h4 k12 h12 v2 v3 (0 : Int32) s0 d)
theorem r_Mo_settles_12 {C : Cxt} {G : Geo} {M : Mem} {k : Nat} (hC : Cx C cX6_settles 4 "FrameHeirsModel" (some .int) rm_X6_settles G) (hk : LMo G k) (k4 : Int32 → Int32 → Sl → Option (Int32 × Sl)) (h4 : ∀ (v1 : Int32) (v2 : Int32) (d : Sl), Rz C 4 G (setS M k) (poM avI (setS M k)) 4 [(0, .inr (k, 34)), (1, .inl (.int v1)), (2, .inl (.int v2))] [] d (k4 v1 v2 d)) : ∀ (n : Nat) (v1 : Int32) (v2 : Int32) (v3 : Int32) (d : Sl), Rz C 4 G (setS M k) (poM avI (setS M k)) 12 [(0, .inr (k, 34)), (1, .inl (.int v1)), (2, .inl (.int v2)), (3, .inl (.int v3))] [] d (Mo_settles_12 k4 n v1 v2 v3 d) := by
  intro n
  induction n with
  | zero => intros; exact z_none
  | succ n ih =>
    intro v1 v2 v3 d
    rw [Mo_settles_12]
    refine z_iload_n (pc := 12) hC 3 rfl 3 rfl dX6_settles_12 ?_
    refine z_aload_n (pc := 13) hC 0 rfl 0 rfl dX6_settles_13 ?_
    refine zs_geti (pc := 14) hC (hk 34 rfl) f_34_11 q1281 dX6_settles_14 ?_
    refine z_icmp_ge (pc := 17) hC 50 rfl dX6_settles_17 ?_ ?_
    · refine z_iinc (pc := 50) (ls1 := fun v => [(2, .inl (.int v)), (0, .inr (k, 34)), (1, .inl (.int v1)), (3, .inl (.int v3))]) hC 2 2 (by decide) (1 : Int32) rfl rfl (fun v => rfl) dX6_settles_50 (fun v2_3 => ?_)
      refine z_goto (pc := 53) hC 4 rfl dX6_settles_53 ?_
      exact z_sub [1, 2, 0] rfl (h4 v1 v2_3 d)
    · refine z_iload_n (pc := 20) hC 1 rfl 1 rfl dX6_settles_20 ?_
      refine z_aload_n (pc := 21) hC 0 rfl 0 rfl dX6_settles_21 ?_
      refine z_iload_n (pc := 22) hC 3 rfl 3 rfl dX6_settles_22 ?_
      refine z_piV (pc := 23) (st := [.inl (.int v1)]) hC y_X6_firstFor q1729 [.inl (.int v3)] rfl (hk 34 rfl) rfl rfl (c_X6_firstFor hC.2.2.2.2.2.2.1 hk) rfl ⟨rfl, rfl, (Nat.le_of_ble_eq_true rfl), (Nat.le_of_ble_eq_true rfl)⟩ (Nat.le_of_ble_eq_true rfl) dX6_settles_23 (fun r4 => ?_)
      refine z_if_lt (pc := 26) hC 41 rfl dX6_settles_26 ?_ ?_
      · exact z_sub [0, 2, 3] rfl (r_Mo_settles_41 hC hk k4 h4 _ ih v2 v3 v1 d)
      · refine z_aload_n (pc := 29) hC 0 rfl 0 rfl dX6_settles_29 ?_
        refine z_iload_n (pc := 30) hC 3 rfl 3 rfl dX6_settles_30 ?_
        refine z_ciV (pc := 31) (st := [.inl (.int v1)]) hC y_X6_served q1725 [.inl (.int v3)] rfl (hk 34 rfl) rfl rfl (c_X6_served hC.2.2.2.2.2.2.1 hk) rfl ⟨rfl, rfl, (Nat.le_of_ble_eq_true rfl), (Nat.le_of_ble_eq_true rfl)⟩ (Nat.le_of_ble_eq_true rfl) dX6_settles_31 (fun r5 d6 => ?_)
        refine z_if_lt (pc := 34) hC 41 rfl dX6_settles_34 ?_ ?_
        · exact z_sub [0, 2, 3] rfl (r_Mo_settles_41 hC hk k4 h4 _ ih v2 v3 v1 d6)
        · refine z_iconst (pc := 37) hC (1 : Int32) rfl dX6_settles_37 ?_
          refine z_goto (pc := 38) hC 42 rfl dX6_settles_38 ?_
          exact z_sub [0, 2, 3] rfl (r_Mo_settles_42 hC hk k4 h4 _ ih v2 v3 (1 : Int32) v1 d6)
theorem r_Mo_settles_4 {C : Cxt} {G : Geo} {M : Mem} {k : Nat} (hC : Cx C cX6_settles 4 "FrameHeirsModel" (some .int) rm_X6_settles G) (hk : LMo G k) : ∀ (n : Nat) (v1 : Int32) (v2 : Int32) (d : Sl), Rz C 4 G (setS M k) (poM avI (setS M k)) 4 [(0, .inr (k, 34)), (1, .inl (.int v1)), (2, .inl (.int v2))] [] d (Mo_settles_4 n v1 v2 d) := by
  intro n
  induction n with
  | zero => intros; exact z_none
  | succ n ih =>
    intro v1 v2 d
    rw [Mo_settles_4]
    refine z_iload_n (pc := 4) hC 2 rfl 2 rfl dX6_settles_4 ?_
    refine z_bipush (pc := 5) hC (12 : Int32) rfl dX6_settles_5 ?_
    refine z_icmp_ge (pc := 7) hC 56 rfl dX6_settles_7 ?_ ?_
    · refine z_iload_n (pc := 56) hC 1 rfl 1 rfl dX6_settles_56 ?_
      exact z_iret (pc := 57) hC rfl dX6_settles_57
    · refine z_iconst (pc := 10) hC (0 : Int32) rfl dX6_settles_10 ?_
      refine z_istore_n (pc := 11) (ls1 := fun v => [(3, .inl (.int v)), (0, .inr (k, 34)), (1, .inl (.int v1)), (2, .inl (.int v2))]) hC 3 rfl (by decide) (fun v => rfl) dX6_settles_11 (fun v3_7 => ?_)
      exact z_sub [1, 2, 3, 0] rfl (r_Mo_settles_12 hC hk _ ih FU v1 v2 v3_7 d)
theorem r_Mo_settles {C : Cxt} {G : Geo} {M : Mem} {k : Nat} (hC : Cx C cX6_settles 4 "FrameHeirsModel" (some .int) rm_X6_settles G) (hk : LMo G k) (d : Sl) : Rz C 4 G (setS M k) (poM avI (setS M k)) 0 [(0, .inr (k, 34))] [] d (Mo_settles d) := by
  unfold Mo_settles
  refine z_iconst (pc := 0) hC (0 : Int32) rfl dX6_settles_0 ?_
  refine z_istore_n (pc := 1) (ls1 := fun v => [(1, .inl (.int v)), (0, .inr (k, 34))]) hC 1 rfl (by decide) (fun v => rfl) dX6_settles_1 (fun v1_8 => ?_)
  refine z_iconst (pc := 2) hC (0 : Int32) rfl dX6_settles_2 ?_
  refine z_istore_n (pc := 3) (ls1 := fun v => [(2, .inl (.int v)), (1, .inl (.int v1_8)), (0, .inr (k, 34))]) hC 2 rfl (by decide) (fun v => rfl) dX6_settles_3 (fun v2_9 => ?_)
  exact z_sub [2, 1, 0] rfl (r_Mo_settles_4 hC hk FU v1_8 v2_9 d)
theorem c_X6_settles {G : Geo} {M : Mem} {k : Nat} (hG : GOk G) (hk : LMo G k) {d : Sl} (l : Launch) (r : Int32) (d1 : Sl) (h : Mo_settles d = some (r, d1)) : Mt l yX6_settles cX6_settles 4 (some .int) rm_X6_settles G [.inr (k, 34)] ((setS M k) d) (avI r) ((setS M k) d1) :=
  mt_of (mem := (setS M k)) (po := poM avI (setS M k)) (x0 := d) (t := (r, d1)) rfl hG [.inr (k, 34)] (Nat.le_of_ble_eq_true rfl) rfl (fun C hC => r_Mo_settles hC hk d) h
-- FrameHeirsModel.settle()I
abbrev rm_X6_settle : Room := { frames := 8, cells := 0, slots := 0, locals := 201 }
theorem dX6_settle_0 : decode cX6_settle 0 = .ok (.aload_n 0, 1) := by decide +kernel
theorem dX6_settle_1 : decode cX6_settle 1 = .ok (.iconst 0, 1) := by decide +kernel
theorem dX6_settle_2 : decode cX6_settle 2 = .ok (.putfield 61, 3) := by decide +kernel
theorem dX6_settle_5 : decode cX6_settle 5 = .ok (.aload_n 0, 1) := by decide +kernel
theorem dX6_settle_6 : decode cX6_settle 6 = .ok (.invokevirtual 289, 3) := by decide +kernel
theorem dX6_settle_9 : decode cX6_settle 9 = .ok (.aload_n 0, 1) := by decide +kernel
theorem dX6_settle_10 : decode cX6_settle 10 = .ok (.invokevirtual 414, 3) := by decide +kernel
theorem dX6_settle_13 : decode cX6_settle 13 = .ok (.ireturn, 1) := by decide +kernel
def Mo_settle (d : Sl) : Option (Int32 × Sl) :=
  bnd (wr d 34 2 (0 : Int32)) fun d1 =>
  bd (Mo_canUndo d1) fun r2 d3 =>
  bd (Mo_settles d3) fun r4 d5 =>
  some (r4, d5)
theorem y_X6_settle : YV yX6_settle cX6_settle 1 (some .int) 0 := ⟨q1750, q1751, q1752, q149, by decide +kernel, by decide +kernel, by decide +kernel, by decide +kernel⟩
theorem r_Mo_settle {C : Cxt} {G : Geo} {M : Mem} {k : Nat} (hC : Cx C cX6_settle 1 "FrameHeirsModel" (some .int) rm_X6_settle G) (hk : LMo G k) (d : Sl) : Rz C 1 G (setS M k) (poM avI (setS M k)) 0 [(0, .inr (k, 34))] [] d (Mo_settle d) := by
  unfold Mo_settle
  refine z_aload_n (pc := 0) hC 0 rfl 0 rfl dX6_settle_0 ?_
  refine z_iconst (pc := 1) hC (0 : Int32) rfl dX6_settle_1 ?_
  refine zs_puti (pc := 2) hC (hk 34 rfl) f_34_2 q1272 dX6_settle_2 (fun d1 => ?_)
  refine z_aload_n (pc := 5) hC 0 rfl 0 rfl dX6_settle_5 ?_
  refine z_cvV (pc := 6) (st := []) hC y_X6_canUndo q1500 [] rfl (hk 34 rfl) rfl rfl (c_X6_canUndo hC.2.2.2.2.2.2.1 hk) rfl ⟨rfl, rfl, (Nat.le_of_ble_eq_true rfl), (Nat.le_of_ble_eq_true rfl)⟩ (Nat.le_of_ble_eq_true rfl) dX6_settle_6 (fun r2 d3 => ?_)
  refine z_aload_n (pc := 9) hC 0 rfl 0 rfl dX6_settle_9 ?_
  refine z_ciV (pc := 10) (st := []) hC y_X6_settles q1753 [] rfl (hk 34 rfl) rfl rfl (c_X6_settles hC.2.2.2.2.2.2.1 hk) rfl ⟨rfl, rfl, (Nat.le_of_ble_eq_true rfl), (Nat.le_of_ble_eq_true rfl)⟩ (Nat.le_of_ble_eq_true rfl) dX6_settle_10 (fun r4 d5 => ?_)
  exact z_iret (pc := 13) hC rfl dX6_settle_13
theorem c_X6_settle {G : Geo} {M : Mem} {k : Nat} (hG : GOk G) (hk : LMo G k) {d : Sl} (l : Launch) (r : Int32) (d1 : Sl) (h : Mo_settle d = some (r, d1)) : Mt l yX6_settle cX6_settle 1 (some .int) rm_X6_settle G [.inr (k, 34)] ((setS M k) d) (avI r) ((setS M k) d1) :=
  mt_of (mem := (setS M k)) (po := poM avI (setS M k)) (x0 := d) (t := (r, d1)) rfl hG [.inr (k, 34)] (Nat.le_of_ble_eq_true rfl) rfl (fun C hC => r_Mo_settle hC hk d) h
-- FrameHeirsModel.isPair(II)Z
abbrev rm_X6_isPair : Room := { frames := 3, cells := 0, slots := 0, locals := 64 }
theorem dX6_isPair_0 : decode cX6_isPair 0 = .ok (.aload_n 0, 1) := by decide +kernel
theorem dX6_isPair_1 : decode cX6_isPair 1 = .ok (.iload_n 1, 1) := by decide +kernel
theorem dX6_isPair_2 : decode cX6_isPair 2 = .ok (.invokevirtual 258, 3) := by decide +kernel
theorem dX6_isPair_5 : decode cX6_isPair 5 = .ok (.istore_n 3, 1) := by decide +kernel
theorem dX6_isPair_6 : decode cX6_isPair 6 = .ok (.iload_n 3, 1) := by decide +kernel
theorem dX6_isPair_7 : decode cX6_isPair 7 = .ok (.ifCond .le 113, 3) := by decide +kernel
theorem dX6_isPair_10 : decode cX6_isPair 10 = .ok (.aload_n 0, 1) := by decide +kernel
theorem dX6_isPair_11 : decode cX6_isPair 11 = .ok (.iconst 0, 1) := by decide +kernel
theorem dX6_isPair_12 : decode cX6_isPair 12 = .ok (.iload_n 2, 1) := by decide +kernel
theorem dX6_isPair_13 : decode cX6_isPair 13 = .ok (.iadd, 1) := by decide +kernel
theorem dX6_isPair_14 : decode cX6_isPair 14 = .ok (.invokevirtual 189, 3) := by decide +kernel
theorem dX6_isPair_17 : decode cX6_isPair 17 = .ok (.aload_n 0, 1) := by decide +kernel
theorem dX6_isPair_18 : decode cX6_isPair 18 = .ok (.iconst 0, 1) := by decide +kernel
theorem dX6_isPair_19 : decode cX6_isPair 19 = .ok (.iload_n 1, 1) := by decide +kernel
theorem dX6_isPair_20 : decode cX6_isPair 20 = .ok (.iadd, 1) := by decide +kernel
theorem dX6_isPair_21 : decode cX6_isPair 21 = .ok (.invokevirtual 189, 3) := by decide +kernel
theorem dX6_isPair_24 : decode cX6_isPair 24 = .ok (.if_icmp .ne 96, 3) := by decide +kernel
theorem dX6_isPair_27 : decode cX6_isPair 27 = .ok (.aload_n 0, 1) := by decide +kernel
theorem dX6_isPair_28 : decode cX6_isPair 28 = .ok (.sipush 192, 3) := by decide +kernel
theorem dX6_isPair_31 : decode cX6_isPair 31 = .ok (.iload_n 1, 1) := by decide +kernel
theorem dX6_isPair_32 : decode cX6_isPair 32 = .ok (.iadd, 1) := by decide +kernel
theorem dX6_isPair_33 : decode cX6_isPair 33 = .ok (.invokevirtual 189, 3) := by decide +kernel
theorem dX6_isPair_36 : decode cX6_isPair 36 = .ok (.iconst 2, 1) := by decide +kernel
theorem dX6_isPair_37 : decode cX6_isPair 37 = .ok (.iload_n 3, 1) := by decide +kernel
theorem dX6_isPair_38 : decode cX6_isPair 38 = .ok (.imul, 1) := by decide +kernel
theorem dX6_isPair_39 : decode cX6_isPair 39 = .ok (.irem, 1) := by decide +kernel
theorem dX6_isPair_40 : decode cX6_isPair 40 = .ok (.ifCond .ne 80, 3) := by decide +kernel
theorem dX6_isPair_43 : decode cX6_isPair 43 = .ok (.aload_n 0, 1) := by decide +kernel
theorem dX6_isPair_44 : decode cX6_isPair 44 = .ok (.sipush 192, 3) := by decide +kernel
theorem dX6_isPair_47 : decode cX6_isPair 47 = .ok (.iload_n 2, 1) := by decide +kernel
theorem dX6_isPair_48 : decode cX6_isPair 48 = .ok (.iadd, 1) := by decide +kernel
theorem dX6_isPair_49 : decode cX6_isPair 49 = .ok (.invokevirtual 189, 3) := by decide +kernel
theorem dX6_isPair_52 : decode cX6_isPair 52 = .ok (.aload_n 0, 1) := by decide +kernel
theorem dX6_isPair_53 : decode cX6_isPair 53 = .ok (.sipush 192, 3) := by decide +kernel
theorem dX6_isPair_56 : decode cX6_isPair 56 = .ok (.iload_n 1, 1) := by decide +kernel
theorem dX6_isPair_57 : decode cX6_isPair 57 = .ok (.iadd, 1) := by decide +kernel
theorem dX6_isPair_58 : decode cX6_isPair 58 = .ok (.invokevirtual 189, 3) := by decide +kernel
theorem dX6_isPair_61 : decode cX6_isPair 61 = .ok (.iload_n 3, 1) := by decide +kernel
theorem dX6_isPair_62 : decode cX6_isPair 62 = .ok (.iadd, 1) := by decide +kernel
theorem dX6_isPair_63 : decode cX6_isPair 63 = .ok (.if_icmp .ne 57, 3) := by decide +kernel
theorem dX6_isPair_66 : decode cX6_isPair 66 = .ok (.aload_n 0, 1) := by decide +kernel
theorem dX6_isPair_67 : decode cX6_isPair 67 = .ok (.sipush 384, 3) := by decide +kernel
theorem dX6_isPair_70 : decode cX6_isPair 70 = .ok (.iload_n 2, 1) := by decide +kernel
theorem dX6_isPair_71 : decode cX6_isPair 71 = .ok (.iadd, 1) := by decide +kernel
theorem dX6_isPair_72 : decode cX6_isPair 72 = .ok (.invokevirtual 189, 3) := by decide +kernel
theorem dX6_isPair_75 : decode cX6_isPair 75 = .ok (.aload_n 0, 1) := by decide +kernel
theorem dX6_isPair_76 : decode cX6_isPair 76 = .ok (.sipush 384, 3) := by decide +kernel
theorem dX6_isPair_79 : decode cX6_isPair 79 = .ok (.iload_n 1, 1) := by decide +kernel
theorem dX6_isPair_80 : decode cX6_isPair 80 = .ok (.iadd, 1) := by decide +kernel
theorem dX6_isPair_81 : decode cX6_isPair 81 = .ok (.invokevirtual 189, 3) := by decide +kernel
theorem dX6_isPair_84 : decode cX6_isPair 84 = .ok (.if_icmp .ne 36, 3) := by decide +kernel
theorem dX6_isPair_87 : decode cX6_isPair 87 = .ok (.aload_n 0, 1) := by decide +kernel
theorem dX6_isPair_88 : decode cX6_isPair 88 = .ok (.iload_n 2, 1) := by decide +kernel
theorem dX6_isPair_89 : decode cX6_isPair 89 = .ok (.invokevirtual 210, 3) := by decide +kernel
theorem dX6_isPair_92 : decode cX6_isPair 92 = .ok (.aload_n 0, 1) := by decide +kernel
theorem dX6_isPair_93 : decode cX6_isPair 93 = .ok (.iload_n 1, 1) := by decide +kernel
theorem dX6_isPair_94 : decode cX6_isPair 94 = .ok (.invokevirtual 210, 3) := by decide +kernel
theorem dX6_isPair_97 : decode cX6_isPair 97 = .ok (.if_icmp .ne 23, 3) := by decide +kernel
theorem dX6_isPair_100 : decode cX6_isPair 100 = .ok (.aload_n 0, 1) := by decide +kernel
theorem dX6_isPair_101 : decode cX6_isPair 101 = .ok (.iload_n 1, 1) := by decide +kernel
theorem dX6_isPair_102 : decode cX6_isPair 102 = .ok (.invokevirtual 213, 3) := by decide +kernel
theorem dX6_isPair_105 : decode cX6_isPair 105 = .ok (.ifCond .ne 15, 3) := by decide +kernel
theorem dX6_isPair_108 : decode cX6_isPair 108 = .ok (.aload_n 0, 1) := by decide +kernel
theorem dX6_isPair_109 : decode cX6_isPair 109 = .ok (.iload_n 2, 1) := by decide +kernel
theorem dX6_isPair_110 : decode cX6_isPair 110 = .ok (.invokevirtual 213, 3) := by decide +kernel
theorem dX6_isPair_113 : decode cX6_isPair 113 = .ok (.ifCond .ne 7, 3) := by decide +kernel
theorem dX6_isPair_116 : decode cX6_isPair 116 = .ok (.iconst 1, 1) := by decide +kernel
theorem dX6_isPair_117 : decode cX6_isPair 117 = .ok (.goto 4, 3) := by decide +kernel
theorem dX6_isPair_120 : decode cX6_isPair 120 = .ok (.iconst 0, 1) := by decide +kernel
theorem dX6_isPair_121 : decode cX6_isPair 121 = .ok (.ireturn, 1) := by decide +kernel
def Mo_isPair (d : Sl) (a1 : Int32) (a2 : Int32) : Option Int32 :=
  bp (Mo_pagesOf d a1) fun r1 =>
  bnd r1 fun v3_2 =>
  if v3_2 ≤ 0 then
    (some (0 : Int32))
  else
    (bp (Mo_of d ((0 : Int32) + a2)) fun r3 =>
    bp (Mo_of d ((0 : Int32) + a1)) fun r4 =>
    if r3 = r4 then
      (bp (Mo_of d ((192 : Int32) + a1)) fun r5 =>
      if ¬ ((2 : Int32) * v3_2) = 0 then
      if (r5 - r5 / ((2 : Int32) * v3_2) * ((2 : Int32) * v3_2)) = 0 then
        (bp (Mo_of d ((192 : Int32) + a2)) fun r6 =>
        bp (Mo_of d ((192 : Int32) + a1)) fun r7 =>
        if r6 = (r7 + v3_2) then
          (bp (Mo_of d ((384 : Int32) + a2)) fun r8 =>
          bp (Mo_of d ((384 : Int32) + a1)) fun r9 =>
          if r8 = r9 then
            (bp (Mo_giverOf d a2) fun r10 =>
            bp (Mo_giverOf d a1) fun r11 =>
            if r10 = r11 then
              (bp (Mo_isBusy d a1) fun r12 =>
              if r12 = 0 then
                (bp (Mo_isBusy d a2) fun r13 =>
                if r13 = 0 then
                  (some (1 : Int32))
                else
                  (some (0 : Int32)))
              else
                (some (0 : Int32)))
            else
              (some (0 : Int32)))
          else
            (some (0 : Int32)))
        else
          (some (0 : Int32)))
      else
        (some (0 : Int32))
      else none)
    else
      (some (0 : Int32)))
theorem y_X6_isPair : YV yX6_isPair cX6_isPair 4 (some .boolean) 2 := ⟨q1771, q126, q1772, q149, by decide +kernel, by decide +kernel, by decide +kernel, by decide +kernel⟩
theorem r_Mo_isPair {C : Cxt} {G : Geo} {M : Mem} {k : Nat} (hC : Cx C cX6_isPair 4 "FrameHeirsModel" (some .boolean) rm_X6_isPair G) (hk : LMo G k) (d : Sl) (a1 : Int32) (a2 : Int32) : Rz C 4 G (setS M k) (poP avI ((setS M k) d)) 0 [(0, .inr (k, 34)), (1, .inl (.int a1)), (2, .inl (.int a2))] [] d (Mo_isPair d a1 a2) := by
  unfold Mo_isPair
  refine z_aload_n (pc := 0) hC 0 rfl 0 rfl dX6_isPair_0 ?_
  refine z_iload_n (pc := 1) hC 1 rfl 1 rfl dX6_isPair_1 ?_
  refine z_piV (pc := 2) (st := []) hC y_X6_pagesOf q1540 [.inl (.int a1)] rfl (hk 34 rfl) rfl rfl (c_X6_pagesOf hC.2.2.2.2.2.2.1 hk) rfl ⟨rfl, rfl, (Nat.le_of_ble_eq_true rfl), (Nat.le_of_ble_eq_true rfl)⟩ (Nat.le_of_ble_eq_true rfl) dX6_isPair_2 (fun r1 => ?_)
  refine z_istore_n (pc := 5) (ls1 := fun v => [(3, .inl (.int v)), (0, .inr (k, 34)), (1, .inl (.int a1)), (2, .inl (.int a2))]) hC 3 rfl (by decide) (fun v => rfl) dX6_isPair_5 (fun v3_2 => ?_)
  refine z_iload_n (pc := 6) hC 3 rfl 0 rfl dX6_isPair_6 ?_
  refine z_if_le (pc := 7) hC 120 rfl dX6_isPair_7 ?_ ?_
  · refine z_iconst (pc := 120) hC (0 : Int32) rfl dX6_isPair_120 ?_
    exact z_zret (pc := 121) hC rfl rfl dX6_isPair_121
  · refine z_aload_n (pc := 10) hC 0 rfl 1 rfl dX6_isPair_10 ?_
    refine z_iconst (pc := 11) hC (0 : Int32) rfl dX6_isPair_11 ?_
    refine z_iload_n (pc := 12) hC 2 rfl 3 rfl dX6_isPair_12 ?_
    refine z_iadd (pc := 13) hC dX6_isPair_13 ?_
    refine z_piV (pc := 14) (st := []) hC y_X6_of q1262 [.inl (.int ((0 : Int32) + a2))] rfl (hk 34 rfl) rfl rfl (c_X6_of hC.2.2.2.2.2.2.1 hk) rfl ⟨rfl, rfl, (Nat.le_of_ble_eq_true rfl), (Nat.le_of_ble_eq_true rfl)⟩ (Nat.le_of_ble_eq_true rfl) dX6_isPair_14 (fun r3 => ?_)
    refine z_aload_n (pc := 17) hC 0 rfl 1 rfl dX6_isPair_17 ?_
    refine z_iconst (pc := 18) hC (0 : Int32) rfl dX6_isPair_18 ?_
    refine z_iload_n (pc := 19) hC 1 rfl 2 rfl dX6_isPair_19 ?_
    refine z_iadd (pc := 20) hC dX6_isPair_20 ?_
    refine z_piV (pc := 21) (st := [.inl (.int r3)]) hC y_X6_of q1262 [.inl (.int ((0 : Int32) + a1))] rfl (hk 34 rfl) rfl rfl (c_X6_of hC.2.2.2.2.2.2.1 hk) rfl ⟨rfl, rfl, (Nat.le_of_ble_eq_true rfl), (Nat.le_of_ble_eq_true rfl)⟩ (Nat.le_of_ble_eq_true rfl) dX6_isPair_21 (fun r4 => ?_)
    refine z_icmp_ne (pc := 24) hC 120 rfl dX6_isPair_24 ?_ ?_
    · refine z_iconst (pc := 120) hC (0 : Int32) rfl dX6_isPair_120 ?_
      exact z_zret (pc := 121) hC rfl rfl dX6_isPair_121
    · refine z_aload_n (pc := 27) hC 0 rfl 1 rfl dX6_isPair_27 ?_
      refine z_sipush (pc := 28) hC (192 : Int32) rfl dX6_isPair_28 ?_
      refine z_iload_n (pc := 31) hC 1 rfl 2 rfl dX6_isPair_31 ?_
      refine z_iadd (pc := 32) hC dX6_isPair_32 ?_
      refine z_piV (pc := 33) (st := []) hC y_X6_of q1262 [.inl (.int ((192 : Int32) + a1))] rfl (hk 34 rfl) rfl rfl (c_X6_of hC.2.2.2.2.2.2.1 hk) rfl ⟨rfl, rfl, (Nat.le_of_ble_eq_true rfl), (Nat.le_of_ble_eq_true rfl)⟩ (Nat.le_of_ble_eq_true rfl) dX6_isPair_33 (fun r5 => ?_)
      refine z_iconst (pc := 36) hC (2 : Int32) rfl dX6_isPair_36 ?_
      refine z_iload_n (pc := 37) hC 3 rfl 0 rfl dX6_isPair_37 ?_
      refine z_imul (pc := 38) hC dX6_isPair_38 ?_
      refine z_irem (pc := 39) hC dX6_isPair_39 ?_
      refine z_if_ne (pc := 40) hC 120 rfl dX6_isPair_40 ?_ ?_
      · refine z_iconst (pc := 120) hC (0 : Int32) rfl dX6_isPair_120 ?_
        exact z_zret (pc := 121) hC rfl rfl dX6_isPair_121
      · refine z_aload_n (pc := 43) hC 0 rfl 1 rfl dX6_isPair_43 ?_
        refine z_sipush (pc := 44) hC (192 : Int32) rfl dX6_isPair_44 ?_
        refine z_iload_n (pc := 47) hC 2 rfl 3 rfl dX6_isPair_47 ?_
        refine z_iadd (pc := 48) hC dX6_isPair_48 ?_
        refine z_piV (pc := 49) (st := []) hC y_X6_of q1262 [.inl (.int ((192 : Int32) + a2))] rfl (hk 34 rfl) rfl rfl (c_X6_of hC.2.2.2.2.2.2.1 hk) rfl ⟨rfl, rfl, (Nat.le_of_ble_eq_true rfl), (Nat.le_of_ble_eq_true rfl)⟩ (Nat.le_of_ble_eq_true rfl) dX6_isPair_49 (fun r6 => ?_)
        refine z_aload_n (pc := 52) hC 0 rfl 1 rfl dX6_isPair_52 ?_
        refine z_sipush (pc := 53) hC (192 : Int32) rfl dX6_isPair_53 ?_
        refine z_iload_n (pc := 56) hC 1 rfl 2 rfl dX6_isPair_56 ?_
        refine z_iadd (pc := 57) hC dX6_isPair_57 ?_
        refine z_piV (pc := 58) (st := [.inl (.int r6)]) hC y_X6_of q1262 [.inl (.int ((192 : Int32) + a1))] rfl (hk 34 rfl) rfl rfl (c_X6_of hC.2.2.2.2.2.2.1 hk) rfl ⟨rfl, rfl, (Nat.le_of_ble_eq_true rfl), (Nat.le_of_ble_eq_true rfl)⟩ (Nat.le_of_ble_eq_true rfl) dX6_isPair_58 (fun r7 => ?_)
        refine z_iload_n (pc := 61) hC 3 rfl 0 rfl dX6_isPair_61 ?_
        refine z_iadd (pc := 62) hC dX6_isPair_62 ?_
        refine z_icmp_ne (pc := 63) hC 120 rfl dX6_isPair_63 ?_ ?_
        · refine z_iconst (pc := 120) hC (0 : Int32) rfl dX6_isPair_120 ?_
          exact z_zret (pc := 121) hC rfl rfl dX6_isPair_121
        · refine z_aload_n (pc := 66) hC 0 rfl 1 rfl dX6_isPair_66 ?_
          refine z_sipush (pc := 67) hC (384 : Int32) rfl dX6_isPair_67 ?_
          refine z_iload_n (pc := 70) hC 2 rfl 3 rfl dX6_isPair_70 ?_
          refine z_iadd (pc := 71) hC dX6_isPair_71 ?_
          refine z_piV (pc := 72) (st := []) hC y_X6_of q1262 [.inl (.int ((384 : Int32) + a2))] rfl (hk 34 rfl) rfl rfl (c_X6_of hC.2.2.2.2.2.2.1 hk) rfl ⟨rfl, rfl, (Nat.le_of_ble_eq_true rfl), (Nat.le_of_ble_eq_true rfl)⟩ (Nat.le_of_ble_eq_true rfl) dX6_isPair_72 (fun r8 => ?_)
          refine z_aload_n (pc := 75) hC 0 rfl 1 rfl dX6_isPair_75 ?_
          refine z_sipush (pc := 76) hC (384 : Int32) rfl dX6_isPair_76 ?_
          refine z_iload_n (pc := 79) hC 1 rfl 2 rfl dX6_isPair_79 ?_
          refine z_iadd (pc := 80) hC dX6_isPair_80 ?_
          refine z_piV (pc := 81) (st := [.inl (.int r8)]) hC y_X6_of q1262 [.inl (.int ((384 : Int32) + a1))] rfl (hk 34 rfl) rfl rfl (c_X6_of hC.2.2.2.2.2.2.1 hk) rfl ⟨rfl, rfl, (Nat.le_of_ble_eq_true rfl), (Nat.le_of_ble_eq_true rfl)⟩ (Nat.le_of_ble_eq_true rfl) dX6_isPair_81 (fun r9 => ?_)
          refine z_icmp_ne (pc := 84) hC 120 rfl dX6_isPair_84 ?_ ?_
          · refine z_iconst (pc := 120) hC (0 : Int32) rfl dX6_isPair_120 ?_
            exact z_zret (pc := 121) hC rfl rfl dX6_isPair_121
          · refine z_aload_n (pc := 87) hC 0 rfl 1 rfl dX6_isPair_87 ?_
            refine z_iload_n (pc := 88) hC 2 rfl 3 rfl dX6_isPair_88 ?_
            refine z_piV (pc := 89) (st := []) hC y_X6_giverOf q1532 [.inl (.int a2)] rfl (hk 34 rfl) rfl rfl (c_X6_giverOf hC.2.2.2.2.2.2.1 hk) rfl ⟨rfl, rfl, (Nat.le_of_ble_eq_true rfl), (Nat.le_of_ble_eq_true rfl)⟩ (Nat.le_of_ble_eq_true rfl) dX6_isPair_89 (fun r10 => ?_)
            refine z_aload_n (pc := 92) hC 0 rfl 1 rfl dX6_isPair_92 ?_
            refine z_iload_n (pc := 93) hC 1 rfl 2 rfl dX6_isPair_93 ?_
            refine z_piV (pc := 94) (st := [.inl (.int r10)]) hC y_X6_giverOf q1532 [.inl (.int a1)] rfl (hk 34 rfl) rfl rfl (c_X6_giverOf hC.2.2.2.2.2.2.1 hk) rfl ⟨rfl, rfl, (Nat.le_of_ble_eq_true rfl), (Nat.le_of_ble_eq_true rfl)⟩ (Nat.le_of_ble_eq_true rfl) dX6_isPair_94 (fun r11 => ?_)
            refine z_icmp_ne (pc := 97) hC 120 rfl dX6_isPair_97 ?_ ?_
            · refine z_iconst (pc := 120) hC (0 : Int32) rfl dX6_isPair_120 ?_
              exact z_zret (pc := 121) hC rfl rfl dX6_isPair_121
            · refine z_aload_n (pc := 100) hC 0 rfl 1 rfl dX6_isPair_100 ?_
              refine z_iload_n (pc := 101) hC 1 rfl 2 rfl dX6_isPair_101 ?_
              refine z_piV (pc := 102) (st := []) hC y_X6_isBusy q1528 [.inl (.int a1)] rfl (hk 34 rfl) rfl rfl (c_X6_isBusy hC.2.2.2.2.2.2.1 hk) rfl ⟨rfl, rfl, (Nat.le_of_ble_eq_true rfl), (Nat.le_of_ble_eq_true rfl)⟩ (Nat.le_of_ble_eq_true rfl) dX6_isPair_102 (fun r12 => ?_)
              refine z_if_ne (pc := 105) hC 120 rfl dX6_isPair_105 ?_ ?_
              · refine z_iconst (pc := 120) hC (0 : Int32) rfl dX6_isPair_120 ?_
                exact z_zret (pc := 121) hC rfl rfl dX6_isPair_121
              · refine z_aload_n (pc := 108) hC 0 rfl 1 rfl dX6_isPair_108 ?_
                refine z_iload_n (pc := 109) hC 2 rfl 3 rfl dX6_isPair_109 ?_
                refine z_piV (pc := 110) (st := []) hC y_X6_isBusy q1528 [.inl (.int a2)] rfl (hk 34 rfl) rfl rfl (c_X6_isBusy hC.2.2.2.2.2.2.1 hk) rfl ⟨rfl, rfl, (Nat.le_of_ble_eq_true rfl), (Nat.le_of_ble_eq_true rfl)⟩ (Nat.le_of_ble_eq_true rfl) dX6_isPair_110 (fun r13 => ?_)
                refine z_if_ne (pc := 113) hC 120 rfl dX6_isPair_113 ?_ ?_
                · refine z_iconst (pc := 120) hC (0 : Int32) rfl dX6_isPair_120 ?_
                  exact z_zret (pc := 121) hC rfl rfl dX6_isPair_121
                · refine z_iconst (pc := 116) hC (1 : Int32) rfl dX6_isPair_116 ?_
                  refine z_goto (pc := 117) hC 121 rfl dX6_isPair_117 ?_
                  exact z_zret (pc := 121) hC rfl rfl dX6_isPair_121
theorem c_X6_isPair {G : Geo} {M : Mem} {k : Nat} (hG : GOk G) (hk : LMo G k) {d : Sl} {a1 : Int32} {a2 : Int32} (l : Launch) (r : Int32) (h : Mo_isPair d a1 a2 = some r) : Mt l yX6_isPair cX6_isPair 4 (some .boolean) rm_X6_isPair G [.inr (k, 34), .inl (.int a1), .inl (.int a2)] ((setS M k) d) (avI r) ((setS M k) d) :=
  mt_of (mem := (setS M k)) (po := poP avI ((setS M k) d)) (x0 := d) (t := r) rfl hG [.inr (k, 34), .inl (.int a1), .inl (.int a2)] (Nat.le_of_ble_eq_true rfl) rfl (fun C hC => r_Mo_isPair hC hk d a1 a2) h
-- FrameHeirsModel.pairIn(I)I
abbrev rm_X6_pairIn : Room := { frames := 4, cells := 0, slots := 0, locals := 87 }
theorem dX6_pairIn_0 : decode cX6_pairIn 0 = .ok (.iconst 0, 1) := by decide +kernel
theorem dX6_pairIn_1 : decode cX6_pairIn 1 = .ok (.istore_n 2, 1) := by decide +kernel
theorem dX6_pairIn_2 : decode cX6_pairIn 2 = .ok (.iload_n 2, 1) := by decide +kernel
theorem dX6_pairIn_3 : decode cX6_pairIn 3 = .ok (.iconst 3, 1) := by decide +kernel
theorem dX6_pairIn_4 : decode cX6_pairIn 4 = .ok (.if_icmp .ge 68, 3) := by decide +kernel
theorem dX6_pairIn_7 : decode cX6_pairIn 7 = .ok (.iconst 0, 1) := by decide +kernel
theorem dX6_pairIn_8 : decode cX6_pairIn 8 = .ok (.istore_n 3, 1) := by decide +kernel
theorem dX6_pairIn_9 : decode cX6_pairIn 9 = .ok (.iload_n 3, 1) := by decide +kernel
theorem dX6_pairIn_10 : decode cX6_pairIn 10 = .ok (.aload_n 0, 1) := by decide +kernel
theorem dX6_pairIn_11 : decode cX6_pairIn 11 = .ok (.invokevirtual 126, 3) := by decide +kernel
theorem dX6_pairIn_14 : decode cX6_pairIn 14 = .ok (.if_icmp .ge 52, 3) := by decide +kernel
theorem dX6_pairIn_17 : decode cX6_pairIn 17 = .ok (.bipush 32, 2) := by decide +kernel
theorem dX6_pairIn_19 : decode cX6_pairIn 19 = .ok (.iload_n 1, 1) := by decide +kernel
theorem dX6_pairIn_20 : decode cX6_pairIn 20 = .ok (.imul, 1) := by decide +kernel
theorem dX6_pairIn_21 : decode cX6_pairIn 21 = .ok (.iload_n 3, 1) := by decide +kernel
theorem dX6_pairIn_22 : decode cX6_pairIn 22 = .ok (.iadd, 1) := by decide +kernel
theorem dX6_pairIn_23 : decode cX6_pairIn 23 = .ok (.istore 4, 2) := by decide +kernel
theorem dX6_pairIn_25 : decode cX6_pairIn 25 = .ok (.aload_n 0, 1) := by decide +kernel
theorem dX6_pairIn_26 : decode cX6_pairIn 26 = .ok (.iconst 0, 1) := by decide +kernel
theorem dX6_pairIn_27 : decode cX6_pairIn 27 = .ok (.iload 4, 2) := by decide +kernel
theorem dX6_pairIn_29 : decode cX6_pairIn 29 = .ok (.iadd, 1) := by decide +kernel
theorem dX6_pairIn_30 : decode cX6_pairIn 30 = .ok (.invokevirtual 189, 3) := by decide +kernel
theorem dX6_pairIn_33 : decode cX6_pairIn 33 = .ok (.iload_n 2, 1) := by decide +kernel
theorem dX6_pairIn_34 : decode cX6_pairIn 34 = .ok (.iconst 1, 1) := by decide +kernel
theorem dX6_pairIn_35 : decode cX6_pairIn 35 = .ok (.iadd, 1) := by decide +kernel
theorem dX6_pairIn_36 : decode cX6_pairIn 36 = .ok (.if_icmp .ne 21, 3) := by decide +kernel
theorem dX6_pairIn_39 : decode cX6_pairIn 39 = .ok (.aload_n 0, 1) := by decide +kernel
theorem dX6_pairIn_40 : decode cX6_pairIn 40 = .ok (.iload 4, 2) := by decide +kernel
theorem dX6_pairIn_42 : decode cX6_pairIn 42 = .ok (.iload 4, 2) := by decide +kernel
theorem dX6_pairIn_44 : decode cX6_pairIn 44 = .ok (.iconst 1, 1) := by decide +kernel
theorem dX6_pairIn_45 : decode cX6_pairIn 45 = .ok (.iload_n 2, 1) := by decide +kernel
theorem dX6_pairIn_46 : decode cX6_pairIn 46 = .ok (.ishl, 1) := by decide +kernel
theorem dX6_pairIn_47 : decode cX6_pairIn 47 = .ok (.iadd, 1) := by decide +kernel
theorem dX6_pairIn_48 : decode cX6_pairIn 48 = .ok (.invokevirtual 417, 3) := by decide +kernel
theorem dX6_pairIn_51 : decode cX6_pairIn 51 = .ok (.ifCond .eq 6, 3) := by decide +kernel
theorem dX6_pairIn_54 : decode cX6_pairIn 54 = .ok (.iload 4, 2) := by decide +kernel
theorem dX6_pairIn_56 : decode cX6_pairIn 56 = .ok (.ireturn, 1) := by decide +kernel
theorem dX6_pairIn_57 : decode cX6_pairIn 57 = .ok (.iload_n 3, 1) := by decide +kernel
theorem dX6_pairIn_58 : decode cX6_pairIn 58 = .ok (.iconst 2, 1) := by decide +kernel
theorem dX6_pairIn_59 : decode cX6_pairIn 59 = .ok (.iload_n 2, 1) := by decide +kernel
theorem dX6_pairIn_60 : decode cX6_pairIn 60 = .ok (.ishl, 1) := by decide +kernel
theorem dX6_pairIn_61 : decode cX6_pairIn 61 = .ok (.iadd, 1) := by decide +kernel
theorem dX6_pairIn_62 : decode cX6_pairIn 62 = .ok (.istore_n 3, 1) := by decide +kernel
theorem dX6_pairIn_63 : decode cX6_pairIn 63 = .ok (.goto (-54), 3) := by decide +kernel
theorem dX6_pairIn_66 : decode cX6_pairIn 66 = .ok (.iinc 2 1, 3) := by decide +kernel
theorem dX6_pairIn_69 : decode cX6_pairIn 69 = .ok (.goto (-67), 3) := by decide +kernel
theorem dX6_pairIn_72 : decode cX6_pairIn 72 = .ok (.iconst (-1), 1) := by decide +kernel
theorem dX6_pairIn_73 : decode cX6_pairIn 73 = .ok (.ireturn, 1) := by decide +kernel
def Mo_pairIn_57 (k2 : Int32 → Int32 → Option Int32) (k9 : Int32 → Int32 → Int32 → Option Int32) (d : Sl) (v1 : Int32) (v2 : Int32) (v3 : Int32) : Option Int32 :=
  bnd (v3 + ((2 : Int32) <<< (v2 &&& 31))) fun v3_1 =>
  k9 v1 v2 v3_1
def Mo_pairIn_9 (k2 : Int32 → Int32 → Option Int32) (d : Sl) : Nat → Int32 → Int32 → Int32 → Option Int32
  | 0, _, _, _ => none
  | n + 1, v1, v2, v3 =>
    bp (Mo_size d) fun r2 =>
    if r2 ≤ v3 then
      (bnd (v2 + (1 : Int32)) fun v2_3 =>
      k2 v1 v2_3)
    else
      (bnd (((32 : Int32) * v1) + v3) fun v4_4 =>
      bp (Mo_of d ((0 : Int32) + v4_4)) fun r5 =>
      if r5 = (v2 + (1 : Int32)) then
        (bp (Mo_isPair d v4_4 (v4_4 + ((1 : Int32) <<< (v2 &&& 31)))) fun r6 =>
        if r6 = 0 then
          (Mo_pairIn_57 k2 (Mo_pairIn_9 k2 d n) d v1 v2 v3)
        else
          (some v4_4))
      else
        (Mo_pairIn_57 k2 (Mo_pairIn_9 k2 d n) d v1 v2 v3))
def Mo_pairIn_2 (d : Sl) : Nat → Int32 → Int32 → Option Int32
  | 0, _, _ => none
  | n + 1, v1, v2 =>
    if (3 : Int32) ≤ v2 then
      (some (-1 : Int32))
    else
      (bnd (0 : Int32) fun v3_7 =>
      Mo_pairIn_9 (Mo_pairIn_2 d n) d FU v1 v2 v3_7)
def Mo_pairIn (d : Sl) (a1 : Int32) : Option Int32 :=
  bnd (0 : Int32) fun v2_8 =>
  Mo_pairIn_2 d FU a1 v2_8
theorem y_X6_pairIn : YV yX6_pairIn cX6_pairIn 5 (some .int) 1 := ⟨q1767, q125, q1768, q149, by decide +kernel, by decide +kernel, by decide +kernel, by decide +kernel⟩
theorem r_Mo_pairIn_57 {C : Cxt} {G : Geo} {M : Mem} {k : Nat} {d : Sl} (hC : Cx C cX6_pairIn 5 "FrameHeirsModel" (some .int) rm_X6_pairIn G) (hk : LMo G k) (k2 : Int32 → Int32 → Option Int32) (h2 : ∀ (v1 : Int32) (v2 : Int32), Rz C 5 G (setS M k) (poP avI ((setS M k) d)) 2 [(0, .inr (k, 34)), (1, .inl (.int v1)), (2, .inl (.int v2))] [] d (k2 v1 v2)) (k9 : Int32 → Int32 → Int32 → Option Int32) (h9 : ∀ (v1 : Int32) (v2 : Int32) (v3 : Int32), Rz C 5 G (setS M k) (poP avI ((setS M k) d)) 9 [(0, .inr (k, 34)), (1, .inl (.int v1)), (2, .inl (.int v2)), (3, .inl (.int v3))] [] d (k9 v1 v2 v3)) (v1 : Int32) (v2 : Int32) (v3 : Int32) : Rz C 5 G (setS M k) (poP avI ((setS M k) d)) 57 [(0, .inr (k, 34)), (1, .inl (.int v1)), (2, .inl (.int v2)), (3, .inl (.int v3))] [] d (Mo_pairIn_57 k2 k9 d v1 v2 v3) := by
  unfold Mo_pairIn_57
  refine z_iload_n (pc := 57) hC 3 rfl 3 rfl dX6_pairIn_57 ?_
  refine z_iconst (pc := 58) hC (2 : Int32) rfl dX6_pairIn_58 ?_
  refine z_iload_n (pc := 59) hC 2 rfl 2 rfl dX6_pairIn_59 ?_
  refine z_ishl (pc := 60) hC dX6_pairIn_60 ?_
  refine z_iadd (pc := 61) hC dX6_pairIn_61 ?_
  refine z_istore_n (pc := 62) (ls1 := fun v => [(3, .inl (.int v)), (0, .inr (k, 34)), (1, .inl (.int v1)), (2, .inl (.int v2))]) hC 3 rfl (by decide) (fun v => rfl) dX6_pairIn_62 (fun v3_1 => ?_)
  refine z_goto (pc := 63) hC 9 rfl dX6_pairIn_63 ?_
  exact z_sub [1, 2, 3, 0] rfl (h9 v1 v2 v3_1)
theorem r_Mo_pairIn_9 {C : Cxt} {G : Geo} {M : Mem} {k : Nat} {d : Sl} (hC : Cx C cX6_pairIn 5 "FrameHeirsModel" (some .int) rm_X6_pairIn G) (hk : LMo G k) (k2 : Int32 → Int32 → Option Int32) (h2 : ∀ (v1 : Int32) (v2 : Int32), Rz C 5 G (setS M k) (poP avI ((setS M k) d)) 2 [(0, .inr (k, 34)), (1, .inl (.int v1)), (2, .inl (.int v2))] [] d (k2 v1 v2)) : ∀ (n : Nat) (v1 : Int32) (v2 : Int32) (v3 : Int32), Rz C 5 G (setS M k) (poP avI ((setS M k) d)) 9 [(0, .inr (k, 34)), (1, .inl (.int v1)), (2, .inl (.int v2)), (3, .inl (.int v3))] [] d (Mo_pairIn_9 k2 d n v1 v2 v3) := by
  intro n
  induction n with
  | zero => intros; exact z_none
  | succ n ih =>
    intro v1 v2 v3
    rw [Mo_pairIn_9]
    refine z_iload_n (pc := 9) hC 3 rfl 3 rfl dX6_pairIn_9 ?_
    refine z_aload_n (pc := 10) hC 0 rfl 0 rfl dX6_pairIn_10 ?_
    refine z_piV (pc := 11) (st := [.inl (.int v3)]) hC y_X6_size q1250 [] rfl (hk 34 rfl) rfl rfl (c_X6_size hC.2.2.2.2.2.2.1 hk) rfl ⟨rfl, rfl, (Nat.le_of_ble_eq_true rfl), (Nat.le_of_ble_eq_true rfl)⟩ (Nat.le_of_ble_eq_true rfl) dX6_pairIn_11 (fun r2 => ?_)
    refine z_icmp_ge (pc := 14) hC 66 rfl dX6_pairIn_14 ?_ ?_
    · refine z_iinc (pc := 66) (ls1 := fun v => [(2, .inl (.int v)), (0, .inr (k, 34)), (1, .inl (.int v1)), (3, .inl (.int v3))]) hC 2 2 (by decide) (1 : Int32) rfl rfl (fun v => rfl) dX6_pairIn_66 (fun v2_3 => ?_)
      refine z_goto (pc := 69) hC 2 rfl dX6_pairIn_69 ?_
      exact z_sub [1, 2, 0] rfl (h2 v1 v2_3)
    · refine z_bipush (pc := 17) hC (32 : Int32) rfl dX6_pairIn_17 ?_
      refine z_iload_n (pc := 19) hC 1 rfl 1 rfl dX6_pairIn_19 ?_
      refine z_imul (pc := 20) hC dX6_pairIn_20 ?_
      refine z_iload_n (pc := 21) hC 3 rfl 3 rfl dX6_pairIn_21 ?_
      refine z_iadd (pc := 22) hC dX6_pairIn_22 ?_
      refine z_istore (pc := 23) (ls1 := fun v => [(4, .inl (.int v)), (0, .inr (k, 34)), (1, .inl (.int v1)), (2, .inl (.int v2)), (3, .inl (.int v3))]) hC 4 (by decide) (fun v => rfl) dX6_pairIn_23 (fun v4_4 => ?_)
      refine z_aload_n (pc := 25) hC 0 rfl 1 rfl dX6_pairIn_25 ?_
      refine z_iconst (pc := 26) hC (0 : Int32) rfl dX6_pairIn_26 ?_
      refine z_iload (pc := 27) hC 4 0 rfl dX6_pairIn_27 ?_
      refine z_iadd (pc := 29) hC dX6_pairIn_29 ?_
      refine z_piV (pc := 30) (st := []) hC y_X6_of q1262 [.inl (.int ((0 : Int32) + v4_4))] rfl (hk 34 rfl) rfl rfl (c_X6_of hC.2.2.2.2.2.2.1 hk) rfl ⟨rfl, rfl, (Nat.le_of_ble_eq_true rfl), (Nat.le_of_ble_eq_true rfl)⟩ (Nat.le_of_ble_eq_true rfl) dX6_pairIn_30 (fun r5 => ?_)
      refine z_iload_n (pc := 33) hC 2 rfl 3 rfl dX6_pairIn_33 ?_
      refine z_iconst (pc := 34) hC (1 : Int32) rfl dX6_pairIn_34 ?_
      refine z_iadd (pc := 35) hC dX6_pairIn_35 ?_
      refine z_icmp_ne (pc := 36) hC 57 rfl dX6_pairIn_36 ?_ ?_
      · exact z_sub [1, 2, 3, 4] rfl (r_Mo_pairIn_57 hC hk k2 h2 _ ih v1 v2 v3)
      · refine z_aload_n (pc := 39) hC 0 rfl 1 rfl dX6_pairIn_39 ?_
        refine z_iload (pc := 40) hC 4 0 rfl dX6_pairIn_40 ?_
        refine z_iload (pc := 42) hC 4 0 rfl dX6_pairIn_42 ?_
        refine z_iconst (pc := 44) hC (1 : Int32) rfl dX6_pairIn_44 ?_
        refine z_iload_n (pc := 45) hC 2 rfl 3 rfl dX6_pairIn_45 ?_
        refine z_ishl (pc := 46) hC dX6_pairIn_46 ?_
        refine z_iadd (pc := 47) hC dX6_pairIn_47 ?_
        refine z_piV (pc := 48) (st := []) hC y_X6_isPair q1769 [.inl (.int v4_4), .inl (.int (v4_4 + ((1 : Int32) <<< (v2 &&& 31))))] rfl (hk 34 rfl) rfl rfl (c_X6_isPair hC.2.2.2.2.2.2.1 hk) rfl ⟨rfl, rfl, (Nat.le_of_ble_eq_true rfl), (Nat.le_of_ble_eq_true rfl)⟩ (Nat.le_of_ble_eq_true rfl) dX6_pairIn_48 (fun r6 => ?_)
        refine z_if_eq (pc := 51) hC 57 rfl dX6_pairIn_51 ?_ ?_
        · exact z_sub [1, 2, 3, 4] rfl (r_Mo_pairIn_57 hC hk k2 h2 _ ih v1 v2 v3)
        · refine z_iload (pc := 54) hC 4 0 rfl dX6_pairIn_54 ?_
          exact z_iret (pc := 56) hC rfl dX6_pairIn_56
theorem r_Mo_pairIn_2 {C : Cxt} {G : Geo} {M : Mem} {k : Nat} {d : Sl} (hC : Cx C cX6_pairIn 5 "FrameHeirsModel" (some .int) rm_X6_pairIn G) (hk : LMo G k) : ∀ (n : Nat) (v1 : Int32) (v2 : Int32), Rz C 5 G (setS M k) (poP avI ((setS M k) d)) 2 [(0, .inr (k, 34)), (1, .inl (.int v1)), (2, .inl (.int v2))] [] d (Mo_pairIn_2 d n v1 v2) := by
  intro n
  induction n with
  | zero => intros; exact z_none
  | succ n ih =>
    intro v1 v2
    rw [Mo_pairIn_2]
    refine z_iload_n (pc := 2) hC 2 rfl 2 rfl dX6_pairIn_2 ?_
    refine z_iconst (pc := 3) hC (3 : Int32) rfl dX6_pairIn_3 ?_
    refine z_icmp_ge (pc := 4) hC 72 rfl dX6_pairIn_4 ?_ ?_
    · refine z_iconst (pc := 72) hC (-1 : Int32) rfl dX6_pairIn_72 ?_
      exact z_iret (pc := 73) hC rfl dX6_pairIn_73
    · refine z_iconst (pc := 7) hC (0 : Int32) rfl dX6_pairIn_7 ?_
      refine z_istore_n (pc := 8) (ls1 := fun v => [(3, .inl (.int v)), (0, .inr (k, 34)), (1, .inl (.int v1)), (2, .inl (.int v2))]) hC 3 rfl (by decide) (fun v => rfl) dX6_pairIn_8 (fun v3_7 => ?_)
      exact z_sub [1, 2, 3, 0] rfl (r_Mo_pairIn_9 hC hk _ ih FU v1 v2 v3_7)
theorem r_Mo_pairIn {C : Cxt} {G : Geo} {M : Mem} {k : Nat} (hC : Cx C cX6_pairIn 5 "FrameHeirsModel" (some .int) rm_X6_pairIn G) (hk : LMo G k) (d : Sl) (a1 : Int32) : Rz C 5 G (setS M k) (poP avI ((setS M k) d)) 0 [(0, .inr (k, 34)), (1, .inl (.int a1))] [] d (Mo_pairIn d a1) := by
  unfold Mo_pairIn
  refine z_iconst (pc := 0) hC (0 : Int32) rfl dX6_pairIn_0 ?_
  refine z_istore_n (pc := 1) (ls1 := fun v => [(2, .inl (.int v)), (0, .inr (k, 34)), (1, .inl (.int a1))]) hC 2 rfl (by decide) (fun v => rfl) dX6_pairIn_1 (fun v2_8 => ?_)
  exact z_sub [1, 2, 0] rfl (r_Mo_pairIn_2 hC hk FU a1 v2_8)
theorem c_X6_pairIn {G : Geo} {M : Mem} {k : Nat} (hG : GOk G) (hk : LMo G k) {d : Sl} {a1 : Int32} (l : Launch) (r : Int32) (h : Mo_pairIn d a1 = some r) : Mt l yX6_pairIn cX6_pairIn 5 (some .int) rm_X6_pairIn G [.inr (k, 34), .inl (.int a1)] ((setS M k) d) (avI r) ((setS M k) d) :=
  mt_of (mem := (setS M k)) (po := poP avI ((setS M k) d)) (x0 := d) (t := r) rfl hG [.inr (k, 34), .inl (.int a1)] (Nat.le_of_ble_eq_true rfl) rfl (fun C hC => r_Mo_pairIn hC hk d a1) h
-- FrameHeirsModel.oneOf(II)V
abbrev rm_X6_oneOf : Room := { frames := 3, cells := 0, slots := 0, locals := 66 }
theorem dX6_oneOf_0 : decode cX6_oneOf 0 = .ok (.aload_n 0, 1) := by decide +kernel
theorem dX6_oneOf_1 : decode cX6_oneOf 1 = .ok (.iload_n 2, 1) := by decide +kernel
theorem dX6_oneOf_2 : decode cX6_oneOf 2 = .ok (.invokevirtual 234, 3) := by decide +kernel
theorem dX6_oneOf_5 : decode cX6_oneOf 5 = .ok (.aload_n 0, 1) := by decide +kernel
theorem dX6_oneOf_6 : decode cX6_oneOf 6 = .ok (.iload_n 2, 1) := by decide +kernel
theorem dX6_oneOf_7 : decode cX6_oneOf 7 = .ok (.invokevirtual 228, 3) := by decide +kernel
theorem dX6_oneOf_10 : decode cX6_oneOf 10 = .ok (.istore_n 3, 1) := by decide +kernel
theorem dX6_oneOf_11 : decode cX6_oneOf 11 = .ok (.iload_n 3, 1) := by decide +kernel
theorem dX6_oneOf_12 : decode cX6_oneOf 12 = .ok (.ifCond .lt 56, 3) := by decide +kernel
theorem dX6_oneOf_15 : decode cX6_oneOf 15 = .ok (.aload_n 0, 1) := by decide +kernel
theorem dX6_oneOf_16 : decode cX6_oneOf 16 = .ok (.iload_n 3, 1) := by decide +kernel
theorem dX6_oneOf_17 : decode cX6_oneOf 17 = .ok (.invokevirtual 231, 3) := by decide +kernel
theorem dX6_oneOf_20 : decode cX6_oneOf 20 = .ok (.istore 4, 2) := by decide +kernel
theorem dX6_oneOf_22 : decode cX6_oneOf 22 = .ok (.aload_n 0, 1) := by decide +kernel
theorem dX6_oneOf_23 : decode cX6_oneOf 23 = .ok (.sipush 576, 3) := by decide +kernel
theorem dX6_oneOf_26 : decode cX6_oneOf 26 = .ok (.iload_n 3, 1) := by decide +kernel
theorem dX6_oneOf_27 : decode cX6_oneOf 27 = .ok (.iadd, 1) := by decide +kernel
theorem dX6_oneOf_28 : decode cX6_oneOf 28 = .ok (.iload_n 1, 1) := by decide +kernel
theorem dX6_oneOf_29 : decode cX6_oneOf 29 = .ok (.iconst 1, 1) := by decide +kernel
theorem dX6_oneOf_30 : decode cX6_oneOf 30 = .ok (.iadd, 1) := by decide +kernel
theorem dX6_oneOf_31 : decode cX6_oneOf 31 = .ok (.invokevirtual 122, 3) := by decide +kernel
theorem dX6_oneOf_34 : decode cX6_oneOf 34 = .ok (.aload_n 0, 1) := by decide +kernel
theorem dX6_oneOf_35 : decode cX6_oneOf 35 = .ok (.sipush 960, 3) := by decide +kernel
theorem dX6_oneOf_38 : decode cX6_oneOf 38 = .ok (.iload_n 1, 1) := by decide +kernel
theorem dX6_oneOf_39 : decode cX6_oneOf 39 = .ok (.iadd, 1) := by decide +kernel
theorem dX6_oneOf_40 : decode cX6_oneOf 40 = .ok (.invokevirtual 189, 3) := by decide +kernel
theorem dX6_oneOf_43 : decode cX6_oneOf 43 = .ok (.iconst 1, 1) := by decide +kernel
theorem dX6_oneOf_44 : decode cX6_oneOf 44 = .ok (.isub, 1) := by decide +kernel
theorem dX6_oneOf_45 : decode cX6_oneOf 45 = .ok (.istore 5, 2) := by decide +kernel
theorem dX6_oneOf_47 : decode cX6_oneOf 47 = .ok (.aload_n 0, 1) := by decide +kernel
theorem dX6_oneOf_48 : decode cX6_oneOf 48 = .ok (.iload 5, 2) := by decide +kernel
theorem dX6_oneOf_50 : decode cX6_oneOf 50 = .ok (.iload_n 3, 1) := by decide +kernel
theorem dX6_oneOf_51 : decode cX6_oneOf 51 = .ok (.iload_n 1, 1) := by decide +kernel
theorem dX6_oneOf_52 : decode cX6_oneOf 52 = .ok (.invokevirtual 206, 3) := by decide +kernel
theorem dX6_oneOf_55 : decode cX6_oneOf 55 = .ok (.aload_n 0, 1) := by decide +kernel
theorem dX6_oneOf_56 : decode cX6_oneOf 56 = .ok (.iload_n 3, 1) := by decide +kernel
theorem dX6_oneOf_57 : decode cX6_oneOf 57 = .ok (.iconst (-1), 1) := by decide +kernel
theorem dX6_oneOf_58 : decode cX6_oneOf 58 = .ok (.iload_n 1, 1) := by decide +kernel
theorem dX6_oneOf_59 : decode cX6_oneOf 59 = .ok (.invokevirtual 206, 3) := by decide +kernel
theorem dX6_oneOf_62 : decode cX6_oneOf 62 = .ok (.iload 4, 2) := by decide +kernel
theorem dX6_oneOf_64 : decode cX6_oneOf 64 = .ok (.istore_n 3, 1) := by decide +kernel
theorem dX6_oneOf_65 : decode cX6_oneOf 65 = .ok (.goto (-54), 3) := by decide +kernel
theorem dX6_oneOf_68 : decode cX6_oneOf 68 = .ok (.aload_n 0, 1) := by decide +kernel
theorem dX6_oneOf_69 : decode cX6_oneOf 69 = .ok (.sipush 1536, 3) := by decide +kernel
theorem dX6_oneOf_72 : decode cX6_oneOf 72 = .ok (.iload_n 1, 1) := by decide +kernel
theorem dX6_oneOf_73 : decode cX6_oneOf 73 = .ok (.iadd, 1) := by decide +kernel
theorem dX6_oneOf_74 : decode cX6_oneOf 74 = .ok (.aload_n 0, 1) := by decide +kernel
theorem dX6_oneOf_75 : decode cX6_oneOf 75 = .ok (.sipush 1536, 3) := by decide +kernel
theorem dX6_oneOf_78 : decode cX6_oneOf 78 = .ok (.iload_n 1, 1) := by decide +kernel
theorem dX6_oneOf_79 : decode cX6_oneOf 79 = .ok (.iadd, 1) := by decide +kernel
theorem dX6_oneOf_80 : decode cX6_oneOf 80 = .ok (.invokevirtual 189, 3) := by decide +kernel
theorem dX6_oneOf_83 : decode cX6_oneOf 83 = .ok (.aload_n 0, 1) := by decide +kernel
theorem dX6_oneOf_84 : decode cX6_oneOf 84 = .ok (.sipush 1536, 3) := by decide +kernel
theorem dX6_oneOf_87 : decode cX6_oneOf 87 = .ok (.iload_n 2, 1) := by decide +kernel
theorem dX6_oneOf_88 : decode cX6_oneOf 88 = .ok (.iadd, 1) := by decide +kernel
theorem dX6_oneOf_89 : decode cX6_oneOf 89 = .ok (.invokevirtual 189, 3) := by decide +kernel
theorem dX6_oneOf_92 : decode cX6_oneOf 92 = .ok (.invokestatic 364, 3) := by decide +kernel
theorem dX6_oneOf_95 : decode cX6_oneOf 95 = .ok (.ldc_w 420, 3) := by decide +kernel
theorem dX6_oneOf_98 : decode cX6_oneOf 98 = .ok (.invokestatic 361, 3) := by decide +kernel
theorem dX6_oneOf_101 : decode cX6_oneOf 101 = .ok (.invokevirtual 122, 3) := by decide +kernel
theorem dX6_oneOf_104 : decode cX6_oneOf 104 = .ok (.aload_n 0, 1) := by decide +kernel
theorem dX6_oneOf_105 : decode cX6_oneOf 105 = .ok (.iconst 0, 1) := by decide +kernel
theorem dX6_oneOf_106 : decode cX6_oneOf 106 = .ok (.iload_n 2, 1) := by decide +kernel
theorem dX6_oneOf_107 : decode cX6_oneOf 107 = .ok (.iadd, 1) := by decide +kernel
theorem dX6_oneOf_108 : decode cX6_oneOf 108 = .ok (.iconst 0, 1) := by decide +kernel
theorem dX6_oneOf_109 : decode cX6_oneOf 109 = .ok (.invokevirtual 122, 3) := by decide +kernel
theorem dX6_oneOf_112 : decode cX6_oneOf 112 = .ok (.aload_n 0, 1) := by decide +kernel
theorem dX6_oneOf_113 : decode cX6_oneOf 113 = .ok (.iconst 0, 1) := by decide +kernel
theorem dX6_oneOf_114 : decode cX6_oneOf 114 = .ok (.iload_n 1, 1) := by decide +kernel
theorem dX6_oneOf_115 : decode cX6_oneOf 115 = .ok (.iadd, 1) := by decide +kernel
theorem dX6_oneOf_116 : decode cX6_oneOf 116 = .ok (.invokevirtual 240, 3) := by decide +kernel
theorem dX6_oneOf_119 : decode cX6_oneOf 119 = .ok (.aload_n 0, 1) := by decide +kernel
theorem dX6_oneOf_120 : decode cX6_oneOf 120 = .ok (.iload_n 1, 1) := by decide +kernel
theorem dX6_oneOf_121 : decode cX6_oneOf 121 = .ok (.invokevirtual 202, 3) := by decide +kernel
theorem dX6_oneOf_124 : decode cX6_oneOf 124 = .ok (.return_, 1) := by decide +kernel
def Mo_oneOf_11 : Nat → Int32 → Int32 → Int32 → Sl → Option (Unit × Sl)
  | 0, _, _, _, _ => none
  | n + 1, v1, v2, v3, d =>
    if v3 < 0 then
      (bp (Mo_of d ((1536 : Int32) + v1)) fun r1 =>
      bp (Mo_of d ((1536 : Int32) + v2)) fun r2 =>
      bp (Mo_added r1 r2) fun r3 =>
      bp (Mo_times r3 (1056964608 : Int32)) fun r4 =>
      bd (Mo_lay d ((1536 : Int32) + v1) r4) fun r5 d6 =>
      bd (Mo_lay d6 ((0 : Int32) + v2) (0 : Int32)) fun r7 d8 =>
      bd (Mo_more d8 ((0 : Int32) + v1)) fun r9 d10 =>
      bd (Mo_widens d10 v1) fun r11 d12 =>
      some ((), d12))
    else
      (bp (Mo_nextOf d v3) fun r13 =>
      bnd r13 fun v4_14 =>
      bd (Mo_lay d ((576 : Int32) + v3) (v1 + (1 : Int32))) fun r15 d16 =>
      bp (Mo_of d16 ((960 : Int32) + v1)) fun r17 =>
      bnd (r17 - (1 : Int32)) fun v5_18 =>
      bd (Mo_linked d16 v5_18 v3 v1) fun r19 d20 =>
      bd (Mo_linked d20 v3 (-1 : Int32) v1) fun r21 d22 =>
      bnd v4_14 fun v3_23 =>
      Mo_oneOf_11 n v1 v2 v3_23 d22)
def Mo_oneOf (d : Sl) (a1 : Int32) (a2 : Int32) : Option (Unit × Sl) :=
  bd (Mo_leaves d a2) fun r24 d25 =>
  bp (Mo_firstOf d25 a2) fun r26 =>
  bnd r26 fun v3_27 =>
  Mo_oneOf_11 FU a1 a2 v3_27 d25
theorem y_X6_oneOf : YV yX6_oneOf cX6_oneOf 6 none 2 := ⟨q1775, q127, q1776, q149, by decide +kernel, by decide +kernel, by decide +kernel, by decide +kernel⟩
theorem r_Mo_oneOf_11 {C : Cxt} {G : Geo} {M : Mem} {k : Nat} (hC : Cx C cX6_oneOf 6 "FrameHeirsModel" none rm_X6_oneOf G) (hk : LMo G k) : ∀ (n : Nat) (v1 : Int32) (v2 : Int32) (v3 : Int32) (d : Sl), Rz C 6 G (setS M k) (poM avV (setS M k)) 11 [(0, .inr (k, 34)), (1, .inl (.int v1)), (2, .inl (.int v2)), (3, .inl (.int v3))] [] d (Mo_oneOf_11 n v1 v2 v3 d) := by
  intro n
  induction n with
  | zero => intros; exact z_none
  | succ n ih =>
    intro v1 v2 v3 d
    rw [Mo_oneOf_11]
    refine z_iload_n (pc := 11) hC 3 rfl 3 rfl dX6_oneOf_11 ?_
    refine z_if_lt (pc := 12) hC 68 rfl dX6_oneOf_12 ?_ ?_
    · refine z_aload_n (pc := 68) hC 0 rfl 0 rfl dX6_oneOf_68 ?_
      refine z_sipush (pc := 69) hC (1536 : Int32) rfl dX6_oneOf_69 ?_
      refine z_iload_n (pc := 72) hC 1 rfl 1 rfl dX6_oneOf_72 ?_
      refine z_iadd (pc := 73) hC dX6_oneOf_73 ?_
      refine z_aload_n (pc := 74) hC 0 rfl 0 rfl dX6_oneOf_74 ?_
      refine z_sipush (pc := 75) hC (1536 : Int32) rfl dX6_oneOf_75 ?_
      refine z_iload_n (pc := 78) hC 1 rfl 1 rfl dX6_oneOf_78 ?_
      refine z_iadd (pc := 79) hC dX6_oneOf_79 ?_
      refine z_piV (pc := 80) (st := [.inl (.int ((1536 : Int32) + v1)), .inr (k, 34)]) hC y_X6_of q1262 [.inl (.int ((1536 : Int32) + v1))] rfl (hk 34 rfl) rfl rfl (c_X6_of hC.2.2.2.2.2.2.1 hk) rfl ⟨rfl, rfl, (Nat.le_of_ble_eq_true rfl), (Nat.le_of_ble_eq_true rfl)⟩ (Nat.le_of_ble_eq_true rfl) dX6_oneOf_80 (fun r1 => ?_)
      refine z_aload_n (pc := 83) hC 0 rfl 0 rfl dX6_oneOf_83 ?_
      refine z_sipush (pc := 84) hC (1536 : Int32) rfl dX6_oneOf_84 ?_
      refine z_iload_n (pc := 87) hC 2 rfl 2 rfl dX6_oneOf_87 ?_
      refine z_iadd (pc := 88) hC dX6_oneOf_88 ?_
      refine z_piV (pc := 89) (st := [.inl (.int r1), .inl (.int ((1536 : Int32) + v1)), .inr (k, 34)]) hC y_X6_of q1262 [.inl (.int ((1536 : Int32) + v2))] rfl (hk 34 rfl) rfl rfl (c_X6_of hC.2.2.2.2.2.2.1 hk) rfl ⟨rfl, rfl, (Nat.le_of_ble_eq_true rfl), (Nat.le_of_ble_eq_true rfl)⟩ (Nat.le_of_ble_eq_true rfl) dX6_oneOf_89 (fun r2 => ?_)
      refine z_piS (pc := 92) (st := [.inl (.int ((1536 : Int32) + v1)), .inr (k, 34)]) hC y_X6_added q1710 [.inl (.int r1), .inl (.int r2)] rfl (c_X6_added hC.2.2.2.2.2.2.1) rfl ⟨rfl, rfl, (Nat.le_of_ble_eq_true rfl), (Nat.le_of_ble_eq_true rfl)⟩ (Nat.le_of_ble_eq_true rfl) dX6_oneOf_92 (fun r3 => ?_)
      refine z_ldcw (pc := 95) hC (1056964608 : Int32) q1777 dX6_oneOf_95 ?_
      refine z_piS (pc := 98) (st := [.inl (.int ((1536 : Int32) + v1)), .inr (k, 34)]) hC y_X6_times q1682 [.inl (.int r3), .inl (.int (1056964608 : Int32))] rfl (c_X6_times hC.2.2.2.2.2.2.1) rfl ⟨rfl, rfl, (Nat.le_of_ble_eq_true rfl), (Nat.le_of_ble_eq_true rfl)⟩ (Nat.le_of_ble_eq_true rfl) dX6_oneOf_98 (fun r4 => ?_)
      refine z_cvV (pc := 101) (st := []) hC y_X6_lay q1246 [.inl (.int ((1536 : Int32) + v1)), .inl (.int r4)] rfl (hk 34 rfl) rfl rfl (c_X6_lay hC.2.2.2.2.2.2.1 hk) rfl ⟨rfl, rfl, (Nat.le_of_ble_eq_true rfl), (Nat.le_of_ble_eq_true rfl)⟩ (Nat.le_of_ble_eq_true rfl) dX6_oneOf_101 (fun r5 d6 => ?_)
      refine z_aload_n (pc := 104) hC 0 rfl 0 rfl dX6_oneOf_104 ?_
      refine z_iconst (pc := 105) hC (0 : Int32) rfl dX6_oneOf_105 ?_
      refine z_iload_n (pc := 106) hC 2 rfl 2 rfl dX6_oneOf_106 ?_
      refine z_iadd (pc := 107) hC dX6_oneOf_107 ?_
      refine z_iconst (pc := 108) hC (0 : Int32) rfl dX6_oneOf_108 ?_
      refine z_cvV (pc := 109) (st := []) hC y_X6_lay q1246 [.inl (.int ((0 : Int32) + v2)), .inl (.int (0 : Int32))] rfl (hk 34 rfl) rfl rfl (c_X6_lay hC.2.2.2.2.2.2.1 hk) rfl ⟨rfl, rfl, (Nat.le_of_ble_eq_true rfl), (Nat.le_of_ble_eq_true rfl)⟩ (Nat.le_of_ble_eq_true rfl) dX6_oneOf_109 (fun r7 d8 => ?_)
      refine z_aload_n (pc := 112) hC 0 rfl 0 rfl dX6_oneOf_112 ?_
      refine z_iconst (pc := 113) hC (0 : Int32) rfl dX6_oneOf_113 ?_
      refine z_iload_n (pc := 114) hC 1 rfl 1 rfl dX6_oneOf_114 ?_
      refine z_iadd (pc := 115) hC dX6_oneOf_115 ?_
      refine z_cvV (pc := 116) (st := []) hC y_X6_more q1596 [.inl (.int ((0 : Int32) + v1))] rfl (hk 34 rfl) rfl rfl (c_X6_more hC.2.2.2.2.2.2.1 hk) rfl ⟨rfl, rfl, (Nat.le_of_ble_eq_true rfl), (Nat.le_of_ble_eq_true rfl)⟩ (Nat.le_of_ble_eq_true rfl) dX6_oneOf_116 (fun r9 d10 => ?_)
      refine z_aload_n (pc := 119) hC 0 rfl 0 rfl dX6_oneOf_119 ?_
      refine z_iload_n (pc := 120) hC 1 rfl 1 rfl dX6_oneOf_120 ?_
      refine z_cvV (pc := 121) (st := []) hC y_X6_widens q1258 [.inl (.int v1)] rfl (hk 34 rfl) rfl rfl (c_X6_widens hC.2.2.2.2.2.2.1 hk) rfl ⟨rfl, rfl, (Nat.le_of_ble_eq_true rfl), (Nat.le_of_ble_eq_true rfl)⟩ (Nat.le_of_ble_eq_true rfl) dX6_oneOf_121 (fun r11 d12 => ?_)
      exact z_vret (pc := 124) hC rfl dX6_oneOf_124
    · refine z_aload_n (pc := 15) hC 0 rfl 0 rfl dX6_oneOf_15 ?_
      refine z_iload_n (pc := 16) hC 3 rfl 3 rfl dX6_oneOf_16 ?_
      refine z_piV (pc := 17) (st := []) hC y_X6_nextOf q1588 [.inl (.int v3)] rfl (hk 34 rfl) rfl rfl (c_X6_nextOf hC.2.2.2.2.2.2.1 hk) rfl ⟨rfl, rfl, (Nat.le_of_ble_eq_true rfl), (Nat.le_of_ble_eq_true rfl)⟩ (Nat.le_of_ble_eq_true rfl) dX6_oneOf_17 (fun r13 => ?_)
      refine z_istore (pc := 20) (ls1 := fun v => [(4, .inl (.int v)), (0, .inr (k, 34)), (1, .inl (.int v1)), (2, .inl (.int v2)), (3, .inl (.int v3))]) hC 4 (by decide) (fun v => rfl) dX6_oneOf_20 (fun v4_14 => ?_)
      refine z_aload_n (pc := 22) hC 0 rfl 1 rfl dX6_oneOf_22 ?_
      refine z_sipush (pc := 23) hC (576 : Int32) rfl dX6_oneOf_23 ?_
      refine z_iload_n (pc := 26) hC 3 rfl 4 rfl dX6_oneOf_26 ?_
      refine z_iadd (pc := 27) hC dX6_oneOf_27 ?_
      refine z_iload_n (pc := 28) hC 1 rfl 2 rfl dX6_oneOf_28 ?_
      refine z_iconst (pc := 29) hC (1 : Int32) rfl dX6_oneOf_29 ?_
      refine z_iadd (pc := 30) hC dX6_oneOf_30 ?_
      refine z_cvV (pc := 31) (st := []) hC y_X6_lay q1246 [.inl (.int ((576 : Int32) + v3)), .inl (.int (v1 + (1 : Int32)))] rfl (hk 34 rfl) rfl rfl (c_X6_lay hC.2.2.2.2.2.2.1 hk) rfl ⟨rfl, rfl, (Nat.le_of_ble_eq_true rfl), (Nat.le_of_ble_eq_true rfl)⟩ (Nat.le_of_ble_eq_true rfl) dX6_oneOf_31 (fun r15 d16 => ?_)
      refine z_aload_n (pc := 34) hC 0 rfl 1 rfl dX6_oneOf_34 ?_
      refine z_sipush (pc := 35) hC (960 : Int32) rfl dX6_oneOf_35 ?_
      refine z_iload_n (pc := 38) hC 1 rfl 2 rfl dX6_oneOf_38 ?_
      refine z_iadd (pc := 39) hC dX6_oneOf_39 ?_
      refine z_piV (pc := 40) (st := []) hC y_X6_of q1262 [.inl (.int ((960 : Int32) + v1))] rfl (hk 34 rfl) rfl rfl (c_X6_of hC.2.2.2.2.2.2.1 hk) rfl ⟨rfl, rfl, (Nat.le_of_ble_eq_true rfl), (Nat.le_of_ble_eq_true rfl)⟩ (Nat.le_of_ble_eq_true rfl) dX6_oneOf_40 (fun r17 => ?_)
      refine z_iconst (pc := 43) hC (1 : Int32) rfl dX6_oneOf_43 ?_
      refine z_isub (pc := 44) hC dX6_oneOf_44 ?_
      refine z_istore (pc := 45) (ls1 := fun v => [(5, .inl (.int v)), (4, .inl (.int v4_14)), (0, .inr (k, 34)), (1, .inl (.int v1)), (2, .inl (.int v2)), (3, .inl (.int v3))]) hC 5 (by decide) (fun v => rfl) dX6_oneOf_45 (fun v5_18 => ?_)
      refine z_aload_n (pc := 47) hC 0 rfl 2 rfl dX6_oneOf_47 ?_
      refine z_iload (pc := 48) hC 5 0 rfl dX6_oneOf_48 ?_
      refine z_iload_n (pc := 50) hC 3 rfl 5 rfl dX6_oneOf_50 ?_
      refine z_iload_n (pc := 51) hC 1 rfl 3 rfl dX6_oneOf_51 ?_
      refine z_cvV (pc := 52) (st := []) hC y_X6_linked q1266 [.inl (.int v5_18), .inl (.int v3), .inl (.int v1)] rfl (hk 34 rfl) rfl rfl (c_X6_linked hC.2.2.2.2.2.2.1 hk) rfl ⟨rfl, rfl, (Nat.le_of_ble_eq_true rfl), (Nat.le_of_ble_eq_true rfl)⟩ (Nat.le_of_ble_eq_true rfl) dX6_oneOf_52 (fun r19 d20 => ?_)
      refine z_aload_n (pc := 55) hC 0 rfl 2 rfl dX6_oneOf_55 ?_
      refine z_iload_n (pc := 56) hC 3 rfl 5 rfl dX6_oneOf_56 ?_
      refine z_iconst (pc := 57) hC (-1 : Int32) rfl dX6_oneOf_57 ?_
      refine z_iload_n (pc := 58) hC 1 rfl 3 rfl dX6_oneOf_58 ?_
      refine z_cvV (pc := 59) (st := []) hC y_X6_linked q1266 [.inl (.int v3), .inl (.int (-1 : Int32)), .inl (.int v1)] rfl (hk 34 rfl) rfl rfl (c_X6_linked hC.2.2.2.2.2.2.1 hk) rfl ⟨rfl, rfl, (Nat.le_of_ble_eq_true rfl), (Nat.le_of_ble_eq_true rfl)⟩ (Nat.le_of_ble_eq_true rfl) dX6_oneOf_59 (fun r21 d22 => ?_)
      refine z_iload (pc := 62) hC 4 1 rfl dX6_oneOf_62 ?_
      refine z_istore_n (pc := 64) (ls1 := fun v => [(3, .inl (.int v)), (5, .inl (.int v5_18)), (4, .inl (.int v4_14)), (0, .inr (k, 34)), (1, .inl (.int v1)), (2, .inl (.int v2))]) hC 3 rfl (by decide) (fun v => rfl) dX6_oneOf_64 (fun v3_23 => ?_)
      refine z_goto (pc := 65) hC 11 rfl dX6_oneOf_65 ?_
      exact z_sub [3, 4, 5, 0] rfl (ih v1 v2 v3_23 d22)
theorem r_Mo_oneOf {C : Cxt} {G : Geo} {M : Mem} {k : Nat} (hC : Cx C cX6_oneOf 6 "FrameHeirsModel" none rm_X6_oneOf G) (hk : LMo G k) (d : Sl) (a1 : Int32) (a2 : Int32) : Rz C 6 G (setS M k) (poM avV (setS M k)) 0 [(0, .inr (k, 34)), (1, .inl (.int a1)), (2, .inl (.int a2))] [] d (Mo_oneOf d a1 a2) := by
  unfold Mo_oneOf
  refine z_aload_n (pc := 0) hC 0 rfl 0 rfl dX6_oneOf_0 ?_
  refine z_iload_n (pc := 1) hC 2 rfl 2 rfl dX6_oneOf_1 ?_
  refine z_cvV (pc := 2) (st := []) hC y_X6_leaves q1640 [.inl (.int a2)] rfl (hk 34 rfl) rfl rfl (c_X6_leaves hC.2.2.2.2.2.2.1 hk) rfl ⟨rfl, rfl, (Nat.le_of_ble_eq_true rfl), (Nat.le_of_ble_eq_true rfl)⟩ (Nat.le_of_ble_eq_true rfl) dX6_oneOf_2 (fun r24 d25 => ?_)
  refine z_aload_n (pc := 5) hC 0 rfl 0 rfl dX6_oneOf_5 ?_
  refine z_iload_n (pc := 6) hC 2 rfl 2 rfl dX6_oneOf_6 ?_
  refine z_piV (pc := 7) (st := []) hC y_X6_firstOf q1584 [.inl (.int a2)] rfl (hk 34 rfl) rfl rfl (c_X6_firstOf hC.2.2.2.2.2.2.1 hk) rfl ⟨rfl, rfl, (Nat.le_of_ble_eq_true rfl), (Nat.le_of_ble_eq_true rfl)⟩ (Nat.le_of_ble_eq_true rfl) dX6_oneOf_7 (fun r26 => ?_)
  refine z_istore_n (pc := 10) (ls1 := fun v => [(3, .inl (.int v)), (0, .inr (k, 34)), (1, .inl (.int a1)), (2, .inl (.int a2))]) hC 3 rfl (by decide) (fun v => rfl) dX6_oneOf_10 (fun v3_27 => ?_)
  exact z_sub [1, 2, 3, 0] rfl (r_Mo_oneOf_11 hC hk FU a1 a2 v3_27 d25)
theorem c_X6_oneOf {G : Geo} {M : Mem} {k : Nat} (hG : GOk G) (hk : LMo G k) {d : Sl} {a1 : Int32} {a2 : Int32} (l : Launch) (r : Unit) (d1 : Sl) (h : Mo_oneOf d a1 a2 = some (r, d1)) : Mt l yX6_oneOf cX6_oneOf 6 none rm_X6_oneOf G [.inr (k, 34), .inl (.int a1), .inl (.int a2)] ((setS M k) d) (avV r) ((setS M k) d1) :=
  mt_of (mem := (setS M k)) (po := poM avV (setS M k)) (x0 := d) (t := (r, d1)) rfl hG [.inr (k, 34), .inl (.int a1), .inl (.int a2)] (Nat.le_of_ble_eq_true rfl) rfl (fun C hC => r_Mo_oneOf hC hk d a1 a2) h
-- FrameHeirsModel.isSmallLine(II)Z
abbrev rm_X6_isSmallLine : Room := { frames := 1, cells := 0, slots := 0, locals := 21 }
theorem dX6_isSmallLine_0 : decode cX6_isSmallLine 0 = .ok (.bipush 8, 2) := by decide +kernel
theorem dX6_isSmallLine_2 : decode cX6_isSmallLine 2 = .ok (.iload_n 2, 1) := by decide +kernel
theorem dX6_isSmallLine_3 : decode cX6_isSmallLine 3 = .ok (.imul, 1) := by decide +kernel
theorem dX6_isSmallLine_4 : decode cX6_isSmallLine 4 = .ok (.istore_n 3, 1) := by decide +kernel
theorem dX6_isSmallLine_5 : decode cX6_isSmallLine 5 = .ok (.iload_n 3, 1) := by decide +kernel
theorem dX6_isSmallLine_6 : decode cX6_isSmallLine 6 = .ok (.bipush 8, 2) := by decide +kernel
theorem dX6_isSmallLine_8 : decode cX6_isSmallLine 8 = .ok (.iload_n 2, 1) := by decide +kernel
theorem dX6_isSmallLine_9 : decode cX6_isSmallLine 9 = .ok (.imul, 1) := by decide +kernel
theorem dX6_isSmallLine_10 : decode cX6_isSmallLine 10 = .ok (.bipush 8, 2) := by decide +kernel
theorem dX6_isSmallLine_12 : decode cX6_isSmallLine 12 = .ok (.iadd, 1) := by decide +kernel
theorem dX6_isSmallLine_13 : decode cX6_isSmallLine 13 = .ok (.if_icmp .ge 27, 3) := by decide +kernel
theorem dX6_isSmallLine_16 : decode cX6_isSmallLine 16 = .ok (.aload_n 0, 1) := by decide +kernel
theorem dX6_isSmallLine_17 : decode cX6_isSmallLine 17 = .ok (.iconst 0, 1) := by decide +kernel
theorem dX6_isSmallLine_18 : decode cX6_isSmallLine 18 = .ok (.bipush 32, 2) := by decide +kernel
theorem dX6_isSmallLine_20 : decode cX6_isSmallLine 20 = .ok (.iload_n 1, 1) := by decide +kernel
theorem dX6_isSmallLine_21 : decode cX6_isSmallLine 21 = .ok (.imul, 1) := by decide +kernel
theorem dX6_isSmallLine_22 : decode cX6_isSmallLine 22 = .ok (.iadd, 1) := by decide +kernel
theorem dX6_isSmallLine_23 : decode cX6_isSmallLine 23 = .ok (.iload_n 3, 1) := by decide +kernel
theorem dX6_isSmallLine_24 : decode cX6_isSmallLine 24 = .ok (.iadd, 1) := by decide +kernel
theorem dX6_isSmallLine_25 : decode cX6_isSmallLine 25 = .ok (.invokevirtual 189, 3) := by decide +kernel
theorem dX6_isSmallLine_28 : decode cX6_isSmallLine 28 = .ok (.iconst 1, 1) := by decide +kernel
theorem dX6_isSmallLine_29 : decode cX6_isSmallLine 29 = .ok (.if_icmp .le 5, 3) := by decide +kernel
theorem dX6_isSmallLine_32 : decode cX6_isSmallLine 32 = .ok (.iconst 0, 1) := by decide +kernel
theorem dX6_isSmallLine_33 : decode cX6_isSmallLine 33 = .ok (.ireturn, 1) := by decide +kernel
theorem dX6_isSmallLine_34 : decode cX6_isSmallLine 34 = .ok (.iinc 3 1, 3) := by decide +kernel
theorem dX6_isSmallLine_37 : decode cX6_isSmallLine 37 = .ok (.goto (-32), 3) := by decide +kernel
theorem dX6_isSmallLine_40 : decode cX6_isSmallLine 40 = .ok (.iconst 1, 1) := by decide +kernel
theorem dX6_isSmallLine_41 : decode cX6_isSmallLine 41 = .ok (.ireturn, 1) := by decide +kernel
def Mo_isSmallLine_5 (d : Sl) : Nat → Int32 → Int32 → Int32 → Option Int32
  | 0, _, _, _ => none
  | n + 1, v1, v2, v3 =>
    if (((8 : Int32) * v2) + (8 : Int32)) ≤ v3 then
      (some (1 : Int32))
    else
      (bp (Mo_of d (((0 : Int32) + ((32 : Int32) * v1)) + v3)) fun r1 =>
      if r1 ≤ (1 : Int32) then
        (bnd (v3 + (1 : Int32)) fun v3_2 =>
        Mo_isSmallLine_5 d n v1 v2 v3_2)
      else
        (some (0 : Int32)))
def Mo_isSmallLine (d : Sl) (a1 : Int32) (a2 : Int32) : Option Int32 :=
  bnd ((8 : Int32) * a2) fun v3_3 =>
  Mo_isSmallLine_5 d FU a1 a2 v3_3
theorem y_X6_isSmallLine : YV yX6_isSmallLine cX6_isSmallLine 4 (some .boolean) 2 := ⟨q1780, q128, q1781, q149, by decide +kernel, by decide +kernel, by decide +kernel, by decide +kernel⟩
theorem r_Mo_isSmallLine_5 {C : Cxt} {G : Geo} {M : Mem} {k : Nat} {d : Sl} (hC : Cx C cX6_isSmallLine 4 "FrameHeirsModel" (some .boolean) rm_X6_isSmallLine G) (hk : LMo G k) : ∀ (n : Nat) (v1 : Int32) (v2 : Int32) (v3 : Int32), Rz C 4 G (setS M k) (poP avI ((setS M k) d)) 5 [(0, .inr (k, 34)), (1, .inl (.int v1)), (2, .inl (.int v2)), (3, .inl (.int v3))] [] d (Mo_isSmallLine_5 d n v1 v2 v3) := by
  intro n
  induction n with
  | zero => intros; exact z_none
  | succ n ih =>
    intro v1 v2 v3
    rw [Mo_isSmallLine_5]
    refine z_iload_n (pc := 5) hC 3 rfl 3 rfl dX6_isSmallLine_5 ?_
    refine z_bipush (pc := 6) hC (8 : Int32) rfl dX6_isSmallLine_6 ?_
    refine z_iload_n (pc := 8) hC 2 rfl 2 rfl dX6_isSmallLine_8 ?_
    refine z_imul (pc := 9) hC dX6_isSmallLine_9 ?_
    refine z_bipush (pc := 10) hC (8 : Int32) rfl dX6_isSmallLine_10 ?_
    refine z_iadd (pc := 12) hC dX6_isSmallLine_12 ?_
    refine z_icmp_ge (pc := 13) hC 40 rfl dX6_isSmallLine_13 ?_ ?_
    · refine z_iconst (pc := 40) hC (1 : Int32) rfl dX6_isSmallLine_40 ?_
      exact z_zret (pc := 41) hC rfl rfl dX6_isSmallLine_41
    · refine z_aload_n (pc := 16) hC 0 rfl 0 rfl dX6_isSmallLine_16 ?_
      refine z_iconst (pc := 17) hC (0 : Int32) rfl dX6_isSmallLine_17 ?_
      refine z_bipush (pc := 18) hC (32 : Int32) rfl dX6_isSmallLine_18 ?_
      refine z_iload_n (pc := 20) hC 1 rfl 1 rfl dX6_isSmallLine_20 ?_
      refine z_imul (pc := 21) hC dX6_isSmallLine_21 ?_
      refine z_iadd (pc := 22) hC dX6_isSmallLine_22 ?_
      refine z_iload_n (pc := 23) hC 3 rfl 3 rfl dX6_isSmallLine_23 ?_
      refine z_iadd (pc := 24) hC dX6_isSmallLine_24 ?_
      refine z_piV (pc := 25) (st := []) hC y_X6_of q1262 [.inl (.int (((0 : Int32) + ((32 : Int32) * v1)) + v3))] rfl (hk 34 rfl) rfl rfl (c_X6_of hC.2.2.2.2.2.2.1 hk) rfl ⟨rfl, rfl, (Nat.le_of_ble_eq_true rfl), (Nat.le_of_ble_eq_true rfl)⟩ (Nat.le_of_ble_eq_true rfl) dX6_isSmallLine_25 (fun r1 => ?_)
      refine z_iconst (pc := 28) hC (1 : Int32) rfl dX6_isSmallLine_28 ?_
      refine z_icmp_le (pc := 29) hC 34 rfl dX6_isSmallLine_29 ?_ ?_
      · refine z_iinc (pc := 34) (ls1 := fun v => [(3, .inl (.int v)), (0, .inr (k, 34)), (1, .inl (.int v1)), (2, .inl (.int v2))]) hC 3 3 (by decide) (1 : Int32) rfl rfl (fun v => rfl) dX6_isSmallLine_34 (fun v3_2 => ?_)
        refine z_goto (pc := 37) hC 5 rfl dX6_isSmallLine_37 ?_
        exact z_sub [1, 2, 3, 0] rfl (ih v1 v2 v3_2)
      · refine z_iconst (pc := 32) hC (0 : Int32) rfl dX6_isSmallLine_32 ?_
        exact z_zret (pc := 33) hC rfl rfl dX6_isSmallLine_33
theorem r_Mo_isSmallLine {C : Cxt} {G : Geo} {M : Mem} {k : Nat} (hC : Cx C cX6_isSmallLine 4 "FrameHeirsModel" (some .boolean) rm_X6_isSmallLine G) (hk : LMo G k) (d : Sl) (a1 : Int32) (a2 : Int32) : Rz C 4 G (setS M k) (poP avI ((setS M k) d)) 0 [(0, .inr (k, 34)), (1, .inl (.int a1)), (2, .inl (.int a2))] [] d (Mo_isSmallLine d a1 a2) := by
  unfold Mo_isSmallLine
  refine z_bipush (pc := 0) hC (8 : Int32) rfl dX6_isSmallLine_0 ?_
  refine z_iload_n (pc := 2) hC 2 rfl 2 rfl dX6_isSmallLine_2 ?_
  refine z_imul (pc := 3) hC dX6_isSmallLine_3 ?_
  refine z_istore_n (pc := 4) (ls1 := fun v => [(3, .inl (.int v)), (0, .inr (k, 34)), (1, .inl (.int a1)), (2, .inl (.int a2))]) hC 3 rfl (by decide) (fun v => rfl) dX6_isSmallLine_4 (fun v3_3 => ?_)
  exact z_sub [1, 2, 3, 0] rfl (r_Mo_isSmallLine_5 hC hk FU a1 a2 v3_3)
theorem c_X6_isSmallLine {G : Geo} {M : Mem} {k : Nat} (hG : GOk G) (hk : LMo G k) {d : Sl} {a1 : Int32} {a2 : Int32} (l : Launch) (r : Int32) (h : Mo_isSmallLine d a1 a2 = some r) : Mt l yX6_isSmallLine cX6_isSmallLine 4 (some .boolean) rm_X6_isSmallLine G [.inr (k, 34), .inl (.int a1), .inl (.int a2)] ((setS M k) d) (avI r) ((setS M k) d) :=
  mt_of (mem := (setS M k)) (po := poP avI ((setS M k) d)) (x0 := d) (t := r) rfl hG [.inr (k, 34), .inl (.int a1), .inl (.int a2)] (Nat.le_of_ble_eq_true rfl) rfl (fun C hC => r_Mo_isSmallLine hC hk d a1 a2) h
-- FrameHeirsModel.tidies(I)I
abbrev rm_X6_tidies : Room := { frames := 5, cells := 0, slots := 0, locals := 111 }
theorem dX6_tidies_0 : decode cX6_tidies 0 = .ok (.iconst 0, 1) := by decide +kernel
theorem dX6_tidies_1 : decode cX6_tidies 1 = .ok (.istore_n 2, 1) := by decide +kernel
theorem dX6_tidies_2 : decode cX6_tidies 2 = .ok (.aload_n 0, 1) := by decide +kernel
theorem dX6_tidies_3 : decode cX6_tidies 3 = .ok (.iload_n 1, 1) := by decide +kernel
theorem dX6_tidies_4 : decode cX6_tidies 4 = .ok (.invokevirtual 421, 3) := by decide +kernel
theorem dX6_tidies_7 : decode cX6_tidies 7 = .ok (.istore_n 3, 1) := by decide +kernel
theorem dX6_tidies_8 : decode cX6_tidies 8 = .ok (.iload_n 3, 1) := by decide +kernel
theorem dX6_tidies_9 : decode cX6_tidies 9 = .ok (.ifCond .lt 27, 3) := by decide +kernel
theorem dX6_tidies_12 : decode cX6_tidies 12 = .ok (.aload_n 0, 1) := by decide +kernel
theorem dX6_tidies_13 : decode cX6_tidies 13 = .ok (.iload_n 3, 1) := by decide +kernel
theorem dX6_tidies_14 : decode cX6_tidies 14 = .ok (.iload_n 3, 1) := by decide +kernel
theorem dX6_tidies_15 : decode cX6_tidies 15 = .ok (.aload_n 0, 1) := by decide +kernel
theorem dX6_tidies_16 : decode cX6_tidies 16 = .ok (.iload_n 3, 1) := by decide +kernel
theorem dX6_tidies_17 : decode cX6_tidies 17 = .ok (.invokevirtual 258, 3) := by decide +kernel
theorem dX6_tidies_20 : decode cX6_tidies 20 = .ok (.iadd, 1) := by decide +kernel
theorem dX6_tidies_21 : decode cX6_tidies 21 = .ok (.invokevirtual 424, 3) := by decide +kernel
theorem dX6_tidies_24 : decode cX6_tidies 24 = .ok (.iinc 2 1, 3) := by decide +kernel
theorem dX6_tidies_27 : decode cX6_tidies 27 = .ok (.aload_n 0, 1) := by decide +kernel
theorem dX6_tidies_28 : decode cX6_tidies 28 = .ok (.iload_n 1, 1) := by decide +kernel
theorem dX6_tidies_29 : decode cX6_tidies 29 = .ok (.invokevirtual 421, 3) := by decide +kernel
theorem dX6_tidies_32 : decode cX6_tidies 32 = .ok (.istore_n 3, 1) := by decide +kernel
theorem dX6_tidies_33 : decode cX6_tidies 33 = .ok (.goto (-25), 3) := by decide +kernel
theorem dX6_tidies_36 : decode cX6_tidies 36 = .ok (.iconst 0, 1) := by decide +kernel
theorem dX6_tidies_37 : decode cX6_tidies 37 = .ok (.istore 4, 2) := by decide +kernel
theorem dX6_tidies_39 : decode cX6_tidies 39 = .ok (.iload 4, 2) := by decide +kernel
theorem dX6_tidies_41 : decode cX6_tidies 41 = .ok (.iconst 4, 1) := by decide +kernel
theorem dX6_tidies_42 : decode cX6_tidies 42 = .ok (.if_icmp .ge 34, 3) := by decide +kernel
theorem dX6_tidies_45 : decode cX6_tidies 45 = .ok (.aload_n 0, 1) := by decide +kernel
theorem dX6_tidies_46 : decode cX6_tidies 46 = .ok (.iload_n 1, 1) := by decide +kernel
theorem dX6_tidies_47 : decode cX6_tidies 47 = .ok (.iload 4, 2) := by decide +kernel
theorem dX6_tidies_49 : decode cX6_tidies 49 = .ok (.invokevirtual 427, 3) := by decide +kernel
theorem dX6_tidies_52 : decode cX6_tidies 52 = .ok (.ifCond .eq 18, 3) := by decide +kernel
theorem dX6_tidies_55 : decode cX6_tidies 55 = .ok (.aload_n 0, 1) := by decide +kernel
theorem dX6_tidies_56 : decode cX6_tidies 56 = .ok (.sipush 1920, 3) := by decide +kernel
theorem dX6_tidies_59 : decode cX6_tidies 59 = .ok (.iconst 4, 1) := by decide +kernel
theorem dX6_tidies_60 : decode cX6_tidies 60 = .ok (.iload_n 1, 1) := by decide +kernel
theorem dX6_tidies_61 : decode cX6_tidies 61 = .ok (.imul, 1) := by decide +kernel
theorem dX6_tidies_62 : decode cX6_tidies 62 = .ok (.iadd, 1) := by decide +kernel
theorem dX6_tidies_63 : decode cX6_tidies 63 = .ok (.iload 4, 2) := by decide +kernel
theorem dX6_tidies_65 : decode cX6_tidies 65 = .ok (.iadd, 1) := by decide +kernel
theorem dX6_tidies_66 : decode cX6_tidies 66 = .ok (.iconst 0, 1) := by decide +kernel
theorem dX6_tidies_67 : decode cX6_tidies 67 = .ok (.invokevirtual 122, 3) := by decide +kernel
theorem dX6_tidies_70 : decode cX6_tidies 70 = .ok (.iinc 4 1, 3) := by decide +kernel
theorem dX6_tidies_73 : decode cX6_tidies 73 = .ok (.goto (-34), 3) := by decide +kernel
theorem dX6_tidies_76 : decode cX6_tidies 76 = .ok (.iload_n 2, 1) := by decide +kernel
theorem dX6_tidies_77 : decode cX6_tidies 77 = .ok (.ireturn, 1) := by decide +kernel
def Mo_tidies_70 (k39 : Int32 → Int32 → Int32 → Sl → Option (Int32 × Sl)) (v1 : Int32) (v2 : Int32) (v4 : Int32) (d : Sl) : Option (Int32 × Sl) :=
  bnd (v4 + (1 : Int32)) fun v4_1 =>
  k39 v1 v2 v4_1 d
def Mo_tidies_39 : Nat → Int32 → Int32 → Int32 → Sl → Option (Int32 × Sl)
  | 0, _, _, _, _ => none
  | n + 1, v1, v2, v4, d =>
    if (4 : Int32) ≤ v4 then
      (some (v2, d))
    else
      (bp (Mo_isSmallLine d v1 v4) fun r2 =>
      if r2 = 0 then
        (Mo_tidies_70 (Mo_tidies_39 n) v1 v2 v4 d)
      else
        (bd (Mo_lay d (((1920 : Int32) + ((4 : Int32) * v1)) + v4) (0 : Int32)) fun r3 d4 =>
        Mo_tidies_70 (Mo_tidies_39 n) v1 v2 v4 d4))
def Mo_tidies_8 : Nat → Int32 → Int32 → Int32 → Sl → Option (Int32 × Sl)
  | 0, _, _, _, _ => none
  | n + 1, v1, v2, v3, d =>
    if v3 < 0 then
      (bnd (0 : Int32) fun v4_5 =>
      Mo_tidies_39 FU v1 v2 v4_5 d)
    else
      (bp (Mo_pagesOf d v3) fun r6 =>
      bd (Mo_oneOf d v3 (v3 + r6)) fun r7 d8 =>
      bnd (v2 + (1 : Int32)) fun v2_9 =>
      bp (Mo_pairIn d8 v1) fun r10 =>
      bnd r10 fun v3_11 =>
      Mo_tidies_8 n v1 v2_9 v3_11 d8)
def Mo_tidies (d : Sl) (a1 : Int32) : Option (Int32 × Sl) :=
  bnd (0 : Int32) fun v2_12 =>
  bp (Mo_pairIn d a1) fun r13 =>
  bnd r13 fun v3_14 =>
  Mo_tidies_8 FU a1 v2_12 v3_14 d
theorem y_X6_tidies : YV yX6_tidies cX6_tidies 5 (some .int) 1 := ⟨q1763, q124, q1764, q149, by decide +kernel, by decide +kernel, by decide +kernel, by decide +kernel⟩
theorem r_Mo_tidies_70 {C : Cxt} {G : Geo} {M : Mem} {k : Nat} (hC : Cx C cX6_tidies 5 "FrameHeirsModel" (some .int) rm_X6_tidies G) (hk : LMo G k) (k39 : Int32 → Int32 → Int32 → Sl → Option (Int32 × Sl)) (h39 : ∀ (v1 : Int32) (v2 : Int32) (v4 : Int32) (d : Sl), Rz C 5 G (setS M k) (poM avI (setS M k)) 39 [(0, .inr (k, 34)), (1, .inl (.int v1)), (2, .inl (.int v2)), (4, .inl (.int v4))] [] d (k39 v1 v2 v4 d)) (v1 : Int32) (v2 : Int32) (v4 : Int32) (d : Sl) : Rz C 5 G (setS M k) (poM avI (setS M k)) 70 [(0, .inr (k, 34)), (1, .inl (.int v1)), (2, .inl (.int v2)), (4, .inl (.int v4))] [] d (Mo_tidies_70 k39 v1 v2 v4 d) := by
  unfold Mo_tidies_70
  refine z_iinc (pc := 70) (ls1 := fun v => [(4, .inl (.int v)), (0, .inr (k, 34)), (1, .inl (.int v1)), (2, .inl (.int v2))]) hC 4 3 (by decide) (1 : Int32) rfl rfl (fun v => rfl) dX6_tidies_70 (fun v4_1 => ?_)
  refine z_goto (pc := 73) hC 39 rfl dX6_tidies_73 ?_
  exact z_sub [1, 2, 3, 0] rfl (h39 v1 v2 v4_1 d)
theorem r_Mo_tidies_39 {C : Cxt} {G : Geo} {M : Mem} {k : Nat} (hC : Cx C cX6_tidies 5 "FrameHeirsModel" (some .int) rm_X6_tidies G) (hk : LMo G k) : ∀ (n : Nat) (v1 : Int32) (v2 : Int32) (v4 : Int32) (d : Sl), Rz C 5 G (setS M k) (poM avI (setS M k)) 39 [(0, .inr (k, 34)), (1, .inl (.int v1)), (2, .inl (.int v2)), (4, .inl (.int v4))] [] d (Mo_tidies_39 n v1 v2 v4 d) := by
  intro n
  induction n with
  | zero => intros; exact z_none
  | succ n ih =>
    intro v1 v2 v4 d
    rw [Mo_tidies_39]
    refine z_iload (pc := 39) hC 4 3 rfl dX6_tidies_39 ?_
    refine z_iconst (pc := 41) hC (4 : Int32) rfl dX6_tidies_41 ?_
    refine z_icmp_ge (pc := 42) hC 76 rfl dX6_tidies_42 ?_ ?_
    · refine z_iload_n (pc := 76) hC 2 rfl 2 rfl dX6_tidies_76 ?_
      exact z_iret (pc := 77) hC rfl dX6_tidies_77
    · refine z_aload_n (pc := 45) hC 0 rfl 0 rfl dX6_tidies_45 ?_
      refine z_iload_n (pc := 46) hC 1 rfl 1 rfl dX6_tidies_46 ?_
      refine z_iload (pc := 47) hC 4 3 rfl dX6_tidies_47 ?_
      refine z_piV (pc := 49) (st := []) hC y_X6_isSmallLine q1778 [.inl (.int v1), .inl (.int v4)] rfl (hk 34 rfl) rfl rfl (c_X6_isSmallLine hC.2.2.2.2.2.2.1 hk) rfl ⟨rfl, rfl, (Nat.le_of_ble_eq_true rfl), (Nat.le_of_ble_eq_true rfl)⟩ (Nat.le_of_ble_eq_true rfl) dX6_tidies_49 (fun r2 => ?_)
      refine z_if_eq (pc := 52) hC 70 rfl dX6_tidies_52 ?_ ?_
      · exact z_sub [0, 1, 2, 3] rfl (r_Mo_tidies_70 hC hk _ ih v1 v2 v4 d)
      · refine z_aload_n (pc := 55) hC 0 rfl 0 rfl dX6_tidies_55 ?_
        refine z_sipush (pc := 56) hC (1920 : Int32) rfl dX6_tidies_56 ?_
        refine z_iconst (pc := 59) hC (4 : Int32) rfl dX6_tidies_59 ?_
        refine z_iload_n (pc := 60) hC 1 rfl 1 rfl dX6_tidies_60 ?_
        refine z_imul (pc := 61) hC dX6_tidies_61 ?_
        refine z_iadd (pc := 62) hC dX6_tidies_62 ?_
        refine z_iload (pc := 63) hC 4 3 rfl dX6_tidies_63 ?_
        refine z_iadd (pc := 65) hC dX6_tidies_65 ?_
        refine z_iconst (pc := 66) hC (0 : Int32) rfl dX6_tidies_66 ?_
        refine z_cvV (pc := 67) (st := []) hC y_X6_lay q1246 [.inl (.int (((1920 : Int32) + ((4 : Int32) * v1)) + v4)), .inl (.int (0 : Int32))] rfl (hk 34 rfl) rfl rfl (c_X6_lay hC.2.2.2.2.2.2.1 hk) rfl ⟨rfl, rfl, (Nat.le_of_ble_eq_true rfl), (Nat.le_of_ble_eq_true rfl)⟩ (Nat.le_of_ble_eq_true rfl) dX6_tidies_67 (fun r3 d4 => ?_)
        exact z_sub [0, 1, 2, 3] rfl (r_Mo_tidies_70 hC hk _ ih v1 v2 v4 d4)
theorem r_Mo_tidies_8 {C : Cxt} {G : Geo} {M : Mem} {k : Nat} (hC : Cx C cX6_tidies 5 "FrameHeirsModel" (some .int) rm_X6_tidies G) (hk : LMo G k) : ∀ (n : Nat) (v1 : Int32) (v2 : Int32) (v3 : Int32) (d : Sl), Rz C 5 G (setS M k) (poM avI (setS M k)) 8 [(0, .inr (k, 34)), (1, .inl (.int v1)), (2, .inl (.int v2)), (3, .inl (.int v3))] [] d (Mo_tidies_8 n v1 v2 v3 d) := by
  intro n
  induction n with
  | zero => intros; exact z_none
  | succ n ih =>
    intro v1 v2 v3 d
    rw [Mo_tidies_8]
    refine z_iload_n (pc := 8) hC 3 rfl 3 rfl dX6_tidies_8 ?_
    refine z_if_lt (pc := 9) hC 36 rfl dX6_tidies_9 ?_ ?_
    · refine z_iconst (pc := 36) hC (0 : Int32) rfl dX6_tidies_36 ?_
      refine z_istore (pc := 37) (ls1 := fun v => [(4, .inl (.int v)), (0, .inr (k, 34)), (1, .inl (.int v1)), (2, .inl (.int v2)), (3, .inl (.int v3))]) hC 4 (by decide) (fun v => rfl) dX6_tidies_37 (fun v4_5 => ?_)
      exact z_sub [1, 2, 3, 0] rfl (r_Mo_tidies_39 hC hk FU v1 v2 v4_5 d)
    · refine z_aload_n (pc := 12) hC 0 rfl 0 rfl dX6_tidies_12 ?_
      refine z_iload_n (pc := 13) hC 3 rfl 3 rfl dX6_tidies_13 ?_
      refine z_iload_n (pc := 14) hC 3 rfl 3 rfl dX6_tidies_14 ?_
      refine z_aload_n (pc := 15) hC 0 rfl 0 rfl dX6_tidies_15 ?_
      refine z_iload_n (pc := 16) hC 3 rfl 3 rfl dX6_tidies_16 ?_
      refine z_piV (pc := 17) (st := [.inl (.int v3), .inl (.int v3), .inr (k, 34)]) hC y_X6_pagesOf q1540 [.inl (.int v3)] rfl (hk 34 rfl) rfl rfl (c_X6_pagesOf hC.2.2.2.2.2.2.1 hk) rfl ⟨rfl, rfl, (Nat.le_of_ble_eq_true rfl), (Nat.le_of_ble_eq_true rfl)⟩ (Nat.le_of_ble_eq_true rfl) dX6_tidies_17 (fun r6 => ?_)
      refine z_iadd (pc := 20) hC dX6_tidies_20 ?_
      refine z_cvV (pc := 21) (st := []) hC y_X6_oneOf q1773 [.inl (.int v3), .inl (.int (v3 + r6))] rfl (hk 34 rfl) rfl rfl (c_X6_oneOf hC.2.2.2.2.2.2.1 hk) rfl ⟨rfl, rfl, (Nat.le_of_ble_eq_true rfl), (Nat.le_of_ble_eq_true rfl)⟩ (Nat.le_of_ble_eq_true rfl) dX6_tidies_21 (fun r7 d8 => ?_)
      refine z_iinc (pc := 24) (ls1 := fun v => [(2, .inl (.int v)), (0, .inr (k, 34)), (1, .inl (.int v1)), (3, .inl (.int v3))]) hC 2 2 (by decide) (1 : Int32) rfl rfl (fun v => rfl) dX6_tidies_24 (fun v2_9 => ?_)
      refine z_aload_n (pc := 27) hC 0 rfl 1 rfl dX6_tidies_27 ?_
      refine z_iload_n (pc := 28) hC 1 rfl 2 rfl dX6_tidies_28 ?_
      refine z_piV (pc := 29) (st := []) hC y_X6_pairIn q1765 [.inl (.int v1)] rfl (hk 34 rfl) rfl rfl (c_X6_pairIn hC.2.2.2.2.2.2.1 hk) rfl ⟨rfl, rfl, (Nat.le_of_ble_eq_true rfl), (Nat.le_of_ble_eq_true rfl)⟩ (Nat.le_of_ble_eq_true rfl) dX6_tidies_29 (fun r10 => ?_)
      refine z_istore_n (pc := 32) (ls1 := fun v => [(3, .inl (.int v)), (2, .inl (.int v2_9)), (0, .inr (k, 34)), (1, .inl (.int v1))]) hC 3 rfl (by decide) (fun v => rfl) dX6_tidies_32 (fun v3_11 => ?_)
      refine z_goto (pc := 33) hC 8 rfl dX6_tidies_33 ?_
      exact z_sub [2, 3, 1, 0] rfl (ih v1 v2_9 v3_11 d8)
theorem r_Mo_tidies {C : Cxt} {G : Geo} {M : Mem} {k : Nat} (hC : Cx C cX6_tidies 5 "FrameHeirsModel" (some .int) rm_X6_tidies G) (hk : LMo G k) (d : Sl) (a1 : Int32) : Rz C 5 G (setS M k) (poM avI (setS M k)) 0 [(0, .inr (k, 34)), (1, .inl (.int a1))] [] d (Mo_tidies d a1) := by
  unfold Mo_tidies
  refine z_iconst (pc := 0) hC (0 : Int32) rfl dX6_tidies_0 ?_
  refine z_istore_n (pc := 1) (ls1 := fun v => [(2, .inl (.int v)), (0, .inr (k, 34)), (1, .inl (.int a1))]) hC 2 rfl (by decide) (fun v => rfl) dX6_tidies_1 (fun v2_12 => ?_)
  refine z_aload_n (pc := 2) hC 0 rfl 1 rfl dX6_tidies_2 ?_
  refine z_iload_n (pc := 3) hC 1 rfl 2 rfl dX6_tidies_3 ?_
  refine z_piV (pc := 4) (st := []) hC y_X6_pairIn q1765 [.inl (.int a1)] rfl (hk 34 rfl) rfl rfl (c_X6_pairIn hC.2.2.2.2.2.2.1 hk) rfl ⟨rfl, rfl, (Nat.le_of_ble_eq_true rfl), (Nat.le_of_ble_eq_true rfl)⟩ (Nat.le_of_ble_eq_true rfl) dX6_tidies_4 (fun r13 => ?_)
  refine z_istore_n (pc := 7) (ls1 := fun v => [(3, .inl (.int v)), (2, .inl (.int v2_12)), (0, .inr (k, 34)), (1, .inl (.int a1))]) hC 3 rfl (by decide) (fun v => rfl) dX6_tidies_7 (fun v3_14 => ?_)
  exact z_sub [2, 3, 1, 0] rfl (r_Mo_tidies_8 hC hk FU a1 v2_12 v3_14 d)
theorem c_X6_tidies {G : Geo} {M : Mem} {k : Nat} (hG : GOk G) (hk : LMo G k) {d : Sl} {a1 : Int32} (l : Launch) (r : Int32) (d1 : Sl) (h : Mo_tidies d a1 = some (r, d1)) : Mt l yX6_tidies cX6_tidies 5 (some .int) rm_X6_tidies G [.inr (k, 34), .inl (.int a1)] ((setS M k) d) (avI r) ((setS M k) d1) :=
  mt_of (mem := (setS M k)) (po := poM avI (setS M k)) (x0 := d) (t := (r, d1)) rfl hG [.inr (k, 34), .inl (.int a1)] (Nat.le_of_ble_eq_true rfl) rfl (fun C hC => r_Mo_tidies hC hk d a1) h
-- FrameHeirsModel.tidy(I)I
abbrev rm_X6_tidy : Room := { frames := 6, cells := 0, slots := 0, locals := 135 }
theorem dX6_tidy_0 : decode cX6_tidy 0 = .ok (.aload_n 0, 1) := by decide +kernel
theorem dX6_tidy_1 : decode cX6_tidy 1 = .ok (.iconst 0, 1) := by decide +kernel
theorem dX6_tidy_2 : decode cX6_tidy 2 = .ok (.putfield 61, 3) := by decide +kernel
theorem dX6_tidy_5 : decode cX6_tidy 5 = .ok (.aload_n 0, 1) := by decide +kernel
theorem dX6_tidy_6 : decode cX6_tidy 6 = .ok (.iload_n 1, 1) := by decide +kernel
theorem dX6_tidy_7 : decode cX6_tidy 7 = .ok (.invokevirtual 264, 3) := by decide +kernel
theorem dX6_tidy_10 : decode cX6_tidy 10 = .ok (.ifCond .ne 5, 3) := by decide +kernel
theorem dX6_tidy_13 : decode cX6_tidy 13 = .ok (.iconst (-1), 1) := by decide +kernel
theorem dX6_tidy_14 : decode cX6_tidy 14 = .ok (.ireturn, 1) := by decide +kernel
theorem dX6_tidy_15 : decode cX6_tidy 15 = .ok (.aload_n 0, 1) := by decide +kernel
theorem dX6_tidy_16 : decode cX6_tidy 16 = .ok (.invokevirtual 289, 3) := by decide +kernel
theorem dX6_tidy_19 : decode cX6_tidy 19 = .ok (.aload_n 0, 1) := by decide +kernel
theorem dX6_tidy_20 : decode cX6_tidy 20 = .ok (.iload_n 1, 1) := by decide +kernel
theorem dX6_tidy_21 : decode cX6_tidy 21 = .ok (.invokevirtual 430, 3) := by decide +kernel
theorem dX6_tidy_24 : decode cX6_tidy 24 = .ok (.ireturn, 1) := by decide +kernel
def Mo_tidy (d : Sl) (a1 : Int32) : Option (Int32 × Sl) :=
  bnd (wr d 34 2 (0 : Int32)) fun d1 =>
  bp (Mo_isSpace d1 a1) fun r2 =>
  if r2 = 0 then
    (some ((-1 : Int32), d1))
  else
    (bd (Mo_canUndo d1) fun r3 d4 =>
    bd (Mo_tidies d4 a1) fun r5 d6 =>
    some (r5, d6))
theorem y_X6_tidy : YV yX6_tidy cX6_tidy 2 (some .int) 1 := ⟨q1758, q1759, q1760, q149, by decide +kernel, by decide +kernel, by decide +kernel, by decide +kernel⟩
theorem r_Mo_tidy {C : Cxt} {G : Geo} {M : Mem} {k : Nat} (hC : Cx C cX6_tidy 2 "FrameHeirsModel" (some .int) rm_X6_tidy G) (hk : LMo G k) (d : Sl) (a1 : Int32) : Rz C 2 G (setS M k) (poM avI (setS M k)) 0 [(0, .inr (k, 34)), (1, .inl (.int a1))] [] d (Mo_tidy d a1) := by
  unfold Mo_tidy
  refine z_aload_n (pc := 0) hC 0 rfl 0 rfl dX6_tidy_0 ?_
  refine z_iconst (pc := 1) hC (0 : Int32) rfl dX6_tidy_1 ?_
  refine zs_puti (pc := 2) hC (hk 34 rfl) f_34_2 q1272 dX6_tidy_2 (fun d1 => ?_)
  refine z_aload_n (pc := 5) hC 0 rfl 0 rfl dX6_tidy_5 ?_
  refine z_iload_n (pc := 6) hC 1 rfl 1 rfl dX6_tidy_6 ?_
  refine z_piV (pc := 7) (st := []) hC y_X6_isSpace q1484 [.inl (.int a1)] rfl (hk 34 rfl) rfl rfl (c_X6_isSpace hC.2.2.2.2.2.2.1 hk) rfl ⟨rfl, rfl, (Nat.le_of_ble_eq_true rfl), (Nat.le_of_ble_eq_true rfl)⟩ (Nat.le_of_ble_eq_true rfl) dX6_tidy_7 (fun r2 => ?_)
  refine z_if_ne (pc := 10) hC 15 rfl dX6_tidy_10 ?_ ?_
  · refine z_aload_n (pc := 15) hC 0 rfl 0 rfl dX6_tidy_15 ?_
    refine z_cvV (pc := 16) (st := []) hC y_X6_canUndo q1500 [] rfl (hk 34 rfl) rfl rfl (c_X6_canUndo hC.2.2.2.2.2.2.1 hk) rfl ⟨rfl, rfl, (Nat.le_of_ble_eq_true rfl), (Nat.le_of_ble_eq_true rfl)⟩ (Nat.le_of_ble_eq_true rfl) dX6_tidy_16 (fun r3 d4 => ?_)
    refine z_aload_n (pc := 19) hC 0 rfl 0 rfl dX6_tidy_19 ?_
    refine z_iload_n (pc := 20) hC 1 rfl 1 rfl dX6_tidy_20 ?_
    refine z_ciV (pc := 21) (st := []) hC y_X6_tidies q1761 [.inl (.int a1)] rfl (hk 34 rfl) rfl rfl (c_X6_tidies hC.2.2.2.2.2.2.1 hk) rfl ⟨rfl, rfl, (Nat.le_of_ble_eq_true rfl), (Nat.le_of_ble_eq_true rfl)⟩ (Nat.le_of_ble_eq_true rfl) dX6_tidy_21 (fun r5 d6 => ?_)
    exact z_iret (pc := 24) hC rfl dX6_tidy_24
  · refine z_iconst (pc := 13) hC (-1 : Int32) rfl dX6_tidy_13 ?_
    exact z_iret (pc := 14) hC rfl dX6_tidy_14
theorem c_X6_tidy {G : Geo} {M : Mem} {k : Nat} (hG : GOk G) (hk : LMo G k) {d : Sl} {a1 : Int32} (l : Launch) (r : Int32) (d1 : Sl) (h : Mo_tidy d a1 = some (r, d1)) : Mt l yX6_tidy cX6_tidy 2 (some .int) rm_X6_tidy G [.inr (k, 34), .inl (.int a1)] ((setS M k) d) (avI r) ((setS M k) d1) :=
  mt_of (mem := (setS M k)) (po := poM avI (setS M k)) (x0 := d) (t := (r, d1)) rfl hG [.inr (k, 34), .inl (.int a1)] (Nat.le_of_ble_eq_true rfl) rfl (fun C hC => r_Mo_tidy hC hk d a1) h
-- FrameHeirsModel.stepDone(I)I
abbrev rm_X6_stepDone : Room := { frames := 7, cells := 0, slots := 0, locals := 181 }
theorem dX6_stepDone_0 : decode cX6_stepDone 0 = .ok (.bipush 6, 2) := by decide +kernel
theorem dX6_stepDone_2 : decode cX6_stepDone 2 = .ok (.iload_n 1, 1) := by decide +kernel
theorem dX6_stepDone_3 : decode cX6_stepDone 3 = .ok (.imul, 1) := by decide +kernel
theorem dX6_stepDone_4 : decode cX6_stepDone 4 = .ok (.istore_n 2, 1) := by decide +kernel
theorem dX6_stepDone_5 : decode cX6_stepDone 5 = .ok (.aload_n 0, 1) := by decide +kernel
theorem dX6_stepDone_6 : decode cX6_stepDone 6 = .ok (.getfield 42, 3) := by decide +kernel
theorem dX6_stepDone_9 : decode cX6_stepDone 9 = .ok (.iload_n 2, 1) := by decide +kernel
theorem dX6_stepDone_10 : decode cX6_stepDone 10 = .ok (.iaload, 1) := by decide +kernel
theorem dX6_stepDone_11 : decode cX6_stepDone 11 = .ok (.istore_n 3, 1) := by decide +kernel
theorem dX6_stepDone_12 : decode cX6_stepDone 12 = .ok (.aload_n 0, 1) := by decide +kernel
theorem dX6_stepDone_13 : decode cX6_stepDone 13 = .ok (.getfield 42, 3) := by decide +kernel
theorem dX6_stepDone_16 : decode cX6_stepDone 16 = .ok (.iload_n 2, 1) := by decide +kernel
theorem dX6_stepDone_17 : decode cX6_stepDone 17 = .ok (.iconst 1, 1) := by decide +kernel
theorem dX6_stepDone_18 : decode cX6_stepDone 18 = .ok (.iadd, 1) := by decide +kernel
theorem dX6_stepDone_19 : decode cX6_stepDone 19 = .ok (.iaload, 1) := by decide +kernel
theorem dX6_stepDone_20 : decode cX6_stepDone 20 = .ok (.istore 4, 2) := by decide +kernel
theorem dX6_stepDone_22 : decode cX6_stepDone 22 = .ok (.aload_n 0, 1) := by decide +kernel
theorem dX6_stepDone_23 : decode cX6_stepDone 23 = .ok (.getfield 42, 3) := by decide +kernel
theorem dX6_stepDone_26 : decode cX6_stepDone 26 = .ok (.iload_n 2, 1) := by decide +kernel
theorem dX6_stepDone_27 : decode cX6_stepDone 27 = .ok (.iconst 2, 1) := by decide +kernel
theorem dX6_stepDone_28 : decode cX6_stepDone 28 = .ok (.iadd, 1) := by decide +kernel
theorem dX6_stepDone_29 : decode cX6_stepDone 29 = .ok (.iaload, 1) := by decide +kernel
theorem dX6_stepDone_30 : decode cX6_stepDone 30 = .ok (.istore 5, 2) := by decide +kernel
theorem dX6_stepDone_32 : decode cX6_stepDone 32 = .ok (.aload_n 0, 1) := by decide +kernel
theorem dX6_stepDone_33 : decode cX6_stepDone 33 = .ok (.getfield 42, 3) := by decide +kernel
theorem dX6_stepDone_36 : decode cX6_stepDone 36 = .ok (.iload_n 2, 1) := by decide +kernel
theorem dX6_stepDone_37 : decode cX6_stepDone 37 = .ok (.iconst 3, 1) := by decide +kernel
theorem dX6_stepDone_38 : decode cX6_stepDone 38 = .ok (.iadd, 1) := by decide +kernel
theorem dX6_stepDone_39 : decode cX6_stepDone 39 = .ok (.iaload, 1) := by decide +kernel
theorem dX6_stepDone_40 : decode cX6_stepDone 40 = .ok (.istore 6, 2) := by decide +kernel
theorem dX6_stepDone_42 : decode cX6_stepDone 42 = .ok (.aload_n 0, 1) := by decide +kernel
theorem dX6_stepDone_43 : decode cX6_stepDone 43 = .ok (.getfield 42, 3) := by decide +kernel
theorem dX6_stepDone_46 : decode cX6_stepDone 46 = .ok (.iload_n 2, 1) := by decide +kernel
theorem dX6_stepDone_47 : decode cX6_stepDone 47 = .ok (.iconst 4, 1) := by decide +kernel
theorem dX6_stepDone_48 : decode cX6_stepDone 48 = .ok (.iadd, 1) := by decide +kernel
theorem dX6_stepDone_49 : decode cX6_stepDone 49 = .ok (.iaload, 1) := by decide +kernel
theorem dX6_stepDone_50 : decode cX6_stepDone 50 = .ok (.istore 7, 2) := by decide +kernel
theorem dX6_stepDone_52 : decode cX6_stepDone 52 = .ok (.aload_n 0, 1) := by decide +kernel
theorem dX6_stepDone_53 : decode cX6_stepDone 53 = .ok (.getfield 39, 3) := by decide +kernel
theorem dX6_stepDone_56 : decode cX6_stepDone 56 = .ok (.iload_n 1, 1) := by decide +kernel
theorem dX6_stepDone_57 : decode cX6_stepDone 57 = .ok (.iaload, 1) := by decide +kernel
theorem dX6_stepDone_58 : decode cX6_stepDone 58 = .ok (.tableswitch 188 7 10 #[30, 78, 118, 162], 30) := by decide +kernel
theorem dX6_stepDone_88 : decode cX6_stepDone 88 = .ok (.aload_n 0, 1) := by decide +kernel
theorem dX6_stepDone_89 : decode cX6_stepDone 89 = .ok (.iload_n 3, 1) := by decide +kernel
theorem dX6_stepDone_90 : decode cX6_stepDone 90 = .ok (.iconst 4, 1) := by decide +kernel
theorem dX6_stepDone_91 : decode cX6_stepDone 91 = .ok (.iload 4, 2) := by decide +kernel
theorem dX6_stepDone_93 : decode cX6_stepDone 93 = .ok (.imul, 1) := by decide +kernel
theorem dX6_stepDone_94 : decode cX6_stepDone 94 = .ok (.iload 7, 2) := by decide +kernel
theorem dX6_stepDone_96 : decode cX6_stepDone 96 = .ok (.iadd, 1) := by decide +kernel
theorem dX6_stepDone_97 : decode cX6_stepDone 97 = .ok (.iload 5, 2) := by decide +kernel
theorem dX6_stepDone_99 : decode cX6_stepDone 99 = .ok (.iload 6, 2) := by decide +kernel
theorem dX6_stepDone_101 : decode cX6_stepDone 101 = .ok (.invokevirtual 285, 3) := by decide +kernel
theorem dX6_stepDone_104 : decode cX6_stepDone 104 = .ok (.ifCond .eq 30, 3) := by decide +kernel
theorem dX6_stepDone_107 : decode cX6_stepDone 107 = .ok (.aload_n 0, 1) := by decide +kernel
theorem dX6_stepDone_108 : decode cX6_stepDone 108 = .ok (.iload_n 3, 1) := by decide +kernel
theorem dX6_stepDone_109 : decode cX6_stepDone 109 = .ok (.iconst 4, 1) := by decide +kernel
theorem dX6_stepDone_110 : decode cX6_stepDone 110 = .ok (.iload 4, 2) := by decide +kernel
theorem dX6_stepDone_112 : decode cX6_stepDone 112 = .ok (.imul, 1) := by decide +kernel
theorem dX6_stepDone_113 : decode cX6_stepDone 113 = .ok (.iload 7, 2) := by decide +kernel
theorem dX6_stepDone_115 : decode cX6_stepDone 115 = .ok (.iadd, 1) := by decide +kernel
theorem dX6_stepDone_116 : decode cX6_stepDone 116 = .ok (.iload 5, 2) := by decide +kernel
theorem dX6_stepDone_118 : decode cX6_stepDone 118 = .ok (.iload 6, 2) := by decide +kernel
theorem dX6_stepDone_120 : decode cX6_stepDone 120 = .ok (.aload_n 0, 1) := by decide +kernel
theorem dX6_stepDone_121 : decode cX6_stepDone 121 = .ok (.getfield 42, 3) := by decide +kernel
theorem dX6_stepDone_124 : decode cX6_stepDone 124 = .ok (.iload_n 2, 1) := by decide +kernel
theorem dX6_stepDone_125 : decode cX6_stepDone 125 = .ok (.iconst 5, 1) := by decide +kernel
theorem dX6_stepDone_126 : decode cX6_stepDone 126 = .ok (.iadd, 1) := by decide +kernel
theorem dX6_stepDone_127 : decode cX6_stepDone 127 = .ok (.iaload, 1) := by decide +kernel
theorem dX6_stepDone_128 : decode cX6_stepDone 128 = .ok (.invokevirtual 292, 3) := by decide +kernel
theorem dX6_stepDone_131 : decode cX6_stepDone 131 = .ok (.goto 4, 3) := by decide +kernel
theorem dX6_stepDone_134 : decode cX6_stepDone 134 = .ok (.iconst (-1), 1) := by decide +kernel
theorem dX6_stepDone_135 : decode cX6_stepDone 135 = .ok (.ireturn, 1) := by decide +kernel
theorem dX6_stepDone_136 : decode cX6_stepDone 136 = .ok (.aload_n 0, 1) := by decide +kernel
theorem dX6_stepDone_137 : decode cX6_stepDone 137 = .ok (.iload_n 3, 1) := by decide +kernel
theorem dX6_stepDone_138 : decode cX6_stepDone 138 = .ok (.iconst 4, 1) := by decide +kernel
theorem dX6_stepDone_139 : decode cX6_stepDone 139 = .ok (.iload 4, 2) := by decide +kernel
theorem dX6_stepDone_141 : decode cX6_stepDone 141 = .ok (.imul, 1) := by decide +kernel
theorem dX6_stepDone_142 : decode cX6_stepDone 142 = .ok (.iload 7, 2) := by decide +kernel
theorem dX6_stepDone_144 : decode cX6_stepDone 144 = .ok (.iadd, 1) := by decide +kernel
theorem dX6_stepDone_145 : decode cX6_stepDone 145 = .ok (.iload 5, 2) := by decide +kernel
theorem dX6_stepDone_147 : decode cX6_stepDone 147 = .ok (.iload 6, 2) := by decide +kernel
theorem dX6_stepDone_149 : decode cX6_stepDone 149 = .ok (.invokevirtual 285, 3) := by decide +kernel
theorem dX6_stepDone_152 : decode cX6_stepDone 152 = .ok (.ifCond .eq 22, 3) := by decide +kernel
theorem dX6_stepDone_155 : decode cX6_stepDone 155 = .ok (.aload_n 0, 1) := by decide +kernel
theorem dX6_stepDone_156 : decode cX6_stepDone 156 = .ok (.iload_n 3, 1) := by decide +kernel
theorem dX6_stepDone_157 : decode cX6_stepDone 157 = .ok (.iconst 4, 1) := by decide +kernel
theorem dX6_stepDone_158 : decode cX6_stepDone 158 = .ok (.iload 4, 2) := by decide +kernel
theorem dX6_stepDone_160 : decode cX6_stepDone 160 = .ok (.imul, 1) := by decide +kernel
theorem dX6_stepDone_161 : decode cX6_stepDone 161 = .ok (.iload 7, 2) := by decide +kernel
theorem dX6_stepDone_163 : decode cX6_stepDone 163 = .ok (.iadd, 1) := by decide +kernel
theorem dX6_stepDone_164 : decode cX6_stepDone 164 = .ok (.iload 5, 2) := by decide +kernel
theorem dX6_stepDone_166 : decode cX6_stepDone 166 = .ok (.iload 6, 2) := by decide +kernel
theorem dX6_stepDone_168 : decode cX6_stepDone 168 = .ok (.invokevirtual 305, 3) := by decide +kernel
theorem dX6_stepDone_171 : decode cX6_stepDone 171 = .ok (.goto 4, 3) := by decide +kernel
theorem dX6_stepDone_174 : decode cX6_stepDone 174 = .ok (.iconst (-1), 1) := by decide +kernel
theorem dX6_stepDone_175 : decode cX6_stepDone 175 = .ok (.ireturn, 1) := by decide +kernel
theorem dX6_stepDone_176 : decode cX6_stepDone 176 = .ok (.aload_n 0, 1) := by decide +kernel
theorem dX6_stepDone_177 : decode cX6_stepDone 177 = .ok (.iconst 4, 1) := by decide +kernel
theorem dX6_stepDone_178 : decode cX6_stepDone 178 = .ok (.iload 4, 2) := by decide +kernel
theorem dX6_stepDone_180 : decode cX6_stepDone 180 = .ok (.imul, 1) := by decide +kernel
theorem dX6_stepDone_181 : decode cX6_stepDone 181 = .ok (.iload 5, 2) := by decide +kernel
theorem dX6_stepDone_183 : decode cX6_stepDone 183 = .ok (.iadd, 1) := by decide +kernel
theorem dX6_stepDone_184 : decode cX6_stepDone 184 = .ok (.invokevirtual 267, 3) := by decide +kernel
theorem dX6_stepDone_187 : decode cX6_stepDone 187 = .ok (.ifCond .eq 31, 3) := by decide +kernel
theorem dX6_stepDone_190 : decode cX6_stepDone 190 = .ok (.aload_n 0, 1) := by decide +kernel
theorem dX6_stepDone_191 : decode cX6_stepDone 191 = .ok (.iload_n 3, 1) := by decide +kernel
theorem dX6_stepDone_192 : decode cX6_stepDone 192 = .ok (.iconst 4, 1) := by decide +kernel
theorem dX6_stepDone_193 : decode cX6_stepDone 193 = .ok (.iload 4, 2) := by decide +kernel
theorem dX6_stepDone_195 : decode cX6_stepDone 195 = .ok (.imul, 1) := by decide +kernel
theorem dX6_stepDone_196 : decode cX6_stepDone 196 = .ok (.iload 5, 2) := by decide +kernel
theorem dX6_stepDone_198 : decode cX6_stepDone 198 = .ok (.iadd, 1) := by decide +kernel
theorem dX6_stepDone_199 : decode cX6_stepDone 199 = .ok (.iload 6, 2) := by decide +kernel
theorem dX6_stepDone_201 : decode cX6_stepDone 201 = .ok (.iload 7, 2) := by decide +kernel
theorem dX6_stepDone_203 : decode cX6_stepDone 203 = .ok (.iconst 1, 1) := by decide +kernel
theorem dX6_stepDone_204 : decode cX6_stepDone 204 = .ok (.if_icmp .ne 7, 3) := by decide +kernel
theorem dX6_stepDone_207 : decode cX6_stepDone 207 = .ok (.iconst 1, 1) := by decide +kernel
theorem dX6_stepDone_208 : decode cX6_stepDone 208 = .ok (.goto 4, 3) := by decide +kernel
theorem dX6_stepDone_211 : decode cX6_stepDone 211 = .ok (.iconst 0, 1) := by decide +kernel
theorem dX6_stepDone_212 : decode cX6_stepDone 212 = .ok (.invokevirtual 319, 3) := by decide +kernel
theorem dX6_stepDone_215 : decode cX6_stepDone 215 = .ok (.goto 4, 3) := by decide +kernel
theorem dX6_stepDone_218 : decode cX6_stepDone 218 = .ok (.iconst (-1), 1) := by decide +kernel
theorem dX6_stepDone_219 : decode cX6_stepDone 219 = .ok (.ireturn, 1) := by decide +kernel
theorem dX6_stepDone_220 : decode cX6_stepDone 220 = .ok (.aload_n 0, 1) := by decide +kernel
theorem dX6_stepDone_221 : decode cX6_stepDone 221 = .ok (.iload_n 3, 1) := by decide +kernel
theorem dX6_stepDone_222 : decode cX6_stepDone 222 = .ok (.iload 4, 2) := by decide +kernel
theorem dX6_stepDone_224 : decode cX6_stepDone 224 = .ok (.iload 5, 2) := by decide +kernel
theorem dX6_stepDone_226 : decode cX6_stepDone 226 = .ok (.invokevirtual 389, 3) := by decide +kernel
theorem dX6_stepDone_229 : decode cX6_stepDone 229 = .ok (.ifCond .eq 15, 3) := by decide +kernel
theorem dX6_stepDone_232 : decode cX6_stepDone 232 = .ok (.aload_n 0, 1) := by decide +kernel
theorem dX6_stepDone_233 : decode cX6_stepDone 233 = .ok (.iload_n 3, 1) := by decide +kernel
theorem dX6_stepDone_234 : decode cX6_stepDone 234 = .ok (.iload 4, 2) := by decide +kernel
theorem dX6_stepDone_236 : decode cX6_stepDone 236 = .ok (.iload 5, 2) := by decide +kernel
theorem dX6_stepDone_238 : decode cX6_stepDone 238 = .ok (.invokevirtual 392, 3) := by decide +kernel
theorem dX6_stepDone_241 : decode cX6_stepDone 241 = .ok (.goto 4, 3) := by decide +kernel
theorem dX6_stepDone_244 : decode cX6_stepDone 244 = .ok (.iconst (-1), 1) := by decide +kernel
theorem dX6_stepDone_245 : decode cX6_stepDone 245 = .ok (.ireturn, 1) := by decide +kernel
theorem dX6_stepDone_246 : decode cX6_stepDone 246 = .ok (.aload_n 0, 1) := by decide +kernel
theorem dX6_stepDone_247 : decode cX6_stepDone 247 = .ok (.iload_n 3, 1) := by decide +kernel
theorem dX6_stepDone_248 : decode cX6_stepDone 248 = .ok (.invokevirtual 411, 3) := by decide +kernel
theorem dX6_stepDone_251 : decode cX6_stepDone 251 = .ok (.ireturn, 1) := by decide +kernel
def Mo_stepDone_212 (s0 : Int32) (s1 : Int32) (s2 : Int32) (s3 : Int32) (d : Sl) : Option (Int32 × Sl) :=
  bd (Mo_flushed d s3 s2 s1 s0) fun r1 d2 =>
  some (r1, d2)
def Mo_stepDone (d : Sl) (a1 : Int32) : Option (Int32 × Sl) :=
  bnd ((6 : Int32) * a1) fun v2_3 =>
  if inb v2_3 288 then
  bnd (d 44 (ix v2_3)) fun v3_4 =>
  if inb (v2_3 + (1 : Int32)) 288 then
  bnd (d 44 (ix (v2_3 + (1 : Int32)))) fun v4_5 =>
  if inb (v2_3 + (2 : Int32)) 288 then
  bnd (d 44 (ix (v2_3 + (2 : Int32)))) fun v5_6 =>
  if inb (v2_3 + (3 : Int32)) 288 then
  bnd (d 44 (ix (v2_3 + (3 : Int32)))) fun v6_7 =>
  if inb (v2_3 + (4 : Int32)) 288 then
  bnd (d 44 (ix (v2_3 + (4 : Int32)))) fun v7_8 =>
  if inb a1 48 then
  if (d 43 (ix a1)) = (7 : Int32) then
    (bp (Mo_isPassing d v3_4 (((4 : Int32) * v4_5) + v7_8) v5_6 v6_7) fun r18 =>
    if r18 = 0 then
      (some ((-1 : Int32), d))
    else
      (if inb (v2_3 + (5 : Int32)) 288 then
      bd (Mo_mapped d v3_4 (((4 : Int32) * v4_5) + v7_8) v5_6 v6_7 (d 44 (ix (v2_3 + (5 : Int32))))) fun r19 d20 =>
      some (r19, d20)
      else none))
  else
    (if (d 43 (ix a1)) = (8 : Int32) then
      (bp (Mo_isPassing d v3_4 (((4 : Int32) * v4_5) + v7_8) v5_6 v6_7) fun r15 =>
      if r15 = 0 then
        (some ((-1 : Int32), d))
      else
        (bd (Mo_granted d v3_4 (((4 : Int32) * v4_5) + v7_8) v5_6 v6_7) fun r16 d17 =>
        some (r16, d17)))
    else
      (if (d 43 (ix a1)) = (9 : Int32) then
        (bp (Mo_isRegion d (((4 : Int32) * v4_5) + v5_6)) fun r14 =>
        if r14 = 0 then
          (some ((-1 : Int32), d))
        else
          (if v7_8 = (1 : Int32) then
            (Mo_stepDone_212 (1 : Int32) v6_7 (((4 : Int32) * v4_5) + v5_6) v3_4 d)
          else
            (Mo_stepDone_212 (0 : Int32) v6_7 (((4 : Int32) * v4_5) + v5_6) v3_4 d)))
      else
        (if (d 43 (ix a1)) = (10 : Int32) then
          (bp (Mo_isTouch d v3_4 v4_5 v5_6) fun r11 =>
          if r11 = 0 then
            (some ((-1 : Int32), d))
          else
            (bd (Mo_touched d v3_4 v4_5 v5_6) fun r12 d13 =>
            some (r12, d13)))
        else
          (bd (Mo_served d v3_4) fun r9 d10 =>
          some (r9, d10)))))
  else none
  else none
  else none
  else none
  else none
  else none
theorem y_X6_stepDone : YV yX6_stepDone cX6_stepDone 8 (some .int) 1 := ⟨q1788, q129, q1789, q149, by decide +kernel, by decide +kernel, by decide +kernel, by decide +kernel⟩
theorem r_Mo_stepDone_212 {C : Cxt} {G : Geo} {M : Mem} {k : Nat} (hC : Cx C cX6_stepDone 8 "FrameHeirsModel" (some .int) rm_X6_stepDone G) (hk : LMo G k) (s0 : Int32) (s1 : Int32) (s2 : Int32) (s3 : Int32) (d : Sl) : Rz C 8 G (setS M k) (poM avI (setS M k)) 212 [] [.inl (.int s0), .inl (.int s1), .inl (.int s2), .inl (.int s3), .inr (k, 34)] d (Mo_stepDone_212 s0 s1 s2 s3 d) := by
  unfold Mo_stepDone_212
  refine z_ciV (pc := 212) (st := []) hC y_X6_flushed q1608 [.inl (.int s3), .inl (.int s2), .inl (.int s1), .inl (.int s0)] rfl (hk 34 rfl) rfl rfl (c_X6_flushed hC.2.2.2.2.2.2.1 hk) rfl ⟨rfl, rfl, (Nat.le_of_ble_eq_true rfl), (Nat.le_of_ble_eq_true rfl)⟩ (Nat.le_of_ble_eq_true rfl) dX6_stepDone_212 (fun r1 d2 => ?_)
  refine z_goto (pc := 215) hC 219 rfl dX6_stepDone_215 ?_
  exact z_iret (pc := 219) hC rfl dX6_stepDone_219
theorem r_Mo_stepDone {C : Cxt} {G : Geo} {M : Mem} {k : Nat} (hC : Cx C cX6_stepDone 8 "FrameHeirsModel" (some .int) rm_X6_stepDone G) (hk : LMo G k) (d : Sl) (a1 : Int32) : Rz C 8 G (setS M k) (poM avI (setS M k)) 0 [(0, .inr (k, 34)), (1, .inl (.int a1))] [] d (Mo_stepDone d a1) := by
  unfold Mo_stepDone
  refine z_bipush (pc := 0) hC (6 : Int32) rfl dX6_stepDone_0 ?_
  refine z_iload_n (pc := 2) hC 1 rfl 1 rfl dX6_stepDone_2 ?_
  refine z_imul (pc := 3) hC dX6_stepDone_3 ?_
  refine z_istore_n (pc := 4) (ls1 := fun v => [(2, .inl (.int v)), (0, .inr (k, 34)), (1, .inl (.int a1))]) hC 2 rfl (by decide) (fun v => rfl) dX6_stepDone_4 (fun v2_3 => ?_)
  refine z_aload_n (pc := 5) hC 0 rfl 1 rfl dX6_stepDone_5 ?_
  refine z_getc (pc := 6) hC (hk 34 rfl) f_34_22 q1292 dX6_stepDone_6 ?_
  refine z_iload_n (pc := 9) hC 2 rfl 0 rfl dX6_stepDone_9 ?_
  refine zs_iald (pc := 10) hC (hk 44 rfl) rfl dX6_stepDone_10 ?_
  refine z_istore_n (pc := 11) (ls1 := fun v => [(3, .inl (.int v)), (2, .inl (.int v2_3)), (0, .inr (k, 34)), (1, .inl (.int a1))]) hC 3 rfl (by decide) (fun v => rfl) dX6_stepDone_11 (fun v3_4 => ?_)
  refine z_aload_n (pc := 12) hC 0 rfl 2 rfl dX6_stepDone_12 ?_
  refine z_getc (pc := 13) hC (hk 34 rfl) f_34_22 q1292 dX6_stepDone_13 ?_
  refine z_iload_n (pc := 16) hC 2 rfl 1 rfl dX6_stepDone_16 ?_
  refine z_iconst (pc := 17) hC (1 : Int32) rfl dX6_stepDone_17 ?_
  refine z_iadd (pc := 18) hC dX6_stepDone_18 ?_
  refine zs_iald (pc := 19) hC (hk 44 rfl) rfl dX6_stepDone_19 ?_
  refine z_istore (pc := 20) (ls1 := fun v => [(4, .inl (.int v)), (3, .inl (.int v3_4)), (2, .inl (.int v2_3)), (0, .inr (k, 34)), (1, .inl (.int a1))]) hC 4 (by decide) (fun v => rfl) dX6_stepDone_20 (fun v4_5 => ?_)
  refine z_aload_n (pc := 22) hC 0 rfl 3 rfl dX6_stepDone_22 ?_
  refine z_getc (pc := 23) hC (hk 34 rfl) f_34_22 q1292 dX6_stepDone_23 ?_
  refine z_iload_n (pc := 26) hC 2 rfl 2 rfl dX6_stepDone_26 ?_
  refine z_iconst (pc := 27) hC (2 : Int32) rfl dX6_stepDone_27 ?_
  refine z_iadd (pc := 28) hC dX6_stepDone_28 ?_
  refine zs_iald (pc := 29) hC (hk 44 rfl) rfl dX6_stepDone_29 ?_
  refine z_istore (pc := 30) (ls1 := fun v => [(5, .inl (.int v)), (4, .inl (.int v4_5)), (3, .inl (.int v3_4)), (2, .inl (.int v2_3)), (0, .inr (k, 34)), (1, .inl (.int a1))]) hC 5 (by decide) (fun v => rfl) dX6_stepDone_30 (fun v5_6 => ?_)
  refine z_aload_n (pc := 32) hC 0 rfl 4 rfl dX6_stepDone_32 ?_
  refine z_getc (pc := 33) hC (hk 34 rfl) f_34_22 q1292 dX6_stepDone_33 ?_
  refine z_iload_n (pc := 36) hC 2 rfl 3 rfl dX6_stepDone_36 ?_
  refine z_iconst (pc := 37) hC (3 : Int32) rfl dX6_stepDone_37 ?_
  refine z_iadd (pc := 38) hC dX6_stepDone_38 ?_
  refine zs_iald (pc := 39) hC (hk 44 rfl) rfl dX6_stepDone_39 ?_
  refine z_istore (pc := 40) (ls1 := fun v => [(6, .inl (.int v)), (5, .inl (.int v5_6)), (4, .inl (.int v4_5)), (3, .inl (.int v3_4)), (2, .inl (.int v2_3)), (0, .inr (k, 34)), (1, .inl (.int a1))]) hC 6 (by decide) (fun v => rfl) dX6_stepDone_40 (fun v6_7 => ?_)
  refine z_aload_n (pc := 42) hC 0 rfl 5 rfl dX6_stepDone_42 ?_
  refine z_getc (pc := 43) hC (hk 34 rfl) f_34_22 q1292 dX6_stepDone_43 ?_
  refine z_iload_n (pc := 46) hC 2 rfl 4 rfl dX6_stepDone_46 ?_
  refine z_iconst (pc := 47) hC (4 : Int32) rfl dX6_stepDone_47 ?_
  refine z_iadd (pc := 48) hC dX6_stepDone_48 ?_
  refine zs_iald (pc := 49) hC (hk 44 rfl) rfl dX6_stepDone_49 ?_
  refine z_istore (pc := 50) (ls1 := fun v => [(7, .inl (.int v)), (6, .inl (.int v6_7)), (5, .inl (.int v5_6)), (4, .inl (.int v4_5)), (3, .inl (.int v3_4)), (2, .inl (.int v2_3)), (0, .inr (k, 34)), (1, .inl (.int a1))]) hC 7 (by decide) (fun v => rfl) dX6_stepDone_50 (fun v7_8 => ?_)
  refine z_aload_n (pc := 52) hC 0 rfl 6 rfl dX6_stepDone_52 ?_
  refine z_getc (pc := 53) hC (hk 34 rfl) f_34_21 q1291 dX6_stepDone_53 ?_
  refine z_iload_n (pc := 56) hC 1 rfl 7 rfl dX6_stepDone_56 ?_
  refine zs_iald (pc := 57) hC (hk 43 rfl) rfl dX6_stepDone_57 ?_
  refine z_ite (fun e => ?_) (fun e0 => ?_)
  · refine z_tswIn (pc := 58) hC 7 88 (by rw [e]; rfl) (by decide) (by decide) rfl rfl dX6_stepDone_58 ?_
    refine z_aload_n (pc := 88) hC 0 rfl 6 rfl dX6_stepDone_88 ?_
    refine z_iload_n (pc := 89) hC 3 rfl 4 rfl dX6_stepDone_89 ?_
    refine z_iconst (pc := 90) hC (4 : Int32) rfl dX6_stepDone_90 ?_
    refine z_iload (pc := 91) hC 4 3 rfl dX6_stepDone_91 ?_
    refine z_imul (pc := 93) hC dX6_stepDone_93 ?_
    refine z_iload (pc := 94) hC 7 0 rfl dX6_stepDone_94 ?_
    refine z_iadd (pc := 96) hC dX6_stepDone_96 ?_
    refine z_iload (pc := 97) hC 5 2 rfl dX6_stepDone_97 ?_
    refine z_iload (pc := 99) hC 6 1 rfl dX6_stepDone_99 ?_
    refine z_piV (pc := 101) (st := []) hC y_X6_isPassing q1480 [.inl (.int v3_4), .inl (.int (((4 : Int32) * v4_5) + v7_8)), .inl (.int v5_6), .inl (.int v6_7)] rfl (hk 34 rfl) rfl rfl (c_X6_isPassing hC.2.2.2.2.2.2.1 hk) rfl ⟨rfl, rfl, (Nat.le_of_ble_eq_true rfl), (Nat.le_of_ble_eq_true rfl)⟩ (Nat.le_of_ble_eq_true rfl) dX6_stepDone_101 (fun r18 => ?_)
    refine z_if_eq (pc := 104) hC 134 rfl dX6_stepDone_104 ?_ ?_
    · refine z_iconst (pc := 134) hC (-1 : Int32) rfl dX6_stepDone_134 ?_
      exact z_iret (pc := 135) hC rfl dX6_stepDone_135
    · refine z_aload_n (pc := 107) hC 0 rfl 6 rfl dX6_stepDone_107 ?_
      refine z_iload_n (pc := 108) hC 3 rfl 4 rfl dX6_stepDone_108 ?_
      refine z_iconst (pc := 109) hC (4 : Int32) rfl dX6_stepDone_109 ?_
      refine z_iload (pc := 110) hC 4 3 rfl dX6_stepDone_110 ?_
      refine z_imul (pc := 112) hC dX6_stepDone_112 ?_
      refine z_iload (pc := 113) hC 7 0 rfl dX6_stepDone_113 ?_
      refine z_iadd (pc := 115) hC dX6_stepDone_115 ?_
      refine z_iload (pc := 116) hC 5 2 rfl dX6_stepDone_116 ?_
      refine z_iload (pc := 118) hC 6 1 rfl dX6_stepDone_118 ?_
      refine z_aload_n (pc := 120) hC 0 rfl 6 rfl dX6_stepDone_120 ?_
      refine z_getc (pc := 121) hC (hk 34 rfl) f_34_22 q1292 dX6_stepDone_121 ?_
      refine z_iload_n (pc := 124) hC 2 rfl 5 rfl dX6_stepDone_124 ?_
      refine z_iconst (pc := 125) hC (5 : Int32) rfl dX6_stepDone_125 ?_
      refine z_iadd (pc := 126) hC dX6_stepDone_126 ?_
      refine zs_iald (pc := 127) hC (hk 44 rfl) rfl dX6_stepDone_127 ?_
      refine z_ciV (pc := 128) (st := []) hC y_X6_mapped q1504 [.inl (.int v3_4), .inl (.int (((4 : Int32) * v4_5) + v7_8)), .inl (.int v5_6), .inl (.int v6_7), .inl (.int (d 44 (ix (v2_3 + (5 : Int32)))))] rfl (hk 34 rfl) rfl rfl (c_X6_mapped hC.2.2.2.2.2.2.1 hk) rfl ⟨rfl, rfl, (Nat.le_of_ble_eq_true rfl), (Nat.le_of_ble_eq_true rfl)⟩ (Nat.le_of_ble_eq_true rfl) dX6_stepDone_128 (fun r19 d20 => ?_)
      refine z_goto (pc := 131) hC 135 rfl dX6_stepDone_131 ?_
      exact z_iret (pc := 135) hC rfl dX6_stepDone_135
  · refine z_ite (fun e => ?_) (fun e1 => ?_)
    · refine z_tswIn (pc := 58) hC 8 136 (by rw [e]; rfl) (by decide) (by decide) rfl rfl dX6_stepDone_58 ?_
      refine z_aload_n (pc := 136) hC 0 rfl 6 rfl dX6_stepDone_136 ?_
      refine z_iload_n (pc := 137) hC 3 rfl 4 rfl dX6_stepDone_137 ?_
      refine z_iconst (pc := 138) hC (4 : Int32) rfl dX6_stepDone_138 ?_
      refine z_iload (pc := 139) hC 4 3 rfl dX6_stepDone_139 ?_
      refine z_imul (pc := 141) hC dX6_stepDone_141 ?_
      refine z_iload (pc := 142) hC 7 0 rfl dX6_stepDone_142 ?_
      refine z_iadd (pc := 144) hC dX6_stepDone_144 ?_
      refine z_iload (pc := 145) hC 5 2 rfl dX6_stepDone_145 ?_
      refine z_iload (pc := 147) hC 6 1 rfl dX6_stepDone_147 ?_
      refine z_piV (pc := 149) (st := []) hC y_X6_isPassing q1480 [.inl (.int v3_4), .inl (.int (((4 : Int32) * v4_5) + v7_8)), .inl (.int v5_6), .inl (.int v6_7)] rfl (hk 34 rfl) rfl rfl (c_X6_isPassing hC.2.2.2.2.2.2.1 hk) rfl ⟨rfl, rfl, (Nat.le_of_ble_eq_true rfl), (Nat.le_of_ble_eq_true rfl)⟩ (Nat.le_of_ble_eq_true rfl) dX6_stepDone_149 (fun r15 => ?_)
      refine z_if_eq (pc := 152) hC 174 rfl dX6_stepDone_152 ?_ ?_
      · refine z_iconst (pc := 174) hC (-1 : Int32) rfl dX6_stepDone_174 ?_
        exact z_iret (pc := 175) hC rfl dX6_stepDone_175
      · refine z_aload_n (pc := 155) hC 0 rfl 6 rfl dX6_stepDone_155 ?_
        refine z_iload_n (pc := 156) hC 3 rfl 4 rfl dX6_stepDone_156 ?_
        refine z_iconst (pc := 157) hC (4 : Int32) rfl dX6_stepDone_157 ?_
        refine z_iload (pc := 158) hC 4 3 rfl dX6_stepDone_158 ?_
        refine z_imul (pc := 160) hC dX6_stepDone_160 ?_
        refine z_iload (pc := 161) hC 7 0 rfl dX6_stepDone_161 ?_
        refine z_iadd (pc := 163) hC dX6_stepDone_163 ?_
        refine z_iload (pc := 164) hC 5 2 rfl dX6_stepDone_164 ?_
        refine z_iload (pc := 166) hC 6 1 rfl dX6_stepDone_166 ?_
        refine z_ciV (pc := 168) (st := []) hC y_X6_granted q1556 [.inl (.int v3_4), .inl (.int (((4 : Int32) * v4_5) + v7_8)), .inl (.int v5_6), .inl (.int v6_7)] rfl (hk 34 rfl) rfl rfl (c_X6_granted hC.2.2.2.2.2.2.1 hk) rfl ⟨rfl, rfl, (Nat.le_of_ble_eq_true rfl), (Nat.le_of_ble_eq_true rfl)⟩ (Nat.le_of_ble_eq_true rfl) dX6_stepDone_168 (fun r16 d17 => ?_)
        refine z_goto (pc := 171) hC 175 rfl dX6_stepDone_171 ?_
        exact z_iret (pc := 175) hC rfl dX6_stepDone_175
    · refine z_ite (fun e => ?_) (fun e2 => ?_)
      · refine z_tswIn (pc := 58) hC 9 176 (by rw [e]; rfl) (by decide) (by decide) rfl rfl dX6_stepDone_58 ?_
        refine z_aload_n (pc := 176) hC 0 rfl 6 rfl dX6_stepDone_176 ?_
        refine z_iconst (pc := 177) hC (4 : Int32) rfl dX6_stepDone_177 ?_
        refine z_iload (pc := 178) hC 4 3 rfl dX6_stepDone_178 ?_
        refine z_imul (pc := 180) hC dX6_stepDone_180 ?_
        refine z_iload (pc := 181) hC 5 2 rfl dX6_stepDone_181 ?_
        refine z_iadd (pc := 183) hC dX6_stepDone_183 ?_
        refine z_piV (pc := 184) (st := []) hC y_X6_isRegion q1488 [.inl (.int (((4 : Int32) * v4_5) + v5_6))] rfl (hk 34 rfl) rfl rfl (c_X6_isRegion hC.2.2.2.2.2.2.1 hk) rfl ⟨rfl, rfl, (Nat.le_of_ble_eq_true rfl), (Nat.le_of_ble_eq_true rfl)⟩ (Nat.le_of_ble_eq_true rfl) dX6_stepDone_184 (fun r14 => ?_)
        refine z_if_eq (pc := 187) hC 218 rfl dX6_stepDone_187 ?_ ?_
        · refine z_iconst (pc := 218) hC (-1 : Int32) rfl dX6_stepDone_218 ?_
          exact z_iret (pc := 219) hC rfl dX6_stepDone_219
        · refine z_aload_n (pc := 190) hC 0 rfl 6 rfl dX6_stepDone_190 ?_
          refine z_iload_n (pc := 191) hC 3 rfl 4 rfl dX6_stepDone_191 ?_
          refine z_iconst (pc := 192) hC (4 : Int32) rfl dX6_stepDone_192 ?_
          refine z_iload (pc := 193) hC 4 3 rfl dX6_stepDone_193 ?_
          refine z_imul (pc := 195) hC dX6_stepDone_195 ?_
          refine z_iload (pc := 196) hC 5 2 rfl dX6_stepDone_196 ?_
          refine z_iadd (pc := 198) hC dX6_stepDone_198 ?_
          refine z_iload (pc := 199) hC 6 1 rfl dX6_stepDone_199 ?_
          refine z_iload (pc := 201) hC 7 0 rfl dX6_stepDone_201 ?_
          refine z_iconst (pc := 203) hC (1 : Int32) rfl dX6_stepDone_203 ?_
          refine z_icmp_ne (pc := 204) hC 211 rfl dX6_stepDone_204 ?_ ?_
          · refine z_iconst (pc := 211) hC (0 : Int32) rfl dX6_stepDone_211 ?_
            exact z_sub [] rfl (r_Mo_stepDone_212 hC hk (0 : Int32) v6_7 (((4 : Int32) * v4_5) + v5_6) v3_4 d)
          · refine z_iconst (pc := 207) hC (1 : Int32) rfl dX6_stepDone_207 ?_
            refine z_goto (pc := 208) hC 212 rfl dX6_stepDone_208 ?_
            exact z_sub [] rfl (r_Mo_stepDone_212 hC hk (1 : Int32) v6_7 (((4 : Int32) * v4_5) + v5_6) v3_4 d)
      · refine z_ite (fun e => ?_) (fun e3 => ?_)
        · refine z_tswIn (pc := 58) hC 10 220 (by rw [e]; rfl) (by decide) (by decide) rfl rfl dX6_stepDone_58 ?_
          refine z_aload_n (pc := 220) hC 0 rfl 6 rfl dX6_stepDone_220 ?_
          refine z_iload_n (pc := 221) hC 3 rfl 4 rfl dX6_stepDone_221 ?_
          refine z_iload (pc := 222) hC 4 3 rfl dX6_stepDone_222 ?_
          refine z_iload (pc := 224) hC 5 2 rfl dX6_stepDone_224 ?_
          refine z_piV (pc := 226) (st := []) hC y_X6_isTouch q1693 [.inl (.int v3_4), .inl (.int v4_5), .inl (.int v5_6)] rfl (hk 34 rfl) rfl rfl (c_X6_isTouch hC.2.2.2.2.2.2.1 hk) rfl ⟨rfl, rfl, (Nat.le_of_ble_eq_true rfl), (Nat.le_of_ble_eq_true rfl)⟩ (Nat.le_of_ble_eq_true rfl) dX6_stepDone_226 (fun r11 => ?_)
          refine z_if_eq (pc := 229) hC 244 rfl dX6_stepDone_229 ?_ ?_
          · refine z_iconst (pc := 244) hC (-1 : Int32) rfl dX6_stepDone_244 ?_
            exact z_iret (pc := 245) hC rfl dX6_stepDone_245
          · refine z_aload_n (pc := 232) hC 0 rfl 6 rfl dX6_stepDone_232 ?_
            refine z_iload_n (pc := 233) hC 3 rfl 4 rfl dX6_stepDone_233 ?_
            refine z_iload (pc := 234) hC 4 3 rfl dX6_stepDone_234 ?_
            refine z_iload (pc := 236) hC 5 2 rfl dX6_stepDone_236 ?_
            refine z_ciV (pc := 238) (st := []) hC y_X6_touched q1701 [.inl (.int v3_4), .inl (.int v4_5), .inl (.int v5_6)] rfl (hk 34 rfl) rfl rfl (c_X6_touched hC.2.2.2.2.2.2.1 hk) rfl ⟨rfl, rfl, (Nat.le_of_ble_eq_true rfl), (Nat.le_of_ble_eq_true rfl)⟩ (Nat.le_of_ble_eq_true rfl) dX6_stepDone_238 (fun r12 d13 => ?_)
            refine z_goto (pc := 241) hC 245 rfl dX6_stepDone_241 ?_
            exact z_iret (pc := 245) hC rfl dX6_stepDone_245
        · have e0_ : ((d 43 (ix a1))).toInt ≠ 7 := fun h => e0 (Int32.toInt_inj.mp (by rw [h]; rfl))
          have e1_ : ((d 43 (ix a1))).toInt ≠ 8 := fun h => e1 (Int32.toInt_inj.mp (by rw [h]; rfl))
          have e2_ : ((d 43 (ix a1))).toInt ≠ 9 := fun h => e2 (Int32.toInt_inj.mp (by rw [h]; rfl))
          have e3_ : ((d 43 (ix a1))).toInt ≠ 10 := fun h => e3 (Int32.toInt_inj.mp (by rw [h]; rfl))
          refine z_tswOut (pc := 58) hC 246 (by omega) rfl dX6_stepDone_58 ?_
          refine z_aload_n (pc := 246) hC 0 rfl 6 rfl dX6_stepDone_246 ?_
          refine z_iload_n (pc := 247) hC 3 rfl 4 rfl dX6_stepDone_247 ?_
          refine z_ciV (pc := 248) (st := []) hC y_X6_served q1725 [.inl (.int v3_4)] rfl (hk 34 rfl) rfl rfl (c_X6_served hC.2.2.2.2.2.2.1 hk) rfl ⟨rfl, rfl, (Nat.le_of_ble_eq_true rfl), (Nat.le_of_ble_eq_true rfl)⟩ (Nat.le_of_ble_eq_true rfl) dX6_stepDone_248 (fun r9 d10 => ?_)
          exact z_iret (pc := 251) hC rfl dX6_stepDone_251
theorem c_X6_stepDone {G : Geo} {M : Mem} {k : Nat} (hG : GOk G) (hk : LMo G k) {d : Sl} {a1 : Int32} (l : Launch) (r : Int32) (d1 : Sl) (h : Mo_stepDone d a1 = some (r, d1)) : Mt l yX6_stepDone cX6_stepDone 8 (some .int) rm_X6_stepDone G [.inr (k, 34), .inl (.int a1)] ((setS M k) d) (avI r) ((setS M k) d1) :=
  mt_of (mem := (setS M k)) (po := poM avI (setS M k)) (x0 := d) (t := (r, d1)) rfl hG [.inr (k, 34), .inl (.int a1)] (Nat.le_of_ble_eq_true rfl) rfl (fun C hC => r_Mo_stepDone hC hk d a1) h
-- FrameHeirsModel.run(I)I
abbrev rm_X6_run : Room := { frames := 8, cells := 0, slots := 0, locals := 208 }
theorem dX6_run_0 : decode cX6_run 0 = .ok (.aload_n 0, 1) := by decide +kernel
theorem dX6_run_1 : decode cX6_run 1 = .ok (.iconst 0, 1) := by decide +kernel
theorem dX6_run_2 : decode cX6_run 2 = .ok (.putfield 61, 3) := by decide +kernel
theorem dX6_run_5 : decode cX6_run 5 = .ok (.iload_n 1, 1) := by decide +kernel
theorem dX6_run_6 : decode cX6_run 6 = .ok (.iconst 0, 1) := by decide +kernel
theorem dX6_run_7 : decode cX6_run 7 = .ok (.bipush 24, 2) := by decide +kernel
theorem dX6_run_9 : decode cX6_run 9 = .ok (.invokestatic 137, 3) := by decide +kernel
theorem dX6_run_12 : decode cX6_run 12 = .ok (.ifCond .ne 5, 3) := by decide +kernel
theorem dX6_run_15 : decode cX6_run 15 = .ok (.iconst (-1), 1) := by decide +kernel
theorem dX6_run_16 : decode cX6_run 16 = .ok (.ireturn, 1) := by decide +kernel
theorem dX6_run_17 : decode cX6_run 17 = .ok (.aload_n 0, 1) := by decide +kernel
theorem dX6_run_18 : decode cX6_run 18 = .ok (.invokevirtual 289, 3) := by decide +kernel
theorem dX6_run_21 : decode cX6_run 21 = .ok (.iconst 0, 1) := by decide +kernel
theorem dX6_run_22 : decode cX6_run 22 = .ok (.istore_n 2, 1) := by decide +kernel
theorem dX6_run_23 : decode cX6_run 23 = .ok (.iload_n 2, 1) := by decide +kernel
theorem dX6_run_24 : decode cX6_run 24 = .ok (.iload_n 1, 1) := by decide +kernel
theorem dX6_run_25 : decode cX6_run 25 = .ok (.if_icmp .ge 66, 3) := by decide +kernel
theorem dX6_run_28 : decode cX6_run 28 = .ok (.aload_n 0, 1) := by decide +kernel
theorem dX6_run_29 : decode cX6_run 29 = .ok (.sipush 2202, 3) := by decide +kernel
theorem dX6_run_32 : decode cX6_run 32 = .ok (.invokevirtual 189, 3) := by decide +kernel
theorem dX6_run_35 : decode cX6_run 35 = .ok (.aload_n 0, 1) := by decide +kernel
theorem dX6_run_36 : decode cX6_run 36 = .ok (.getfield 109, 3) := by decide +kernel
theorem dX6_run_39 : decode cX6_run 39 = .ok (.if_icmp .ge 52, 3) := by decide +kernel
theorem dX6_run_42 : decode cX6_run 42 = .ok (.aload_n 0, 1) := by decide +kernel
theorem dX6_run_43 : decode cX6_run 43 = .ok (.sipush 2202, 3) := by decide +kernel
theorem dX6_run_46 : decode cX6_run 46 = .ok (.invokevirtual 189, 3) := by decide +kernel
theorem dX6_run_49 : decode cX6_run 49 = .ok (.istore_n 3, 1) := by decide +kernel
theorem dX6_run_50 : decode cX6_run 50 = .ok (.aload_n 0, 1) := by decide +kernel
theorem dX6_run_51 : decode cX6_run 51 = .ok (.sipush 2202, 3) := by decide +kernel
theorem dX6_run_54 : decode cX6_run 54 = .ok (.iload_n 3, 1) := by decide +kernel
theorem dX6_run_55 : decode cX6_run 55 = .ok (.iconst 1, 1) := by decide +kernel
theorem dX6_run_56 : decode cX6_run 56 = .ok (.iadd, 1) := by decide +kernel
theorem dX6_run_57 : decode cX6_run 57 = .ok (.invokevirtual 122, 3) := by decide +kernel
theorem dX6_run_60 : decode cX6_run 60 = .ok (.aload_n 0, 1) := by decide +kernel
theorem dX6_run_61 : decode cX6_run 61 = .ok (.sipush 2203, 3) := by decide +kernel
theorem dX6_run_64 : decode cX6_run 64 = .ok (.iload_n 3, 1) := by decide +kernel
theorem dX6_run_65 : decode cX6_run 65 = .ok (.iadd, 1) := by decide +kernel
theorem dX6_run_66 : decode cX6_run 66 = .ok (.aload_n 0, 1) := by decide +kernel
theorem dX6_run_67 : decode cX6_run 67 = .ok (.iload_n 3, 1) := by decide +kernel
theorem dX6_run_68 : decode cX6_run 68 = .ok (.invokevirtual 433, 3) := by decide +kernel
theorem dX6_run_71 : decode cX6_run 71 = .ok (.invokevirtual 122, 3) := by decide +kernel
theorem dX6_run_74 : decode cX6_run 74 = .ok (.aload_n 0, 1) := by decide +kernel
theorem dX6_run_75 : decode cX6_run 75 = .ok (.aload_n 0, 1) := by decide +kernel
theorem dX6_run_76 : decode cX6_run 76 = .ok (.getfield 32, 3) := by decide +kernel
theorem dX6_run_79 : decode cX6_run 79 = .ok (.iconst 4, 1) := by decide +kernel
theorem dX6_run_80 : decode cX6_run 80 = .ok (.iaload, 1) := by decide +kernel
theorem dX6_run_81 : decode cX6_run 81 = .ok (.invokevirtual 332, 3) := by decide +kernel
theorem dX6_run_84 : decode cX6_run 84 = .ok (.pop, 1) := by decide +kernel
theorem dX6_run_85 : decode cX6_run 85 = .ok (.iinc 2 1, 3) := by decide +kernel
theorem dX6_run_88 : decode cX6_run 88 = .ok (.goto (-65), 3) := by decide +kernel
theorem dX6_run_91 : decode cX6_run 91 = .ok (.iload_n 2, 1) := by decide +kernel
theorem dX6_run_92 : decode cX6_run 92 = .ok (.ireturn, 1) := by decide +kernel
def Mo_run_23 : Nat → Int32 → Int32 → Sl → Option (Int32 × Sl)
  | 0, _, _, _ => none
  | n + 1, v1, v2, d =>
    if v1 ≤ v2 then
      (some (v2, d))
    else
      (bp (Mo_of d (2202 : Int32)) fun r1 =>
      if (d 34 13) ≤ r1 then
        (some (v2, d))
      else
        (bp (Mo_of d (2202 : Int32)) fun r2 =>
        bnd r2 fun v3_3 =>
        bd (Mo_lay d (2202 : Int32) (v3_3 + (1 : Int32))) fun r4 d5 =>
        bd (Mo_stepDone d5 v3_3) fun r6 d7 =>
        bd (Mo_lay d7 ((2203 : Int32) + v3_3) r6) fun r8 d9 =>
        if inb (4 : Int32) 14 then
        bd (Mo_worked d9 (d9 41 (ix (4 : Int32)))) fun r10 d11 =>
        bnd (v2 + (1 : Int32)) fun v2_12 =>
        Mo_run_23 n v1 v2_12 d11
        else none))
def Mo_run (d : Sl) (a1 : Int32) : Option (Int32 × Sl) :=
  bnd (wr d 34 2 (0 : Int32)) fun d13 =>
  bp (Mo_isIn a1 (0 : Int32) (24 : Int32)) fun r14 =>
  if r14 = 0 then
    (some ((-1 : Int32), d13))
  else
    (bd (Mo_canUndo d13) fun r15 d16 =>
    bnd (0 : Int32) fun v2_17 =>
    Mo_run_23 FU a1 v2_17 d16)
theorem y_X6_run : YV yX6_run cX6_run 4 (some .int) 1 := ⟨q1783, q1784, q1785, q149, by decide +kernel, by decide +kernel, by decide +kernel, by decide +kernel⟩
theorem r_Mo_run_23 {C : Cxt} {G : Geo} {M : Mem} {k : Nat} (hC : Cx C cX6_run 4 "FrameHeirsModel" (some .int) rm_X6_run G) (hk : LMo G k) : ∀ (n : Nat) (v1 : Int32) (v2 : Int32) (d : Sl), Rz C 4 G (setS M k) (poM avI (setS M k)) 23 [(0, .inr (k, 34)), (1, .inl (.int v1)), (2, .inl (.int v2))] [] d (Mo_run_23 n v1 v2 d) := by
  intro n
  induction n with
  | zero => intros; exact z_none
  | succ n ih =>
    intro v1 v2 d
    rw [Mo_run_23]
    refine z_iload_n (pc := 23) hC 2 rfl 2 rfl dX6_run_23 ?_
    refine z_iload_n (pc := 24) hC 1 rfl 1 rfl dX6_run_24 ?_
    refine z_icmp_ge (pc := 25) hC 91 rfl dX6_run_25 ?_ ?_
    · refine z_iload_n (pc := 91) hC 2 rfl 2 rfl dX6_run_91 ?_
      exact z_iret (pc := 92) hC rfl dX6_run_92
    · refine z_aload_n (pc := 28) hC 0 rfl 0 rfl dX6_run_28 ?_
      refine z_sipush (pc := 29) hC (2202 : Int32) rfl dX6_run_29 ?_
      refine z_piV (pc := 32) (st := []) hC y_X6_of q1262 [.inl (.int (2202 : Int32))] rfl (hk 34 rfl) rfl rfl (c_X6_of hC.2.2.2.2.2.2.1 hk) rfl ⟨rfl, rfl, (Nat.le_of_ble_eq_true rfl), (Nat.le_of_ble_eq_true rfl)⟩ (Nat.le_of_ble_eq_true rfl) dX6_run_32 (fun r1 => ?_)
      refine z_aload_n (pc := 35) hC 0 rfl 0 rfl dX6_run_35 ?_
      refine zs_geti (pc := 36) hC (hk 34 rfl) f_34_13 q1283 dX6_run_36 ?_
      refine z_icmp_ge (pc := 39) hC 91 rfl dX6_run_39 ?_ ?_
      · refine z_iload_n (pc := 91) hC 2 rfl 2 rfl dX6_run_91 ?_
        exact z_iret (pc := 92) hC rfl dX6_run_92
      · refine z_aload_n (pc := 42) hC 0 rfl 0 rfl dX6_run_42 ?_
        refine z_sipush (pc := 43) hC (2202 : Int32) rfl dX6_run_43 ?_
        refine z_piV (pc := 46) (st := []) hC y_X6_of q1262 [.inl (.int (2202 : Int32))] rfl (hk 34 rfl) rfl rfl (c_X6_of hC.2.2.2.2.2.2.1 hk) rfl ⟨rfl, rfl, (Nat.le_of_ble_eq_true rfl), (Nat.le_of_ble_eq_true rfl)⟩ (Nat.le_of_ble_eq_true rfl) dX6_run_46 (fun r2 => ?_)
        refine z_istore_n (pc := 49) (ls1 := fun v => [(3, .inl (.int v)), (0, .inr (k, 34)), (1, .inl (.int v1)), (2, .inl (.int v2))]) hC 3 rfl (by decide) (fun v => rfl) dX6_run_49 (fun v3_3 => ?_)
        refine z_aload_n (pc := 50) hC 0 rfl 1 rfl dX6_run_50 ?_
        refine z_sipush (pc := 51) hC (2202 : Int32) rfl dX6_run_51 ?_
        refine z_iload_n (pc := 54) hC 3 rfl 0 rfl dX6_run_54 ?_
        refine z_iconst (pc := 55) hC (1 : Int32) rfl dX6_run_55 ?_
        refine z_iadd (pc := 56) hC dX6_run_56 ?_
        refine z_cvV (pc := 57) (st := []) hC y_X6_lay q1246 [.inl (.int (2202 : Int32)), .inl (.int (v3_3 + (1 : Int32)))] rfl (hk 34 rfl) rfl rfl (c_X6_lay hC.2.2.2.2.2.2.1 hk) rfl ⟨rfl, rfl, (Nat.le_of_ble_eq_true rfl), (Nat.le_of_ble_eq_true rfl)⟩ (Nat.le_of_ble_eq_true rfl) dX6_run_57 (fun r4 d5 => ?_)
        refine z_aload_n (pc := 60) hC 0 rfl 1 rfl dX6_run_60 ?_
        refine z_sipush (pc := 61) hC (2203 : Int32) rfl dX6_run_61 ?_
        refine z_iload_n (pc := 64) hC 3 rfl 0 rfl dX6_run_64 ?_
        refine z_iadd (pc := 65) hC dX6_run_65 ?_
        refine z_aload_n (pc := 66) hC 0 rfl 1 rfl dX6_run_66 ?_
        refine z_iload_n (pc := 67) hC 3 rfl 0 rfl dX6_run_67 ?_
        refine z_ciV (pc := 68) (st := [.inl (.int ((2203 : Int32) + v3_3)), .inr (k, 34)]) hC y_X6_stepDone q1786 [.inl (.int v3_3)] rfl (hk 34 rfl) rfl rfl (c_X6_stepDone hC.2.2.2.2.2.2.1 hk) rfl ⟨rfl, rfl, (Nat.le_of_ble_eq_true rfl), (Nat.le_of_ble_eq_true rfl)⟩ (Nat.le_of_ble_eq_true rfl) dX6_run_68 (fun r6 d7 => ?_)
        refine z_cvV (pc := 71) (st := []) hC y_X6_lay q1246 [.inl (.int ((2203 : Int32) + v3_3)), .inl (.int r6)] rfl (hk 34 rfl) rfl rfl (c_X6_lay hC.2.2.2.2.2.2.1 hk) rfl ⟨rfl, rfl, (Nat.le_of_ble_eq_true rfl), (Nat.le_of_ble_eq_true rfl)⟩ (Nat.le_of_ble_eq_true rfl) dX6_run_71 (fun r8 d9 => ?_)
        refine z_aload_n (pc := 74) hC 0 rfl 1 rfl dX6_run_74 ?_
        refine z_aload_n (pc := 75) hC 0 rfl 1 rfl dX6_run_75 ?_
        refine z_getc (pc := 76) hC (hk 34 rfl) f_34_19 q1289 dX6_run_76 ?_
        refine z_iconst (pc := 79) hC (4 : Int32) rfl dX6_run_79 ?_
        refine zs_iald (pc := 80) hC (hk 41 rfl) rfl dX6_run_80 ?_
        refine z_ciV (pc := 81) (st := []) hC y_X6_worked q1628 [.inl (.int (d9 41 (ix (4 : Int32))))] rfl (hk 34 rfl) rfl rfl (c_X6_worked hC.2.2.2.2.2.2.1 hk) rfl ⟨rfl, rfl, (Nat.le_of_ble_eq_true rfl), (Nat.le_of_ble_eq_true rfl)⟩ (Nat.le_of_ble_eq_true rfl) dX6_run_81 (fun r10 d11 => ?_)
        refine z_pop (pc := 84) hC rfl dX6_run_84 ?_
        refine z_iinc (pc := 85) (ls1 := fun v => [(2, .inl (.int v)), (3, .inl (.int v3_3)), (0, .inr (k, 34)), (1, .inl (.int v1))]) hC 2 3 (by decide) (1 : Int32) rfl rfl (fun v => rfl) dX6_run_85 (fun v2_12 => ?_)
        refine z_goto (pc := 88) hC 23 rfl dX6_run_88 ?_
        exact z_sub [2, 3, 0] rfl (ih v1 v2_12 d11)
theorem r_Mo_run {C : Cxt} {G : Geo} {M : Mem} {k : Nat} (hC : Cx C cX6_run 4 "FrameHeirsModel" (some .int) rm_X6_run G) (hk : LMo G k) (d : Sl) (a1 : Int32) : Rz C 4 G (setS M k) (poM avI (setS M k)) 0 [(0, .inr (k, 34)), (1, .inl (.int a1))] [] d (Mo_run d a1) := by
  unfold Mo_run
  refine z_aload_n (pc := 0) hC 0 rfl 0 rfl dX6_run_0 ?_
  refine z_iconst (pc := 1) hC (0 : Int32) rfl dX6_run_1 ?_
  refine zs_puti (pc := 2) hC (hk 34 rfl) f_34_2 q1272 dX6_run_2 (fun d13 => ?_)
  refine z_iload_n (pc := 5) hC 1 rfl 1 rfl dX6_run_5 ?_
  refine z_iconst (pc := 6) hC (0 : Int32) rfl dX6_run_6 ?_
  refine z_bipush (pc := 7) hC (24 : Int32) rfl dX6_run_7 ?_
  refine z_piS (pc := 9) (st := []) hC y_X6_isIn q1429 [.inl (.int a1), .inl (.int (0 : Int32)), .inl (.int (24 : Int32))] rfl (c_X6_isIn hC.2.2.2.2.2.2.1) rfl ⟨rfl, rfl, (Nat.le_of_ble_eq_true rfl), (Nat.le_of_ble_eq_true rfl)⟩ (Nat.le_of_ble_eq_true rfl) dX6_run_9 (fun r14 => ?_)
  refine z_if_ne (pc := 12) hC 17 rfl dX6_run_12 ?_ ?_
  · refine z_aload_n (pc := 17) hC 0 rfl 0 rfl dX6_run_17 ?_
    refine z_cvV (pc := 18) (st := []) hC y_X6_canUndo q1500 [] rfl (hk 34 rfl) rfl rfl (c_X6_canUndo hC.2.2.2.2.2.2.1 hk) rfl ⟨rfl, rfl, (Nat.le_of_ble_eq_true rfl), (Nat.le_of_ble_eq_true rfl)⟩ (Nat.le_of_ble_eq_true rfl) dX6_run_18 (fun r15 d16 => ?_)
    refine z_iconst (pc := 21) hC (0 : Int32) rfl dX6_run_21 ?_
    refine z_istore_n (pc := 22) (ls1 := fun v => [(2, .inl (.int v)), (0, .inr (k, 34)), (1, .inl (.int a1))]) hC 2 rfl (by decide) (fun v => rfl) dX6_run_22 (fun v2_17 => ?_)
    exact z_sub [1, 2, 0] rfl (r_Mo_run_23 hC hk FU a1 v2_17 d16)
  · refine z_iconst (pc := 15) hC (-1 : Int32) rfl dX6_run_15 ?_
    exact z_iret (pc := 16) hC rfl dX6_run_16
theorem c_X6_run {G : Geo} {M : Mem} {k : Nat} (hG : GOk G) (hk : LMo G k) {d : Sl} {a1 : Int32} (l : Launch) (r : Int32) (d1 : Sl) (h : Mo_run d a1 = some (r, d1)) : Mt l yX6_run cX6_run 4 (some .int) rm_X6_run G [.inr (k, 34), .inl (.int a1)] ((setS M k) d) (avI r) ((setS M k) d1) :=
  mt_of (mem := (setS M k)) (po := poM avI (setS M k)) (x0 := d) (t := (r, d1)) rfl hG [.inr (k, 34), .inl (.int a1)] (Nat.le_of_ble_eq_true rfl) rfl (fun C hC => r_Mo_run hC hk d a1) h
-- FrameHeirsModel.answer(I)I
abbrev rm_X6_answer : Room := { frames := 1, cells := 0, slots := 0, locals := 21 }
theorem dX6_answer_0 : decode cX6_answer 0 = .ok (.aload_n 0, 1) := by decide +kernel
theorem dX6_answer_1 : decode cX6_answer 1 = .ok (.iconst 0, 1) := by decide +kernel
theorem dX6_answer_2 : decode cX6_answer 2 = .ok (.putfield 61, 3) := by decide +kernel
theorem dX6_answer_5 : decode cX6_answer 5 = .ok (.iload_n 1, 1) := by decide +kernel
theorem dX6_answer_6 : decode cX6_answer 6 = .ok (.ifCond .lt 11, 3) := by decide +kernel
theorem dX6_answer_9 : decode cX6_answer 9 = .ok (.iload_n 1, 1) := by decide +kernel
theorem dX6_answer_10 : decode cX6_answer 10 = .ok (.aload_n 0, 1) := by decide +kernel
theorem dX6_answer_11 : decode cX6_answer 11 = .ok (.getfield 109, 3) := by decide +kernel
theorem dX6_answer_14 : decode cX6_answer 14 = .ok (.if_icmp .lt 8, 3) := by decide +kernel
theorem dX6_answer_17 : decode cX6_answer 17 = .ok (.bipush (-10), 2) := by decide +kernel
theorem dX6_answer_19 : decode cX6_answer 19 = .ok (.goto 12, 3) := by decide +kernel
theorem dX6_answer_22 : decode cX6_answer 22 = .ok (.aload_n 0, 1) := by decide +kernel
theorem dX6_answer_23 : decode cX6_answer 23 = .ok (.sipush 2203, 3) := by decide +kernel
theorem dX6_answer_26 : decode cX6_answer 26 = .ok (.iload_n 1, 1) := by decide +kernel
theorem dX6_answer_27 : decode cX6_answer 27 = .ok (.iadd, 1) := by decide +kernel
theorem dX6_answer_28 : decode cX6_answer 28 = .ok (.invokevirtual 189, 3) := by decide +kernel
theorem dX6_answer_31 : decode cX6_answer 31 = .ok (.ireturn, 1) := by decide +kernel
def Mo_answer (d : Sl) (a1 : Int32) : Option (Int32 × Sl) :=
  bnd (wr d 34 2 (0 : Int32)) fun d1 =>
  if a1 < 0 then
    (some ((-10 : Int32), d1))
  else
    (if a1 < (d1 34 13) then
      (bp (Mo_of d1 ((2203 : Int32) + a1)) fun r2 =>
      some (r2, d1))
    else
      (some ((-10 : Int32), d1)))
theorem y_X6_answer : YV yX6_answer cX6_answer 2 (some .int) 1 := ⟨q1791, q1792, q1793, q149, by decide +kernel, by decide +kernel, by decide +kernel, by decide +kernel⟩
theorem r_Mo_answer {C : Cxt} {G : Geo} {M : Mem} {k : Nat} (hC : Cx C cX6_answer 2 "FrameHeirsModel" (some .int) rm_X6_answer G) (hk : LMo G k) (d : Sl) (a1 : Int32) : Rz C 2 G (setS M k) (poM avI (setS M k)) 0 [(0, .inr (k, 34)), (1, .inl (.int a1))] [] d (Mo_answer d a1) := by
  unfold Mo_answer
  refine z_aload_n (pc := 0) hC 0 rfl 0 rfl dX6_answer_0 ?_
  refine z_iconst (pc := 1) hC (0 : Int32) rfl dX6_answer_1 ?_
  refine zs_puti (pc := 2) hC (hk 34 rfl) f_34_2 q1272 dX6_answer_2 (fun d1 => ?_)
  refine z_iload_n (pc := 5) hC 1 rfl 1 rfl dX6_answer_5 ?_
  refine z_if_lt (pc := 6) hC 17 rfl dX6_answer_6 ?_ ?_
  · refine z_bipush (pc := 17) hC (-10 : Int32) rfl dX6_answer_17 ?_
    refine z_goto (pc := 19) hC 31 rfl dX6_answer_19 ?_
    exact z_iret (pc := 31) hC rfl dX6_answer_31
  · refine z_iload_n (pc := 9) hC 1 rfl 1 rfl dX6_answer_9 ?_
    refine z_aload_n (pc := 10) hC 0 rfl 0 rfl dX6_answer_10 ?_
    refine zs_geti (pc := 11) hC (hk 34 rfl) f_34_13 q1283 dX6_answer_11 ?_
    refine z_icmp_lt (pc := 14) hC 22 rfl dX6_answer_14 ?_ ?_
    · refine z_aload_n (pc := 22) hC 0 rfl 0 rfl dX6_answer_22 ?_
      refine z_sipush (pc := 23) hC (2203 : Int32) rfl dX6_answer_23 ?_
      refine z_iload_n (pc := 26) hC 1 rfl 1 rfl dX6_answer_26 ?_
      refine z_iadd (pc := 27) hC dX6_answer_27 ?_
      refine z_piV (pc := 28) (st := []) hC y_X6_of q1262 [.inl (.int ((2203 : Int32) + a1))] rfl (hk 34 rfl) rfl rfl (c_X6_of hC.2.2.2.2.2.2.1 hk) rfl ⟨rfl, rfl, (Nat.le_of_ble_eq_true rfl), (Nat.le_of_ble_eq_true rfl)⟩ (Nat.le_of_ble_eq_true rfl) dX6_answer_28 (fun r2 => ?_)
      exact z_iret (pc := 31) hC rfl dX6_answer_31
    · refine z_bipush (pc := 17) hC (-10 : Int32) rfl dX6_answer_17 ?_
      refine z_goto (pc := 19) hC 31 rfl dX6_answer_19 ?_
      exact z_iret (pc := 31) hC rfl dX6_answer_31
theorem c_X6_answer {G : Geo} {M : Mem} {k : Nat} (hG : GOk G) (hk : LMo G k) {d : Sl} {a1 : Int32} (l : Launch) (r : Int32) (d1 : Sl) (h : Mo_answer d a1 = some (r, d1)) : Mt l yX6_answer cX6_answer 2 (some .int) rm_X6_answer G [.inr (k, 34), .inl (.int a1)] ((setS M k) d) (avI r) ((setS M k) d1) :=
  mt_of (mem := (setS M k)) (po := poM avI (setS M k)) (x0 := d) (t := (r, d1)) rfl hG [.inr (k, 34), .inl (.int a1)] (Nat.le_of_ble_eq_true rfl) rfl (fun C hC => r_Mo_answer hC hk d a1) h
-- FrameHeirsModel.fails(I)I
abbrev rm_X6_fails : Room := { frames := 0, cells := 0, slots := 0, locals := 0 }
theorem dX6_fails_0 : decode cX6_fails 0 = .ok (.aload_n 0, 1) := by decide +kernel
theorem dX6_fails_1 : decode cX6_fails 1 = .ok (.iload_n 1, 1) := by decide +kernel
theorem dX6_fails_2 : decode cX6_fails 2 = .ok (.putfield 61, 3) := by decide +kernel
theorem dX6_fails_5 : decode cX6_fails 5 = .ok (.iconst 0, 1) := by decide +kernel
theorem dX6_fails_6 : decode cX6_fails 6 = .ok (.ireturn, 1) := by decide +kernel
def Mo_fails (d : Sl) (a1 : Int32) : Option (Int32 × Sl) :=
  bnd (wr d 34 2 a1) fun d1 =>
  some ((0 : Int32), d1)
theorem y_X6_fails : YV yX6_fails cX6_fails 2 (some .int) 1 := ⟨q1800, q130, q1801, q149, by decide +kernel, by decide +kernel, by decide +kernel, by decide +kernel⟩
theorem r_Mo_fails {C : Cxt} {G : Geo} {M : Mem} {k : Nat} (hC : Cx C cX6_fails 2 "FrameHeirsModel" (some .int) rm_X6_fails G) (hk : LMo G k) (d : Sl) (a1 : Int32) : Rz C 2 G (setS M k) (poM avI (setS M k)) 0 [(0, .inr (k, 34)), (1, .inl (.int a1))] [] d (Mo_fails d a1) := by
  unfold Mo_fails
  refine z_aload_n (pc := 0) hC 0 rfl 0 rfl dX6_fails_0 ?_
  refine z_iload_n (pc := 1) hC 1 rfl 1 rfl dX6_fails_1 ?_
  refine zs_puti (pc := 2) hC (hk 34 rfl) f_34_2 q1272 dX6_fails_2 (fun d1 => ?_)
  refine z_iconst (pc := 5) hC (0 : Int32) rfl dX6_fails_5 ?_
  exact z_iret (pc := 6) hC rfl dX6_fails_6
theorem c_X6_fails {G : Geo} {M : Mem} {k : Nat} (hG : GOk G) (hk : LMo G k) {d : Sl} {a1 : Int32} (l : Launch) (r : Int32) (d1 : Sl) (h : Mo_fails d a1 = some (r, d1)) : Mt l yX6_fails cX6_fails 2 (some .int) rm_X6_fails G [.inr (k, 34), .inl (.int a1)] ((setS M k) d) (avI r) ((setS M k) d1) :=
  mt_of (mem := (setS M k)) (po := poM avI (setS M k)) (x0 := d) (t := (r, d1)) rfl hG [.inr (k, 34), .inl (.int a1)] (Nat.le_of_ble_eq_true rfl) rfl (fun C hC => r_Mo_fails hC hk d a1) h
-- FrameHeirsModel.aboveMany(I)I
abbrev rm_X6_aboveMany : Room := { frames := 2, cells := 0, slots := 0, locals := 42 }
theorem dX6_aboveMany_0 : decode cX6_aboveMany 0 = .ok (.iconst 0, 1) := by decide +kernel
theorem dX6_aboveMany_1 : decode cX6_aboveMany 1 = .ok (.istore_n 2, 1) := by decide +kernel
theorem dX6_aboveMany_2 : decode cX6_aboveMany 2 = .ok (.aload_n 0, 1) := by decide +kernel
theorem dX6_aboveMany_3 : decode cX6_aboveMany 3 = .ok (.iload_n 1, 1) := by decide +kernel
theorem dX6_aboveMany_4 : decode cX6_aboveMany 4 = .ok (.invokevirtual 210, 3) := by decide +kernel
theorem dX6_aboveMany_7 : decode cX6_aboveMany 7 = .ok (.istore_n 3, 1) := by decide +kernel
theorem dX6_aboveMany_8 : decode cX6_aboveMany 8 = .ok (.iload_n 3, 1) := by decide +kernel
theorem dX6_aboveMany_9 : decode cX6_aboveMany 9 = .ok (.ifCond .lt 15, 3) := by decide +kernel
theorem dX6_aboveMany_12 : decode cX6_aboveMany 12 = .ok (.iinc 2 1, 3) := by decide +kernel
theorem dX6_aboveMany_15 : decode cX6_aboveMany 15 = .ok (.aload_n 0, 1) := by decide +kernel
theorem dX6_aboveMany_16 : decode cX6_aboveMany 16 = .ok (.iload_n 3, 1) := by decide +kernel
theorem dX6_aboveMany_17 : decode cX6_aboveMany 17 = .ok (.invokevirtual 210, 3) := by decide +kernel
theorem dX6_aboveMany_20 : decode cX6_aboveMany 20 = .ok (.istore_n 3, 1) := by decide +kernel
theorem dX6_aboveMany_21 : decode cX6_aboveMany 21 = .ok (.goto (-13), 3) := by decide +kernel
theorem dX6_aboveMany_24 : decode cX6_aboveMany 24 = .ok (.iload_n 2, 1) := by decide +kernel
theorem dX6_aboveMany_25 : decode cX6_aboveMany 25 = .ok (.ireturn, 1) := by decide +kernel
def Mo_aboveMany_8 (d : Sl) : Nat → Int32 → Int32 → Option Int32
  | 0, _, _ => none
  | n + 1, v2, v3 =>
    if v3 < 0 then
      (some v2)
    else
      (bnd (v2 + (1 : Int32)) fun v2_1 =>
      bp (Mo_giverOf d v3) fun r2 =>
      bnd r2 fun v3_3 =>
      Mo_aboveMany_8 d n v2_1 v3_3)
def Mo_aboveMany (d : Sl) (a1 : Int32) : Option Int32 :=
  bnd (0 : Int32) fun v2_4 =>
  bp (Mo_giverOf d a1) fun r5 =>
  bnd r5 fun v3_6 =>
  Mo_aboveMany_8 d FU v2_4 v3_6
theorem y_X6_aboveMany : YV yX6_aboveMany cX6_aboveMany 4 (some .int) 1 := ⟨q1804, q131, q1805, q149, by decide +kernel, by decide +kernel, by decide +kernel, by decide +kernel⟩
theorem r_Mo_aboveMany_8 {C : Cxt} {G : Geo} {M : Mem} {k : Nat} {d : Sl} (hC : Cx C cX6_aboveMany 4 "FrameHeirsModel" (some .int) rm_X6_aboveMany G) (hk : LMo G k) : ∀ (n : Nat) (v2 : Int32) (v3 : Int32), Rz C 4 G (setS M k) (poP avI ((setS M k) d)) 8 [(0, .inr (k, 34)), (2, .inl (.int v2)), (3, .inl (.int v3))] [] d (Mo_aboveMany_8 d n v2 v3) := by
  intro n
  induction n with
  | zero => intros; exact z_none
  | succ n ih =>
    intro v2 v3
    rw [Mo_aboveMany_8]
    refine z_iload_n (pc := 8) hC 3 rfl 2 rfl dX6_aboveMany_8 ?_
    refine z_if_lt (pc := 9) hC 24 rfl dX6_aboveMany_9 ?_ ?_
    · refine z_iload_n (pc := 24) hC 2 rfl 1 rfl dX6_aboveMany_24 ?_
      exact z_iret (pc := 25) hC rfl dX6_aboveMany_25
    · refine z_iinc (pc := 12) (ls1 := fun v => [(2, .inl (.int v)), (0, .inr (k, 34)), (3, .inl (.int v3))]) hC 2 1 (by decide) (1 : Int32) rfl rfl (fun v => rfl) dX6_aboveMany_12 (fun v2_1 => ?_)
      refine z_aload_n (pc := 15) hC 0 rfl 1 rfl dX6_aboveMany_15 ?_
      refine z_iload_n (pc := 16) hC 3 rfl 2 rfl dX6_aboveMany_16 ?_
      refine z_piV (pc := 17) (st := []) hC y_X6_giverOf q1532 [.inl (.int v3)] rfl (hk 34 rfl) rfl rfl (c_X6_giverOf hC.2.2.2.2.2.2.1 hk) rfl ⟨rfl, rfl, (Nat.le_of_ble_eq_true rfl), (Nat.le_of_ble_eq_true rfl)⟩ (Nat.le_of_ble_eq_true rfl) dX6_aboveMany_17 (fun r2 => ?_)
      refine z_istore_n (pc := 20) (ls1 := fun v => [(3, .inl (.int v)), (2, .inl (.int v2_1)), (0, .inr (k, 34))]) hC 3 rfl (by decide) (fun v => rfl) dX6_aboveMany_20 (fun v3_3 => ?_)
      refine z_goto (pc := 21) hC 8 rfl dX6_aboveMany_21 ?_
      exact z_sub [2, 1, 0] rfl (ih v2_1 v3_3)
theorem r_Mo_aboveMany {C : Cxt} {G : Geo} {M : Mem} {k : Nat} (hC : Cx C cX6_aboveMany 4 "FrameHeirsModel" (some .int) rm_X6_aboveMany G) (hk : LMo G k) (d : Sl) (a1 : Int32) : Rz C 4 G (setS M k) (poP avI ((setS M k) d)) 0 [(0, .inr (k, 34)), (1, .inl (.int a1))] [] d (Mo_aboveMany d a1) := by
  unfold Mo_aboveMany
  refine z_iconst (pc := 0) hC (0 : Int32) rfl dX6_aboveMany_0 ?_
  refine z_istore_n (pc := 1) (ls1 := fun v => [(2, .inl (.int v)), (0, .inr (k, 34)), (1, .inl (.int a1))]) hC 2 rfl (by decide) (fun v => rfl) dX6_aboveMany_1 (fun v2_4 => ?_)
  refine z_aload_n (pc := 2) hC 0 rfl 1 rfl dX6_aboveMany_2 ?_
  refine z_iload_n (pc := 3) hC 1 rfl 2 rfl dX6_aboveMany_3 ?_
  refine z_piV (pc := 4) (st := []) hC y_X6_giverOf q1532 [.inl (.int a1)] rfl (hk 34 rfl) rfl rfl (c_X6_giverOf hC.2.2.2.2.2.2.1 hk) rfl ⟨rfl, rfl, (Nat.le_of_ble_eq_true rfl), (Nat.le_of_ble_eq_true rfl)⟩ (Nat.le_of_ble_eq_true rfl) dX6_aboveMany_4 (fun r5 => ?_)
  refine z_istore_n (pc := 7) (ls1 := fun v => [(3, .inl (.int v)), (2, .inl (.int v2_4)), (0, .inr (k, 34)), (1, .inl (.int a1))]) hC 3 rfl (by decide) (fun v => rfl) dX6_aboveMany_7 (fun v3_6 => ?_)
  exact z_sub [2, 1, 0] rfl (r_Mo_aboveMany_8 hC hk FU v2_4 v3_6)
theorem c_X6_aboveMany {G : Geo} {M : Mem} {k : Nat} (hG : GOk G) (hk : LMo G k) {d : Sl} {a1 : Int32} (l : Launch) (r : Int32) (h : Mo_aboveMany d a1 = some r) : Mt l yX6_aboveMany cX6_aboveMany 4 (some .int) rm_X6_aboveMany G [.inr (k, 34), .inl (.int a1)] ((setS M k) d) (avI r) ((setS M k) d) :=
  mt_of (mem := (setS M k)) (po := poP avI ((setS M k) d)) (x0 := d) (t := r) rfl hG [.inr (k, 34), .inl (.int a1)] (Nat.le_of_ble_eq_true rfl) rfl (fun C hC => r_Mo_aboveMany hC hk d a1) h
-- FrameHeirsModel.belowMany(I)I
abbrev rm_X6_belowMany : Room := { frames := 3, cells := 0, slots := 0, locals := 65 }
theorem dX6_belowMany_0 : decode cX6_belowMany 0 = .ok (.aload_n 0, 1) := by decide +kernel
theorem dX6_belowMany_1 : decode cX6_belowMany 1 = .ok (.iload_n 1, 1) := by decide +kernel
theorem dX6_belowMany_2 : decode cX6_belowMany 2 = .ok (.invokevirtual 237, 3) := by decide +kernel
theorem dX6_belowMany_5 : decode cX6_belowMany 5 = .ok (.aload_n 0, 1) := by decide +kernel
theorem dX6_belowMany_6 : decode cX6_belowMany 6 = .ok (.getfield 222, 3) := by decide +kernel
theorem dX6_belowMany_9 : decode cX6_belowMany 9 = .ok (.iconst 1, 1) := by decide +kernel
theorem dX6_belowMany_10 : decode cX6_belowMany 10 = .ok (.isub, 1) := by decide +kernel
theorem dX6_belowMany_11 : decode cX6_belowMany 11 = .ok (.ireturn, 1) := by decide +kernel
def Mo_belowMany (d : Sl) (a1 : Int32) : Option (Int32 × Sl) :=
  bd (Mo_tree d a1) fun r1 d2 =>
  some (((d2 34 28) - (1 : Int32)), d2)
theorem y_X6_belowMany : YV yX6_belowMany cX6_belowMany 2 (some .int) 1 := ⟨q1812, q133, q1813, q149, by decide +kernel, by decide +kernel, by decide +kernel, by decide +kernel⟩
theorem r_Mo_belowMany {C : Cxt} {G : Geo} {M : Mem} {k : Nat} (hC : Cx C cX6_belowMany 2 "FrameHeirsModel" (some .int) rm_X6_belowMany G) (hk : LMo G k) (d : Sl) (a1 : Int32) : Rz C 2 G (setS M k) (poM avI (setS M k)) 0 [(0, .inr (k, 34)), (1, .inl (.int a1))] [] d (Mo_belowMany d a1) := by
  unfold Mo_belowMany
  refine z_aload_n (pc := 0) hC 0 rfl 0 rfl dX6_belowMany_0 ?_
  refine z_iload_n (pc := 1) hC 1 rfl 1 rfl dX6_belowMany_1 ?_
  refine z_cvV (pc := 2) (st := []) hC y_X6_tree q1644 [.inl (.int a1)] rfl (hk 34 rfl) rfl rfl (c_X6_tree hC.2.2.2.2.2.2.1 hk) rfl ⟨rfl, rfl, (Nat.le_of_ble_eq_true rfl), (Nat.le_of_ble_eq_true rfl)⟩ (Nat.le_of_ble_eq_true rfl) dX6_belowMany_2 (fun r1 d2 => ?_)
  refine z_aload_n (pc := 5) hC 0 rfl 0 rfl dX6_belowMany_5 ?_
  refine zs_geti (pc := 6) hC (hk 34 rfl) f_34_28 q1298 dX6_belowMany_6 ?_
  refine z_iconst (pc := 9) hC (1 : Int32) rfl dX6_belowMany_9 ?_
  refine z_isub (pc := 10) hC dX6_belowMany_10 ?_
  exact z_iret (pc := 11) hC rfl dX6_belowMany_11
theorem c_X6_belowMany {G : Geo} {M : Mem} {k : Nat} (hG : GOk G) (hk : LMo G k) {d : Sl} {a1 : Int32} (l : Launch) (r : Int32) (d1 : Sl) (h : Mo_belowMany d a1 = some (r, d1)) : Mt l yX6_belowMany cX6_belowMany 2 (some .int) rm_X6_belowMany G [.inr (k, 34), .inl (.int a1)] ((setS M k) d) (avI r) ((setS M k) d1) :=
  mt_of (mem := (setS M k)) (po := poM avI (setS M k)) (x0 := d) (t := (r, d1)) rfl hG [.inr (k, 34), .inl (.int a1)] (Nat.le_of_ble_eq_true rfl) rfl (fun C hC => r_Mo_belowMany hC hk d a1) h
-- FrameHeirsModel.heirsMany(I)I
abbrev rm_X6_heirsMany : Room := { frames := 2, cells := 0, slots := 0, locals := 42 }
theorem dX6_heirsMany_0 : decode cX6_heirsMany 0 = .ok (.iconst 0, 1) := by decide +kernel
theorem dX6_heirsMany_1 : decode cX6_heirsMany 1 = .ok (.istore_n 2, 1) := by decide +kernel
theorem dX6_heirsMany_2 : decode cX6_heirsMany 2 = .ok (.aload_n 0, 1) := by decide +kernel
theorem dX6_heirsMany_3 : decode cX6_heirsMany 3 = .ok (.iload_n 1, 1) := by decide +kernel
theorem dX6_heirsMany_4 : decode cX6_heirsMany 4 = .ok (.invokevirtual 228, 3) := by decide +kernel
theorem dX6_heirsMany_7 : decode cX6_heirsMany 7 = .ok (.istore_n 3, 1) := by decide +kernel
theorem dX6_heirsMany_8 : decode cX6_heirsMany 8 = .ok (.iload_n 3, 1) := by decide +kernel
theorem dX6_heirsMany_9 : decode cX6_heirsMany 9 = .ok (.ifCond .lt 15, 3) := by decide +kernel
theorem dX6_heirsMany_12 : decode cX6_heirsMany 12 = .ok (.iinc 2 1, 3) := by decide +kernel
theorem dX6_heirsMany_15 : decode cX6_heirsMany 15 = .ok (.aload_n 0, 1) := by decide +kernel
theorem dX6_heirsMany_16 : decode cX6_heirsMany 16 = .ok (.iload_n 3, 1) := by decide +kernel
theorem dX6_heirsMany_17 : decode cX6_heirsMany 17 = .ok (.invokevirtual 231, 3) := by decide +kernel
theorem dX6_heirsMany_20 : decode cX6_heirsMany 20 = .ok (.istore_n 3, 1) := by decide +kernel
theorem dX6_heirsMany_21 : decode cX6_heirsMany 21 = .ok (.goto (-13), 3) := by decide +kernel
theorem dX6_heirsMany_24 : decode cX6_heirsMany 24 = .ok (.iload_n 2, 1) := by decide +kernel
theorem dX6_heirsMany_25 : decode cX6_heirsMany 25 = .ok (.ireturn, 1) := by decide +kernel
def Mo_heirsMany_8 (d : Sl) : Nat → Int32 → Int32 → Option Int32
  | 0, _, _ => none
  | n + 1, v2, v3 =>
    if v3 < 0 then
      (some v2)
    else
      (bnd (v2 + (1 : Int32)) fun v2_1 =>
      bp (Mo_nextOf d v3) fun r2 =>
      bnd r2 fun v3_3 =>
      Mo_heirsMany_8 d n v2_1 v3_3)
def Mo_heirsMany (d : Sl) (a1 : Int32) : Option Int32 :=
  bnd (0 : Int32) fun v2_4 =>
  bp (Mo_firstOf d a1) fun r5 =>
  bnd r5 fun v3_6 =>
  Mo_heirsMany_8 d FU v2_4 v3_6
theorem y_X6_heirsMany : YV yX6_heirsMany cX6_heirsMany 4 (some .int) 1 := ⟨q1808, q132, q1809, q149, by decide +kernel, by decide +kernel, by decide +kernel, by decide +kernel⟩
theorem r_Mo_heirsMany_8 {C : Cxt} {G : Geo} {M : Mem} {k : Nat} {d : Sl} (hC : Cx C cX6_heirsMany 4 "FrameHeirsModel" (some .int) rm_X6_heirsMany G) (hk : LMo G k) : ∀ (n : Nat) (v2 : Int32) (v3 : Int32), Rz C 4 G (setS M k) (poP avI ((setS M k) d)) 8 [(0, .inr (k, 34)), (2, .inl (.int v2)), (3, .inl (.int v3))] [] d (Mo_heirsMany_8 d n v2 v3) := by
  intro n
  induction n with
  | zero => intros; exact z_none
  | succ n ih =>
    intro v2 v3
    rw [Mo_heirsMany_8]
    refine z_iload_n (pc := 8) hC 3 rfl 2 rfl dX6_heirsMany_8 ?_
    refine z_if_lt (pc := 9) hC 24 rfl dX6_heirsMany_9 ?_ ?_
    · refine z_iload_n (pc := 24) hC 2 rfl 1 rfl dX6_heirsMany_24 ?_
      exact z_iret (pc := 25) hC rfl dX6_heirsMany_25
    · refine z_iinc (pc := 12) (ls1 := fun v => [(2, .inl (.int v)), (0, .inr (k, 34)), (3, .inl (.int v3))]) hC 2 1 (by decide) (1 : Int32) rfl rfl (fun v => rfl) dX6_heirsMany_12 (fun v2_1 => ?_)
      refine z_aload_n (pc := 15) hC 0 rfl 1 rfl dX6_heirsMany_15 ?_
      refine z_iload_n (pc := 16) hC 3 rfl 2 rfl dX6_heirsMany_16 ?_
      refine z_piV (pc := 17) (st := []) hC y_X6_nextOf q1588 [.inl (.int v3)] rfl (hk 34 rfl) rfl rfl (c_X6_nextOf hC.2.2.2.2.2.2.1 hk) rfl ⟨rfl, rfl, (Nat.le_of_ble_eq_true rfl), (Nat.le_of_ble_eq_true rfl)⟩ (Nat.le_of_ble_eq_true rfl) dX6_heirsMany_17 (fun r2 => ?_)
      refine z_istore_n (pc := 20) (ls1 := fun v => [(3, .inl (.int v)), (2, .inl (.int v2_1)), (0, .inr (k, 34))]) hC 3 rfl (by decide) (fun v => rfl) dX6_heirsMany_20 (fun v3_3 => ?_)
      refine z_goto (pc := 21) hC 8 rfl dX6_heirsMany_21 ?_
      exact z_sub [2, 1, 0] rfl (ih v2_1 v3_3)
theorem r_Mo_heirsMany {C : Cxt} {G : Geo} {M : Mem} {k : Nat} (hC : Cx C cX6_heirsMany 4 "FrameHeirsModel" (some .int) rm_X6_heirsMany G) (hk : LMo G k) (d : Sl) (a1 : Int32) : Rz C 4 G (setS M k) (poP avI ((setS M k) d)) 0 [(0, .inr (k, 34)), (1, .inl (.int a1))] [] d (Mo_heirsMany d a1) := by
  unfold Mo_heirsMany
  refine z_iconst (pc := 0) hC (0 : Int32) rfl dX6_heirsMany_0 ?_
  refine z_istore_n (pc := 1) (ls1 := fun v => [(2, .inl (.int v)), (0, .inr (k, 34)), (1, .inl (.int a1))]) hC 2 rfl (by decide) (fun v => rfl) dX6_heirsMany_1 (fun v2_4 => ?_)
  refine z_aload_n (pc := 2) hC 0 rfl 1 rfl dX6_heirsMany_2 ?_
  refine z_iload_n (pc := 3) hC 1 rfl 2 rfl dX6_heirsMany_3 ?_
  refine z_piV (pc := 4) (st := []) hC y_X6_firstOf q1584 [.inl (.int a1)] rfl (hk 34 rfl) rfl rfl (c_X6_firstOf hC.2.2.2.2.2.2.1 hk) rfl ⟨rfl, rfl, (Nat.le_of_ble_eq_true rfl), (Nat.le_of_ble_eq_true rfl)⟩ (Nat.le_of_ble_eq_true rfl) dX6_heirsMany_4 (fun r5 => ?_)
  refine z_istore_n (pc := 7) (ls1 := fun v => [(3, .inl (.int v)), (2, .inl (.int v2_4)), (0, .inr (k, 34)), (1, .inl (.int a1))]) hC 3 rfl (by decide) (fun v => rfl) dX6_heirsMany_7 (fun v3_6 => ?_)
  exact z_sub [2, 1, 0] rfl (r_Mo_heirsMany_8 hC hk FU v2_4 v3_6)
theorem c_X6_heirsMany {G : Geo} {M : Mem} {k : Nat} (hG : GOk G) (hk : LMo G k) {d : Sl} {a1 : Int32} (l : Launch) (r : Int32) (h : Mo_heirsMany d a1 = some r) : Mt l yX6_heirsMany cX6_heirsMany 4 (some .int) rm_X6_heirsMany G [.inr (k, 34), .inl (.int a1)] ((setS M k) d) (avI r) ((setS M k) d) :=
  mt_of (mem := (setS M k)) (po := poP avI ((setS M k) d)) (x0 := d) (t := r) rfl hG [.inr (k, 34), .inl (.int a1)] (Nat.le_of_ble_eq_true rfl) rfl (fun C hC => r_Mo_heirsMany hC hk d a1) h
