-- FrameHeirs.tried(I)I
abbrev rm_X5_tried : Room := { frames := 6, cells := 0, slots := 0, locals := 156 }
theorem dX5_tried_0 : decode cX5_tried 0 = .ok (.iload_n 1, 1) := by decide +kernel
theorem dX5_tried_1 : decode cX5_tried 1 = .ok (.tableswitch 204 0 4 #[35, 65, 100, 111, 151], 35) := by decide +kernel
theorem dX5_tried_36 : decode cX5_tried 36 = .ok (.aload_n 0, 1) := by decide +kernel
theorem dX5_tried_37 : decode cX5_tried 37 = .ok (.getfield 48, 3) := by decide +kernel
theorem dX5_tried_40 : decode cX5_tried 40 = .ok (.aload_n 0, 1) := by decide +kernel
theorem dX5_tried_41 : decode cX5_tried 41 = .ok (.getfield 38, 3) := by decide +kernel
theorem dX5_tried_44 : decode cX5_tried 44 = .ok (.invokevirtual 251, 3) := by decide +kernel
theorem dX5_tried_47 : decode cX5_tried 47 = .ok (.aload_n 0, 1) := by decide +kernel
theorem dX5_tried_48 : decode cX5_tried 48 = .ok (.getfield 48, 3) := by decide +kernel
theorem dX5_tried_51 : decode cX5_tried 51 = .ok (.invokevirtual 119, 3) := by decide +kernel
theorem dX5_tried_54 : decode cX5_tried 54 = .ok (.pop, 1) := by decide +kernel
theorem dX5_tried_55 : decode cX5_tried 55 = .ok (.aload_n 0, 1) := by decide +kernel
theorem dX5_tried_56 : decode cX5_tried 56 = .ok (.getfield 48, 3) := by decide +kernel
theorem dX5_tried_59 : decode cX5_tried 59 = .ok (.getfield 123, 3) := by decide +kernel
theorem dX5_tried_62 : decode cX5_tried 62 = .ok (.invokevirtual 273, 3) := by decide +kernel
theorem dX5_tried_65 : decode cX5_tried 65 = .ok (.ireturn, 1) := by decide +kernel
theorem dX5_tried_66 : decode cX5_tried 66 = .ok (.aload_n 0, 1) := by decide +kernel
theorem dX5_tried_67 : decode cX5_tried 67 = .ok (.getfield 48, 3) := by decide +kernel
theorem dX5_tried_70 : decode cX5_tried 70 = .ok (.aload_n 0, 1) := by decide +kernel
theorem dX5_tried_71 : decode cX5_tried 71 = .ok (.getfield 38, 3) := by decide +kernel
theorem dX5_tried_74 : decode cX5_tried 74 = .ok (.invokevirtual 251, 3) := by decide +kernel
theorem dX5_tried_77 : decode cX5_tried 77 = .ok (.aload_n 0, 1) := by decide +kernel
theorem dX5_tried_78 : decode cX5_tried 78 = .ok (.getfield 48, 3) := by decide +kernel
theorem dX5_tried_81 : decode cX5_tried 81 = .ok (.invokevirtual 119, 3) := by decide +kernel
theorem dX5_tried_84 : decode cX5_tried 84 = .ok (.pop, 1) := by decide +kernel
theorem dX5_tried_85 : decode cX5_tried 85 = .ok (.aload_n 0, 1) := by decide +kernel
theorem dX5_tried_86 : decode cX5_tried 86 = .ok (.getfield 48, 3) := by decide +kernel
theorem dX5_tried_89 : decode cX5_tried 89 = .ok (.getfield 276, 3) := by decide +kernel
theorem dX5_tried_92 : decode cX5_tried 92 = .ok (.aload_n 0, 1) := by decide +kernel
theorem dX5_tried_93 : decode cX5_tried 93 = .ok (.getfield 38, 3) := by decide +kernel
theorem dX5_tried_96 : decode cX5_tried 96 = .ok (.getfield 276, 3) := by decide +kernel
theorem dX5_tried_99 : decode cX5_tried 99 = .ok (.isub, 1) := by decide +kernel
theorem dX5_tried_100 : decode cX5_tried 100 = .ok (.ireturn, 1) := by decide +kernel
theorem dX5_tried_101 : decode cX5_tried 101 = .ok (.aload_n 0, 1) := by decide +kernel
theorem dX5_tried_102 : decode cX5_tried 102 = .ok (.getfield 38, 3) := by decide +kernel
theorem dX5_tried_105 : decode cX5_tried 105 = .ok (.getfield 123, 3) := by decide +kernel
theorem dX5_tried_108 : decode cX5_tried 108 = .ok (.invokevirtual 279, 3) := by decide +kernel
theorem dX5_tried_111 : decode cX5_tried 111 = .ok (.ireturn, 1) := by decide +kernel
theorem dX5_tried_112 : decode cX5_tried 112 = .ok (.aload_n 0, 1) := by decide +kernel
theorem dX5_tried_113 : decode cX5_tried 113 = .ok (.getfield 48, 3) := by decide +kernel
theorem dX5_tried_116 : decode cX5_tried 116 = .ok (.aload_n 0, 1) := by decide +kernel
theorem dX5_tried_117 : decode cX5_tried 117 = .ok (.getfield 38, 3) := by decide +kernel
theorem dX5_tried_120 : decode cX5_tried 120 = .ok (.invokevirtual 251, 3) := by decide +kernel
theorem dX5_tried_123 : decode cX5_tried 123 = .ok (.aload_n 0, 1) := by decide +kernel
theorem dX5_tried_124 : decode cX5_tried 124 = .ok (.getfield 48, 3) := by decide +kernel
theorem dX5_tried_127 : decode cX5_tried 127 = .ok (.aload_n 0, 1) := by decide +kernel
theorem dX5_tried_128 : decode cX5_tried 128 = .ok (.getfield 38, 3) := by decide +kernel
theorem dX5_tried_131 : decode cX5_tried 131 = .ok (.getfield 123, 3) := by decide +kernel
theorem dX5_tried_134 : decode cX5_tried 134 = .ok (.invokevirtual 279, 3) := by decide +kernel
theorem dX5_tried_137 : decode cX5_tried 137 = .ok (.invokevirtual 109, 3) := by decide +kernel
theorem dX5_tried_140 : decode cX5_tried 140 = .ok (.pop, 1) := by decide +kernel
theorem dX5_tried_141 : decode cX5_tried 141 = .ok (.aload_n 0, 1) := by decide +kernel
theorem dX5_tried_142 : decode cX5_tried 142 = .ok (.getfield 48, 3) := by decide +kernel
theorem dX5_tried_145 : decode cX5_tried 145 = .ok (.getfield 123, 3) := by decide +kernel
theorem dX5_tried_148 : decode cX5_tried 148 = .ok (.invokevirtual 273, 3) := by decide +kernel
theorem dX5_tried_151 : decode cX5_tried 151 = .ok (.ireturn, 1) := by decide +kernel
theorem dX5_tried_152 : decode cX5_tried 152 = .ok (.aload_n 0, 1) := by decide +kernel
theorem dX5_tried_153 : decode cX5_tried 153 = .ok (.getfield 48, 3) := by decide +kernel
theorem dX5_tried_156 : decode cX5_tried 156 = .ok (.aload_n 0, 1) := by decide +kernel
theorem dX5_tried_157 : decode cX5_tried 157 = .ok (.getfield 38, 3) := by decide +kernel
theorem dX5_tried_160 : decode cX5_tried 160 = .ok (.invokevirtual 251, 3) := by decide +kernel
theorem dX5_tried_163 : decode cX5_tried 163 = .ok (.iconst 0, 1) := by decide +kernel
theorem dX5_tried_164 : decode cX5_tried 164 = .ok (.istore_n 2, 1) := by decide +kernel
theorem dX5_tried_165 : decode cX5_tried 165 = .ok (.iload_n 2, 1) := by decide +kernel
theorem dX5_tried_166 : decode cX5_tried 166 = .ok (.aload_n 0, 1) := by decide +kernel
theorem dX5_tried_167 : decode cX5_tried 167 = .ok (.getfield 48, 3) := by decide +kernel
theorem dX5_tried_170 : decode cX5_tried 170 = .ok (.getfield 42, 3) := by decide +kernel
theorem dX5_tried_173 : decode cX5_tried 173 = .ok (.getfield 282, 3) := by decide +kernel
theorem dX5_tried_176 : decode cX5_tried 176 = .ok (.if_icmp .ge 18, 3) := by decide +kernel
theorem dX5_tried_179 : decode cX5_tried 179 = .ok (.aload_n 0, 1) := by decide +kernel
theorem dX5_tried_180 : decode cX5_tried 180 = .ok (.getfield 48, 3) := by decide +kernel
theorem dX5_tried_183 : decode cX5_tried 183 = .ok (.iload_n 2, 1) := by decide +kernel
theorem dX5_tried_184 : decode cX5_tried 184 = .ok (.invokevirtual 138, 3) := by decide +kernel
theorem dX5_tried_187 : decode cX5_tried 187 = .ok (.pop, 1) := by decide +kernel
theorem dX5_tried_188 : decode cX5_tried 188 = .ok (.iinc 2 1, 3) := by decide +kernel
theorem dX5_tried_191 : decode cX5_tried 191 = .ok (.goto (-26), 3) := by decide +kernel
theorem dX5_tried_194 : decode cX5_tried 194 = .ok (.aload_n 0, 1) := by decide +kernel
theorem dX5_tried_195 : decode cX5_tried 195 = .ok (.getfield 48, 3) := by decide +kernel
theorem dX5_tried_198 : decode cX5_tried 198 = .ok (.getfield 123, 3) := by decide +kernel
theorem dX5_tried_201 : decode cX5_tried 201 = .ok (.getfield 135, 3) := by decide +kernel
theorem dX5_tried_204 : decode cX5_tried 204 = .ok (.ireturn, 1) := by decide +kernel
theorem dX5_tried_205 : decode cX5_tried 205 = .ok (.iconst (-1), 1) := by decide +kernel
theorem dX5_tried_206 : decode cX5_tried 206 = .ok (.ireturn, 1) := by decide +kernel
def Fh_tried_165 : Nat → Int32 → Mem → Option (Int32 × Mem)
  | 0, _, _ => none
  | n + 1, v2, d =>
    gref (d 0 0 6) fun u1 =>
    gref (d u1 10 0) fun u2 =>
    if (d u2 4 5) ≤ v2 then
      (gref (d 0 0 6) fun u3 =>
      some ((d u3 17 17), d))
    else
      (gref (d 0 0 6) fun u4 =>
      bd (lft d u4 (Wo_joinAll d (d u4) v2)) fun r5 d6 =>
      bnd (v2 + (1 : Int32)) fun v2_7 =>
      Fh_tried_165 n v2_7 d6)
def Fh_tried (d : Mem) (a1 : Int32) : Option (Int32 × Mem) :=
  if a1 = (0 : Int32) then
    (gref (d 0 0 6) fun u35 =>
    gref (d 0 0 4) fun u36 =>
    bd (Wo_copyFrom u35 u36 d) fun r37 d38 =>
    gref (d38 0 0 6) fun u39 =>
    bd (lft d38 u39 (Wo_settleAll d38 (d38 u39))) fun r40 d41 =>
    gref (d41 0 0 6) fun u42 =>
    bp (De_pagesOfAll (d41 u42)) fun r43 =>
    some (r43, d41))
  else
    (if a1 = (1 : Int32) then
      (gref (d 0 0 6) fun u26 =>
      gref (d 0 0 4) fun u27 =>
      bd (Wo_copyFrom u26 u27 d) fun r28 d29 =>
      gref (d29 0 0 6) fun u30 =>
      bd (lft d29 u30 (Wo_settleAll d29 (d29 u30))) fun r31 d32 =>
      gref (d32 0 0 6) fun u33 =>
      gref (d32 0 0 4) fun u34 =>
      some (((d32 u33 10 13) - (d32 u34 10 13)), d32))
    else
      (if a1 = (2 : Int32) then
        (gref (d 0 0 4) fun u24 =>
        bp (De_allToDo (d u24)) fun r25 =>
        some (r25, d))
      else
        (if a1 = (3 : Int32) then
          (gref (d 0 0 6) fun u13 =>
          gref (d 0 0 4) fun u14 =>
          bd (Wo_copyFrom u13 u14 d) fun r15 d16 =>
          gref (d16 0 0 6) fun u17 =>
          gref (d16 0 0 4) fun u18 =>
          bp (De_allToDo (d16 u18)) fun r19 =>
          bd (lft d16 u17 (Wo_workOn d16 (d16 u17) r19)) fun r20 d21 =>
          gref (d21 0 0 6) fun u22 =>
          bp (De_pagesOfAll (d21 u22)) fun r23 =>
          some (r23, d21))
        else
          (if a1 = (4 : Int32) then
            (gref (d 0 0 6) fun u8 =>
            gref (d 0 0 4) fun u9 =>
            bd (Wo_copyFrom u8 u9 d) fun r10 d11 =>
            bnd (0 : Int32) fun v2_12 =>
            Fh_tried_165 FU v2_12 d11)
          else
            (some ((-1 : Int32), d))))))
theorem y_X5_tried : YV yX5_tried cX5_tried 3 (some .int) 1 := ⟨q1090, q1091, q1092, q143, by decide +kernel, by decide +kernel, by decide +kernel, by decide +kernel⟩
theorem r_Fh_tried_165 {C : Cxt} {G : Geo} (hC : Cx C cX5_tried 3 "FrameHeirs" (some .int) rm_X5_tried G) (hcl : GCl G) (hX : LXx G) (hT : LSt G) : ∀ (n : Nat) (v2 : Int32) (d : Mem), Rz C 3 G gm (poM avI gm) 165 [(0, .inr (0, 0)), (2, .inl (.int v2))] [] d (Fh_tried_165 n v2 d) := by
  intro n
  induction n with
  | zero => intros; exact z_none
  | succ n ih =>
    intro v2 d
    rw [Fh_tried_165]
    refine z_iload_n (pc := 165) hC 2 rfl 1 rfl dX5_tried_165 ?_
    refine z_aload_n (pc := 166) hC 0 rfl 0 rfl dX5_tried_166 ?_
    refine zg_getW (pc := 167) hC hcl (hX 0 rfl) f_0_6 q437 dX5_tried_167 (fun u1 hu1 gu1 => ?_)
    refine zg_getS (pc := 170) hC hcl (hu1 10 rfl) f_10_0 q376 dX5_tried_170 (fun u2 hu2 gu2 => ?_)
    refine zg_geti (pc := 173) hC (hu2 4 rfl) f_4_5 q189 dX5_tried_173 ?_
    refine z_icmp_ge (pc := 176) hC 194 rfl dX5_tried_176 ?_ ?_
    · refine z_aload_n (pc := 194) hC 0 rfl 0 rfl dX5_tried_194 ?_
      refine zg_getW (pc := 195) hC hcl (hX 0 rfl) f_0_6 q437 dX5_tried_195 (fun u3 hu3 gu3 => ?_)
      refine z_getc (pc := 198) hC (hu3 10 rfl) f_10_1 q379 dX5_tried_198 ?_
      refine zg_geti (pc := 201) hC (hu3 17 rfl) f_17_17 q330 dX5_tried_201 ?_
      exact z_iret (pc := 204) hC rfl dX5_tried_204
    · refine z_aload_n (pc := 179) hC 0 rfl 0 rfl dX5_tried_179 ?_
      refine zg_getW (pc := 180) hC hcl (hX 0 rfl) f_0_6 q437 dX5_tried_180 (fun u4 hu4 gu4 => ?_)
      refine z_iload_n (pc := 183) hC 2 rfl 1 rfl dX5_tried_183 ?_
      refine z_ciV (pc := 184) (st := []) hC y_X4_joinAll q885 [.inl (.int v2)] rfl (hu4 10 rfl) rfl rfl (lft_m (c_X4_joinAll hC.2.2.2.2.2.2.1 hu4 gu4 hcl)) rfl ⟨rfl, rfl, (Nat.le_of_ble_eq_true rfl), (Nat.le_of_ble_eq_true rfl)⟩ (Nat.le_of_ble_eq_true rfl) dX5_tried_184 (fun r5 d6 => ?_)
      refine z_pop (pc := 187) hC rfl dX5_tried_187 ?_
      refine z_iinc (pc := 188) (ls1 := fun v => [(2, .inl (.int v)), (0, .inr (0, 0))]) hC 2 1 (by decide) (1 : Int32) rfl rfl (fun v => rfl) dX5_tried_188 (fun v2_7 => ?_)
      refine z_goto (pc := 191) hC 165 rfl dX5_tried_191 ?_
      exact z_sub [1, 0] rfl (ih v2_7 d6)
theorem r_Fh_tried {C : Cxt} {G : Geo} (hC : Cx C cX5_tried 3 "FrameHeirs" (some .int) rm_X5_tried G) (hcl : GCl G) (hX : LXx G) (hT : LSt G) (d : Mem) (a1 : Int32) : Rz C 3 G gm (poM avI gm) 0 [(0, .inr (0, 0)), (1, .inl (.int a1))] [] d (Fh_tried d a1) := by
  unfold Fh_tried
  refine z_iload_n (pc := 0) hC 1 rfl 1 rfl dX5_tried_0 ?_
  refine z_ite (fun e => ?_) (fun e0 => ?_)
  · refine z_tswIn (pc := 1) hC 0 36 (by rw [e]; rfl) (by decide) (by decide) rfl rfl dX5_tried_1 ?_
    refine z_aload_n (pc := 36) hC 0 rfl 0 rfl dX5_tried_36 ?_
    refine zg_getW (pc := 37) hC hcl (hX 0 rfl) f_0_6 q437 dX5_tried_37 (fun u35 hu35 gu35 => ?_)
    refine z_aload_n (pc := 40) hC 0 rfl 0 rfl dX5_tried_40 ?_
    refine zg_getW (pc := 41) hC hcl (hX 0 rfl) f_0_4 q435 dX5_tried_41 (fun u36 hu36 gu36 => ?_)
    refine z_cvV (pc := 44) (st := []) hC y_X4_copyFrom q616 [.inr (u36, 10)] rfl (hu35 10 rfl) rfl rfl (c_X4_copyFrom hC.2.2.2.2.2.2.1 hcl hX hT hu35 gu35 hu36 gu36) rfl ⟨rfl, rfl, (Nat.le_of_ble_eq_true rfl), (Nat.le_of_ble_eq_true rfl)⟩ (Nat.le_of_ble_eq_true rfl) dX5_tried_44 (fun r37 d38 => ?_)
    refine z_aload_n (pc := 47) hC 0 rfl 0 rfl dX5_tried_47 ?_
    refine zg_getW (pc := 48) hC hcl (hX 0 rfl) f_0_6 q437 dX5_tried_48 (fun u39 hu39 gu39 => ?_)
    refine z_ciV (pc := 51) (st := []) hC y_X4_settleAll q867 [] rfl (hu39 10 rfl) rfl rfl (lft_m (c_X4_settleAll hC.2.2.2.2.2.2.1 hu39 gu39 hcl)) rfl ⟨rfl, rfl, (Nat.le_of_ble_eq_true rfl), (Nat.le_of_ble_eq_true rfl)⟩ (Nat.le_of_ble_eq_true rfl) dX5_tried_51 (fun r40 d41 => ?_)
    refine z_pop (pc := 54) hC rfl dX5_tried_54 ?_
    refine z_aload_n (pc := 55) hC 0 rfl 0 rfl dX5_tried_55 ?_
    refine zg_getW (pc := 56) hC hcl (hX 0 rfl) f_0_6 q437 dX5_tried_56 (fun u42 hu42 gu42 => ?_)
    refine z_getc (pc := 59) hC (hu42 10 rfl) f_10_1 q379 dX5_tried_59 ?_
    refine z_piV (pc := 62) (st := []) hC y_X0_pagesOfAll q1093 [] rfl (hu42 17 rfl) rfl rfl (lft_p (c_X0_pagesOfAll hC.2.2.2.2.2.2.1 hu42 gu42)) rfl ⟨rfl, rfl, (Nat.le_of_ble_eq_true rfl), (Nat.le_of_ble_eq_true rfl)⟩ (Nat.le_of_ble_eq_true rfl) dX5_tried_62 (fun r43 => ?_)
    exact z_iret (pc := 65) hC rfl dX5_tried_65
  · refine z_ite (fun e => ?_) (fun e1 => ?_)
    · refine z_tswIn (pc := 1) hC 1 66 (by rw [e]; rfl) (by decide) (by decide) rfl rfl dX5_tried_1 ?_
      refine z_aload_n (pc := 66) hC 0 rfl 0 rfl dX5_tried_66 ?_
      refine zg_getW (pc := 67) hC hcl (hX 0 rfl) f_0_6 q437 dX5_tried_67 (fun u26 hu26 gu26 => ?_)
      refine z_aload_n (pc := 70) hC 0 rfl 0 rfl dX5_tried_70 ?_
      refine zg_getW (pc := 71) hC hcl (hX 0 rfl) f_0_4 q435 dX5_tried_71 (fun u27 hu27 gu27 => ?_)
      refine z_cvV (pc := 74) (st := []) hC y_X4_copyFrom q616 [.inr (u27, 10)] rfl (hu26 10 rfl) rfl rfl (c_X4_copyFrom hC.2.2.2.2.2.2.1 hcl hX hT hu26 gu26 hu27 gu27) rfl ⟨rfl, rfl, (Nat.le_of_ble_eq_true rfl), (Nat.le_of_ble_eq_true rfl)⟩ (Nat.le_of_ble_eq_true rfl) dX5_tried_74 (fun r28 d29 => ?_)
      refine z_aload_n (pc := 77) hC 0 rfl 0 rfl dX5_tried_77 ?_
      refine zg_getW (pc := 78) hC hcl (hX 0 rfl) f_0_6 q437 dX5_tried_78 (fun u30 hu30 gu30 => ?_)
      refine z_ciV (pc := 81) (st := []) hC y_X4_settleAll q867 [] rfl (hu30 10 rfl) rfl rfl (lft_m (c_X4_settleAll hC.2.2.2.2.2.2.1 hu30 gu30 hcl)) rfl ⟨rfl, rfl, (Nat.le_of_ble_eq_true rfl), (Nat.le_of_ble_eq_true rfl)⟩ (Nat.le_of_ble_eq_true rfl) dX5_tried_81 (fun r31 d32 => ?_)
      refine z_pop (pc := 84) hC rfl dX5_tried_84 ?_
      refine z_aload_n (pc := 85) hC 0 rfl 0 rfl dX5_tried_85 ?_
      refine zg_getW (pc := 86) hC hcl (hX 0 rfl) f_0_6 q437 dX5_tried_86 (fun u33 hu33 gu33 => ?_)
      refine zg_geti (pc := 89) hC (hu33 10 rfl) f_10_13 q396 dX5_tried_89 ?_
      refine z_aload_n (pc := 92) hC 0 rfl 0 rfl dX5_tried_92 ?_
      refine zg_getW (pc := 93) hC hcl (hX 0 rfl) f_0_4 q435 dX5_tried_93 (fun u34 hu34 gu34 => ?_)
      refine zg_geti (pc := 96) hC (hu34 10 rfl) f_10_13 q396 dX5_tried_96 ?_
      refine z_isub (pc := 99) hC dX5_tried_99 ?_
      exact z_iret (pc := 100) hC rfl dX5_tried_100
    · refine z_ite (fun e => ?_) (fun e2 => ?_)
      · refine z_tswIn (pc := 1) hC 2 101 (by rw [e]; rfl) (by decide) (by decide) rfl rfl dX5_tried_1 ?_
        refine z_aload_n (pc := 101) hC 0 rfl 0 rfl dX5_tried_101 ?_
        refine zg_getW (pc := 102) hC hcl (hX 0 rfl) f_0_4 q435 dX5_tried_102 (fun u24 hu24 gu24 => ?_)
        refine z_getc (pc := 105) hC (hu24 10 rfl) f_10_1 q379 dX5_tried_105 ?_
        refine z_piV (pc := 108) (st := []) hC y_X0_allToDo q1097 [] rfl (hu24 17 rfl) rfl rfl (lft_p (c_X0_allToDo hC.2.2.2.2.2.2.1 hu24 gu24)) rfl ⟨rfl, rfl, (Nat.le_of_ble_eq_true rfl), (Nat.le_of_ble_eq_true rfl)⟩ (Nat.le_of_ble_eq_true rfl) dX5_tried_108 (fun r25 => ?_)
        exact z_iret (pc := 111) hC rfl dX5_tried_111
      · refine z_ite (fun e => ?_) (fun e3 => ?_)
        · refine z_tswIn (pc := 1) hC 3 112 (by rw [e]; rfl) (by decide) (by decide) rfl rfl dX5_tried_1 ?_
          refine z_aload_n (pc := 112) hC 0 rfl 0 rfl dX5_tried_112 ?_
          refine zg_getW (pc := 113) hC hcl (hX 0 rfl) f_0_6 q437 dX5_tried_113 (fun u13 hu13 gu13 => ?_)
          refine z_aload_n (pc := 116) hC 0 rfl 0 rfl dX5_tried_116 ?_
          refine zg_getW (pc := 117) hC hcl (hX 0 rfl) f_0_4 q435 dX5_tried_117 (fun u14 hu14 gu14 => ?_)
          refine z_cvV (pc := 120) (st := []) hC y_X4_copyFrom q616 [.inr (u14, 10)] rfl (hu13 10 rfl) rfl rfl (c_X4_copyFrom hC.2.2.2.2.2.2.1 hcl hX hT hu13 gu13 hu14 gu14) rfl ⟨rfl, rfl, (Nat.le_of_ble_eq_true rfl), (Nat.le_of_ble_eq_true rfl)⟩ (Nat.le_of_ble_eq_true rfl) dX5_tried_120 (fun r15 d16 => ?_)
          refine z_aload_n (pc := 123) hC 0 rfl 0 rfl dX5_tried_123 ?_
          refine zg_getW (pc := 124) hC hcl (hX 0 rfl) f_0_6 q437 dX5_tried_124 (fun u17 hu17 gu17 => ?_)
          refine z_aload_n (pc := 127) hC 0 rfl 0 rfl dX5_tried_127 ?_
          refine zg_getW (pc := 128) hC hcl (hX 0 rfl) f_0_4 q435 dX5_tried_128 (fun u18 hu18 gu18 => ?_)
          refine z_getc (pc := 131) hC (hu18 10 rfl) f_10_1 q379 dX5_tried_131 ?_
          refine z_piV (pc := 134) (st := [.inr (u17, 10)]) hC y_X0_allToDo q1097 [] rfl (hu18 17 rfl) rfl rfl (lft_p (c_X0_allToDo hC.2.2.2.2.2.2.1 hu18 gu18)) rfl ⟨rfl, rfl, (Nat.le_of_ble_eq_true rfl), (Nat.le_of_ble_eq_true rfl)⟩ (Nat.le_of_ble_eq_true rfl) dX5_tried_134 (fun r19 => ?_)
          refine z_ciV (pc := 137) (st := []) hC y_X4_workOn q781 [.inl (.int r19)] rfl (hu17 10 rfl) rfl rfl (lft_m (c_X4_workOn hC.2.2.2.2.2.2.1 hu17 gu17 hcl)) rfl ⟨rfl, rfl, (Nat.le_of_ble_eq_true rfl), (Nat.le_of_ble_eq_true rfl)⟩ (Nat.le_of_ble_eq_true rfl) dX5_tried_137 (fun r20 d21 => ?_)
          refine z_pop (pc := 140) hC rfl dX5_tried_140 ?_
          refine z_aload_n (pc := 141) hC 0 rfl 0 rfl dX5_tried_141 ?_
          refine zg_getW (pc := 142) hC hcl (hX 0 rfl) f_0_6 q437 dX5_tried_142 (fun u22 hu22 gu22 => ?_)
          refine z_getc (pc := 145) hC (hu22 10 rfl) f_10_1 q379 dX5_tried_145 ?_
          refine z_piV (pc := 148) (st := []) hC y_X0_pagesOfAll q1093 [] rfl (hu22 17 rfl) rfl rfl (lft_p (c_X0_pagesOfAll hC.2.2.2.2.2.2.1 hu22 gu22)) rfl ⟨rfl, rfl, (Nat.le_of_ble_eq_true rfl), (Nat.le_of_ble_eq_true rfl)⟩ (Nat.le_of_ble_eq_true rfl) dX5_tried_148 (fun r23 => ?_)
          exact z_iret (pc := 151) hC rfl dX5_tried_151
        · refine z_ite (fun e => ?_) (fun e4 => ?_)
          · refine z_tswIn (pc := 1) hC 4 152 (by rw [e]; rfl) (by decide) (by decide) rfl rfl dX5_tried_1 ?_
            refine z_aload_n (pc := 152) hC 0 rfl 0 rfl dX5_tried_152 ?_
            refine zg_getW (pc := 153) hC hcl (hX 0 rfl) f_0_6 q437 dX5_tried_153 (fun u8 hu8 gu8 => ?_)
            refine z_aload_n (pc := 156) hC 0 rfl 0 rfl dX5_tried_156 ?_
            refine zg_getW (pc := 157) hC hcl (hX 0 rfl) f_0_4 q435 dX5_tried_157 (fun u9 hu9 gu9 => ?_)
            refine z_cvV (pc := 160) (st := []) hC y_X4_copyFrom q616 [.inr (u9, 10)] rfl (hu8 10 rfl) rfl rfl (c_X4_copyFrom hC.2.2.2.2.2.2.1 hcl hX hT hu8 gu8 hu9 gu9) rfl ⟨rfl, rfl, (Nat.le_of_ble_eq_true rfl), (Nat.le_of_ble_eq_true rfl)⟩ (Nat.le_of_ble_eq_true rfl) dX5_tried_160 (fun r10 d11 => ?_)
            refine z_iconst (pc := 163) hC (0 : Int32) rfl dX5_tried_163 ?_
            refine z_istore_n (pc := 164) (ls1 := fun v => [(2, .inl (.int v)), (0, .inr (0, 0)), (1, .inl (.int a1))]) hC 2 rfl (by decide) (fun v => rfl) dX5_tried_164 (fun v2_12 => ?_)
            exact z_sub [1, 0] rfl (r_Fh_tried_165 hC hcl hX hT FU v2_12 d11)
          · have e0_ : (a1).toInt ≠ 0 := fun h => e0 (Int32.toInt_inj.mp (by rw [h]; rfl))
            have e1_ : (a1).toInt ≠ 1 := fun h => e1 (Int32.toInt_inj.mp (by rw [h]; rfl))
            have e2_ : (a1).toInt ≠ 2 := fun h => e2 (Int32.toInt_inj.mp (by rw [h]; rfl))
            have e3_ : (a1).toInt ≠ 3 := fun h => e3 (Int32.toInt_inj.mp (by rw [h]; rfl))
            have e4_ : (a1).toInt ≠ 4 := fun h => e4 (Int32.toInt_inj.mp (by rw [h]; rfl))
            refine z_tswOut (pc := 1) hC 205 (by omega) rfl dX5_tried_1 ?_
            refine z_iconst (pc := 205) hC (-1 : Int32) rfl dX5_tried_205 ?_
            exact z_iret (pc := 206) hC rfl dX5_tried_206
theorem c_X5_tried {G : Geo} (hG : GOk G) (hcl : GCl G) (hX : LXx G) (hT : LSt G) {d : Mem} {a1 : Int32} (l : Launch) (r : Int32) (d1 : Mem) (h : Fh_tried d a1 = some (r, d1)) : Mt l yX5_tried cX5_tried 3 (some .int) rm_X5_tried G [.inr (0, 0), .inl (.int a1)] (gm d) (avI r) (gm d1) :=
  mt_of (mem := gm) (po := poM avI gm) (x0 := d) (t := (r, d1)) rfl hG [.inr (0, 0), .inl (.int a1)] (Nat.le_of_ble_eq_true rfl) rfl (fun C hC => r_Fh_tried hC hcl hX hT d a1) h
-- FrameHeirs.churn(II)I
abbrev rm_X5_churn : Room := { frames := 6, cells := 0, slots := 0, locals := 156 }
theorem dX5_churn_0 : decode cX5_churn 0 = .ok (.iload_n 1, 1) := by decide +kernel
theorem dX5_churn_1 : decode cX5_churn 1 = .ok (.iconst (-1), 1) := by decide +kernel
theorem dX5_churn_2 : decode cX5_churn 2 = .ok (.if_icmp .lt 14, 3) := by decide +kernel
theorem dX5_churn_5 : decode cX5_churn 5 = .ok (.iload_n 2, 1) := by decide +kernel
theorem dX5_churn_6 : decode cX5_churn 6 = .ok (.iconst 1, 1) := by decide +kernel
theorem dX5_churn_7 : decode cX5_churn 7 = .ok (.if_icmp .lt 9, 3) := by decide +kernel
theorem dX5_churn_10 : decode cX5_churn 10 = .ok (.iload_n 2, 1) := by decide +kernel
theorem dX5_churn_11 : decode cX5_churn 11 = .ok (.bipush 20, 2) := by decide +kernel
theorem dX5_churn_13 : decode cX5_churn 13 = .ok (.if_icmp .le 5, 3) := by decide +kernel
theorem dX5_churn_16 : decode cX5_churn 16 = .ok (.iconst (-1), 1) := by decide +kernel
theorem dX5_churn_17 : decode cX5_churn 17 = .ok (.ireturn, 1) := by decide +kernel
theorem dX5_churn_18 : decode cX5_churn 18 = .ok (.aload_n 0, 1) := by decide +kernel
theorem dX5_churn_19 : decode cX5_churn 19 = .ok (.getfield 38, 3) := by decide +kernel
theorem dX5_churn_22 : decode cX5_churn 22 = .ok (.getfield 42, 3) := by decide +kernel
theorem dX5_churn_25 : decode cX5_churn 25 = .ok (.getfield 282, 3) := by decide +kernel
theorem dX5_churn_28 : decode cX5_churn 28 = .ok (.istore_n 3, 1) := by decide +kernel
theorem dX5_churn_29 : decode cX5_churn 29 = .ok (.aload_n 0, 1) := by decide +kernel
theorem dX5_churn_30 : decode cX5_churn 30 = .ok (.getfield 38, 3) := by decide +kernel
theorem dX5_churn_33 : decode cX5_churn 33 = .ok (.getfield 42, 3) := by decide +kernel
theorem dX5_churn_36 : decode cX5_churn 36 = .ok (.getfield 285, 3) := by decide +kernel
theorem dX5_churn_39 : decode cX5_churn 39 = .ok (.istore 4, 2) := by decide +kernel
theorem dX5_churn_41 : decode cX5_churn 41 = .ok (.iload_n 3, 1) := by decide +kernel
theorem dX5_churn_42 : decode cX5_churn 42 = .ok (.iconst 1, 1) := by decide +kernel
theorem dX5_churn_43 : decode cX5_churn 43 = .ok (.if_icmp .lt 9, 3) := by decide +kernel
theorem dX5_churn_46 : decode cX5_churn 46 = .ok (.iload 4, 2) := by decide +kernel
theorem dX5_churn_48 : decode cX5_churn 48 = .ok (.iconst 1, 1) := by decide +kernel
theorem dX5_churn_49 : decode cX5_churn 49 = .ok (.if_icmp .ge 6, 3) := by decide +kernel
theorem dX5_churn_52 : decode cX5_churn 52 = .ok (.bipush (-2), 2) := by decide +kernel
theorem dX5_churn_54 : decode cX5_churn 54 = .ok (.ireturn, 1) := by decide +kernel
theorem dX5_churn_55 : decode cX5_churn 55 = .ok (.aload_n 0, 1) := by decide +kernel
theorem dX5_churn_56 : decode cX5_churn 56 = .ok (.getfield 48, 3) := by decide +kernel
theorem dX5_churn_59 : decode cX5_churn 59 = .ok (.aload_n 0, 1) := by decide +kernel
theorem dX5_churn_60 : decode cX5_churn 60 = .ok (.getfield 38, 3) := by decide +kernel
theorem dX5_churn_63 : decode cX5_churn 63 = .ok (.invokevirtual 251, 3) := by decide +kernel
theorem dX5_churn_66 : decode cX5_churn 66 = .ok (.iload_n 1, 1) := by decide +kernel
theorem dX5_churn_67 : decode cX5_churn 67 = .ok (.ifCond .ge 16, 3) := by decide +kernel
theorem dX5_churn_70 : decode cX5_churn 70 = .ok (.aload_n 0, 1) := by decide +kernel
theorem dX5_churn_71 : decode cX5_churn 71 = .ok (.getfield 38, 3) := by decide +kernel
theorem dX5_churn_74 : decode cX5_churn 74 = .ok (.getfield 42, 3) := by decide +kernel
theorem dX5_churn_77 : decode cX5_churn 77 = .ok (.getfield 288, 3) := by decide +kernel
theorem dX5_churn_80 : decode cX5_churn 80 = .ok (.goto 4, 3) := by decide +kernel
theorem dX5_churn_83 : decode cX5_churn 83 = .ok (.iload_n 1, 1) := by decide +kernel
theorem dX5_churn_84 : decode cX5_churn 84 = .ok (.istore 5, 2) := by decide +kernel
theorem dX5_churn_86 : decode cX5_churn 86 = .ok (.iconst 0, 1) := by decide +kernel
theorem dX5_churn_87 : decode cX5_churn 87 = .ok (.istore 6, 2) := by decide +kernel
theorem dX5_churn_89 : decode cX5_churn 89 = .ok (.iconst 0, 1) := by decide +kernel
theorem dX5_churn_90 : decode cX5_churn 90 = .ok (.istore 7, 2) := by decide +kernel
theorem dX5_churn_92 : decode cX5_churn 92 = .ok (.iload 7, 2) := by decide +kernel
theorem dX5_churn_94 : decode cX5_churn 94 = .ok (.iload_n 2, 1) := by decide +kernel
theorem dX5_churn_95 : decode cX5_churn 95 = .ok (.if_icmp .ge 83, 3) := by decide +kernel
theorem dX5_churn_98 : decode cX5_churn 98 = .ok (.iload 5, 2) := by decide +kernel
theorem dX5_churn_100 : decode cX5_churn 100 = .ok (.invokestatic 291, 3) := by decide +kernel
theorem dX5_churn_103 : decode cX5_churn 103 = .ok (.istore 5, 2) := by decide +kernel
theorem dX5_churn_105 : decode cX5_churn 105 = .ok (.iload 5, 2) := by decide +kernel
theorem dX5_churn_107 : decode cX5_churn 107 = .ok (.bipush 16, 2) := by decide +kernel
theorem dX5_churn_109 : decode cX5_churn 109 = .ok (.ishr, 1) := by decide +kernel
theorem dX5_churn_110 : decode cX5_churn 110 = .ok (.iload_n 3, 1) := by decide +kernel
theorem dX5_churn_111 : decode cX5_churn 111 = .ok (.irem, 1) := by decide +kernel
theorem dX5_churn_112 : decode cX5_churn 112 = .ok (.istore 8, 2) := by decide +kernel
theorem dX5_churn_114 : decode cX5_churn 114 = .ok (.iload 5, 2) := by decide +kernel
theorem dX5_churn_116 : decode cX5_churn 116 = .ok (.invokestatic 291, 3) := by decide +kernel
theorem dX5_churn_119 : decode cX5_churn 119 = .ok (.istore 5, 2) := by decide +kernel
theorem dX5_churn_121 : decode cX5_churn 121 = .ok (.iload 5, 2) := by decide +kernel
theorem dX5_churn_123 : decode cX5_churn 123 = .ok (.bipush 16, 2) := by decide +kernel
theorem dX5_churn_125 : decode cX5_churn 125 = .ok (.ishr, 1) := by decide +kernel
theorem dX5_churn_126 : decode cX5_churn 126 = .ok (.iload 4, 2) := by decide +kernel
theorem dX5_churn_128 : decode cX5_churn 128 = .ok (.irem, 1) := by decide +kernel
theorem dX5_churn_129 : decode cX5_churn 129 = .ok (.istore 9, 2) := by decide +kernel
theorem dX5_churn_131 : decode cX5_churn 131 = .ok (.iload 5, 2) := by decide +kernel
theorem dX5_churn_133 : decode cX5_churn 133 = .ok (.invokestatic 291, 3) := by decide +kernel
theorem dX5_churn_136 : decode cX5_churn 136 = .ok (.istore 5, 2) := by decide +kernel
theorem dX5_churn_138 : decode cX5_churn 138 = .ok (.aload_n 0, 1) := by decide +kernel
theorem dX5_churn_139 : decode cX5_churn 139 = .ok (.getfield 48, 3) := by decide +kernel
theorem dX5_churn_142 : decode cX5_churn 142 = .ok (.iload 8, 2) := by decide +kernel
theorem dX5_churn_144 : decode cX5_churn 144 = .ok (.iload 9, 2) := by decide +kernel
theorem dX5_churn_146 : decode cX5_churn 146 = .ok (.iconst 1, 1) := by decide +kernel
theorem dX5_churn_147 : decode cX5_churn 147 = .ok (.iload 5, 2) := by decide +kernel
theorem dX5_churn_149 : decode cX5_churn 149 = .ok (.bipush 16, 2) := by decide +kernel
theorem dX5_churn_151 : decode cX5_churn 151 = .ok (.ishr, 1) := by decide +kernel
theorem dX5_churn_152 : decode cX5_churn 152 = .ok (.iconst 3, 1) := by decide +kernel
theorem dX5_churn_153 : decode cX5_churn 153 = .ok (.irem, 1) := by decide +kernel
theorem dX5_churn_154 : decode cX5_churn 154 = .ok (.ishl, 1) := by decide +kernel
theorem dX5_churn_155 : decode cX5_churn 155 = .ok (.invokevirtual 112, 3) := by decide +kernel
theorem dX5_churn_158 : decode cX5_churn 158 = .ok (.ifCond .lt 6, 3) := by decide +kernel
theorem dX5_churn_161 : decode cX5_churn 161 = .ok (.iinc 6 1, 3) := by decide +kernel
theorem dX5_churn_164 : decode cX5_churn 164 = .ok (.aload_n 0, 1) := by decide +kernel
theorem dX5_churn_165 : decode cX5_churn 165 = .ok (.getfield 48, 3) := by decide +kernel
theorem dX5_churn_168 : decode cX5_churn 168 = .ok (.invokevirtual 119, 3) := by decide +kernel
theorem dX5_churn_171 : decode cX5_churn 171 = .ok (.pop, 1) := by decide +kernel
theorem dX5_churn_172 : decode cX5_churn 172 = .ok (.iinc 7 1, 3) := by decide +kernel
theorem dX5_churn_175 : decode cX5_churn 175 = .ok (.goto (-83), 3) := by decide +kernel
theorem dX5_churn_178 : decode cX5_churn 178 = .ok (.iload 6, 2) := by decide +kernel
theorem dX5_churn_180 : decode cX5_churn 180 = .ok (.ireturn, 1) := by decide +kernel
def Fh_churn_164 (k92 : Int32 → Int32 → Int32 → Int32 → Int32 → Int32 → Mem → Option (Int32 × Mem)) (v2 : Int32) (v3 : Int32) (v4 : Int32) (v5 : Int32) (v6 : Int32) (v7 : Int32) (d : Mem) : Option (Int32 × Mem) :=
  gref (d 0 0 6) fun u1 =>
  bd (lft d u1 (Wo_settleAll d (d u1))) fun r2 d3 =>
  bnd (v7 + (1 : Int32)) fun v7_4 =>
  k92 v2 v3 v4 v5 v6 v7_4 d3
def Fh_churn_92 : Nat → Int32 → Int32 → Int32 → Int32 → Int32 → Int32 → Mem → Option (Int32 × Mem)
  | 0, _, _, _, _, _, _, _ => none
  | n + 1, v2, v3, v4, v5, v6, v7, d =>
    if v2 ≤ v7 then
      (some (v6, d))
    else
      (bp (Fh_drawnAfter v5) fun r5 =>
      bnd r5 fun v5_6 =>
      if ¬ v3 = 0 then
      bnd ((v5_6 >>> ((16 : Int32) &&& 31)) - (v5_6 >>> ((16 : Int32) &&& 31)) / v3 * v3) fun v8_7 =>
      bp (Fh_drawnAfter v5_6) fun r8 =>
      bnd r8 fun v5_9 =>
      if ¬ v4 = 0 then
      bnd ((v5_9 >>> ((16 : Int32) &&& 31)) - (v5_9 >>> ((16 : Int32) &&& 31)) / v4 * v4) fun v9_10 =>
      bp (Fh_drawnAfter v5_9) fun r11 =>
      bnd r11 fun v5_12 =>
      gref (d 0 0 6) fun u13 =>
      if ¬ (3 : Int32) = 0 then
      bd (lft d u13 (Wo_touchPage d (d u13) v8_7 v9_10 ((1 : Int32) <<< (((v5_12 >>> ((16 : Int32) &&& 31)) - (v5_12 >>> ((16 : Int32) &&& 31)) / (3 : Int32) * (3 : Int32)) &&& 31)))) fun r14 d15 =>
      if r14 < 0 then
        (Fh_churn_164 (Fh_churn_92 n) v2 v3 v4 v5_12 v6 v7 d15)
      else
        (bnd (v6 + (1 : Int32)) fun v6_16 =>
        Fh_churn_164 (Fh_churn_92 n) v2 v3 v4 v5_12 v6_16 v7 d15)
      else none
      else none
      else none)
def Fh_churn_84 (v2 : Int32) (v3 : Int32) (v4 : Int32) (s0 : Int32) (d : Mem) : Option (Int32 × Mem) :=
  bnd s0 fun v5_17 =>
  bnd (0 : Int32) fun v6_18 =>
  bnd (0 : Int32) fun v7_19 =>
  Fh_churn_92 FU v2 v3 v4 v5_17 v6_18 v7_19 d
def Fh_churn (d : Mem) (a1 : Int32) (a2 : Int32) : Option (Int32 × Mem) :=
  if a1 < (-1 : Int32) then
    (some ((-1 : Int32), d))
  else
    (if a2 < (1 : Int32) then
      (some ((-1 : Int32), d))
    else
      (if a2 ≤ (20 : Int32) then
        (gref (d 0 0 4) fun u20 =>
        gref (d u20 10 0) fun u21 =>
        bnd (d u21 4 5) fun v3_22 =>
        gref (d 0 0 4) fun u23 =>
        gref (d u23 10 0) fun u24 =>
        bnd (d u24 4 6) fun v4_25 =>
        if v3_22 < (1 : Int32) then
          (some ((-2 : Int32), d))
        else
          (if (1 : Int32) ≤ v4_25 then
            (gref (d 0 0 6) fun u26 =>
            gref (d 0 0 4) fun u27 =>
            bd (Wo_copyFrom u26 u27 d) fun r28 d29 =>
            if 0 ≤ a1 then
              (Fh_churn_84 a2 v3_22 v4_25 a1 d29)
            else
              (gref (d29 0 0 4) fun u30 =>
              gref (d29 u30 10 0) fun u31 =>
              Fh_churn_84 a2 v3_22 v4_25 (d29 u31 4 9) d29))
          else
            (some ((-2 : Int32), d))))
      else
        (some ((-1 : Int32), d))))
theorem y_X5_churn : YV yX5_churn cX5_churn 10 (some .int) 2 := ⟨q1102, q1103, q1104, q143, by decide +kernel, by decide +kernel, by decide +kernel, by decide +kernel⟩
theorem r_Fh_churn_164 {C : Cxt} {G : Geo} (hC : Cx C cX5_churn 10 "FrameHeirs" (some .int) rm_X5_churn G) (hcl : GCl G) (hX : LXx G) (hT : LSt G) (k92 : Int32 → Int32 → Int32 → Int32 → Int32 → Int32 → Mem → Option (Int32 × Mem)) (h92 : ∀ (v2 : Int32) (v3 : Int32) (v4 : Int32) (v5 : Int32) (v6 : Int32) (v7 : Int32) (d : Mem), Rz C 10 G gm (poM avI gm) 92 [(0, .inr (0, 0)), (2, .inl (.int v2)), (3, .inl (.int v3)), (4, .inl (.int v4)), (5, .inl (.int v5)), (6, .inl (.int v6)), (7, .inl (.int v7))] [] d (k92 v2 v3 v4 v5 v6 v7 d)) (v2 : Int32) (v3 : Int32) (v4 : Int32) (v5 : Int32) (v6 : Int32) (v7 : Int32) (d : Mem) : Rz C 10 G gm (poM avI gm) 164 [(0, .inr (0, 0)), (2, .inl (.int v2)), (3, .inl (.int v3)), (4, .inl (.int v4)), (5, .inl (.int v5)), (6, .inl (.int v6)), (7, .inl (.int v7))] [] d (Fh_churn_164 k92 v2 v3 v4 v5 v6 v7 d) := by
  unfold Fh_churn_164
  refine z_aload_n (pc := 164) hC 0 rfl 0 rfl dX5_churn_164 ?_
  refine zg_getW (pc := 165) hC hcl (hX 0 rfl) f_0_6 q437 dX5_churn_165 (fun u1 hu1 gu1 => ?_)
  refine z_ciV (pc := 168) (st := []) hC y_X4_settleAll q867 [] rfl (hu1 10 rfl) rfl rfl (lft_m (c_X4_settleAll hC.2.2.2.2.2.2.1 hu1 gu1 hcl)) rfl ⟨rfl, rfl, (Nat.le_of_ble_eq_true rfl), (Nat.le_of_ble_eq_true rfl)⟩ (Nat.le_of_ble_eq_true rfl) dX5_churn_168 (fun r2 d3 => ?_)
  refine z_pop (pc := 171) hC rfl dX5_churn_171 ?_
  refine z_iinc (pc := 172) (ls1 := fun v => [(7, .inl (.int v)), (0, .inr (0, 0)), (2, .inl (.int v2)), (3, .inl (.int v3)), (4, .inl (.int v4)), (5, .inl (.int v5)), (6, .inl (.int v6))]) hC 7 6 (by decide) (1 : Int32) rfl rfl (fun v => rfl) dX5_churn_172 (fun v7_4 => ?_)
  refine z_goto (pc := 175) hC 92 rfl dX5_churn_175 ?_
  exact z_sub [1, 2, 3, 4, 5, 6, 0] rfl (h92 v2 v3 v4 v5 v6 v7_4 d3)
theorem r_Fh_churn_92 {C : Cxt} {G : Geo} (hC : Cx C cX5_churn 10 "FrameHeirs" (some .int) rm_X5_churn G) (hcl : GCl G) (hX : LXx G) (hT : LSt G) : ∀ (n : Nat) (v2 : Int32) (v3 : Int32) (v4 : Int32) (v5 : Int32) (v6 : Int32) (v7 : Int32) (d : Mem), Rz C 10 G gm (poM avI gm) 92 [(0, .inr (0, 0)), (2, .inl (.int v2)), (3, .inl (.int v3)), (4, .inl (.int v4)), (5, .inl (.int v5)), (6, .inl (.int v6)), (7, .inl (.int v7))] [] d (Fh_churn_92 n v2 v3 v4 v5 v6 v7 d) := by
  intro n
  induction n with
  | zero => intros; exact z_none
  | succ n ih =>
    intro v2 v3 v4 v5 v6 v7 d
    rw [Fh_churn_92]
    refine z_iload (pc := 92) hC 7 6 rfl dX5_churn_92 ?_
    refine z_iload_n (pc := 94) hC 2 rfl 1 rfl dX5_churn_94 ?_
    refine z_icmp_ge (pc := 95) hC 178 rfl dX5_churn_95 ?_ ?_
    · refine z_iload (pc := 178) hC 6 5 rfl dX5_churn_178 ?_
      exact z_iret (pc := 180) hC rfl dX5_churn_180
    · refine z_iload (pc := 98) hC 5 4 rfl dX5_churn_98 ?_
      refine z_piS (pc := 100) (st := []) hC y_X5_drawnAfter q1105 [.inl (.int v5)] rfl (c_X5_drawnAfter hC.2.2.2.2.2.2.1) rfl ⟨rfl, rfl, (Nat.le_of_ble_eq_true rfl), (Nat.le_of_ble_eq_true rfl)⟩ (Nat.le_of_ble_eq_true rfl) dX5_churn_100 (fun r5 => ?_)
      refine z_istore (pc := 103) (ls1 := fun v => [(5, .inl (.int v)), (0, .inr (0, 0)), (2, .inl (.int v2)), (3, .inl (.int v3)), (4, .inl (.int v4)), (6, .inl (.int v6)), (7, .inl (.int v7))]) hC 5 (by decide) (fun v => rfl) dX5_churn_103 (fun v5_6 => ?_)
      refine z_iload (pc := 105) hC 5 0 rfl dX5_churn_105 ?_
      refine z_bipush (pc := 107) hC (16 : Int32) rfl dX5_churn_107 ?_
      refine z_ishr (pc := 109) hC dX5_churn_109 ?_
      refine z_iload_n (pc := 110) hC 3 rfl 3 rfl dX5_churn_110 ?_
      refine z_irem (pc := 111) hC dX5_churn_111 ?_
      refine z_istore (pc := 112) (ls1 := fun v => [(8, .inl (.int v)), (5, .inl (.int v5_6)), (0, .inr (0, 0)), (2, .inl (.int v2)), (3, .inl (.int v3)), (4, .inl (.int v4)), (6, .inl (.int v6)), (7, .inl (.int v7))]) hC 8 (by decide) (fun v => rfl) dX5_churn_112 (fun v8_7 => ?_)
      refine z_iload (pc := 114) hC 5 1 rfl dX5_churn_114 ?_
      refine z_piS (pc := 116) (st := []) hC y_X5_drawnAfter q1105 [.inl (.int v5_6)] rfl (c_X5_drawnAfter hC.2.2.2.2.2.2.1) rfl ⟨rfl, rfl, (Nat.le_of_ble_eq_true rfl), (Nat.le_of_ble_eq_true rfl)⟩ (Nat.le_of_ble_eq_true rfl) dX5_churn_116 (fun r8 => ?_)
      refine z_istore (pc := 119) (ls1 := fun v => [(5, .inl (.int v)), (8, .inl (.int v8_7)), (0, .inr (0, 0)), (2, .inl (.int v2)), (3, .inl (.int v3)), (4, .inl (.int v4)), (6, .inl (.int v6)), (7, .inl (.int v7))]) hC 5 (by decide) (fun v => rfl) dX5_churn_119 (fun v5_9 => ?_)
      refine z_iload (pc := 121) hC 5 0 rfl dX5_churn_121 ?_
      refine z_bipush (pc := 123) hC (16 : Int32) rfl dX5_churn_123 ?_
      refine z_ishr (pc := 125) hC dX5_churn_125 ?_
      refine z_iload (pc := 126) hC 4 5 rfl dX5_churn_126 ?_
      refine z_irem (pc := 128) hC dX5_churn_128 ?_
      refine z_istore (pc := 129) (ls1 := fun v => [(9, .inl (.int v)), (5, .inl (.int v5_9)), (8, .inl (.int v8_7)), (0, .inr (0, 0)), (2, .inl (.int v2)), (3, .inl (.int v3)), (4, .inl (.int v4)), (6, .inl (.int v6)), (7, .inl (.int v7))]) hC 9 (by decide) (fun v => rfl) dX5_churn_129 (fun v9_10 => ?_)
      refine z_iload (pc := 131) hC 5 1 rfl dX5_churn_131 ?_
      refine z_piS (pc := 133) (st := []) hC y_X5_drawnAfter q1105 [.inl (.int v5_9)] rfl (c_X5_drawnAfter hC.2.2.2.2.2.2.1) rfl ⟨rfl, rfl, (Nat.le_of_ble_eq_true rfl), (Nat.le_of_ble_eq_true rfl)⟩ (Nat.le_of_ble_eq_true rfl) dX5_churn_133 (fun r11 => ?_)
      refine z_istore (pc := 136) (ls1 := fun v => [(5, .inl (.int v)), (9, .inl (.int v9_10)), (8, .inl (.int v8_7)), (0, .inr (0, 0)), (2, .inl (.int v2)), (3, .inl (.int v3)), (4, .inl (.int v4)), (6, .inl (.int v6)), (7, .inl (.int v7))]) hC 5 (by decide) (fun v => rfl) dX5_churn_136 (fun v5_12 => ?_)
      refine z_aload_n (pc := 138) hC 0 rfl 3 rfl dX5_churn_138 ?_
      refine zg_getW (pc := 139) hC hcl (hX 0 rfl) f_0_6 q437 dX5_churn_139 (fun u13 hu13 gu13 => ?_)
      refine z_iload (pc := 142) hC 8 2 rfl dX5_churn_142 ?_
      refine z_iload (pc := 144) hC 9 1 rfl dX5_churn_144 ?_
      refine z_iconst (pc := 146) hC (1 : Int32) rfl dX5_churn_146 ?_
      refine z_iload (pc := 147) hC 5 0 rfl dX5_churn_147 ?_
      refine z_bipush (pc := 149) hC (16 : Int32) rfl dX5_churn_149 ?_
      refine z_ishr (pc := 151) hC dX5_churn_151 ?_
      refine z_iconst (pc := 152) hC (3 : Int32) rfl dX5_churn_152 ?_
      refine z_irem (pc := 153) hC dX5_churn_153 ?_
      refine z_ishl (pc := 154) hC dX5_churn_154 ?_
      refine z_ciV (pc := 155) (st := []) hC y_X4_touchPage q805 [.inl (.int v8_7), .inl (.int v9_10), .inl (.int ((1 : Int32) <<< (((v5_12 >>> ((16 : Int32) &&& 31)) - (v5_12 >>> ((16 : Int32) &&& 31)) / (3 : Int32) * (3 : Int32)) &&& 31)))] rfl (hu13 10 rfl) rfl rfl (lft_m (c_X4_touchPage hC.2.2.2.2.2.2.1 hu13 gu13 hcl)) rfl ⟨rfl, rfl, (Nat.le_of_ble_eq_true rfl), (Nat.le_of_ble_eq_true rfl)⟩ (Nat.le_of_ble_eq_true rfl) dX5_churn_155 (fun r14 d15 => ?_)
      refine z_if_lt (pc := 158) hC 164 rfl dX5_churn_158 ?_ ?_
      · exact z_sub [3, 4, 5, 6, 0, 7, 8] rfl (r_Fh_churn_164 hC hcl hX hT _ ih v2 v3 v4 v5_12 v6 v7 d15)
      · refine z_iinc (pc := 161) (ls1 := fun v => [(6, .inl (.int v)), (5, .inl (.int v5_12)), (9, .inl (.int v9_10)), (8, .inl (.int v8_7)), (0, .inr (0, 0)), (2, .inl (.int v2)), (3, .inl (.int v3)), (4, .inl (.int v4)), (7, .inl (.int v7))]) hC 6 7 (by decide) (1 : Int32) rfl rfl (fun v => rfl) dX5_churn_161 (fun v6_16 => ?_)
        exact z_sub [4, 5, 6, 7, 1, 0, 8] rfl (r_Fh_churn_164 hC hcl hX hT _ ih v2 v3 v4 v5_12 v6_16 v7 d15)
theorem r_Fh_churn_84 {C : Cxt} {G : Geo} (hC : Cx C cX5_churn 10 "FrameHeirs" (some .int) rm_X5_churn G) (hcl : GCl G) (hX : LXx G) (hT : LSt G) (v2 : Int32) (v3 : Int32) (v4 : Int32) (s0 : Int32) (d : Mem) : Rz C 10 G gm (poM avI gm) 84 [(0, .inr (0, 0)), (2, .inl (.int v2)), (3, .inl (.int v3)), (4, .inl (.int v4))] [.inl (.int s0)] d (Fh_churn_84 v2 v3 v4 s0 d) := by
  unfold Fh_churn_84
  refine z_istore (pc := 84) (ls1 := fun v => [(5, .inl (.int v)), (0, .inr (0, 0)), (2, .inl (.int v2)), (3, .inl (.int v3)), (4, .inl (.int v4))]) hC 5 (by decide) (fun v => rfl) dX5_churn_84 (fun v5_17 => ?_)
  refine z_iconst (pc := 86) hC (0 : Int32) rfl dX5_churn_86 ?_
  refine z_istore (pc := 87) (ls1 := fun v => [(6, .inl (.int v)), (5, .inl (.int v5_17)), (0, .inr (0, 0)), (2, .inl (.int v2)), (3, .inl (.int v3)), (4, .inl (.int v4))]) hC 6 (by decide) (fun v => rfl) dX5_churn_87 (fun v6_18 => ?_)
  refine z_iconst (pc := 89) hC (0 : Int32) rfl dX5_churn_89 ?_
  refine z_istore (pc := 90) (ls1 := fun v => [(7, .inl (.int v)), (6, .inl (.int v6_18)), (5, .inl (.int v5_17)), (0, .inr (0, 0)), (2, .inl (.int v2)), (3, .inl (.int v3)), (4, .inl (.int v4))]) hC 7 (by decide) (fun v => rfl) dX5_churn_90 (fun v7_19 => ?_)
  exact z_sub [3, 4, 5, 6, 2, 1, 0] rfl (r_Fh_churn_92 hC hcl hX hT FU v2 v3 v4 v5_17 v6_18 v7_19 d)
theorem r_Fh_churn {C : Cxt} {G : Geo} (hC : Cx C cX5_churn 10 "FrameHeirs" (some .int) rm_X5_churn G) (hcl : GCl G) (hX : LXx G) (hT : LSt G) (d : Mem) (a1 : Int32) (a2 : Int32) : Rz C 10 G gm (poM avI gm) 0 [(0, .inr (0, 0)), (1, .inl (.int a1)), (2, .inl (.int a2))] [] d (Fh_churn d a1 a2) := by
  unfold Fh_churn
  refine z_iload_n (pc := 0) hC 1 rfl 1 rfl dX5_churn_0 ?_
  refine z_iconst (pc := 1) hC (-1 : Int32) rfl dX5_churn_1 ?_
  refine z_icmp_lt (pc := 2) hC 16 rfl dX5_churn_2 ?_ ?_
  · refine z_iconst (pc := 16) hC (-1 : Int32) rfl dX5_churn_16 ?_
    exact z_iret (pc := 17) hC rfl dX5_churn_17
  · refine z_iload_n (pc := 5) hC 2 rfl 2 rfl dX5_churn_5 ?_
    refine z_iconst (pc := 6) hC (1 : Int32) rfl dX5_churn_6 ?_
    refine z_icmp_lt (pc := 7) hC 16 rfl dX5_churn_7 ?_ ?_
    · refine z_iconst (pc := 16) hC (-1 : Int32) rfl dX5_churn_16 ?_
      exact z_iret (pc := 17) hC rfl dX5_churn_17
    · refine z_iload_n (pc := 10) hC 2 rfl 2 rfl dX5_churn_10 ?_
      refine z_bipush (pc := 11) hC (20 : Int32) rfl dX5_churn_11 ?_
      refine z_icmp_le (pc := 13) hC 18 rfl dX5_churn_13 ?_ ?_
      · refine z_aload_n (pc := 18) hC 0 rfl 0 rfl dX5_churn_18 ?_
        refine zg_getW (pc := 19) hC hcl (hX 0 rfl) f_0_4 q435 dX5_churn_19 (fun u20 hu20 gu20 => ?_)
        refine zg_getS (pc := 22) hC hcl (hu20 10 rfl) f_10_0 q376 dX5_churn_22 (fun u21 hu21 gu21 => ?_)
        refine zg_geti (pc := 25) hC (hu21 4 rfl) f_4_5 q189 dX5_churn_25 ?_
        refine z_istore_n (pc := 28) (ls1 := fun v => [(3, .inl (.int v)), (0, .inr (0, 0)), (1, .inl (.int a1)), (2, .inl (.int a2))]) hC 3 rfl (by decide) (fun v => rfl) dX5_churn_28 (fun v3_22 => ?_)
        refine z_aload_n (pc := 29) hC 0 rfl 1 rfl dX5_churn_29 ?_
        refine zg_getW (pc := 30) hC hcl (hX 0 rfl) f_0_4 q435 dX5_churn_30 (fun u23 hu23 gu23 => ?_)
        refine zg_getS (pc := 33) hC hcl (hu23 10 rfl) f_10_0 q376 dX5_churn_33 (fun u24 hu24 gu24 => ?_)
        refine zg_geti (pc := 36) hC (hu24 4 rfl) f_4_6 q193 dX5_churn_36 ?_
        refine z_istore (pc := 39) (ls1 := fun v => [(4, .inl (.int v)), (3, .inl (.int v3_22)), (0, .inr (0, 0)), (1, .inl (.int a1)), (2, .inl (.int a2))]) hC 4 (by decide) (fun v => rfl) dX5_churn_39 (fun v4_25 => ?_)
        refine z_iload_n (pc := 41) hC 3 rfl 1 rfl dX5_churn_41 ?_
        refine z_iconst (pc := 42) hC (1 : Int32) rfl dX5_churn_42 ?_
        refine z_icmp_lt (pc := 43) hC 52 rfl dX5_churn_43 ?_ ?_
        · refine z_bipush (pc := 52) hC (-2 : Int32) rfl dX5_churn_52 ?_
          exact z_iret (pc := 54) hC rfl dX5_churn_54
        · refine z_iload (pc := 46) hC 4 0 rfl dX5_churn_46 ?_
          refine z_iconst (pc := 48) hC (1 : Int32) rfl dX5_churn_48 ?_
          refine z_icmp_ge (pc := 49) hC 55 rfl dX5_churn_49 ?_ ?_
          · refine z_aload_n (pc := 55) hC 0 rfl 2 rfl dX5_churn_55 ?_
            refine zg_getW (pc := 56) hC hcl (hX 0 rfl) f_0_6 q437 dX5_churn_56 (fun u26 hu26 gu26 => ?_)
            refine z_aload_n (pc := 59) hC 0 rfl 2 rfl dX5_churn_59 ?_
            refine zg_getW (pc := 60) hC hcl (hX 0 rfl) f_0_4 q435 dX5_churn_60 (fun u27 hu27 gu27 => ?_)
            refine z_cvV (pc := 63) (st := []) hC y_X4_copyFrom q616 [.inr (u27, 10)] rfl (hu26 10 rfl) rfl rfl (c_X4_copyFrom hC.2.2.2.2.2.2.1 hcl hX hT hu26 gu26 hu27 gu27) rfl ⟨rfl, rfl, (Nat.le_of_ble_eq_true rfl), (Nat.le_of_ble_eq_true rfl)⟩ (Nat.le_of_ble_eq_true rfl) dX5_churn_63 (fun r28 d29 => ?_)
            refine z_iload_n (pc := 66) hC 1 rfl 3 rfl dX5_churn_66 ?_
            refine z_if_ge (pc := 67) hC 83 rfl dX5_churn_67 ?_ ?_
            · refine z_iload_n (pc := 83) hC 1 rfl 3 rfl dX5_churn_83 ?_
              exact z_sub [2, 4, 1, 0] rfl (r_Fh_churn_84 hC hcl hX hT a2 v3_22 v4_25 a1 d29)
            · refine z_aload_n (pc := 70) hC 0 rfl 2 rfl dX5_churn_70 ?_
              refine zg_getW (pc := 71) hC hcl (hX 0 rfl) f_0_4 q435 dX5_churn_71 (fun u30 hu30 gu30 => ?_)
              refine zg_getS (pc := 74) hC hcl (hu30 10 rfl) f_10_0 q376 dX5_churn_74 (fun u31 hu31 gu31 => ?_)
              refine zg_geti (pc := 77) hC (hu31 4 rfl) f_4_9 q202 dX5_churn_77 ?_
              refine z_goto (pc := 80) hC 84 rfl dX5_churn_80 ?_
              exact z_sub [2, 4, 1, 0] rfl (r_Fh_churn_84 hC hcl hX hT a2 v3_22 v4_25 (d29 u31 4 9) d29)
          · refine z_bipush (pc := 52) hC (-2 : Int32) rfl dX5_churn_52 ?_
            exact z_iret (pc := 54) hC rfl dX5_churn_54
      · refine z_iconst (pc := 16) hC (-1 : Int32) rfl dX5_churn_16 ?_
        exact z_iret (pc := 17) hC rfl dX5_churn_17
theorem c_X5_churn {G : Geo} (hG : GOk G) (hcl : GCl G) (hX : LXx G) (hT : LSt G) {d : Mem} {a1 : Int32} {a2 : Int32} (l : Launch) (r : Int32) (d1 : Mem) (h : Fh_churn d a1 a2 = some (r, d1)) : Mt l yX5_churn cX5_churn 10 (some .int) rm_X5_churn G [.inr (0, 0), .inl (.int a1), .inl (.int a2)] (gm d) (avI r) (gm d1) :=
  mt_of (mem := gm) (po := poM avI gm) (x0 := d) (t := (r, d1)) rfl hG [.inr (0, 0), .inl (.int a1), .inl (.int a2)] (Nat.le_of_ble_eq_true rfl) rfl (fun C hC => r_Fh_churn hC hcl hX hT d a1 a2) h
-- FrameHeirs.undo()I
abbrev rm_X5_undo : Room := { frames := 0, cells := 0, slots := 0, locals := 0 }
theorem dX5_undo_0 : decode cX5_undo 0 = .ok (.aload_n 0, 1) := by decide +kernel
theorem dX5_undo_1 : decode cX5_undo 1 = .ok (.getfield 58, 3) := by decide +kernel
theorem dX5_undo_4 : decode cX5_undo 4 = .ok (.iconst 1, 1) := by decide +kernel
theorem dX5_undo_5 : decode cX5_undo 5 = .ok (.if_icmp .ge 5, 3) := by decide +kernel
theorem dX5_undo_8 : decode cX5_undo 8 = .ok (.iconst (-1), 1) := by decide +kernel
theorem dX5_undo_9 : decode cX5_undo 9 = .ok (.ireturn, 1) := by decide +kernel
theorem dX5_undo_10 : decode cX5_undo 10 = .ok (.aload_n 0, 1) := by decide +kernel
theorem dX5_undo_11 : decode cX5_undo 11 = .ok (.getfield 55, 3) := by decide +kernel
theorem dX5_undo_14 : decode cX5_undo 14 = .ok (.bipush 20, 2) := by decide +kernel
theorem dX5_undo_16 : decode cX5_undo 16 = .ok (.iadd, 1) := by decide +kernel
theorem dX5_undo_17 : decode cX5_undo 17 = .ok (.iconst 1, 1) := by decide +kernel
theorem dX5_undo_18 : decode cX5_undo 18 = .ok (.isub, 1) := by decide +kernel
theorem dX5_undo_19 : decode cX5_undo 19 = .ok (.bipush 20, 2) := by decide +kernel
theorem dX5_undo_21 : decode cX5_undo 21 = .ok (.irem, 1) := by decide +kernel
theorem dX5_undo_22 : decode cX5_undo 22 = .ok (.istore_n 1, 1) := by decide +kernel
theorem dX5_undo_23 : decode cX5_undo 23 = .ok (.aload_n 0, 1) := by decide +kernel
theorem dX5_undo_24 : decode cX5_undo 24 = .ok (.getfield 51, 3) := by decide +kernel
theorem dX5_undo_27 : decode cX5_undo 27 = .ok (.iload_n 1, 1) := by decide +kernel
theorem dX5_undo_28 : decode cX5_undo 28 = .ok (.aaload, 1) := by decide +kernel
theorem dX5_undo_29 : decode cX5_undo 29 = .ok (.astore_n 2, 1) := by decide +kernel
theorem dX5_undo_30 : decode cX5_undo 30 = .ok (.aload_n 2, 1) := by decide +kernel
theorem dX5_undo_31 : decode cX5_undo 31 = .ok (.ifnonnull 5, 3) := by decide +kernel
theorem dX5_undo_34 : decode cX5_undo 34 = .ok (.iconst (-1), 1) := by decide +kernel
theorem dX5_undo_35 : decode cX5_undo 35 = .ok (.ireturn, 1) := by decide +kernel
theorem dX5_undo_36 : decode cX5_undo 36 = .ok (.aload_n 0, 1) := by decide +kernel
theorem dX5_undo_37 : decode cX5_undo 37 = .ok (.getfield 51, 3) := by decide +kernel
theorem dX5_undo_40 : decode cX5_undo 40 = .ok (.iload_n 1, 1) := by decide +kernel
theorem dX5_undo_41 : decode cX5_undo 41 = .ok (.aload_n 0, 1) := by decide +kernel
theorem dX5_undo_42 : decode cX5_undo 42 = .ok (.getfield 38, 3) := by decide +kernel
theorem dX5_undo_45 : decode cX5_undo 45 = .ok (.aastore, 1) := by decide +kernel
theorem dX5_undo_46 : decode cX5_undo 46 = .ok (.aload_n 0, 1) := by decide +kernel
theorem dX5_undo_47 : decode cX5_undo 47 = .ok (.aload_n 2, 1) := by decide +kernel
theorem dX5_undo_48 : decode cX5_undo 48 = .ok (.putfield 38, 3) := by decide +kernel
theorem dX5_undo_51 : decode cX5_undo 51 = .ok (.aload_n 0, 1) := by decide +kernel
theorem dX5_undo_52 : decode cX5_undo 52 = .ok (.iload_n 1, 1) := by decide +kernel
theorem dX5_undo_53 : decode cX5_undo 53 = .ok (.putfield 55, 3) := by decide +kernel
theorem dX5_undo_56 : decode cX5_undo 56 = .ok (.aload_n 0, 1) := by decide +kernel
theorem dX5_undo_57 : decode cX5_undo 57 = .ok (.dup, 1) := by decide +kernel
theorem dX5_undo_58 : decode cX5_undo 58 = .ok (.getfield 58, 3) := by decide +kernel
theorem dX5_undo_61 : decode cX5_undo 61 = .ok (.iconst 1, 1) := by decide +kernel
theorem dX5_undo_62 : decode cX5_undo 62 = .ok (.isub, 1) := by decide +kernel
theorem dX5_undo_63 : decode cX5_undo 63 = .ok (.putfield 58, 3) := by decide +kernel
theorem dX5_undo_66 : decode cX5_undo 66 = .ok (.aload_n 0, 1) := by decide +kernel
theorem dX5_undo_67 : decode cX5_undo 67 = .ok (.getfield 58, 3) := by decide +kernel
theorem dX5_undo_70 : decode cX5_undo 70 = .ok (.ireturn, 1) := by decide +kernel
def Fh_undo (d : Mem) : Option (Int32 × Mem) :=
  if (1 : Int32) ≤ (d 0 0 9) then
    (if ¬ (20 : Int32) = 0 then
    bnd ((((d 0 0 8) + (20 : Int32)) - (1 : Int32)) - (((d 0 0 8) + (20 : Int32)) - (1 : Int32)) / (20 : Int32) * (20 : Int32)) fun v1_1 =>
    if inb v1_1 20 then
    oref (d 0 3 (ix v1_1))
      (some ((-1 : Int32), d)) fun u2 =>
    gref (d 0 0 4) fun u3 =>
    if inb v1_1 20 then
    bnd (wrM d 0 3 (ix v1_1) (nI u3)) fun d4 =>
    bnd (wrM d4 0 0 4 (nI u2)) fun d5 =>
    bnd (wrM d5 0 0 8 v1_1) fun d6 =>
    bnd (wrM d6 0 0 9 ((d6 0 0 9) - (1 : Int32))) fun d7 =>
    some ((d7 0 0 9), d7)
    else none
    else none
    else none)
  else
    (some ((-1 : Int32), d))
theorem y_X5_undo : YV yX5_undo cX5_undo 3 (some .int) 0 := ⟨q1110, q1111, q1112, q143, by decide +kernel, by decide +kernel, by decide +kernel, by decide +kernel⟩
theorem r_Fh_undo {C : Cxt} {G : Geo} (hC : Cx C cX5_undo 3 "FrameHeirs" (some .int) rm_X5_undo G) (hcl : GCl G) (hX : LXx G) (hT : LSt G) (d : Mem) : Rz C 3 G gm (poM avI gm) 0 [(0, .inr (0, 0))] [] d (Fh_undo d) := by
  unfold Fh_undo
  refine z_aload_n (pc := 0) hC 0 rfl 0 rfl dX5_undo_0 ?_
  refine zg_geti (pc := 1) hC (hX 0 rfl) f_0_9 q440 dX5_undo_1 ?_
  refine z_iconst (pc := 4) hC (1 : Int32) rfl dX5_undo_4 ?_
  refine z_icmp_ge (pc := 5) hC 10 rfl dX5_undo_5 ?_ ?_
  · refine z_aload_n (pc := 10) hC 0 rfl 0 rfl dX5_undo_10 ?_
    refine zg_geti (pc := 11) hC (hX 0 rfl) f_0_8 q439 dX5_undo_11 ?_
    refine z_bipush (pc := 14) hC (20 : Int32) rfl dX5_undo_14 ?_
    refine z_iadd (pc := 16) hC dX5_undo_16 ?_
    refine z_iconst (pc := 17) hC (1 : Int32) rfl dX5_undo_17 ?_
    refine z_isub (pc := 18) hC dX5_undo_18 ?_
    refine z_bipush (pc := 19) hC (20 : Int32) rfl dX5_undo_19 ?_
    refine z_irem (pc := 21) hC dX5_undo_21 ?_
    refine z_istore_n (pc := 22) (ls1 := fun v => [(1, .inl (.int v)), (0, .inr (0, 0))]) hC 1 rfl (by decide) (fun v => rfl) dX5_undo_22 (fun v1_1 => ?_)
    refine z_aload_n (pc := 23) hC 0 rfl 1 rfl dX5_undo_23 ?_
    refine z_getc (pc := 24) hC (hX 0 rfl) f_0_7 q438 dX5_undo_24 ?_
    refine z_iload_n (pc := 27) hC 1 rfl 0 rfl dX5_undo_27 ?_
    refine zg_aald (pc := 28) hC hcl (hX 3 rfl) rfl dX5_undo_28 ?_ (fun u2 hu2 gu2 => ?_)
    · refine z_astore_nN (pc := 29) (ls1 := [(2, .inl .null), (1, .inl (.int v1_1)), (0, .inr (0, 0))]) hC 2 rfl (by decide) rfl dX5_undo_29 ?_
      refine z_aload_nN (pc := 30) hC 2 rfl 0 rfl dX5_undo_30 ?_
      refine z_ifnonnull_n (pc := 31) hC dX5_undo_31 ?_
      refine z_iconst (pc := 34) hC (-1 : Int32) rfl dX5_undo_34 ?_
      exact z_iret (pc := 35) hC rfl dX5_undo_35
    · refine z_astore_n (pc := 29) (ls1 := [(2, .inr (u2, 10)), (1, .inl (.int v1_1)), (0, .inr (0, 0))]) hC 2 rfl (by decide) rfl dX5_undo_29 ?_
      refine z_aload_n (pc := 30) hC 2 rfl 0 rfl dX5_undo_30 ?_
      refine z_ifnonnull_r (pc := 31) hC 36 rfl dX5_undo_31 ?_
      refine z_aload_n (pc := 36) hC 0 rfl 2 rfl dX5_undo_36 ?_
      refine z_getc (pc := 37) hC (hX 0 rfl) f_0_7 q438 dX5_undo_37 ?_
      refine z_iload_n (pc := 40) hC 1 rfl 1 rfl dX5_undo_40 ?_
      refine z_aload_n (pc := 41) hC 0 rfl 2 rfl dX5_undo_41 ?_
      refine zg_getW (pc := 42) hC hcl (hX 0 rfl) f_0_4 q435 dX5_undo_42 (fun u3 hu3 gu3 => ?_)
      refine zg_aast (pc := 45) hC (hX 3 rfl) (by decide) (hu3 10 rfl) rfl dX5_undo_45 (fun d4 => ?_)
      refine z_aload_n (pc := 46) hC 0 rfl 2 rfl dX5_undo_46 ?_
      refine z_aload_n (pc := 47) hC 2 rfl 0 rfl dX5_undo_47 ?_
      refine zg_putr (pc := 48) (cn := "FrameHeirs$World") hC (hX 0 rfl) (hu2 10 rfl) f_0_4 q435 (by decide +kernel) dX5_undo_48 (fun d5 => ?_)
      refine z_aload_n (pc := 51) hC 0 rfl 2 rfl dX5_undo_51 ?_
      refine z_iload_n (pc := 52) hC 1 rfl 1 rfl dX5_undo_52 ?_
      refine zg_puti (pc := 53) hC (hX 0 rfl) f_0_8 q439 dX5_undo_53 (fun d6 => ?_)
      refine z_aload_n (pc := 56) hC 0 rfl 2 rfl dX5_undo_56 ?_
      refine z_dup (pc := 57) hC rfl dX5_undo_57 ?_
      refine zg_geti (pc := 58) hC (hX 0 rfl) f_0_9 q440 dX5_undo_58 ?_
      refine z_iconst (pc := 61) hC (1 : Int32) rfl dX5_undo_61 ?_
      refine z_isub (pc := 62) hC dX5_undo_62 ?_
      refine zg_puti (pc := 63) hC (hX 0 rfl) f_0_9 q440 dX5_undo_63 (fun d7 => ?_)
      refine z_aload_n (pc := 66) hC 0 rfl 2 rfl dX5_undo_66 ?_
      refine zg_geti (pc := 67) hC (hX 0 rfl) f_0_9 q440 dX5_undo_67 ?_
      exact z_iret (pc := 70) hC rfl dX5_undo_70
  · refine z_iconst (pc := 8) hC (-1 : Int32) rfl dX5_undo_8 ?_
    exact z_iret (pc := 9) hC rfl dX5_undo_9
theorem c_X5_undo {G : Geo} (hG : GOk G) (hcl : GCl G) (hX : LXx G) (hT : LSt G) {d : Mem} (l : Launch) (r : Int32) (d1 : Mem) (h : Fh_undo d = some (r, d1)) : Mt l yX5_undo cX5_undo 3 (some .int) rm_X5_undo G [.inr (0, 0)] (gm d) (avI r) (gm d1) :=
  mt_of (mem := gm) (po := poM avI gm) (x0 := d) (t := (r, d1)) rfl hG [.inr (0, 0)] (Nat.le_of_ble_eq_true rfl) rfl (fun C hC => r_Fh_undo hC hcl hX hT d) h
-- FrameHeirs.count(I)I
abbrev rm_X5_count : Room := { frames := 2, cells := 0, slots := 0, locals := 45 }
theorem dX5_count_0 : decode cX5_count 0 = .ok (.iload_n 1, 1) := by decide +kernel
theorem dX5_count_1 : decode cX5_count 1 = .ok (.tableswitch 189 0 12 #[67, 78, 89, 100, 111, 119, 130, 138, 149, 157, 165, 173, 184], 67) := by decide +kernel
theorem dX5_count_68 : decode cX5_count 68 = .ok (.aload_n 0, 1) := by decide +kernel
theorem dX5_count_69 : decode cX5_count 69 = .ok (.getfield 38, 3) := by decide +kernel
theorem dX5_count_72 : decode cX5_count 72 = .ok (.getfield 42, 3) := by decide +kernel
theorem dX5_count_75 : decode cX5_count 75 = .ok (.getfield 282, 3) := by decide +kernel
theorem dX5_count_78 : decode cX5_count 78 = .ok (.ireturn, 1) := by decide +kernel
theorem dX5_count_79 : decode cX5_count 79 = .ok (.aload_n 0, 1) := by decide +kernel
theorem dX5_count_80 : decode cX5_count 80 = .ok (.getfield 38, 3) := by decide +kernel
theorem dX5_count_83 : decode cX5_count 83 = .ok (.getfield 42, 3) := by decide +kernel
theorem dX5_count_86 : decode cX5_count 86 = .ok (.getfield 285, 3) := by decide +kernel
theorem dX5_count_89 : decode cX5_count 89 = .ok (.ireturn, 1) := by decide +kernel
theorem dX5_count_90 : decode cX5_count 90 = .ok (.aload_n 0, 1) := by decide +kernel
theorem dX5_count_91 : decode cX5_count 91 = .ok (.getfield 38, 3) := by decide +kernel
theorem dX5_count_94 : decode cX5_count 94 = .ok (.getfield 123, 3) := by decide +kernel
theorem dX5_count_97 : decode cX5_count 97 = .ok (.getfield 135, 3) := by decide +kernel
theorem dX5_count_100 : decode cX5_count 100 = .ok (.ireturn, 1) := by decide +kernel
theorem dX5_count_101 : decode cX5_count 101 = .ok (.aload_n 0, 1) := by decide +kernel
theorem dX5_count_102 : decode cX5_count 102 = .ok (.getfield 38, 3) := by decide +kernel
theorem dX5_count_105 : decode cX5_count 105 = .ok (.getfield 123, 3) := by decide +kernel
theorem dX5_count_108 : decode cX5_count 108 = .ok (.invokevirtual 273, 3) := by decide +kernel
theorem dX5_count_111 : decode cX5_count 111 = .ok (.ireturn, 1) := by decide +kernel
theorem dX5_count_112 : decode cX5_count 112 = .ok (.aload_n 0, 1) := by decide +kernel
theorem dX5_count_113 : decode cX5_count 113 = .ok (.getfield 38, 3) := by decide +kernel
theorem dX5_count_116 : decode cX5_count 116 = .ok (.getfield 258, 3) := by decide +kernel
theorem dX5_count_119 : decode cX5_count 119 = .ok (.ireturn, 1) := by decide +kernel
theorem dX5_count_120 : decode cX5_count 120 = .ok (.aload_n 0, 1) := by decide +kernel
theorem dX5_count_121 : decode cX5_count 121 = .ok (.getfield 38, 3) := by decide +kernel
theorem dX5_count_124 : decode cX5_count 124 = .ok (.getfield 42, 3) := by decide +kernel
theorem dX5_count_127 : decode cX5_count 127 = .ok (.getfield 144, 3) := by decide +kernel
theorem dX5_count_130 : decode cX5_count 130 = .ok (.ireturn, 1) := by decide +kernel
theorem dX5_count_131 : decode cX5_count 131 = .ok (.aload_n 0, 1) := by decide +kernel
theorem dX5_count_132 : decode cX5_count 132 = .ok (.getfield 38, 3) := by decide +kernel
theorem dX5_count_135 : decode cX5_count 135 = .ok (.getfield 141, 3) := by decide +kernel
theorem dX5_count_138 : decode cX5_count 138 = .ok (.ireturn, 1) := by decide +kernel
theorem dX5_count_139 : decode cX5_count 139 = .ok (.aload_n 0, 1) := by decide +kernel
theorem dX5_count_140 : decode cX5_count 140 = .ok (.getfield 38, 3) := by decide +kernel
theorem dX5_count_143 : decode cX5_count 143 = .ok (.getfield 123, 3) := by decide +kernel
theorem dX5_count_146 : decode cX5_count 146 = .ok (.getfield 294, 3) := by decide +kernel
theorem dX5_count_149 : decode cX5_count 149 = .ok (.ireturn, 1) := by decide +kernel
theorem dX5_count_150 : decode cX5_count 150 = .ok (.aload_n 0, 1) := by decide +kernel
theorem dX5_count_151 : decode cX5_count 151 = .ok (.getfield 38, 3) := by decide +kernel
theorem dX5_count_154 : decode cX5_count 154 = .ok (.getfield 297, 3) := by decide +kernel
theorem dX5_count_157 : decode cX5_count 157 = .ok (.ireturn, 1) := by decide +kernel
theorem dX5_count_158 : decode cX5_count 158 = .ok (.aload_n 0, 1) := by decide +kernel
theorem dX5_count_159 : decode cX5_count 159 = .ok (.getfield 38, 3) := by decide +kernel
theorem dX5_count_162 : decode cX5_count 162 = .ok (.getfield 276, 3) := by decide +kernel
theorem dX5_count_165 : decode cX5_count 165 = .ok (.ireturn, 1) := by decide +kernel
theorem dX5_count_166 : decode cX5_count 166 = .ok (.aload_n 0, 1) := by decide +kernel
theorem dX5_count_167 : decode cX5_count 167 = .ok (.getfield 38, 3) := by decide +kernel
theorem dX5_count_170 : decode cX5_count 170 = .ok (.getfield 300, 3) := by decide +kernel
theorem dX5_count_173 : decode cX5_count 173 = .ok (.ireturn, 1) := by decide +kernel
theorem dX5_count_174 : decode cX5_count 174 = .ok (.aload_n 0, 1) := by decide +kernel
theorem dX5_count_175 : decode cX5_count 175 = .ok (.getfield 38, 3) := by decide +kernel
theorem dX5_count_178 : decode cX5_count 178 = .ok (.getfield 123, 3) := by decide +kernel
theorem dX5_count_181 : decode cX5_count 181 = .ok (.invokestatic 303, 3) := by decide +kernel
theorem dX5_count_184 : decode cX5_count 184 = .ok (.ireturn, 1) := by decide +kernel
theorem dX5_count_185 : decode cX5_count 185 = .ok (.aload_n 0, 1) := by decide +kernel
theorem dX5_count_186 : decode cX5_count 186 = .ok (.getfield 58, 3) := by decide +kernel
theorem dX5_count_189 : decode cX5_count 189 = .ok (.ireturn, 1) := by decide +kernel
theorem dX5_count_190 : decode cX5_count 190 = .ok (.iconst (-1), 1) := by decide +kernel
theorem dX5_count_191 : decode cX5_count 191 = .ok (.ireturn, 1) := by decide +kernel
def Fh_count (d : Mem) (a1 : Int32) : Option Int32 :=
  if a1 = (0 : Int32) then
    (gref (d 0 0 4) fun u16 =>
    gref (d u16 10 0) fun u17 =>
    some (d u17 4 5))
  else
    (if a1 = (1 : Int32) then
      (gref (d 0 0 4) fun u14 =>
      gref (d u14 10 0) fun u15 =>
      some (d u15 4 6))
    else
      (if a1 = (2 : Int32) then
        (gref (d 0 0 4) fun u13 =>
        some (d u13 17 17))
      else
        (if a1 = (3 : Int32) then
          (gref (d 0 0 4) fun u11 =>
          bp (De_pagesOfAll (d u11)) fun r12 =>
          some r12)
        else
          (if a1 = (4 : Int32) then
            (gref (d 0 0 4) fun u10 =>
            some (d u10 10 3))
          else
            (if a1 = (5 : Int32) then
              (gref (d 0 0 4) fun u8 =>
              gref (d u8 10 0) fun u9 =>
              some (d u9 4 10))
            else
              (if a1 = (6 : Int32) then
                (gref (d 0 0 4) fun u7 =>
                some (d u7 10 11))
              else
                (if a1 = (7 : Int32) then
                  (gref (d 0 0 4) fun u6 =>
                  some (d u6 17 19))
                else
                  (if a1 = (8 : Int32) then
                    (gref (d 0 0 4) fun u5 =>
                    some (d u5 10 12))
                  else
                    (if a1 = (9 : Int32) then
                      (gref (d 0 0 4) fun u4 =>
                      some (d u4 10 13))
                    else
                      (if a1 = (10 : Int32) then
                        (gref (d 0 0 4) fun u3 =>
                        some (d u3 10 14))
                      else
                        (if a1 = (11 : Int32) then
                          (gref (d 0 0 4) fun u1 =>
                          bp (Qu_mostAbove (d u1)) fun r2 =>
                          some r2)
                        else
                          (if a1 = (12 : Int32) then
                            (some (d 0 0 9))
                          else
                            (some (-1 : Int32))))))))))))))
theorem y_X5_count : YV yX5_count cX5_count 2 (some .int) 1 := ⟨q1114, q1115, q1116, q143, by decide +kernel, by decide +kernel, by decide +kernel, by decide +kernel⟩
theorem r_Fh_count {C : Cxt} {G : Geo} (hC : Cx C cX5_count 2 "FrameHeirs" (some .int) rm_X5_count G) (hcl : GCl G) (hX : LXx G) (hT : LSt G) (d : Mem) (a1 : Int32) : Rz C 2 G gm (poP avI (gm d)) 0 [(0, .inr (0, 0)), (1, .inl (.int a1))] [] d (Fh_count d a1) := by
  unfold Fh_count
  refine z_iload_n (pc := 0) hC 1 rfl 1 rfl dX5_count_0 ?_
  refine z_ite (fun e => ?_) (fun e0 => ?_)
  · refine z_tswIn (pc := 1) hC 0 68 (by rw [e]; rfl) (by decide) (by decide) rfl rfl dX5_count_1 ?_
    refine z_aload_n (pc := 68) hC 0 rfl 0 rfl dX5_count_68 ?_
    refine zg_getW (pc := 69) hC hcl (hX 0 rfl) f_0_4 q435 dX5_count_69 (fun u16 hu16 gu16 => ?_)
    refine zg_getS (pc := 72) hC hcl (hu16 10 rfl) f_10_0 q376 dX5_count_72 (fun u17 hu17 gu17 => ?_)
    refine zg_geti (pc := 75) hC (hu17 4 rfl) f_4_5 q189 dX5_count_75 ?_
    exact z_iret (pc := 78) hC rfl dX5_count_78
  · refine z_ite (fun e => ?_) (fun e1 => ?_)
    · refine z_tswIn (pc := 1) hC 1 79 (by rw [e]; rfl) (by decide) (by decide) rfl rfl dX5_count_1 ?_
      refine z_aload_n (pc := 79) hC 0 rfl 0 rfl dX5_count_79 ?_
      refine zg_getW (pc := 80) hC hcl (hX 0 rfl) f_0_4 q435 dX5_count_80 (fun u14 hu14 gu14 => ?_)
      refine zg_getS (pc := 83) hC hcl (hu14 10 rfl) f_10_0 q376 dX5_count_83 (fun u15 hu15 gu15 => ?_)
      refine zg_geti (pc := 86) hC (hu15 4 rfl) f_4_6 q193 dX5_count_86 ?_
      exact z_iret (pc := 89) hC rfl dX5_count_89
    · refine z_ite (fun e => ?_) (fun e2 => ?_)
      · refine z_tswIn (pc := 1) hC 2 90 (by rw [e]; rfl) (by decide) (by decide) rfl rfl dX5_count_1 ?_
        refine z_aload_n (pc := 90) hC 0 rfl 0 rfl dX5_count_90 ?_
        refine zg_getW (pc := 91) hC hcl (hX 0 rfl) f_0_4 q435 dX5_count_91 (fun u13 hu13 gu13 => ?_)
        refine z_getc (pc := 94) hC (hu13 10 rfl) f_10_1 q379 dX5_count_94 ?_
        refine zg_geti (pc := 97) hC (hu13 17 rfl) f_17_17 q330 dX5_count_97 ?_
        exact z_iret (pc := 100) hC rfl dX5_count_100
      · refine z_ite (fun e => ?_) (fun e3 => ?_)
        · refine z_tswIn (pc := 1) hC 3 101 (by rw [e]; rfl) (by decide) (by decide) rfl rfl dX5_count_1 ?_
          refine z_aload_n (pc := 101) hC 0 rfl 0 rfl dX5_count_101 ?_
          refine zg_getW (pc := 102) hC hcl (hX 0 rfl) f_0_4 q435 dX5_count_102 (fun u11 hu11 gu11 => ?_)
          refine z_getc (pc := 105) hC (hu11 10 rfl) f_10_1 q379 dX5_count_105 ?_
          refine z_piV (pc := 108) (st := []) hC y_X0_pagesOfAll q1093 [] rfl (hu11 17 rfl) rfl rfl (lft_p (c_X0_pagesOfAll hC.2.2.2.2.2.2.1 hu11 gu11)) rfl ⟨rfl, rfl, (Nat.le_of_ble_eq_true rfl), (Nat.le_of_ble_eq_true rfl)⟩ (Nat.le_of_ble_eq_true rfl) dX5_count_108 (fun r12 => ?_)
          exact z_iret (pc := 111) hC rfl dX5_count_111
        · refine z_ite (fun e => ?_) (fun e4 => ?_)
          · refine z_tswIn (pc := 1) hC 4 112 (by rw [e]; rfl) (by decide) (by decide) rfl rfl dX5_count_1 ?_
            refine z_aload_n (pc := 112) hC 0 rfl 0 rfl dX5_count_112 ?_
            refine zg_getW (pc := 113) hC hcl (hX 0 rfl) f_0_4 q435 dX5_count_113 (fun u10 hu10 gu10 => ?_)
            refine zg_geti (pc := 116) hC (hu10 10 rfl) f_10_3 q382 dX5_count_116 ?_
            exact z_iret (pc := 119) hC rfl dX5_count_119
          · refine z_ite (fun e => ?_) (fun e5 => ?_)
            · refine z_tswIn (pc := 1) hC 5 120 (by rw [e]; rfl) (by decide) (by decide) rfl rfl dX5_count_1 ?_
              refine z_aload_n (pc := 120) hC 0 rfl 0 rfl dX5_count_120 ?_
              refine zg_getW (pc := 121) hC hcl (hX 0 rfl) f_0_4 q435 dX5_count_121 (fun u8 hu8 gu8 => ?_)
              refine zg_getS (pc := 124) hC hcl (hu8 10 rfl) f_10_0 q376 dX5_count_124 (fun u9 hu9 gu9 => ?_)
              refine zg_geti (pc := 127) hC (hu9 4 rfl) f_4_10 q205 dX5_count_127 ?_
              exact z_iret (pc := 130) hC rfl dX5_count_130
            · refine z_ite (fun e => ?_) (fun e6 => ?_)
              · refine z_tswIn (pc := 1) hC 6 131 (by rw [e]; rfl) (by decide) (by decide) rfl rfl dX5_count_1 ?_
                refine z_aload_n (pc := 131) hC 0 rfl 0 rfl dX5_count_131 ?_
                refine zg_getW (pc := 132) hC hcl (hX 0 rfl) f_0_4 q435 dX5_count_132 (fun u7 hu7 gu7 => ?_)
                refine zg_geti (pc := 135) hC (hu7 10 rfl) f_10_11 q392 dX5_count_135 ?_
                exact z_iret (pc := 138) hC rfl dX5_count_138
              · refine z_ite (fun e => ?_) (fun e7 => ?_)
                · refine z_tswIn (pc := 1) hC 7 139 (by rw [e]; rfl) (by decide) (by decide) rfl rfl dX5_count_1 ?_
                  refine z_aload_n (pc := 139) hC 0 rfl 0 rfl dX5_count_139 ?_
                  refine zg_getW (pc := 140) hC hcl (hX 0 rfl) f_0_4 q435 dX5_count_140 (fun u6 hu6 gu6 => ?_)
                  refine z_getc (pc := 143) hC (hu6 10 rfl) f_10_1 q379 dX5_count_143 ?_
                  refine zg_geti (pc := 146) hC (hu6 17 rfl) f_17_19 q333 dX5_count_146 ?_
                  exact z_iret (pc := 149) hC rfl dX5_count_149
                · refine z_ite (fun e => ?_) (fun e8 => ?_)
                  · refine z_tswIn (pc := 1) hC 8 150 (by rw [e]; rfl) (by decide) (by decide) rfl rfl dX5_count_1 ?_
                    refine z_aload_n (pc := 150) hC 0 rfl 0 rfl dX5_count_150 ?_
                    refine zg_getW (pc := 151) hC hcl (hX 0 rfl) f_0_4 q435 dX5_count_151 (fun u5 hu5 gu5 => ?_)
                    refine zg_geti (pc := 154) hC (hu5 10 rfl) f_10_12 q394 dX5_count_154 ?_
                    exact z_iret (pc := 157) hC rfl dX5_count_157
                  · refine z_ite (fun e => ?_) (fun e9 => ?_)
                    · refine z_tswIn (pc := 1) hC 9 158 (by rw [e]; rfl) (by decide) (by decide) rfl rfl dX5_count_1 ?_
                      refine z_aload_n (pc := 158) hC 0 rfl 0 rfl dX5_count_158 ?_
                      refine zg_getW (pc := 159) hC hcl (hX 0 rfl) f_0_4 q435 dX5_count_159 (fun u4 hu4 gu4 => ?_)
                      refine zg_geti (pc := 162) hC (hu4 10 rfl) f_10_13 q396 dX5_count_162 ?_
                      exact z_iret (pc := 165) hC rfl dX5_count_165
                    · refine z_ite (fun e => ?_) (fun e10 => ?_)
                      · refine z_tswIn (pc := 1) hC 10 166 (by rw [e]; rfl) (by decide) (by decide) rfl rfl dX5_count_1 ?_
                        refine z_aload_n (pc := 166) hC 0 rfl 0 rfl dX5_count_166 ?_
                        refine zg_getW (pc := 167) hC hcl (hX 0 rfl) f_0_4 q435 dX5_count_167 (fun u3 hu3 gu3 => ?_)
                        refine zg_geti (pc := 170) hC (hu3 10 rfl) f_10_14 q398 dX5_count_170 ?_
                        exact z_iret (pc := 173) hC rfl dX5_count_173
                      · refine z_ite (fun e => ?_) (fun e11 => ?_)
                        · refine z_tswIn (pc := 1) hC 11 174 (by rw [e]; rfl) (by decide) (by decide) rfl rfl dX5_count_1 ?_
                          refine z_aload_n (pc := 174) hC 0 rfl 0 rfl dX5_count_174 ?_
                          refine zg_getW (pc := 175) hC hcl (hX 0 rfl) f_0_4 q435 dX5_count_175 (fun u1 hu1 gu1 => ?_)
                          refine z_getc (pc := 178) hC (hu1 10 rfl) f_10_1 q379 dX5_count_178 ?_
                          refine z_piS (pc := 181) (st := []) hC y_X1_mostAbove q1117 [.inr (u1, 17)] rfl (lft_p (c_X1_mostAbove hC.2.2.2.2.2.2.1 hu1 gu1)) rfl ⟨rfl, rfl, (Nat.le_of_ble_eq_true rfl), (Nat.le_of_ble_eq_true rfl)⟩ (Nat.le_of_ble_eq_true rfl) dX5_count_181 (fun r2 => ?_)
                          exact z_iret (pc := 184) hC rfl dX5_count_184
                        · refine z_ite (fun e => ?_) (fun e12 => ?_)
                          · refine z_tswIn (pc := 1) hC 12 185 (by rw [e]; rfl) (by decide) (by decide) rfl rfl dX5_count_1 ?_
                            refine z_aload_n (pc := 185) hC 0 rfl 0 rfl dX5_count_185 ?_
                            refine zg_geti (pc := 186) hC (hX 0 rfl) f_0_9 q440 dX5_count_186 ?_
                            exact z_iret (pc := 189) hC rfl dX5_count_189
                          · have e0_ : (a1).toInt ≠ 0 := fun h => e0 (Int32.toInt_inj.mp (by rw [h]; rfl))
                            have e1_ : (a1).toInt ≠ 1 := fun h => e1 (Int32.toInt_inj.mp (by rw [h]; rfl))
                            have e2_ : (a1).toInt ≠ 2 := fun h => e2 (Int32.toInt_inj.mp (by rw [h]; rfl))
                            have e3_ : (a1).toInt ≠ 3 := fun h => e3 (Int32.toInt_inj.mp (by rw [h]; rfl))
                            have e4_ : (a1).toInt ≠ 4 := fun h => e4 (Int32.toInt_inj.mp (by rw [h]; rfl))
                            have e5_ : (a1).toInt ≠ 5 := fun h => e5 (Int32.toInt_inj.mp (by rw [h]; rfl))
                            have e6_ : (a1).toInt ≠ 6 := fun h => e6 (Int32.toInt_inj.mp (by rw [h]; rfl))
                            have e7_ : (a1).toInt ≠ 7 := fun h => e7 (Int32.toInt_inj.mp (by rw [h]; rfl))
                            have e8_ : (a1).toInt ≠ 8 := fun h => e8 (Int32.toInt_inj.mp (by rw [h]; rfl))
                            have e9_ : (a1).toInt ≠ 9 := fun h => e9 (Int32.toInt_inj.mp (by rw [h]; rfl))
                            have e10_ : (a1).toInt ≠ 10 := fun h => e10 (Int32.toInt_inj.mp (by rw [h]; rfl))
                            have e11_ : (a1).toInt ≠ 11 := fun h => e11 (Int32.toInt_inj.mp (by rw [h]; rfl))
                            have e12_ : (a1).toInt ≠ 12 := fun h => e12 (Int32.toInt_inj.mp (by rw [h]; rfl))
                            refine z_tswOut (pc := 1) hC 190 (by omega) rfl dX5_count_1 ?_
                            refine z_iconst (pc := 190) hC (-1 : Int32) rfl dX5_count_190 ?_
                            exact z_iret (pc := 191) hC rfl dX5_count_191
theorem c_X5_count {G : Geo} (hG : GOk G) (hcl : GCl G) (hX : LXx G) (hT : LSt G) {d : Mem} {a1 : Int32} (l : Launch) (r : Int32) (h : Fh_count d a1 = some r) : Mt l yX5_count cX5_count 2 (some .int) rm_X5_count G [.inr (0, 0), .inl (.int a1)] (gm d) (avI r) (gm d) :=
  mt_of (mem := gm) (po := poP avI (gm d)) (x0 := d) (t := r) rfl hG [.inr (0, 0), .inl (.int a1)] (Nat.le_of_ble_eq_true rfl) rfl (fun C hC => r_Fh_count hC hcl hX hT d a1) h

