-- FrameHeirs$World.settleAll()I
abbrev rm_X4_settleAll : Room := { frames := 5, cells := 0, slots := 0, locals := 131 }
theorem dX4_settleAll_0 : decode cX4_settleAll 0 = .ok (.iconst 0, 1) := by decide +kernel
theorem dX4_settleAll_1 : decode cX4_settleAll 1 = .ok (.istore_n 1, 1) := by decide +kernel
theorem dX4_settleAll_2 : decode cX4_settleAll 2 = .ok (.iconst 1, 1) := by decide +kernel
theorem dX4_settleAll_3 : decode cX4_settleAll 3 = .ok (.istore_n 2, 1) := by decide +kernel
theorem dX4_settleAll_4 : decode cX4_settleAll 4 = .ok (.iconst 0, 1) := by decide +kernel
theorem dX4_settleAll_5 : decode cX4_settleAll 5 = .ok (.istore_n 3, 1) := by decide +kernel
theorem dX4_settleAll_6 : decode cX4_settleAll 6 = .ok (.iload_n 3, 1) := by decide +kernel
theorem dX4_settleAll_7 : decode cX4_settleAll 7 = .ok (.bipush 12, 2) := by decide +kernel
theorem dX4_settleAll_9 : decode cX4_settleAll 9 = .ok (.if_icmp .ge 66, 3) := by decide +kernel
theorem dX4_settleAll_12 : decode cX4_settleAll 12 = .ok (.iload_n 2, 1) := by decide +kernel
theorem dX4_settleAll_13 : decode cX4_settleAll 13 = .ok (.ifCond .eq 62, 3) := by decide +kernel
theorem dX4_settleAll_16 : decode cX4_settleAll 16 = .ok (.iconst 0, 1) := by decide +kernel
theorem dX4_settleAll_17 : decode cX4_settleAll 17 = .ok (.istore_n 2, 1) := by decide +kernel
theorem dX4_settleAll_18 : decode cX4_settleAll 18 = .ok (.iconst 0, 1) := by decide +kernel
theorem dX4_settleAll_19 : decode cX4_settleAll 19 = .ok (.istore 4, 2) := by decide +kernel
theorem dX4_settleAll_21 : decode cX4_settleAll 21 = .ok (.iload 4, 2) := by decide +kernel
theorem dX4_settleAll_23 : decode cX4_settleAll 23 = .ok (.aload_n 0, 1) := by decide +kernel
theorem dX4_settleAll_24 : decode cX4_settleAll 24 = .ok (.getfield 59, 3) := by decide +kernel
theorem dX4_settleAll_27 : decode cX4_settleAll 27 = .ok (.getfield 77, 3) := by decide +kernel
theorem dX4_settleAll_30 : decode cX4_settleAll 30 = .ok (.if_icmp .ge 39, 3) := by decide +kernel
theorem dX4_settleAll_33 : decode cX4_settleAll 33 = .ok (.aload_n 0, 1) := by decide +kernel
theorem dX4_settleAll_34 : decode cX4_settleAll 34 = .ok (.iload 4, 2) := by decide +kernel
theorem dX4_settleAll_36 : decode cX4_settleAll 36 = .ok (.invokevirtual 267, 3) := by decide +kernel
theorem dX4_settleAll_39 : decode cX4_settleAll 39 = .ok (.istore 5, 2) := by decide +kernel
theorem dX4_settleAll_41 : decode cX4_settleAll 41 = .ok (.iload 5, 2) := by decide +kernel
theorem dX4_settleAll_43 : decode cX4_settleAll 43 = .ok (.ifCond .lt 6, 3) := by decide +kernel
theorem dX4_settleAll_46 : decode cX4_settleAll 46 = .ok (.iinc 1 1, 3) := by decide +kernel
theorem dX4_settleAll_49 : decode cX4_settleAll 49 = .ok (.iload 5, 2) := by decide +kernel
theorem dX4_settleAll_51 : decode cX4_settleAll 51 = .ok (.ifCond .ge 10, 3) := by decide +kernel
theorem dX4_settleAll_54 : decode cX4_settleAll 54 = .ok (.iload 5, 2) := by decide +kernel
theorem dX4_settleAll_56 : decode cX4_settleAll 56 = .ok (.bipush (-4), 2) := by decide +kernel
theorem dX4_settleAll_58 : decode cX4_settleAll 58 = .ok (.if_icmp .ge 5, 3) := by decide +kernel
theorem dX4_settleAll_61 : decode cX4_settleAll 61 = .ok (.iconst 1, 1) := by decide +kernel
theorem dX4_settleAll_62 : decode cX4_settleAll 62 = .ok (.istore_n 2, 1) := by decide +kernel
theorem dX4_settleAll_63 : decode cX4_settleAll 63 = .ok (.iinc 4 1, 3) := by decide +kernel
theorem dX4_settleAll_66 : decode cX4_settleAll 66 = .ok (.goto (-45), 3) := by decide +kernel
theorem dX4_settleAll_69 : decode cX4_settleAll 69 = .ok (.iinc 3 1, 3) := by decide +kernel
theorem dX4_settleAll_72 : decode cX4_settleAll 72 = .ok (.goto (-66), 3) := by decide +kernel
theorem dX4_settleAll_75 : decode cX4_settleAll 75 = .ok (.iload_n 1, 1) := by decide +kernel
theorem dX4_settleAll_76 : decode cX4_settleAll 76 = .ok (.ireturn, 1) := by decide +kernel
def Wo_settleAll_63 (k6 : Int32 → Int32 → Int32 → Sl → Option (Int32 × Sl)) (k21 : Int32 → Int32 → Int32 → Int32 → Sl → Option (Int32 × Sl)) (M : Mem) (v1 : Int32) (v2 : Int32) (v3 : Int32) (v4 : Int32) (d : Sl) : Option (Int32 × Sl) :=
  bnd (v4 + (1 : Int32)) fun v4_1 =>
  k21 v1 v2 v3 v4_1 d
def Wo_settleAll_61 (k6 : Int32 → Int32 → Int32 → Sl → Option (Int32 × Sl)) (k21 : Int32 → Int32 → Int32 → Int32 → Sl → Option (Int32 × Sl)) (M : Mem) (v1 : Int32) (v3 : Int32) (v4 : Int32) (d : Sl) : Option (Int32 × Sl) :=
  bnd (1 : Int32) fun v2_2 =>
  Wo_settleAll_63 k6 k21 M v1 v2_2 v3 v4 d
def Wo_settleAll_49 (k6 : Int32 → Int32 → Int32 → Sl → Option (Int32 × Sl)) (k21 : Int32 → Int32 → Int32 → Int32 → Sl → Option (Int32 × Sl)) (M : Mem) (v1 : Int32) (v2 : Int32) (v3 : Int32) (v4 : Int32) (v5 : Int32) (d : Sl) : Option (Int32 × Sl) :=
  if 0 ≤ v5 then
    (Wo_settleAll_61 k6 k21 M v1 v3 v4 d)
  else
    (if (-4 : Int32) ≤ v5 then
      (Wo_settleAll_63 k6 k21 M v1 v2 v3 v4 d)
    else
      (Wo_settleAll_61 k6 k21 M v1 v3 v4 d))
def Wo_settleAll_21 (k6 : Int32 → Int32 → Int32 → Sl → Option (Int32 × Sl)) (M : Mem) : Nat → Int32 → Int32 → Int32 → Int32 → Sl → Option (Int32 × Sl)
  | 0, _, _, _, _, _ => none
  | n + 1, v1, v2, v3, v4, d =>
    gref (d 10 0) fun q3 =>
    if (M q3 4 5) ≤ v4 then
      (bnd (v3 + (1 : Int32)) fun v3_4 =>
      k6 v1 v2 v3_4 d)
    else
      (bd (Wo_serveFirst M d v4) fun r5 d6 =>
      bnd r5 fun v5_7 =>
      if v5_7 < 0 then
        (Wo_settleAll_49 k6 (Wo_settleAll_21 k6 M n) M v1 v2 v3 v4 v5_7 d6)
      else
        (bnd (v1 + (1 : Int32)) fun v1_8 =>
        Wo_settleAll_49 k6 (Wo_settleAll_21 k6 M n) M v1_8 v2 v3 v4 v5_7 d6))
def Wo_settleAll_6 (M : Mem) : Nat → Int32 → Int32 → Int32 → Sl → Option (Int32 × Sl)
  | 0, _, _, _, _ => none
  | n + 1, v1, v2, v3, d =>
    if (12 : Int32) ≤ v3 then
      (some (v1, d))
    else
      (if v2 = 0 then
        (some (v1, d))
      else
        (bnd (0 : Int32) fun v2_9 =>
        bnd (0 : Int32) fun v4_10 =>
        Wo_settleAll_21 (Wo_settleAll_6 M n) M FU v1 v2_9 v3 v4_10 d))
def Wo_settleAll (M : Mem) (d : Sl) : Option (Int32 × Sl) :=
  bnd (0 : Int32) fun v1_11 =>
  bnd (1 : Int32) fun v2_12 =>
  bnd (0 : Int32) fun v3_13 =>
  Wo_settleAll_6 M FU v1_11 v2_12 v3_13 d
theorem y_X4_settleAll : YV yX4_settleAll cX4_settleAll 6 (some .int) 0 := ⟨q868, q869, q870, q146, by decide +kernel, by decide +kernel, by decide +kernel, by decide +kernel⟩
theorem r_Wo_settleAll_63 {C : Cxt} {G : Geo} {M : Mem} {k : Nat} (hC : Cx C cX4_settleAll 6 "FrameHeirs$World" (some .int) rm_X4_settleAll G) (hk : LWd G k) (hk2 : 2 ≤ k) (hcl : GCl G) (k6 : Int32 → Int32 → Int32 → Sl → Option (Int32 × Sl)) (h6 : ∀ (v1 : Int32) (v2 : Int32) (v3 : Int32) (d : Sl), Rz C 6 G (setS M k) (poM avI (setS M k)) 6 [(0, .inr (k, 10)), (1, .inl (.int v1)), (2, .inl (.int v2)), (3, .inl (.int v3))] [] d (k6 v1 v2 v3 d)) (k21 : Int32 → Int32 → Int32 → Int32 → Sl → Option (Int32 × Sl)) (h21 : ∀ (v1 : Int32) (v2 : Int32) (v3 : Int32) (v4 : Int32) (d : Sl), Rz C 6 G (setS M k) (poM avI (setS M k)) 21 [(0, .inr (k, 10)), (1, .inl (.int v1)), (2, .inl (.int v2)), (3, .inl (.int v3)), (4, .inl (.int v4))] [] d (k21 v1 v2 v3 v4 d)) (v1 : Int32) (v2 : Int32) (v3 : Int32) (v4 : Int32) (d : Sl) : Rz C 6 G (setS M k) (poM avI (setS M k)) 63 [(0, .inr (k, 10)), (1, .inl (.int v1)), (2, .inl (.int v2)), (3, .inl (.int v3)), (4, .inl (.int v4))] [] d (Wo_settleAll_63 k6 k21 M v1 v2 v3 v4 d) := by
  unfold Wo_settleAll_63
  refine z_iinc (pc := 63) (ls1 := fun v => [(4, .inl (.int v)), (0, .inr (k, 10)), (1, .inl (.int v1)), (2, .inl (.int v2)), (3, .inl (.int v3))]) hC 4 4 (by decide) (1 : Int32) rfl rfl (fun v => rfl) dX4_settleAll_63 (fun v4_1 => ?_)
  refine z_goto (pc := 66) hC 21 rfl dX4_settleAll_66 ?_
  exact z_sub [1, 2, 3, 4, 0] rfl (h21 v1 v2 v3 v4_1 d)
theorem r_Wo_settleAll_61 {C : Cxt} {G : Geo} {M : Mem} {k : Nat} (hC : Cx C cX4_settleAll 6 "FrameHeirs$World" (some .int) rm_X4_settleAll G) (hk : LWd G k) (hk2 : 2 ≤ k) (hcl : GCl G) (k6 : Int32 → Int32 → Int32 → Sl → Option (Int32 × Sl)) (h6 : ∀ (v1 : Int32) (v2 : Int32) (v3 : Int32) (d : Sl), Rz C 6 G (setS M k) (poM avI (setS M k)) 6 [(0, .inr (k, 10)), (1, .inl (.int v1)), (2, .inl (.int v2)), (3, .inl (.int v3))] [] d (k6 v1 v2 v3 d)) (k21 : Int32 → Int32 → Int32 → Int32 → Sl → Option (Int32 × Sl)) (h21 : ∀ (v1 : Int32) (v2 : Int32) (v3 : Int32) (v4 : Int32) (d : Sl), Rz C 6 G (setS M k) (poM avI (setS M k)) 21 [(0, .inr (k, 10)), (1, .inl (.int v1)), (2, .inl (.int v2)), (3, .inl (.int v3)), (4, .inl (.int v4))] [] d (k21 v1 v2 v3 v4 d)) (v1 : Int32) (v3 : Int32) (v4 : Int32) (d : Sl) : Rz C 6 G (setS M k) (poM avI (setS M k)) 61 [(0, .inr (k, 10)), (1, .inl (.int v1)), (3, .inl (.int v3)), (4, .inl (.int v4))] [] d (Wo_settleAll_61 k6 k21 M v1 v3 v4 d) := by
  unfold Wo_settleAll_61
  refine z_iconst (pc := 61) hC (1 : Int32) rfl dX4_settleAll_61 ?_
  refine z_istore_n (pc := 62) (ls1 := fun v => [(2, .inl (.int v)), (0, .inr (k, 10)), (1, .inl (.int v1)), (3, .inl (.int v3)), (4, .inl (.int v4))]) hC 2 rfl (by decide) (fun v => rfl) dX4_settleAll_62 (fun v2_2 => ?_)
  exact z_sub [1, 2, 0, 3, 4] rfl (r_Wo_settleAll_63 hC hk hk2 hcl k6 h6 k21 h21 v1 v2_2 v3 v4 d)
theorem r_Wo_settleAll_49 {C : Cxt} {G : Geo} {M : Mem} {k : Nat} (hC : Cx C cX4_settleAll 6 "FrameHeirs$World" (some .int) rm_X4_settleAll G) (hk : LWd G k) (hk2 : 2 ≤ k) (hcl : GCl G) (k6 : Int32 → Int32 → Int32 → Sl → Option (Int32 × Sl)) (h6 : ∀ (v1 : Int32) (v2 : Int32) (v3 : Int32) (d : Sl), Rz C 6 G (setS M k) (poM avI (setS M k)) 6 [(0, .inr (k, 10)), (1, .inl (.int v1)), (2, .inl (.int v2)), (3, .inl (.int v3))] [] d (k6 v1 v2 v3 d)) (k21 : Int32 → Int32 → Int32 → Int32 → Sl → Option (Int32 × Sl)) (h21 : ∀ (v1 : Int32) (v2 : Int32) (v3 : Int32) (v4 : Int32) (d : Sl), Rz C 6 G (setS M k) (poM avI (setS M k)) 21 [(0, .inr (k, 10)), (1, .inl (.int v1)), (2, .inl (.int v2)), (3, .inl (.int v3)), (4, .inl (.int v4))] [] d (k21 v1 v2 v3 v4 d)) (v1 : Int32) (v2 : Int32) (v3 : Int32) (v4 : Int32) (v5 : Int32) (d : Sl) : Rz C 6 G (setS M k) (poM avI (setS M k)) 49 [(0, .inr (k, 10)), (1, .inl (.int v1)), (2, .inl (.int v2)), (3, .inl (.int v3)), (4, .inl (.int v4)), (5, .inl (.int v5))] [] d (Wo_settleAll_49 k6 k21 M v1 v2 v3 v4 v5 d) := by
  unfold Wo_settleAll_49
  refine z_iload (pc := 49) hC 5 5 rfl dX4_settleAll_49 ?_
  refine z_if_ge (pc := 51) hC 61 rfl dX4_settleAll_51 ?_ ?_
  · exact z_sub [0, 1, 3, 4] rfl (r_Wo_settleAll_61 hC hk hk2 hcl k6 h6 k21 h21 v1 v3 v4 d)
  · refine z_iload (pc := 54) hC 5 5 rfl dX4_settleAll_54 ?_
    refine z_bipush (pc := 56) hC (-4 : Int32) rfl dX4_settleAll_56 ?_
    refine z_icmp_ge (pc := 58) hC 63 rfl dX4_settleAll_58 ?_ ?_
    · exact z_sub [0, 1, 2, 3, 4] rfl (r_Wo_settleAll_63 hC hk hk2 hcl k6 h6 k21 h21 v1 v2 v3 v4 d)
    · exact z_sub [0, 1, 3, 4] rfl (r_Wo_settleAll_61 hC hk hk2 hcl k6 h6 k21 h21 v1 v3 v4 d)
theorem r_Wo_settleAll_21 {C : Cxt} {G : Geo} {M : Mem} {k : Nat} (hC : Cx C cX4_settleAll 6 "FrameHeirs$World" (some .int) rm_X4_settleAll G) (hk : LWd G k) (hk2 : 2 ≤ k) (hcl : GCl G) (k6 : Int32 → Int32 → Int32 → Sl → Option (Int32 × Sl)) (h6 : ∀ (v1 : Int32) (v2 : Int32) (v3 : Int32) (d : Sl), Rz C 6 G (setS M k) (poM avI (setS M k)) 6 [(0, .inr (k, 10)), (1, .inl (.int v1)), (2, .inl (.int v2)), (3, .inl (.int v3))] [] d (k6 v1 v2 v3 d)) : ∀ (n : Nat) (v1 : Int32) (v2 : Int32) (v3 : Int32) (v4 : Int32) (d : Sl), Rz C 6 G (setS M k) (poM avI (setS M k)) 21 [(0, .inr (k, 10)), (1, .inl (.int v1)), (2, .inl (.int v2)), (3, .inl (.int v3)), (4, .inl (.int v4))] [] d (Wo_settleAll_21 k6 M n v1 v2 v3 v4 d) := by
  intro n
  induction n with
  | zero => intros; exact z_none
  | succ n ih =>
    intro v1 v2 v3 v4 d
    rw [Wo_settleAll_21]
    refine z_iload (pc := 21) hC 4 4 rfl dX4_settleAll_21 ?_
    refine z_aload_n (pc := 23) hC 0 rfl 0 rfl dX4_settleAll_23 ?_
    refine zs_getS (pc := 24) hC hcl (hk 10 rfl) f_10_0 q377 dX4_settleAll_24 (fun q3 hq3 gq3 => ?_)
    refine zo_geti (pc := 27) hC (Nat.ne_of_lt (Nat.lt_of_lt_of_le gq3 hk2)) (hq3 4 rfl) f_4_5 q187 dX4_settleAll_27 ?_
    refine z_icmp_ge (pc := 30) hC 69 rfl dX4_settleAll_30 ?_ ?_
    · refine z_iinc (pc := 69) (ls1 := fun v => [(3, .inl (.int v)), (0, .inr (k, 10)), (1, .inl (.int v1)), (2, .inl (.int v2)), (4, .inl (.int v4))]) hC 3 3 (by decide) (1 : Int32) rfl rfl (fun v => rfl) dX4_settleAll_69 (fun v3_4 => ?_)
      refine z_goto (pc := 72) hC 6 rfl dX4_settleAll_72 ?_
      exact z_sub [1, 2, 3, 0] rfl (h6 v1 v2 v3_4 d)
    · refine z_aload_n (pc := 33) hC 0 rfl 0 rfl dX4_settleAll_33 ?_
      refine z_iload (pc := 34) hC 4 4 rfl dX4_settleAll_34 ?_
      refine z_ciV (pc := 36) (st := []) hC y_X4_serveFirst q871 [.inl (.int v4)] rfl (hk 10 rfl) rfl rfl (c_X4_serveFirst hC.2.2.2.2.2.2.1 hk hk2 hcl) rfl ⟨rfl, rfl, (Nat.le_of_ble_eq_true rfl), (Nat.le_of_ble_eq_true rfl)⟩ (Nat.le_of_ble_eq_true rfl) dX4_settleAll_36 (fun r5 d6 => ?_)
      refine z_istore (pc := 39) (ls1 := fun v => [(5, .inl (.int v)), (0, .inr (k, 10)), (1, .inl (.int v1)), (2, .inl (.int v2)), (3, .inl (.int v3)), (4, .inl (.int v4))]) hC 5 (by decide) (fun v => rfl) dX4_settleAll_39 (fun v5_7 => ?_)
      refine z_iload (pc := 41) hC 5 0 rfl dX4_settleAll_41 ?_
      refine z_if_lt (pc := 43) hC 49 rfl dX4_settleAll_43 ?_ ?_
      · exact z_sub [1, 2, 3, 4, 5, 0] rfl (r_Wo_settleAll_49 hC hk hk2 hcl k6 h6 _ ih v1 v2 v3 v4 v5_7 d6)
      · refine z_iinc (pc := 46) (ls1 := fun v => [(1, .inl (.int v)), (5, .inl (.int v5_7)), (0, .inr (k, 10)), (2, .inl (.int v2)), (3, .inl (.int v3)), (4, .inl (.int v4))]) hC 1 2 (by decide) (1 : Int32) rfl rfl (fun v => rfl) dX4_settleAll_46 (fun v1_8 => ?_)
        exact z_sub [2, 0, 3, 4, 5, 1] rfl (r_Wo_settleAll_49 hC hk hk2 hcl k6 h6 _ ih v1_8 v2 v3 v4 v5_7 d6)
theorem r_Wo_settleAll_6 {C : Cxt} {G : Geo} {M : Mem} {k : Nat} (hC : Cx C cX4_settleAll 6 "FrameHeirs$World" (some .int) rm_X4_settleAll G) (hk : LWd G k) (hk2 : 2 ≤ k) (hcl : GCl G) : ∀ (n : Nat) (v1 : Int32) (v2 : Int32) (v3 : Int32) (d : Sl), Rz C 6 G (setS M k) (poM avI (setS M k)) 6 [(0, .inr (k, 10)), (1, .inl (.int v1)), (2, .inl (.int v2)), (3, .inl (.int v3))] [] d (Wo_settleAll_6 M n v1 v2 v3 d) := by
  intro n
  induction n with
  | zero => intros; exact z_none
  | succ n ih =>
    intro v1 v2 v3 d
    rw [Wo_settleAll_6]
    refine z_iload_n (pc := 6) hC 3 rfl 3 rfl dX4_settleAll_6 ?_
    refine z_bipush (pc := 7) hC (12 : Int32) rfl dX4_settleAll_7 ?_
    refine z_icmp_ge (pc := 9) hC 75 rfl dX4_settleAll_9 ?_ ?_
    · refine z_iload_n (pc := 75) hC 1 rfl 1 rfl dX4_settleAll_75 ?_
      exact z_iret (pc := 76) hC rfl dX4_settleAll_76
    · refine z_iload_n (pc := 12) hC 2 rfl 2 rfl dX4_settleAll_12 ?_
      refine z_if_eq (pc := 13) hC 75 rfl dX4_settleAll_13 ?_ ?_
      · refine z_iload_n (pc := 75) hC 1 rfl 1 rfl dX4_settleAll_75 ?_
        exact z_iret (pc := 76) hC rfl dX4_settleAll_76
      · refine z_iconst (pc := 16) hC (0 : Int32) rfl dX4_settleAll_16 ?_
        refine z_istore_n (pc := 17) (ls1 := fun v => [(2, .inl (.int v)), (0, .inr (k, 10)), (1, .inl (.int v1)), (3, .inl (.int v3))]) hC 2 rfl (by decide) (fun v => rfl) dX4_settleAll_17 (fun v2_9 => ?_)
        refine z_iconst (pc := 18) hC (0 : Int32) rfl dX4_settleAll_18 ?_
        refine z_istore (pc := 19) (ls1 := fun v => [(4, .inl (.int v)), (2, .inl (.int v2_9)), (0, .inr (k, 10)), (1, .inl (.int v1)), (3, .inl (.int v3))]) hC 4 (by decide) (fun v => rfl) dX4_settleAll_19 (fun v4_10 => ?_)
        exact z_sub [2, 3, 1, 4, 0] rfl (r_Wo_settleAll_21 hC hk hk2 hcl _ ih FU v1 v2_9 v3 v4_10 d)
theorem r_Wo_settleAll {C : Cxt} {G : Geo} {M : Mem} {k : Nat} (hC : Cx C cX4_settleAll 6 "FrameHeirs$World" (some .int) rm_X4_settleAll G) (hk : LWd G k) (hk2 : 2 ≤ k) (hcl : GCl G) (d : Sl) : Rz C 6 G (setS M k) (poM avI (setS M k)) 0 [(0, .inr (k, 10))] [] d (Wo_settleAll M d) := by
  unfold Wo_settleAll
  refine z_iconst (pc := 0) hC (0 : Int32) rfl dX4_settleAll_0 ?_
  refine z_istore_n (pc := 1) (ls1 := fun v => [(1, .inl (.int v)), (0, .inr (k, 10))]) hC 1 rfl (by decide) (fun v => rfl) dX4_settleAll_1 (fun v1_11 => ?_)
  refine z_iconst (pc := 2) hC (1 : Int32) rfl dX4_settleAll_2 ?_
  refine z_istore_n (pc := 3) (ls1 := fun v => [(2, .inl (.int v)), (1, .inl (.int v1_11)), (0, .inr (k, 10))]) hC 2 rfl (by decide) (fun v => rfl) dX4_settleAll_3 (fun v2_12 => ?_)
  refine z_iconst (pc := 4) hC (0 : Int32) rfl dX4_settleAll_4 ?_
  refine z_istore_n (pc := 5) (ls1 := fun v => [(3, .inl (.int v)), (2, .inl (.int v2_12)), (1, .inl (.int v1_11)), (0, .inr (k, 10))]) hC 3 rfl (by decide) (fun v => rfl) dX4_settleAll_5 (fun v3_13 => ?_)
  exact z_sub [3, 2, 1, 0] rfl (r_Wo_settleAll_6 hC hk hk2 hcl FU v1_11 v2_12 v3_13 d)
theorem c_X4_settleAll {G : Geo} {M : Mem} {k : Nat} (hG : GOk G) (hk : LWd G k) (hk2 : 2 ≤ k) (hcl : GCl G) {d : Sl} (l : Launch) (r : Int32) (d1 : Sl) (h : Wo_settleAll M d = some (r, d1)) : Mt l yX4_settleAll cX4_settleAll 6 (some .int) rm_X4_settleAll G [.inr (k, 10)] ((setS M k) d) (avI r) ((setS M k) d1) :=
  mt_of (mem := (setS M k)) (po := poM avI (setS M k)) (x0 := d) (t := (r, d1)) rfl hG [.inr (k, 10)] (Nat.le_of_ble_eq_true rfl) rfl (fun C hC => r_Wo_settleAll hC hk hk2 hcl d) h
-- FrameHeirs$World.joinAll(I)I
abbrev rm_X4_joinAll : Room := { frames := 4, cells := 0, slots := 0, locals := 97 }
theorem dX4_joinAll_0 : decode cX4_joinAll 0 = .ok (.aload_n 0, 1) := by decide +kernel
theorem dX4_joinAll_1 : decode cX4_joinAll 1 = .ok (.iload_n 1, 1) := by decide +kernel
theorem dX4_joinAll_2 : decode cX4_joinAll 2 = .ok (.invokevirtual 98, 3) := by decide +kernel
theorem dX4_joinAll_5 : decode cX4_joinAll 5 = .ok (.ifCond .ne 5, 3) := by decide +kernel
theorem dX4_joinAll_8 : decode cX4_joinAll 8 = .ok (.iconst (-1), 1) := by decide +kernel
theorem dX4_joinAll_9 : decode cX4_joinAll 9 = .ok (.ireturn, 1) := by decide +kernel
theorem dX4_joinAll_10 : decode cX4_joinAll 10 = .ok (.iconst 0, 1) := by decide +kernel
theorem dX4_joinAll_11 : decode cX4_joinAll 11 = .ok (.istore_n 2, 1) := by decide +kernel
theorem dX4_joinAll_12 : decode cX4_joinAll 12 = .ok (.iload_n 2, 1) := by decide +kernel
theorem dX4_joinAll_13 : decode cX4_joinAll 13 = .ok (.sipush 192, 3) := by decide +kernel
theorem dX4_joinAll_16 : decode cX4_joinAll 16 = .ok (.if_icmp .ge 20, 3) := by decide +kernel
theorem dX4_joinAll_19 : decode cX4_joinAll 19 = .ok (.aload_n 0, 1) := by decide +kernel
theorem dX4_joinAll_20 : decode cX4_joinAll 20 = .ok (.getfield 12, 3) := by decide +kernel
theorem dX4_joinAll_23 : decode cX4_joinAll 23 = .ok (.iload_n 1, 1) := by decide +kernel
theorem dX4_joinAll_24 : decode cX4_joinAll 24 = .ok (.invokevirtual 270, 3) := by decide +kernel
theorem dX4_joinAll_27 : decode cX4_joinAll 27 = .ok (.ifCond .eq 9, 3) := by decide +kernel
theorem dX4_joinAll_30 : decode cX4_joinAll 30 = .ok (.iinc 2 1, 3) := by decide +kernel
theorem dX4_joinAll_33 : decode cX4_joinAll 33 = .ok (.goto (-21), 3) := by decide +kernel
theorem dX4_joinAll_36 : decode cX4_joinAll 36 = .ok (.aload_n 0, 1) := by decide +kernel
theorem dX4_joinAll_37 : decode cX4_joinAll 37 = .ok (.getfield 41, 3) := by decide +kernel
theorem dX4_joinAll_40 : decode cX4_joinAll 40 = .ok (.iload_n 1, 1) := by decide +kernel
theorem dX4_joinAll_41 : decode cX4_joinAll 41 = .ok (.iconst 0, 1) := by decide +kernel
theorem dX4_joinAll_42 : decode cX4_joinAll 42 = .ok (.iastore, 1) := by decide +kernel
theorem dX4_joinAll_43 : decode cX4_joinAll 43 = .ok (.iconst 0, 1) := by decide +kernel
theorem dX4_joinAll_44 : decode cX4_joinAll 44 = .ok (.istore_n 3, 1) := by decide +kernel
theorem dX4_joinAll_45 : decode cX4_joinAll 45 = .ok (.iload_n 3, 1) := by decide +kernel
theorem dX4_joinAll_46 : decode cX4_joinAll 46 = .ok (.aload_n 0, 1) := by decide +kernel
theorem dX4_joinAll_47 : decode cX4_joinAll 47 = .ok (.getfield 59, 3) := by decide +kernel
theorem dX4_joinAll_50 : decode cX4_joinAll 50 = .ok (.getfield 72, 3) := by decide +kernel
theorem dX4_joinAll_53 : decode cX4_joinAll 53 = .ok (.if_icmp .ge 41, 3) := by decide +kernel
theorem dX4_joinAll_56 : decode cX4_joinAll 56 = .ok (.aload_n 0, 1) := by decide +kernel
theorem dX4_joinAll_57 : decode cX4_joinAll 57 = .ok (.getfield 12, 3) := by decide +kernel
theorem dX4_joinAll_60 : decode cX4_joinAll 60 = .ok (.iload_n 1, 1) := by decide +kernel
theorem dX4_joinAll_61 : decode cX4_joinAll 61 = .ok (.iload_n 3, 1) := by decide +kernel
theorem dX4_joinAll_62 : decode cX4_joinAll 62 = .ok (.invokevirtual 106, 3) := by decide +kernel
theorem dX4_joinAll_65 : decode cX4_joinAll 65 = .ok (.istore 4, 2) := by decide +kernel
theorem dX4_joinAll_67 : decode cX4_joinAll 67 = .ok (.iload 4, 2) := by decide +kernel
theorem dX4_joinAll_69 : decode cX4_joinAll 69 = .ok (.ifCond .lt 19, 3) := by decide +kernel
theorem dX4_joinAll_72 : decode cX4_joinAll 72 = .ok (.aload_n 0, 1) := by decide +kernel
theorem dX4_joinAll_73 : decode cX4_joinAll 73 = .ok (.iload_n 1, 1) := by decide +kernel
theorem dX4_joinAll_74 : decode cX4_joinAll 74 = .ok (.iload_n 3, 1) := by decide +kernel
theorem dX4_joinAll_75 : decode cX4_joinAll 75 = .ok (.aload_n 0, 1) := by decide +kernel
theorem dX4_joinAll_76 : decode cX4_joinAll 76 = .ok (.getfield 12, 3) := by decide +kernel
theorem dX4_joinAll_79 : decode cX4_joinAll 79 = .ok (.getfield 158, 3) := by decide +kernel
theorem dX4_joinAll_82 : decode cX4_joinAll 82 = .ok (.iload 4, 2) := by decide +kernel
theorem dX4_joinAll_84 : decode cX4_joinAll 84 = .ok (.iaload, 1) := by decide +kernel
theorem dX4_joinAll_85 : decode cX4_joinAll 85 = .ok (.invokevirtual 84, 3) := by decide +kernel
theorem dX4_joinAll_88 : decode cX4_joinAll 88 = .ok (.iinc 3 1, 3) := by decide +kernel
theorem dX4_joinAll_91 : decode cX4_joinAll 91 = .ok (.goto (-46), 3) := by decide +kernel
theorem dX4_joinAll_94 : decode cX4_joinAll 94 = .ok (.iload_n 2, 1) := by decide +kernel
theorem dX4_joinAll_95 : decode cX4_joinAll 95 = .ok (.ireturn, 1) := by decide +kernel
def Wo_joinAll_88 (k45 : Int32 → Int32 → Int32 → Sl → Option (Int32 × Sl)) (M : Mem) (v1 : Int32) (v2 : Int32) (v3 : Int32) (d : Sl) : Option (Int32 × Sl) :=
  bnd (v3 + (1 : Int32)) fun v3_1 =>
  k45 v1 v2 v3_1 d
def Wo_joinAll_45 (M : Mem) : Nat → Int32 → Int32 → Int32 → Sl → Option (Int32 × Sl)
  | 0, _, _, _, _ => none
  | n + 1, v1, v2, v3, d =>
    gref (d 10 0) fun q2 =>
    if (M q2 4 6) ≤ v3 then
      (some (v2, d))
    else
      (bp (De_find d v1 v3) fun r3 =>
      bnd r3 fun v4_4 =>
      if v4_4 < 0 then
        (Wo_joinAll_88 (Wo_joinAll_45 M n) M v1 v2 v3 d)
      else
        (if inb v4_4 192 then
        bd (Wo_widen M d v1 v3 (d 21 (ix v4_4))) fun r5 d6 =>
        Wo_joinAll_88 (Wo_joinAll_45 M n) M v1 v2 v3 d6
        else none))
def Wo_joinAll_36 (M : Mem) (v1 : Int32) (v2 : Int32) (d : Sl) : Option (Int32 × Sl) :=
  if inb v1 6 then
  bnd (wr d 15 (ix v1) (0 : Int32)) fun d7 =>
  bnd (0 : Int32) fun v3_8 =>
  Wo_joinAll_45 M FU v1 v2 v3_8 d7
  else none
def Wo_joinAll_12 (M : Mem) : Nat → Int32 → Int32 → Sl → Option (Int32 × Sl)
  | 0, _, _, _ => none
  | n + 1, v1, v2, d =>
    if (192 : Int32) ≤ v2 then
      (Wo_joinAll_36 M v1 v2 d)
    else
      (bd (De_joinTwo d v1) fun r9 d10 =>
      if r9 = 0 then
        (Wo_joinAll_36 M v1 v2 d10)
      else
        (bnd (v2 + (1 : Int32)) fun v2_11 =>
        Wo_joinAll_12 M n v1 v2_11 d10))
def Wo_joinAll (M : Mem) (d : Sl) (a1 : Int32) : Option (Int32 × Sl) :=
  bp (Wo_isSpace M d a1) fun r12 =>
  if r12 = 0 then
    (some ((-1 : Int32), d))
  else
    (bnd (0 : Int32) fun v2_13 =>
    Wo_joinAll_12 M FU a1 v2_13 d)
theorem y_X4_joinAll : YV yX4_joinAll cX4_joinAll 5 (some .int) 1 := ⟨q886, q887, q888, q146, by decide +kernel, by decide +kernel, by decide +kernel, by decide +kernel⟩
theorem r_Wo_joinAll_88 {C : Cxt} {G : Geo} {M : Mem} {k : Nat} (hC : Cx C cX4_joinAll 5 "FrameHeirs$World" (some .int) rm_X4_joinAll G) (hk : LWd G k) (hk2 : 2 ≤ k) (hcl : GCl G) (k45 : Int32 → Int32 → Int32 → Sl → Option (Int32 × Sl)) (h45 : ∀ (v1 : Int32) (v2 : Int32) (v3 : Int32) (d : Sl), Rz C 5 G (setS M k) (poM avI (setS M k)) 45 [(0, .inr (k, 10)), (1, .inl (.int v1)), (2, .inl (.int v2)), (3, .inl (.int v3))] [] d (k45 v1 v2 v3 d)) (v1 : Int32) (v2 : Int32) (v3 : Int32) (d : Sl) : Rz C 5 G (setS M k) (poM avI (setS M k)) 88 [(0, .inr (k, 10)), (1, .inl (.int v1)), (2, .inl (.int v2)), (3, .inl (.int v3))] [] d (Wo_joinAll_88 k45 M v1 v2 v3 d) := by
  unfold Wo_joinAll_88
  refine z_iinc (pc := 88) (ls1 := fun v => [(3, .inl (.int v)), (0, .inr (k, 10)), (1, .inl (.int v1)), (2, .inl (.int v2))]) hC 3 3 (by decide) (1 : Int32) rfl rfl (fun v => rfl) dX4_joinAll_88 (fun v3_1 => ?_)
  refine z_goto (pc := 91) hC 45 rfl dX4_joinAll_91 ?_
  exact z_sub [1, 2, 3, 0] rfl (h45 v1 v2 v3_1 d)
theorem r_Wo_joinAll_45 {C : Cxt} {G : Geo} {M : Mem} {k : Nat} (hC : Cx C cX4_joinAll 5 "FrameHeirs$World" (some .int) rm_X4_joinAll G) (hk : LWd G k) (hk2 : 2 ≤ k) (hcl : GCl G) : ∀ (n : Nat) (v1 : Int32) (v2 : Int32) (v3 : Int32) (d : Sl), Rz C 5 G (setS M k) (poM avI (setS M k)) 45 [(0, .inr (k, 10)), (1, .inl (.int v1)), (2, .inl (.int v2)), (3, .inl (.int v3))] [] d (Wo_joinAll_45 M n v1 v2 v3 d) := by
  intro n
  induction n with
  | zero => intros; exact z_none
  | succ n ih =>
    intro v1 v2 v3 d
    rw [Wo_joinAll_45]
    refine z_iload_n (pc := 45) hC 3 rfl 3 rfl dX4_joinAll_45 ?_
    refine z_aload_n (pc := 46) hC 0 rfl 0 rfl dX4_joinAll_46 ?_
    refine zs_getS (pc := 47) hC hcl (hk 10 rfl) f_10_0 q377 dX4_joinAll_47 (fun q2 hq2 gq2 => ?_)
    refine zo_geti (pc := 50) hC (Nat.ne_of_lt (Nat.lt_of_lt_of_le gq2 hk2)) (hq2 4 rfl) f_4_6 q191 dX4_joinAll_50 ?_
    refine z_icmp_ge (pc := 53) hC 94 rfl dX4_joinAll_53 ?_ ?_
    · refine z_iload_n (pc := 94) hC 2 rfl 2 rfl dX4_joinAll_94 ?_
      exact z_iret (pc := 95) hC rfl dX4_joinAll_95
    · refine z_aload_n (pc := 56) hC 0 rfl 0 rfl dX4_joinAll_56 ?_
      refine z_getc (pc := 57) hC (hk 10 rfl) f_10_1 q378 dX4_joinAll_57 ?_
      refine z_iload_n (pc := 60) hC 1 rfl 1 rfl dX4_joinAll_60 ?_
      refine z_iload_n (pc := 61) hC 3 rfl 3 rfl dX4_joinAll_61 ?_
      refine z_piV (pc := 62) (st := []) hC y_X0_find q655 [.inl (.int v1), .inl (.int v3)] rfl (hk 17 rfl) rfl rfl (c_X0_find hC.2.2.2.2.2.2.1 hk hk2) rfl ⟨rfl, rfl, (Nat.le_of_ble_eq_true rfl), (Nat.le_of_ble_eq_true rfl)⟩ (Nat.le_of_ble_eq_true rfl) dX4_joinAll_62 (fun r3 => ?_)
      refine z_istore (pc := 65) (ls1 := fun v => [(4, .inl (.int v)), (0, .inr (k, 10)), (1, .inl (.int v1)), (2, .inl (.int v2)), (3, .inl (.int v3))]) hC 4 (by decide) (fun v => rfl) dX4_joinAll_65 (fun v4_4 => ?_)
      refine z_iload (pc := 67) hC 4 0 rfl dX4_joinAll_67 ?_
      refine z_if_lt (pc := 69) hC 88 rfl dX4_joinAll_69 ?_ ?_
      · exact z_sub [1, 2, 3, 4] rfl (r_Wo_joinAll_88 hC hk hk2 hcl _ ih v1 v2 v3 d)
      · refine z_aload_n (pc := 72) hC 0 rfl 1 rfl dX4_joinAll_72 ?_
        refine z_iload_n (pc := 73) hC 1 rfl 2 rfl dX4_joinAll_73 ?_
        refine z_iload_n (pc := 74) hC 3 rfl 4 rfl dX4_joinAll_74 ?_
        refine z_aload_n (pc := 75) hC 0 rfl 1 rfl dX4_joinAll_75 ?_
        refine z_getc (pc := 76) hC (hk 10 rfl) f_10_1 q378 dX4_joinAll_76 ?_
        refine z_getc (pc := 79) hC (hk 17 rfl) f_17_3 q304 dX4_joinAll_79 ?_
        refine z_iload (pc := 82) hC 4 0 rfl dX4_joinAll_82 ?_
        refine zs_iald (pc := 84) hC (hk 21 rfl) rfl dX4_joinAll_84 ?_
        refine z_cvV (pc := 85) (st := []) hC y_X4_widen q595 [.inl (.int v1), .inl (.int v3), .inl (.int (d 21 (ix v4_4)))] rfl (hk 10 rfl) rfl rfl (c_X4_widen hC.2.2.2.2.2.2.1 hk hk2 hcl) rfl ⟨rfl, rfl, (Nat.le_of_ble_eq_true rfl), (Nat.le_of_ble_eq_true rfl)⟩ (Nat.le_of_ble_eq_true rfl) dX4_joinAll_85 (fun r5 d6 => ?_)
        exact z_sub [1, 2, 3, 4] rfl (r_Wo_joinAll_88 hC hk hk2 hcl _ ih v1 v2 v3 d6)
theorem r_Wo_joinAll_36 {C : Cxt} {G : Geo} {M : Mem} {k : Nat} (hC : Cx C cX4_joinAll 5 "FrameHeirs$World" (some .int) rm_X4_joinAll G) (hk : LWd G k) (hk2 : 2 ≤ k) (hcl : GCl G) (v1 : Int32) (v2 : Int32) (d : Sl) : Rz C 5 G (setS M k) (poM avI (setS M k)) 36 [(0, .inr (k, 10)), (1, .inl (.int v1)), (2, .inl (.int v2))] [] d (Wo_joinAll_36 M v1 v2 d) := by
  unfold Wo_joinAll_36
  refine z_aload_n (pc := 36) hC 0 rfl 0 rfl dX4_joinAll_36 ?_
  refine z_getc (pc := 37) hC (hk 10 rfl) f_10_9 q388 dX4_joinAll_37 ?_
  refine z_iload_n (pc := 40) hC 1 rfl 1 rfl dX4_joinAll_40 ?_
  refine z_iconst (pc := 41) hC (0 : Int32) rfl dX4_joinAll_41 ?_
  refine zs_iast (pc := 42) hC (hk 15 rfl) (by decide) rfl dX4_joinAll_42 (fun d7 => ?_)
  refine z_iconst (pc := 43) hC (0 : Int32) rfl dX4_joinAll_43 ?_
  refine z_istore_n (pc := 44) (ls1 := fun v => [(3, .inl (.int v)), (0, .inr (k, 10)), (1, .inl (.int v1)), (2, .inl (.int v2))]) hC 3 rfl (by decide) (fun v => rfl) dX4_joinAll_44 (fun v3_8 => ?_)
  exact z_sub [1, 2, 3, 0] rfl (r_Wo_joinAll_45 hC hk hk2 hcl FU v1 v2 v3_8 d7)
theorem r_Wo_joinAll_12 {C : Cxt} {G : Geo} {M : Mem} {k : Nat} (hC : Cx C cX4_joinAll 5 "FrameHeirs$World" (some .int) rm_X4_joinAll G) (hk : LWd G k) (hk2 : 2 ≤ k) (hcl : GCl G) : ∀ (n : Nat) (v1 : Int32) (v2 : Int32) (d : Sl), Rz C 5 G (setS M k) (poM avI (setS M k)) 12 [(0, .inr (k, 10)), (1, .inl (.int v1)), (2, .inl (.int v2))] [] d (Wo_joinAll_12 M n v1 v2 d) := by
  intro n
  induction n with
  | zero => intros; exact z_none
  | succ n ih =>
    intro v1 v2 d
    rw [Wo_joinAll_12]
    refine z_iload_n (pc := 12) hC 2 rfl 2 rfl dX4_joinAll_12 ?_
    refine z_sipush (pc := 13) hC (192 : Int32) rfl dX4_joinAll_13 ?_
    refine z_icmp_ge (pc := 16) hC 36 rfl dX4_joinAll_16 ?_ ?_
    · exact z_sub [0, 1, 2] rfl (r_Wo_joinAll_36 hC hk hk2 hcl v1 v2 d)
    · refine z_aload_n (pc := 19) hC 0 rfl 0 rfl dX4_joinAll_19 ?_
      refine z_getc (pc := 20) hC (hk 10 rfl) f_10_1 q378 dX4_joinAll_20 ?_
      refine z_iload_n (pc := 23) hC 1 rfl 1 rfl dX4_joinAll_23 ?_
      refine z_ciV (pc := 24) (st := []) hC y_X0_joinTwo q889 [.inl (.int v1)] rfl (hk 17 rfl) rfl rfl (c_X0_joinTwo hC.2.2.2.2.2.2.1 hk hk2) rfl ⟨rfl, rfl, (Nat.le_of_ble_eq_true rfl), (Nat.le_of_ble_eq_true rfl)⟩ (Nat.le_of_ble_eq_true rfl) dX4_joinAll_24 (fun r9 d10 => ?_)
      refine z_if_eq (pc := 27) hC 36 rfl dX4_joinAll_27 ?_ ?_
      · exact z_sub [0, 1, 2] rfl (r_Wo_joinAll_36 hC hk hk2 hcl v1 v2 d10)
      · refine z_iinc (pc := 30) (ls1 := fun v => [(2, .inl (.int v)), (0, .inr (k, 10)), (1, .inl (.int v1))]) hC 2 2 (by decide) (1 : Int32) rfl rfl (fun v => rfl) dX4_joinAll_30 (fun v2_11 => ?_)
        refine z_goto (pc := 33) hC 12 rfl dX4_joinAll_33 ?_
        exact z_sub [1, 2, 0] rfl (ih v1 v2_11 d10)
theorem r_Wo_joinAll {C : Cxt} {G : Geo} {M : Mem} {k : Nat} (hC : Cx C cX4_joinAll 5 "FrameHeirs$World" (some .int) rm_X4_joinAll G) (hk : LWd G k) (hk2 : 2 ≤ k) (hcl : GCl G) (d : Sl) (a1 : Int32) : Rz C 5 G (setS M k) (poM avI (setS M k)) 0 [(0, .inr (k, 10)), (1, .inl (.int a1))] [] d (Wo_joinAll M d a1) := by
  unfold Wo_joinAll
  refine z_aload_n (pc := 0) hC 0 rfl 0 rfl dX4_joinAll_0 ?_
  refine z_iload_n (pc := 1) hC 1 rfl 1 rfl dX4_joinAll_1 ?_
  refine z_piV (pc := 2) (st := []) hC y_X4_isSpace q636 [.inl (.int a1)] rfl (hk 10 rfl) rfl rfl (c_X4_isSpace hC.2.2.2.2.2.2.1 hk hk2 hcl) rfl ⟨rfl, rfl, (Nat.le_of_ble_eq_true rfl), (Nat.le_of_ble_eq_true rfl)⟩ (Nat.le_of_ble_eq_true rfl) dX4_joinAll_2 (fun r12 => ?_)
  refine z_if_ne (pc := 5) hC 10 rfl dX4_joinAll_5 ?_ ?_
  · refine z_iconst (pc := 10) hC (0 : Int32) rfl dX4_joinAll_10 ?_
    refine z_istore_n (pc := 11) (ls1 := fun v => [(2, .inl (.int v)), (0, .inr (k, 10)), (1, .inl (.int a1))]) hC 2 rfl (by decide) (fun v => rfl) dX4_joinAll_11 (fun v2_13 => ?_)
    exact z_sub [1, 2, 0] rfl (r_Wo_joinAll_12 hC hk hk2 hcl FU a1 v2_13 d)
  · refine z_iconst (pc := 8) hC (-1 : Int32) rfl dX4_joinAll_8 ?_
    exact z_iret (pc := 9) hC rfl dX4_joinAll_9
theorem c_X4_joinAll {G : Geo} {M : Mem} {k : Nat} (hG : GOk G) (hk : LWd G k) (hk2 : 2 ≤ k) (hcl : GCl G) {d : Sl} {a1 : Int32} (l : Launch) (r : Int32) (d1 : Sl) (h : Wo_joinAll M d a1 = some (r, d1)) : Mt l yX4_joinAll cX4_joinAll 5 (some .int) rm_X4_joinAll G [.inr (k, 10), .inl (.int a1)] ((setS M k) d) (avI r) ((setS M k) d1) :=
  mt_of (mem := (setS M k)) (po := poM avI (setS M k)) (x0 := d) (t := (r, d1)) rfl hG [.inr (k, 10), .inl (.int a1)] (Nat.le_of_ble_eq_true rfl) rfl (fun C hC => r_Wo_joinAll hC hk hk2 hcl d a1) h
-- FrameHeirs$World.keptFor(I)I
abbrev rm_X4_keptFor : Room := { frames := 1, cells := 0, slots := 0, locals := 25 }
theorem dX4_keptFor_0 : decode cX4_keptFor 0 = .ok (.iconst 0, 1) := by decide +kernel
theorem dX4_keptFor_1 : decode cX4_keptFor 1 = .ok (.istore_n 2, 1) := by decide +kernel
theorem dX4_keptFor_2 : decode cX4_keptFor 2 = .ok (.iconst 0, 1) := by decide +kernel
theorem dX4_keptFor_3 : decode cX4_keptFor 3 = .ok (.istore_n 3, 1) := by decide +kernel
theorem dX4_keptFor_4 : decode cX4_keptFor 4 = .ok (.iload_n 3, 1) := by decide +kernel
theorem dX4_keptFor_5 : decode cX4_keptFor 5 = .ok (.aload_n 0, 1) := by decide +kernel
theorem dX4_keptFor_6 : decode cX4_keptFor 6 = .ok (.getfield 59, 3) := by decide +kernel
theorem dX4_keptFor_9 : decode cX4_keptFor 9 = .ok (.getfield 72, 3) := by decide +kernel
theorem dX4_keptFor_12 : decode cX4_keptFor 12 = .ok (.if_icmp .ge 48, 3) := by decide +kernel
theorem dX4_keptFor_15 : decode cX4_keptFor 15 = .ok (.aload_n 0, 1) := by decide +kernel
theorem dX4_keptFor_16 : decode cX4_keptFor 16 = .ok (.getfield 41, 3) := by decide +kernel
theorem dX4_keptFor_19 : decode cX4_keptFor 19 = .ok (.iload_n 1, 1) := by decide +kernel
theorem dX4_keptFor_20 : decode cX4_keptFor 20 = .ok (.iaload, 1) := by decide +kernel
theorem dX4_keptFor_21 : decode cX4_keptFor 21 = .ok (.iload_n 3, 1) := by decide +kernel
theorem dX4_keptFor_22 : decode cX4_keptFor 22 = .ok (.bipush 8, 2) := by decide +kernel
theorem dX4_keptFor_24 : decode cX4_keptFor 24 = .ok (.idiv, 1) := by decide +kernel
theorem dX4_keptFor_25 : decode cX4_keptFor 25 = .ok (.ishr, 1) := by decide +kernel
theorem dX4_keptFor_26 : decode cX4_keptFor 26 = .ok (.iconst 1, 1) := by decide +kernel
theorem dX4_keptFor_27 : decode cX4_keptFor 27 = .ok (.iand, 1) := by decide +kernel
theorem dX4_keptFor_28 : decode cX4_keptFor 28 = .ok (.ifCond .eq 9, 3) := by decide +kernel
theorem dX4_keptFor_31 : decode cX4_keptFor 31 = .ok (.iinc 2 16, 3) := by decide +kernel
theorem dX4_keptFor_34 : decode cX4_keptFor 34 = .ok (.goto 20, 3) := by decide +kernel
theorem dX4_keptFor_37 : decode cX4_keptFor 37 = .ok (.aload_n 0, 1) := by decide +kernel
theorem dX4_keptFor_38 : decode cX4_keptFor 38 = .ok (.getfield 12, 3) := by decide +kernel
theorem dX4_keptFor_41 : decode cX4_keptFor 41 = .ok (.iload_n 1, 1) := by decide +kernel
theorem dX4_keptFor_42 : decode cX4_keptFor 42 = .ok (.iload_n 3, 1) := by decide +kernel
theorem dX4_keptFor_43 : decode cX4_keptFor 43 = .ok (.bipush 8, 2) := by decide +kernel
theorem dX4_keptFor_45 : decode cX4_keptFor 45 = .ok (.invokevirtual 142, 3) := by decide +kernel
theorem dX4_keptFor_48 : decode cX4_keptFor 48 = .ok (.ifCond .le 6, 3) := by decide +kernel
theorem dX4_keptFor_51 : decode cX4_keptFor 51 = .ok (.iinc 2 8, 3) := by decide +kernel
theorem dX4_keptFor_54 : decode cX4_keptFor 54 = .ok (.iinc 3 8, 3) := by decide +kernel
theorem dX4_keptFor_57 : decode cX4_keptFor 57 = .ok (.goto (-53), 3) := by decide +kernel
theorem dX4_keptFor_60 : decode cX4_keptFor 60 = .ok (.iload_n 2, 1) := by decide +kernel
theorem dX4_keptFor_61 : decode cX4_keptFor 61 = .ok (.ireturn, 1) := by decide +kernel
def Wo_keptFor_54 (k4 : Int32 → Int32 → Int32 → Option Int32) (M : Mem) (d : Sl) (v1 : Int32) (v2 : Int32) (v3 : Int32) : Option Int32 :=
  bnd (v3 + (8 : Int32)) fun v3_1 =>
  k4 v1 v2 v3_1
def Wo_keptFor_4 (M : Mem) (d : Sl) : Nat → Int32 → Int32 → Int32 → Option Int32
  | 0, _, _, _ => none
  | n + 1, v1, v2, v3 =>
    gref (d 10 0) fun q2 =>
    if (M q2 4 6) ≤ v3 then
      (some v2)
    else
      (if inb v1 6 then
      if ¬ (8 : Int32) = 0 then
      if (((d 15 (ix v1)) >>> ((v3 / (8 : Int32)) &&& 31)) &&& (1 : Int32)) = 0 then
        (bp (De_pagesIn d v1 v3 (8 : Int32)) fun r3 =>
        if r3 ≤ 0 then
          (Wo_keptFor_54 (Wo_keptFor_4 M d n) M d v1 v2 v3)
        else
          (bnd (v2 + (8 : Int32)) fun v2_4 =>
          Wo_keptFor_54 (Wo_keptFor_4 M d n) M d v1 v2_4 v3))
      else
        (bnd (v2 + (16 : Int32)) fun v2_5 =>
        Wo_keptFor_54 (Wo_keptFor_4 M d n) M d v1 v2_5 v3)
      else none
      else none)
def Wo_keptFor (M : Mem) (d : Sl) (a1 : Int32) : Option Int32 :=
  bnd (0 : Int32) fun v2_6 =>
  bnd (0 : Int32) fun v3_7 =>
  Wo_keptFor_4 M d FU a1 v2_6 v3_7
theorem y_X4_keptFor : YV yX4_keptFor cX4_keptFor 4 (some .int) 1 := ⟨q1046, q1047, q1048, q146, by decide +kernel, by decide +kernel, by decide +kernel, by decide +kernel⟩
theorem r_Wo_keptFor_54 {C : Cxt} {G : Geo} {M : Mem} {k : Nat} {d : Sl} (hC : Cx C cX4_keptFor 4 "FrameHeirs$World" (some .int) rm_X4_keptFor G) (hk : LWd G k) (hk2 : 2 ≤ k) (hcl : GCl G) (k4 : Int32 → Int32 → Int32 → Option Int32) (h4 : ∀ (v1 : Int32) (v2 : Int32) (v3 : Int32), Rz C 4 G (setS M k) (poP avI ((setS M k) d)) 4 [(0, .inr (k, 10)), (1, .inl (.int v1)), (2, .inl (.int v2)), (3, .inl (.int v3))] [] d (k4 v1 v2 v3)) (v1 : Int32) (v2 : Int32) (v3 : Int32) : Rz C 4 G (setS M k) (poP avI ((setS M k) d)) 54 [(0, .inr (k, 10)), (1, .inl (.int v1)), (2, .inl (.int v2)), (3, .inl (.int v3))] [] d (Wo_keptFor_54 k4 M d v1 v2 v3) := by
  unfold Wo_keptFor_54
  refine z_iinc (pc := 54) (ls1 := fun v => [(3, .inl (.int v)), (0, .inr (k, 10)), (1, .inl (.int v1)), (2, .inl (.int v2))]) hC 3 3 (by decide) (8 : Int32) rfl rfl (fun v => rfl) dX4_keptFor_54 (fun v3_1 => ?_)
  refine z_goto (pc := 57) hC 4 rfl dX4_keptFor_57 ?_
  exact z_sub [1, 2, 3, 0] rfl (h4 v1 v2 v3_1)
theorem r_Wo_keptFor_4 {C : Cxt} {G : Geo} {M : Mem} {k : Nat} {d : Sl} (hC : Cx C cX4_keptFor 4 "FrameHeirs$World" (some .int) rm_X4_keptFor G) (hk : LWd G k) (hk2 : 2 ≤ k) (hcl : GCl G) : ∀ (n : Nat) (v1 : Int32) (v2 : Int32) (v3 : Int32), Rz C 4 G (setS M k) (poP avI ((setS M k) d)) 4 [(0, .inr (k, 10)), (1, .inl (.int v1)), (2, .inl (.int v2)), (3, .inl (.int v3))] [] d (Wo_keptFor_4 M d n v1 v2 v3) := by
  intro n
  induction n with
  | zero => intros; exact z_none
  | succ n ih =>
    intro v1 v2 v3
    rw [Wo_keptFor_4]
    refine z_iload_n (pc := 4) hC 3 rfl 3 rfl dX4_keptFor_4 ?_
    refine z_aload_n (pc := 5) hC 0 rfl 0 rfl dX4_keptFor_5 ?_
    refine zs_getS (pc := 6) hC hcl (hk 10 rfl) f_10_0 q377 dX4_keptFor_6 (fun q2 hq2 gq2 => ?_)
    refine zo_geti (pc := 9) hC (Nat.ne_of_lt (Nat.lt_of_lt_of_le gq2 hk2)) (hq2 4 rfl) f_4_6 q191 dX4_keptFor_9 ?_
    refine z_icmp_ge (pc := 12) hC 60 rfl dX4_keptFor_12 ?_ ?_
    · refine z_iload_n (pc := 60) hC 2 rfl 2 rfl dX4_keptFor_60 ?_
      exact z_iret (pc := 61) hC rfl dX4_keptFor_61
    · refine z_aload_n (pc := 15) hC 0 rfl 0 rfl dX4_keptFor_15 ?_
      refine z_getc (pc := 16) hC (hk 10 rfl) f_10_9 q388 dX4_keptFor_16 ?_
      refine z_iload_n (pc := 19) hC 1 rfl 1 rfl dX4_keptFor_19 ?_
      refine zs_iald (pc := 20) hC (hk 15 rfl) rfl dX4_keptFor_20 ?_
      refine z_iload_n (pc := 21) hC 3 rfl 3 rfl dX4_keptFor_21 ?_
      refine z_bipush (pc := 22) hC (8 : Int32) rfl dX4_keptFor_22 ?_
      refine z_idiv (pc := 24) hC dX4_keptFor_24 ?_
      refine z_ishr (pc := 25) hC dX4_keptFor_25 ?_
      refine z_iconst (pc := 26) hC (1 : Int32) rfl dX4_keptFor_26 ?_
      refine z_iand (pc := 27) hC dX4_keptFor_27 ?_
      refine z_if_eq (pc := 28) hC 37 rfl dX4_keptFor_28 ?_ ?_
      · refine z_aload_n (pc := 37) hC 0 rfl 0 rfl dX4_keptFor_37 ?_
        refine z_getc (pc := 38) hC (hk 10 rfl) f_10_1 q378 dX4_keptFor_38 ?_
        refine z_iload_n (pc := 41) hC 1 rfl 1 rfl dX4_keptFor_41 ?_
        refine z_iload_n (pc := 42) hC 3 rfl 3 rfl dX4_keptFor_42 ?_
        refine z_bipush (pc := 43) hC (8 : Int32) rfl dX4_keptFor_43 ?_
        refine z_piV (pc := 45) (st := []) hC y_X0_pagesIn q672 [.inl (.int v1), .inl (.int v3), .inl (.int (8 : Int32))] rfl (hk 17 rfl) rfl rfl (c_X0_pagesIn hC.2.2.2.2.2.2.1 hk hk2) rfl ⟨rfl, rfl, (Nat.le_of_ble_eq_true rfl), (Nat.le_of_ble_eq_true rfl)⟩ (Nat.le_of_ble_eq_true rfl) dX4_keptFor_45 (fun r3 => ?_)
        refine z_if_le (pc := 48) hC 54 rfl dX4_keptFor_48 ?_ ?_
        · exact z_sub [0, 1, 2, 3] rfl (r_Wo_keptFor_54 hC hk hk2 hcl _ ih v1 v2 v3)
        · refine z_iinc (pc := 51) (ls1 := fun v => [(2, .inl (.int v)), (0, .inr (k, 10)), (1, .inl (.int v1)), (3, .inl (.int v3))]) hC 2 2 (by decide) (8 : Int32) rfl rfl (fun v => rfl) dX4_keptFor_51 (fun v2_4 => ?_)
          exact z_sub [1, 2, 0, 3] rfl (r_Wo_keptFor_54 hC hk hk2 hcl _ ih v1 v2_4 v3)
      · refine z_iinc (pc := 31) (ls1 := fun v => [(2, .inl (.int v)), (0, .inr (k, 10)), (1, .inl (.int v1)), (3, .inl (.int v3))]) hC 2 2 (by decide) (16 : Int32) rfl rfl (fun v => rfl) dX4_keptFor_31 (fun v2_5 => ?_)
        refine z_goto (pc := 34) hC 54 rfl dX4_keptFor_34 ?_
        exact z_sub [1, 2, 0, 3] rfl (r_Wo_keptFor_54 hC hk hk2 hcl _ ih v1 v2_5 v3)
theorem r_Wo_keptFor {C : Cxt} {G : Geo} {M : Mem} {k : Nat} (hC : Cx C cX4_keptFor 4 "FrameHeirs$World" (some .int) rm_X4_keptFor G) (hk : LWd G k) (hk2 : 2 ≤ k) (hcl : GCl G) (d : Sl) (a1 : Int32) : Rz C 4 G (setS M k) (poP avI ((setS M k) d)) 0 [(0, .inr (k, 10)), (1, .inl (.int a1))] [] d (Wo_keptFor M d a1) := by
  unfold Wo_keptFor
  refine z_iconst (pc := 0) hC (0 : Int32) rfl dX4_keptFor_0 ?_
  refine z_istore_n (pc := 1) (ls1 := fun v => [(2, .inl (.int v)), (0, .inr (k, 10)), (1, .inl (.int a1))]) hC 2 rfl (by decide) (fun v => rfl) dX4_keptFor_1 (fun v2_6 => ?_)
  refine z_iconst (pc := 2) hC (0 : Int32) rfl dX4_keptFor_2 ?_
  refine z_istore_n (pc := 3) (ls1 := fun v => [(3, .inl (.int v)), (2, .inl (.int v2_6)), (0, .inr (k, 10)), (1, .inl (.int a1))]) hC 3 rfl (by decide) (fun v => rfl) dX4_keptFor_3 (fun v3_7 => ?_)
  exact z_sub [2, 3, 1, 0] rfl (r_Wo_keptFor_4 hC hk hk2 hcl FU a1 v2_6 v3_7)
theorem c_X4_keptFor {G : Geo} {M : Mem} {k : Nat} (hG : GOk G) (hk : LWd G k) (hk2 : 2 ≤ k) (hcl : GCl G) {d : Sl} {a1 : Int32} (l : Launch) (r : Int32) (h : Wo_keptFor M d a1 = some r) : Mt l yX4_keptFor cX4_keptFor 4 (some .int) rm_X4_keptFor G [.inr (k, 10), .inl (.int a1)] ((setS M k) d) (avI r) ((setS M k) d) :=
  mt_of (mem := (setS M k)) (po := poP avI ((setS M k) d)) (x0 := d) (t := r) rfl hG [.inr (k, 10), .inl (.int a1)] (Nat.le_of_ble_eq_true rfl) rfl (fun C hC => r_Wo_keptFor hC hk hk2 hcl d a1) h
-- FrameHeirs$World.firstGap(II)I
abbrev rm_X4_firstGap : Room := { frames := 1, cells := 0, slots := 0, locals := 25 }
theorem dX4_firstGap_0 : decode cX4_firstGap 0 = .ok (.iconst 1, 1) := by decide +kernel
theorem dX4_firstGap_1 : decode cX4_firstGap 1 = .ok (.iload_n 2, 1) := by decide +kernel
theorem dX4_firstGap_2 : decode cX4_firstGap 2 = .ok (.ishl, 1) := by decide +kernel
theorem dX4_firstGap_3 : decode cX4_firstGap 3 = .ok (.istore_n 3, 1) := by decide +kernel
theorem dX4_firstGap_4 : decode cX4_firstGap 4 = .ok (.iconst 0, 1) := by decide +kernel
theorem dX4_firstGap_5 : decode cX4_firstGap 5 = .ok (.istore 4, 2) := by decide +kernel
theorem dX4_firstGap_7 : decode cX4_firstGap 7 = .ok (.iload 4, 2) := by decide +kernel
theorem dX4_firstGap_9 : decode cX4_firstGap 9 = .ok (.aload_n 0, 1) := by decide +kernel
theorem dX4_firstGap_10 : decode cX4_firstGap 10 = .ok (.getfield 59, 3) := by decide +kernel
theorem dX4_firstGap_13 : decode cX4_firstGap 13 = .ok (.getfield 72, 3) := by decide +kernel
theorem dX4_firstGap_16 : decode cX4_firstGap 16 = .ok (.if_icmp .ge 29, 3) := by decide +kernel
theorem dX4_firstGap_19 : decode cX4_firstGap 19 = .ok (.aload_n 0, 1) := by decide +kernel
theorem dX4_firstGap_20 : decode cX4_firstGap 20 = .ok (.getfield 12, 3) := by decide +kernel
theorem dX4_firstGap_23 : decode cX4_firstGap 23 = .ok (.iload_n 1, 1) := by decide +kernel
theorem dX4_firstGap_24 : decode cX4_firstGap 24 = .ok (.iload 4, 2) := by decide +kernel
theorem dX4_firstGap_26 : decode cX4_firstGap 26 = .ok (.iload_n 3, 1) := by decide +kernel
theorem dX4_firstGap_27 : decode cX4_firstGap 27 = .ok (.invokevirtual 142, 3) := by decide +kernel
theorem dX4_firstGap_30 : decode cX4_firstGap 30 = .ok (.ifCond .ne 6, 3) := by decide +kernel
theorem dX4_firstGap_33 : decode cX4_firstGap 33 = .ok (.iload 4, 2) := by decide +kernel
theorem dX4_firstGap_35 : decode cX4_firstGap 35 = .ok (.ireturn, 1) := by decide +kernel
theorem dX4_firstGap_36 : decode cX4_firstGap 36 = .ok (.iload 4, 2) := by decide +kernel
theorem dX4_firstGap_38 : decode cX4_firstGap 38 = .ok (.iload_n 3, 1) := by decide +kernel
theorem dX4_firstGap_39 : decode cX4_firstGap 39 = .ok (.iadd, 1) := by decide +kernel
theorem dX4_firstGap_40 : decode cX4_firstGap 40 = .ok (.istore 4, 2) := by decide +kernel
theorem dX4_firstGap_42 : decode cX4_firstGap 42 = .ok (.goto (-35), 3) := by decide +kernel
theorem dX4_firstGap_45 : decode cX4_firstGap 45 = .ok (.bipush (-2), 2) := by decide +kernel
theorem dX4_firstGap_47 : decode cX4_firstGap 47 = .ok (.ireturn, 1) := by decide +kernel
def Wo_firstGap_7 (M : Mem) (d : Sl) : Nat → Int32 → Int32 → Int32 → Option Int32
  | 0, _, _, _ => none
  | n + 1, v1, v3, v4 =>
    gref (d 10 0) fun q1 =>
    if (M q1 4 6) ≤ v4 then
      (some (-2 : Int32))
    else
      (bp (De_pagesIn d v1 v4 v3) fun r2 =>
      if r2 = 0 then
        (some v4)
      else
        (bnd (v4 + v3) fun v4_3 =>
        Wo_firstGap_7 M d n v1 v3 v4_3))
def Wo_firstGap (M : Mem) (d : Sl) (a1 : Int32) (a2 : Int32) : Option Int32 :=
  bnd ((1 : Int32) <<< (a2 &&& 31)) fun v3_4 =>
  bnd (0 : Int32) fun v4_5 =>
  Wo_firstGap_7 M d FU a1 v3_4 v4_5
theorem y_X4_firstGap : YV yX4_firstGap cX4_firstGap 5 (some .int) 2 := ⟨q993, q994, q995, q146, by decide +kernel, by decide +kernel, by decide +kernel, by decide +kernel⟩
theorem r_Wo_firstGap_7 {C : Cxt} {G : Geo} {M : Mem} {k : Nat} {d : Sl} (hC : Cx C cX4_firstGap 5 "FrameHeirs$World" (some .int) rm_X4_firstGap G) (hk : LWd G k) (hk2 : 2 ≤ k) (hcl : GCl G) : ∀ (n : Nat) (v1 : Int32) (v3 : Int32) (v4 : Int32), Rz C 5 G (setS M k) (poP avI ((setS M k) d)) 7 [(0, .inr (k, 10)), (1, .inl (.int v1)), (3, .inl (.int v3)), (4, .inl (.int v4))] [] d (Wo_firstGap_7 M d n v1 v3 v4) := by
  intro n
  induction n with
  | zero => intros; exact z_none
  | succ n ih =>
    intro v1 v3 v4
    rw [Wo_firstGap_7]
    refine z_iload (pc := 7) hC 4 3 rfl dX4_firstGap_7 ?_
    refine z_aload_n (pc := 9) hC 0 rfl 0 rfl dX4_firstGap_9 ?_
    refine zs_getS (pc := 10) hC hcl (hk 10 rfl) f_10_0 q377 dX4_firstGap_10 (fun q1 hq1 gq1 => ?_)
    refine zo_geti (pc := 13) hC (Nat.ne_of_lt (Nat.lt_of_lt_of_le gq1 hk2)) (hq1 4 rfl) f_4_6 q191 dX4_firstGap_13 ?_
    refine z_icmp_ge (pc := 16) hC 45 rfl dX4_firstGap_16 ?_ ?_
    · refine z_bipush (pc := 45) hC (-2 : Int32) rfl dX4_firstGap_45 ?_
      exact z_iret (pc := 47) hC rfl dX4_firstGap_47
    · refine z_aload_n (pc := 19) hC 0 rfl 0 rfl dX4_firstGap_19 ?_
      refine z_getc (pc := 20) hC (hk 10 rfl) f_10_1 q378 dX4_firstGap_20 ?_
      refine z_iload_n (pc := 23) hC 1 rfl 1 rfl dX4_firstGap_23 ?_
      refine z_iload (pc := 24) hC 4 3 rfl dX4_firstGap_24 ?_
      refine z_iload_n (pc := 26) hC 3 rfl 2 rfl dX4_firstGap_26 ?_
      refine z_piV (pc := 27) (st := []) hC y_X0_pagesIn q672 [.inl (.int v1), .inl (.int v4), .inl (.int v3)] rfl (hk 17 rfl) rfl rfl (c_X0_pagesIn hC.2.2.2.2.2.2.1 hk hk2) rfl ⟨rfl, rfl, (Nat.le_of_ble_eq_true rfl), (Nat.le_of_ble_eq_true rfl)⟩ (Nat.le_of_ble_eq_true rfl) dX4_firstGap_27 (fun r2 => ?_)
      refine z_if_ne (pc := 30) hC 36 rfl dX4_firstGap_30 ?_ ?_
      · refine z_iload (pc := 36) hC 4 3 rfl dX4_firstGap_36 ?_
        refine z_iload_n (pc := 38) hC 3 rfl 2 rfl dX4_firstGap_38 ?_
        refine z_iadd (pc := 39) hC dX4_firstGap_39 ?_
        refine z_istore (pc := 40) (ls1 := fun v => [(4, .inl (.int v)), (0, .inr (k, 10)), (1, .inl (.int v1)), (3, .inl (.int v3))]) hC 4 (by decide) (fun v => rfl) dX4_firstGap_40 (fun v4_3 => ?_)
        refine z_goto (pc := 42) hC 7 rfl dX4_firstGap_42 ?_
        exact z_sub [1, 2, 3, 0] rfl (ih v1 v3 v4_3)
      · refine z_iload (pc := 33) hC 4 3 rfl dX4_firstGap_33 ?_
        exact z_iret (pc := 35) hC rfl dX4_firstGap_35
theorem r_Wo_firstGap {C : Cxt} {G : Geo} {M : Mem} {k : Nat} (hC : Cx C cX4_firstGap 5 "FrameHeirs$World" (some .int) rm_X4_firstGap G) (hk : LWd G k) (hk2 : 2 ≤ k) (hcl : GCl G) (d : Sl) (a1 : Int32) (a2 : Int32) : Rz C 5 G (setS M k) (poP avI ((setS M k) d)) 0 [(0, .inr (k, 10)), (1, .inl (.int a1)), (2, .inl (.int a2))] [] d (Wo_firstGap M d a1 a2) := by
  unfold Wo_firstGap
  refine z_iconst (pc := 0) hC (1 : Int32) rfl dX4_firstGap_0 ?_
  refine z_iload_n (pc := 1) hC 2 rfl 2 rfl dX4_firstGap_1 ?_
  refine z_ishl (pc := 2) hC dX4_firstGap_2 ?_
  refine z_istore_n (pc := 3) (ls1 := fun v => [(3, .inl (.int v)), (0, .inr (k, 10)), (1, .inl (.int a1)), (2, .inl (.int a2))]) hC 3 rfl (by decide) (fun v => rfl) dX4_firstGap_3 (fun v3_4 => ?_)
  refine z_iconst (pc := 4) hC (0 : Int32) rfl dX4_firstGap_4 ?_
  refine z_istore (pc := 5) (ls1 := fun v => [(4, .inl (.int v)), (3, .inl (.int v3_4)), (0, .inr (k, 10)), (1, .inl (.int a1)), (2, .inl (.int a2))]) hC 4 (by decide) (fun v => rfl) dX4_firstGap_5 (fun v4_5 => ?_)
  exact z_sub [2, 3, 1, 0] rfl (r_Wo_firstGap_7 hC hk hk2 hcl FU a1 v3_4 v4_5)
theorem c_X4_firstGap {G : Geo} {M : Mem} {k : Nat} (hG : GOk G) (hk : LWd G k) (hk2 : 2 ≤ k) (hcl : GCl G) {d : Sl} {a1 : Int32} {a2 : Int32} (l : Launch) (r : Int32) (h : Wo_firstGap M d a1 a2 = some r) : Mt l yX4_firstGap cX4_firstGap 5 (some .int) rm_X4_firstGap G [.inr (k, 10), .inl (.int a1), .inl (.int a2)] ((setS M k) d) (avI r) ((setS M k) d) :=
  mt_of (mem := (setS M k)) (po := poP avI ((setS M k) d)) (x0 := d) (t := r) rfl hG [.inr (k, 10), .inl (.int a1), .inl (.int a2)] (Nat.le_of_ble_eq_true rfl) rfl (fun C hC => r_Wo_firstGap hC hk hk2 hcl d a1 a2) h
-- FrameHeirs$World.roomOf(I)I
abbrev rm_X4_roomOf : Room := { frames := 2, cells := 0, slots := 0, locals := 46 }
theorem dX4_roomOf_0 : decode cX4_roomOf 0 = .ok (.iload_n 1, 1) := by decide +kernel
theorem dX4_roomOf_1 : decode cX4_roomOf 1 = .ok (.ifCond .ne 13, 3) := by decide +kernel
theorem dX4_roomOf_4 : decode cX4_roomOf 4 = .ok (.aload_n 0, 1) := by decide +kernel
theorem dX4_roomOf_5 : decode cX4_roomOf 5 = .ok (.getfield 59, 3) := by decide +kernel
theorem dX4_roomOf_8 : decode cX4_roomOf 8 = .ok (.getfield 72, 3) := by decide +kernel
theorem dX4_roomOf_11 : decode cX4_roomOf 11 = .ok (.goto 22, 3) := by decide +kernel
theorem dX4_roomOf_14 : decode cX4_roomOf 14 = .ok (.aload_n 0, 1) := by decide +kernel
theorem dX4_roomOf_15 : decode cX4_roomOf 15 = .ok (.getfield 59, 3) := by decide +kernel
theorem dX4_roomOf_18 : decode cX4_roomOf 18 = .ok (.getfield 72, 3) := by decide +kernel
theorem dX4_roomOf_21 : decode cX4_roomOf 21 = .ok (.aload_n 0, 1) := by decide +kernel
theorem dX4_roomOf_22 : decode cX4_roomOf 22 = .ok (.getfield 59, 3) := by decide +kernel
theorem dX4_roomOf_25 : decode cX4_roomOf 25 = .ok (.getfield 126, 3) := by decide +kernel
theorem dX4_roomOf_28 : decode cX4_roomOf 28 = .ok (.iload_n 1, 1) := by decide +kernel
theorem dX4_roomOf_29 : decode cX4_roomOf 29 = .ok (.iaload, 1) := by decide +kernel
theorem dX4_roomOf_30 : decode cX4_roomOf 30 = .ok (.invokestatic 161, 3) := by decide +kernel
theorem dX4_roomOf_33 : decode cX4_roomOf 33 = .ok (.istore_n 2, 1) := by decide +kernel
theorem dX4_roomOf_34 : decode cX4_roomOf 34 = .ok (.iconst 0, 1) := by decide +kernel
theorem dX4_roomOf_35 : decode cX4_roomOf 35 = .ok (.iload_n 2, 1) := by decide +kernel
theorem dX4_roomOf_36 : decode cX4_roomOf 36 = .ok (.aload_n 0, 1) := by decide +kernel
theorem dX4_roomOf_37 : decode cX4_roomOf 37 = .ok (.getfield 12, 3) := by decide +kernel
theorem dX4_roomOf_40 : decode cX4_roomOf 40 = .ok (.iload_n 1, 1) := by decide +kernel
theorem dX4_roomOf_41 : decode cX4_roomOf 41 = .ok (.invokevirtual 122, 3) := by decide +kernel
theorem dX4_roomOf_44 : decode cX4_roomOf 44 = .ok (.isub, 1) := by decide +kernel
theorem dX4_roomOf_45 : decode cX4_roomOf 45 = .ok (.invokestatic 273, 3) := by decide +kernel
theorem dX4_roomOf_48 : decode cX4_roomOf 48 = .ok (.ireturn, 1) := by decide +kernel
def Wo_roomOf_33 (M : Mem) (d : Sl) (v1 : Int32) (s0 : Int32) : Option Int32 :=
  bnd s0 fun v2_1 =>
  bp (De_pagesOf d v1) fun r2 =>
  some (if (0 : Int32) < (v2_1 - r2) then (v2_1 - r2) else (0 : Int32))
def Wo_roomOf (M : Mem) (d : Sl) (a1 : Int32) : Option Int32 :=
  if a1 = 0 then
    (gref (d 10 0) fun q5 =>
    Wo_roomOf_33 M d a1 (M q5 4 6))
  else
    (gref (d 10 0) fun q3 =>
    gref (d 10 0) fun q4 =>
    if inb a1 6 then
    Wo_roomOf_33 M d a1 (if (M q4 8 (ix a1)) < (M q3 4 6) then (M q4 8 (ix a1)) else (M q3 4 6))
    else none)
theorem y_X4_roomOf : YV yX4_roomOf cX4_roomOf 3 (some .int) 1 := ⟨q1001, q1002, q1003, q146, by decide +kernel, by decide +kernel, by decide +kernel, by decide +kernel⟩
theorem r_Wo_roomOf_33 {C : Cxt} {G : Geo} {M : Mem} {k : Nat} {d : Sl} (hC : Cx C cX4_roomOf 3 "FrameHeirs$World" (some .int) rm_X4_roomOf G) (hk : LWd G k) (hk2 : 2 ≤ k) (hcl : GCl G) (v1 : Int32) (s0 : Int32) : Rz C 3 G (setS M k) (poP avI ((setS M k) d)) 33 [(0, .inr (k, 10)), (1, .inl (.int v1))] [.inl (.int s0)] d (Wo_roomOf_33 M d v1 s0) := by
  unfold Wo_roomOf_33
  refine z_istore_n (pc := 33) (ls1 := fun v => [(2, .inl (.int v)), (0, .inr (k, 10)), (1, .inl (.int v1))]) hC 2 rfl (by decide) (fun v => rfl) dX4_roomOf_33 (fun v2_1 => ?_)
  refine z_iconst (pc := 34) hC (0 : Int32) rfl dX4_roomOf_34 ?_
  refine z_iload_n (pc := 35) hC 2 rfl 0 rfl dX4_roomOf_35 ?_
  refine z_aload_n (pc := 36) hC 0 rfl 1 rfl dX4_roomOf_36 ?_
  refine z_getc (pc := 37) hC (hk 10 rfl) f_10_1 q378 dX4_roomOf_37 ?_
  refine z_iload_n (pc := 40) hC 1 rfl 2 rfl dX4_roomOf_40 ?_
  refine z_piV (pc := 41) (st := [.inl (.int v2_1), .inl (.int (0 : Int32))]) hC y_X0_pagesOf q684 [.inl (.int v1)] rfl (hk 17 rfl) rfl rfl (c_X0_pagesOf hC.2.2.2.2.2.2.1 hk hk2) rfl ⟨rfl, rfl, (Nat.le_of_ble_eq_true rfl), (Nat.le_of_ble_eq_true rfl)⟩ (Nat.le_of_ble_eq_true rfl) dX4_roomOf_41 (fun r2 => ?_)
  refine z_isub (pc := 44) hC dX4_roomOf_44 ?_
  refine z_max (pc := 45) hC q1004 q589 q150 q590 (Nat.le_of_ble_eq_true rfl) (Nat.le_of_ble_eq_true rfl) dX4_roomOf_45 ?_
  exact z_iret (pc := 48) hC rfl dX4_roomOf_48
theorem r_Wo_roomOf {C : Cxt} {G : Geo} {M : Mem} {k : Nat} (hC : Cx C cX4_roomOf 3 "FrameHeirs$World" (some .int) rm_X4_roomOf G) (hk : LWd G k) (hk2 : 2 ≤ k) (hcl : GCl G) (d : Sl) (a1 : Int32) : Rz C 3 G (setS M k) (poP avI ((setS M k) d)) 0 [(0, .inr (k, 10)), (1, .inl (.int a1))] [] d (Wo_roomOf M d a1) := by
  unfold Wo_roomOf
  refine z_iload_n (pc := 0) hC 1 rfl 1 rfl dX4_roomOf_0 ?_
  refine z_if_ne (pc := 1) hC 14 rfl dX4_roomOf_1 ?_ ?_
  · refine z_aload_n (pc := 14) hC 0 rfl 0 rfl dX4_roomOf_14 ?_
    refine zs_getS (pc := 15) hC hcl (hk 10 rfl) f_10_0 q377 dX4_roomOf_15 (fun q3 hq3 gq3 => ?_)
    refine zo_geti (pc := 18) hC (Nat.ne_of_lt (Nat.lt_of_lt_of_le gq3 hk2)) (hq3 4 rfl) f_4_6 q191 dX4_roomOf_18 ?_
    refine z_aload_n (pc := 21) hC 0 rfl 0 rfl dX4_roomOf_21 ?_
    refine zs_getS (pc := 22) hC hcl (hk 10 rfl) f_10_0 q377 dX4_roomOf_22 (fun q4 hq4 gq4 => ?_)
    refine z_getc (pc := 25) hC (hq4 4 rfl) f_4_3 q182 dX4_roomOf_25 ?_
    refine z_iload_n (pc := 28) hC 1 rfl 1 rfl dX4_roomOf_28 ?_
    refine zo_iald (pc := 29) hC (Nat.ne_of_lt (Nat.lt_of_lt_of_le gq4 hk2)) (hq4 8 rfl) rfl dX4_roomOf_29 ?_
    refine z_min (pc := 30) hC q693 q479 q150 q480 (Nat.le_of_ble_eq_true rfl) (Nat.le_of_ble_eq_true rfl) dX4_roomOf_30 ?_
    exact z_sub [0, 1] rfl (r_Wo_roomOf_33 hC hk hk2 hcl a1 (if (M q4 8 (ix a1)) < (M q3 4 6) then (M q4 8 (ix a1)) else (M q3 4 6)))
  · refine z_aload_n (pc := 4) hC 0 rfl 0 rfl dX4_roomOf_4 ?_
    refine zs_getS (pc := 5) hC hcl (hk 10 rfl) f_10_0 q377 dX4_roomOf_5 (fun q5 hq5 gq5 => ?_)
    refine zo_geti (pc := 8) hC (Nat.ne_of_lt (Nat.lt_of_lt_of_le gq5 hk2)) (hq5 4 rfl) f_4_6 q191 dX4_roomOf_8 ?_
    refine z_goto (pc := 11) hC 33 rfl dX4_roomOf_11 ?_
    exact z_sub [0, 1] rfl (r_Wo_roomOf_33 hC hk hk2 hcl a1 (M q5 4 6))
theorem c_X4_roomOf {G : Geo} {M : Mem} {k : Nat} (hG : GOk G) (hk : LWd G k) (hk2 : 2 ≤ k) (hcl : GCl G) {d : Sl} {a1 : Int32} (l : Launch) (r : Int32) (h : Wo_roomOf M d a1 = some r) : Mt l yX4_roomOf cX4_roomOf 3 (some .int) rm_X4_roomOf G [.inr (k, 10), .inl (.int a1)] ((setS M k) d) (avI r) ((setS M k) d) :=
  mt_of (mem := (setS M k)) (po := poP avI ((setS M k) d)) (x0 := d) (t := r) rfl hG [.inr (k, 10), .inl (.int a1)] (Nat.le_of_ble_eq_true rfl) rfl (fun C hC => r_Wo_roomOf hC hk hk2 hcl d a1) h
-- FrameHeirs$World.performNext()V
abbrev rm_X4_performNext : Room := { frames := 5, cells := 0, slots := 0, locals := 140 }
theorem dX4_performNext_0 : decode cX4_performNext 0 = .ok (.aload_n 0, 1) := by decide +kernel
theorem dX4_performNext_1 : decode cX4_performNext 1 = .ok (.getfield 47, 3) := by decide +kernel
theorem dX4_performNext_4 : decode cX4_performNext 4 = .ok (.ifCond .lt 26, 3) := by decide +kernel
theorem dX4_performNext_7 : decode cX4_performNext 7 = .ok (.aload_n 0, 1) := by decide +kernel
theorem dX4_performNext_8 : decode cX4_performNext 8 = .ok (.getfield 47, 3) := by decide +kernel
theorem dX4_performNext_11 : decode cX4_performNext 11 = .ok (.bipush 24, 2) := by decide +kernel
theorem dX4_performNext_13 : decode cX4_performNext 13 = .ok (.if_icmp .ge 17, 3) := by decide +kernel
theorem dX4_performNext_16 : decode cX4_performNext 16 = .ok (.aload_n 0, 1) := by decide +kernel
theorem dX4_performNext_17 : decode cX4_performNext 17 = .ok (.getfield 47, 3) := by decide +kernel
theorem dX4_performNext_20 : decode cX4_performNext 20 = .ok (.aload_n 0, 1) := by decide +kernel
theorem dX4_performNext_21 : decode cX4_performNext 21 = .ok (.getfield 59, 3) := by decide +kernel
theorem dX4_performNext_24 : decode cX4_performNext 24 = .ok (.getfield 276, 3) := by decide +kernel
theorem dX4_performNext_27 : decode cX4_performNext 27 = .ok (.if_icmp .lt 4, 3) := by decide +kernel
theorem dX4_performNext_30 : decode cX4_performNext 30 = .ok (.return_, 1) := by decide +kernel
theorem dX4_performNext_31 : decode cX4_performNext 31 = .ok (.aload_n 0, 1) := by decide +kernel
theorem dX4_performNext_32 : decode cX4_performNext 32 = .ok (.getfield 59, 3) := by decide +kernel
theorem dX4_performNext_35 : decode cX4_performNext 35 = .ok (.getfield 279, 3) := by decide +kernel
theorem dX4_performNext_38 : decode cX4_performNext 38 = .ok (.astore_n 1, 1) := by decide +kernel
theorem dX4_performNext_39 : decode cX4_performNext 39 = .ok (.aload_n 0, 1) := by decide +kernel
theorem dX4_performNext_40 : decode cX4_performNext 40 = .ok (.getfield 47, 3) := by decide +kernel
theorem dX4_performNext_43 : decode cX4_performNext 43 = .ok (.bipush 7, 2) := by decide +kernel
theorem dX4_performNext_45 : decode cX4_performNext 45 = .ok (.imul, 1) := by decide +kernel
theorem dX4_performNext_46 : decode cX4_performNext 46 = .ok (.istore_n 2, 1) := by decide +kernel
theorem dX4_performNext_47 : decode cX4_performNext 47 = .ok (.aload_n 1, 1) := by decide +kernel
theorem dX4_performNext_48 : decode cX4_performNext 48 = .ok (.iload_n 2, 1) := by decide +kernel
theorem dX4_performNext_49 : decode cX4_performNext 49 = .ok (.iconst 1, 1) := by decide +kernel
theorem dX4_performNext_50 : decode cX4_performNext 50 = .ok (.iadd, 1) := by decide +kernel
theorem dX4_performNext_51 : decode cX4_performNext 51 = .ok (.iaload, 1) := by decide +kernel
theorem dX4_performNext_52 : decode cX4_performNext 52 = .ok (.istore_n 3, 1) := by decide +kernel
theorem dX4_performNext_53 : decode cX4_performNext 53 = .ok (.aload_n 1, 1) := by decide +kernel
theorem dX4_performNext_54 : decode cX4_performNext 54 = .ok (.iload_n 2, 1) := by decide +kernel
theorem dX4_performNext_55 : decode cX4_performNext 55 = .ok (.iconst 2, 1) := by decide +kernel
theorem dX4_performNext_56 : decode cX4_performNext 56 = .ok (.iadd, 1) := by decide +kernel
theorem dX4_performNext_57 : decode cX4_performNext 57 = .ok (.iaload, 1) := by decide +kernel
theorem dX4_performNext_58 : decode cX4_performNext 58 = .ok (.istore 4, 2) := by decide +kernel
theorem dX4_performNext_60 : decode cX4_performNext 60 = .ok (.aload_n 1, 1) := by decide +kernel
theorem dX4_performNext_61 : decode cX4_performNext 61 = .ok (.iload_n 2, 1) := by decide +kernel
theorem dX4_performNext_62 : decode cX4_performNext 62 = .ok (.iaload, 1) := by decide +kernel
theorem dX4_performNext_63 : decode cX4_performNext 63 = .ok (.tableswitch 151 7 10 #[29, 65, 95, 134], 29) := by decide +kernel
theorem dX4_performNext_92 : decode cX4_performNext 92 = .ok (.aload_n 0, 1) := by decide +kernel
theorem dX4_performNext_93 : decode cX4_performNext 93 = .ok (.iload_n 3, 1) := by decide +kernel
theorem dX4_performNext_94 : decode cX4_performNext 94 = .ok (.iconst 4, 1) := by decide +kernel
theorem dX4_performNext_95 : decode cX4_performNext 95 = .ok (.iload 4, 2) := by decide +kernel
theorem dX4_performNext_97 : decode cX4_performNext 97 = .ok (.imul, 1) := by decide +kernel
theorem dX4_performNext_98 : decode cX4_performNext 98 = .ok (.aload_n 1, 1) := by decide +kernel
theorem dX4_performNext_99 : decode cX4_performNext 99 = .ok (.iload_n 2, 1) := by decide +kernel
theorem dX4_performNext_100 : decode cX4_performNext 100 = .ok (.iconst 5, 1) := by decide +kernel
theorem dX4_performNext_101 : decode cX4_performNext 101 = .ok (.iadd, 1) := by decide +kernel
theorem dX4_performNext_102 : decode cX4_performNext 102 = .ok (.iaload, 1) := by decide +kernel
theorem dX4_performNext_103 : decode cX4_performNext 103 = .ok (.iadd, 1) := by decide +kernel
theorem dX4_performNext_104 : decode cX4_performNext 104 = .ok (.aload_n 1, 1) := by decide +kernel
theorem dX4_performNext_105 : decode cX4_performNext 105 = .ok (.iload_n 2, 1) := by decide +kernel
theorem dX4_performNext_106 : decode cX4_performNext 106 = .ok (.iconst 3, 1) := by decide +kernel
theorem dX4_performNext_107 : decode cX4_performNext 107 = .ok (.iadd, 1) := by decide +kernel
theorem dX4_performNext_108 : decode cX4_performNext 108 = .ok (.iaload, 1) := by decide +kernel
theorem dX4_performNext_109 : decode cX4_performNext 109 = .ok (.aload_n 1, 1) := by decide +kernel
theorem dX4_performNext_110 : decode cX4_performNext 110 = .ok (.iload_n 2, 1) := by decide +kernel
theorem dX4_performNext_111 : decode cX4_performNext 111 = .ok (.iconst 4, 1) := by decide +kernel
theorem dX4_performNext_112 : decode cX4_performNext 112 = .ok (.iadd, 1) := by decide +kernel
theorem dX4_performNext_113 : decode cX4_performNext 113 = .ok (.iaload, 1) := by decide +kernel
theorem dX4_performNext_114 : decode cX4_performNext 114 = .ok (.aload_n 1, 1) := by decide +kernel
theorem dX4_performNext_115 : decode cX4_performNext 115 = .ok (.iload_n 2, 1) := by decide +kernel
theorem dX4_performNext_116 : decode cX4_performNext 116 = .ok (.bipush 6, 2) := by decide +kernel
theorem dX4_performNext_118 : decode cX4_performNext 118 = .ok (.iadd, 1) := by decide +kernel
theorem dX4_performNext_119 : decode cX4_performNext 119 = .ok (.iaload, 1) := by decide +kernel
theorem dX4_performNext_120 : decode cX4_performNext 120 = .ok (.invokevirtual 282, 3) := by decide +kernel
theorem dX4_performNext_123 : decode cX4_performNext 123 = .ok (.istore 5, 2) := by decide +kernel
theorem dX4_performNext_125 : decode cX4_performNext 125 = .ok (.goto 96, 3) := by decide +kernel
theorem dX4_performNext_128 : decode cX4_performNext 128 = .ok (.aload_n 0, 1) := by decide +kernel
theorem dX4_performNext_129 : decode cX4_performNext 129 = .ok (.iload_n 3, 1) := by decide +kernel
theorem dX4_performNext_130 : decode cX4_performNext 130 = .ok (.iconst 4, 1) := by decide +kernel
theorem dX4_performNext_131 : decode cX4_performNext 131 = .ok (.iload 4, 2) := by decide +kernel
theorem dX4_performNext_133 : decode cX4_performNext 133 = .ok (.imul, 1) := by decide +kernel
theorem dX4_performNext_134 : decode cX4_performNext 134 = .ok (.aload_n 1, 1) := by decide +kernel
theorem dX4_performNext_135 : decode cX4_performNext 135 = .ok (.iload_n 2, 1) := by decide +kernel
theorem dX4_performNext_136 : decode cX4_performNext 136 = .ok (.iconst 5, 1) := by decide +kernel
theorem dX4_performNext_137 : decode cX4_performNext 137 = .ok (.iadd, 1) := by decide +kernel
theorem dX4_performNext_138 : decode cX4_performNext 138 = .ok (.iaload, 1) := by decide +kernel
theorem dX4_performNext_139 : decode cX4_performNext 139 = .ok (.iadd, 1) := by decide +kernel
theorem dX4_performNext_140 : decode cX4_performNext 140 = .ok (.aload_n 1, 1) := by decide +kernel
theorem dX4_performNext_141 : decode cX4_performNext 141 = .ok (.iload_n 2, 1) := by decide +kernel
theorem dX4_performNext_142 : decode cX4_performNext 142 = .ok (.iconst 3, 1) := by decide +kernel
theorem dX4_performNext_143 : decode cX4_performNext 143 = .ok (.iadd, 1) := by decide +kernel
theorem dX4_performNext_144 : decode cX4_performNext 144 = .ok (.iaload, 1) := by decide +kernel
theorem dX4_performNext_145 : decode cX4_performNext 145 = .ok (.aload_n 1, 1) := by decide +kernel
theorem dX4_performNext_146 : decode cX4_performNext 146 = .ok (.iload_n 2, 1) := by decide +kernel
theorem dX4_performNext_147 : decode cX4_performNext 147 = .ok (.iconst 4, 1) := by decide +kernel
theorem dX4_performNext_148 : decode cX4_performNext 148 = .ok (.iadd, 1) := by decide +kernel
theorem dX4_performNext_149 : decode cX4_performNext 149 = .ok (.iaload, 1) := by decide +kernel
theorem dX4_performNext_150 : decode cX4_performNext 150 = .ok (.invokevirtual 285, 3) := by decide +kernel
theorem dX4_performNext_153 : decode cX4_performNext 153 = .ok (.istore 5, 2) := by decide +kernel
theorem dX4_performNext_155 : decode cX4_performNext 155 = .ok (.goto 66, 3) := by decide +kernel
theorem dX4_performNext_158 : decode cX4_performNext 158 = .ok (.aload_n 0, 1) := by decide +kernel
theorem dX4_performNext_159 : decode cX4_performNext 159 = .ok (.iload_n 3, 1) := by decide +kernel
theorem dX4_performNext_160 : decode cX4_performNext 160 = .ok (.iconst 4, 1) := by decide +kernel
theorem dX4_performNext_161 : decode cX4_performNext 161 = .ok (.iload 4, 2) := by decide +kernel
theorem dX4_performNext_163 : decode cX4_performNext 163 = .ok (.imul, 1) := by decide +kernel
theorem dX4_performNext_164 : decode cX4_performNext 164 = .ok (.aload_n 1, 1) := by decide +kernel
theorem dX4_performNext_165 : decode cX4_performNext 165 = .ok (.iload_n 2, 1) := by decide +kernel
theorem dX4_performNext_166 : decode cX4_performNext 166 = .ok (.iconst 3, 1) := by decide +kernel
theorem dX4_performNext_167 : decode cX4_performNext 167 = .ok (.iadd, 1) := by decide +kernel
theorem dX4_performNext_168 : decode cX4_performNext 168 = .ok (.iaload, 1) := by decide +kernel
theorem dX4_performNext_169 : decode cX4_performNext 169 = .ok (.iadd, 1) := by decide +kernel
theorem dX4_performNext_170 : decode cX4_performNext 170 = .ok (.aload_n 1, 1) := by decide +kernel
theorem dX4_performNext_171 : decode cX4_performNext 171 = .ok (.iload_n 2, 1) := by decide +kernel
theorem dX4_performNext_172 : decode cX4_performNext 172 = .ok (.iconst 4, 1) := by decide +kernel
theorem dX4_performNext_173 : decode cX4_performNext 173 = .ok (.iadd, 1) := by decide +kernel
theorem dX4_performNext_174 : decode cX4_performNext 174 = .ok (.iaload, 1) := by decide +kernel
theorem dX4_performNext_175 : decode cX4_performNext 175 = .ok (.aload_n 1, 1) := by decide +kernel
theorem dX4_performNext_176 : decode cX4_performNext 176 = .ok (.iload_n 2, 1) := by decide +kernel
theorem dX4_performNext_177 : decode cX4_performNext 177 = .ok (.iconst 5, 1) := by decide +kernel
theorem dX4_performNext_178 : decode cX4_performNext 178 = .ok (.iadd, 1) := by decide +kernel
theorem dX4_performNext_179 : decode cX4_performNext 179 = .ok (.iaload, 1) := by decide +kernel
theorem dX4_performNext_180 : decode cX4_performNext 180 = .ok (.iconst 1, 1) := by decide +kernel
theorem dX4_performNext_181 : decode cX4_performNext 181 = .ok (.if_icmp .ne 7, 3) := by decide +kernel
theorem dX4_performNext_184 : decode cX4_performNext 184 = .ok (.iconst 1, 1) := by decide +kernel
theorem dX4_performNext_185 : decode cX4_performNext 185 = .ok (.goto 4, 3) := by decide +kernel
theorem dX4_performNext_188 : decode cX4_performNext 188 = .ok (.iconst 0, 1) := by decide +kernel
theorem dX4_performNext_189 : decode cX4_performNext 189 = .ok (.invokevirtual 288, 3) := by decide +kernel
theorem dX4_performNext_192 : decode cX4_performNext 192 = .ok (.istore 5, 2) := by decide +kernel
theorem dX4_performNext_194 : decode cX4_performNext 194 = .ok (.goto 27, 3) := by decide +kernel
theorem dX4_performNext_197 : decode cX4_performNext 197 = .ok (.aload_n 0, 1) := by decide +kernel
theorem dX4_performNext_198 : decode cX4_performNext 198 = .ok (.iload_n 3, 1) := by decide +kernel
theorem dX4_performNext_199 : decode cX4_performNext 199 = .ok (.iload 4, 2) := by decide +kernel
theorem dX4_performNext_201 : decode cX4_performNext 201 = .ok (.aload_n 1, 1) := by decide +kernel
theorem dX4_performNext_202 : decode cX4_performNext 202 = .ok (.iload_n 2, 1) := by decide +kernel
theorem dX4_performNext_203 : decode cX4_performNext 203 = .ok (.iconst 3, 1) := by decide +kernel
theorem dX4_performNext_204 : decode cX4_performNext 204 = .ok (.iadd, 1) := by decide +kernel
theorem dX4_performNext_205 : decode cX4_performNext 205 = .ok (.iaload, 1) := by decide +kernel
theorem dX4_performNext_206 : decode cX4_performNext 206 = .ok (.invokevirtual 291, 3) := by decide +kernel
theorem dX4_performNext_209 : decode cX4_performNext 209 = .ok (.istore 5, 2) := by decide +kernel
theorem dX4_performNext_211 : decode cX4_performNext 211 = .ok (.goto 10, 3) := by decide +kernel
theorem dX4_performNext_214 : decode cX4_performNext 214 = .ok (.aload_n 0, 1) := by decide +kernel
theorem dX4_performNext_215 : decode cX4_performNext 215 = .ok (.iload_n 3, 1) := by decide +kernel
theorem dX4_performNext_216 : decode cX4_performNext 216 = .ok (.invokevirtual 267, 3) := by decide +kernel
theorem dX4_performNext_219 : decode cX4_performNext 219 = .ok (.istore 5, 2) := by decide +kernel
theorem dX4_performNext_221 : decode cX4_performNext 221 = .ok (.aload_n 0, 1) := by decide +kernel
theorem dX4_performNext_222 : decode cX4_performNext 222 = .ok (.getfield 44, 3) := by decide +kernel
theorem dX4_performNext_225 : decode cX4_performNext 225 = .ok (.aload_n 0, 1) := by decide +kernel
theorem dX4_performNext_226 : decode cX4_performNext 226 = .ok (.getfield 47, 3) := by decide +kernel
theorem dX4_performNext_229 : decode cX4_performNext 229 = .ok (.iload 5, 2) := by decide +kernel
theorem dX4_performNext_231 : decode cX4_performNext 231 = .ok (.iastore, 1) := by decide +kernel
theorem dX4_performNext_232 : decode cX4_performNext 232 = .ok (.aload_n 0, 1) := by decide +kernel
theorem dX4_performNext_233 : decode cX4_performNext 233 = .ok (.dup, 1) := by decide +kernel
theorem dX4_performNext_234 : decode cX4_performNext 234 = .ok (.getfield 47, 3) := by decide +kernel
theorem dX4_performNext_237 : decode cX4_performNext 237 = .ok (.iconst 1, 1) := by decide +kernel
theorem dX4_performNext_238 : decode cX4_performNext 238 = .ok (.iadd, 1) := by decide +kernel
theorem dX4_performNext_239 : decode cX4_performNext 239 = .ok (.putfield 47, 3) := by decide +kernel
theorem dX4_performNext_242 : decode cX4_performNext 242 = .ok (.return_, 1) := by decide +kernel
def Wo_performNext_221 (M : Mem) (v5 : Int32) (d : Sl) : Option (Unit × Sl) :=
  if inb (d 10 11) 24 then
  bnd (wr d 16 (ix (d 10 11)) v5) fun d1 =>
  bnd (wr d1 10 11 ((d1 10 11) + (1 : Int32))) fun d2 =>
  some ((), d2)
  else none
def Wo_performNext_189 (M : Mem) (s0 : Int32) (s1 : Int32) (s2 : Int32) (s3 : Int32) (d : Sl) : Option (Unit × Sl) :=
  bd (Wo_startFlush M d s3 s2 s1 s0) fun r3 d4 =>
  bnd r3 fun v5_5 =>
  Wo_performNext_221 M v5_5 d4
def Wo_performNext (M : Mem) (d : Sl) : Option (Unit × Sl) :=
  if (d 10 11) < 0 then
    (some ((), d))
  else
    (if (24 : Int32) ≤ (d 10 11) then
      (some ((), d))
    else
      (gref (d 10 0) fun q6 =>
      if (d 10 11) < (M q6 4 10) then
        (gref (d 10 0) fun q7 =>
        bnd ((d 10 11) * (7 : Int32)) fun v2_8 =>
        if inb (v2_8 + (1 : Int32)) 168 then
        bnd (M q7 9 (ix (v2_8 + (1 : Int32)))) fun v3_9 =>
        if inb (v2_8 + (2 : Int32)) 168 then
        bnd (M q7 9 (ix (v2_8 + (2 : Int32)))) fun v4_10 =>
        if inb v2_8 168 then
        if (M q7 9 (ix v2_8)) = (7 : Int32) then
          (if inb (v2_8 + (5 : Int32)) 168 then
          if inb (v2_8 + (3 : Int32)) 168 then
          if inb (v2_8 + (4 : Int32)) 168 then
          if inb (v2_8 + (6 : Int32)) 168 then
          bd (Wo_handOn M d v3_9 (((4 : Int32) * v4_10) + (M q7 9 (ix (v2_8 + (5 : Int32))))) (M q7 9 (ix (v2_8 + (3 : Int32)))) (M q7 9 (ix (v2_8 + (4 : Int32)))) (M q7 9 (ix (v2_8 + (6 : Int32))))) fun r20 d21 =>
          bnd r20 fun v5_22 =>
          Wo_performNext_221 M v5_22 d21
          else none
          else none
          else none
          else none)
        else
          (if (M q7 9 (ix v2_8)) = (8 : Int32) then
            (if inb (v2_8 + (5 : Int32)) 168 then
            if inb (v2_8 + (3 : Int32)) 168 then
            if inb (v2_8 + (4 : Int32)) 168 then
            bd (Wo_giveAway M d v3_9 (((4 : Int32) * v4_10) + (M q7 9 (ix (v2_8 + (5 : Int32))))) (M q7 9 (ix (v2_8 + (3 : Int32)))) (M q7 9 (ix (v2_8 + (4 : Int32))))) fun r17 d18 =>
            bnd r17 fun v5_19 =>
            Wo_performNext_221 M v5_19 d18
            else none
            else none
            else none)
          else
            (if (M q7 9 (ix v2_8)) = (9 : Int32) then
              (if inb (v2_8 + (3 : Int32)) 168 then
              if inb (v2_8 + (4 : Int32)) 168 then
              if inb (v2_8 + (5 : Int32)) 168 then
              if (M q7 9 (ix (v2_8 + (5 : Int32)))) = (1 : Int32) then
                (Wo_performNext_189 M (1 : Int32) (M q7 9 (ix (v2_8 + (4 : Int32)))) (((4 : Int32) * v4_10) + (M q7 9 (ix (v2_8 + (3 : Int32))))) v3_9 d)
              else
                (Wo_performNext_189 M (0 : Int32) (M q7 9 (ix (v2_8 + (4 : Int32)))) (((4 : Int32) * v4_10) + (M q7 9 (ix (v2_8 + (3 : Int32))))) v3_9 d)
              else none
              else none
              else none)
            else
              (if (M q7 9 (ix v2_8)) = (10 : Int32) then
                (if inb (v2_8 + (3 : Int32)) 168 then
                bd (Wo_touchPage M d v3_9 v4_10 (M q7 9 (ix (v2_8 + (3 : Int32))))) fun r14 d15 =>
                bnd r14 fun v5_16 =>
                Wo_performNext_221 M v5_16 d15
                else none)
              else
                (bd (Wo_serveFirst M d v3_9) fun r11 d12 =>
                bnd r11 fun v5_13 =>
                Wo_performNext_221 M v5_13 d12))))
        else none
        else none
        else none)
      else
        (some ((), d))))
theorem y_X4_performNext : YV yX4_performNext cX4_performNext 6 none 0 := ⟨q906, q907, q908, q146, by decide +kernel, by decide +kernel, by decide +kernel, by decide +kernel⟩
theorem r_Wo_performNext_221 {C : Cxt} {G : Geo} {M : Mem} {k : Nat} (hC : Cx C cX4_performNext 6 "FrameHeirs$World" none rm_X4_performNext G) (hk : LWd G k) (hk2 : 2 ≤ k) (hcl : GCl G) (v5 : Int32) (d : Sl) : Rz C 6 G (setS M k) (poM avV (setS M k)) 221 [(0, .inr (k, 10)), (5, .inl (.int v5))] [] d (Wo_performNext_221 M v5 d) := by
  unfold Wo_performNext_221
  refine z_aload_n (pc := 221) hC 0 rfl 0 rfl dX4_performNext_221 ?_
  refine z_getc (pc := 222) hC (hk 10 rfl) f_10_10 q389 dX4_performNext_222 ?_
  refine z_aload_n (pc := 225) hC 0 rfl 0 rfl dX4_performNext_225 ?_
  refine zs_geti (pc := 226) hC (hk 10 rfl) f_10_11 q391 dX4_performNext_226 ?_
  refine z_iload (pc := 229) hC 5 1 rfl dX4_performNext_229 ?_
  refine zs_iast (pc := 231) hC (hk 16 rfl) (by decide) rfl dX4_performNext_231 (fun d1 => ?_)
  refine z_aload_n (pc := 232) hC 0 rfl 0 rfl dX4_performNext_232 ?_
  refine z_dup (pc := 233) hC rfl dX4_performNext_233 ?_
  refine zs_geti (pc := 234) hC (hk 10 rfl) f_10_11 q391 dX4_performNext_234 ?_
  refine z_iconst (pc := 237) hC (1 : Int32) rfl dX4_performNext_237 ?_
  refine z_iadd (pc := 238) hC dX4_performNext_238 ?_
  refine zs_puti (pc := 239) hC (hk 10 rfl) f_10_11 q391 dX4_performNext_239 (fun d2 => ?_)
  exact z_vret (pc := 242) hC rfl dX4_performNext_242
theorem r_Wo_performNext_189 {C : Cxt} {G : Geo} {M : Mem} {k : Nat} (hC : Cx C cX4_performNext 6 "FrameHeirs$World" none rm_X4_performNext G) (hk : LWd G k) (hk2 : 2 ≤ k) (hcl : GCl G) (s0 : Int32) (s1 : Int32) (s2 : Int32) (s3 : Int32) (d : Sl) : Rz C 6 G (setS M k) (poM avV (setS M k)) 189 [(0, .inr (k, 10))] [.inl (.int s0), .inl (.int s1), .inl (.int s2), .inl (.int s3), .inr (k, 10)] d (Wo_performNext_189 M s0 s1 s2 s3 d) := by
  unfold Wo_performNext_189
  refine z_ciV (pc := 189) (st := []) hC y_X4_startFlush q911 [.inl (.int s3), .inl (.int s2), .inl (.int s1), .inl (.int s0)] rfl (hk 10 rfl) rfl rfl (c_X4_startFlush hC.2.2.2.2.2.2.1 hk hk2 hcl) rfl ⟨rfl, rfl, (Nat.le_of_ble_eq_true rfl), (Nat.le_of_ble_eq_true rfl)⟩ (Nat.le_of_ble_eq_true rfl) dX4_performNext_189 (fun r3 d4 => ?_)
  refine z_istore (pc := 192) (ls1 := fun v => [(5, .inl (.int v)), (0, .inr (k, 10))]) hC 5 (by decide) (fun v => rfl) dX4_performNext_192 (fun v5_5 => ?_)
  refine z_goto (pc := 194) hC 221 rfl dX4_performNext_194 ?_
  exact z_sub [1, 0] rfl (r_Wo_performNext_221 hC hk hk2 hcl v5_5 d4)
theorem r_Wo_performNext {C : Cxt} {G : Geo} {M : Mem} {k : Nat} (hC : Cx C cX4_performNext 6 "FrameHeirs$World" none rm_X4_performNext G) (hk : LWd G k) (hk2 : 2 ≤ k) (hcl : GCl G) (d : Sl) : Rz C 6 G (setS M k) (poM avV (setS M k)) 0 [(0, .inr (k, 10))] [] d (Wo_performNext M d) := by
  unfold Wo_performNext
  refine z_aload_n (pc := 0) hC 0 rfl 0 rfl dX4_performNext_0 ?_
  refine zs_geti (pc := 1) hC (hk 10 rfl) f_10_11 q391 dX4_performNext_1 ?_
  refine z_if_lt (pc := 4) hC 30 rfl dX4_performNext_4 ?_ ?_
  · exact z_vret (pc := 30) hC rfl dX4_performNext_30
  · refine z_aload_n (pc := 7) hC 0 rfl 0 rfl dX4_performNext_7 ?_
    refine zs_geti (pc := 8) hC (hk 10 rfl) f_10_11 q391 dX4_performNext_8 ?_
    refine z_bipush (pc := 11) hC (24 : Int32) rfl dX4_performNext_11 ?_
    refine z_icmp_ge (pc := 13) hC 30 rfl dX4_performNext_13 ?_ ?_
    · exact z_vret (pc := 30) hC rfl dX4_performNext_30
    · refine z_aload_n (pc := 16) hC 0 rfl 0 rfl dX4_performNext_16 ?_
      refine zs_geti (pc := 17) hC (hk 10 rfl) f_10_11 q391 dX4_performNext_17 ?_
      refine z_aload_n (pc := 20) hC 0 rfl 0 rfl dX4_performNext_20 ?_
      refine zs_getS (pc := 21) hC hcl (hk 10 rfl) f_10_0 q377 dX4_performNext_21 (fun q6 hq6 gq6 => ?_)
      refine zo_geti (pc := 24) hC (Nat.ne_of_lt (Nat.lt_of_lt_of_le gq6 hk2)) (hq6 4 rfl) f_4_10 q206 dX4_performNext_24 ?_
      refine z_icmp_lt (pc := 27) hC 31 rfl dX4_performNext_27 ?_ ?_
      · refine z_aload_n (pc := 31) hC 0 rfl 0 rfl dX4_performNext_31 ?_
        refine zs_getS (pc := 32) hC hcl (hk 10 rfl) f_10_0 q377 dX4_performNext_32 (fun q7 hq7 gq7 => ?_)
        refine z_getc (pc := 35) hC (hq7 4 rfl) f_4_4 q185 dX4_performNext_35 ?_
        refine z_astore_n (pc := 38) (ls1 := [(1, .inr (q7, 9)), (0, .inr (k, 10))]) hC 1 rfl (by decide) rfl dX4_performNext_38 ?_
        refine z_aload_n (pc := 39) hC 0 rfl 1 rfl dX4_performNext_39 ?_
        refine zs_geti (pc := 40) hC (hk 10 rfl) f_10_11 q391 dX4_performNext_40 ?_
        refine z_bipush (pc := 43) hC (7 : Int32) rfl dX4_performNext_43 ?_
        refine z_imul (pc := 45) hC dX4_performNext_45 ?_
        refine z_istore_n (pc := 46) (ls1 := fun v => [(2, .inl (.int v)), (1, .inr (q7, 9)), (0, .inr (k, 10))]) hC 2 rfl (by decide) (fun v => rfl) dX4_performNext_46 (fun v2_8 => ?_)
        refine z_aload_n (pc := 47) hC 1 rfl 1 rfl dX4_performNext_47 ?_
        refine z_iload_n (pc := 48) hC 2 rfl 0 rfl dX4_performNext_48 ?_
        refine z_iconst (pc := 49) hC (1 : Int32) rfl dX4_performNext_49 ?_
        refine z_iadd (pc := 50) hC dX4_performNext_50 ?_
        refine zo_iald (pc := 51) hC (Nat.ne_of_lt (Nat.lt_of_lt_of_le gq7 hk2)) (hq7 9 rfl) rfl dX4_performNext_51 ?_
        refine z_istore_n (pc := 52) (ls1 := fun v => [(3, .inl (.int v)), (2, .inl (.int v2_8)), (1, .inr (q7, 9)), (0, .inr (k, 10))]) hC 3 rfl (by decide) (fun v => rfl) dX4_performNext_52 (fun v3_9 => ?_)
        refine z_aload_n (pc := 53) hC 1 rfl 2 rfl dX4_performNext_53 ?_
        refine z_iload_n (pc := 54) hC 2 rfl 1 rfl dX4_performNext_54 ?_
        refine z_iconst (pc := 55) hC (2 : Int32) rfl dX4_performNext_55 ?_
        refine z_iadd (pc := 56) hC dX4_performNext_56 ?_
        refine zo_iald (pc := 57) hC (Nat.ne_of_lt (Nat.lt_of_lt_of_le gq7 hk2)) (hq7 9 rfl) rfl dX4_performNext_57 ?_
        refine z_istore (pc := 58) (ls1 := fun v => [(4, .inl (.int v)), (3, .inl (.int v3_9)), (2, .inl (.int v2_8)), (1, .inr (q7, 9)), (0, .inr (k, 10))]) hC 4 (by decide) (fun v => rfl) dX4_performNext_58 (fun v4_10 => ?_)
        refine z_aload_n (pc := 60) hC 1 rfl 3 rfl dX4_performNext_60 ?_
        refine z_iload_n (pc := 61) hC 2 rfl 2 rfl dX4_performNext_61 ?_
        refine zo_iald (pc := 62) hC (Nat.ne_of_lt (Nat.lt_of_lt_of_le gq7 hk2)) (hq7 9 rfl) rfl dX4_performNext_62 ?_
        refine z_ite (fun e => ?_) (fun e0 => ?_)
        · refine z_tswIn (pc := 63) hC 7 92 (by rw [e]; rfl) (by decide) (by decide) rfl rfl dX4_performNext_63 ?_
          refine z_aload_n (pc := 92) hC 0 rfl 4 rfl dX4_performNext_92 ?_
          refine z_iload_n (pc := 93) hC 3 rfl 1 rfl dX4_performNext_93 ?_
          refine z_iconst (pc := 94) hC (4 : Int32) rfl dX4_performNext_94 ?_
          refine z_iload (pc := 95) hC 4 0 rfl dX4_performNext_95 ?_
          refine z_imul (pc := 97) hC dX4_performNext_97 ?_
          refine z_aload_n (pc := 98) hC 1 rfl 3 rfl dX4_performNext_98 ?_
          refine z_iload_n (pc := 99) hC 2 rfl 2 rfl dX4_performNext_99 ?_
          refine z_iconst (pc := 100) hC (5 : Int32) rfl dX4_performNext_100 ?_
          refine z_iadd (pc := 101) hC dX4_performNext_101 ?_
          refine zo_iald (pc := 102) hC (Nat.ne_of_lt (Nat.lt_of_lt_of_le gq7 hk2)) (hq7 9 rfl) rfl dX4_performNext_102 ?_
          refine z_iadd (pc := 103) hC dX4_performNext_103 ?_
          refine z_aload_n (pc := 104) hC 1 rfl 3 rfl dX4_performNext_104 ?_
          refine z_iload_n (pc := 105) hC 2 rfl 2 rfl dX4_performNext_105 ?_
          refine z_iconst (pc := 106) hC (3 : Int32) rfl dX4_performNext_106 ?_
          refine z_iadd (pc := 107) hC dX4_performNext_107 ?_
          refine zo_iald (pc := 108) hC (Nat.ne_of_lt (Nat.lt_of_lt_of_le gq7 hk2)) (hq7 9 rfl) rfl dX4_performNext_108 ?_
          refine z_aload_n (pc := 109) hC 1 rfl 3 rfl dX4_performNext_109 ?_
          refine z_iload_n (pc := 110) hC 2 rfl 2 rfl dX4_performNext_110 ?_
          refine z_iconst (pc := 111) hC (4 : Int32) rfl dX4_performNext_111 ?_
          refine z_iadd (pc := 112) hC dX4_performNext_112 ?_
          refine zo_iald (pc := 113) hC (Nat.ne_of_lt (Nat.lt_of_lt_of_le gq7 hk2)) (hq7 9 rfl) rfl dX4_performNext_113 ?_
          refine z_aload_n (pc := 114) hC 1 rfl 3 rfl dX4_performNext_114 ?_
          refine z_iload_n (pc := 115) hC 2 rfl 2 rfl dX4_performNext_115 ?_
          refine z_bipush (pc := 116) hC (6 : Int32) rfl dX4_performNext_116 ?_
          refine z_iadd (pc := 118) hC dX4_performNext_118 ?_
          refine zo_iald (pc := 119) hC (Nat.ne_of_lt (Nat.lt_of_lt_of_le gq7 hk2)) (hq7 9 rfl) rfl dX4_performNext_119 ?_
          refine z_ciV (pc := 120) (st := []) hC y_X4_handOn q909 [.inl (.int v3_9), .inl (.int (((4 : Int32) * v4_10) + (M q7 9 (ix (v2_8 + (5 : Int32)))))), .inl (.int (M q7 9 (ix (v2_8 + (3 : Int32))))), .inl (.int (M q7 9 (ix (v2_8 + (4 : Int32))))), .inl (.int (M q7 9 (ix (v2_8 + (6 : Int32)))))] rfl (hk 10 rfl) rfl rfl (c_X4_handOn hC.2.2.2.2.2.2.1 hk hk2 hcl) rfl ⟨rfl, rfl, (Nat.le_of_ble_eq_true rfl), (Nat.le_of_ble_eq_true rfl)⟩ (Nat.le_of_ble_eq_true rfl) dX4_performNext_120 (fun r20 d21 => ?_)
          refine z_istore (pc := 123) (ls1 := fun v => [(5, .inl (.int v)), (4, .inl (.int v4_10)), (3, .inl (.int v3_9)), (2, .inl (.int v2_8)), (1, .inr (q7, 9)), (0, .inr (k, 10))]) hC 5 (by decide) (fun v => rfl) dX4_performNext_123 (fun v5_22 => ?_)
          refine z_goto (pc := 125) hC 221 rfl dX4_performNext_125 ?_
          exact z_sub [5, 0] rfl (r_Wo_performNext_221 hC hk hk2 hcl v5_22 d21)
        · refine z_ite (fun e => ?_) (fun e1 => ?_)
          · refine z_tswIn (pc := 63) hC 8 128 (by rw [e]; rfl) (by decide) (by decide) rfl rfl dX4_performNext_63 ?_
            refine z_aload_n (pc := 128) hC 0 rfl 4 rfl dX4_performNext_128 ?_
            refine z_iload_n (pc := 129) hC 3 rfl 1 rfl dX4_performNext_129 ?_
            refine z_iconst (pc := 130) hC (4 : Int32) rfl dX4_performNext_130 ?_
            refine z_iload (pc := 131) hC 4 0 rfl dX4_performNext_131 ?_
            refine z_imul (pc := 133) hC dX4_performNext_133 ?_
            refine z_aload_n (pc := 134) hC 1 rfl 3 rfl dX4_performNext_134 ?_
            refine z_iload_n (pc := 135) hC 2 rfl 2 rfl dX4_performNext_135 ?_
            refine z_iconst (pc := 136) hC (5 : Int32) rfl dX4_performNext_136 ?_
            refine z_iadd (pc := 137) hC dX4_performNext_137 ?_
            refine zo_iald (pc := 138) hC (Nat.ne_of_lt (Nat.lt_of_lt_of_le gq7 hk2)) (hq7 9 rfl) rfl dX4_performNext_138 ?_
            refine z_iadd (pc := 139) hC dX4_performNext_139 ?_
            refine z_aload_n (pc := 140) hC 1 rfl 3 rfl dX4_performNext_140 ?_
            refine z_iload_n (pc := 141) hC 2 rfl 2 rfl dX4_performNext_141 ?_
            refine z_iconst (pc := 142) hC (3 : Int32) rfl dX4_performNext_142 ?_
            refine z_iadd (pc := 143) hC dX4_performNext_143 ?_
            refine zo_iald (pc := 144) hC (Nat.ne_of_lt (Nat.lt_of_lt_of_le gq7 hk2)) (hq7 9 rfl) rfl dX4_performNext_144 ?_
            refine z_aload_n (pc := 145) hC 1 rfl 3 rfl dX4_performNext_145 ?_
            refine z_iload_n (pc := 146) hC 2 rfl 2 rfl dX4_performNext_146 ?_
            refine z_iconst (pc := 147) hC (4 : Int32) rfl dX4_performNext_147 ?_
            refine z_iadd (pc := 148) hC dX4_performNext_148 ?_
            refine zo_iald (pc := 149) hC (Nat.ne_of_lt (Nat.lt_of_lt_of_le gq7 hk2)) (hq7 9 rfl) rfl dX4_performNext_149 ?_
            refine z_ciV (pc := 150) (st := []) hC y_X4_giveAway q910 [.inl (.int v3_9), .inl (.int (((4 : Int32) * v4_10) + (M q7 9 (ix (v2_8 + (5 : Int32)))))), .inl (.int (M q7 9 (ix (v2_8 + (3 : Int32))))), .inl (.int (M q7 9 (ix (v2_8 + (4 : Int32)))))] rfl (hk 10 rfl) rfl rfl (c_X4_giveAway hC.2.2.2.2.2.2.1 hk hk2 hcl) rfl ⟨rfl, rfl, (Nat.le_of_ble_eq_true rfl), (Nat.le_of_ble_eq_true rfl)⟩ (Nat.le_of_ble_eq_true rfl) dX4_performNext_150 (fun r17 d18 => ?_)
            refine z_istore (pc := 153) (ls1 := fun v => [(5, .inl (.int v)), (4, .inl (.int v4_10)), (3, .inl (.int v3_9)), (2, .inl (.int v2_8)), (1, .inr (q7, 9)), (0, .inr (k, 10))]) hC 5 (by decide) (fun v => rfl) dX4_performNext_153 (fun v5_19 => ?_)
            refine z_goto (pc := 155) hC 221 rfl dX4_performNext_155 ?_
            exact z_sub [5, 0] rfl (r_Wo_performNext_221 hC hk hk2 hcl v5_19 d18)
          · refine z_ite (fun e => ?_) (fun e2 => ?_)
            · refine z_tswIn (pc := 63) hC 9 158 (by rw [e]; rfl) (by decide) (by decide) rfl rfl dX4_performNext_63 ?_
              refine z_aload_n (pc := 158) hC 0 rfl 4 rfl dX4_performNext_158 ?_
              refine z_iload_n (pc := 159) hC 3 rfl 1 rfl dX4_performNext_159 ?_
              refine z_iconst (pc := 160) hC (4 : Int32) rfl dX4_performNext_160 ?_
              refine z_iload (pc := 161) hC 4 0 rfl dX4_performNext_161 ?_
              refine z_imul (pc := 163) hC dX4_performNext_163 ?_
              refine z_aload_n (pc := 164) hC 1 rfl 3 rfl dX4_performNext_164 ?_
              refine z_iload_n (pc := 165) hC 2 rfl 2 rfl dX4_performNext_165 ?_
              refine z_iconst (pc := 166) hC (3 : Int32) rfl dX4_performNext_166 ?_
              refine z_iadd (pc := 167) hC dX4_performNext_167 ?_
              refine zo_iald (pc := 168) hC (Nat.ne_of_lt (Nat.lt_of_lt_of_le gq7 hk2)) (hq7 9 rfl) rfl dX4_performNext_168 ?_
              refine z_iadd (pc := 169) hC dX4_performNext_169 ?_
              refine z_aload_n (pc := 170) hC 1 rfl 3 rfl dX4_performNext_170 ?_
              refine z_iload_n (pc := 171) hC 2 rfl 2 rfl dX4_performNext_171 ?_
              refine z_iconst (pc := 172) hC (4 : Int32) rfl dX4_performNext_172 ?_
              refine z_iadd (pc := 173) hC dX4_performNext_173 ?_
              refine zo_iald (pc := 174) hC (Nat.ne_of_lt (Nat.lt_of_lt_of_le gq7 hk2)) (hq7 9 rfl) rfl dX4_performNext_174 ?_
              refine z_aload_n (pc := 175) hC 1 rfl 3 rfl dX4_performNext_175 ?_
              refine z_iload_n (pc := 176) hC 2 rfl 2 rfl dX4_performNext_176 ?_
              refine z_iconst (pc := 177) hC (5 : Int32) rfl dX4_performNext_177 ?_
              refine z_iadd (pc := 178) hC dX4_performNext_178 ?_
              refine zo_iald (pc := 179) hC (Nat.ne_of_lt (Nat.lt_of_lt_of_le gq7 hk2)) (hq7 9 rfl) rfl dX4_performNext_179 ?_
              refine z_iconst (pc := 180) hC (1 : Int32) rfl dX4_performNext_180 ?_
              refine z_icmp_ne (pc := 181) hC 188 rfl dX4_performNext_181 ?_ ?_
              · refine z_iconst (pc := 188) hC (0 : Int32) rfl dX4_performNext_188 ?_
                exact z_sub [4] rfl (r_Wo_performNext_189 hC hk hk2 hcl (0 : Int32) (M q7 9 (ix (v2_8 + (4 : Int32)))) (((4 : Int32) * v4_10) + (M q7 9 (ix (v2_8 + (3 : Int32))))) v3_9 d)
              · refine z_iconst (pc := 184) hC (1 : Int32) rfl dX4_performNext_184 ?_
                refine z_goto (pc := 185) hC 189 rfl dX4_performNext_185 ?_
                exact z_sub [4] rfl (r_Wo_performNext_189 hC hk hk2 hcl (1 : Int32) (M q7 9 (ix (v2_8 + (4 : Int32)))) (((4 : Int32) * v4_10) + (M q7 9 (ix (v2_8 + (3 : Int32))))) v3_9 d)
            · refine z_ite (fun e => ?_) (fun e3 => ?_)
              · refine z_tswIn (pc := 63) hC 10 197 (by rw [e]; rfl) (by decide) (by decide) rfl rfl dX4_performNext_63 ?_
                refine z_aload_n (pc := 197) hC 0 rfl 4 rfl dX4_performNext_197 ?_
                refine z_iload_n (pc := 198) hC 3 rfl 1 rfl dX4_performNext_198 ?_
                refine z_iload (pc := 199) hC 4 0 rfl dX4_performNext_199 ?_
                refine z_aload_n (pc := 201) hC 1 rfl 3 rfl dX4_performNext_201 ?_
                refine z_iload_n (pc := 202) hC 2 rfl 2 rfl dX4_performNext_202 ?_
                refine z_iconst (pc := 203) hC (3 : Int32) rfl dX4_performNext_203 ?_
                refine z_iadd (pc := 204) hC dX4_performNext_204 ?_
                refine zo_iald (pc := 205) hC (Nat.ne_of_lt (Nat.lt_of_lt_of_le gq7 hk2)) (hq7 9 rfl) rfl dX4_performNext_205 ?_
                refine z_ciV (pc := 206) (st := []) hC y_X4_touchPage q912 [.inl (.int v3_9), .inl (.int v4_10), .inl (.int (M q7 9 (ix (v2_8 + (3 : Int32)))))] rfl (hk 10 rfl) rfl rfl (c_X4_touchPage hC.2.2.2.2.2.2.1 hk hk2 hcl) rfl ⟨rfl, rfl, (Nat.le_of_ble_eq_true rfl), (Nat.le_of_ble_eq_true rfl)⟩ (Nat.le_of_ble_eq_true rfl) dX4_performNext_206 (fun r14 d15 => ?_)
                refine z_istore (pc := 209) (ls1 := fun v => [(5, .inl (.int v)), (4, .inl (.int v4_10)), (3, .inl (.int v3_9)), (2, .inl (.int v2_8)), (1, .inr (q7, 9)), (0, .inr (k, 10))]) hC 5 (by decide) (fun v => rfl) dX4_performNext_209 (fun v5_16 => ?_)
                refine z_goto (pc := 211) hC 221 rfl dX4_performNext_211 ?_
                exact z_sub [5, 0] rfl (r_Wo_performNext_221 hC hk hk2 hcl v5_16 d15)
              · have e0_ : ((M q7 9 (ix v2_8))).toInt ≠ 7 := fun h => e0 (Int32.toInt_inj.mp (by rw [h]; rfl))
                have e1_ : ((M q7 9 (ix v2_8))).toInt ≠ 8 := fun h => e1 (Int32.toInt_inj.mp (by rw [h]; rfl))
                have e2_ : ((M q7 9 (ix v2_8))).toInt ≠ 9 := fun h => e2 (Int32.toInt_inj.mp (by rw [h]; rfl))
                have e3_ : ((M q7 9 (ix v2_8))).toInt ≠ 10 := fun h => e3 (Int32.toInt_inj.mp (by rw [h]; rfl))
                refine z_tswOut (pc := 63) hC 214 (by omega) rfl dX4_performNext_63 ?_
                refine z_aload_n (pc := 214) hC 0 rfl 4 rfl dX4_performNext_214 ?_
                refine z_iload_n (pc := 215) hC 3 rfl 1 rfl dX4_performNext_215 ?_
                refine z_ciV (pc := 216) (st := []) hC y_X4_serveFirst q871 [.inl (.int v3_9)] rfl (hk 10 rfl) rfl rfl (c_X4_serveFirst hC.2.2.2.2.2.2.1 hk hk2 hcl) rfl ⟨rfl, rfl, (Nat.le_of_ble_eq_true rfl), (Nat.le_of_ble_eq_true rfl)⟩ (Nat.le_of_ble_eq_true rfl) dX4_performNext_216 (fun r11 d12 => ?_)
                refine z_istore (pc := 219) (ls1 := fun v => [(5, .inl (.int v)), (4, .inl (.int v4_10)), (3, .inl (.int v3_9)), (2, .inl (.int v2_8)), (1, .inr (q7, 9)), (0, .inr (k, 10))]) hC 5 (by decide) (fun v => rfl) dX4_performNext_219 (fun v5_13 => ?_)
                exact z_sub [5, 0] rfl (r_Wo_performNext_221 hC hk hk2 hcl v5_13 d12)
      · exact z_vret (pc := 30) hC rfl dX4_performNext_30
theorem c_X4_performNext {G : Geo} {M : Mem} {k : Nat} (hG : GOk G) (hk : LWd G k) (hk2 : 2 ≤ k) (hcl : GCl G) {d : Sl} (l : Launch) (r : Unit) (d1 : Sl) (h : Wo_performNext M d = some (r, d1)) : Mt l yX4_performNext cX4_performNext 6 none rm_X4_performNext G [.inr (k, 10)] ((setS M k) d) (avV r) ((setS M k) d1) :=
  mt_of (mem := (setS M k)) (po := poM avV (setS M k)) (x0 := d) (t := (r, d1)) rfl hG [.inr (k, 10)] (Nat.le_of_ble_eq_true rfl) rfl (fun C hC => r_Wo_performNext hC hk hk2 hcl d) h

