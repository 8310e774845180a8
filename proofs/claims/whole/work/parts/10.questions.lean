-- FrameHeirs$Questions.frameAt(LFrameHeirs$Deeds;II)I
abbrev rm_X1_frameAt : Room := { frames := 0, cells := 0, slots := 0, locals := 0 }
theorem dX1_frameAt_0 : decode cX1_frameAt 0 = .ok (.aload_n 0, 1) := by decide +kernel
theorem dX1_frameAt_1 : decode cX1_frameAt 1 = .ok (.getfield 41, 3) := by decide +kernel
theorem dX1_frameAt_4 : decode cX1_frameAt 4 = .ok (.iload_n 1, 1) := by decide +kernel
theorem dX1_frameAt_5 : decode cX1_frameAt 5 = .ok (.iaload, 1) := by decide +kernel
theorem dX1_frameAt_6 : decode cX1_frameAt 6 = .ok (.iload_n 2, 1) := by decide +kernel
theorem dX1_frameAt_7 : decode cX1_frameAt 7 = .ok (.iadd, 1) := by decide +kernel
theorem dX1_frameAt_8 : decode cX1_frameAt 8 = .ok (.aload_n 0, 1) := by decide +kernel
theorem dX1_frameAt_9 : decode cX1_frameAt 9 = .ok (.getfield 24, 3) := by decide +kernel
theorem dX1_frameAt_12 : decode cX1_frameAt 12 = .ok (.iload_n 1, 1) := by decide +kernel
theorem dX1_frameAt_13 : decode cX1_frameAt 13 = .ok (.iaload, 1) := by decide +kernel
theorem dX1_frameAt_14 : decode cX1_frameAt 14 = .ok (.isub, 1) := by decide +kernel
theorem dX1_frameAt_15 : decode cX1_frameAt 15 = .ok (.ireturn, 1) := by decide +kernel
def Qu_frameAt (d : Sl) (a1 : Int32) (a2 : Int32) : Option Int32 :=
  if inb a1 192 then
  if inb a1 192 then
  some (((d 20 (ix a1)) + a2) - (d 19 (ix a1)))
  else none
  else none
theorem y_X1_frameAt : YS yX1_frameAt cX1_frameAt 3 (some .int) 3 := ⟨q699, trivial, q700, q152, by decide +kernel, by decide +kernel, by decide +kernel, by decide +kernel⟩
theorem r_Qu_frameAt {C : Cxt} {G : Geo} {M : Mem} {k : Nat} (hC : Cx C cX1_frameAt 3 "FrameHeirs$Questions" (some .int) rm_X1_frameAt G) (hk : LWd G k) (hk2 : 2 ≤ k) (d : Sl) (a1 : Int32) (a2 : Int32) : Rz C 3 G (setS M k) (poP avI ((setS M k) d)) 0 [(0, .inr (k, 17)), (1, .inl (.int a1)), (2, .inl (.int a2))] [] d (Qu_frameAt d a1 a2) := by
  unfold Qu_frameAt
  refine z_aload_n (pc := 0) hC 0 rfl 0 rfl dX1_frameAt_0 ?_
  refine z_getc (pc := 1) hC (hk 17 rfl) f_17_2 q300 dX1_frameAt_1 ?_
  refine z_iload_n (pc := 4) hC 1 rfl 1 rfl dX1_frameAt_4 ?_
  refine zs_iald (pc := 5) hC (hk 20 rfl) rfl dX1_frameAt_5 ?_
  refine z_iload_n (pc := 6) hC 2 rfl 2 rfl dX1_frameAt_6 ?_
  refine z_iadd (pc := 7) hC dX1_frameAt_7 ?_
  refine z_aload_n (pc := 8) hC 0 rfl 0 rfl dX1_frameAt_8 ?_
  refine z_getc (pc := 9) hC (hk 17 rfl) f_17_1 q296 dX1_frameAt_9 ?_
  refine z_iload_n (pc := 12) hC 1 rfl 1 rfl dX1_frameAt_12 ?_
  refine zs_iald (pc := 13) hC (hk 19 rfl) rfl dX1_frameAt_13 ?_
  refine z_isub (pc := 14) hC dX1_frameAt_14 ?_
  exact z_iret (pc := 15) hC rfl dX1_frameAt_15
theorem c_X1_frameAt {G : Geo} {M : Mem} {k : Nat} (hG : GOk G) (hk : LWd G k) (hk2 : 2 ≤ k) {d : Sl} {a1 : Int32} {a2 : Int32} (l : Launch) (r : Int32) (h : Qu_frameAt d a1 a2 = some r) : Mt l yX1_frameAt cX1_frameAt 3 (some .int) rm_X1_frameAt G [.inr (k, 17), .inl (.int a1), .inl (.int a2)] ((setS M k) d) (avI r) ((setS M k) d) :=
  mt_of (mem := (setS M k)) (po := poP avI ((setS M k) d)) (x0 := d) (t := r) rfl hG [.inr (k, 17), .inl (.int a1), .inl (.int a2)] (Nat.le_of_ble_eq_true rfl) rfl (fun C hC => r_Qu_frameAt hC hk hk2 d a1 a2) h
-- FrameHeirs$Questions.aboveOf(LFrameHeirs$Deeds;I)I
abbrev rm_X1_aboveOf : Room := { frames := 0, cells := 0, slots := 0, locals := 0 }
theorem dX1_aboveOf_0 : decode cX1_aboveOf 0 = .ok (.iconst 0, 1) := by decide +kernel
theorem dX1_aboveOf_1 : decode cX1_aboveOf 1 = .ok (.istore_n 2, 1) := by decide +kernel
theorem dX1_aboveOf_2 : decode cX1_aboveOf 2 = .ok (.aload_n 0, 1) := by decide +kernel
theorem dX1_aboveOf_3 : decode cX1_aboveOf 3 = .ok (.getfield 44, 3) := by decide +kernel
theorem dX1_aboveOf_6 : decode cX1_aboveOf 6 = .ok (.iload_n 1, 1) := by decide +kernel
theorem dX1_aboveOf_7 : decode cX1_aboveOf 7 = .ok (.iaload, 1) := by decide +kernel
theorem dX1_aboveOf_8 : decode cX1_aboveOf 8 = .ok (.istore_n 3, 1) := by decide +kernel
theorem dX1_aboveOf_9 : decode cX1_aboveOf 9 = .ok (.iload_n 2, 1) := by decide +kernel
theorem dX1_aboveOf_10 : decode cX1_aboveOf 10 = .ok (.sipush 192, 3) := by decide +kernel
theorem dX1_aboveOf_13 : decode cX1_aboveOf 13 = .ok (.if_icmp .ge 20, 3) := by decide +kernel
theorem dX1_aboveOf_16 : decode cX1_aboveOf 16 = .ok (.iload_n 3, 1) := by decide +kernel
theorem dX1_aboveOf_17 : decode cX1_aboveOf 17 = .ok (.ifCond .lt 16, 3) := by decide +kernel
theorem dX1_aboveOf_20 : decode cX1_aboveOf 20 = .ok (.iinc 2 1, 3) := by decide +kernel
theorem dX1_aboveOf_23 : decode cX1_aboveOf 23 = .ok (.aload_n 0, 1) := by decide +kernel
theorem dX1_aboveOf_24 : decode cX1_aboveOf 24 = .ok (.getfield 44, 3) := by decide +kernel
theorem dX1_aboveOf_27 : decode cX1_aboveOf 27 = .ok (.iload_n 3, 1) := by decide +kernel
theorem dX1_aboveOf_28 : decode cX1_aboveOf 28 = .ok (.iaload, 1) := by decide +kernel
theorem dX1_aboveOf_29 : decode cX1_aboveOf 29 = .ok (.istore_n 3, 1) := by decide +kernel
theorem dX1_aboveOf_30 : decode cX1_aboveOf 30 = .ok (.goto (-21), 3) := by decide +kernel
theorem dX1_aboveOf_33 : decode cX1_aboveOf 33 = .ok (.iload_n 2, 1) := by decide +kernel
theorem dX1_aboveOf_34 : decode cX1_aboveOf 34 = .ok (.ireturn, 1) := by decide +kernel
def Qu_aboveOf_9 (d : Sl) : Nat → Int32 → Int32 → Option Int32
  | 0, _, _ => none
  | n + 1, v2, v3 =>
    if (192 : Int32) ≤ v2 then
      (some v2)
    else
      (if v3 < 0 then
        (some v2)
      else
        (bnd (v2 + (1 : Int32)) fun v2_1 =>
        if inb v3 192 then
        bnd (d 23 (ix v3)) fun v3_2 =>
        Qu_aboveOf_9 d n v2_1 v3_2
        else none))
def Qu_aboveOf (d : Sl) (a1 : Int32) : Option Int32 :=
  bnd (0 : Int32) fun v2_3 =>
  if inb a1 192 then
  bnd (d 23 (ix a1)) fun v3_4 =>
  Qu_aboveOf_9 d FU v2_3 v3_4
  else none
theorem y_X1_aboveOf : YS yX1_aboveOf cX1_aboveOf 4 (some .int) 2 := ⟨q1121, trivial, q1122, q152, by decide +kernel, by decide +kernel, by decide +kernel, by decide +kernel⟩
theorem r_Qu_aboveOf_9 {C : Cxt} {G : Geo} {M : Mem} {k : Nat} {d : Sl} (hC : Cx C cX1_aboveOf 4 "FrameHeirs$Questions" (some .int) rm_X1_aboveOf G) (hk : LWd G k) (hk2 : 2 ≤ k) : ∀ (n : Nat) (v2 : Int32) (v3 : Int32), Rz C 4 G (setS M k) (poP avI ((setS M k) d)) 9 [(0, .inr (k, 17)), (2, .inl (.int v2)), (3, .inl (.int v3))] [] d (Qu_aboveOf_9 d n v2 v3) := by
  intro n
  induction n with
  | zero => intros; exact z_none
  | succ n ih =>
    intro v2 v3
    rw [Qu_aboveOf_9]
    refine z_iload_n (pc := 9) hC 2 rfl 1 rfl dX1_aboveOf_9 ?_
    refine z_sipush (pc := 10) hC (192 : Int32) rfl dX1_aboveOf_10 ?_
    refine z_icmp_ge (pc := 13) hC 33 rfl dX1_aboveOf_13 ?_ ?_
    · refine z_iload_n (pc := 33) hC 2 rfl 1 rfl dX1_aboveOf_33 ?_
      exact z_iret (pc := 34) hC rfl dX1_aboveOf_34
    · refine z_iload_n (pc := 16) hC 3 rfl 2 rfl dX1_aboveOf_16 ?_
      refine z_if_lt (pc := 17) hC 33 rfl dX1_aboveOf_17 ?_ ?_
      · refine z_iload_n (pc := 33) hC 2 rfl 1 rfl dX1_aboveOf_33 ?_
        exact z_iret (pc := 34) hC rfl dX1_aboveOf_34
      · refine z_iinc (pc := 20) (ls1 := fun v => [(2, .inl (.int v)), (0, .inr (k, 17)), (3, .inl (.int v3))]) hC 2 1 (by decide) (1 : Int32) rfl rfl (fun v => rfl) dX1_aboveOf_20 (fun v2_1 => ?_)
        refine z_aload_n (pc := 23) hC 0 rfl 1 rfl dX1_aboveOf_23 ?_
        refine z_getc (pc := 24) hC (hk 17 rfl) f_17_5 q309 dX1_aboveOf_24 ?_
        refine z_iload_n (pc := 27) hC 3 rfl 2 rfl dX1_aboveOf_27 ?_
        refine zs_iald (pc := 28) hC (hk 23 rfl) rfl dX1_aboveOf_28 ?_
        refine z_istore_n (pc := 29) (ls1 := fun v => [(3, .inl (.int v)), (2, .inl (.int v2_1)), (0, .inr (k, 17))]) hC 3 rfl (by decide) (fun v => rfl) dX1_aboveOf_29 (fun v3_2 => ?_)
        refine z_goto (pc := 30) hC 9 rfl dX1_aboveOf_30 ?_
        exact z_sub [2, 1, 0] rfl (ih v2_1 v3_2)
theorem r_Qu_aboveOf {C : Cxt} {G : Geo} {M : Mem} {k : Nat} (hC : Cx C cX1_aboveOf 4 "FrameHeirs$Questions" (some .int) rm_X1_aboveOf G) (hk : LWd G k) (hk2 : 2 ≤ k) (d : Sl) (a1 : Int32) : Rz C 4 G (setS M k) (poP avI ((setS M k) d)) 0 [(0, .inr (k, 17)), (1, .inl (.int a1))] [] d (Qu_aboveOf d a1) := by
  unfold Qu_aboveOf
  refine z_iconst (pc := 0) hC (0 : Int32) rfl dX1_aboveOf_0 ?_
  refine z_istore_n (pc := 1) (ls1 := fun v => [(2, .inl (.int v)), (0, .inr (k, 17)), (1, .inl (.int a1))]) hC 2 rfl (by decide) (fun v => rfl) dX1_aboveOf_1 (fun v2_3 => ?_)
  refine z_aload_n (pc := 2) hC 0 rfl 1 rfl dX1_aboveOf_2 ?_
  refine z_getc (pc := 3) hC (hk 17 rfl) f_17_5 q309 dX1_aboveOf_3 ?_
  refine z_iload_n (pc := 6) hC 1 rfl 2 rfl dX1_aboveOf_6 ?_
  refine zs_iald (pc := 7) hC (hk 23 rfl) rfl dX1_aboveOf_7 ?_
  refine z_istore_n (pc := 8) (ls1 := fun v => [(3, .inl (.int v)), (2, .inl (.int v2_3)), (0, .inr (k, 17)), (1, .inl (.int a1))]) hC 3 rfl (by decide) (fun v => rfl) dX1_aboveOf_8 (fun v3_4 => ?_)
  exact z_sub [2, 1, 0] rfl (r_Qu_aboveOf_9 hC hk hk2 FU v2_3 v3_4)
theorem c_X1_aboveOf {G : Geo} {M : Mem} {k : Nat} (hG : GOk G) (hk : LWd G k) (hk2 : 2 ≤ k) {d : Sl} {a1 : Int32} (l : Launch) (r : Int32) (h : Qu_aboveOf d a1 = some r) : Mt l yX1_aboveOf cX1_aboveOf 4 (some .int) rm_X1_aboveOf G [.inr (k, 17), .inl (.int a1)] ((setS M k) d) (avI r) ((setS M k) d) :=
  mt_of (mem := (setS M k)) (po := poP avI ((setS M k) d)) (x0 := d) (t := r) rfl hG [.inr (k, 17), .inl (.int a1)] (Nat.le_of_ble_eq_true rfl) rfl (fun C hC => r_Qu_aboveOf hC hk hk2 d a1) h
-- FrameHeirs$Questions.heirsOf(LFrameHeirs$Deeds;I)I
abbrev rm_X1_heirsOf : Room := { frames := 0, cells := 0, slots := 0, locals := 0 }
theorem dX1_heirsOf_0 : decode cX1_heirsOf 0 = .ok (.iconst 0, 1) := by decide +kernel
theorem dX1_heirsOf_1 : decode cX1_heirsOf 1 = .ok (.istore_n 2, 1) := by decide +kernel
theorem dX1_heirsOf_2 : decode cX1_heirsOf 2 = .ok (.aload_n 0, 1) := by decide +kernel
theorem dX1_heirsOf_3 : decode cX1_heirsOf 3 = .ok (.getfield 47, 3) := by decide +kernel
theorem dX1_heirsOf_6 : decode cX1_heirsOf 6 = .ok (.iload_n 1, 1) := by decide +kernel
theorem dX1_heirsOf_7 : decode cX1_heirsOf 7 = .ok (.iaload, 1) := by decide +kernel
theorem dX1_heirsOf_8 : decode cX1_heirsOf 8 = .ok (.istore_n 3, 1) := by decide +kernel
theorem dX1_heirsOf_9 : decode cX1_heirsOf 9 = .ok (.iload_n 2, 1) := by decide +kernel
theorem dX1_heirsOf_10 : decode cX1_heirsOf 10 = .ok (.sipush 192, 3) := by decide +kernel
theorem dX1_heirsOf_13 : decode cX1_heirsOf 13 = .ok (.if_icmp .ge 20, 3) := by decide +kernel
theorem dX1_heirsOf_16 : decode cX1_heirsOf 16 = .ok (.iload_n 3, 1) := by decide +kernel
theorem dX1_heirsOf_17 : decode cX1_heirsOf 17 = .ok (.ifCond .lt 16, 3) := by decide +kernel
theorem dX1_heirsOf_20 : decode cX1_heirsOf 20 = .ok (.iinc 2 1, 3) := by decide +kernel
theorem dX1_heirsOf_23 : decode cX1_heirsOf 23 = .ok (.aload_n 0, 1) := by decide +kernel
theorem dX1_heirsOf_24 : decode cX1_heirsOf 24 = .ok (.getfield 50, 3) := by decide +kernel
theorem dX1_heirsOf_27 : decode cX1_heirsOf 27 = .ok (.iload_n 3, 1) := by decide +kernel
theorem dX1_heirsOf_28 : decode cX1_heirsOf 28 = .ok (.iaload, 1) := by decide +kernel
theorem dX1_heirsOf_29 : decode cX1_heirsOf 29 = .ok (.istore_n 3, 1) := by decide +kernel
theorem dX1_heirsOf_30 : decode cX1_heirsOf 30 = .ok (.goto (-21), 3) := by decide +kernel
theorem dX1_heirsOf_33 : decode cX1_heirsOf 33 = .ok (.iload_n 2, 1) := by decide +kernel
theorem dX1_heirsOf_34 : decode cX1_heirsOf 34 = .ok (.ireturn, 1) := by decide +kernel
def Qu_heirsOf_9 (d : Sl) : Nat → Int32 → Int32 → Option Int32
  | 0, _, _ => none
  | n + 1, v2, v3 =>
    if (192 : Int32) ≤ v2 then
      (some v2)
    else
      (if v3 < 0 then
        (some v2)
      else
        (bnd (v2 + (1 : Int32)) fun v2_1 =>
        if inb v3 192 then
        bnd (d 26 (ix v3)) fun v3_2 =>
        Qu_heirsOf_9 d n v2_1 v3_2
        else none))
def Qu_heirsOf (d : Sl) (a1 : Int32) : Option Int32 :=
  bnd (0 : Int32) fun v2_3 =>
  if inb a1 192 then
  bnd (d 24 (ix a1)) fun v3_4 =>
  Qu_heirsOf_9 d FU v2_3 v3_4
  else none
theorem y_X1_heirsOf : YS yX1_heirsOf cX1_heirsOf 4 (some .int) 2 := ⟨q1220, trivial, q1221, q152, by decide +kernel, by decide +kernel, by decide +kernel, by decide +kernel⟩
theorem r_Qu_heirsOf_9 {C : Cxt} {G : Geo} {M : Mem} {k : Nat} {d : Sl} (hC : Cx C cX1_heirsOf 4 "FrameHeirs$Questions" (some .int) rm_X1_heirsOf G) (hk : LWd G k) (hk2 : 2 ≤ k) : ∀ (n : Nat) (v2 : Int32) (v3 : Int32), Rz C 4 G (setS M k) (poP avI ((setS M k) d)) 9 [(0, .inr (k, 17)), (2, .inl (.int v2)), (3, .inl (.int v3))] [] d (Qu_heirsOf_9 d n v2 v3) := by
  intro n
  induction n with
  | zero => intros; exact z_none
  | succ n ih =>
    intro v2 v3
    rw [Qu_heirsOf_9]
    refine z_iload_n (pc := 9) hC 2 rfl 1 rfl dX1_heirsOf_9 ?_
    refine z_sipush (pc := 10) hC (192 : Int32) rfl dX1_heirsOf_10 ?_
    refine z_icmp_ge (pc := 13) hC 33 rfl dX1_heirsOf_13 ?_ ?_
    · refine z_iload_n (pc := 33) hC 2 rfl 1 rfl dX1_heirsOf_33 ?_
      exact z_iret (pc := 34) hC rfl dX1_heirsOf_34
    · refine z_iload_n (pc := 16) hC 3 rfl 2 rfl dX1_heirsOf_16 ?_
      refine z_if_lt (pc := 17) hC 33 rfl dX1_heirsOf_17 ?_ ?_
      · refine z_iload_n (pc := 33) hC 2 rfl 1 rfl dX1_heirsOf_33 ?_
        exact z_iret (pc := 34) hC rfl dX1_heirsOf_34
      · refine z_iinc (pc := 20) (ls1 := fun v => [(2, .inl (.int v)), (0, .inr (k, 17)), (3, .inl (.int v3))]) hC 2 1 (by decide) (1 : Int32) rfl rfl (fun v => rfl) dX1_heirsOf_20 (fun v2_1 => ?_)
        refine z_aload_n (pc := 23) hC 0 rfl 1 rfl dX1_heirsOf_23 ?_
        refine z_getc (pc := 24) hC (hk 17 rfl) f_17_8 q315 dX1_heirsOf_24 ?_
        refine z_iload_n (pc := 27) hC 3 rfl 2 rfl dX1_heirsOf_27 ?_
        refine zs_iald (pc := 28) hC (hk 26 rfl) rfl dX1_heirsOf_28 ?_
        refine z_istore_n (pc := 29) (ls1 := fun v => [(3, .inl (.int v)), (2, .inl (.int v2_1)), (0, .inr (k, 17))]) hC 3 rfl (by decide) (fun v => rfl) dX1_heirsOf_29 (fun v3_2 => ?_)
        refine z_goto (pc := 30) hC 9 rfl dX1_heirsOf_30 ?_
        exact z_sub [2, 1, 0] rfl (ih v2_1 v3_2)
theorem r_Qu_heirsOf {C : Cxt} {G : Geo} {M : Mem} {k : Nat} (hC : Cx C cX1_heirsOf 4 "FrameHeirs$Questions" (some .int) rm_X1_heirsOf G) (hk : LWd G k) (hk2 : 2 ≤ k) (d : Sl) (a1 : Int32) : Rz C 4 G (setS M k) (poP avI ((setS M k) d)) 0 [(0, .inr (k, 17)), (1, .inl (.int a1))] [] d (Qu_heirsOf d a1) := by
  unfold Qu_heirsOf
  refine z_iconst (pc := 0) hC (0 : Int32) rfl dX1_heirsOf_0 ?_
  refine z_istore_n (pc := 1) (ls1 := fun v => [(2, .inl (.int v)), (0, .inr (k, 17)), (1, .inl (.int a1))]) hC 2 rfl (by decide) (fun v => rfl) dX1_heirsOf_1 (fun v2_3 => ?_)
  refine z_aload_n (pc := 2) hC 0 rfl 1 rfl dX1_heirsOf_2 ?_
  refine z_getc (pc := 3) hC (hk 17 rfl) f_17_6 q312 dX1_heirsOf_3 ?_
  refine z_iload_n (pc := 6) hC 1 rfl 2 rfl dX1_heirsOf_6 ?_
  refine zs_iald (pc := 7) hC (hk 24 rfl) rfl dX1_heirsOf_7 ?_
  refine z_istore_n (pc := 8) (ls1 := fun v => [(3, .inl (.int v)), (2, .inl (.int v2_3)), (0, .inr (k, 17)), (1, .inl (.int a1))]) hC 3 rfl (by decide) (fun v => rfl) dX1_heirsOf_8 (fun v3_4 => ?_)
  exact z_sub [2, 1, 0] rfl (r_Qu_heirsOf_9 hC hk hk2 FU v2_3 v3_4)
theorem c_X1_heirsOf {G : Geo} {M : Mem} {k : Nat} (hG : GOk G) (hk : LWd G k) (hk2 : 2 ≤ k) {d : Sl} {a1 : Int32} (l : Launch) (r : Int32) (h : Qu_heirsOf d a1 = some r) : Mt l yX1_heirsOf cX1_heirsOf 4 (some .int) rm_X1_heirsOf G [.inr (k, 17), .inl (.int a1)] ((setS M k) d) (avI r) ((setS M k) d) :=
  mt_of (mem := (setS M k)) (po := poP avI ((setS M k) d)) (x0 := d) (t := r) rfl hG [.inr (k, 17), .inl (.int a1)] (Nat.le_of_ble_eq_true rfl) rfl (fun C hC => r_Qu_heirsOf hC hk hk2 d a1) h
-- FrameHeirs$Questions.beneathOf(LFrameHeirs$Deeds;I)I
abbrev rm_X1_beneathOf : Room := { frames := 2, cells := 0, slots := 0, locals := 44 }
theorem dX1_beneathOf_0 : decode cX1_beneathOf 0 = .ok (.iconst 0, 1) := by decide +kernel
theorem dX1_beneathOf_1 : decode cX1_beneathOf 1 = .ok (.istore_n 2, 1) := by decide +kernel
theorem dX1_beneathOf_2 : decode cX1_beneathOf 2 = .ok (.aload_n 0, 1) := by decide +kernel
theorem dX1_beneathOf_3 : decode cX1_beneathOf 3 = .ok (.iload_n 1, 1) := by decide +kernel
theorem dX1_beneathOf_4 : decode cX1_beneathOf 4 = .ok (.invokevirtual 53, 3) := by decide +kernel
theorem dX1_beneathOf_7 : decode cX1_beneathOf 7 = .ok (.istore_n 3, 1) := by decide +kernel
theorem dX1_beneathOf_8 : decode cX1_beneathOf 8 = .ok (.iload_n 2, 1) := by decide +kernel
theorem dX1_beneathOf_9 : decode cX1_beneathOf 9 = .ok (.sipush 192, 3) := by decide +kernel
theorem dX1_beneathOf_12 : decode cX1_beneathOf 12 = .ok (.if_icmp .ge 24, 3) := by decide +kernel
theorem dX1_beneathOf_15 : decode cX1_beneathOf 15 = .ok (.iload_n 3, 1) := by decide +kernel
theorem dX1_beneathOf_16 : decode cX1_beneathOf 16 = .ok (.iload_n 1, 1) := by decide +kernel
theorem dX1_beneathOf_17 : decode cX1_beneathOf 17 = .ok (.if_icmp .eq 19, 3) := by decide +kernel
theorem dX1_beneathOf_20 : decode cX1_beneathOf 20 = .ok (.iload_n 3, 1) := by decide +kernel
theorem dX1_beneathOf_21 : decode cX1_beneathOf 21 = .ok (.ifCond .lt 15, 3) := by decide +kernel
theorem dX1_beneathOf_24 : decode cX1_beneathOf 24 = .ok (.iinc 2 1, 3) := by decide +kernel
theorem dX1_beneathOf_27 : decode cX1_beneathOf 27 = .ok (.aload_n 0, 1) := by decide +kernel
theorem dX1_beneathOf_28 : decode cX1_beneathOf 28 = .ok (.iload_n 3, 1) := by decide +kernel
theorem dX1_beneathOf_29 : decode cX1_beneathOf 29 = .ok (.invokevirtual 57, 3) := by decide +kernel
theorem dX1_beneathOf_32 : decode cX1_beneathOf 32 = .ok (.istore_n 3, 1) := by decide +kernel
theorem dX1_beneathOf_33 : decode cX1_beneathOf 33 = .ok (.goto (-25), 3) := by decide +kernel
theorem dX1_beneathOf_36 : decode cX1_beneathOf 36 = .ok (.iload_n 2, 1) := by decide +kernel
theorem dX1_beneathOf_37 : decode cX1_beneathOf 37 = .ok (.ireturn, 1) := by decide +kernel
def Qu_beneathOf_8 (d : Sl) : Nat → Int32 → Int32 → Int32 → Option Int32
  | 0, _, _, _ => none
  | n + 1, v1, v2, v3 =>
    if (192 : Int32) ≤ v2 then
      (some v2)
    else
      (if v3 = v1 then
        (some v2)
      else
        (if v3 < 0 then
          (some v2)
        else
          (bnd (v2 + (1 : Int32)) fun v2_1 =>
          bp (De_afterwards d v3) fun r2 =>
          bnd r2 fun v3_3 =>
          Qu_beneathOf_8 d n v1 v2_1 v3_3)))
def Qu_beneathOf (d : Sl) (a1 : Int32) : Option Int32 :=
  bnd (0 : Int32) fun v2_4 =>
  bp (De_deepest d a1) fun r5 =>
  bnd r5 fun v3_6 =>
  Qu_beneathOf_8 d FU a1 v2_4 v3_6
theorem y_X1_beneathOf : YS yX1_beneathOf cX1_beneathOf 4 (some .int) 2 := ⟨q1223, trivial, q1224, q152, by decide +kernel, by decide +kernel, by decide +kernel, by decide +kernel⟩
theorem r_Qu_beneathOf_8 {C : Cxt} {G : Geo} {M : Mem} {k : Nat} {d : Sl} (hC : Cx C cX1_beneathOf 4 "FrameHeirs$Questions" (some .int) rm_X1_beneathOf G) (hk : LWd G k) (hk2 : 2 ≤ k) : ∀ (n : Nat) (v1 : Int32) (v2 : Int32) (v3 : Int32), Rz C 4 G (setS M k) (poP avI ((setS M k) d)) 8 [(0, .inr (k, 17)), (1, .inl (.int v1)), (2, .inl (.int v2)), (3, .inl (.int v3))] [] d (Qu_beneathOf_8 d n v1 v2 v3) := by
  intro n
  induction n with
  | zero => intros; exact z_none
  | succ n ih =>
    intro v1 v2 v3
    rw [Qu_beneathOf_8]
    refine z_iload_n (pc := 8) hC 2 rfl 2 rfl dX1_beneathOf_8 ?_
    refine z_sipush (pc := 9) hC (192 : Int32) rfl dX1_beneathOf_9 ?_
    refine z_icmp_ge (pc := 12) hC 36 rfl dX1_beneathOf_12 ?_ ?_
    · refine z_iload_n (pc := 36) hC 2 rfl 2 rfl dX1_beneathOf_36 ?_
      exact z_iret (pc := 37) hC rfl dX1_beneathOf_37
    · refine z_iload_n (pc := 15) hC 3 rfl 3 rfl dX1_beneathOf_15 ?_
      refine z_iload_n (pc := 16) hC 1 rfl 1 rfl dX1_beneathOf_16 ?_
      refine z_icmp_eq (pc := 17) hC 36 rfl dX1_beneathOf_17 ?_ ?_
      · refine z_iload_n (pc := 36) hC 2 rfl 2 rfl dX1_beneathOf_36 ?_
        exact z_iret (pc := 37) hC rfl dX1_beneathOf_37
      · refine z_iload_n (pc := 20) hC 3 rfl 3 rfl dX1_beneathOf_20 ?_
        refine z_if_lt (pc := 21) hC 36 rfl dX1_beneathOf_21 ?_ ?_
        · refine z_iload_n (pc := 36) hC 2 rfl 2 rfl dX1_beneathOf_36 ?_
          exact z_iret (pc := 37) hC rfl dX1_beneathOf_37
        · refine z_iinc (pc := 24) (ls1 := fun v => [(2, .inl (.int v)), (0, .inr (k, 17)), (1, .inl (.int v1)), (3, .inl (.int v3))]) hC 2 2 (by decide) (1 : Int32) rfl rfl (fun v => rfl) dX1_beneathOf_24 (fun v2_1 => ?_)
          refine z_aload_n (pc := 27) hC 0 rfl 1 rfl dX1_beneathOf_27 ?_
          refine z_iload_n (pc := 28) hC 3 rfl 3 rfl dX1_beneathOf_28 ?_
          refine z_piV (pc := 29) (st := []) hC y_X0_afterwards q1226 [.inl (.int v3)] rfl (hk 17 rfl) rfl rfl (c_X0_afterwards hC.2.2.2.2.2.2.1 hk hk2) rfl ⟨rfl, rfl, (Nat.le_of_ble_eq_true rfl), (Nat.le_of_ble_eq_true rfl)⟩ (Nat.le_of_ble_eq_true rfl) dX1_beneathOf_29 (fun r2 => ?_)
          refine z_istore_n (pc := 32) (ls1 := fun v => [(3, .inl (.int v)), (2, .inl (.int v2_1)), (0, .inr (k, 17)), (1, .inl (.int v1))]) hC 3 rfl (by decide) (fun v => rfl) dX1_beneathOf_32 (fun v3_3 => ?_)
          refine z_goto (pc := 33) hC 8 rfl dX1_beneathOf_33 ?_
          exact z_sub [2, 3, 1, 0] rfl (ih v1 v2_1 v3_3)
theorem r_Qu_beneathOf {C : Cxt} {G : Geo} {M : Mem} {k : Nat} (hC : Cx C cX1_beneathOf 4 "FrameHeirs$Questions" (some .int) rm_X1_beneathOf G) (hk : LWd G k) (hk2 : 2 ≤ k) (d : Sl) (a1 : Int32) : Rz C 4 G (setS M k) (poP avI ((setS M k) d)) 0 [(0, .inr (k, 17)), (1, .inl (.int a1))] [] d (Qu_beneathOf d a1) := by
  unfold Qu_beneathOf
  refine z_iconst (pc := 0) hC (0 : Int32) rfl dX1_beneathOf_0 ?_
  refine z_istore_n (pc := 1) (ls1 := fun v => [(2, .inl (.int v)), (0, .inr (k, 17)), (1, .inl (.int a1))]) hC 2 rfl (by decide) (fun v => rfl) dX1_beneathOf_1 (fun v2_4 => ?_)
  refine z_aload_n (pc := 2) hC 0 rfl 1 rfl dX1_beneathOf_2 ?_
  refine z_iload_n (pc := 3) hC 1 rfl 2 rfl dX1_beneathOf_3 ?_
  refine z_piV (pc := 4) (st := []) hC y_X0_deepest q1225 [.inl (.int a1)] rfl (hk 17 rfl) rfl rfl (c_X0_deepest hC.2.2.2.2.2.2.1 hk hk2) rfl ⟨rfl, rfl, (Nat.le_of_ble_eq_true rfl), (Nat.le_of_ble_eq_true rfl)⟩ (Nat.le_of_ble_eq_true rfl) dX1_beneathOf_4 (fun r5 => ?_)
  refine z_istore_n (pc := 7) (ls1 := fun v => [(3, .inl (.int v)), (2, .inl (.int v2_4)), (0, .inr (k, 17)), (1, .inl (.int a1))]) hC 3 rfl (by decide) (fun v => rfl) dX1_beneathOf_7 (fun v3_6 => ?_)
  exact z_sub [2, 3, 1, 0] rfl (r_Qu_beneathOf_8 hC hk hk2 FU a1 v2_4 v3_6)
theorem c_X1_beneathOf {G : Geo} {M : Mem} {k : Nat} (hG : GOk G) (hk : LWd G k) (hk2 : 2 ≤ k) {d : Sl} {a1 : Int32} (l : Launch) (r : Int32) (h : Qu_beneathOf d a1 = some r) : Mt l yX1_beneathOf cX1_beneathOf 4 (some .int) rm_X1_beneathOf G [.inr (k, 17), .inl (.int a1)] ((setS M k) d) (avI r) ((setS M k) d) :=
  mt_of (mem := (setS M k)) (po := poP avI ((setS M k) d)) (x0 := d) (t := r) rfl hG [.inr (k, 17), .inl (.int a1)] (Nat.le_of_ble_eq_true rfl) rfl (fun C hC => r_Qu_beneathOf hC hk hk2 d a1) h
-- FrameHeirs$Questions.tell(LFrameHeirs$Deeds;III)I
abbrev rm_X1_tell : Room := { frames := 3, cells := 0, slots := 0, locals := 67 }
theorem dX1_tell_0 : decode cX1_tell 0 = .ok (.iload_n 3, 1) := by decide +kernel
theorem dX1_tell_1 : decode cX1_tell 1 = .ok (.tableswitch 89 0 6 #[43, 50, 57, 64, 71, 77, 83], 43) := by decide +kernel
theorem dX1_tell_44 : decode cX1_tell 44 = .ok (.aload_n 0, 1) := by decide +kernel
theorem dX1_tell_45 : decode cX1_tell 45 = .ok (.iload_n 1, 1) := by decide +kernel
theorem dX1_tell_46 : decode cX1_tell 46 = .ok (.iload_n 2, 1) := by decide +kernel
theorem dX1_tell_47 : decode cX1_tell 47 = .ok (.invokestatic 9, 3) := by decide +kernel
theorem dX1_tell_50 : decode cX1_tell 50 = .ok (.ireturn, 1) := by decide +kernel
theorem dX1_tell_51 : decode cX1_tell 51 = .ok (.aload_n 0, 1) := by decide +kernel
theorem dX1_tell_52 : decode cX1_tell 52 = .ok (.getfield 15, 3) := by decide +kernel
theorem dX1_tell_55 : decode cX1_tell 55 = .ok (.iload_n 1, 1) := by decide +kernel
theorem dX1_tell_56 : decode cX1_tell 56 = .ok (.iaload, 1) := by decide +kernel
theorem dX1_tell_57 : decode cX1_tell 57 = .ok (.ireturn, 1) := by decide +kernel
theorem dX1_tell_58 : decode cX1_tell 58 = .ok (.aload_n 0, 1) := by decide +kernel
theorem dX1_tell_59 : decode cX1_tell 59 = .ok (.getfield 21, 3) := by decide +kernel
theorem dX1_tell_62 : decode cX1_tell 62 = .ok (.iload_n 1, 1) := by decide +kernel
theorem dX1_tell_63 : decode cX1_tell 63 = .ok (.iaload, 1) := by decide +kernel
theorem dX1_tell_64 : decode cX1_tell 64 = .ok (.ireturn, 1) := by decide +kernel
theorem dX1_tell_65 : decode cX1_tell 65 = .ok (.aload_n 0, 1) := by decide +kernel
theorem dX1_tell_66 : decode cX1_tell 66 = .ok (.getfield 24, 3) := by decide +kernel
theorem dX1_tell_69 : decode cX1_tell 69 = .ok (.iload_n 1, 1) := by decide +kernel
theorem dX1_tell_70 : decode cX1_tell 70 = .ok (.iaload, 1) := by decide +kernel
theorem dX1_tell_71 : decode cX1_tell 71 = .ok (.ireturn, 1) := by decide +kernel
theorem dX1_tell_72 : decode cX1_tell 72 = .ok (.aload_n 0, 1) := by decide +kernel
theorem dX1_tell_73 : decode cX1_tell 73 = .ok (.iload_n 1, 1) := by decide +kernel
theorem dX1_tell_74 : decode cX1_tell 74 = .ok (.invokestatic 27, 3) := by decide +kernel
theorem dX1_tell_77 : decode cX1_tell 77 = .ok (.ireturn, 1) := by decide +kernel
theorem dX1_tell_78 : decode cX1_tell 78 = .ok (.aload_n 0, 1) := by decide +kernel
theorem dX1_tell_79 : decode cX1_tell 79 = .ok (.iload_n 1, 1) := by decide +kernel
theorem dX1_tell_80 : decode cX1_tell 80 = .ok (.invokestatic 31, 3) := by decide +kernel
theorem dX1_tell_83 : decode cX1_tell 83 = .ok (.ireturn, 1) := by decide +kernel
theorem dX1_tell_84 : decode cX1_tell 84 = .ok (.aload_n 0, 1) := by decide +kernel
theorem dX1_tell_85 : decode cX1_tell 85 = .ok (.iload_n 1, 1) := by decide +kernel
theorem dX1_tell_86 : decode cX1_tell 86 = .ok (.invokestatic 34, 3) := by decide +kernel
theorem dX1_tell_89 : decode cX1_tell 89 = .ok (.ireturn, 1) := by decide +kernel
theorem dX1_tell_90 : decode cX1_tell 90 = .ok (.aload_n 0, 1) := by decide +kernel
theorem dX1_tell_91 : decode cX1_tell 91 = .ok (.iload_n 1, 1) := by decide +kernel
theorem dX1_tell_92 : decode cX1_tell 92 = .ok (.invokevirtual 37, 3) := by decide +kernel
theorem dX1_tell_95 : decode cX1_tell 95 = .ok (.ifCond .eq 7, 3) := by decide +kernel
theorem dX1_tell_98 : decode cX1_tell 98 = .ok (.iconst 1, 1) := by decide +kernel
theorem dX1_tell_99 : decode cX1_tell 99 = .ok (.goto 4, 3) := by decide +kernel
theorem dX1_tell_102 : decode cX1_tell 102 = .ok (.iconst 0, 1) := by decide +kernel
theorem dX1_tell_103 : decode cX1_tell 103 = .ok (.ireturn, 1) := by decide +kernel
def Qu_tell (d : Sl) (a1 : Int32) (a2 : Int32) (a3 : Int32) : Option Int32 :=
  if a3 = (0 : Int32) then
    (bp (Qu_frameAt d a1 a2) fun r5 =>
    some r5)
  else
    (if a3 = (1 : Int32) then
      (if inb a1 192 then
      some (d 22 (ix a1))
      else none)
    else
      (if a3 = (2 : Int32) then
        (if inb a1 192 then
        some (d 21 (ix a1))
        else none)
      else
        (if a3 = (3 : Int32) then
          (if inb a1 192 then
          some (d 19 (ix a1))
          else none)
        else
          (if a3 = (4 : Int32) then
            (bp (Qu_aboveOf d a1) fun r4 =>
            some r4)
          else
            (if a3 = (5 : Int32) then
              (bp (Qu_heirsOf d a1) fun r3 =>
              some r3)
            else
              (if a3 = (6 : Int32) then
                (bp (Qu_beneathOf d a1) fun r2 =>
                some r2)
              else
                (bp (De_isBusy d a1) fun r1 =>
                if r1 = 0 then
                  (some (0 : Int32))
                else
                  (some (1 : Int32)))))))))
theorem y_X1_tell : YS yX1_tell cX1_tell 4 (some .int) 4 := ⟨q1217, trivial, q1218, q152, by decide +kernel, by decide +kernel, by decide +kernel, by decide +kernel⟩
theorem r_Qu_tell {C : Cxt} {G : Geo} {M : Mem} {k : Nat} (hC : Cx C cX1_tell 4 "FrameHeirs$Questions" (some .int) rm_X1_tell G) (hk : LWd G k) (hk2 : 2 ≤ k) (d : Sl) (a1 : Int32) (a2 : Int32) (a3 : Int32) : Rz C 4 G (setS M k) (poP avI ((setS M k) d)) 0 [(0, .inr (k, 17)), (1, .inl (.int a1)), (2, .inl (.int a2)), (3, .inl (.int a3))] [] d (Qu_tell d a1 a2 a3) := by
  unfold Qu_tell
  refine z_iload_n (pc := 0) hC 3 rfl 3 rfl dX1_tell_0 ?_
  refine z_ite (fun e => ?_) (fun e0 => ?_)
  · refine z_tswIn (pc := 1) hC 0 44 (by rw [e]; rfl) (by decide) (by decide) rfl rfl dX1_tell_1 ?_
    refine z_aload_n (pc := 44) hC 0 rfl 0 rfl dX1_tell_44 ?_
    refine z_iload_n (pc := 45) hC 1 rfl 1 rfl dX1_tell_45 ?_
    refine z_iload_n (pc := 46) hC 2 rfl 2 rfl dX1_tell_46 ?_
    refine z_piS (pc := 47) (st := []) hC y_X1_frameAt q841 [.inr (k, 17), .inl (.int a1), .inl (.int a2)] rfl (c_X1_frameAt hC.2.2.2.2.2.2.1 hk hk2) rfl ⟨rfl, rfl, (Nat.le_of_ble_eq_true rfl), (Nat.le_of_ble_eq_true rfl)⟩ (Nat.le_of_ble_eq_true rfl) dX1_tell_47 (fun r5 => ?_)
    exact z_iret (pc := 50) hC rfl dX1_tell_50
  · refine z_ite (fun e => ?_) (fun e1 => ?_)
    · refine z_tswIn (pc := 1) hC 1 51 (by rw [e]; rfl) (by decide) (by decide) rfl rfl dX1_tell_1 ?_
      refine z_aload_n (pc := 51) hC 0 rfl 0 rfl dX1_tell_51 ?_
      refine z_getc (pc := 52) hC (hk 17 rfl) f_17_4 q306 dX1_tell_52 ?_
      refine z_iload_n (pc := 55) hC 1 rfl 1 rfl dX1_tell_55 ?_
      refine zs_iald (pc := 56) hC (hk 22 rfl) rfl dX1_tell_56 ?_
      exact z_iret (pc := 57) hC rfl dX1_tell_57
    · refine z_ite (fun e => ?_) (fun e2 => ?_)
      · refine z_tswIn (pc := 1) hC 2 58 (by rw [e]; rfl) (by decide) (by decide) rfl rfl dX1_tell_1 ?_
        refine z_aload_n (pc := 58) hC 0 rfl 0 rfl dX1_tell_58 ?_
        refine z_getc (pc := 59) hC (hk 17 rfl) f_17_3 q303 dX1_tell_59 ?_
        refine z_iload_n (pc := 62) hC 1 rfl 1 rfl dX1_tell_62 ?_
        refine zs_iald (pc := 63) hC (hk 21 rfl) rfl dX1_tell_63 ?_
        exact z_iret (pc := 64) hC rfl dX1_tell_64
      · refine z_ite (fun e => ?_) (fun e3 => ?_)
        · refine z_tswIn (pc := 1) hC 3 65 (by rw [e]; rfl) (by decide) (by decide) rfl rfl dX1_tell_1 ?_
          refine z_aload_n (pc := 65) hC 0 rfl 0 rfl dX1_tell_65 ?_
          refine z_getc (pc := 66) hC (hk 17 rfl) f_17_1 q296 dX1_tell_66 ?_
          refine z_iload_n (pc := 69) hC 1 rfl 1 rfl dX1_tell_69 ?_
          refine zs_iald (pc := 70) hC (hk 19 rfl) rfl dX1_tell_70 ?_
          exact z_iret (pc := 71) hC rfl dX1_tell_71
        · refine z_ite (fun e => ?_) (fun e4 => ?_)
          · refine z_tswIn (pc := 1) hC 4 72 (by rw [e]; rfl) (by decide) (by decide) rfl rfl dX1_tell_1 ?_
            refine z_aload_n (pc := 72) hC 0 rfl 0 rfl dX1_tell_72 ?_
            refine z_iload_n (pc := 73) hC 1 rfl 1 rfl dX1_tell_73 ?_
            refine z_piS (pc := 74) (st := []) hC y_X1_aboveOf q1120 [.inr (k, 17), .inl (.int a1)] rfl (c_X1_aboveOf hC.2.2.2.2.2.2.1 hk hk2) rfl ⟨rfl, rfl, (Nat.le_of_ble_eq_true rfl), (Nat.le_of_ble_eq_true rfl)⟩ (Nat.le_of_ble_eq_true rfl) dX1_tell_74 (fun r4 => ?_)
            exact z_iret (pc := 77) hC rfl dX1_tell_77
          · refine z_ite (fun e => ?_) (fun e5 => ?_)
            · refine z_tswIn (pc := 1) hC 5 78 (by rw [e]; rfl) (by decide) (by decide) rfl rfl dX1_tell_1 ?_
              refine z_aload_n (pc := 78) hC 0 rfl 0 rfl dX1_tell_78 ?_
              refine z_iload_n (pc := 79) hC 1 rfl 1 rfl dX1_tell_79 ?_
              refine z_piS (pc := 80) (st := []) hC y_X1_heirsOf q1219 [.inr (k, 17), .inl (.int a1)] rfl (c_X1_heirsOf hC.2.2.2.2.2.2.1 hk hk2) rfl ⟨rfl, rfl, (Nat.le_of_ble_eq_true rfl), (Nat.le_of_ble_eq_true rfl)⟩ (Nat.le_of_ble_eq_true rfl) dX1_tell_80 (fun r3 => ?_)
              exact z_iret (pc := 83) hC rfl dX1_tell_83
            · refine z_ite (fun e => ?_) (fun e6 => ?_)
              · refine z_tswIn (pc := 1) hC 6 84 (by rw [e]; rfl) (by decide) (by decide) rfl rfl dX1_tell_1 ?_
                refine z_aload_n (pc := 84) hC 0 rfl 0 rfl dX1_tell_84 ?_
                refine z_iload_n (pc := 85) hC 1 rfl 1 rfl dX1_tell_85 ?_
                refine z_piS (pc := 86) (st := []) hC y_X1_beneathOf q1222 [.inr (k, 17), .inl (.int a1)] rfl (c_X1_beneathOf hC.2.2.2.2.2.2.1 hk hk2) rfl ⟨rfl, rfl, (Nat.le_of_ble_eq_true rfl), (Nat.le_of_ble_eq_true rfl)⟩ (Nat.le_of_ble_eq_true rfl) dX1_tell_86 (fun r2 => ?_)
                exact z_iret (pc := 89) hC rfl dX1_tell_89
              · have e0_ : (a3).toInt ≠ 0 := fun h => e0 (Int32.toInt_inj.mp (by rw [h]; rfl))
                have e1_ : (a3).toInt ≠ 1 := fun h => e1 (Int32.toInt_inj.mp (by rw [h]; rfl))
                have e2_ : (a3).toInt ≠ 2 := fun h => e2 (Int32.toInt_inj.mp (by rw [h]; rfl))
                have e3_ : (a3).toInt ≠ 3 := fun h => e3 (Int32.toInt_inj.mp (by rw [h]; rfl))
                have e4_ : (a3).toInt ≠ 4 := fun h => e4 (Int32.toInt_inj.mp (by rw [h]; rfl))
                have e5_ : (a3).toInt ≠ 5 := fun h => e5 (Int32.toInt_inj.mp (by rw [h]; rfl))
                have e6_ : (a3).toInt ≠ 6 := fun h => e6 (Int32.toInt_inj.mp (by rw [h]; rfl))
                refine z_tswOut (pc := 1) hC 90 (by omega) rfl dX1_tell_1 ?_
                refine z_aload_n (pc := 90) hC 0 rfl 0 rfl dX1_tell_90 ?_
                refine z_iload_n (pc := 91) hC 1 rfl 1 rfl dX1_tell_91 ?_
                refine z_piV (pc := 92) (st := []) hC y_X0_isBusy q1227 [.inl (.int a1)] rfl (hk 17 rfl) rfl rfl (c_X0_isBusy hC.2.2.2.2.2.2.1 hk hk2) rfl ⟨rfl, rfl, (Nat.le_of_ble_eq_true rfl), (Nat.le_of_ble_eq_true rfl)⟩ (Nat.le_of_ble_eq_true rfl) dX1_tell_92 (fun r1 => ?_)
                refine z_if_eq (pc := 95) hC 102 rfl dX1_tell_95 ?_ ?_
                · refine z_iconst (pc := 102) hC (0 : Int32) rfl dX1_tell_102 ?_
                  exact z_iret (pc := 103) hC rfl dX1_tell_103
                · refine z_iconst (pc := 98) hC (1 : Int32) rfl dX1_tell_98 ?_
                  refine z_goto (pc := 99) hC 103 rfl dX1_tell_99 ?_
                  exact z_iret (pc := 103) hC rfl dX1_tell_103
theorem c_X1_tell {G : Geo} {M : Mem} {k : Nat} (hG : GOk G) (hk : LWd G k) (hk2 : 2 ≤ k) {d : Sl} {a1 : Int32} {a2 : Int32} {a3 : Int32} (l : Launch) (r : Int32) (h : Qu_tell d a1 a2 a3 = some r) : Mt l yX1_tell cX1_tell 4 (some .int) rm_X1_tell G [.inr (k, 17), .inl (.int a1), .inl (.int a2), .inl (.int a3)] ((setS M k) d) (avI r) ((setS M k) d) :=
  mt_of (mem := (setS M k)) (po := poP avI ((setS M k) d)) (x0 := d) (t := r) rfl hG [.inr (k, 17), .inl (.int a1), .inl (.int a2), .inl (.int a3)] (Nat.le_of_ble_eq_true rfl) rfl (fun C hC => r_Qu_tell hC hk hk2 d a1 a2 a3) h
-- FrameHeirs$Questions.mostAbove(LFrameHeirs$Deeds;)I
abbrev rm_X1_mostAbove : Room := { frames := 1, cells := 0, slots := 0, locals := 23 }
theorem dX1_mostAbove_0 : decode cX1_mostAbove 0 = .ok (.iconst 0, 1) := by decide +kernel
theorem dX1_mostAbove_1 : decode cX1_mostAbove 1 = .ok (.istore_n 1, 1) := by decide +kernel
theorem dX1_mostAbove_2 : decode cX1_mostAbove 2 = .ok (.iconst 0, 1) := by decide +kernel
theorem dX1_mostAbove_3 : decode cX1_mostAbove 3 = .ok (.istore_n 2, 1) := by decide +kernel
theorem dX1_mostAbove_4 : decode cX1_mostAbove 4 = .ok (.iload_n 2, 1) := by decide +kernel
theorem dX1_mostAbove_5 : decode cX1_mostAbove 5 = .ok (.aload_n 0, 1) := by decide +kernel
theorem dX1_mostAbove_6 : decode cX1_mostAbove 6 = .ok (.getfield 60, 3) := by decide +kernel
theorem dX1_mostAbove_9 : decode cX1_mostAbove 9 = .ok (.if_icmp .ge 28, 3) := by decide +kernel
theorem dX1_mostAbove_12 : decode cX1_mostAbove 12 = .ok (.aload_n 0, 1) := by decide +kernel
theorem dX1_mostAbove_13 : decode cX1_mostAbove 13 = .ok (.getfield 21, 3) := by decide +kernel
theorem dX1_mostAbove_16 : decode cX1_mostAbove 16 = .ok (.iload_n 2, 1) := by decide +kernel
theorem dX1_mostAbove_17 : decode cX1_mostAbove 17 = .ok (.iaload, 1) := by decide +kernel
theorem dX1_mostAbove_18 : decode cX1_mostAbove 18 = .ok (.ifCond .lt 13, 3) := by decide +kernel
theorem dX1_mostAbove_21 : decode cX1_mostAbove 21 = .ok (.iload_n 1, 1) := by decide +kernel
theorem dX1_mostAbove_22 : decode cX1_mostAbove 22 = .ok (.aload_n 0, 1) := by decide +kernel
theorem dX1_mostAbove_23 : decode cX1_mostAbove 23 = .ok (.iload_n 2, 1) := by decide +kernel
theorem dX1_mostAbove_24 : decode cX1_mostAbove 24 = .ok (.invokestatic 27, 3) := by decide +kernel
theorem dX1_mostAbove_27 : decode cX1_mostAbove 27 = .ok (.invokestatic 64, 3) := by decide +kernel
theorem dX1_mostAbove_30 : decode cX1_mostAbove 30 = .ok (.istore_n 1, 1) := by decide +kernel
theorem dX1_mostAbove_31 : decode cX1_mostAbove 31 = .ok (.iinc 2 1, 3) := by decide +kernel
theorem dX1_mostAbove_34 : decode cX1_mostAbove 34 = .ok (.goto (-30), 3) := by decide +kernel
theorem dX1_mostAbove_37 : decode cX1_mostAbove 37 = .ok (.iload_n 1, 1) := by decide +kernel
theorem dX1_mostAbove_38 : decode cX1_mostAbove 38 = .ok (.ireturn, 1) := by decide +kernel
def Qu_mostAbove_31 (k4 : Int32 → Int32 → Option Int32) (d : Sl) (v1 : Int32) (v2 : Int32) : Option Int32 :=
  bnd (v2 + (1 : Int32)) fun v2_1 =>
  k4 v1 v2_1
def Qu_mostAbove_4 (d : Sl) : Nat → Int32 → Int32 → Option Int32
  | 0, _, _ => none
  | n + 1, v1, v2 =>
    if (d 17 16) ≤ v2 then
      (some v1)
    else
      (if inb v2 192 then
      if (d 21 (ix v2)) < 0 then
        (Qu_mostAbove_31 (Qu_mostAbove_4 d n) d v1 v2)
      else
        (bp (Qu_aboveOf d v2) fun r2 =>
        bnd (if v1 < r2 then r2 else v1) fun v1_3 =>
        Qu_mostAbove_31 (Qu_mostAbove_4 d n) d v1_3 v2)
      else none)
def Qu_mostAbove (d : Sl) : Option Int32 :=
  bnd (0 : Int32) fun v1_4 =>
  bnd (0 : Int32) fun v2_5 =>
  Qu_mostAbove_4 d FU v1_4 v2_5
theorem y_X1_mostAbove : YS yX1_mostAbove cX1_mostAbove 3 (some .int) 1 := ⟨q1118, trivial, q1119, q152, by decide +kernel, by decide +kernel, by decide +kernel, by decide +kernel⟩
theorem r_Qu_mostAbove_31 {C : Cxt} {G : Geo} {M : Mem} {k : Nat} {d : Sl} (hC : Cx C cX1_mostAbove 3 "FrameHeirs$Questions" (some .int) rm_X1_mostAbove G) (hk : LWd G k) (hk2 : 2 ≤ k) (k4 : Int32 → Int32 → Option Int32) (h4 : ∀ (v1 : Int32) (v2 : Int32), Rz C 3 G (setS M k) (poP avI ((setS M k) d)) 4 [(0, .inr (k, 17)), (1, .inl (.int v1)), (2, .inl (.int v2))] [] d (k4 v1 v2)) (v1 : Int32) (v2 : Int32) : Rz C 3 G (setS M k) (poP avI ((setS M k) d)) 31 [(0, .inr (k, 17)), (1, .inl (.int v1)), (2, .inl (.int v2))] [] d (Qu_mostAbove_31 k4 d v1 v2) := by
  unfold Qu_mostAbove_31
  refine z_iinc (pc := 31) (ls1 := fun v => [(2, .inl (.int v)), (0, .inr (k, 17)), (1, .inl (.int v1))]) hC 2 2 (by decide) (1 : Int32) rfl rfl (fun v => rfl) dX1_mostAbove_31 (fun v2_1 => ?_)
  refine z_goto (pc := 34) hC 4 rfl dX1_mostAbove_34 ?_
  exact z_sub [1, 2, 0] rfl (h4 v1 v2_1)
theorem r_Qu_mostAbove_4 {C : Cxt} {G : Geo} {M : Mem} {k : Nat} {d : Sl} (hC : Cx C cX1_mostAbove 3 "FrameHeirs$Questions" (some .int) rm_X1_mostAbove G) (hk : LWd G k) (hk2 : 2 ≤ k) : ∀ (n : Nat) (v1 : Int32) (v2 : Int32), Rz C 3 G (setS M k) (poP avI ((setS M k) d)) 4 [(0, .inr (k, 17)), (1, .inl (.int v1)), (2, .inl (.int v2))] [] d (Qu_mostAbove_4 d n v1 v2) := by
  intro n
  induction n with
  | zero => intros; exact z_none
  | succ n ih =>
    intro v1 v2
    rw [Qu_mostAbove_4]
    refine z_iload_n (pc := 4) hC 2 rfl 2 rfl dX1_mostAbove_4 ?_
    refine z_aload_n (pc := 5) hC 0 rfl 0 rfl dX1_mostAbove_5 ?_
    refine zs_geti (pc := 6) hC (hk 17 rfl) f_17_16 q328 dX1_mostAbove_6 ?_
    refine z_icmp_ge (pc := 9) hC 37 rfl dX1_mostAbove_9 ?_ ?_
    · refine z_iload_n (pc := 37) hC 1 rfl 1 rfl dX1_mostAbove_37 ?_
      exact z_iret (pc := 38) hC rfl dX1_mostAbove_38
    · refine z_aload_n (pc := 12) hC 0 rfl 0 rfl dX1_mostAbove_12 ?_
      refine z_getc (pc := 13) hC (hk 17 rfl) f_17_3 q303 dX1_mostAbove_13 ?_
      refine z_iload_n (pc := 16) hC 2 rfl 2 rfl dX1_mostAbove_16 ?_
      refine zs_iald (pc := 17) hC (hk 21 rfl) rfl dX1_mostAbove_17 ?_
      refine z_if_lt (pc := 18) hC 31 rfl dX1_mostAbove_18 ?_ ?_
      · exact z_sub [0, 1, 2] rfl (r_Qu_mostAbove_31 hC hk hk2 _ ih v1 v2)
      · refine z_iload_n (pc := 21) hC 1 rfl 1 rfl dX1_mostAbove_21 ?_
        refine z_aload_n (pc := 22) hC 0 rfl 0 rfl dX1_mostAbove_22 ?_
        refine z_iload_n (pc := 23) hC 2 rfl 2 rfl dX1_mostAbove_23 ?_
        refine z_piS (pc := 24) (st := [.inl (.int v1)]) hC y_X1_aboveOf q1120 [.inr (k, 17), .inl (.int v2)] rfl (c_X1_aboveOf hC.2.2.2.2.2.2.1 hk hk2) rfl ⟨rfl, rfl, (Nat.le_of_ble_eq_true rfl), (Nat.le_of_ble_eq_true rfl)⟩ (Nat.le_of_ble_eq_true rfl) dX1_mostAbove_24 (fun r2 => ?_)
        refine z_max (pc := 27) hC q1123 q589 q150 q590 (Nat.le_of_ble_eq_true rfl) (Nat.le_of_ble_eq_true rfl) dX1_mostAbove_27 ?_
        refine z_istore_n (pc := 30) (ls1 := fun v => [(1, .inl (.int v)), (0, .inr (k, 17)), (2, .inl (.int v2))]) hC 1 rfl (by decide) (fun v => rfl) dX1_mostAbove_30 (fun v1_3 => ?_)
        exact z_sub [1, 0, 2] rfl (r_Qu_mostAbove_31 hC hk hk2 _ ih v1_3 v2)
theorem r_Qu_mostAbove {C : Cxt} {G : Geo} {M : Mem} {k : Nat} (hC : Cx C cX1_mostAbove 3 "FrameHeirs$Questions" (some .int) rm_X1_mostAbove G) (hk : LWd G k) (hk2 : 2 ≤ k) (d : Sl) : Rz C 3 G (setS M k) (poP avI ((setS M k) d)) 0 [(0, .inr (k, 17))] [] d (Qu_mostAbove d) := by
  unfold Qu_mostAbove
  refine z_iconst (pc := 0) hC (0 : Int32) rfl dX1_mostAbove_0 ?_
  refine z_istore_n (pc := 1) (ls1 := fun v => [(1, .inl (.int v)), (0, .inr (k, 17))]) hC 1 rfl (by decide) (fun v => rfl) dX1_mostAbove_1 (fun v1_4 => ?_)
  refine z_iconst (pc := 2) hC (0 : Int32) rfl dX1_mostAbove_2 ?_
  refine z_istore_n (pc := 3) (ls1 := fun v => [(2, .inl (.int v)), (1, .inl (.int v1_4)), (0, .inr (k, 17))]) hC 2 rfl (by decide) (fun v => rfl) dX1_mostAbove_3 (fun v2_5 => ?_)
  exact z_sub [2, 1, 0] rfl (r_Qu_mostAbove_4 hC hk hk2 FU v1_4 v2_5)
theorem c_X1_mostAbove {G : Geo} {M : Mem} {k : Nat} (hG : GOk G) (hk : LWd G k) (hk2 : 2 ≤ k) {d : Sl} (l : Launch) (r : Int32) (h : Qu_mostAbove d = some r) : Mt l yX1_mostAbove cX1_mostAbove 3 (some .int) rm_X1_mostAbove G [.inr (k, 17)] ((setS M k) d) (avI r) ((setS M k) d) :=
  mt_of (mem := (setS M k)) (po := poP avI ((setS M k) d)) (x0 := d) (t := r) rfl hG [.inr (k, 17)] (Nat.le_of_ble_eq_true rfl) rfl (fun C hC => r_Qu_mostAbove hC hk hk2 d) h
-- FrameHeirs$Questions.placeAbove(LFrameHeirs$Deeds;III)I
abbrev rm_X1_placeAbove : Room := { frames := 1, cells := 0, slots := 0, locals := 22 }
theorem dX1_placeAbove_0 : decode cX1_placeAbove 0 = .ok (.aload_n 0, 1) := by decide +kernel
theorem dX1_placeAbove_1 : decode cX1_placeAbove 1 = .ok (.iload_n 1, 1) := by decide +kernel
theorem dX1_placeAbove_2 : decode cX1_placeAbove 2 = .ok (.iload_n 2, 1) := by decide +kernel
theorem dX1_placeAbove_3 : decode cX1_placeAbove 3 = .ok (.invokevirtual 70, 3) := by decide +kernel
theorem dX1_placeAbove_6 : decode cX1_placeAbove 6 = .ok (.istore 4, 2) := by decide +kernel
theorem dX1_placeAbove_8 : decode cX1_placeAbove 8 = .ok (.iload 4, 2) := by decide +kernel
theorem dX1_placeAbove_10 : decode cX1_placeAbove 10 = .ok (.ifCond .ge 6, 3) := by decide +kernel
theorem dX1_placeAbove_13 : decode cX1_placeAbove 13 = .ok (.bipush (-2), 2) := by decide +kernel
theorem dX1_placeAbove_15 : decode cX1_placeAbove 15 = .ok (.ireturn, 1) := by decide +kernel
theorem dX1_placeAbove_16 : decode cX1_placeAbove 16 = .ok (.aload_n 0, 1) := by decide +kernel
theorem dX1_placeAbove_17 : decode cX1_placeAbove 17 = .ok (.iload 4, 2) := by decide +kernel
theorem dX1_placeAbove_19 : decode cX1_placeAbove 19 = .ok (.iload_n 2, 1) := by decide +kernel
theorem dX1_placeAbove_20 : decode cX1_placeAbove 20 = .ok (.invokestatic 9, 3) := by decide +kernel
theorem dX1_placeAbove_23 : decode cX1_placeAbove 23 = .ok (.istore 5, 2) := by decide +kernel
theorem dX1_placeAbove_25 : decode cX1_placeAbove 25 = .ok (.iconst 0, 1) := by decide +kernel
theorem dX1_placeAbove_26 : decode cX1_placeAbove 26 = .ok (.istore 6, 2) := by decide +kernel
theorem dX1_placeAbove_28 : decode cX1_placeAbove 28 = .ok (.iload 6, 2) := by decide +kernel
theorem dX1_placeAbove_30 : decode cX1_placeAbove 30 = .ok (.iload_n 3, 1) := by decide +kernel
theorem dX1_placeAbove_31 : decode cX1_placeAbove 31 = .ok (.if_icmp .ge 31, 3) := by decide +kernel
theorem dX1_placeAbove_34 : decode cX1_placeAbove 34 = .ok (.iload 6, 2) := by decide +kernel
theorem dX1_placeAbove_36 : decode cX1_placeAbove 36 = .ok (.sipush 192, 3) := by decide +kernel
theorem dX1_placeAbove_39 : decode cX1_placeAbove 39 = .ok (.if_icmp .ge 23, 3) := by decide +kernel
theorem dX1_placeAbove_42 : decode cX1_placeAbove 42 = .ok (.iload 4, 2) := by decide +kernel
theorem dX1_placeAbove_44 : decode cX1_placeAbove 44 = .ok (.ifCond .lt 18, 3) := by decide +kernel
theorem dX1_placeAbove_47 : decode cX1_placeAbove 47 = .ok (.aload_n 0, 1) := by decide +kernel
theorem dX1_placeAbove_48 : decode cX1_placeAbove 48 = .ok (.getfield 44, 3) := by decide +kernel
theorem dX1_placeAbove_51 : decode cX1_placeAbove 51 = .ok (.iload 4, 2) := by decide +kernel
theorem dX1_placeAbove_53 : decode cX1_placeAbove 53 = .ok (.iaload, 1) := by decide +kernel
theorem dX1_placeAbove_54 : decode cX1_placeAbove 54 = .ok (.istore 4, 2) := by decide +kernel
theorem dX1_placeAbove_56 : decode cX1_placeAbove 56 = .ok (.iinc 6 1, 3) := by decide +kernel
theorem dX1_placeAbove_59 : decode cX1_placeAbove 59 = .ok (.goto (-31), 3) := by decide +kernel
theorem dX1_placeAbove_62 : decode cX1_placeAbove 62 = .ok (.iload 4, 2) := by decide +kernel
theorem dX1_placeAbove_64 : decode cX1_placeAbove 64 = .ok (.ifCond .ge 6, 3) := by decide +kernel
theorem dX1_placeAbove_67 : decode cX1_placeAbove 67 = .ok (.bipush (-2), 2) := by decide +kernel
theorem dX1_placeAbove_69 : decode cX1_placeAbove 69 = .ok (.ireturn, 1) := by decide +kernel
theorem dX1_placeAbove_70 : decode cX1_placeAbove 70 = .ok (.bipush 32, 2) := by decide +kernel
theorem dX1_placeAbove_72 : decode cX1_placeAbove 72 = .ok (.aload_n 0, 1) := by decide +kernel
theorem dX1_placeAbove_73 : decode cX1_placeAbove 73 = .ok (.getfield 73, 3) := by decide +kernel
theorem dX1_placeAbove_76 : decode cX1_placeAbove 76 = .ok (.iload 4, 2) := by decide +kernel
theorem dX1_placeAbove_78 : decode cX1_placeAbove 78 = .ok (.iaload, 1) := by decide +kernel
theorem dX1_placeAbove_79 : decode cX1_placeAbove 79 = .ok (.imul, 1) := by decide +kernel
theorem dX1_placeAbove_80 : decode cX1_placeAbove 80 = .ok (.aload_n 0, 1) := by decide +kernel
theorem dX1_placeAbove_81 : decode cX1_placeAbove 81 = .ok (.getfield 24, 3) := by decide +kernel
theorem dX1_placeAbove_84 : decode cX1_placeAbove 84 = .ok (.iload 4, 2) := by decide +kernel
theorem dX1_placeAbove_86 : decode cX1_placeAbove 86 = .ok (.iaload, 1) := by decide +kernel
theorem dX1_placeAbove_87 : decode cX1_placeAbove 87 = .ok (.iadd, 1) := by decide +kernel
theorem dX1_placeAbove_88 : decode cX1_placeAbove 88 = .ok (.iload 5, 2) := by decide +kernel
theorem dX1_placeAbove_90 : decode cX1_placeAbove 90 = .ok (.iadd, 1) := by decide +kernel
theorem dX1_placeAbove_91 : decode cX1_placeAbove 91 = .ok (.aload_n 0, 1) := by decide +kernel
theorem dX1_placeAbove_92 : decode cX1_placeAbove 92 = .ok (.getfield 41, 3) := by decide +kernel
theorem dX1_placeAbove_95 : decode cX1_placeAbove 95 = .ok (.iload 4, 2) := by decide +kernel
theorem dX1_placeAbove_97 : decode cX1_placeAbove 97 = .ok (.iaload, 1) := by decide +kernel
theorem dX1_placeAbove_98 : decode cX1_placeAbove 98 = .ok (.isub, 1) := by decide +kernel
theorem dX1_placeAbove_99 : decode cX1_placeAbove 99 = .ok (.ireturn, 1) := by decide +kernel
def Qu_placeAbove_62 (d : Sl) (v4 : Int32) (v5 : Int32) : Option Int32 :=
  if 0 ≤ v4 then
    (if inb v4 192 then
    if inb v4 192 then
    if inb v4 192 then
    some (((((32 : Int32) * (d 18 (ix v4))) + (d 19 (ix v4))) + v5) - (d 20 (ix v4)))
    else none
    else none
    else none)
  else
    (some (-2 : Int32))
def Qu_placeAbove_28 (d : Sl) : Nat → Int32 → Int32 → Int32 → Int32 → Option Int32
  | 0, _, _, _, _ => none
  | n + 1, v3, v4, v5, v6 =>
    if v3 ≤ v6 then
      (Qu_placeAbove_62 d v4 v5)
    else
      (if (192 : Int32) ≤ v6 then
        (Qu_placeAbove_62 d v4 v5)
      else
        (if v4 < 0 then
          (Qu_placeAbove_62 d v4 v5)
        else
          (if inb v4 192 then
          bnd (d 23 (ix v4)) fun v4_1 =>
          bnd (v6 + (1 : Int32)) fun v6_2 =>
          Qu_placeAbove_28 d n v3 v4_1 v5 v6_2
          else none)))
def Qu_placeAbove (d : Sl) (a1 : Int32) (a2 : Int32) (a3 : Int32) : Option Int32 :=
  bp (De_find d a1 a2) fun r3 =>
  bnd r3 fun v4_4 =>
  if 0 ≤ v4_4 then
    (bp (Qu_frameAt d v4_4 a2) fun r5 =>
    bnd r5 fun v5_6 =>
    bnd (0 : Int32) fun v6_7 =>
    Qu_placeAbove_28 d FU a3 v4_4 v5_6 v6_7)
  else
    (some (-2 : Int32))
theorem y_X1_placeAbove : YS yX1_placeAbove cX1_placeAbove 7 (some .int) 4 := ⟨q923, trivial, q924, q152, by decide +kernel, by decide +kernel, by decide +kernel, by decide +kernel⟩
theorem r_Qu_placeAbove_62 {C : Cxt} {G : Geo} {M : Mem} {k : Nat} {d : Sl} (hC : Cx C cX1_placeAbove 7 "FrameHeirs$Questions" (some .int) rm_X1_placeAbove G) (hk : LWd G k) (hk2 : 2 ≤ k) (v4 : Int32) (v5 : Int32) : Rz C 7 G (setS M k) (poP avI ((setS M k) d)) 62 [(0, .inr (k, 17)), (4, .inl (.int v4)), (5, .inl (.int v5))] [] d (Qu_placeAbove_62 d v4 v5) := by
  unfold Qu_placeAbove_62
  refine z_iload (pc := 62) hC 4 1 rfl dX1_placeAbove_62 ?_
  refine z_if_ge (pc := 64) hC 70 rfl dX1_placeAbove_64 ?_ ?_
  · refine z_bipush (pc := 70) hC (32 : Int32) rfl dX1_placeAbove_70 ?_
    refine z_aload_n (pc := 72) hC 0 rfl 0 rfl dX1_placeAbove_72 ?_
    refine z_getc (pc := 73) hC (hk 17 rfl) f_17_0 q294 dX1_placeAbove_73 ?_
    refine z_iload (pc := 76) hC 4 1 rfl dX1_placeAbove_76 ?_
    refine zs_iald (pc := 78) hC (hk 18 rfl) rfl dX1_placeAbove_78 ?_
    refine z_imul (pc := 79) hC dX1_placeAbove_79 ?_
    refine z_aload_n (pc := 80) hC 0 rfl 0 rfl dX1_placeAbove_80 ?_
    refine z_getc (pc := 81) hC (hk 17 rfl) f_17_1 q296 dX1_placeAbove_81 ?_
    refine z_iload (pc := 84) hC 4 1 rfl dX1_placeAbove_84 ?_
    refine zs_iald (pc := 86) hC (hk 19 rfl) rfl dX1_placeAbove_86 ?_
    refine z_iadd (pc := 87) hC dX1_placeAbove_87 ?_
    refine z_iload (pc := 88) hC 5 2 rfl dX1_placeAbove_88 ?_
    refine z_iadd (pc := 90) hC dX1_placeAbove_90 ?_
    refine z_aload_n (pc := 91) hC 0 rfl 0 rfl dX1_placeAbove_91 ?_
    refine z_getc (pc := 92) hC (hk 17 rfl) f_17_2 q300 dX1_placeAbove_92 ?_
    refine z_iload (pc := 95) hC 4 1 rfl dX1_placeAbove_95 ?_
    refine zs_iald (pc := 97) hC (hk 20 rfl) rfl dX1_placeAbove_97 ?_
    refine z_isub (pc := 98) hC dX1_placeAbove_98 ?_
    exact z_iret (pc := 99) hC rfl dX1_placeAbove_99
  · refine z_bipush (pc := 67) hC (-2 : Int32) rfl dX1_placeAbove_67 ?_
    exact z_iret (pc := 69) hC rfl dX1_placeAbove_69
theorem r_Qu_placeAbove_28 {C : Cxt} {G : Geo} {M : Mem} {k : Nat} {d : Sl} (hC : Cx C cX1_placeAbove 7 "FrameHeirs$Questions" (some .int) rm_X1_placeAbove G) (hk : LWd G k) (hk2 : 2 ≤ k) : ∀ (n : Nat) (v3 : Int32) (v4 : Int32) (v5 : Int32) (v6 : Int32), Rz C 7 G (setS M k) (poP avI ((setS M k) d)) 28 [(0, .inr (k, 17)), (3, .inl (.int v3)), (4, .inl (.int v4)), (5, .inl (.int v5)), (6, .inl (.int v6))] [] d (Qu_placeAbove_28 d n v3 v4 v5 v6) := by
  intro n
  induction n with
  | zero => intros; exact z_none
  | succ n ih =>
    intro v3 v4 v5 v6
    rw [Qu_placeAbove_28]
    refine z_iload (pc := 28) hC 6 4 rfl dX1_placeAbove_28 ?_
    refine z_iload_n (pc := 30) hC 3 rfl 1 rfl dX1_placeAbove_30 ?_
    refine z_icmp_ge (pc := 31) hC 62 rfl dX1_placeAbove_31 ?_ ?_
    · exact z_sub [0, 2, 3] rfl (r_Qu_placeAbove_62 hC hk hk2 v4 v5)
    · refine z_iload (pc := 34) hC 6 4 rfl dX1_placeAbove_34 ?_
      refine z_sipush (pc := 36) hC (192 : Int32) rfl dX1_placeAbove_36 ?_
      refine z_icmp_ge (pc := 39) hC 62 rfl dX1_placeAbove_39 ?_ ?_
      · exact z_sub [0, 2, 3] rfl (r_Qu_placeAbove_62 hC hk hk2 v4 v5)
      · refine z_iload (pc := 42) hC 4 2 rfl dX1_placeAbove_42 ?_
        refine z_if_lt (pc := 44) hC 62 rfl dX1_placeAbove_44 ?_ ?_
        · exact z_sub [0, 2, 3] rfl (r_Qu_placeAbove_62 hC hk hk2 v4 v5)
        · refine z_aload_n (pc := 47) hC 0 rfl 0 rfl dX1_placeAbove_47 ?_
          refine z_getc (pc := 48) hC (hk 17 rfl) f_17_5 q309 dX1_placeAbove_48 ?_
          refine z_iload (pc := 51) hC 4 2 rfl dX1_placeAbove_51 ?_
          refine zs_iald (pc := 53) hC (hk 23 rfl) rfl dX1_placeAbove_53 ?_
          refine z_istore (pc := 54) (ls1 := fun v => [(4, .inl (.int v)), (0, .inr (k, 17)), (3, .inl (.int v3)), (5, .inl (.int v5)), (6, .inl (.int v6))]) hC 4 (by decide) (fun v => rfl) dX1_placeAbove_54 (fun v4_1 => ?_)
          refine z_iinc (pc := 56) (ls1 := fun v => [(6, .inl (.int v)), (4, .inl (.int v4_1)), (0, .inr (k, 17)), (3, .inl (.int v3)), (5, .inl (.int v5))]) hC 6 4 (by decide) (1 : Int32) rfl rfl (fun v => rfl) dX1_placeAbove_56 (fun v6_2 => ?_)
          refine z_goto (pc := 59) hC 28 rfl dX1_placeAbove_59 ?_
          exact z_sub [2, 3, 1, 4, 0] rfl (ih v3 v4_1 v5 v6_2)
theorem r_Qu_placeAbove {C : Cxt} {G : Geo} {M : Mem} {k : Nat} (hC : Cx C cX1_placeAbove 7 "FrameHeirs$Questions" (some .int) rm_X1_placeAbove G) (hk : LWd G k) (hk2 : 2 ≤ k) (d : Sl) (a1 : Int32) (a2 : Int32) (a3 : Int32) : Rz C 7 G (setS M k) (poP avI ((setS M k) d)) 0 [(0, .inr (k, 17)), (1, .inl (.int a1)), (2, .inl (.int a2)), (3, .inl (.int a3))] [] d (Qu_placeAbove d a1 a2 a3) := by
  unfold Qu_placeAbove
  refine z_aload_n (pc := 0) hC 0 rfl 0 rfl dX1_placeAbove_0 ?_
  refine z_iload_n (pc := 1) hC 1 rfl 1 rfl dX1_placeAbove_1 ?_
  refine z_iload_n (pc := 2) hC 2 rfl 2 rfl dX1_placeAbove_2 ?_
  refine z_piV (pc := 3) (st := []) hC y_X0_find q840 [.inl (.int a1), .inl (.int a2)] rfl (hk 17 rfl) rfl rfl (c_X0_find hC.2.2.2.2.2.2.1 hk hk2) rfl ⟨rfl, rfl, (Nat.le_of_ble_eq_true rfl), (Nat.le_of_ble_eq_true rfl)⟩ (Nat.le_of_ble_eq_true rfl) dX1_placeAbove_3 (fun r3 => ?_)
  refine z_istore (pc := 6) (ls1 := fun v => [(4, .inl (.int v)), (0, .inr (k, 17)), (1, .inl (.int a1)), (2, .inl (.int a2)), (3, .inl (.int a3))]) hC 4 (by decide) (fun v => rfl) dX1_placeAbove_6 (fun v4_4 => ?_)
  refine z_iload (pc := 8) hC 4 0 rfl dX1_placeAbove_8 ?_
  refine z_if_ge (pc := 10) hC 16 rfl dX1_placeAbove_10 ?_ ?_
  · refine z_aload_n (pc := 16) hC 0 rfl 1 rfl dX1_placeAbove_16 ?_
    refine z_iload (pc := 17) hC 4 0 rfl dX1_placeAbove_17 ?_
    refine z_iload_n (pc := 19) hC 2 rfl 3 rfl dX1_placeAbove_19 ?_
    refine z_piS (pc := 20) (st := []) hC y_X1_frameAt q841 [.inr (k, 17), .inl (.int v4_4), .inl (.int a2)] rfl (c_X1_frameAt hC.2.2.2.2.2.2.1 hk hk2) rfl ⟨rfl, rfl, (Nat.le_of_ble_eq_true rfl), (Nat.le_of_ble_eq_true rfl)⟩ (Nat.le_of_ble_eq_true rfl) dX1_placeAbove_20 (fun r5 => ?_)
    refine z_istore (pc := 23) (ls1 := fun v => [(5, .inl (.int v)), (4, .inl (.int v4_4)), (0, .inr (k, 17)), (1, .inl (.int a1)), (2, .inl (.int a2)), (3, .inl (.int a3))]) hC 5 (by decide) (fun v => rfl) dX1_placeAbove_23 (fun v5_6 => ?_)
    refine z_iconst (pc := 25) hC (0 : Int32) rfl dX1_placeAbove_25 ?_
    refine z_istore (pc := 26) (ls1 := fun v => [(6, .inl (.int v)), (5, .inl (.int v5_6)), (4, .inl (.int v4_4)), (0, .inr (k, 17)), (1, .inl (.int a1)), (2, .inl (.int a2)), (3, .inl (.int a3))]) hC 6 (by decide) (fun v => rfl) dX1_placeAbove_26 (fun v6_7 => ?_)
    exact z_sub [3, 6, 2, 1, 0] rfl (r_Qu_placeAbove_28 hC hk hk2 FU a3 v4_4 v5_6 v6_7)
  · refine z_bipush (pc := 13) hC (-2 : Int32) rfl dX1_placeAbove_13 ?_
    exact z_iret (pc := 15) hC rfl dX1_placeAbove_15
theorem c_X1_placeAbove {G : Geo} {M : Mem} {k : Nat} (hG : GOk G) (hk : LWd G k) (hk2 : 2 ≤ k) {d : Sl} {a1 : Int32} {a2 : Int32} {a3 : Int32} (l : Launch) (r : Int32) (h : Qu_placeAbove d a1 a2 a3 = some r) : Mt l yX1_placeAbove cX1_placeAbove 7 (some .int) rm_X1_placeAbove G [.inr (k, 17), .inl (.int a1), .inl (.int a2), .inl (.int a3)] ((setS M k) d) (avI r) ((setS M k) d) :=
  mt_of (mem := (setS M k)) (po := poP avI ((setS M k) d)) (x0 := d) (t := r) rfl hG [.inr (k, 17), .inl (.int a1), .inl (.int a2), .inl (.int a3)] (Nat.le_of_ble_eq_true rfl) rfl (fun C hC => r_Qu_placeAbove hC hk hk2 d a1 a2 a3) h
-- FrameHeirs$Questions.placeOfHeir(LFrameHeirs$Deeds;III)I
abbrev rm_X1_placeOfHeir : Room := { frames := 1, cells := 0, slots := 0, locals := 22 }
theorem dX1_placeOfHeir_0 : decode cX1_placeOfHeir 0 = .ok (.aload_n 0, 1) := by decide +kernel
theorem dX1_placeOfHeir_1 : decode cX1_placeOfHeir 1 = .ok (.iload_n 1, 1) := by decide +kernel
theorem dX1_placeOfHeir_2 : decode cX1_placeOfHeir 2 = .ok (.iload_n 2, 1) := by decide +kernel
theorem dX1_placeOfHeir_3 : decode cX1_placeOfHeir 3 = .ok (.invokevirtual 70, 3) := by decide +kernel
theorem dX1_placeOfHeir_6 : decode cX1_placeOfHeir 6 = .ok (.istore 4, 2) := by decide +kernel
theorem dX1_placeOfHeir_8 : decode cX1_placeOfHeir 8 = .ok (.iload 4, 2) := by decide +kernel
theorem dX1_placeOfHeir_10 : decode cX1_placeOfHeir 10 = .ok (.ifCond .ge 6, 3) := by decide +kernel
theorem dX1_placeOfHeir_13 : decode cX1_placeOfHeir 13 = .ok (.bipush (-2), 2) := by decide +kernel
theorem dX1_placeOfHeir_15 : decode cX1_placeOfHeir 15 = .ok (.ireturn, 1) := by decide +kernel
theorem dX1_placeOfHeir_16 : decode cX1_placeOfHeir 16 = .ok (.aload_n 0, 1) := by decide +kernel
theorem dX1_placeOfHeir_17 : decode cX1_placeOfHeir 17 = .ok (.getfield 47, 3) := by decide +kernel
theorem dX1_placeOfHeir_20 : decode cX1_placeOfHeir 20 = .ok (.iload 4, 2) := by decide +kernel
theorem dX1_placeOfHeir_22 : decode cX1_placeOfHeir 22 = .ok (.iaload, 1) := by decide +kernel
theorem dX1_placeOfHeir_23 : decode cX1_placeOfHeir 23 = .ok (.istore 5, 2) := by decide +kernel
theorem dX1_placeOfHeir_25 : decode cX1_placeOfHeir 25 = .ok (.iconst 0, 1) := by decide +kernel
theorem dX1_placeOfHeir_26 : decode cX1_placeOfHeir 26 = .ok (.istore 6, 2) := by decide +kernel
theorem dX1_placeOfHeir_28 : decode cX1_placeOfHeir 28 = .ok (.iload 6, 2) := by decide +kernel
theorem dX1_placeOfHeir_30 : decode cX1_placeOfHeir 30 = .ok (.iload_n 3, 1) := by decide +kernel
theorem dX1_placeOfHeir_31 : decode cX1_placeOfHeir 31 = .ok (.if_icmp .ge 31, 3) := by decide +kernel
theorem dX1_placeOfHeir_34 : decode cX1_placeOfHeir 34 = .ok (.iload 6, 2) := by decide +kernel
theorem dX1_placeOfHeir_36 : decode cX1_placeOfHeir 36 = .ok (.sipush 192, 3) := by decide +kernel
theorem dX1_placeOfHeir_39 : decode cX1_placeOfHeir 39 = .ok (.if_icmp .ge 23, 3) := by decide +kernel
theorem dX1_placeOfHeir_42 : decode cX1_placeOfHeir 42 = .ok (.iload 5, 2) := by decide +kernel
theorem dX1_placeOfHeir_44 : decode cX1_placeOfHeir 44 = .ok (.ifCond .lt 18, 3) := by decide +kernel
theorem dX1_placeOfHeir_47 : decode cX1_placeOfHeir 47 = .ok (.aload_n 0, 1) := by decide +kernel
theorem dX1_placeOfHeir_48 : decode cX1_placeOfHeir 48 = .ok (.getfield 50, 3) := by decide +kernel
theorem dX1_placeOfHeir_51 : decode cX1_placeOfHeir 51 = .ok (.iload 5, 2) := by decide +kernel
theorem dX1_placeOfHeir_53 : decode cX1_placeOfHeir 53 = .ok (.iaload, 1) := by decide +kernel
theorem dX1_placeOfHeir_54 : decode cX1_placeOfHeir 54 = .ok (.istore 5, 2) := by decide +kernel
theorem dX1_placeOfHeir_56 : decode cX1_placeOfHeir 56 = .ok (.iinc 6 1, 3) := by decide +kernel
theorem dX1_placeOfHeir_59 : decode cX1_placeOfHeir 59 = .ok (.goto (-31), 3) := by decide +kernel
theorem dX1_placeOfHeir_62 : decode cX1_placeOfHeir 62 = .ok (.iload 5, 2) := by decide +kernel
theorem dX1_placeOfHeir_64 : decode cX1_placeOfHeir 64 = .ok (.ifCond .ge 8, 3) := by decide +kernel
theorem dX1_placeOfHeir_67 : decode cX1_placeOfHeir 67 = .ok (.bipush (-2), 2) := by decide +kernel
theorem dX1_placeOfHeir_69 : decode cX1_placeOfHeir 69 = .ok (.goto 21, 3) := by decide +kernel
theorem dX1_placeOfHeir_72 : decode cX1_placeOfHeir 72 = .ok (.bipush 32, 2) := by decide +kernel
theorem dX1_placeOfHeir_74 : decode cX1_placeOfHeir 74 = .ok (.aload_n 0, 1) := by decide +kernel
theorem dX1_placeOfHeir_75 : decode cX1_placeOfHeir 75 = .ok (.getfield 73, 3) := by decide +kernel
theorem dX1_placeOfHeir_78 : decode cX1_placeOfHeir 78 = .ok (.iload 5, 2) := by decide +kernel
theorem dX1_placeOfHeir_80 : decode cX1_placeOfHeir 80 = .ok (.iaload, 1) := by decide +kernel
theorem dX1_placeOfHeir_81 : decode cX1_placeOfHeir 81 = .ok (.imul, 1) := by decide +kernel
theorem dX1_placeOfHeir_82 : decode cX1_placeOfHeir 82 = .ok (.aload_n 0, 1) := by decide +kernel
theorem dX1_placeOfHeir_83 : decode cX1_placeOfHeir 83 = .ok (.getfield 24, 3) := by decide +kernel
theorem dX1_placeOfHeir_86 : decode cX1_placeOfHeir 86 = .ok (.iload 5, 2) := by decide +kernel
theorem dX1_placeOfHeir_88 : decode cX1_placeOfHeir 88 = .ok (.iaload, 1) := by decide +kernel
theorem dX1_placeOfHeir_89 : decode cX1_placeOfHeir 89 = .ok (.iadd, 1) := by decide +kernel
theorem dX1_placeOfHeir_90 : decode cX1_placeOfHeir 90 = .ok (.ireturn, 1) := by decide +kernel
def Qu_placeOfHeir_62 (d : Sl) (v5 : Int32) : Option Int32 :=
  if 0 ≤ v5 then
    (if inb v5 192 then
    if inb v5 192 then
    some (((32 : Int32) * (d 18 (ix v5))) + (d 19 (ix v5)))
    else none
    else none)
  else
    (some (-2 : Int32))
def Qu_placeOfHeir_28 (d : Sl) : Nat → Int32 → Int32 → Int32 → Option Int32
  | 0, _, _, _ => none
  | n + 1, v3, v5, v6 =>
    if v3 ≤ v6 then
      (Qu_placeOfHeir_62 d v5)
    else
      (if (192 : Int32) ≤ v6 then
        (Qu_placeOfHeir_62 d v5)
      else
        (if v5 < 0 then
          (Qu_placeOfHeir_62 d v5)
        else
          (if inb v5 192 then
          bnd (d 26 (ix v5)) fun v5_1 =>
          bnd (v6 + (1 : Int32)) fun v6_2 =>
          Qu_placeOfHeir_28 d n v3 v5_1 v6_2
          else none)))
def Qu_placeOfHeir (d : Sl) (a1 : Int32) (a2 : Int32) (a3 : Int32) : Option Int32 :=
  bp (De_find d a1 a2) fun r3 =>
  bnd r3 fun v4_4 =>
  if 0 ≤ v4_4 then
    (if inb v4_4 192 then
    bnd (d 24 (ix v4_4)) fun v5_5 =>
    bnd (0 : Int32) fun v6_6 =>
    Qu_placeOfHeir_28 d FU a3 v5_5 v6_6
    else none)
  else
    (some (-2 : Int32))
theorem y_X1_placeOfHeir : YS yX1_placeOfHeir cX1_placeOfHeir 7 (some .int) 4 := ⟨q930, trivial, q931, q152, by decide +kernel, by decide +kernel, by decide +kernel, by decide +kernel⟩
theorem r_Qu_placeOfHeir_62 {C : Cxt} {G : Geo} {M : Mem} {k : Nat} {d : Sl} (hC : Cx C cX1_placeOfHeir 7 "FrameHeirs$Questions" (some .int) rm_X1_placeOfHeir G) (hk : LWd G k) (hk2 : 2 ≤ k) (v5 : Int32) : Rz C 7 G (setS M k) (poP avI ((setS M k) d)) 62 [(0, .inr (k, 17)), (5, .inl (.int v5))] [] d (Qu_placeOfHeir_62 d v5) := by
  unfold Qu_placeOfHeir_62
  refine z_iload (pc := 62) hC 5 1 rfl dX1_placeOfHeir_62 ?_
  refine z_if_ge (pc := 64) hC 72 rfl dX1_placeOfHeir_64 ?_ ?_
  · refine z_bipush (pc := 72) hC (32 : Int32) rfl dX1_placeOfHeir_72 ?_
    refine z_aload_n (pc := 74) hC 0 rfl 0 rfl dX1_placeOfHeir_74 ?_
    refine z_getc (pc := 75) hC (hk 17 rfl) f_17_0 q294 dX1_placeOfHeir_75 ?_
    refine z_iload (pc := 78) hC 5 1 rfl dX1_placeOfHeir_78 ?_
    refine zs_iald (pc := 80) hC (hk 18 rfl) rfl dX1_placeOfHeir_80 ?_
    refine z_imul (pc := 81) hC dX1_placeOfHeir_81 ?_
    refine z_aload_n (pc := 82) hC 0 rfl 0 rfl dX1_placeOfHeir_82 ?_
    refine z_getc (pc := 83) hC (hk 17 rfl) f_17_1 q296 dX1_placeOfHeir_83 ?_
    refine z_iload (pc := 86) hC 5 1 rfl dX1_placeOfHeir_86 ?_
    refine zs_iald (pc := 88) hC (hk 19 rfl) rfl dX1_placeOfHeir_88 ?_
    refine z_iadd (pc := 89) hC dX1_placeOfHeir_89 ?_
    exact z_iret (pc := 90) hC rfl dX1_placeOfHeir_90
  · refine z_bipush (pc := 67) hC (-2 : Int32) rfl dX1_placeOfHeir_67 ?_
    refine z_goto (pc := 69) hC 90 rfl dX1_placeOfHeir_69 ?_
    exact z_iret (pc := 90) hC rfl dX1_placeOfHeir_90
theorem r_Qu_placeOfHeir_28 {C : Cxt} {G : Geo} {M : Mem} {k : Nat} {d : Sl} (hC : Cx C cX1_placeOfHeir 7 "FrameHeirs$Questions" (some .int) rm_X1_placeOfHeir G) (hk : LWd G k) (hk2 : 2 ≤ k) : ∀ (n : Nat) (v3 : Int32) (v5 : Int32) (v6 : Int32), Rz C 7 G (setS M k) (poP avI ((setS M k) d)) 28 [(0, .inr (k, 17)), (3, .inl (.int v3)), (5, .inl (.int v5)), (6, .inl (.int v6))] [] d (Qu_placeOfHeir_28 d n v3 v5 v6) := by
  intro n
  induction n with
  | zero => intros; exact z_none
  | succ n ih =>
    intro v3 v5 v6
    rw [Qu_placeOfHeir_28]
    refine z_iload (pc := 28) hC 6 3 rfl dX1_placeOfHeir_28 ?_
    refine z_iload_n (pc := 30) hC 3 rfl 1 rfl dX1_placeOfHeir_30 ?_
    refine z_icmp_ge (pc := 31) hC 62 rfl dX1_placeOfHeir_31 ?_ ?_
    · exact z_sub [0, 2] rfl (r_Qu_placeOfHeir_62 hC hk hk2 v5)
    · refine z_iload (pc := 34) hC 6 3 rfl dX1_placeOfHeir_34 ?_
      refine z_sipush (pc := 36) hC (192 : Int32) rfl dX1_placeOfHeir_36 ?_
      refine z_icmp_ge (pc := 39) hC 62 rfl dX1_placeOfHeir_39 ?_ ?_
      · exact z_sub [0, 2] rfl (r_Qu_placeOfHeir_62 hC hk hk2 v5)
      · refine z_iload (pc := 42) hC 5 2 rfl dX1_placeOfHeir_42 ?_
        refine z_if_lt (pc := 44) hC 62 rfl dX1_placeOfHeir_44 ?_ ?_
        · exact z_sub [0, 2] rfl (r_Qu_placeOfHeir_62 hC hk hk2 v5)
        · refine z_aload_n (pc := 47) hC 0 rfl 0 rfl dX1_placeOfHeir_47 ?_
          refine z_getc (pc := 48) hC (hk 17 rfl) f_17_8 q315 dX1_placeOfHeir_48 ?_
          refine z_iload (pc := 51) hC 5 2 rfl dX1_placeOfHeir_51 ?_
          refine zs_iald (pc := 53) hC (hk 26 rfl) rfl dX1_placeOfHeir_53 ?_
          refine z_istore (pc := 54) (ls1 := fun v => [(5, .inl (.int v)), (0, .inr (k, 17)), (3, .inl (.int v3)), (6, .inl (.int v6))]) hC 5 (by decide) (fun v => rfl) dX1_placeOfHeir_54 (fun v5_1 => ?_)
          refine z_iinc (pc := 56) (ls1 := fun v => [(6, .inl (.int v)), (5, .inl (.int v5_1)), (0, .inr (k, 17)), (3, .inl (.int v3))]) hC 6 3 (by decide) (1 : Int32) rfl rfl (fun v => rfl) dX1_placeOfHeir_56 (fun v6_2 => ?_)
          refine z_goto (pc := 59) hC 28 rfl dX1_placeOfHeir_59 ?_
          exact z_sub [2, 3, 1, 0] rfl (ih v3 v5_1 v6_2)
theorem r_Qu_placeOfHeir {C : Cxt} {G : Geo} {M : Mem} {k : Nat} (hC : Cx C cX1_placeOfHeir 7 "FrameHeirs$Questions" (some .int) rm_X1_placeOfHeir G) (hk : LWd G k) (hk2 : 2 ≤ k) (d : Sl) (a1 : Int32) (a2 : Int32) (a3 : Int32) : Rz C 7 G (setS M k) (poP avI ((setS M k) d)) 0 [(0, .inr (k, 17)), (1, .inl (.int a1)), (2, .inl (.int a2)), (3, .inl (.int a3))] [] d (Qu_placeOfHeir d a1 a2 a3) := by
  unfold Qu_placeOfHeir
  refine z_aload_n (pc := 0) hC 0 rfl 0 rfl dX1_placeOfHeir_0 ?_
  refine z_iload_n (pc := 1) hC 1 rfl 1 rfl dX1_placeOfHeir_1 ?_
  refine z_iload_n (pc := 2) hC 2 rfl 2 rfl dX1_placeOfHeir_2 ?_
  refine z_piV (pc := 3) (st := []) hC y_X0_find q840 [.inl (.int a1), .inl (.int a2)] rfl (hk 17 rfl) rfl rfl (c_X0_find hC.2.2.2.2.2.2.1 hk hk2) rfl ⟨rfl, rfl, (Nat.le_of_ble_eq_true rfl), (Nat.le_of_ble_eq_true rfl)⟩ (Nat.le_of_ble_eq_true rfl) dX1_placeOfHeir_3 (fun r3 => ?_)
  refine z_istore (pc := 6) (ls1 := fun v => [(4, .inl (.int v)), (0, .inr (k, 17)), (1, .inl (.int a1)), (2, .inl (.int a2)), (3, .inl (.int a3))]) hC 4 (by decide) (fun v => rfl) dX1_placeOfHeir_6 (fun v4_4 => ?_)
  refine z_iload (pc := 8) hC 4 0 rfl dX1_placeOfHeir_8 ?_
  refine z_if_ge (pc := 10) hC 16 rfl dX1_placeOfHeir_10 ?_ ?_
  · refine z_aload_n (pc := 16) hC 0 rfl 1 rfl dX1_placeOfHeir_16 ?_
    refine z_getc (pc := 17) hC (hk 17 rfl) f_17_6 q312 dX1_placeOfHeir_17 ?_
    refine z_iload (pc := 20) hC 4 0 rfl dX1_placeOfHeir_20 ?_
    refine zs_iald (pc := 22) hC (hk 24 rfl) rfl dX1_placeOfHeir_22 ?_
    refine z_istore (pc := 23) (ls1 := fun v => [(5, .inl (.int v)), (4, .inl (.int v4_4)), (0, .inr (k, 17)), (1, .inl (.int a1)), (2, .inl (.int a2)), (3, .inl (.int a3))]) hC 5 (by decide) (fun v => rfl) dX1_placeOfHeir_23 (fun v5_5 => ?_)
    refine z_iconst (pc := 25) hC (0 : Int32) rfl dX1_placeOfHeir_25 ?_
    refine z_istore (pc := 26) (ls1 := fun v => [(6, .inl (.int v)), (5, .inl (.int v5_5)), (4, .inl (.int v4_4)), (0, .inr (k, 17)), (1, .inl (.int a1)), (2, .inl (.int a2)), (3, .inl (.int a3))]) hC 6 (by decide) (fun v => rfl) dX1_placeOfHeir_26 (fun v6_6 => ?_)
    exact z_sub [3, 6, 1, 0] rfl (r_Qu_placeOfHeir_28 hC hk hk2 FU a3 v5_5 v6_6)
  · refine z_bipush (pc := 13) hC (-2 : Int32) rfl dX1_placeOfHeir_13 ?_
    exact z_iret (pc := 15) hC rfl dX1_placeOfHeir_15
theorem c_X1_placeOfHeir {G : Geo} {M : Mem} {k : Nat} (hG : GOk G) (hk : LWd G k) (hk2 : 2 ≤ k) {d : Sl} {a1 : Int32} {a2 : Int32} {a3 : Int32} (l : Launch) (r : Int32) (h : Qu_placeOfHeir d a1 a2 a3 = some r) : Mt l yX1_placeOfHeir cX1_placeOfHeir 7 (some .int) rm_X1_placeOfHeir G [.inr (k, 17), .inl (.int a1), .inl (.int a2), .inl (.int a3)] ((setS M k) d) (avI r) ((setS M k) d) :=
  mt_of (mem := (setS M k)) (po := poP avI ((setS M k) d)) (x0 := d) (t := r) rfl hG [.inr (k, 17), .inl (.int a1), .inl (.int a2), .inl (.int a3)] (Nat.le_of_ble_eq_true rfl) rfl (fun C hC => r_Qu_placeOfHeir hC hk hk2 d a1 a2 a3) h
-- FrameHeirs$Questions.framesIn(LFrameHeirs$Deeds;I)I
abbrev rm_X1_framesIn : Room := { frames := 0, cells := 0, slots := 0, locals := 0 }
theorem dX1_framesIn_0 : decode cX1_framesIn 0 = .ok (.iconst 1, 1) := by decide +kernel
theorem dX1_framesIn_1 : decode cX1_framesIn 1 = .ok (.iconst 1, 1) := by decide +kernel
theorem dX1_framesIn_2 : decode cX1_framesIn 2 = .ok (.aload_n 0, 1) := by decide +kernel
theorem dX1_framesIn_3 : decode cX1_framesIn 3 = .ok (.getfield 21, 3) := by decide +kernel
theorem dX1_framesIn_6 : decode cX1_framesIn 6 = .ok (.iload_n 1, 1) := by decide +kernel
theorem dX1_framesIn_7 : decode cX1_framesIn 7 = .ok (.iaload, 1) := by decide +kernel
theorem dX1_framesIn_8 : decode cX1_framesIn 8 = .ok (.ishl, 1) := by decide +kernel
theorem dX1_framesIn_9 : decode cX1_framesIn 9 = .ok (.ishl, 1) := by decide +kernel
theorem dX1_framesIn_10 : decode cX1_framesIn 10 = .ok (.iconst 1, 1) := by decide +kernel
theorem dX1_framesIn_11 : decode cX1_framesIn 11 = .ok (.isub, 1) := by decide +kernel
theorem dX1_framesIn_12 : decode cX1_framesIn 12 = .ok (.aload_n 0, 1) := by decide +kernel
theorem dX1_framesIn_13 : decode cX1_framesIn 13 = .ok (.getfield 41, 3) := by decide +kernel
theorem dX1_framesIn_16 : decode cX1_framesIn 16 = .ok (.iload_n 1, 1) := by decide +kernel
theorem dX1_framesIn_17 : decode cX1_framesIn 17 = .ok (.iaload, 1) := by decide +kernel
theorem dX1_framesIn_18 : decode cX1_framesIn 18 = .ok (.ishl, 1) := by decide +kernel
theorem dX1_framesIn_19 : decode cX1_framesIn 19 = .ok (.ireturn, 1) := by decide +kernel
def Qu_framesIn (d : Sl) (a1 : Int32) : Option Int32 :=
  if inb a1 192 then
  if inb a1 192 then
  some ((((1 : Int32) <<< (((1 : Int32) <<< ((d 21 (ix a1)) &&& 31)) &&& 31)) - (1 : Int32)) <<< ((d 20 (ix a1)) &&& 31))
  else none
  else none
theorem y_X1_framesIn : YS yX1_framesIn cX1_framesIn 2 (some .int) 2 := ⟨q945, trivial, q946, q152, by decide +kernel, by decide +kernel, by decide +kernel, by decide +kernel⟩
theorem r_Qu_framesIn {C : Cxt} {G : Geo} {M : Mem} {k : Nat} (hC : Cx C cX1_framesIn 2 "FrameHeirs$Questions" (some .int) rm_X1_framesIn G) (hk : LWd G k) (hk2 : 2 ≤ k) (d : Sl) (a1 : Int32) : Rz C 2 G (setS M k) (poP avI ((setS M k) d)) 0 [(0, .inr (k, 17)), (1, .inl (.int a1))] [] d (Qu_framesIn d a1) := by
  unfold Qu_framesIn
  refine z_iconst (pc := 0) hC (1 : Int32) rfl dX1_framesIn_0 ?_
  refine z_iconst (pc := 1) hC (1 : Int32) rfl dX1_framesIn_1 ?_
  refine z_aload_n (pc := 2) hC 0 rfl 0 rfl dX1_framesIn_2 ?_
  refine z_getc (pc := 3) hC (hk 17 rfl) f_17_3 q303 dX1_framesIn_3 ?_
  refine z_iload_n (pc := 6) hC 1 rfl 1 rfl dX1_framesIn_6 ?_
  refine zs_iald (pc := 7) hC (hk 21 rfl) rfl dX1_framesIn_7 ?_
  refine z_ishl (pc := 8) hC dX1_framesIn_8 ?_
  refine z_ishl (pc := 9) hC dX1_framesIn_9 ?_
  refine z_iconst (pc := 10) hC (1 : Int32) rfl dX1_framesIn_10 ?_
  refine z_isub (pc := 11) hC dX1_framesIn_11 ?_
  refine z_aload_n (pc := 12) hC 0 rfl 0 rfl dX1_framesIn_12 ?_
  refine z_getc (pc := 13) hC (hk 17 rfl) f_17_2 q300 dX1_framesIn_13 ?_
  refine z_iload_n (pc := 16) hC 1 rfl 1 rfl dX1_framesIn_16 ?_
  refine zs_iald (pc := 17) hC (hk 20 rfl) rfl dX1_framesIn_17 ?_
  refine z_ishl (pc := 18) hC dX1_framesIn_18 ?_
  exact z_iret (pc := 19) hC rfl dX1_framesIn_19
theorem c_X1_framesIn {G : Geo} {M : Mem} {k : Nat} (hG : GOk G) (hk : LWd G k) (hk2 : 2 ≤ k) {d : Sl} {a1 : Int32} (l : Launch) (r : Int32) (h : Qu_framesIn d a1 = some r) : Mt l yX1_framesIn cX1_framesIn 2 (some .int) rm_X1_framesIn G [.inr (k, 17), .inl (.int a1)] ((setS M k) d) (avI r) ((setS M k) d) :=
  mt_of (mem := (setS M k)) (po := poP avI ((setS M k) d)) (x0 := d) (t := r) rfl hG [.inr (k, 17), .inl (.int a1)] (Nat.le_of_ble_eq_true rfl) rfl (fun C hC => r_Qu_framesIn hC hk hk2 d a1) h
-- FrameHeirs$Questions.framesOf(LFrameHeirs$Deeds;I)I
abbrev rm_X1_framesOf : Room := { frames := 1, cells := 0, slots := 0, locals := 22 }
theorem dX1_framesOf_0 : decode cX1_framesOf 0 = .ok (.iconst 0, 1) := by decide +kernel
theorem dX1_framesOf_1 : decode cX1_framesOf 1 = .ok (.istore_n 2, 1) := by decide +kernel
theorem dX1_framesOf_2 : decode cX1_framesOf 2 = .ok (.iconst 0, 1) := by decide +kernel
theorem dX1_framesOf_3 : decode cX1_framesOf 3 = .ok (.istore_n 3, 1) := by decide +kernel
theorem dX1_framesOf_4 : decode cX1_framesOf 4 = .ok (.iload_n 3, 1) := by decide +kernel
theorem dX1_framesOf_5 : decode cX1_framesOf 5 = .ok (.bipush 32, 2) := by decide +kernel
theorem dX1_framesOf_7 : decode cX1_framesOf 7 = .ok (.if_icmp .ge 34, 3) := by decide +kernel
theorem dX1_framesOf_10 : decode cX1_framesOf 10 = .ok (.aload_n 0, 1) := by decide +kernel
theorem dX1_framesOf_11 : decode cX1_framesOf 11 = .ok (.iload_n 1, 1) := by decide +kernel
theorem dX1_framesOf_12 : decode cX1_framesOf 12 = .ok (.iload_n 3, 1) := by decide +kernel
theorem dX1_framesOf_13 : decode cX1_framesOf 13 = .ok (.invokevirtual 70, 3) := by decide +kernel
theorem dX1_framesOf_16 : decode cX1_framesOf 16 = .ok (.istore 4, 2) := by decide +kernel
theorem dX1_framesOf_18 : decode cX1_framesOf 18 = .ok (.iload 4, 2) := by decide +kernel
theorem dX1_framesOf_20 : decode cX1_framesOf 20 = .ok (.ifCond .lt 15, 3) := by decide +kernel
theorem dX1_framesOf_23 : decode cX1_framesOf 23 = .ok (.iload_n 2, 1) := by decide +kernel
theorem dX1_framesOf_24 : decode cX1_framesOf 24 = .ok (.iconst 1, 1) := by decide +kernel
theorem dX1_framesOf_25 : decode cX1_framesOf 25 = .ok (.aload_n 0, 1) := by decide +kernel
theorem dX1_framesOf_26 : decode cX1_framesOf 26 = .ok (.iload 4, 2) := by decide +kernel
theorem dX1_framesOf_28 : decode cX1_framesOf 28 = .ok (.iload_n 3, 1) := by decide +kernel
theorem dX1_framesOf_29 : decode cX1_framesOf 29 = .ok (.invokestatic 9, 3) := by decide +kernel
theorem dX1_framesOf_32 : decode cX1_framesOf 32 = .ok (.ishl, 1) := by decide +kernel
theorem dX1_framesOf_33 : decode cX1_framesOf 33 = .ok (.ior, 1) := by decide +kernel
theorem dX1_framesOf_34 : decode cX1_framesOf 34 = .ok (.istore_n 2, 1) := by decide +kernel
theorem dX1_framesOf_35 : decode cX1_framesOf 35 = .ok (.iinc 3 1, 3) := by decide +kernel
theorem dX1_framesOf_38 : decode cX1_framesOf 38 = .ok (.goto (-34), 3) := by decide +kernel
theorem dX1_framesOf_41 : decode cX1_framesOf 41 = .ok (.iload_n 2, 1) := by decide +kernel
theorem dX1_framesOf_42 : decode cX1_framesOf 42 = .ok (.ireturn, 1) := by decide +kernel
def Qu_framesOf_35 (k4 : Int32 → Int32 → Int32 → Option Int32) (d : Sl) (v1 : Int32) (v2 : Int32) (v3 : Int32) : Option Int32 :=
  bnd (v3 + (1 : Int32)) fun v3_1 =>
  k4 v1 v2 v3_1
def Qu_framesOf_4 (d : Sl) : Nat → Int32 → Int32 → Int32 → Option Int32
  | 0, _, _, _ => none
  | n + 1, v1, v2, v3 =>
    if (32 : Int32) ≤ v3 then
      (some v2)
    else
      (bp (De_find d v1 v3) fun r2 =>
      bnd r2 fun v4_3 =>
      if v4_3 < 0 then
        (Qu_framesOf_35 (Qu_framesOf_4 d n) d v1 v2 v3)
      else
        (bp (Qu_frameAt d v4_3 v3) fun r4 =>
        bnd (v2 ||| ((1 : Int32) <<< (r4 &&& 31))) fun v2_5 =>
        Qu_framesOf_35 (Qu_framesOf_4 d n) d v1 v2_5 v3))
def Qu_framesOf (d : Sl) (a1 : Int32) : Option Int32 :=
  bnd (0 : Int32) fun v2_6 =>
  bnd (0 : Int32) fun v3_7 =>
  Qu_framesOf_4 d FU a1 v2_6 v3_7
theorem y_X1_framesOf : YS yX1_framesOf cX1_framesOf 5 (some .int) 2 := ⟨q838, trivial, q839, q152, by decide +kernel, by decide +kernel, by decide +kernel, by decide +kernel⟩
theorem r_Qu_framesOf_35 {C : Cxt} {G : Geo} {M : Mem} {k : Nat} {d : Sl} (hC : Cx C cX1_framesOf 5 "FrameHeirs$Questions" (some .int) rm_X1_framesOf G) (hk : LWd G k) (hk2 : 2 ≤ k) (k4 : Int32 → Int32 → Int32 → Option Int32) (h4 : ∀ (v1 : Int32) (v2 : Int32) (v3 : Int32), Rz C 5 G (setS M k) (poP avI ((setS M k) d)) 4 [(0, .inr (k, 17)), (1, .inl (.int v1)), (2, .inl (.int v2)), (3, .inl (.int v3))] [] d (k4 v1 v2 v3)) (v1 : Int32) (v2 : Int32) (v3 : Int32) : Rz C 5 G (setS M k) (poP avI ((setS M k) d)) 35 [(0, .inr (k, 17)), (1, .inl (.int v1)), (2, .inl (.int v2)), (3, .inl (.int v3))] [] d (Qu_framesOf_35 k4 d v1 v2 v3) := by
  unfold Qu_framesOf_35
  refine z_iinc (pc := 35) (ls1 := fun v => [(3, .inl (.int v)), (0, .inr (k, 17)), (1, .inl (.int v1)), (2, .inl (.int v2))]) hC 3 3 (by decide) (1 : Int32) rfl rfl (fun v => rfl) dX1_framesOf_35 (fun v3_1 => ?_)
  refine z_goto (pc := 38) hC 4 rfl dX1_framesOf_38 ?_
  exact z_sub [1, 2, 3, 0] rfl (h4 v1 v2 v3_1)
theorem r_Qu_framesOf_4 {C : Cxt} {G : Geo} {M : Mem} {k : Nat} {d : Sl} (hC : Cx C cX1_framesOf 5 "FrameHeirs$Questions" (some .int) rm_X1_framesOf G) (hk : LWd G k) (hk2 : 2 ≤ k) : ∀ (n : Nat) (v1 : Int32) (v2 : Int32) (v3 : Int32), Rz C 5 G (setS M k) (poP avI ((setS M k) d)) 4 [(0, .inr (k, 17)), (1, .inl (.int v1)), (2, .inl (.int v2)), (3, .inl (.int v3))] [] d (Qu_framesOf_4 d n v1 v2 v3) := by
  intro n
  induction n with
  | zero => intros; exact z_none
  | succ n ih =>
    intro v1 v2 v3
    rw [Qu_framesOf_4]
    refine z_iload_n (pc := 4) hC 3 rfl 3 rfl dX1_framesOf_4 ?_
    refine z_bipush (pc := 5) hC (32 : Int32) rfl dX1_framesOf_5 ?_
    refine z_icmp_ge (pc := 7) hC 41 rfl dX1_framesOf_7 ?_ ?_
    · refine z_iload_n (pc := 41) hC 2 rfl 2 rfl dX1_framesOf_41 ?_
      exact z_iret (pc := 42) hC rfl dX1_framesOf_42
    · refine z_aload_n (pc := 10) hC 0 rfl 0 rfl dX1_framesOf_10 ?_
      refine z_iload_n (pc := 11) hC 1 rfl 1 rfl dX1_framesOf_11 ?_
      refine z_iload_n (pc := 12) hC 3 rfl 3 rfl dX1_framesOf_12 ?_
      refine z_piV (pc := 13) (st := []) hC y_X0_find q840 [.inl (.int v1), .inl (.int v3)] rfl (hk 17 rfl) rfl rfl (c_X0_find hC.2.2.2.2.2.2.1 hk hk2) rfl ⟨rfl, rfl, (Nat.le_of_ble_eq_true rfl), (Nat.le_of_ble_eq_true rfl)⟩ (Nat.le_of_ble_eq_true rfl) dX1_framesOf_13 (fun r2 => ?_)
      refine z_istore (pc := 16) (ls1 := fun v => [(4, .inl (.int v)), (0, .inr (k, 17)), (1, .inl (.int v1)), (2, .inl (.int v2)), (3, .inl (.int v3))]) hC 4 (by decide) (fun v => rfl) dX1_framesOf_16 (fun v4_3 => ?_)
      refine z_iload (pc := 18) hC 4 0 rfl dX1_framesOf_18 ?_
      refine z_if_lt (pc := 20) hC 35 rfl dX1_framesOf_20 ?_ ?_
      · exact z_sub [1, 2, 3, 4] rfl (r_Qu_framesOf_35 hC hk hk2 _ ih v1 v2 v3)
      · refine z_iload_n (pc := 23) hC 2 rfl 3 rfl dX1_framesOf_23 ?_
        refine z_iconst (pc := 24) hC (1 : Int32) rfl dX1_framesOf_24 ?_
        refine z_aload_n (pc := 25) hC 0 rfl 1 rfl dX1_framesOf_25 ?_
        refine z_iload (pc := 26) hC 4 0 rfl dX1_framesOf_26 ?_
        refine z_iload_n (pc := 28) hC 3 rfl 4 rfl dX1_framesOf_28 ?_
        refine z_piS (pc := 29) (st := [.inl (.int (1 : Int32)), .inl (.int v2)]) hC y_X1_frameAt q841 [.inr (k, 17), .inl (.int v4_3), .inl (.int v3)] rfl (c_X1_frameAt hC.2.2.2.2.2.2.1 hk hk2) rfl ⟨rfl, rfl, (Nat.le_of_ble_eq_true rfl), (Nat.le_of_ble_eq_true rfl)⟩ (Nat.le_of_ble_eq_true rfl) dX1_framesOf_29 (fun r4 => ?_)
        refine z_ishl (pc := 32) hC dX1_framesOf_32 ?_
        refine z_ior (pc := 33) hC dX1_framesOf_33 ?_
        refine z_istore_n (pc := 34) (ls1 := fun v => [(2, .inl (.int v)), (4, .inl (.int v4_3)), (0, .inr (k, 17)), (1, .inl (.int v1)), (3, .inl (.int v3))]) hC 2 rfl (by decide) (fun v => rfl) dX1_framesOf_34 (fun v2_5 => ?_)
        exact z_sub [2, 3, 0, 4] rfl (r_Qu_framesOf_35 hC hk hk2 _ ih v1 v2_5 v3)
theorem r_Qu_framesOf {C : Cxt} {G : Geo} {M : Mem} {k : Nat} (hC : Cx C cX1_framesOf 5 "FrameHeirs$Questions" (some .int) rm_X1_framesOf G) (hk : LWd G k) (hk2 : 2 ≤ k) (d : Sl) (a1 : Int32) : Rz C 5 G (setS M k) (poP avI ((setS M k) d)) 0 [(0, .inr (k, 17)), (1, .inl (.int a1))] [] d (Qu_framesOf d a1) := by
  unfold Qu_framesOf
  refine z_iconst (pc := 0) hC (0 : Int32) rfl dX1_framesOf_0 ?_
  refine z_istore_n (pc := 1) (ls1 := fun v => [(2, .inl (.int v)), (0, .inr (k, 17)), (1, .inl (.int a1))]) hC 2 rfl (by decide) (fun v => rfl) dX1_framesOf_1 (fun v2_6 => ?_)
  refine z_iconst (pc := 2) hC (0 : Int32) rfl dX1_framesOf_2 ?_
  refine z_istore_n (pc := 3) (ls1 := fun v => [(3, .inl (.int v)), (2, .inl (.int v2_6)), (0, .inr (k, 17)), (1, .inl (.int a1))]) hC 3 rfl (by decide) (fun v => rfl) dX1_framesOf_3 (fun v3_7 => ?_)
  exact z_sub [2, 3, 1, 0] rfl (r_Qu_framesOf_4 hC hk hk2 FU a1 v2_6 v3_7)
theorem c_X1_framesOf {G : Geo} {M : Mem} {k : Nat} (hG : GOk G) (hk : LWd G k) (hk2 : 2 ≤ k) {d : Sl} {a1 : Int32} (l : Launch) (r : Int32) (h : Qu_framesOf d a1 = some r) : Mt l yX1_framesOf cX1_framesOf 5 (some .int) rm_X1_framesOf G [.inr (k, 17), .inl (.int a1)] ((setS M k) d) (avI r) ((setS M k) d) :=
  mt_of (mem := (setS M k)) (po := poP avI ((setS M k) d)) (x0 := d) (t := r) rfl hG [.inr (k, 17), .inl (.int a1)] (Nat.le_of_ble_eq_true rfl) rfl (fun C hC => r_Qu_framesOf hC hk hk2 d a1) h
-- FrameHeirs$Questions.holders(LFrameHeirs$Deeds;II)I
abbrev rm_X1_holders : Room := { frames := 1, cells := 0, slots := 0, locals := 21 }
theorem dX1_holders_0 : decode cX1_holders 0 = .ok (.iconst 0, 1) := by decide +kernel
theorem dX1_holders_1 : decode cX1_holders 1 = .ok (.istore_n 3, 1) := by decide +kernel
theorem dX1_holders_2 : decode cX1_holders 2 = .ok (.iconst 0, 1) := by decide +kernel
theorem dX1_holders_3 : decode cX1_holders 3 = .ok (.istore 4, 2) := by decide +kernel
theorem dX1_holders_5 : decode cX1_holders 5 = .ok (.iload 4, 2) := by decide +kernel
theorem dX1_holders_7 : decode cX1_holders 7 = .ok (.aload_n 0, 1) := by decide +kernel
theorem dX1_holders_8 : decode cX1_holders 8 = .ok (.getfield 60, 3) := by decide +kernel
theorem dX1_holders_11 : decode cX1_holders 11 = .ok (.if_icmp .ge 57, 3) := by decide +kernel
theorem dX1_holders_14 : decode cX1_holders 14 = .ok (.aload_n 0, 1) := by decide +kernel
theorem dX1_holders_15 : decode cX1_holders 15 = .ok (.getfield 21, 3) := by decide +kernel
theorem dX1_holders_18 : decode cX1_holders 18 = .ok (.iload 4, 2) := by decide +kernel
theorem dX1_holders_20 : decode cX1_holders 20 = .ok (.iaload, 1) := by decide +kernel
theorem dX1_holders_21 : decode cX1_holders 21 = .ok (.ifCond .lt 41, 3) := by decide +kernel
theorem dX1_holders_24 : decode cX1_holders 24 = .ok (.aload_n 0, 1) := by decide +kernel
theorem dX1_holders_25 : decode cX1_holders 25 = .ok (.getfield 15, 3) := by decide +kernel
theorem dX1_holders_28 : decode cX1_holders 28 = .ok (.iload 4, 2) := by decide +kernel
theorem dX1_holders_30 : decode cX1_holders 30 = .ok (.iaload, 1) := by decide +kernel
theorem dX1_holders_31 : decode cX1_holders 31 = .ok (.iload_n 2, 1) := by decide +kernel
theorem dX1_holders_32 : decode cX1_holders 32 = .ok (.iand, 1) := by decide +kernel
theorem dX1_holders_33 : decode cX1_holders 33 = .ok (.iload_n 2, 1) := by decide +kernel
theorem dX1_holders_34 : decode cX1_holders 34 = .ok (.if_icmp .ne 28, 3) := by decide +kernel
theorem dX1_holders_37 : decode cX1_holders 37 = .ok (.aload_n 0, 1) := by decide +kernel
theorem dX1_holders_38 : decode cX1_holders 38 = .ok (.iload 4, 2) := by decide +kernel
theorem dX1_holders_40 : decode cX1_holders 40 = .ok (.invokestatic 76, 3) := by decide +kernel
theorem dX1_holders_43 : decode cX1_holders 43 = .ok (.iload_n 1, 1) := by decide +kernel
theorem dX1_holders_44 : decode cX1_holders 44 = .ok (.ishr, 1) := by decide +kernel
theorem dX1_holders_45 : decode cX1_holders 45 = .ok (.iconst 1, 1) := by decide +kernel
theorem dX1_holders_46 : decode cX1_holders 46 = .ok (.iand, 1) := by decide +kernel
theorem dX1_holders_47 : decode cX1_holders 47 = .ok (.ifCond .eq 15, 3) := by decide +kernel
theorem dX1_holders_50 : decode cX1_holders 50 = .ok (.iload_n 3, 1) := by decide +kernel
theorem dX1_holders_51 : decode cX1_holders 51 = .ok (.iconst 1, 1) := by decide +kernel
theorem dX1_holders_52 : decode cX1_holders 52 = .ok (.aload_n 0, 1) := by decide +kernel
theorem dX1_holders_53 : decode cX1_holders 53 = .ok (.getfield 73, 3) := by decide +kernel
theorem dX1_holders_56 : decode cX1_holders 56 = .ok (.iload 4, 2) := by decide +kernel
theorem dX1_holders_58 : decode cX1_holders 58 = .ok (.iaload, 1) := by decide +kernel
theorem dX1_holders_59 : decode cX1_holders 59 = .ok (.ishl, 1) := by decide +kernel
theorem dX1_holders_60 : decode cX1_holders 60 = .ok (.ior, 1) := by decide +kernel
theorem dX1_holders_61 : decode cX1_holders 61 = .ok (.istore_n 3, 1) := by decide +kernel
theorem dX1_holders_62 : decode cX1_holders 62 = .ok (.iinc 4 1, 3) := by decide +kernel
theorem dX1_holders_65 : decode cX1_holders 65 = .ok (.goto (-60), 3) := by decide +kernel
theorem dX1_holders_68 : decode cX1_holders 68 = .ok (.iload_n 3, 1) := by decide +kernel
theorem dX1_holders_69 : decode cX1_holders 69 = .ok (.ireturn, 1) := by decide +kernel
def Qu_holders_62 (k5 : Int32 → Int32 → Int32 → Int32 → Option Int32) (d : Sl) (v1 : Int32) (v2 : Int32) (v3 : Int32) (v4 : Int32) : Option Int32 :=
  bnd (v4 + (1 : Int32)) fun v4_1 =>
  k5 v1 v2 v3 v4_1
def Qu_holders_5 (d : Sl) : Nat → Int32 → Int32 → Int32 → Int32 → Option Int32
  | 0, _, _, _, _ => none
  | n + 1, v1, v2, v3, v4 =>
    if (d 17 16) ≤ v4 then
      (some v3)
    else
      (if inb v4 192 then
      if (d 21 (ix v4)) < 0 then
        (Qu_holders_62 (Qu_holders_5 d n) d v1 v2 v3 v4)
      else
        (if inb v4 192 then
        if ((d 22 (ix v4)) &&& v2) = v2 then
          (bp (Qu_framesIn d v4) fun r2 =>
          if ((r2 >>> (v1 &&& 31)) &&& (1 : Int32)) = 0 then
            (Qu_holders_62 (Qu_holders_5 d n) d v1 v2 v3 v4)
          else
            (if inb v4 192 then
            bnd (v3 ||| ((1 : Int32) <<< ((d 18 (ix v4)) &&& 31))) fun v3_3 =>
            Qu_holders_62 (Qu_holders_5 d n) d v1 v2 v3_3 v4
            else none))
        else
          (Qu_holders_62 (Qu_holders_5 d n) d v1 v2 v3 v4)
        else none)
      else none)
def Qu_holders (d : Sl) (a1 : Int32) (a2 : Int32) : Option Int32 :=
  bnd (0 : Int32) fun v3_4 =>
  bnd (0 : Int32) fun v4_5 =>
  Qu_holders_5 d FU a1 a2 v3_4 v4_5
theorem y_X1_holders : YS yX1_holders cX1_holders 5 (some .int) 3 := ⟨q942, trivial, q943, q152, by decide +kernel, by decide +kernel, by decide +kernel, by decide +kernel⟩
theorem r_Qu_holders_62 {C : Cxt} {G : Geo} {M : Mem} {k : Nat} {d : Sl} (hC : Cx C cX1_holders 5 "FrameHeirs$Questions" (some .int) rm_X1_holders G) (hk : LWd G k) (hk2 : 2 ≤ k) (k5 : Int32 → Int32 → Int32 → Int32 → Option Int32) (h5 : ∀ (v1 : Int32) (v2 : Int32) (v3 : Int32) (v4 : Int32), Rz C 5 G (setS M k) (poP avI ((setS M k) d)) 5 [(0, .inr (k, 17)), (1, .inl (.int v1)), (2, .inl (.int v2)), (3, .inl (.int v3)), (4, .inl (.int v4))] [] d (k5 v1 v2 v3 v4)) (v1 : Int32) (v2 : Int32) (v3 : Int32) (v4 : Int32) : Rz C 5 G (setS M k) (poP avI ((setS M k) d)) 62 [(0, .inr (k, 17)), (1, .inl (.int v1)), (2, .inl (.int v2)), (3, .inl (.int v3)), (4, .inl (.int v4))] [] d (Qu_holders_62 k5 d v1 v2 v3 v4) := by
  unfold Qu_holders_62
  refine z_iinc (pc := 62) (ls1 := fun v => [(4, .inl (.int v)), (0, .inr (k, 17)), (1, .inl (.int v1)), (2, .inl (.int v2)), (3, .inl (.int v3))]) hC 4 4 (by decide) (1 : Int32) rfl rfl (fun v => rfl) dX1_holders_62 (fun v4_1 => ?_)
  refine z_goto (pc := 65) hC 5 rfl dX1_holders_65 ?_
  exact z_sub [1, 2, 3, 4, 0] rfl (h5 v1 v2 v3 v4_1)
theorem r_Qu_holders_5 {C : Cxt} {G : Geo} {M : Mem} {k : Nat} {d : Sl} (hC : Cx C cX1_holders 5 "FrameHeirs$Questions" (some .int) rm_X1_holders G) (hk : LWd G k) (hk2 : 2 ≤ k) : ∀ (n : Nat) (v1 : Int32) (v2 : Int32) (v3 : Int32) (v4 : Int32), Rz C 5 G (setS M k) (poP avI ((setS M k) d)) 5 [(0, .inr (k, 17)), (1, .inl (.int v1)), (2, .inl (.int v2)), (3, .inl (.int v3)), (4, .inl (.int v4))] [] d (Qu_holders_5 d n v1 v2 v3 v4) := by
  intro n
  induction n with
  | zero => intros; exact z_none
  | succ n ih =>
    intro v1 v2 v3 v4
    rw [Qu_holders_5]
    refine z_iload (pc := 5) hC 4 4 rfl dX1_holders_5 ?_
    refine z_aload_n (pc := 7) hC 0 rfl 0 rfl dX1_holders_7 ?_
    refine zs_geti (pc := 8) hC (hk 17 rfl) f_17_16 q328 dX1_holders_8 ?_
    refine z_icmp_ge (pc := 11) hC 68 rfl dX1_holders_11 ?_ ?_
    · refine z_iload_n (pc := 68) hC 3 rfl 3 rfl dX1_holders_68 ?_
      exact z_iret (pc := 69) hC rfl dX1_holders_69
    · refine z_aload_n (pc := 14) hC 0 rfl 0 rfl dX1_holders_14 ?_
      refine z_getc (pc := 15) hC (hk 17 rfl) f_17_3 q303 dX1_holders_15 ?_
      refine z_iload (pc := 18) hC 4 4 rfl dX1_holders_18 ?_
      refine zs_iald (pc := 20) hC (hk 21 rfl) rfl dX1_holders_20 ?_
      refine z_if_lt (pc := 21) hC 62 rfl dX1_holders_21 ?_ ?_
      · exact z_sub [0, 1, 2, 3, 4] rfl (r_Qu_holders_62 hC hk hk2 _ ih v1 v2 v3 v4)
      · refine z_aload_n (pc := 24) hC 0 rfl 0 rfl dX1_holders_24 ?_
        refine z_getc (pc := 25) hC (hk 17 rfl) f_17_4 q306 dX1_holders_25 ?_
        refine z_iload (pc := 28) hC 4 4 rfl dX1_holders_28 ?_
        refine zs_iald (pc := 30) hC (hk 22 rfl) rfl dX1_holders_30 ?_
        refine z_iload_n (pc := 31) hC 2 rfl 2 rfl dX1_holders_31 ?_
        refine z_iand (pc := 32) hC dX1_holders_32 ?_
        refine z_iload_n (pc := 33) hC 2 rfl 2 rfl dX1_holders_33 ?_
        refine z_icmp_ne (pc := 34) hC 62 rfl dX1_holders_34 ?_ ?_
        · exact z_sub [0, 1, 2, 3, 4] rfl (r_Qu_holders_62 hC hk hk2 _ ih v1 v2 v3 v4)
        · refine z_aload_n (pc := 37) hC 0 rfl 0 rfl dX1_holders_37 ?_
          refine z_iload (pc := 38) hC 4 4 rfl dX1_holders_38 ?_
          refine z_piS (pc := 40) (st := []) hC y_X1_framesIn q944 [.inr (k, 17), .inl (.int v4)] rfl (c_X1_framesIn hC.2.2.2.2.2.2.1 hk hk2) rfl ⟨rfl, rfl, (Nat.le_of_ble_eq_true rfl), (Nat.le_of_ble_eq_true rfl)⟩ (Nat.le_of_ble_eq_true rfl) dX1_holders_40 (fun r2 => ?_)
          refine z_iload_n (pc := 43) hC 1 rfl 1 rfl dX1_holders_43 ?_
          refine z_ishr (pc := 44) hC dX1_holders_44 ?_
          refine z_iconst (pc := 45) hC (1 : Int32) rfl dX1_holders_45 ?_
          refine z_iand (pc := 46) hC dX1_holders_46 ?_
          refine z_if_eq (pc := 47) hC 62 rfl dX1_holders_47 ?_ ?_
          · exact z_sub [0, 1, 2, 3, 4] rfl (r_Qu_holders_62 hC hk hk2 _ ih v1 v2 v3 v4)
          · refine z_iload_n (pc := 50) hC 3 rfl 3 rfl dX1_holders_50 ?_
            refine z_iconst (pc := 51) hC (1 : Int32) rfl dX1_holders_51 ?_
            refine z_aload_n (pc := 52) hC 0 rfl 0 rfl dX1_holders_52 ?_
            refine z_getc (pc := 53) hC (hk 17 rfl) f_17_0 q294 dX1_holders_53 ?_
            refine z_iload (pc := 56) hC 4 4 rfl dX1_holders_56 ?_
            refine zs_iald (pc := 58) hC (hk 18 rfl) rfl dX1_holders_58 ?_
            refine z_ishl (pc := 59) hC dX1_holders_59 ?_
            refine z_ior (pc := 60) hC dX1_holders_60 ?_
            refine z_istore_n (pc := 61) (ls1 := fun v => [(3, .inl (.int v)), (0, .inr (k, 17)), (1, .inl (.int v1)), (2, .inl (.int v2)), (4, .inl (.int v4))]) hC 3 rfl (by decide) (fun v => rfl) dX1_holders_61 (fun v3_3 => ?_)
            exact z_sub [1, 2, 3, 0, 4] rfl (r_Qu_holders_62 hC hk hk2 _ ih v1 v2 v3_3 v4)
theorem r_Qu_holders {C : Cxt} {G : Geo} {M : Mem} {k : Nat} (hC : Cx C cX1_holders 5 "FrameHeirs$Questions" (some .int) rm_X1_holders G) (hk : LWd G k) (hk2 : 2 ≤ k) (d : Sl) (a1 : Int32) (a2 : Int32) : Rz C 5 G (setS M k) (poP avI ((setS M k) d)) 0 [(0, .inr (k, 17)), (1, .inl (.int a1)), (2, .inl (.int a2))] [] d (Qu_holders d a1 a2) := by
  unfold Qu_holders
  refine z_iconst (pc := 0) hC (0 : Int32) rfl dX1_holders_0 ?_
  refine z_istore_n (pc := 1) (ls1 := fun v => [(3, .inl (.int v)), (0, .inr (k, 17)), (1, .inl (.int a1)), (2, .inl (.int a2))]) hC 3 rfl (by decide) (fun v => rfl) dX1_holders_1 (fun v3_4 => ?_)
  refine z_iconst (pc := 2) hC (0 : Int32) rfl dX1_holders_2 ?_
  refine z_istore (pc := 3) (ls1 := fun v => [(4, .inl (.int v)), (3, .inl (.int v3_4)), (0, .inr (k, 17)), (1, .inl (.int a1)), (2, .inl (.int a2))]) hC 4 (by decide) (fun v => rfl) dX1_holders_3 (fun v4_5 => ?_)
  exact z_sub [2, 3, 4, 1, 0] rfl (r_Qu_holders_5 hC hk hk2 FU a1 a2 v3_4 v4_5)
theorem c_X1_holders {G : Geo} {M : Mem} {k : Nat} (hG : GOk G) (hk : LWd G k) (hk2 : 2 ≤ k) {d : Sl} {a1 : Int32} {a2 : Int32} (l : Launch) (r : Int32) (h : Qu_holders d a1 a2 = some r) : Mt l yX1_holders cX1_holders 5 (some .int) rm_X1_holders G [.inr (k, 17), .inl (.int a1), .inl (.int a2)] ((setS M k) d) (avI r) ((setS M k) d) :=
  mt_of (mem := (setS M k)) (po := poP avI ((setS M k) d)) (x0 := d) (t := r) rfl hG [.inr (k, 17), .inl (.int a1), .inl (.int a2)] (Nat.le_of_ble_eq_true rfl) rfl (fun C hC => r_Qu_holders hC hk hk2 d a1 a2) h
-- FrameHeirs$Questions.placesOf(LFrameHeirs$Deeds;II)I
abbrev rm_X1_placesOf : Room := { frames := 1, cells := 0, slots := 0, locals := 21 }
theorem dX1_placesOf_0 : decode cX1_placesOf 0 = .ok (.iconst 0, 1) := by decide +kernel
theorem dX1_placesOf_1 : decode cX1_placesOf 1 = .ok (.istore_n 3, 1) := by decide +kernel
theorem dX1_placesOf_2 : decode cX1_placesOf 2 = .ok (.iconst 0, 1) := by decide +kernel
theorem dX1_placesOf_3 : decode cX1_placesOf 3 = .ok (.istore 4, 2) := by decide +kernel
theorem dX1_placesOf_5 : decode cX1_placesOf 5 = .ok (.iload 4, 2) := by decide +kernel
theorem dX1_placesOf_7 : decode cX1_placesOf 7 = .ok (.aload_n 0, 1) := by decide +kernel
theorem dX1_placesOf_8 : decode cX1_placesOf 8 = .ok (.getfield 60, 3) := by decide +kernel
theorem dX1_placesOf_11 : decode cX1_placesOf 11 = .ok (.if_icmp .ge 46, 3) := by decide +kernel
theorem dX1_placesOf_14 : decode cX1_placesOf 14 = .ok (.aload_n 0, 1) := by decide +kernel
theorem dX1_placesOf_15 : decode cX1_placesOf 15 = .ok (.getfield 21, 3) := by decide +kernel
theorem dX1_placesOf_18 : decode cX1_placesOf 18 = .ok (.iload 4, 2) := by decide +kernel
theorem dX1_placesOf_20 : decode cX1_placesOf 20 = .ok (.iaload, 1) := by decide +kernel
theorem dX1_placesOf_21 : decode cX1_placesOf 21 = .ok (.ifCond .lt 30, 3) := by decide +kernel
theorem dX1_placesOf_24 : decode cX1_placesOf 24 = .ok (.aload_n 0, 1) := by decide +kernel
theorem dX1_placesOf_25 : decode cX1_placesOf 25 = .ok (.getfield 73, 3) := by decide +kernel
theorem dX1_placesOf_28 : decode cX1_placesOf 28 = .ok (.iload 4, 2) := by decide +kernel
theorem dX1_placesOf_30 : decode cX1_placesOf 30 = .ok (.iaload, 1) := by decide +kernel
theorem dX1_placesOf_31 : decode cX1_placesOf 31 = .ok (.iload_n 1, 1) := by decide +kernel
theorem dX1_placesOf_32 : decode cX1_placesOf 32 = .ok (.if_icmp .ne 19, 3) := by decide +kernel
theorem dX1_placesOf_35 : decode cX1_placesOf 35 = .ok (.aload_n 0, 1) := by decide +kernel
theorem dX1_placesOf_36 : decode cX1_placesOf 36 = .ok (.iload 4, 2) := by decide +kernel
theorem dX1_placesOf_38 : decode cX1_placesOf 38 = .ok (.invokestatic 76, 3) := by decide +kernel
theorem dX1_placesOf_41 : decode cX1_placesOf 41 = .ok (.iload_n 2, 1) := by decide +kernel
theorem dX1_placesOf_42 : decode cX1_placesOf 42 = .ok (.ishr, 1) := by decide +kernel
theorem dX1_placesOf_43 : decode cX1_placesOf 43 = .ok (.iconst 1, 1) := by decide +kernel
theorem dX1_placesOf_44 : decode cX1_placesOf 44 = .ok (.iand, 1) := by decide +kernel
theorem dX1_placesOf_45 : decode cX1_placesOf 45 = .ok (.ifCond .eq 6, 3) := by decide +kernel
theorem dX1_placesOf_48 : decode cX1_placesOf 48 = .ok (.iinc 3 1, 3) := by decide +kernel
theorem dX1_placesOf_51 : decode cX1_placesOf 51 = .ok (.iinc 4 1, 3) := by decide +kernel
theorem dX1_placesOf_54 : decode cX1_placesOf 54 = .ok (.goto (-49), 3) := by decide +kernel
theorem dX1_placesOf_57 : decode cX1_placesOf 57 = .ok (.iload_n 3, 1) := by decide +kernel
theorem dX1_placesOf_58 : decode cX1_placesOf 58 = .ok (.ireturn, 1) := by decide +kernel
def Qu_placesOf_51 (k5 : Int32 → Int32 → Int32 → Int32 → Option Int32) (d : Sl) (v1 : Int32) (v2 : Int32) (v3 : Int32) (v4 : Int32) : Option Int32 :=
  bnd (v4 + (1 : Int32)) fun v4_1 =>
  k5 v1 v2 v3 v4_1
def Qu_placesOf_5 (d : Sl) : Nat → Int32 → Int32 → Int32 → Int32 → Option Int32
  | 0, _, _, _, _ => none
  | n + 1, v1, v2, v3, v4 =>
    if (d 17 16) ≤ v4 then
      (some v3)
    else
      (if inb v4 192 then
      if (d 21 (ix v4)) < 0 then
        (Qu_placesOf_51 (Qu_placesOf_5 d n) d v1 v2 v3 v4)
      else
        (if inb v4 192 then
        if (d 18 (ix v4)) = v1 then
          (bp (Qu_framesIn d v4) fun r2 =>
          if ((r2 >>> (v2 &&& 31)) &&& (1 : Int32)) = 0 then
            (Qu_placesOf_51 (Qu_placesOf_5 d n) d v1 v2 v3 v4)
          else
            (bnd (v3 + (1 : Int32)) fun v3_3 =>
            Qu_placesOf_51 (Qu_placesOf_5 d n) d v1 v2 v3_3 v4))
        else
          (Qu_placesOf_51 (Qu_placesOf_5 d n) d v1 v2 v3 v4)
        else none)
      else none)
def Qu_placesOf (d : Sl) (a1 : Int32) (a2 : Int32) : Option Int32 :=
  bnd (0 : Int32) fun v3_4 =>
  bnd (0 : Int32) fun v4_5 =>
  Qu_placesOf_5 d FU a1 a2 v3_4 v4_5
theorem y_X1_placesOf : YS yX1_placesOf cX1_placesOf 5 (some .int) 3 := ⟨q953, trivial, q954, q152, by decide +kernel, by decide +kernel, by decide +kernel, by decide +kernel⟩
theorem r_Qu_placesOf_51 {C : Cxt} {G : Geo} {M : Mem} {k : Nat} {d : Sl} (hC : Cx C cX1_placesOf 5 "FrameHeirs$Questions" (some .int) rm_X1_placesOf G) (hk : LWd G k) (hk2 : 2 ≤ k) (k5 : Int32 → Int32 → Int32 → Int32 → Option Int32) (h5 : ∀ (v1 : Int32) (v2 : Int32) (v3 : Int32) (v4 : Int32), Rz C 5 G (setS M k) (poP avI ((setS M k) d)) 5 [(0, .inr (k, 17)), (1, .inl (.int v1)), (2, .inl (.int v2)), (3, .inl (.int v3)), (4, .inl (.int v4))] [] d (k5 v1 v2 v3 v4)) (v1 : Int32) (v2 : Int32) (v3 : Int32) (v4 : Int32) : Rz C 5 G (setS M k) (poP avI ((setS M k) d)) 51 [(0, .inr (k, 17)), (1, .inl (.int v1)), (2, .inl (.int v2)), (3, .inl (.int v3)), (4, .inl (.int v4))] [] d (Qu_placesOf_51 k5 d v1 v2 v3 v4) := by
  unfold Qu_placesOf_51
  refine z_iinc (pc := 51) (ls1 := fun v => [(4, .inl (.int v)), (0, .inr (k, 17)), (1, .inl (.int v1)), (2, .inl (.int v2)), (3, .inl (.int v3))]) hC 4 4 (by decide) (1 : Int32) rfl rfl (fun v => rfl) dX1_placesOf_51 (fun v4_1 => ?_)
  refine z_goto (pc := 54) hC 5 rfl dX1_placesOf_54 ?_
  exact z_sub [1, 2, 3, 4, 0] rfl (h5 v1 v2 v3 v4_1)
theorem r_Qu_placesOf_5 {C : Cxt} {G : Geo} {M : Mem} {k : Nat} {d : Sl} (hC : Cx C cX1_placesOf 5 "FrameHeirs$Questions" (some .int) rm_X1_placesOf G) (hk : LWd G k) (hk2 : 2 ≤ k) : ∀ (n : Nat) (v1 : Int32) (v2 : Int32) (v3 : Int32) (v4 : Int32), Rz C 5 G (setS M k) (poP avI ((setS M k) d)) 5 [(0, .inr (k, 17)), (1, .inl (.int v1)), (2, .inl (.int v2)), (3, .inl (.int v3)), (4, .inl (.int v4))] [] d (Qu_placesOf_5 d n v1 v2 v3 v4) := by
  intro n
  induction n with
  | zero => intros; exact z_none
  | succ n ih =>
    intro v1 v2 v3 v4
    rw [Qu_placesOf_5]
    refine z_iload (pc := 5) hC 4 4 rfl dX1_placesOf_5 ?_
    refine z_aload_n (pc := 7) hC 0 rfl 0 rfl dX1_placesOf_7 ?_
    refine zs_geti (pc := 8) hC (hk 17 rfl) f_17_16 q328 dX1_placesOf_8 ?_
    refine z_icmp_ge (pc := 11) hC 57 rfl dX1_placesOf_11 ?_ ?_
    · refine z_iload_n (pc := 57) hC 3 rfl 3 rfl dX1_placesOf_57 ?_
      exact z_iret (pc := 58) hC rfl dX1_placesOf_58
    · refine z_aload_n (pc := 14) hC 0 rfl 0 rfl dX1_placesOf_14 ?_
      refine z_getc (pc := 15) hC (hk 17 rfl) f_17_3 q303 dX1_placesOf_15 ?_
      refine z_iload (pc := 18) hC 4 4 rfl dX1_placesOf_18 ?_
      refine zs_iald (pc := 20) hC (hk 21 rfl) rfl dX1_placesOf_20 ?_
      refine z_if_lt (pc := 21) hC 51 rfl dX1_placesOf_21 ?_ ?_
      · exact z_sub [0, 1, 2, 3, 4] rfl (r_Qu_placesOf_51 hC hk hk2 _ ih v1 v2 v3 v4)
      · refine z_aload_n (pc := 24) hC 0 rfl 0 rfl dX1_placesOf_24 ?_
        refine z_getc (pc := 25) hC (hk 17 rfl) f_17_0 q294 dX1_placesOf_25 ?_
        refine z_iload (pc := 28) hC 4 4 rfl dX1_placesOf_28 ?_
        refine zs_iald (pc := 30) hC (hk 18 rfl) rfl dX1_placesOf_30 ?_
        refine z_iload_n (pc := 31) hC 1 rfl 1 rfl dX1_placesOf_31 ?_
        refine z_icmp_ne (pc := 32) hC 51 rfl dX1_placesOf_32 ?_ ?_
        · exact z_sub [0, 1, 2, 3, 4] rfl (r_Qu_placesOf_51 hC hk hk2 _ ih v1 v2 v3 v4)
        · refine z_aload_n (pc := 35) hC 0 rfl 0 rfl dX1_placesOf_35 ?_
          refine z_iload (pc := 36) hC 4 4 rfl dX1_placesOf_36 ?_
          refine z_piS (pc := 38) (st := []) hC y_X1_framesIn q944 [.inr (k, 17), .inl (.int v4)] rfl (c_X1_framesIn hC.2.2.2.2.2.2.1 hk hk2) rfl ⟨rfl, rfl, (Nat.le_of_ble_eq_true rfl), (Nat.le_of_ble_eq_true rfl)⟩ (Nat.le_of_ble_eq_true rfl) dX1_placesOf_38 (fun r2 => ?_)
          refine z_iload_n (pc := 41) hC 2 rfl 2 rfl dX1_placesOf_41 ?_
          refine z_ishr (pc := 42) hC dX1_placesOf_42 ?_
          refine z_iconst (pc := 43) hC (1 : Int32) rfl dX1_placesOf_43 ?_
          refine z_iand (pc := 44) hC dX1_placesOf_44 ?_
          refine z_if_eq (pc := 45) hC 51 rfl dX1_placesOf_45 ?_ ?_
          · exact z_sub [0, 1, 2, 3, 4] rfl (r_Qu_placesOf_51 hC hk hk2 _ ih v1 v2 v3 v4)
          · refine z_iinc (pc := 48) (ls1 := fun v => [(3, .inl (.int v)), (0, .inr (k, 17)), (1, .inl (.int v1)), (2, .inl (.int v2)), (4, .inl (.int v4))]) hC 3 3 (by decide) (1 : Int32) rfl rfl (fun v => rfl) dX1_placesOf_48 (fun v3_3 => ?_)
            exact z_sub [1, 2, 3, 0, 4] rfl (r_Qu_placesOf_51 hC hk hk2 _ ih v1 v2 v3_3 v4)
theorem r_Qu_placesOf {C : Cxt} {G : Geo} {M : Mem} {k : Nat} (hC : Cx C cX1_placesOf 5 "FrameHeirs$Questions" (some .int) rm_X1_placesOf G) (hk : LWd G k) (hk2 : 2 ≤ k) (d : Sl) (a1 : Int32) (a2 : Int32) : Rz C 5 G (setS M k) (poP avI ((setS M k) d)) 0 [(0, .inr (k, 17)), (1, .inl (.int a1)), (2, .inl (.int a2))] [] d (Qu_placesOf d a1 a2) := by
  unfold Qu_placesOf
  refine z_iconst (pc := 0) hC (0 : Int32) rfl dX1_placesOf_0 ?_
  refine z_istore_n (pc := 1) (ls1 := fun v => [(3, .inl (.int v)), (0, .inr (k, 17)), (1, .inl (.int a1)), (2, .inl (.int a2))]) hC 3 rfl (by decide) (fun v => rfl) dX1_placesOf_1 (fun v3_4 => ?_)
  refine z_iconst (pc := 2) hC (0 : Int32) rfl dX1_placesOf_2 ?_
  refine z_istore (pc := 3) (ls1 := fun v => [(4, .inl (.int v)), (3, .inl (.int v3_4)), (0, .inr (k, 17)), (1, .inl (.int a1)), (2, .inl (.int a2))]) hC 4 (by decide) (fun v => rfl) dX1_placesOf_3 (fun v4_5 => ?_)
  exact z_sub [2, 3, 4, 1, 0] rfl (r_Qu_placesOf_5 hC hk hk2 FU a1 a2 v3_4 v4_5)
theorem c_X1_placesOf {G : Geo} {M : Mem} {k : Nat} (hG : GOk G) (hk : LWd G k) (hk2 : 2 ≤ k) {d : Sl} {a1 : Int32} {a2 : Int32} (l : Launch) (r : Int32) (h : Qu_placesOf d a1 a2 = some r) : Mt l yX1_placesOf cX1_placesOf 5 (some .int) rm_X1_placesOf G [.inr (k, 17), .inl (.int a1), .inl (.int a2)] ((setS M k) d) (avI r) ((setS M k) d) :=
  mt_of (mem := (setS M k)) (po := poP avI ((setS M k) d)) (x0 := d) (t := r) rfl hG [.inr (k, 17), .inl (.int a1), .inl (.int a2)] (Nat.le_of_ble_eq_true rfl) rfl (fun C hC => r_Qu_placesOf hC hk hk2 d a1 a2) h
-- FrameHeirs$Questions.hasAbove(LFrameHeirs$Deeds;II)Z
abbrev rm_X1_hasAbove : Room := { frames := 0, cells := 0, slots := 0, locals := 0 }
theorem dX1_hasAbove_0 : decode cX1_hasAbove 0 = .ok (.aload_n 0, 1) := by decide +kernel
theorem dX1_hasAbove_1 : decode cX1_hasAbove 1 = .ok (.getfield 44, 3) := by decide +kernel
theorem dX1_hasAbove_4 : decode cX1_hasAbove 4 = .ok (.iload_n 1, 1) := by decide +kernel
theorem dX1_hasAbove_5 : decode cX1_hasAbove 5 = .ok (.iaload, 1) := by decide +kernel
theorem dX1_hasAbove_6 : decode cX1_hasAbove 6 = .ok (.istore_n 3, 1) := by decide +kernel
theorem dX1_hasAbove_7 : decode cX1_hasAbove 7 = .ok (.iconst 0, 1) := by decide +kernel
theorem dX1_hasAbove_8 : decode cX1_hasAbove 8 = .ok (.istore 4, 2) := by decide +kernel
theorem dX1_hasAbove_10 : decode cX1_hasAbove 10 = .ok (.iload 4, 2) := by decide +kernel
theorem dX1_hasAbove_12 : decode cX1_hasAbove 12 = .ok (.sipush 192, 3) := by decide +kernel
theorem dX1_hasAbove_15 : decode cX1_hasAbove 15 = .ok (.if_icmp .ge 32, 3) := by decide +kernel
theorem dX1_hasAbove_18 : decode cX1_hasAbove 18 = .ok (.iload_n 3, 1) := by decide +kernel
theorem dX1_hasAbove_19 : decode cX1_hasAbove 19 = .ok (.ifCond .lt 28, 3) := by decide +kernel
theorem dX1_hasAbove_22 : decode cX1_hasAbove 22 = .ok (.aload_n 0, 1) := by decide +kernel
theorem dX1_hasAbove_23 : decode cX1_hasAbove 23 = .ok (.getfield 73, 3) := by decide +kernel
theorem dX1_hasAbove_26 : decode cX1_hasAbove 26 = .ok (.iload_n 3, 1) := by decide +kernel
theorem dX1_hasAbove_27 : decode cX1_hasAbove 27 = .ok (.iaload, 1) := by decide +kernel
theorem dX1_hasAbove_28 : decode cX1_hasAbove 28 = .ok (.iload_n 2, 1) := by decide +kernel
theorem dX1_hasAbove_29 : decode cX1_hasAbove 29 = .ok (.if_icmp .ne 5, 3) := by decide +kernel
theorem dX1_hasAbove_32 : decode cX1_hasAbove 32 = .ok (.iconst 1, 1) := by decide +kernel
theorem dX1_hasAbove_33 : decode cX1_hasAbove 33 = .ok (.ireturn, 1) := by decide +kernel
theorem dX1_hasAbove_34 : decode cX1_hasAbove 34 = .ok (.aload_n 0, 1) := by decide +kernel
theorem dX1_hasAbove_35 : decode cX1_hasAbove 35 = .ok (.getfield 44, 3) := by decide +kernel
theorem dX1_hasAbove_38 : decode cX1_hasAbove 38 = .ok (.iload_n 3, 1) := by decide +kernel
theorem dX1_hasAbove_39 : decode cX1_hasAbove 39 = .ok (.iaload, 1) := by decide +kernel
theorem dX1_hasAbove_40 : decode cX1_hasAbove 40 = .ok (.istore_n 3, 1) := by decide +kernel
theorem dX1_hasAbove_41 : decode cX1_hasAbove 41 = .ok (.iinc 4 1, 3) := by decide +kernel
theorem dX1_hasAbove_44 : decode cX1_hasAbove 44 = .ok (.goto (-34), 3) := by decide +kernel
theorem dX1_hasAbove_47 : decode cX1_hasAbove 47 = .ok (.iconst 0, 1) := by decide +kernel
theorem dX1_hasAbove_48 : decode cX1_hasAbove 48 = .ok (.ireturn, 1) := by decide +kernel
def Qu_hasAbove_10 (d : Sl) : Nat → Int32 → Int32 → Int32 → Option Int32
  | 0, _, _, _ => none
  | n + 1, v2, v3, v4 =>
    if (192 : Int32) ≤ v4 then
      (some (0 : Int32))
    else
      (if v3 < 0 then
        (some (0 : Int32))
      else
        (if inb v3 192 then
        if (d 18 (ix v3)) = v2 then
          (some (1 : Int32))
        else
          (if inb v3 192 then
          bnd (d 23 (ix v3)) fun v3_1 =>
          bnd (v4 + (1 : Int32)) fun v4_2 =>
          Qu_hasAbove_10 d n v2 v3_1 v4_2
          else none)
        else none))
def Qu_hasAbove (d : Sl) (a1 : Int32) (a2 : Int32) : Option Int32 :=
  if inb a1 192 then
  bnd (d 23 (ix a1)) fun v3_3 =>
  bnd (0 : Int32) fun v4_4 =>
  Qu_hasAbove_10 d FU a2 v3_3 v4_4
  else none
theorem y_X1_hasAbove : YS yX1_hasAbove cX1_hasAbove 5 (some .boolean) 3 := ⟨q963, trivial, q964, q152, by decide +kernel, by decide +kernel, by decide +kernel, by decide +kernel⟩
theorem r_Qu_hasAbove_10 {C : Cxt} {G : Geo} {M : Mem} {k : Nat} {d : Sl} (hC : Cx C cX1_hasAbove 5 "FrameHeirs$Questions" (some .boolean) rm_X1_hasAbove G) (hk : LWd G k) (hk2 : 2 ≤ k) : ∀ (n : Nat) (v2 : Int32) (v3 : Int32) (v4 : Int32), Rz C 5 G (setS M k) (poP avI ((setS M k) d)) 10 [(0, .inr (k, 17)), (2, .inl (.int v2)), (3, .inl (.int v3)), (4, .inl (.int v4))] [] d (Qu_hasAbove_10 d n v2 v3 v4) := by
  intro n
  induction n with
  | zero => intros; exact z_none
  | succ n ih =>
    intro v2 v3 v4
    rw [Qu_hasAbove_10]
    refine z_iload (pc := 10) hC 4 3 rfl dX1_hasAbove_10 ?_
    refine z_sipush (pc := 12) hC (192 : Int32) rfl dX1_hasAbove_12 ?_
    refine z_icmp_ge (pc := 15) hC 47 rfl dX1_hasAbove_15 ?_ ?_
    · refine z_iconst (pc := 47) hC (0 : Int32) rfl dX1_hasAbove_47 ?_
      exact z_zret (pc := 48) hC rfl rfl dX1_hasAbove_48
    · refine z_iload_n (pc := 18) hC 3 rfl 2 rfl dX1_hasAbove_18 ?_
      refine z_if_lt (pc := 19) hC 47 rfl dX1_hasAbove_19 ?_ ?_
      · refine z_iconst (pc := 47) hC (0 : Int32) rfl dX1_hasAbove_47 ?_
        exact z_zret (pc := 48) hC rfl rfl dX1_hasAbove_48
      · refine z_aload_n (pc := 22) hC 0 rfl 0 rfl dX1_hasAbove_22 ?_
        refine z_getc (pc := 23) hC (hk 17 rfl) f_17_0 q294 dX1_hasAbove_23 ?_
        refine z_iload_n (pc := 26) hC 3 rfl 2 rfl dX1_hasAbove_26 ?_
        refine zs_iald (pc := 27) hC (hk 18 rfl) rfl dX1_hasAbove_27 ?_
        refine z_iload_n (pc := 28) hC 2 rfl 1 rfl dX1_hasAbove_28 ?_
        refine z_icmp_ne (pc := 29) hC 34 rfl dX1_hasAbove_29 ?_ ?_
        · refine z_aload_n (pc := 34) hC 0 rfl 0 rfl dX1_hasAbove_34 ?_
          refine z_getc (pc := 35) hC (hk 17 rfl) f_17_5 q309 dX1_hasAbove_35 ?_
          refine z_iload_n (pc := 38) hC 3 rfl 2 rfl dX1_hasAbove_38 ?_
          refine zs_iald (pc := 39) hC (hk 23 rfl) rfl dX1_hasAbove_39 ?_
          refine z_istore_n (pc := 40) (ls1 := fun v => [(3, .inl (.int v)), (0, .inr (k, 17)), (2, .inl (.int v2)), (4, .inl (.int v4))]) hC 3 rfl (by decide) (fun v => rfl) dX1_hasAbove_40 (fun v3_1 => ?_)
          refine z_iinc (pc := 41) (ls1 := fun v => [(4, .inl (.int v)), (3, .inl (.int v3_1)), (0, .inr (k, 17)), (2, .inl (.int v2))]) hC 4 3 (by decide) (1 : Int32) rfl rfl (fun v => rfl) dX1_hasAbove_41 (fun v4_2 => ?_)
          refine z_goto (pc := 44) hC 10 rfl dX1_hasAbove_44 ?_
          exact z_sub [2, 3, 1, 0] rfl (ih v2 v3_1 v4_2)
        · refine z_iconst (pc := 32) hC (1 : Int32) rfl dX1_hasAbove_32 ?_
          exact z_zret (pc := 33) hC rfl rfl dX1_hasAbove_33
theorem r_Qu_hasAbove {C : Cxt} {G : Geo} {M : Mem} {k : Nat} (hC : Cx C cX1_hasAbove 5 "FrameHeirs$Questions" (some .boolean) rm_X1_hasAbove G) (hk : LWd G k) (hk2 : 2 ≤ k) (d : Sl) (a1 : Int32) (a2 : Int32) : Rz C 5 G (setS M k) (poP avI ((setS M k) d)) 0 [(0, .inr (k, 17)), (1, .inl (.int a1)), (2, .inl (.int a2))] [] d (Qu_hasAbove d a1 a2) := by
  unfold Qu_hasAbove
  refine z_aload_n (pc := 0) hC 0 rfl 0 rfl dX1_hasAbove_0 ?_
  refine z_getc (pc := 1) hC (hk 17 rfl) f_17_5 q309 dX1_hasAbove_1 ?_
  refine z_iload_n (pc := 4) hC 1 rfl 1 rfl dX1_hasAbove_4 ?_
  refine zs_iald (pc := 5) hC (hk 23 rfl) rfl dX1_hasAbove_5 ?_
  refine z_istore_n (pc := 6) (ls1 := fun v => [(3, .inl (.int v)), (0, .inr (k, 17)), (1, .inl (.int a1)), (2, .inl (.int a2))]) hC 3 rfl (by decide) (fun v => rfl) dX1_hasAbove_6 (fun v3_3 => ?_)
  refine z_iconst (pc := 7) hC (0 : Int32) rfl dX1_hasAbove_7 ?_
  refine z_istore (pc := 8) (ls1 := fun v => [(4, .inl (.int v)), (3, .inl (.int v3_3)), (0, .inr (k, 17)), (1, .inl (.int a1)), (2, .inl (.int a2))]) hC 4 (by decide) (fun v => rfl) dX1_hasAbove_8 (fun v4_4 => ?_)
  exact z_sub [2, 4, 1, 0] rfl (r_Qu_hasAbove_10 hC hk hk2 FU a2 v3_3 v4_4)
theorem c_X1_hasAbove {G : Geo} {M : Mem} {k : Nat} (hG : GOk G) (hk : LWd G k) (hk2 : 2 ≤ k) {d : Sl} {a1 : Int32} {a2 : Int32} (l : Launch) (r : Int32) (h : Qu_hasAbove d a1 a2 = some r) : Mt l yX1_hasAbove cX1_hasAbove 5 (some .boolean) rm_X1_hasAbove G [.inr (k, 17), .inl (.int a1), .inl (.int a2)] ((setS M k) d) (avI r) ((setS M k) d) :=
  mt_of (mem := (setS M k)) (po := poP avI ((setS M k) d)) (x0 := d) (t := r) rfl hG [.inr (k, 17), .inl (.int a1), .inl (.int a2)] (Nat.le_of_ble_eq_true rfl) rfl (fun C hC => r_Qu_hasAbove hC hk hk2 d a1 a2) h
-- FrameHeirs$Questions.pagesBeneath(LFrameHeirs$Deeds;II)I
abbrev rm_X1_pagesBeneath : Room := { frames := 1, cells := 0, slots := 0, locals := 24 }
theorem dX1_pagesBeneath_0 : decode cX1_pagesBeneath 0 = .ok (.iconst 0, 1) := by decide +kernel
theorem dX1_pagesBeneath_1 : decode cX1_pagesBeneath 1 = .ok (.istore_n 3, 1) := by decide +kernel
theorem dX1_pagesBeneath_2 : decode cX1_pagesBeneath 2 = .ok (.iconst 0, 1) := by decide +kernel
theorem dX1_pagesBeneath_3 : decode cX1_pagesBeneath 3 = .ok (.istore 4, 2) := by decide +kernel
theorem dX1_pagesBeneath_5 : decode cX1_pagesBeneath 5 = .ok (.iload 4, 2) := by decide +kernel
theorem dX1_pagesBeneath_7 : decode cX1_pagesBeneath 7 = .ok (.aload_n 0, 1) := by decide +kernel
theorem dX1_pagesBeneath_8 : decode cX1_pagesBeneath 8 = .ok (.getfield 60, 3) := by decide +kernel
theorem dX1_pagesBeneath_11 : decode cX1_pagesBeneath 11 = .ok (.if_icmp .ge 52, 3) := by decide +kernel
theorem dX1_pagesBeneath_14 : decode cX1_pagesBeneath 14 = .ok (.aload_n 0, 1) := by decide +kernel
theorem dX1_pagesBeneath_15 : decode cX1_pagesBeneath 15 = .ok (.getfield 21, 3) := by decide +kernel
theorem dX1_pagesBeneath_18 : decode cX1_pagesBeneath 18 = .ok (.iload 4, 2) := by decide +kernel
theorem dX1_pagesBeneath_20 : decode cX1_pagesBeneath 20 = .ok (.iaload, 1) := by decide +kernel
theorem dX1_pagesBeneath_21 : decode cX1_pagesBeneath 21 = .ok (.ifCond .lt 36, 3) := by decide +kernel
theorem dX1_pagesBeneath_24 : decode cX1_pagesBeneath 24 = .ok (.aload_n 0, 1) := by decide +kernel
theorem dX1_pagesBeneath_25 : decode cX1_pagesBeneath 25 = .ok (.getfield 73, 3) := by decide +kernel
theorem dX1_pagesBeneath_28 : decode cX1_pagesBeneath 28 = .ok (.iload 4, 2) := by decide +kernel
theorem dX1_pagesBeneath_30 : decode cX1_pagesBeneath 30 = .ok (.iaload, 1) := by decide +kernel
theorem dX1_pagesBeneath_31 : decode cX1_pagesBeneath 31 = .ok (.iload_n 2, 1) := by decide +kernel
theorem dX1_pagesBeneath_32 : decode cX1_pagesBeneath 32 = .ok (.if_icmp .ne 25, 3) := by decide +kernel
theorem dX1_pagesBeneath_35 : decode cX1_pagesBeneath 35 = .ok (.aload_n 0, 1) := by decide +kernel
theorem dX1_pagesBeneath_36 : decode cX1_pagesBeneath 36 = .ok (.iload 4, 2) := by decide +kernel
theorem dX1_pagesBeneath_38 : decode cX1_pagesBeneath 38 = .ok (.iload_n 1, 1) := by decide +kernel
theorem dX1_pagesBeneath_39 : decode cX1_pagesBeneath 39 = .ok (.invokestatic 79, 3) := by decide +kernel
theorem dX1_pagesBeneath_42 : decode cX1_pagesBeneath 42 = .ok (.ifCond .eq 15, 3) := by decide +kernel
theorem dX1_pagesBeneath_45 : decode cX1_pagesBeneath 45 = .ok (.iload_n 3, 1) := by decide +kernel
theorem dX1_pagesBeneath_46 : decode cX1_pagesBeneath 46 = .ok (.iconst 1, 1) := by decide +kernel
theorem dX1_pagesBeneath_47 : decode cX1_pagesBeneath 47 = .ok (.aload_n 0, 1) := by decide +kernel
theorem dX1_pagesBeneath_48 : decode cX1_pagesBeneath 48 = .ok (.getfield 21, 3) := by decide +kernel
theorem dX1_pagesBeneath_51 : decode cX1_pagesBeneath 51 = .ok (.iload 4, 2) := by decide +kernel
theorem dX1_pagesBeneath_53 : decode cX1_pagesBeneath 53 = .ok (.iaload, 1) := by decide +kernel
theorem dX1_pagesBeneath_54 : decode cX1_pagesBeneath 54 = .ok (.ishl, 1) := by decide +kernel
theorem dX1_pagesBeneath_55 : decode cX1_pagesBeneath 55 = .ok (.iadd, 1) := by decide +kernel
theorem dX1_pagesBeneath_56 : decode cX1_pagesBeneath 56 = .ok (.istore_n 3, 1) := by decide +kernel
theorem dX1_pagesBeneath_57 : decode cX1_pagesBeneath 57 = .ok (.iinc 4 1, 3) := by decide +kernel
theorem dX1_pagesBeneath_60 : decode cX1_pagesBeneath 60 = .ok (.goto (-55), 3) := by decide +kernel
theorem dX1_pagesBeneath_63 : decode cX1_pagesBeneath 63 = .ok (.iload_n 3, 1) := by decide +kernel
theorem dX1_pagesBeneath_64 : decode cX1_pagesBeneath 64 = .ok (.ireturn, 1) := by decide +kernel
def Qu_pagesBeneath_57 (k5 : Int32 → Int32 → Int32 → Int32 → Option Int32) (d : Sl) (v1 : Int32) (v2 : Int32) (v3 : Int32) (v4 : Int32) : Option Int32 :=
  bnd (v4 + (1 : Int32)) fun v4_1 =>
  k5 v1 v2 v3 v4_1
def Qu_pagesBeneath_5 (d : Sl) : Nat → Int32 → Int32 → Int32 → Int32 → Option Int32
  | 0, _, _, _, _ => none
  | n + 1, v1, v2, v3, v4 =>
    if (d 17 16) ≤ v4 then
      (some v3)
    else
      (if inb v4 192 then
      if (d 21 (ix v4)) < 0 then
        (Qu_pagesBeneath_57 (Qu_pagesBeneath_5 d n) d v1 v2 v3 v4)
      else
        (if inb v4 192 then
        if (d 18 (ix v4)) = v2 then
          (bp (Qu_hasAbove d v4 v1) fun r2 =>
          if r2 = 0 then
            (Qu_pagesBeneath_57 (Qu_pagesBeneath_5 d n) d v1 v2 v3 v4)
          else
            (if inb v4 192 then
            bnd (v3 + ((1 : Int32) <<< ((d 21 (ix v4)) &&& 31))) fun v3_3 =>
            Qu_pagesBeneath_57 (Qu_pagesBeneath_5 d n) d v1 v2 v3_3 v4
            else none))
        else
          (Qu_pagesBeneath_57 (Qu_pagesBeneath_5 d n) d v1 v2 v3 v4)
        else none)
      else none)
def Qu_pagesBeneath (d : Sl) (a1 : Int32) (a2 : Int32) : Option Int32 :=
  bnd (0 : Int32) fun v3_4 =>
  bnd (0 : Int32) fun v4_5 =>
  Qu_pagesBeneath_5 d FU a1 a2 v3_4 v4_5
theorem y_X1_pagesBeneath : YS yX1_pagesBeneath cX1_pagesBeneath 5 (some .int) 3 := ⟨q960, trivial, q961, q152, by decide +kernel, by decide +kernel, by decide +kernel, by decide +kernel⟩
theorem r_Qu_pagesBeneath_57 {C : Cxt} {G : Geo} {M : Mem} {k : Nat} {d : Sl} (hC : Cx C cX1_pagesBeneath 5 "FrameHeirs$Questions" (some .int) rm_X1_pagesBeneath G) (hk : LWd G k) (hk2 : 2 ≤ k) (k5 : Int32 → Int32 → Int32 → Int32 → Option Int32) (h5 : ∀ (v1 : Int32) (v2 : Int32) (v3 : Int32) (v4 : Int32), Rz C 5 G (setS M k) (poP avI ((setS M k) d)) 5 [(0, .inr (k, 17)), (1, .inl (.int v1)), (2, .inl (.int v2)), (3, .inl (.int v3)), (4, .inl (.int v4))] [] d (k5 v1 v2 v3 v4)) (v1 : Int32) (v2 : Int32) (v3 : Int32) (v4 : Int32) : Rz C 5 G (setS M k) (poP avI ((setS M k) d)) 57 [(0, .inr (k, 17)), (1, .inl (.int v1)), (2, .inl (.int v2)), (3, .inl (.int v3)), (4, .inl (.int v4))] [] d (Qu_pagesBeneath_57 k5 d v1 v2 v3 v4) := by
  unfold Qu_pagesBeneath_57
  refine z_iinc (pc := 57) (ls1 := fun v => [(4, .inl (.int v)), (0, .inr (k, 17)), (1, .inl (.int v1)), (2, .inl (.int v2)), (3, .inl (.int v3))]) hC 4 4 (by decide) (1 : Int32) rfl rfl (fun v => rfl) dX1_pagesBeneath_57 (fun v4_1 => ?_)
  refine z_goto (pc := 60) hC 5 rfl dX1_pagesBeneath_60 ?_
  exact z_sub [1, 2, 3, 4, 0] rfl (h5 v1 v2 v3 v4_1)
theorem r_Qu_pagesBeneath_5 {C : Cxt} {G : Geo} {M : Mem} {k : Nat} {d : Sl} (hC : Cx C cX1_pagesBeneath 5 "FrameHeirs$Questions" (some .int) rm_X1_pagesBeneath G) (hk : LWd G k) (hk2 : 2 ≤ k) : ∀ (n : Nat) (v1 : Int32) (v2 : Int32) (v3 : Int32) (v4 : Int32), Rz C 5 G (setS M k) (poP avI ((setS M k) d)) 5 [(0, .inr (k, 17)), (1, .inl (.int v1)), (2, .inl (.int v2)), (3, .inl (.int v3)), (4, .inl (.int v4))] [] d (Qu_pagesBeneath_5 d n v1 v2 v3 v4) := by
  intro n
  induction n with
  | zero => intros; exact z_none
  | succ n ih =>
    intro v1 v2 v3 v4
    rw [Qu_pagesBeneath_5]
    refine z_iload (pc := 5) hC 4 4 rfl dX1_pagesBeneath_5 ?_
    refine z_aload_n (pc := 7) hC 0 rfl 0 rfl dX1_pagesBeneath_7 ?_
    refine zs_geti (pc := 8) hC (hk 17 rfl) f_17_16 q328 dX1_pagesBeneath_8 ?_
    refine z_icmp_ge (pc := 11) hC 63 rfl dX1_pagesBeneath_11 ?_ ?_
    · refine z_iload_n (pc := 63) hC 3 rfl 3 rfl dX1_pagesBeneath_63 ?_
      exact z_iret (pc := 64) hC rfl dX1_pagesBeneath_64
    · refine z_aload_n (pc := 14) hC 0 rfl 0 rfl dX1_pagesBeneath_14 ?_
      refine z_getc (pc := 15) hC (hk 17 rfl) f_17_3 q303 dX1_pagesBeneath_15 ?_
      refine z_iload (pc := 18) hC 4 4 rfl dX1_pagesBeneath_18 ?_
      refine zs_iald (pc := 20) hC (hk 21 rfl) rfl dX1_pagesBeneath_20 ?_
      refine z_if_lt (pc := 21) hC 57 rfl dX1_pagesBeneath_21 ?_ ?_
      · exact z_sub [0, 1, 2, 3, 4] rfl (r_Qu_pagesBeneath_57 hC hk hk2 _ ih v1 v2 v3 v4)
      · refine z_aload_n (pc := 24) hC 0 rfl 0 rfl dX1_pagesBeneath_24 ?_
        refine z_getc (pc := 25) hC (hk 17 rfl) f_17_0 q294 dX1_pagesBeneath_25 ?_
        refine z_iload (pc := 28) hC 4 4 rfl dX1_pagesBeneath_28 ?_
        refine zs_iald (pc := 30) hC (hk 18 rfl) rfl dX1_pagesBeneath_30 ?_
        refine z_iload_n (pc := 31) hC 2 rfl 2 rfl dX1_pagesBeneath_31 ?_
        refine z_icmp_ne (pc := 32) hC 57 rfl dX1_pagesBeneath_32 ?_ ?_
        · exact z_sub [0, 1, 2, 3, 4] rfl (r_Qu_pagesBeneath_57 hC hk hk2 _ ih v1 v2 v3 v4)
        · refine z_aload_n (pc := 35) hC 0 rfl 0 rfl dX1_pagesBeneath_35 ?_
          refine z_iload (pc := 36) hC 4 4 rfl dX1_pagesBeneath_36 ?_
          refine z_iload_n (pc := 38) hC 1 rfl 1 rfl dX1_pagesBeneath_38 ?_
          refine z_piS (pc := 39) (st := []) hC y_X1_hasAbove q962 [.inr (k, 17), .inl (.int v4), .inl (.int v1)] rfl (c_X1_hasAbove hC.2.2.2.2.2.2.1 hk hk2) rfl ⟨rfl, rfl, (Nat.le_of_ble_eq_true rfl), (Nat.le_of_ble_eq_true rfl)⟩ (Nat.le_of_ble_eq_true rfl) dX1_pagesBeneath_39 (fun r2 => ?_)
          refine z_if_eq (pc := 42) hC 57 rfl dX1_pagesBeneath_42 ?_ ?_
          · exact z_sub [0, 1, 2, 3, 4] rfl (r_Qu_pagesBeneath_57 hC hk hk2 _ ih v1 v2 v3 v4)
          · refine z_iload_n (pc := 45) hC 3 rfl 3 rfl dX1_pagesBeneath_45 ?_
            refine z_iconst (pc := 46) hC (1 : Int32) rfl dX1_pagesBeneath_46 ?_
            refine z_aload_n (pc := 47) hC 0 rfl 0 rfl dX1_pagesBeneath_47 ?_
            refine z_getc (pc := 48) hC (hk 17 rfl) f_17_3 q303 dX1_pagesBeneath_48 ?_
            refine z_iload (pc := 51) hC 4 4 rfl dX1_pagesBeneath_51 ?_
            refine zs_iald (pc := 53) hC (hk 21 rfl) rfl dX1_pagesBeneath_53 ?_
            refine z_ishl (pc := 54) hC dX1_pagesBeneath_54 ?_
            refine z_iadd (pc := 55) hC dX1_pagesBeneath_55 ?_
            refine z_istore_n (pc := 56) (ls1 := fun v => [(3, .inl (.int v)), (0, .inr (k, 17)), (1, .inl (.int v1)), (2, .inl (.int v2)), (4, .inl (.int v4))]) hC 3 rfl (by decide) (fun v => rfl) dX1_pagesBeneath_56 (fun v3_3 => ?_)
            exact z_sub [1, 2, 3, 0, 4] rfl (r_Qu_pagesBeneath_57 hC hk hk2 _ ih v1 v2 v3_3 v4)
theorem r_Qu_pagesBeneath {C : Cxt} {G : Geo} {M : Mem} {k : Nat} (hC : Cx C cX1_pagesBeneath 5 "FrameHeirs$Questions" (some .int) rm_X1_pagesBeneath G) (hk : LWd G k) (hk2 : 2 ≤ k) (d : Sl) (a1 : Int32) (a2 : Int32) : Rz C 5 G (setS M k) (poP avI ((setS M k) d)) 0 [(0, .inr (k, 17)), (1, .inl (.int a1)), (2, .inl (.int a2))] [] d (Qu_pagesBeneath d a1 a2) := by
  unfold Qu_pagesBeneath
  refine z_iconst (pc := 0) hC (0 : Int32) rfl dX1_pagesBeneath_0 ?_
  refine z_istore_n (pc := 1) (ls1 := fun v => [(3, .inl (.int v)), (0, .inr (k, 17)), (1, .inl (.int a1)), (2, .inl (.int a2))]) hC 3 rfl (by decide) (fun v => rfl) dX1_pagesBeneath_1 (fun v3_4 => ?_)
  refine z_iconst (pc := 2) hC (0 : Int32) rfl dX1_pagesBeneath_2 ?_
  refine z_istore (pc := 3) (ls1 := fun v => [(4, .inl (.int v)), (3, .inl (.int v3_4)), (0, .inr (k, 17)), (1, .inl (.int a1)), (2, .inl (.int a2))]) hC 4 (by decide) (fun v => rfl) dX1_pagesBeneath_3 (fun v4_5 => ?_)
  exact z_sub [2, 3, 4, 1, 0] rfl (r_Qu_pagesBeneath_5 hC hk hk2 FU a1 a2 v3_4 v4_5)
theorem c_X1_pagesBeneath {G : Geo} {M : Mem} {k : Nat} (hG : GOk G) (hk : LWd G k) (hk2 : 2 ≤ k) {d : Sl} {a1 : Int32} {a2 : Int32} (l : Launch) (r : Int32) (h : Qu_pagesBeneath d a1 a2 = some r) : Mt l yX1_pagesBeneath cX1_pagesBeneath 5 (some .int) rm_X1_pagesBeneath G [.inr (k, 17), .inl (.int a1), .inl (.int a2)] ((setS M k) d) (avI r) ((setS M k) d) :=
  mt_of (mem := (setS M k)) (po := poP avI ((setS M k) d)) (x0 := d) (t := r) rfl hG [.inr (k, 17), .inl (.int a1), .inl (.int a2)] (Nat.le_of_ble_eq_true rfl) rfl (fun C hC => r_Qu_pagesBeneath hC hk hk2 d a1 a2) h
-- FrameHeirs$Questions.highestGate(LFrameHeirs$Deeds;II)I
abbrev rm_X1_highestGate : Room := { frames := 0, cells := 0, slots := 0, locals := 0 }
theorem dX1_highestGate_0 : decode cX1_highestGate 0 = .ok (.iconst (-1), 1) := by decide +kernel
theorem dX1_highestGate_1 : decode cX1_highestGate 1 = .ok (.istore_n 3, 1) := by decide +kernel
theorem dX1_highestGate_2 : decode cX1_highestGate 2 = .ok (.iconst (-1), 1) := by decide +kernel
theorem dX1_highestGate_3 : decode cX1_highestGate 3 = .ok (.istore 4, 2) := by decide +kernel
theorem dX1_highestGate_5 : decode cX1_highestGate 5 = .ok (.iload_n 1, 1) := by decide +kernel
theorem dX1_highestGate_6 : decode cX1_highestGate 6 = .ok (.istore 5, 2) := by decide +kernel
theorem dX1_highestGate_8 : decode cX1_highestGate 8 = .ok (.iconst 0, 1) := by decide +kernel
theorem dX1_highestGate_9 : decode cX1_highestGate 9 = .ok (.istore 6, 2) := by decide +kernel
theorem dX1_highestGate_11 : decode cX1_highestGate 11 = .ok (.iload 6, 2) := by decide +kernel
theorem dX1_highestGate_13 : decode cX1_highestGate 13 = .ok (.sipush 192, 3) := by decide +kernel
theorem dX1_highestGate_16 : decode cX1_highestGate 16 = .ok (.if_icmp .ge 44, 3) := by decide +kernel
theorem dX1_highestGate_19 : decode cX1_highestGate 19 = .ok (.iload 5, 2) := by decide +kernel
theorem dX1_highestGate_21 : decode cX1_highestGate 21 = .ok (.ifCond .lt 39, 3) := by decide +kernel
theorem dX1_highestGate_24 : decode cX1_highestGate 24 = .ok (.aload_n 0, 1) := by decide +kernel
theorem dX1_highestGate_25 : decode cX1_highestGate 25 = .ok (.getfield 73, 3) := by decide +kernel
theorem dX1_highestGate_28 : decode cX1_highestGate 28 = .ok (.iload 5, 2) := by decide +kernel
theorem dX1_highestGate_30 : decode cX1_highestGate 30 = .ok (.iaload, 1) := by decide +kernel
theorem dX1_highestGate_31 : decode cX1_highestGate 31 = .ok (.iload_n 2, 1) := by decide +kernel
theorem dX1_highestGate_32 : decode cX1_highestGate 32 = .ok (.if_icmp .ne 9, 3) := by decide +kernel
theorem dX1_highestGate_35 : decode cX1_highestGate 35 = .ok (.iload 4, 2) := by decide +kernel
theorem dX1_highestGate_37 : decode cX1_highestGate 37 = .ok (.istore_n 3, 1) := by decide +kernel
theorem dX1_highestGate_38 : decode cX1_highestGate 38 = .ok (.goto 7, 3) := by decide +kernel
theorem dX1_highestGate_41 : decode cX1_highestGate 41 = .ok (.iload 5, 2) := by decide +kernel
theorem dX1_highestGate_43 : decode cX1_highestGate 43 = .ok (.istore 4, 2) := by decide +kernel
theorem dX1_highestGate_45 : decode cX1_highestGate 45 = .ok (.aload_n 0, 1) := by decide +kernel
theorem dX1_highestGate_46 : decode cX1_highestGate 46 = .ok (.getfield 44, 3) := by decide +kernel
theorem dX1_highestGate_49 : decode cX1_highestGate 49 = .ok (.iload 5, 2) := by decide +kernel
theorem dX1_highestGate_51 : decode cX1_highestGate 51 = .ok (.iaload, 1) := by decide +kernel
theorem dX1_highestGate_52 : decode cX1_highestGate 52 = .ok (.istore 5, 2) := by decide +kernel
theorem dX1_highestGate_54 : decode cX1_highestGate 54 = .ok (.iinc 6 1, 3) := by decide +kernel
theorem dX1_highestGate_57 : decode cX1_highestGate 57 = .ok (.goto (-46), 3) := by decide +kernel
theorem dX1_highestGate_60 : decode cX1_highestGate 60 = .ok (.iload_n 3, 1) := by decide +kernel
theorem dX1_highestGate_61 : decode cX1_highestGate 61 = .ok (.ireturn, 1) := by decide +kernel
def Qu_highestGate_45 (k11 : Int32 → Int32 → Int32 → Int32 → Int32 → Option Int32) (d : Sl) (v2 : Int32) (v3 : Int32) (v4 : Int32) (v5 : Int32) (v6 : Int32) : Option Int32 :=
  if inb v5 192 then
  bnd (d 23 (ix v5)) fun v5_1 =>
  bnd (v6 + (1 : Int32)) fun v6_2 =>
  k11 v2 v3 v4 v5_1 v6_2
  else none
def Qu_highestGate_11 (d : Sl) : Nat → Int32 → Int32 → Int32 → Int32 → Int32 → Option Int32
  | 0, _, _, _, _, _ => none
  | n + 1, v2, v3, v4, v5, v6 =>
    if (192 : Int32) ≤ v6 then
      (some v3)
    else
      (if v5 < 0 then
        (some v3)
      else
        (if inb v5 192 then
        if (d 18 (ix v5)) = v2 then
          (bnd v4 fun v3_4 =>
          Qu_highestGate_45 (Qu_highestGate_11 d n) d v2 v3_4 v4 v5 v6)
        else
          (bnd v5 fun v4_3 =>
          Qu_highestGate_45 (Qu_highestGate_11 d n) d v2 v3 v4_3 v5 v6)
        else none))
def Qu_highestGate (d : Sl) (a1 : Int32) (a2 : Int32) : Option Int32 :=
  bnd (-1 : Int32) fun v3_5 =>
  bnd (-1 : Int32) fun v4_6 =>
  bnd a1 fun v5_7 =>
  bnd (0 : Int32) fun v6_8 =>
  Qu_highestGate_11 d FU a2 v3_5 v4_6 v5_7 v6_8
theorem y_X1_highestGate : YS yX1_highestGate cX1_highestGate 7 (some .int) 3 := ⟨q986, trivial, q987, q152, by decide +kernel, by decide +kernel, by decide +kernel, by decide +kernel⟩
theorem r_Qu_highestGate_45 {C : Cxt} {G : Geo} {M : Mem} {k : Nat} {d : Sl} (hC : Cx C cX1_highestGate 7 "FrameHeirs$Questions" (some .int) rm_X1_highestGate G) (hk : LWd G k) (hk2 : 2 ≤ k) (k11 : Int32 → Int32 → Int32 → Int32 → Int32 → Option Int32) (h11 : ∀ (v2 : Int32) (v3 : Int32) (v4 : Int32) (v5 : Int32) (v6 : Int32), Rz C 7 G (setS M k) (poP avI ((setS M k) d)) 11 [(0, .inr (k, 17)), (2, .inl (.int v2)), (3, .inl (.int v3)), (4, .inl (.int v4)), (5, .inl (.int v5)), (6, .inl (.int v6))] [] d (k11 v2 v3 v4 v5 v6)) (v2 : Int32) (v3 : Int32) (v4 : Int32) (v5 : Int32) (v6 : Int32) : Rz C 7 G (setS M k) (poP avI ((setS M k) d)) 45 [(0, .inr (k, 17)), (2, .inl (.int v2)), (3, .inl (.int v3)), (4, .inl (.int v4)), (5, .inl (.int v5)), (6, .inl (.int v6))] [] d (Qu_highestGate_45 k11 d v2 v3 v4 v5 v6) := by
  unfold Qu_highestGate_45
  refine z_aload_n (pc := 45) hC 0 rfl 0 rfl dX1_highestGate_45 ?_
  refine z_getc (pc := 46) hC (hk 17 rfl) f_17_5 q309 dX1_highestGate_46 ?_
  refine z_iload (pc := 49) hC 5 4 rfl dX1_highestGate_49 ?_
  refine zs_iald (pc := 51) hC (hk 23 rfl) rfl dX1_highestGate_51 ?_
  refine z_istore (pc := 52) (ls1 := fun v => [(5, .inl (.int v)), (0, .inr (k, 17)), (2, .inl (.int v2)), (3, .inl (.int v3)), (4, .inl (.int v4)), (6, .inl (.int v6))]) hC 5 (by decide) (fun v => rfl) dX1_highestGate_52 (fun v5_1 => ?_)
  refine z_iinc (pc := 54) (ls1 := fun v => [(6, .inl (.int v)), (5, .inl (.int v5_1)), (0, .inr (k, 17)), (2, .inl (.int v2)), (3, .inl (.int v3)), (4, .inl (.int v4))]) hC 6 5 (by decide) (1 : Int32) rfl rfl (fun v => rfl) dX1_highestGate_54 (fun v6_2 => ?_)
  refine z_goto (pc := 57) hC 11 rfl dX1_highestGate_57 ?_
  exact z_sub [2, 3, 4, 5, 1, 0] rfl (h11 v2 v3 v4 v5_1 v6_2)
theorem r_Qu_highestGate_11 {C : Cxt} {G : Geo} {M : Mem} {k : Nat} {d : Sl} (hC : Cx C cX1_highestGate 7 "FrameHeirs$Questions" (some .int) rm_X1_highestGate G) (hk : LWd G k) (hk2 : 2 ≤ k) : ∀ (n : Nat) (v2 : Int32) (v3 : Int32) (v4 : Int32) (v5 : Int32) (v6 : Int32), Rz C 7 G (setS M k) (poP avI ((setS M k) d)) 11 [(0, .inr (k, 17)), (2, .inl (.int v2)), (3, .inl (.int v3)), (4, .inl (.int v4)), (5, .inl (.int v5)), (6, .inl (.int v6))] [] d (Qu_highestGate_11 d n v2 v3 v4 v5 v6) := by
  intro n
  induction n with
  | zero => intros; exact z_none
  | succ n ih =>
    intro v2 v3 v4 v5 v6
    rw [Qu_highestGate_11]
    refine z_iload (pc := 11) hC 6 5 rfl dX1_highestGate_11 ?_
    refine z_sipush (pc := 13) hC (192 : Int32) rfl dX1_highestGate_13 ?_
    refine z_icmp_ge (pc := 16) hC 60 rfl dX1_highestGate_16 ?_ ?_
    · refine z_iload_n (pc := 60) hC 3 rfl 2 rfl dX1_highestGate_60 ?_
      exact z_iret (pc := 61) hC rfl dX1_highestGate_61
    · refine z_iload (pc := 19) hC 5 4 rfl dX1_highestGate_19 ?_
      refine z_if_lt (pc := 21) hC 60 rfl dX1_highestGate_21 ?_ ?_
      · refine z_iload_n (pc := 60) hC 3 rfl 2 rfl dX1_highestGate_60 ?_
        exact z_iret (pc := 61) hC rfl dX1_highestGate_61
      · refine z_aload_n (pc := 24) hC 0 rfl 0 rfl dX1_highestGate_24 ?_
        refine z_getc (pc := 25) hC (hk 17 rfl) f_17_0 q294 dX1_highestGate_25 ?_
        refine z_iload (pc := 28) hC 5 4 rfl dX1_highestGate_28 ?_
        refine zs_iald (pc := 30) hC (hk 18 rfl) rfl dX1_highestGate_30 ?_
        refine z_iload_n (pc := 31) hC 2 rfl 1 rfl dX1_highestGate_31 ?_
        refine z_icmp_ne (pc := 32) hC 41 rfl dX1_highestGate_32 ?_ ?_
        · refine z_iload (pc := 41) hC 5 4 rfl dX1_highestGate_41 ?_
          refine z_istore (pc := 43) (ls1 := fun v => [(4, .inl (.int v)), (0, .inr (k, 17)), (2, .inl (.int v2)), (3, .inl (.int v3)), (5, .inl (.int v5)), (6, .inl (.int v6))]) hC 4 (by decide) (fun v => rfl) dX1_highestGate_43 (fun v4_3 => ?_)
          exact z_sub [1, 2, 3, 0, 4, 5] rfl (r_Qu_highestGate_45 hC hk hk2 _ ih v2 v3 v4_3 v5 v6)
        · refine z_iload (pc := 35) hC 4 3 rfl dX1_highestGate_35 ?_
          refine z_istore_n (pc := 37) (ls1 := fun v => [(3, .inl (.int v)), (0, .inr (k, 17)), (2, .inl (.int v2)), (4, .inl (.int v4)), (5, .inl (.int v5)), (6, .inl (.int v6))]) hC 3 rfl (by decide) (fun v => rfl) dX1_highestGate_37 (fun v3_4 => ?_)
          refine z_goto (pc := 38) hC 45 rfl dX1_highestGate_38 ?_
          exact z_sub [1, 2, 0, 3, 4, 5] rfl (r_Qu_highestGate_45 hC hk hk2 _ ih v2 v3_4 v4 v5 v6)
theorem r_Qu_highestGate {C : Cxt} {G : Geo} {M : Mem} {k : Nat} (hC : Cx C cX1_highestGate 7 "FrameHeirs$Questions" (some .int) rm_X1_highestGate G) (hk : LWd G k) (hk2 : 2 ≤ k) (d : Sl) (a1 : Int32) (a2 : Int32) : Rz C 7 G (setS M k) (poP avI ((setS M k) d)) 0 [(0, .inr (k, 17)), (1, .inl (.int a1)), (2, .inl (.int a2))] [] d (Qu_highestGate d a1 a2) := by
  unfold Qu_highestGate
  refine z_iconst (pc := 0) hC (-1 : Int32) rfl dX1_highestGate_0 ?_
  refine z_istore_n (pc := 1) (ls1 := fun v => [(3, .inl (.int v)), (0, .inr (k, 17)), (1, .inl (.int a1)), (2, .inl (.int a2))]) hC 3 rfl (by decide) (fun v => rfl) dX1_highestGate_1 (fun v3_5 => ?_)
  refine z_iconst (pc := 2) hC (-1 : Int32) rfl dX1_highestGate_2 ?_
  refine z_istore (pc := 3) (ls1 := fun v => [(4, .inl (.int v)), (3, .inl (.int v3_5)), (0, .inr (k, 17)), (1, .inl (.int a1)), (2, .inl (.int a2))]) hC 4 (by decide) (fun v => rfl) dX1_highestGate_3 (fun v4_6 => ?_)
  refine z_iload_n (pc := 5) hC 1 rfl 3 rfl dX1_highestGate_5 ?_
  refine z_istore (pc := 6) (ls1 := fun v => [(5, .inl (.int v)), (4, .inl (.int v4_6)), (3, .inl (.int v3_5)), (0, .inr (k, 17)), (1, .inl (.int a1)), (2, .inl (.int a2))]) hC 5 (by decide) (fun v => rfl) dX1_highestGate_6 (fun v5_7 => ?_)
  refine z_iconst (pc := 8) hC (0 : Int32) rfl dX1_highestGate_8 ?_
  refine z_istore (pc := 9) (ls1 := fun v => [(6, .inl (.int v)), (5, .inl (.int v5_7)), (4, .inl (.int v4_6)), (3, .inl (.int v3_5)), (0, .inr (k, 17)), (1, .inl (.int a1)), (2, .inl (.int a2))]) hC 6 (by decide) (fun v => rfl) dX1_highestGate_9 (fun v6_8 => ?_)
  exact z_sub [4, 6, 3, 2, 1, 0] rfl (r_Qu_highestGate_11 hC hk hk2 FU a2 v3_5 v4_6 v5_7 v6_8)
theorem c_X1_highestGate {G : Geo} {M : Mem} {k : Nat} (hG : GOk G) (hk : LWd G k) (hk2 : 2 ≤ k) {d : Sl} {a1 : Int32} {a2 : Int32} (l : Launch) (r : Int32) (h : Qu_highestGate d a1 a2 = some r) : Mt l yX1_highestGate cX1_highestGate 7 (some .int) rm_X1_highestGate G [.inr (k, 17), .inl (.int a1), .inl (.int a2)] ((setS M k) d) (avI r) ((setS M k) d) :=
  mt_of (mem := (setS M k)) (po := poP avI ((setS M k) d)) (x0 := d) (t := r) rfl hG [.inr (k, 17), .inl (.int a1), .inl (.int a2)] (Nat.le_of_ble_eq_true rfl) rfl (fun C hC => r_Qu_highestGate hC hk hk2 d a1 a2) h
-- FrameHeirs$Questions.partings(LFrameHeirs$Deeds;II)I
abbrev rm_X1_partings : Room := { frames := 1, cells := 0, slots := 0, locals := 26 }
theorem dX1_partings_0 : decode cX1_partings 0 = .ok (.aload_n 0, 1) := by decide +kernel
theorem dX1_partings_1 : decode cX1_partings 1 = .ok (.getfield 83, 3) := by decide +kernel
theorem dX1_partings_4 : decode cX1_partings 4 = .ok (.iconst 0, 1) := by decide +kernel
theorem dX1_partings_5 : decode cX1_partings 5 = .ok (.invokestatic 86, 3) := by decide +kernel
theorem dX1_partings_8 : decode cX1_partings 8 = .ok (.iconst 0, 1) := by decide +kernel
theorem dX1_partings_9 : decode cX1_partings 9 = .ok (.istore_n 3, 1) := by decide +kernel
theorem dX1_partings_10 : decode cX1_partings 10 = .ok (.iconst 0, 1) := by decide +kernel
theorem dX1_partings_11 : decode cX1_partings 11 = .ok (.istore 4, 2) := by decide +kernel
theorem dX1_partings_13 : decode cX1_partings 13 = .ok (.iload 4, 2) := by decide +kernel
theorem dX1_partings_15 : decode cX1_partings 15 = .ok (.aload_n 0, 1) := by decide +kernel
theorem dX1_partings_16 : decode cX1_partings 16 = .ok (.getfield 60, 3) := by decide +kernel
theorem dX1_partings_19 : decode cX1_partings 19 = .ok (.if_icmp .ge 68, 3) := by decide +kernel
theorem dX1_partings_22 : decode cX1_partings 22 = .ok (.aload_n 0, 1) := by decide +kernel
theorem dX1_partings_23 : decode cX1_partings 23 = .ok (.getfield 21, 3) := by decide +kernel
theorem dX1_partings_26 : decode cX1_partings 26 = .ok (.iload 4, 2) := by decide +kernel
theorem dX1_partings_28 : decode cX1_partings 28 = .ok (.iaload, 1) := by decide +kernel
theorem dX1_partings_29 : decode cX1_partings 29 = .ok (.ifCond .lt 52, 3) := by decide +kernel
theorem dX1_partings_32 : decode cX1_partings 32 = .ok (.aload_n 0, 1) := by decide +kernel
theorem dX1_partings_33 : decode cX1_partings 33 = .ok (.getfield 73, 3) := by decide +kernel
theorem dX1_partings_36 : decode cX1_partings 36 = .ok (.iload 4, 2) := by decide +kernel
theorem dX1_partings_38 : decode cX1_partings 38 = .ok (.iaload, 1) := by decide +kernel
theorem dX1_partings_39 : decode cX1_partings 39 = .ok (.iload_n 2, 1) := by decide +kernel
theorem dX1_partings_40 : decode cX1_partings 40 = .ok (.if_icmp .eq 6, 3) := by decide +kernel
theorem dX1_partings_43 : decode cX1_partings 43 = .ok (.goto 38, 3) := by decide +kernel
theorem dX1_partings_46 : decode cX1_partings 46 = .ok (.aload_n 0, 1) := by decide +kernel
theorem dX1_partings_47 : decode cX1_partings 47 = .ok (.iload 4, 2) := by decide +kernel
theorem dX1_partings_49 : decode cX1_partings 49 = .ok (.iload_n 1, 1) := by decide +kernel
theorem dX1_partings_50 : decode cX1_partings 50 = .ok (.invokestatic 92, 3) := by decide +kernel
theorem dX1_partings_53 : decode cX1_partings 53 = .ok (.istore 5, 2) := by decide +kernel
theorem dX1_partings_55 : decode cX1_partings 55 = .ok (.iload 5, 2) := by decide +kernel
theorem dX1_partings_57 : decode cX1_partings 57 = .ok (.ifCond .lt 24, 3) := by decide +kernel
theorem dX1_partings_60 : decode cX1_partings 60 = .ok (.aload_n 0, 1) := by decide +kernel
theorem dX1_partings_61 : decode cX1_partings 61 = .ok (.getfield 83, 3) := by decide +kernel
theorem dX1_partings_64 : decode cX1_partings 64 = .ok (.iload 5, 2) := by decide +kernel
theorem dX1_partings_66 : decode cX1_partings 66 = .ok (.iaload, 1) := by decide +kernel
theorem dX1_partings_67 : decode cX1_partings 67 = .ok (.ifCond .ne 14, 3) := by decide +kernel
theorem dX1_partings_70 : decode cX1_partings 70 = .ok (.aload_n 0, 1) := by decide +kernel
theorem dX1_partings_71 : decode cX1_partings 71 = .ok (.getfield 83, 3) := by decide +kernel
theorem dX1_partings_74 : decode cX1_partings 74 = .ok (.iload 5, 2) := by decide +kernel
theorem dX1_partings_76 : decode cX1_partings 76 = .ok (.iconst 1, 1) := by decide +kernel
theorem dX1_partings_77 : decode cX1_partings 77 = .ok (.iastore, 1) := by decide +kernel
theorem dX1_partings_78 : decode cX1_partings 78 = .ok (.iinc 3 1, 3) := by decide +kernel
theorem dX1_partings_81 : decode cX1_partings 81 = .ok (.iinc 4 1, 3) := by decide +kernel
theorem dX1_partings_84 : decode cX1_partings 84 = .ok (.goto (-71), 3) := by decide +kernel
theorem dX1_partings_87 : decode cX1_partings 87 = .ok (.iload_n 3, 1) := by decide +kernel
theorem dX1_partings_88 : decode cX1_partings 88 = .ok (.ireturn, 1) := by decide +kernel
def Qu_partings_81 (k13 : Int32 → Int32 → Int32 → Int32 → Sl → Option (Int32 × Sl)) (v1 : Int32) (v2 : Int32) (v3 : Int32) (v4 : Int32) (d : Sl) : Option (Int32 × Sl) :=
  bnd (v4 + (1 : Int32)) fun v4_1 =>
  k13 v1 v2 v3 v4_1 d
def Qu_partings_13 : Nat → Int32 → Int32 → Int32 → Int32 → Sl → Option (Int32 × Sl)
  | 0, _, _, _, _, _ => none
  | n + 1, v1, v2, v3, v4, d =>
    if (d 17 16) ≤ v4 then
      (some (v3, d))
    else
      (if inb v4 192 then
      if (d 21 (ix v4)) < 0 then
        (Qu_partings_81 (Qu_partings_13 n) v1 v2 v3 v4 d)
      else
        (if inb v4 192 then
        if (d 18 (ix v4)) = v2 then
          (bp (Qu_highestGate d v4 v1) fun r2 =>
          bnd r2 fun v5_3 =>
          if v5_3 < 0 then
            (Qu_partings_81 (Qu_partings_13 n) v1 v2 v3 v4 d)
          else
            (if inb v5_3 192 then
            if (d 33 (ix v5_3)) = 0 then
              (if inb v5_3 192 then
              bnd (wr d 33 (ix v5_3) (1 : Int32)) fun d4 =>
              bnd (v3 + (1 : Int32)) fun v3_5 =>
              Qu_partings_81 (Qu_partings_13 n) v1 v2 v3_5 v4 d4
              else none)
            else
              (Qu_partings_81 (Qu_partings_13 n) v1 v2 v3 v4 d)
            else none))
        else
          (Qu_partings_81 (Qu_partings_13 n) v1 v2 v3 v4 d)
        else none)
      else none)
def Qu_partings (d : Sl) (a1 : Int32) (a2 : Int32) : Option (Int32 × Sl) :=
  bd (Jk_fill_53178 33 192 d (0 : Int32)) fun r6 d7 =>
  bnd (0 : Int32) fun v3_8 =>
  bnd (0 : Int32) fun v4_9 =>
  Qu_partings_13 FU a1 a2 v3_8 v4_9 d7
theorem y_X1_partings : YS yX1_partings cX1_partings 6 (some .int) 3 := ⟨q982, trivial, q983, q152, by decide +kernel, by decide +kernel, by decide +kernel, by decide +kernel⟩
theorem r_Qu_partings_81 {C : Cxt} {G : Geo} {M : Mem} {k : Nat} (hC : Cx C cX1_partings 6 "FrameHeirs$Questions" (some .int) rm_X1_partings G) (hk : LWd G k) (hk2 : 2 ≤ k) (k13 : Int32 → Int32 → Int32 → Int32 → Sl → Option (Int32 × Sl)) (h13 : ∀ (v1 : Int32) (v2 : Int32) (v3 : Int32) (v4 : Int32) (d : Sl), Rz C 6 G (setS M k) (poM avI (setS M k)) 13 [(0, .inr (k, 17)), (1, .inl (.int v1)), (2, .inl (.int v2)), (3, .inl (.int v3)), (4, .inl (.int v4))] [] d (k13 v1 v2 v3 v4 d)) (v1 : Int32) (v2 : Int32) (v3 : Int32) (v4 : Int32) (d : Sl) : Rz C 6 G (setS M k) (poM avI (setS M k)) 81 [(0, .inr (k, 17)), (1, .inl (.int v1)), (2, .inl (.int v2)), (3, .inl (.int v3)), (4, .inl (.int v4))] [] d (Qu_partings_81 k13 v1 v2 v3 v4 d) := by
  unfold Qu_partings_81
  refine z_iinc (pc := 81) (ls1 := fun v => [(4, .inl (.int v)), (0, .inr (k, 17)), (1, .inl (.int v1)), (2, .inl (.int v2)), (3, .inl (.int v3))]) hC 4 4 (by decide) (1 : Int32) rfl rfl (fun v => rfl) dX1_partings_81 (fun v4_1 => ?_)
  refine z_goto (pc := 84) hC 13 rfl dX1_partings_84 ?_
  exact z_sub [1, 2, 3, 4, 0] rfl (h13 v1 v2 v3 v4_1 d)
theorem r_Qu_partings_13 {C : Cxt} {G : Geo} {M : Mem} {k : Nat} (hC : Cx C cX1_partings 6 "FrameHeirs$Questions" (some .int) rm_X1_partings G) (hk : LWd G k) (hk2 : 2 ≤ k) : ∀ (n : Nat) (v1 : Int32) (v2 : Int32) (v3 : Int32) (v4 : Int32) (d : Sl), Rz C 6 G (setS M k) (poM avI (setS M k)) 13 [(0, .inr (k, 17)), (1, .inl (.int v1)), (2, .inl (.int v2)), (3, .inl (.int v3)), (4, .inl (.int v4))] [] d (Qu_partings_13 n v1 v2 v3 v4 d) := by
  intro n
  induction n with
  | zero => intros; exact z_none
  | succ n ih =>
    intro v1 v2 v3 v4 d
    rw [Qu_partings_13]
    refine z_iload (pc := 13) hC 4 4 rfl dX1_partings_13 ?_
    refine z_aload_n (pc := 15) hC 0 rfl 0 rfl dX1_partings_15 ?_
    refine zs_geti (pc := 16) hC (hk 17 rfl) f_17_16 q328 dX1_partings_16 ?_
    refine z_icmp_ge (pc := 19) hC 87 rfl dX1_partings_19 ?_ ?_
    · refine z_iload_n (pc := 87) hC 3 rfl 3 rfl dX1_partings_87 ?_
      exact z_iret (pc := 88) hC rfl dX1_partings_88
    · refine z_aload_n (pc := 22) hC 0 rfl 0 rfl dX1_partings_22 ?_
      refine z_getc (pc := 23) hC (hk 17 rfl) f_17_3 q303 dX1_partings_23 ?_
      refine z_iload (pc := 26) hC 4 4 rfl dX1_partings_26 ?_
      refine zs_iald (pc := 28) hC (hk 21 rfl) rfl dX1_partings_28 ?_
      refine z_if_lt (pc := 29) hC 81 rfl dX1_partings_29 ?_ ?_
      · exact z_sub [0, 1, 2, 3, 4] rfl (r_Qu_partings_81 hC hk hk2 _ ih v1 v2 v3 v4 d)
      · refine z_aload_n (pc := 32) hC 0 rfl 0 rfl dX1_partings_32 ?_
        refine z_getc (pc := 33) hC (hk 17 rfl) f_17_0 q294 dX1_partings_33 ?_
        refine z_iload (pc := 36) hC 4 4 rfl dX1_partings_36 ?_
        refine zs_iald (pc := 38) hC (hk 18 rfl) rfl dX1_partings_38 ?_
        refine z_iload_n (pc := 39) hC 2 rfl 2 rfl dX1_partings_39 ?_
        refine z_icmp_eq (pc := 40) hC 46 rfl dX1_partings_40 ?_ ?_
        · refine z_aload_n (pc := 46) hC 0 rfl 0 rfl dX1_partings_46 ?_
          refine z_iload (pc := 47) hC 4 4 rfl dX1_partings_47 ?_
          refine z_iload_n (pc := 49) hC 1 rfl 1 rfl dX1_partings_49 ?_
          refine z_piS (pc := 50) (st := []) hC y_X1_highestGate q985 [.inr (k, 17), .inl (.int v4), .inl (.int v1)] rfl (c_X1_highestGate hC.2.2.2.2.2.2.1 hk hk2) rfl ⟨rfl, rfl, (Nat.le_of_ble_eq_true rfl), (Nat.le_of_ble_eq_true rfl)⟩ (Nat.le_of_ble_eq_true rfl) dX1_partings_50 (fun r2 => ?_)
          refine z_istore (pc := 53) (ls1 := fun v => [(5, .inl (.int v)), (0, .inr (k, 17)), (1, .inl (.int v1)), (2, .inl (.int v2)), (3, .inl (.int v3)), (4, .inl (.int v4))]) hC 5 (by decide) (fun v => rfl) dX1_partings_53 (fun v5_3 => ?_)
          refine z_iload (pc := 55) hC 5 0 rfl dX1_partings_55 ?_
          refine z_if_lt (pc := 57) hC 81 rfl dX1_partings_57 ?_ ?_
          · exact z_sub [1, 2, 3, 4, 5] rfl (r_Qu_partings_81 hC hk hk2 _ ih v1 v2 v3 v4 d)
          · refine z_aload_n (pc := 60) hC 0 rfl 1 rfl dX1_partings_60 ?_
            refine z_getc (pc := 61) hC (hk 17 rfl) f_17_15 q326 dX1_partings_61 ?_
            refine z_iload (pc := 64) hC 5 0 rfl dX1_partings_64 ?_
            refine zs_iald (pc := 66) hC (hk 33 rfl) rfl dX1_partings_66 ?_
            refine z_if_ne (pc := 67) hC 81 rfl dX1_partings_67 ?_ ?_
            · exact z_sub [1, 2, 3, 4, 5] rfl (r_Qu_partings_81 hC hk hk2 _ ih v1 v2 v3 v4 d)
            · refine z_aload_n (pc := 70) hC 0 rfl 1 rfl dX1_partings_70 ?_
              refine z_getc (pc := 71) hC (hk 17 rfl) f_17_15 q326 dX1_partings_71 ?_
              refine z_iload (pc := 74) hC 5 0 rfl dX1_partings_74 ?_
              refine z_iconst (pc := 76) hC (1 : Int32) rfl dX1_partings_76 ?_
              refine zs_iast (pc := 77) hC (hk 33 rfl) (by decide) rfl dX1_partings_77 (fun d4 => ?_)
              refine z_iinc (pc := 78) (ls1 := fun v => [(3, .inl (.int v)), (5, .inl (.int v5_3)), (0, .inr (k, 17)), (1, .inl (.int v1)), (2, .inl (.int v2)), (4, .inl (.int v4))]) hC 3 4 (by decide) (1 : Int32) rfl rfl (fun v => rfl) dX1_partings_78 (fun v3_5 => ?_)
              exact z_sub [2, 3, 4, 0, 5] rfl (r_Qu_partings_81 hC hk hk2 _ ih v1 v2 v3_5 v4 d4)
        · refine z_goto (pc := 43) hC 81 rfl dX1_partings_43 ?_
          exact z_sub [0, 1, 2, 3, 4] rfl (r_Qu_partings_81 hC hk hk2 _ ih v1 v2 v3 v4 d)
theorem r_Qu_partings {C : Cxt} {G : Geo} {M : Mem} {k : Nat} (hC : Cx C cX1_partings 6 "FrameHeirs$Questions" (some .int) rm_X1_partings G) (hk : LWd G k) (hk2 : 2 ≤ k) (d : Sl) (a1 : Int32) (a2 : Int32) : Rz C 6 G (setS M k) (poM avI (setS M k)) 0 [(0, .inr (k, 17)), (1, .inl (.int a1)), (2, .inl (.int a2))] [] d (Qu_partings d a1 a2) := by
  unfold Qu_partings
  refine z_aload_n (pc := 0) hC 0 rfl 0 rfl dX1_partings_0 ?_
  refine z_getc (pc := 1) hC (hk 17 rfl) f_17_15 q326 dX1_partings_1 ?_
  refine z_iconst (pc := 4) hC (0 : Int32) rfl dX1_partings_4 ?_
  refine z_cvS (pc := 5) (st := []) hC y_J7_fill_53178 q984 [.inr (k, 33), .inl (.int (0 : Int32))] rfl (c_J7_fill_53178 (Nb0 := 192) hC.2.2.2.2.2.2.1 (hk 33 rfl) (by decide) rfl) rfl ⟨rfl, rfl, (Nat.le_of_ble_eq_true rfl), (Nat.le_of_ble_eq_true rfl)⟩ (Nat.le_of_ble_eq_true rfl) dX1_partings_5 (fun r6 d7 => ?_)
  refine z_iconst (pc := 8) hC (0 : Int32) rfl dX1_partings_8 ?_
  refine z_istore_n (pc := 9) (ls1 := fun v => [(3, .inl (.int v)), (0, .inr (k, 17)), (1, .inl (.int a1)), (2, .inl (.int a2))]) hC 3 rfl (by decide) (fun v => rfl) dX1_partings_9 (fun v3_8 => ?_)
  refine z_iconst (pc := 10) hC (0 : Int32) rfl dX1_partings_10 ?_
  refine z_istore (pc := 11) (ls1 := fun v => [(4, .inl (.int v)), (3, .inl (.int v3_8)), (0, .inr (k, 17)), (1, .inl (.int a1)), (2, .inl (.int a2))]) hC 4 (by decide) (fun v => rfl) dX1_partings_11 (fun v4_9 => ?_)
  exact z_sub [2, 3, 4, 1, 0] rfl (r_Qu_partings_13 hC hk hk2 FU a1 a2 v3_8 v4_9 d7)
theorem c_X1_partings {G : Geo} {M : Mem} {k : Nat} (hG : GOk G) (hk : LWd G k) (hk2 : 2 ≤ k) {d : Sl} {a1 : Int32} {a2 : Int32} (l : Launch) (r : Int32) (d1 : Sl) (h : Qu_partings d a1 a2 = some (r, d1)) : Mt l yX1_partings cX1_partings 6 (some .int) rm_X1_partings G [.inr (k, 17), .inl (.int a1), .inl (.int a2)] ((setS M k) d) (avI r) ((setS M k) d1) :=
  mt_of (mem := (setS M k)) (po := poM avI (setS M k)) (x0 := d) (t := (r, d1)) rfl hG [.inr (k, 17), .inl (.int a1), .inl (.int a2)] (Nat.le_of_ble_eq_true rfl) rfl (fun C hC => r_Qu_partings hC hk hk2 d a1 a2) h
-- FrameHeirs$Questions.isBeneathRegion(LFrameHeirs$Deeds;IIII)Z
abbrev rm_X1_isBeneathRegion : Room := { frames := 0, cells := 0, slots := 0, locals := 0 }
theorem dX1_isBeneathRegion_0 : decode cX1_isBeneathRegion 0 = .ok (.aload_n 0, 1) := by decide +kernel
theorem dX1_isBeneathRegion_1 : decode cX1_isBeneathRegion 1 = .ok (.getfield 44, 3) := by decide +kernel
theorem dX1_isBeneathRegion_4 : decode cX1_isBeneathRegion 4 = .ok (.iload_n 1, 1) := by decide +kernel
theorem dX1_isBeneathRegion_5 : decode cX1_isBeneathRegion 5 = .ok (.iaload, 1) := by decide +kernel
theorem dX1_isBeneathRegion_6 : decode cX1_isBeneathRegion 6 = .ok (.istore 5, 2) := by decide +kernel
theorem dX1_isBeneathRegion_8 : decode cX1_isBeneathRegion 8 = .ok (.iconst 0, 1) := by decide +kernel
theorem dX1_isBeneathRegion_9 : decode cX1_isBeneathRegion 9 = .ok (.istore 6, 2) := by decide +kernel
theorem dX1_isBeneathRegion_11 : decode cX1_isBeneathRegion 11 = .ok (.iload 6, 2) := by decide +kernel
theorem dX1_isBeneathRegion_13 : decode cX1_isBeneathRegion 13 = .ok (.sipush 192, 3) := by decide +kernel
theorem dX1_isBeneathRegion_16 : decode cX1_isBeneathRegion 16 = .ok (.if_icmp .ge 68, 3) := by decide +kernel
theorem dX1_isBeneathRegion_19 : decode cX1_isBeneathRegion 19 = .ok (.iload 5, 2) := by decide +kernel
theorem dX1_isBeneathRegion_21 : decode cX1_isBeneathRegion 21 = .ok (.ifCond .lt 63, 3) := by decide +kernel
theorem dX1_isBeneathRegion_24 : decode cX1_isBeneathRegion 24 = .ok (.aload_n 0, 1) := by decide +kernel
theorem dX1_isBeneathRegion_25 : decode cX1_isBeneathRegion 25 = .ok (.getfield 24, 3) := by decide +kernel
theorem dX1_isBeneathRegion_28 : decode cX1_isBeneathRegion 28 = .ok (.iload 5, 2) := by decide +kernel
theorem dX1_isBeneathRegion_30 : decode cX1_isBeneathRegion 30 = .ok (.iaload, 1) := by decide +kernel
theorem dX1_isBeneathRegion_31 : decode cX1_isBeneathRegion 31 = .ok (.istore 7, 2) := by decide +kernel
theorem dX1_isBeneathRegion_33 : decode cX1_isBeneathRegion 33 = .ok (.aload_n 0, 1) := by decide +kernel
theorem dX1_isBeneathRegion_34 : decode cX1_isBeneathRegion 34 = .ok (.getfield 73, 3) := by decide +kernel
theorem dX1_isBeneathRegion_37 : decode cX1_isBeneathRegion 37 = .ok (.iload 5, 2) := by decide +kernel
theorem dX1_isBeneathRegion_39 : decode cX1_isBeneathRegion 39 = .ok (.iaload, 1) := by decide +kernel
theorem dX1_isBeneathRegion_40 : decode cX1_isBeneathRegion 40 = .ok (.iload_n 2, 1) := by decide +kernel
theorem dX1_isBeneathRegion_41 : decode cX1_isBeneathRegion 41 = .ok (.if_icmp .ne 28, 3) := by decide +kernel
theorem dX1_isBeneathRegion_44 : decode cX1_isBeneathRegion 44 = .ok (.iload 7, 2) := by decide +kernel
theorem dX1_isBeneathRegion_46 : decode cX1_isBeneathRegion 46 = .ok (.iload 4, 2) := by decide +kernel
theorem dX1_isBeneathRegion_48 : decode cX1_isBeneathRegion 48 = .ok (.if_icmp .ge 21, 3) := by decide +kernel
theorem dX1_isBeneathRegion_51 : decode cX1_isBeneathRegion 51 = .ok (.iload 7, 2) := by decide +kernel
theorem dX1_isBeneathRegion_53 : decode cX1_isBeneathRegion 53 = .ok (.iconst 1, 1) := by decide +kernel
theorem dX1_isBeneathRegion_54 : decode cX1_isBeneathRegion 54 = .ok (.aload_n 0, 1) := by decide +kernel
theorem dX1_isBeneathRegion_55 : decode cX1_isBeneathRegion 55 = .ok (.getfield 21, 3) := by decide +kernel
theorem dX1_isBeneathRegion_58 : decode cX1_isBeneathRegion 58 = .ok (.iload 5, 2) := by decide +kernel
theorem dX1_isBeneathRegion_60 : decode cX1_isBeneathRegion 60 = .ok (.iaload, 1) := by decide +kernel
theorem dX1_isBeneathRegion_61 : decode cX1_isBeneathRegion 61 = .ok (.ishl, 1) := by decide +kernel
theorem dX1_isBeneathRegion_62 : decode cX1_isBeneathRegion 62 = .ok (.iadd, 1) := by decide +kernel
theorem dX1_isBeneathRegion_63 : decode cX1_isBeneathRegion 63 = .ok (.iload_n 3, 1) := by decide +kernel
theorem dX1_isBeneathRegion_64 : decode cX1_isBeneathRegion 64 = .ok (.if_icmp .le 5, 3) := by decide +kernel
theorem dX1_isBeneathRegion_67 : decode cX1_isBeneathRegion 67 = .ok (.iconst 1, 1) := by decide +kernel
theorem dX1_isBeneathRegion_68 : decode cX1_isBeneathRegion 68 = .ok (.ireturn, 1) := by decide +kernel
theorem dX1_isBeneathRegion_69 : decode cX1_isBeneathRegion 69 = .ok (.aload_n 0, 1) := by decide +kernel
theorem dX1_isBeneathRegion_70 : decode cX1_isBeneathRegion 70 = .ok (.getfield 44, 3) := by decide +kernel
theorem dX1_isBeneathRegion_73 : decode cX1_isBeneathRegion 73 = .ok (.iload 5, 2) := by decide +kernel
theorem dX1_isBeneathRegion_75 : decode cX1_isBeneathRegion 75 = .ok (.iaload, 1) := by decide +kernel
theorem dX1_isBeneathRegion_76 : decode cX1_isBeneathRegion 76 = .ok (.istore 5, 2) := by decide +kernel
theorem dX1_isBeneathRegion_78 : decode cX1_isBeneathRegion 78 = .ok (.iinc 6 1, 3) := by decide +kernel
theorem dX1_isBeneathRegion_81 : decode cX1_isBeneathRegion 81 = .ok (.goto (-70), 3) := by decide +kernel
theorem dX1_isBeneathRegion_84 : decode cX1_isBeneathRegion 84 = .ok (.iconst 0, 1) := by decide +kernel
theorem dX1_isBeneathRegion_85 : decode cX1_isBeneathRegion 85 = .ok (.ireturn, 1) := by decide +kernel
def Qu_isBeneathRegion_69 (k11 : Int32 → Int32 → Int32 → Int32 → Int32 → Option Int32) (d : Sl) (v2 : Int32) (v3 : Int32) (v4 : Int32) (v5 : Int32) (v6 : Int32) : Option Int32 :=
  if inb v5 192 then
  bnd (d 23 (ix v5)) fun v5_1 =>
  bnd (v6 + (1 : Int32)) fun v6_2 =>
  k11 v2 v3 v4 v5_1 v6_2
  else none
def Qu_isBeneathRegion_11 (d : Sl) : Nat → Int32 → Int32 → Int32 → Int32 → Int32 → Option Int32
  | 0, _, _, _, _, _ => none
  | n + 1, v2, v3, v4, v5, v6 =>
    if (192 : Int32) ≤ v6 then
      (some (0 : Int32))
    else
      (if v5 < 0 then
        (some (0 : Int32))
      else
        (if inb v5 192 then
        bnd (d 19 (ix v5)) fun v7_3 =>
        if inb v5 192 then
        if (d 18 (ix v5)) = v2 then
          (if v4 ≤ v7_3 then
            (Qu_isBeneathRegion_69 (Qu_isBeneathRegion_11 d n) d v2 v3 v4 v5 v6)
          else
            (if inb v5 192 then
            if (v7_3 + ((1 : Int32) <<< ((d 21 (ix v5)) &&& 31))) ≤ v3 then
              (Qu_isBeneathRegion_69 (Qu_isBeneathRegion_11 d n) d v2 v3 v4 v5 v6)
            else
              (some (1 : Int32))
            else none))
        else
          (Qu_isBeneathRegion_69 (Qu_isBeneathRegion_11 d n) d v2 v3 v4 v5 v6)
        else none
        else none))
def Qu_isBeneathRegion (d : Sl) (a1 : Int32) (a2 : Int32) (a3 : Int32) (a4 : Int32) : Option Int32 :=
  if inb a1 192 then
  bnd (d 23 (ix a1)) fun v5_4 =>
  bnd (0 : Int32) fun v6_5 =>
  Qu_isBeneathRegion_11 d FU a2 a3 a4 v5_4 v6_5
  else none
theorem y_X1_isBeneathRegion : YS yX1_isBeneathRegion cX1_isBeneathRegion 8 (some .boolean) 5 := ⟨q1082, trivial, q1083, q152, by decide +kernel, by decide +kernel, by decide +kernel, by decide +kernel⟩
theorem r_Qu_isBeneathRegion_69 {C : Cxt} {G : Geo} {M : Mem} {k : Nat} {d : Sl} (hC : Cx C cX1_isBeneathRegion 8 "FrameHeirs$Questions" (some .boolean) rm_X1_isBeneathRegion G) (hk : LWd G k) (hk2 : 2 ≤ k) (k11 : Int32 → Int32 → Int32 → Int32 → Int32 → Option Int32) (h11 : ∀ (v2 : Int32) (v3 : Int32) (v4 : Int32) (v5 : Int32) (v6 : Int32), Rz C 8 G (setS M k) (poP avI ((setS M k) d)) 11 [(0, .inr (k, 17)), (2, .inl (.int v2)), (3, .inl (.int v3)), (4, .inl (.int v4)), (5, .inl (.int v5)), (6, .inl (.int v6))] [] d (k11 v2 v3 v4 v5 v6)) (v2 : Int32) (v3 : Int32) (v4 : Int32) (v5 : Int32) (v6 : Int32) : Rz C 8 G (setS M k) (poP avI ((setS M k) d)) 69 [(0, .inr (k, 17)), (2, .inl (.int v2)), (3, .inl (.int v3)), (4, .inl (.int v4)), (5, .inl (.int v5)), (6, .inl (.int v6))] [] d (Qu_isBeneathRegion_69 k11 d v2 v3 v4 v5 v6) := by
  unfold Qu_isBeneathRegion_69
  refine z_aload_n (pc := 69) hC 0 rfl 0 rfl dX1_isBeneathRegion_69 ?_
  refine z_getc (pc := 70) hC (hk 17 rfl) f_17_5 q309 dX1_isBeneathRegion_70 ?_
  refine z_iload (pc := 73) hC 5 4 rfl dX1_isBeneathRegion_73 ?_
  refine zs_iald (pc := 75) hC (hk 23 rfl) rfl dX1_isBeneathRegion_75 ?_
  refine z_istore (pc := 76) (ls1 := fun v => [(5, .inl (.int v)), (0, .inr (k, 17)), (2, .inl (.int v2)), (3, .inl (.int v3)), (4, .inl (.int v4)), (6, .inl (.int v6))]) hC 5 (by decide) (fun v => rfl) dX1_isBeneathRegion_76 (fun v5_1 => ?_)
  refine z_iinc (pc := 78) (ls1 := fun v => [(6, .inl (.int v)), (5, .inl (.int v5_1)), (0, .inr (k, 17)), (2, .inl (.int v2)), (3, .inl (.int v3)), (4, .inl (.int v4))]) hC 6 5 (by decide) (1 : Int32) rfl rfl (fun v => rfl) dX1_isBeneathRegion_78 (fun v6_2 => ?_)
  refine z_goto (pc := 81) hC 11 rfl dX1_isBeneathRegion_81 ?_
  exact z_sub [2, 3, 4, 5, 1, 0] rfl (h11 v2 v3 v4 v5_1 v6_2)
theorem r_Qu_isBeneathRegion_11 {C : Cxt} {G : Geo} {M : Mem} {k : Nat} {d : Sl} (hC : Cx C cX1_isBeneathRegion 8 "FrameHeirs$Questions" (some .boolean) rm_X1_isBeneathRegion G) (hk : LWd G k) (hk2 : 2 ≤ k) : ∀ (n : Nat) (v2 : Int32) (v3 : Int32) (v4 : Int32) (v5 : Int32) (v6 : Int32), Rz C 8 G (setS M k) (poP avI ((setS M k) d)) 11 [(0, .inr (k, 17)), (2, .inl (.int v2)), (3, .inl (.int v3)), (4, .inl (.int v4)), (5, .inl (.int v5)), (6, .inl (.int v6))] [] d (Qu_isBeneathRegion_11 d n v2 v3 v4 v5 v6) := by
  intro n
  induction n with
  | zero => intros; exact z_none
  | succ n ih =>
    intro v2 v3 v4 v5 v6
    rw [Qu_isBeneathRegion_11]
    refine z_iload (pc := 11) hC 6 5 rfl dX1_isBeneathRegion_11 ?_
    refine z_sipush (pc := 13) hC (192 : Int32) rfl dX1_isBeneathRegion_13 ?_
    refine z_icmp_ge (pc := 16) hC 84 rfl dX1_isBeneathRegion_16 ?_ ?_
    · refine z_iconst (pc := 84) hC (0 : Int32) rfl dX1_isBeneathRegion_84 ?_
      exact z_zret (pc := 85) hC rfl rfl dX1_isBeneathRegion_85
    · refine z_iload (pc := 19) hC 5 4 rfl dX1_isBeneathRegion_19 ?_
      refine z_if_lt (pc := 21) hC 84 rfl dX1_isBeneathRegion_21 ?_ ?_
      · refine z_iconst (pc := 84) hC (0 : Int32) rfl dX1_isBeneathRegion_84 ?_
        exact z_zret (pc := 85) hC rfl rfl dX1_isBeneathRegion_85
      · refine z_aload_n (pc := 24) hC 0 rfl 0 rfl dX1_isBeneathRegion_24 ?_
        refine z_getc (pc := 25) hC (hk 17 rfl) f_17_1 q296 dX1_isBeneathRegion_25 ?_
        refine z_iload (pc := 28) hC 5 4 rfl dX1_isBeneathRegion_28 ?_
        refine zs_iald (pc := 30) hC (hk 19 rfl) rfl dX1_isBeneathRegion_30 ?_
        refine z_istore (pc := 31) (ls1 := fun v => [(7, .inl (.int v)), (0, .inr (k, 17)), (2, .inl (.int v2)), (3, .inl (.int v3)), (4, .inl (.int v4)), (5, .inl (.int v5)), (6, .inl (.int v6))]) hC 7 (by decide) (fun v => rfl) dX1_isBeneathRegion_31 (fun v7_3 => ?_)
        refine z_aload_n (pc := 33) hC 0 rfl 1 rfl dX1_isBeneathRegion_33 ?_
        refine z_getc (pc := 34) hC (hk 17 rfl) f_17_0 q294 dX1_isBeneathRegion_34 ?_
        refine z_iload (pc := 37) hC 5 5 rfl dX1_isBeneathRegion_37 ?_
        refine zs_iald (pc := 39) hC (hk 18 rfl) rfl dX1_isBeneathRegion_39 ?_
        refine z_iload_n (pc := 40) hC 2 rfl 2 rfl dX1_isBeneathRegion_40 ?_
        refine z_icmp_ne (pc := 41) hC 69 rfl dX1_isBeneathRegion_41 ?_ ?_
        · exact z_sub [1, 2, 3, 4, 5, 6] rfl (r_Qu_isBeneathRegion_69 hC hk hk2 _ ih v2 v3 v4 v5 v6)
        · refine z_iload (pc := 44) hC 7 0 rfl dX1_isBeneathRegion_44 ?_
          refine z_iload (pc := 46) hC 4 4 rfl dX1_isBeneathRegion_46 ?_
          refine z_icmp_ge (pc := 48) hC 69 rfl dX1_isBeneathRegion_48 ?_ ?_
          · exact z_sub [1, 2, 3, 4, 5, 6] rfl (r_Qu_isBeneathRegion_69 hC hk hk2 _ ih v2 v3 v4 v5 v6)
          · refine z_iload (pc := 51) hC 7 0 rfl dX1_isBeneathRegion_51 ?_
            refine z_iconst (pc := 53) hC (1 : Int32) rfl dX1_isBeneathRegion_53 ?_
            refine z_aload_n (pc := 54) hC 0 rfl 1 rfl dX1_isBeneathRegion_54 ?_
            refine z_getc (pc := 55) hC (hk 17 rfl) f_17_3 q303 dX1_isBeneathRegion_55 ?_
            refine z_iload (pc := 58) hC 5 5 rfl dX1_isBeneathRegion_58 ?_
            refine zs_iald (pc := 60) hC (hk 21 rfl) rfl dX1_isBeneathRegion_60 ?_
            refine z_ishl (pc := 61) hC dX1_isBeneathRegion_61 ?_
            refine z_iadd (pc := 62) hC dX1_isBeneathRegion_62 ?_
            refine z_iload_n (pc := 63) hC 3 rfl 3 rfl dX1_isBeneathRegion_63 ?_
            refine z_icmp_le (pc := 64) hC 69 rfl dX1_isBeneathRegion_64 ?_ ?_
            · exact z_sub [1, 2, 3, 4, 5, 6] rfl (r_Qu_isBeneathRegion_69 hC hk hk2 _ ih v2 v3 v4 v5 v6)
            · refine z_iconst (pc := 67) hC (1 : Int32) rfl dX1_isBeneathRegion_67 ?_
              exact z_zret (pc := 68) hC rfl rfl dX1_isBeneathRegion_68
theorem r_Qu_isBeneathRegion {C : Cxt} {G : Geo} {M : Mem} {k : Nat} (hC : Cx C cX1_isBeneathRegion 8 "FrameHeirs$Questions" (some .boolean) rm_X1_isBeneathRegion G) (hk : LWd G k) (hk2 : 2 ≤ k) (d : Sl) (a1 : Int32) (a2 : Int32) (a3 : Int32) (a4 : Int32) : Rz C 8 G (setS M k) (poP avI ((setS M k) d)) 0 [(0, .inr (k, 17)), (1, .inl (.int a1)), (2, .inl (.int a2)), (3, .inl (.int a3)), (4, .inl (.int a4))] [] d (Qu_isBeneathRegion d a1 a2 a3 a4) := by
  unfold Qu_isBeneathRegion
  refine z_aload_n (pc := 0) hC 0 rfl 0 rfl dX1_isBeneathRegion_0 ?_
  refine z_getc (pc := 1) hC (hk 17 rfl) f_17_5 q309 dX1_isBeneathRegion_1 ?_
  refine z_iload_n (pc := 4) hC 1 rfl 1 rfl dX1_isBeneathRegion_4 ?_
  refine zs_iald (pc := 5) hC (hk 23 rfl) rfl dX1_isBeneathRegion_5 ?_
  refine z_istore (pc := 6) (ls1 := fun v => [(5, .inl (.int v)), (0, .inr (k, 17)), (1, .inl (.int a1)), (2, .inl (.int a2)), (3, .inl (.int a3)), (4, .inl (.int a4))]) hC 5 (by decide) (fun v => rfl) dX1_isBeneathRegion_6 (fun v5_4 => ?_)
  refine z_iconst (pc := 8) hC (0 : Int32) rfl dX1_isBeneathRegion_8 ?_
  refine z_istore (pc := 9) (ls1 := fun v => [(6, .inl (.int v)), (5, .inl (.int v5_4)), (0, .inr (k, 17)), (1, .inl (.int a1)), (2, .inl (.int a2)), (3, .inl (.int a3)), (4, .inl (.int a4))]) hC 6 (by decide) (fun v => rfl) dX1_isBeneathRegion_9 (fun v6_5 => ?_)
  exact z_sub [2, 4, 5, 6, 1, 0] rfl (r_Qu_isBeneathRegion_11 hC hk hk2 FU a2 a3 a4 v5_4 v6_5)
theorem c_X1_isBeneathRegion {G : Geo} {M : Mem} {k : Nat} (hG : GOk G) (hk : LWd G k) (hk2 : 2 ≤ k) {d : Sl} {a1 : Int32} {a2 : Int32} {a3 : Int32} {a4 : Int32} (l : Launch) (r : Int32) (h : Qu_isBeneathRegion d a1 a2 a3 a4 = some r) : Mt l yX1_isBeneathRegion cX1_isBeneathRegion 8 (some .boolean) rm_X1_isBeneathRegion G [.inr (k, 17), .inl (.int a1), .inl (.int a2), .inl (.int a3), .inl (.int a4)] ((setS M k) d) (avI r) ((setS M k) d) :=
  mt_of (mem := (setS M k)) (po := poP avI ((setS M k) d)) (x0 := d) (t := r) rfl hG [.inr (k, 17), .inl (.int a1), .inl (.int a2), .inl (.int a3), .inl (.int a4)] (Nat.le_of_ble_eq_true rfl) rfl (fun C hC => r_Qu_isBeneathRegion hC hk hk2 d a1 a2 a3 a4) h
-- FrameHeirs$Questions.loss(LFrameHeirs$Deeds;III)I
abbrev rm_X1_loss : Room := { frames := 1, cells := 0, slots := 0, locals := 27 }
theorem dX1_loss_0 : decode cX1_loss 0 = .ok (.iload_n 2, 1) := by decide +kernel
theorem dX1_loss_1 : decode cX1_loss 1 = .ok (.iconst 2, 1) := by decide +kernel
theorem dX1_loss_2 : decode cX1_loss 2 = .ok (.ishr, 1) := by decide +kernel
theorem dX1_loss_3 : decode cX1_loss 3 = .ok (.istore 4, 2) := by decide +kernel
theorem dX1_loss_5 : decode cX1_loss 5 = .ok (.iload 4, 2) := by decide +kernel
theorem dX1_loss_7 : decode cX1_loss 7 = .ok (.iconst 1, 1) := by decide +kernel
theorem dX1_loss_8 : decode cX1_loss 8 = .ok (.iload_n 2, 1) := by decide +kernel
theorem dX1_loss_9 : decode cX1_loss 9 = .ok (.iconst 3, 1) := by decide +kernel
theorem dX1_loss_10 : decode cX1_loss 10 = .ok (.iand, 1) := by decide +kernel
theorem dX1_loss_11 : decode cX1_loss 11 = .ok (.ishl, 1) := by decide +kernel
theorem dX1_loss_12 : decode cX1_loss 12 = .ok (.iadd, 1) := by decide +kernel
theorem dX1_loss_13 : decode cX1_loss 13 = .ok (.istore 5, 2) := by decide +kernel
theorem dX1_loss_15 : decode cX1_loss 15 = .ok (.iconst 0, 1) := by decide +kernel
theorem dX1_loss_16 : decode cX1_loss 16 = .ok (.istore 6, 2) := by decide +kernel
theorem dX1_loss_18 : decode cX1_loss 18 = .ok (.iload 4, 2) := by decide +kernel
theorem dX1_loss_20 : decode cX1_loss 20 = .ok (.istore 7, 2) := by decide +kernel
theorem dX1_loss_22 : decode cX1_loss 22 = .ok (.iload 7, 2) := by decide +kernel
theorem dX1_loss_24 : decode cX1_loss 24 = .ok (.iload 5, 2) := by decide +kernel
theorem dX1_loss_26 : decode cX1_loss 26 = .ok (.if_icmp .ge 38, 3) := by decide +kernel
theorem dX1_loss_29 : decode cX1_loss 29 = .ok (.aload_n 0, 1) := by decide +kernel
theorem dX1_loss_30 : decode cX1_loss 30 = .ok (.iload_n 1, 1) := by decide +kernel
theorem dX1_loss_31 : decode cX1_loss 31 = .ok (.iload 7, 2) := by decide +kernel
theorem dX1_loss_33 : decode cX1_loss 33 = .ok (.invokevirtual 70, 3) := by decide +kernel
theorem dX1_loss_36 : decode cX1_loss 36 = .ok (.istore 8, 2) := by decide +kernel
theorem dX1_loss_38 : decode cX1_loss 38 = .ok (.iload 8, 2) := by decide +kernel
theorem dX1_loss_40 : decode cX1_loss 40 = .ok (.ifCond .lt 18, 3) := by decide +kernel
theorem dX1_loss_43 : decode cX1_loss 43 = .ok (.iload 6, 2) := by decide +kernel
theorem dX1_loss_45 : decode cX1_loss 45 = .ok (.iconst 1, 1) := by decide +kernel
theorem dX1_loss_46 : decode cX1_loss 46 = .ok (.aload_n 0, 1) := by decide +kernel
theorem dX1_loss_47 : decode cX1_loss 47 = .ok (.iload 8, 2) := by decide +kernel
theorem dX1_loss_49 : decode cX1_loss 49 = .ok (.iload 7, 2) := by decide +kernel
theorem dX1_loss_51 : decode cX1_loss 51 = .ok (.invokestatic 9, 3) := by decide +kernel
theorem dX1_loss_54 : decode cX1_loss 54 = .ok (.ishl, 1) := by decide +kernel
theorem dX1_loss_55 : decode cX1_loss 55 = .ok (.ior, 1) := by decide +kernel
theorem dX1_loss_56 : decode cX1_loss 56 = .ok (.istore 6, 2) := by decide +kernel
theorem dX1_loss_58 : decode cX1_loss 58 = .ok (.iinc 7 1, 3) := by decide +kernel
theorem dX1_loss_61 : decode cX1_loss 61 = .ok (.goto (-39), 3) := by decide +kernel
theorem dX1_loss_64 : decode cX1_loss 64 = .ok (.iload 6, 2) := by decide +kernel
theorem dX1_loss_66 : decode cX1_loss 66 = .ok (.ifCond .ne 6, 3) := by decide +kernel
theorem dX1_loss_69 : decode cX1_loss 69 = .ok (.bipush (-2), 2) := by decide +kernel
theorem dX1_loss_71 : decode cX1_loss 71 = .ok (.ireturn, 1) := by decide +kernel
theorem dX1_loss_72 : decode cX1_loss 72 = .ok (.iconst 0, 1) := by decide +kernel
theorem dX1_loss_73 : decode cX1_loss 73 = .ok (.istore 7, 2) := by decide +kernel
theorem dX1_loss_75 : decode cX1_loss 75 = .ok (.iconst 0, 1) := by decide +kernel
theorem dX1_loss_76 : decode cX1_loss 76 = .ok (.istore 8, 2) := by decide +kernel
theorem dX1_loss_78 : decode cX1_loss 78 = .ok (.iconst 0, 1) := by decide +kernel
theorem dX1_loss_79 : decode cX1_loss 79 = .ok (.istore 9, 2) := by decide +kernel
theorem dX1_loss_81 : decode cX1_loss 81 = .ok (.iload 9, 2) := by decide +kernel
theorem dX1_loss_83 : decode cX1_loss 83 = .ok (.aload_n 0, 1) := by decide +kernel
theorem dX1_loss_84 : decode cX1_loss 84 = .ok (.getfield 60, 3) := by decide +kernel
theorem dX1_loss_87 : decode cX1_loss 87 = .ok (.if_icmp .ge 77, 3) := by decide +kernel
theorem dX1_loss_90 : decode cX1_loss 90 = .ok (.aload_n 0, 1) := by decide +kernel
theorem dX1_loss_91 : decode cX1_loss 91 = .ok (.getfield 21, 3) := by decide +kernel
theorem dX1_loss_94 : decode cX1_loss 94 = .ok (.iload 9, 2) := by decide +kernel
theorem dX1_loss_96 : decode cX1_loss 96 = .ok (.iaload, 1) := by decide +kernel
theorem dX1_loss_97 : decode cX1_loss 97 = .ok (.ifCond .lt 61, 3) := by decide +kernel
theorem dX1_loss_100 : decode cX1_loss 100 = .ok (.aload_n 0, 1) := by decide +kernel
theorem dX1_loss_101 : decode cX1_loss 101 = .ok (.iload 9, 2) := by decide +kernel
theorem dX1_loss_103 : decode cX1_loss 103 = .ok (.iload_n 1, 1) := by decide +kernel
theorem dX1_loss_104 : decode cX1_loss 104 = .ok (.iload 4, 2) := by decide +kernel
theorem dX1_loss_106 : decode cX1_loss 106 = .ok (.iload 5, 2) := by decide +kernel
theorem dX1_loss_108 : decode cX1_loss 108 = .ok (.invokestatic 95, 3) := by decide +kernel
theorem dX1_loss_111 : decode cX1_loss 111 = .ok (.ifCond .eq 47, 3) := by decide +kernel
theorem dX1_loss_114 : decode cX1_loss 114 = .ok (.aload_n 0, 1) := by decide +kernel
theorem dX1_loss_115 : decode cX1_loss 115 = .ok (.iload 9, 2) := by decide +kernel
theorem dX1_loss_117 : decode cX1_loss 117 = .ok (.invokestatic 76, 3) := by decide +kernel
theorem dX1_loss_120 : decode cX1_loss 120 = .ok (.iload 6, 2) := by decide +kernel
theorem dX1_loss_122 : decode cX1_loss 122 = .ok (.iand, 1) := by decide +kernel
theorem dX1_loss_123 : decode cX1_loss 123 = .ok (.istore 10, 2) := by decide +kernel
theorem dX1_loss_125 : decode cX1_loss 125 = .ok (.iload 7, 2) := by decide +kernel
theorem dX1_loss_127 : decode cX1_loss 127 = .ok (.iload 10, 2) := by decide +kernel
theorem dX1_loss_129 : decode cX1_loss 129 = .ok (.invokestatic 99, 3) := by decide +kernel
theorem dX1_loss_132 : decode cX1_loss 132 = .ok (.iadd, 1) := by decide +kernel
theorem dX1_loss_133 : decode cX1_loss 133 = .ok (.istore 7, 2) := by decide +kernel
theorem dX1_loss_135 : decode cX1_loss 135 = .ok (.iload 8, 2) := by decide +kernel
theorem dX1_loss_137 : decode cX1_loss 137 = .ok (.iload 10, 2) := by decide +kernel
theorem dX1_loss_139 : decode cX1_loss 139 = .ok (.ifCond .ne 7, 3) := by decide +kernel
theorem dX1_loss_142 : decode cX1_loss 142 = .ok (.iconst 0, 1) := by decide +kernel
theorem dX1_loss_143 : decode cX1_loss 143 = .ok (.goto 12, 3) := by decide +kernel
theorem dX1_loss_146 : decode cX1_loss 146 = .ok (.iconst 1, 1) := by decide +kernel
theorem dX1_loss_147 : decode cX1_loss 147 = .ok (.aload_n 0, 1) := by decide +kernel
theorem dX1_loss_148 : decode cX1_loss 148 = .ok (.getfield 73, 3) := by decide +kernel
theorem dX1_loss_151 : decode cX1_loss 151 = .ok (.iload 9, 2) := by decide +kernel
theorem dX1_loss_153 : decode cX1_loss 153 = .ok (.iaload, 1) := by decide +kernel
theorem dX1_loss_154 : decode cX1_loss 154 = .ok (.ishl, 1) := by decide +kernel
theorem dX1_loss_155 : decode cX1_loss 155 = .ok (.ior, 1) := by decide +kernel
theorem dX1_loss_156 : decode cX1_loss 156 = .ok (.istore 8, 2) := by decide +kernel
theorem dX1_loss_158 : decode cX1_loss 158 = .ok (.iinc 9 1, 3) := by decide +kernel
theorem dX1_loss_161 : decode cX1_loss 161 = .ok (.goto (-80), 3) := by decide +kernel
theorem dX1_loss_164 : decode cX1_loss 164 = .ok (.iload_n 3, 1) := by decide +kernel
theorem dX1_loss_165 : decode cX1_loss 165 = .ok (.ifCond .ne 8, 3) := by decide +kernel
theorem dX1_loss_168 : decode cX1_loss 168 = .ok (.iload 7, 2) := by decide +kernel
theorem dX1_loss_170 : decode cX1_loss 170 = .ok (.goto 8, 3) := by decide +kernel
theorem dX1_loss_173 : decode cX1_loss 173 = .ok (.iload 8, 2) := by decide +kernel
theorem dX1_loss_175 : decode cX1_loss 175 = .ok (.invokestatic 99, 3) := by decide +kernel
theorem dX1_loss_178 : decode cX1_loss 178 = .ok (.ireturn, 1) := by decide +kernel
def Qu_loss_158 (k81 : Int32 → Int32 → Int32 → Int32 → Int32 → Int32 → Int32 → Int32 → Option Int32) (d : Sl) (v1 : Int32) (v3 : Int32) (v4 : Int32) (v5 : Int32) (v6 : Int32) (v7 : Int32) (v8 : Int32) (v9 : Int32) : Option Int32 :=
  bnd (v9 + (1 : Int32)) fun v9_1 =>
  k81 v1 v3 v4 v5 v6 v7 v8 v9_1
def Qu_loss_155 (k81 : Int32 → Int32 → Int32 → Int32 → Int32 → Int32 → Int32 → Int32 → Option Int32) (d : Sl) (v1 : Int32) (v3 : Int32) (v4 : Int32) (v5 : Int32) (v6 : Int32) (v7 : Int32) (v9 : Int32) (s0 : Int32) (s1 : Int32) : Option Int32 :=
  bnd (s1 ||| s0) fun v8_2 =>
  Qu_loss_158 k81 d v1 v3 v4 v5 v6 v7 v8_2 v9
def Qu_loss_81 (d : Sl) : Nat → Int32 → Int32 → Int32 → Int32 → Int32 → Int32 → Int32 → Int32 → Option Int32
  | 0, _, _, _, _, _, _, _, _ => none
  | n + 1, v1, v3, v4, v5, v6, v7, v8, v9 =>
    if (d 17 16) ≤ v9 then
      (if v3 = 0 then
        (some v7)
      else
        (bp (Jk_bitCount_0f7a4 v8) fun r3 =>
        some r3))
    else
      (if inb v9 192 then
      if (d 21 (ix v9)) < 0 then
        (Qu_loss_158 (Qu_loss_81 d n) d v1 v3 v4 v5 v6 v7 v8 v9)
      else
        (bp (Qu_isBeneathRegion d v9 v1 v4 v5) fun r4 =>
        if r4 = 0 then
          (Qu_loss_158 (Qu_loss_81 d n) d v1 v3 v4 v5 v6 v7 v8 v9)
        else
          (bp (Qu_framesIn d v9) fun r5 =>
          bnd (r5 &&& v6) fun v10_6 =>
          bp (Jk_bitCount_0f7a4 v10_6) fun r7 =>
          bnd (v7 + r7) fun v7_8 =>
          if v10_6 = 0 then
            (Qu_loss_155 (Qu_loss_81 d n) d v1 v3 v4 v5 v6 v7_8 v9 (0 : Int32) v8)
          else
            (if inb v9 192 then
            Qu_loss_155 (Qu_loss_81 d n) d v1 v3 v4 v5 v6 v7_8 v9 ((1 : Int32) <<< ((d 18 (ix v9)) &&& 31)) v8
            else none)))
      else none)
def Qu_loss_58 (k22 : Int32 → Int32 → Int32 → Int32 → Int32 → Int32 → Option Int32) (d : Sl) (v1 : Int32) (v3 : Int32) (v4 : Int32) (v5 : Int32) (v6 : Int32) (v7 : Int32) : Option Int32 :=
  bnd (v7 + (1 : Int32)) fun v7_9 =>
  k22 v1 v3 v4 v5 v6 v7_9
def Qu_loss_22 (d : Sl) : Nat → Int32 → Int32 → Int32 → Int32 → Int32 → Int32 → Option Int32
  | 0, _, _, _, _, _, _ => none
  | n + 1, v1, v3, v4, v5, v6, v7 =>
    if v5 ≤ v7 then
      (if v6 = 0 then
        (some (-2 : Int32))
      else
        (bnd (0 : Int32) fun v7_10 =>
        bnd (0 : Int32) fun v8_11 =>
        bnd (0 : Int32) fun v9_12 =>
        Qu_loss_81 d FU v1 v3 v4 v5 v6 v7_10 v8_11 v9_12))
    else
      (bp (De_find d v1 v7) fun r13 =>
      bnd r13 fun v8_14 =>
      if v8_14 < 0 then
        (Qu_loss_58 (Qu_loss_22 d n) d v1 v3 v4 v5 v6 v7)
      else
        (bp (Qu_frameAt d v8_14 v7) fun r15 =>
        bnd (v6 ||| ((1 : Int32) <<< (r15 &&& 31))) fun v6_16 =>
        Qu_loss_58 (Qu_loss_22 d n) d v1 v3 v4 v5 v6_16 v7))
def Qu_loss (d : Sl) (a1 : Int32) (a2 : Int32) (a3 : Int32) : Option Int32 :=
  bnd (a2 >>> ((2 : Int32) &&& 31)) fun v4_17 =>
  bnd (v4_17 + ((1 : Int32) <<< ((a2 &&& (3 : Int32)) &&& 31))) fun v5_18 =>
  bnd (0 : Int32) fun v6_19 =>
  bnd v4_17 fun v7_20 =>
  Qu_loss_22 d FU a1 a3 v4_17 v5_18 v6_19 v7_20
theorem y_X1_loss : YS yX1_loss cX1_loss 11 (some .int) 4 := ⟨q1079, trivial, q1080, q152, by decide +kernel, by decide +kernel, by decide +kernel, by decide +kernel⟩
theorem r_Qu_loss_158 {C : Cxt} {G : Geo} {M : Mem} {k : Nat} {d : Sl} (hC : Cx C cX1_loss 11 "FrameHeirs$Questions" (some .int) rm_X1_loss G) (hk : LWd G k) (hk2 : 2 ≤ k) (k81 : Int32 → Int32 → Int32 → Int32 → Int32 → Int32 → Int32 → Int32 → Option Int32) (h81 : ∀ (v1 : Int32) (v3 : Int32) (v4 : Int32) (v5 : Int32) (v6 : Int32) (v7 : Int32) (v8 : Int32) (v9 : Int32), Rz C 11 G (setS M k) (poP avI ((setS M k) d)) 81 [(0, .inr (k, 17)), (1, .inl (.int v1)), (3, .inl (.int v3)), (4, .inl (.int v4)), (5, .inl (.int v5)), (6, .inl (.int v6)), (7, .inl (.int v7)), (8, .inl (.int v8)), (9, .inl (.int v9))] [] d (k81 v1 v3 v4 v5 v6 v7 v8 v9)) (v1 : Int32) (v3 : Int32) (v4 : Int32) (v5 : Int32) (v6 : Int32) (v7 : Int32) (v8 : Int32) (v9 : Int32) : Rz C 11 G (setS M k) (poP avI ((setS M k) d)) 158 [(0, .inr (k, 17)), (1, .inl (.int v1)), (3, .inl (.int v3)), (4, .inl (.int v4)), (5, .inl (.int v5)), (6, .inl (.int v6)), (7, .inl (.int v7)), (8, .inl (.int v8)), (9, .inl (.int v9))] [] d (Qu_loss_158 k81 d v1 v3 v4 v5 v6 v7 v8 v9) := by
  unfold Qu_loss_158
  refine z_iinc (pc := 158) (ls1 := fun v => [(9, .inl (.int v)), (0, .inr (k, 17)), (1, .inl (.int v1)), (3, .inl (.int v3)), (4, .inl (.int v4)), (5, .inl (.int v5)), (6, .inl (.int v6)), (7, .inl (.int v7)), (8, .inl (.int v8))]) hC 9 8 (by decide) (1 : Int32) rfl rfl (fun v => rfl) dX1_loss_158 (fun v9_1 => ?_)
  refine z_goto (pc := 161) hC 81 rfl dX1_loss_161 ?_
  exact z_sub [1, 2, 3, 4, 5, 6, 7, 8, 0] rfl (h81 v1 v3 v4 v5 v6 v7 v8 v9_1)
theorem r_Qu_loss_155 {C : Cxt} {G : Geo} {M : Mem} {k : Nat} {d : Sl} (hC : Cx C cX1_loss 11 "FrameHeirs$Questions" (some .int) rm_X1_loss G) (hk : LWd G k) (hk2 : 2 ≤ k) (k81 : Int32 → Int32 → Int32 → Int32 → Int32 → Int32 → Int32 → Int32 → Option Int32) (h81 : ∀ (v1 : Int32) (v3 : Int32) (v4 : Int32) (v5 : Int32) (v6 : Int32) (v7 : Int32) (v8 : Int32) (v9 : Int32), Rz C 11 G (setS M k) (poP avI ((setS M k) d)) 81 [(0, .inr (k, 17)), (1, .inl (.int v1)), (3, .inl (.int v3)), (4, .inl (.int v4)), (5, .inl (.int v5)), (6, .inl (.int v6)), (7, .inl (.int v7)), (8, .inl (.int v8)), (9, .inl (.int v9))] [] d (k81 v1 v3 v4 v5 v6 v7 v8 v9)) (v1 : Int32) (v3 : Int32) (v4 : Int32) (v5 : Int32) (v6 : Int32) (v7 : Int32) (v9 : Int32) (s0 : Int32) (s1 : Int32) : Rz C 11 G (setS M k) (poP avI ((setS M k) d)) 155 [(0, .inr (k, 17)), (1, .inl (.int v1)), (3, .inl (.int v3)), (4, .inl (.int v4)), (5, .inl (.int v5)), (6, .inl (.int v6)), (7, .inl (.int v7)), (9, .inl (.int v9))] [.inl (.int s0), .inl (.int s1)] d (Qu_loss_155 k81 d v1 v3 v4 v5 v6 v7 v9 s0 s1) := by
  unfold Qu_loss_155
  refine z_ior (pc := 155) hC dX1_loss_155 ?_
  refine z_istore (pc := 156) (ls1 := fun v => [(8, .inl (.int v)), (0, .inr (k, 17)), (1, .inl (.int v1)), (3, .inl (.int v3)), (4, .inl (.int v4)), (5, .inl (.int v5)), (6, .inl (.int v6)), (7, .inl (.int v7)), (9, .inl (.int v9))]) hC 8 (by decide) (fun v => rfl) dX1_loss_156 (fun v8_2 => ?_)
  exact z_sub [1, 2, 3, 4, 5, 6, 7, 0, 8] rfl (r_Qu_loss_158 hC hk hk2 k81 h81 v1 v3 v4 v5 v6 v7 v8_2 v9)
theorem r_Qu_loss_81 {C : Cxt} {G : Geo} {M : Mem} {k : Nat} {d : Sl} (hC : Cx C cX1_loss 11 "FrameHeirs$Questions" (some .int) rm_X1_loss G) (hk : LWd G k) (hk2 : 2 ≤ k) : ∀ (n : Nat) (v1 : Int32) (v3 : Int32) (v4 : Int32) (v5 : Int32) (v6 : Int32) (v7 : Int32) (v8 : Int32) (v9 : Int32), Rz C 11 G (setS M k) (poP avI ((setS M k) d)) 81 [(0, .inr (k, 17)), (1, .inl (.int v1)), (3, .inl (.int v3)), (4, .inl (.int v4)), (5, .inl (.int v5)), (6, .inl (.int v6)), (7, .inl (.int v7)), (8, .inl (.int v8)), (9, .inl (.int v9))] [] d (Qu_loss_81 d n v1 v3 v4 v5 v6 v7 v8 v9) := by
  intro n
  induction n with
  | zero => intros; exact z_none
  | succ n ih =>
    intro v1 v3 v4 v5 v6 v7 v8 v9
    rw [Qu_loss_81]
    refine z_iload (pc := 81) hC 9 8 rfl dX1_loss_81 ?_
    refine z_aload_n (pc := 83) hC 0 rfl 0 rfl dX1_loss_83 ?_
    refine zs_geti (pc := 84) hC (hk 17 rfl) f_17_16 q328 dX1_loss_84 ?_
    refine z_icmp_ge (pc := 87) hC 164 rfl dX1_loss_87 ?_ ?_
    · refine z_iload_n (pc := 164) hC 3 rfl 2 rfl dX1_loss_164 ?_
      refine z_if_ne (pc := 165) hC 173 rfl dX1_loss_165 ?_ ?_
      · refine z_iload (pc := 173) hC 8 7 rfl dX1_loss_173 ?_
        refine z_piS (pc := 175) (st := []) hC y_J6_bitCount_0f7a4 q1084 [.inl (.int v8)] rfl (c_J6_bitCount_0f7a4 hC.2.2.2.2.2.2.1) rfl ⟨rfl, rfl, (Nat.le_of_ble_eq_true rfl), (Nat.le_of_ble_eq_true rfl)⟩ (Nat.le_of_ble_eq_true rfl) dX1_loss_175 (fun r3 => ?_)
        exact z_iret (pc := 178) hC rfl dX1_loss_178
      · refine z_iload (pc := 168) hC 7 6 rfl dX1_loss_168 ?_
        refine z_goto (pc := 170) hC 178 rfl dX1_loss_170 ?_
        exact z_iret (pc := 178) hC rfl dX1_loss_178
    · refine z_aload_n (pc := 90) hC 0 rfl 0 rfl dX1_loss_90 ?_
      refine z_getc (pc := 91) hC (hk 17 rfl) f_17_3 q303 dX1_loss_91 ?_
      refine z_iload (pc := 94) hC 9 8 rfl dX1_loss_94 ?_
      refine zs_iald (pc := 96) hC (hk 21 rfl) rfl dX1_loss_96 ?_
      refine z_if_lt (pc := 97) hC 158 rfl dX1_loss_97 ?_ ?_
      · exact z_sub [0, 1, 2, 3, 4, 5, 6, 7, 8] rfl (r_Qu_loss_158 hC hk hk2 _ ih v1 v3 v4 v5 v6 v7 v8 v9)
      · refine z_aload_n (pc := 100) hC 0 rfl 0 rfl dX1_loss_100 ?_
        refine z_iload (pc := 101) hC 9 8 rfl dX1_loss_101 ?_
        refine z_iload_n (pc := 103) hC 1 rfl 1 rfl dX1_loss_103 ?_
        refine z_iload (pc := 104) hC 4 3 rfl dX1_loss_104 ?_
        refine z_iload (pc := 106) hC 5 4 rfl dX1_loss_106 ?_
        refine z_piS (pc := 108) (st := []) hC y_X1_isBeneathRegion q1081 [.inr (k, 17), .inl (.int v9), .inl (.int v1), .inl (.int v4), .inl (.int v5)] rfl (c_X1_isBeneathRegion hC.2.2.2.2.2.2.1 hk hk2) rfl ⟨rfl, rfl, (Nat.le_of_ble_eq_true rfl), (Nat.le_of_ble_eq_true rfl)⟩ (Nat.le_of_ble_eq_true rfl) dX1_loss_108 (fun r4 => ?_)
        refine z_if_eq (pc := 111) hC 158 rfl dX1_loss_111 ?_ ?_
        · exact z_sub [0, 1, 2, 3, 4, 5, 6, 7, 8] rfl (r_Qu_loss_158 hC hk hk2 _ ih v1 v3 v4 v5 v6 v7 v8 v9)
        · refine z_aload_n (pc := 114) hC 0 rfl 0 rfl dX1_loss_114 ?_
          refine z_iload (pc := 115) hC 9 8 rfl dX1_loss_115 ?_
          refine z_piS (pc := 117) (st := []) hC y_X1_framesIn q944 [.inr (k, 17), .inl (.int v9)] rfl (c_X1_framesIn hC.2.2.2.2.2.2.1 hk hk2) rfl ⟨rfl, rfl, (Nat.le_of_ble_eq_true rfl), (Nat.le_of_ble_eq_true rfl)⟩ (Nat.le_of_ble_eq_true rfl) dX1_loss_117 (fun r5 => ?_)
          refine z_iload (pc := 120) hC 6 5 rfl dX1_loss_120 ?_
          refine z_iand (pc := 122) hC dX1_loss_122 ?_
          refine z_istore (pc := 123) (ls1 := fun v => [(10, .inl (.int v)), (0, .inr (k, 17)), (1, .inl (.int v1)), (3, .inl (.int v3)), (4, .inl (.int v4)), (5, .inl (.int v5)), (6, .inl (.int v6)), (7, .inl (.int v7)), (8, .inl (.int v8)), (9, .inl (.int v9))]) hC 10 (by decide) (fun v => rfl) dX1_loss_123 (fun v10_6 => ?_)
          refine z_iload (pc := 125) hC 7 7 rfl dX1_loss_125 ?_
          refine z_iload (pc := 127) hC 10 0 rfl dX1_loss_127 ?_
          refine z_piS (pc := 129) (st := [.inl (.int v7)]) hC y_J6_bitCount_0f7a4 q1084 [.inl (.int v10_6)] rfl (c_J6_bitCount_0f7a4 hC.2.2.2.2.2.2.1) rfl ⟨rfl, rfl, (Nat.le_of_ble_eq_true rfl), (Nat.le_of_ble_eq_true rfl)⟩ (Nat.le_of_ble_eq_true rfl) dX1_loss_129 (fun r7 => ?_)
          refine z_iadd (pc := 132) hC dX1_loss_132 ?_
          refine z_istore (pc := 133) (ls1 := fun v => [(7, .inl (.int v)), (10, .inl (.int v10_6)), (0, .inr (k, 17)), (1, .inl (.int v1)), (3, .inl (.int v3)), (4, .inl (.int v4)), (5, .inl (.int v5)), (6, .inl (.int v6)), (8, .inl (.int v8)), (9, .inl (.int v9))]) hC 7 (by decide) (fun v => rfl) dX1_loss_133 (fun v7_8 => ?_)
          refine z_iload (pc := 135) hC 8 8 rfl dX1_loss_135 ?_
          refine z_iload (pc := 137) hC 10 1 rfl dX1_loss_137 ?_
          refine z_if_ne (pc := 139) hC 146 rfl dX1_loss_139 ?_ ?_
          · refine z_iconst (pc := 146) hC (1 : Int32) rfl dX1_loss_146 ?_
            refine z_aload_n (pc := 147) hC 0 rfl 2 rfl dX1_loss_147 ?_
            refine z_getc (pc := 148) hC (hk 17 rfl) f_17_0 q294 dX1_loss_148 ?_
            refine z_iload (pc := 151) hC 9 9 rfl dX1_loss_151 ?_
            refine zs_iald (pc := 153) hC (hk 18 rfl) rfl dX1_loss_153 ?_
            refine z_ishl (pc := 154) hC dX1_loss_154 ?_
            exact z_sub [2, 3, 4, 5, 6, 7, 0, 9] rfl (r_Qu_loss_155 hC hk hk2 _ ih v1 v3 v4 v5 v6 v7_8 v9 ((1 : Int32) <<< ((d 18 (ix v9)) &&& 31)) v8)
          · refine z_iconst (pc := 142) hC (0 : Int32) rfl dX1_loss_142 ?_
            refine z_goto (pc := 143) hC 155 rfl dX1_loss_143 ?_
            exact z_sub [2, 3, 4, 5, 6, 7, 0, 9] rfl (r_Qu_loss_155 hC hk hk2 _ ih v1 v3 v4 v5 v6 v7_8 v9 (0 : Int32) v8)
theorem r_Qu_loss_58 {C : Cxt} {G : Geo} {M : Mem} {k : Nat} {d : Sl} (hC : Cx C cX1_loss 11 "FrameHeirs$Questions" (some .int) rm_X1_loss G) (hk : LWd G k) (hk2 : 2 ≤ k) (k22 : Int32 → Int32 → Int32 → Int32 → Int32 → Int32 → Option Int32) (h22 : ∀ (v1 : Int32) (v3 : Int32) (v4 : Int32) (v5 : Int32) (v6 : Int32) (v7 : Int32), Rz C 11 G (setS M k) (poP avI ((setS M k) d)) 22 [(0, .inr (k, 17)), (1, .inl (.int v1)), (3, .inl (.int v3)), (4, .inl (.int v4)), (5, .inl (.int v5)), (6, .inl (.int v6)), (7, .inl (.int v7))] [] d (k22 v1 v3 v4 v5 v6 v7)) (v1 : Int32) (v3 : Int32) (v4 : Int32) (v5 : Int32) (v6 : Int32) (v7 : Int32) : Rz C 11 G (setS M k) (poP avI ((setS M k) d)) 58 [(0, .inr (k, 17)), (1, .inl (.int v1)), (3, .inl (.int v3)), (4, .inl (.int v4)), (5, .inl (.int v5)), (6, .inl (.int v6)), (7, .inl (.int v7))] [] d (Qu_loss_58 k22 d v1 v3 v4 v5 v6 v7) := by
  unfold Qu_loss_58
  refine z_iinc (pc := 58) (ls1 := fun v => [(7, .inl (.int v)), (0, .inr (k, 17)), (1, .inl (.int v1)), (3, .inl (.int v3)), (4, .inl (.int v4)), (5, .inl (.int v5)), (6, .inl (.int v6))]) hC 7 6 (by decide) (1 : Int32) rfl rfl (fun v => rfl) dX1_loss_58 (fun v7_9 => ?_)
  refine z_goto (pc := 61) hC 22 rfl dX1_loss_61 ?_
  exact z_sub [1, 2, 3, 4, 5, 6, 0] rfl (h22 v1 v3 v4 v5 v6 v7_9)
theorem r_Qu_loss_22 {C : Cxt} {G : Geo} {M : Mem} {k : Nat} {d : Sl} (hC : Cx C cX1_loss 11 "FrameHeirs$Questions" (some .int) rm_X1_loss G) (hk : LWd G k) (hk2 : 2 ≤ k) : ∀ (n : Nat) (v1 : Int32) (v3 : Int32) (v4 : Int32) (v5 : Int32) (v6 : Int32) (v7 : Int32), Rz C 11 G (setS M k) (poP avI ((setS M k) d)) 22 [(0, .inr (k, 17)), (1, .inl (.int v1)), (3, .inl (.int v3)), (4, .inl (.int v4)), (5, .inl (.int v5)), (6, .inl (.int v6)), (7, .inl (.int v7))] [] d (Qu_loss_22 d n v1 v3 v4 v5 v6 v7) := by
  intro n
  induction n with
  | zero => intros; exact z_none
  | succ n ih =>
    intro v1 v3 v4 v5 v6 v7
    rw [Qu_loss_22]
    refine z_iload (pc := 22) hC 7 6 rfl dX1_loss_22 ?_
    refine z_iload (pc := 24) hC 5 4 rfl dX1_loss_24 ?_
    refine z_icmp_ge (pc := 26) hC 64 rfl dX1_loss_26 ?_ ?_
    · refine z_iload (pc := 64) hC 6 5 rfl dX1_loss_64 ?_
      refine z_if_ne (pc := 66) hC 72 rfl dX1_loss_66 ?_ ?_
      · refine z_iconst (pc := 72) hC (0 : Int32) rfl dX1_loss_72 ?_
        refine z_istore (pc := 73) (ls1 := fun v => [(7, .inl (.int v)), (0, .inr (k, 17)), (1, .inl (.int v1)), (3, .inl (.int v3)), (4, .inl (.int v4)), (5, .inl (.int v5)), (6, .inl (.int v6))]) hC 7 (by decide) (fun v => rfl) dX1_loss_73 (fun v7_10 => ?_)
        refine z_iconst (pc := 75) hC (0 : Int32) rfl dX1_loss_75 ?_
        refine z_istore (pc := 76) (ls1 := fun v => [(8, .inl (.int v)), (7, .inl (.int v7_10)), (0, .inr (k, 17)), (1, .inl (.int v1)), (3, .inl (.int v3)), (4, .inl (.int v4)), (5, .inl (.int v5)), (6, .inl (.int v6))]) hC 8 (by decide) (fun v => rfl) dX1_loss_76 (fun v8_11 => ?_)
        refine z_iconst (pc := 78) hC (0 : Int32) rfl dX1_loss_78 ?_
        refine z_istore (pc := 79) (ls1 := fun v => [(9, .inl (.int v)), (8, .inl (.int v8_11)), (7, .inl (.int v7_10)), (0, .inr (k, 17)), (1, .inl (.int v1)), (3, .inl (.int v3)), (4, .inl (.int v4)), (5, .inl (.int v5)), (6, .inl (.int v6))]) hC 9 (by decide) (fun v => rfl) dX1_loss_79 (fun v9_12 => ?_)
        exact z_sub [3, 4, 5, 6, 7, 8, 2, 1, 0] rfl (r_Qu_loss_81 hC hk hk2 FU v1 v3 v4 v5 v6 v7_10 v8_11 v9_12)
      · refine z_bipush (pc := 69) hC (-2 : Int32) rfl dX1_loss_69 ?_
        exact z_iret (pc := 71) hC rfl dX1_loss_71
    · refine z_aload_n (pc := 29) hC 0 rfl 0 rfl dX1_loss_29 ?_
      refine z_iload_n (pc := 30) hC 1 rfl 1 rfl dX1_loss_30 ?_
      refine z_iload (pc := 31) hC 7 6 rfl dX1_loss_31 ?_
      refine z_piV (pc := 33) (st := []) hC y_X0_find q840 [.inl (.int v1), .inl (.int v7)] rfl (hk 17 rfl) rfl rfl (c_X0_find hC.2.2.2.2.2.2.1 hk hk2) rfl ⟨rfl, rfl, (Nat.le_of_ble_eq_true rfl), (Nat.le_of_ble_eq_true rfl)⟩ (Nat.le_of_ble_eq_true rfl) dX1_loss_33 (fun r13 => ?_)
      refine z_istore (pc := 36) (ls1 := fun v => [(8, .inl (.int v)), (0, .inr (k, 17)), (1, .inl (.int v1)), (3, .inl (.int v3)), (4, .inl (.int v4)), (5, .inl (.int v5)), (6, .inl (.int v6)), (7, .inl (.int v7))]) hC 8 (by decide) (fun v => rfl) dX1_loss_36 (fun v8_14 => ?_)
      refine z_iload (pc := 38) hC 8 0 rfl dX1_loss_38 ?_
      refine z_if_lt (pc := 40) hC 58 rfl dX1_loss_40 ?_ ?_
      · exact z_sub [1, 2, 3, 4, 5, 6, 7] rfl (r_Qu_loss_58 hC hk hk2 _ ih v1 v3 v4 v5 v6 v7)
      · refine z_iload (pc := 43) hC 6 6 rfl dX1_loss_43 ?_
        refine z_iconst (pc := 45) hC (1 : Int32) rfl dX1_loss_45 ?_
        refine z_aload_n (pc := 46) hC 0 rfl 1 rfl dX1_loss_46 ?_
        refine z_iload (pc := 47) hC 8 0 rfl dX1_loss_47 ?_
        refine z_iload (pc := 49) hC 7 7 rfl dX1_loss_49 ?_
        refine z_piS (pc := 51) (st := [.inl (.int (1 : Int32)), .inl (.int v6)]) hC y_X1_frameAt q841 [.inr (k, 17), .inl (.int v8_14), .inl (.int v7)] rfl (c_X1_frameAt hC.2.2.2.2.2.2.1 hk hk2) rfl ⟨rfl, rfl, (Nat.le_of_ble_eq_true rfl), (Nat.le_of_ble_eq_true rfl)⟩ (Nat.le_of_ble_eq_true rfl) dX1_loss_51 (fun r15 => ?_)
        refine z_ishl (pc := 54) hC dX1_loss_54 ?_
        refine z_ior (pc := 55) hC dX1_loss_55 ?_
        refine z_istore (pc := 56) (ls1 := fun v => [(6, .inl (.int v)), (8, .inl (.int v8_14)), (0, .inr (k, 17)), (1, .inl (.int v1)), (3, .inl (.int v3)), (4, .inl (.int v4)), (5, .inl (.int v5)), (7, .inl (.int v7))]) hC 6 (by decide) (fun v => rfl) dX1_loss_56 (fun v6_16 => ?_)
        exact z_sub [2, 3, 4, 5, 6, 0, 7] rfl (r_Qu_loss_58 hC hk hk2 _ ih v1 v3 v4 v5 v6_16 v7)
theorem r_Qu_loss {C : Cxt} {G : Geo} {M : Mem} {k : Nat} (hC : Cx C cX1_loss 11 "FrameHeirs$Questions" (some .int) rm_X1_loss G) (hk : LWd G k) (hk2 : 2 ≤ k) (d : Sl) (a1 : Int32) (a2 : Int32) (a3 : Int32) : Rz C 11 G (setS M k) (poP avI ((setS M k) d)) 0 [(0, .inr (k, 17)), (1, .inl (.int a1)), (2, .inl (.int a2)), (3, .inl (.int a3))] [] d (Qu_loss d a1 a2 a3) := by
  unfold Qu_loss
  refine z_iload_n (pc := 0) hC 2 rfl 2 rfl dX1_loss_0 ?_
  refine z_iconst (pc := 1) hC (2 : Int32) rfl dX1_loss_1 ?_
  refine z_ishr (pc := 2) hC dX1_loss_2 ?_
  refine z_istore (pc := 3) (ls1 := fun v => [(4, .inl (.int v)), (0, .inr (k, 17)), (1, .inl (.int a1)), (2, .inl (.int a2)), (3, .inl (.int a3))]) hC 4 (by decide) (fun v => rfl) dX1_loss_3 (fun v4_17 => ?_)
  refine z_iload (pc := 5) hC 4 0 rfl dX1_loss_5 ?_
  refine z_iconst (pc := 7) hC (1 : Int32) rfl dX1_loss_7 ?_
  refine z_iload_n (pc := 8) hC 2 rfl 3 rfl dX1_loss_8 ?_
  refine z_iconst (pc := 9) hC (3 : Int32) rfl dX1_loss_9 ?_
  refine z_iand (pc := 10) hC dX1_loss_10 ?_
  refine z_ishl (pc := 11) hC dX1_loss_11 ?_
  refine z_iadd (pc := 12) hC dX1_loss_12 ?_
  refine z_istore (pc := 13) (ls1 := fun v => [(5, .inl (.int v)), (4, .inl (.int v4_17)), (0, .inr (k, 17)), (1, .inl (.int a1)), (2, .inl (.int a2)), (3, .inl (.int a3))]) hC 5 (by decide) (fun v => rfl) dX1_loss_13 (fun v5_18 => ?_)
  refine z_iconst (pc := 15) hC (0 : Int32) rfl dX1_loss_15 ?_
  refine z_istore (pc := 16) (ls1 := fun v => [(6, .inl (.int v)), (5, .inl (.int v5_18)), (4, .inl (.int v4_17)), (0, .inr (k, 17)), (1, .inl (.int a1)), (2, .inl (.int a2)), (3, .inl (.int a3))]) hC 6 (by decide) (fun v => rfl) dX1_loss_16 (fun v6_19 => ?_)
  refine z_iload (pc := 18) hC 4 2 rfl dX1_loss_18 ?_
  refine z_istore (pc := 20) (ls1 := fun v => [(7, .inl (.int v)), (6, .inl (.int v6_19)), (5, .inl (.int v5_18)), (4, .inl (.int v4_17)), (0, .inr (k, 17)), (1, .inl (.int a1)), (2, .inl (.int a2)), (3, .inl (.int a3))]) hC 7 (by decide) (fun v => rfl) dX1_loss_20 (fun v7_20 => ?_)
  exact z_sub [4, 5, 7, 3, 2, 1, 0] rfl (r_Qu_loss_22 hC hk hk2 FU a1 a3 v4_17 v5_18 v6_19 v7_20)
theorem c_X1_loss {G : Geo} {M : Mem} {k : Nat} (hG : GOk G) (hk : LWd G k) (hk2 : 2 ≤ k) {d : Sl} {a1 : Int32} {a2 : Int32} {a3 : Int32} (l : Launch) (r : Int32) (h : Qu_loss d a1 a2 a3 = some r) : Mt l yX1_loss cX1_loss 11 (some .int) rm_X1_loss G [.inr (k, 17), .inl (.int a1), .inl (.int a2), .inl (.int a3)] ((setS M k) d) (avI r) ((setS M k) d) :=
  mt_of (mem := (setS M k)) (po := poP avI ((setS M k) d)) (x0 := d) (t := r) rfl hG [.inr (k, 17), .inl (.int a1), .inl (.int a2), .inl (.int a3)] (Nat.le_of_ble_eq_true rfl) rfl (fun C hC => r_Qu_loss hC hk hk2 d a1 a2 a3) h

