-- FrameHeirs$Deeds.clear()V
abbrev rm_X0_clear : Room := { frames := 1, cells := 0, slots := 0, locals := 23 }
theorem dX0_clear_0 : decode cX0_clear 0 = .ok (.aload_n 0, 1) := by decide +kernel
theorem dX0_clear_1 : decode cX0_clear 1 = .ok (.getfield 55, 3) := by decide +kernel
theorem dX0_clear_4 : decode cX0_clear 4 = .ok (.iconst (-1), 1) := by decide +kernel
theorem dX0_clear_5 : decode cX0_clear 5 = .ok (.invokestatic 74, 3) := by decide +kernel
theorem dX0_clear_8 : decode cX0_clear 8 = .ok (.aload_n 0, 1) := by decide +kernel
theorem dX0_clear_9 : decode cX0_clear 9 = .ok (.iconst 0, 1) := by decide +kernel
theorem dX0_clear_10 : decode cX0_clear 10 = .ok (.putfield 61, 3) := by decide +kernel
theorem dX0_clear_13 : decode cX0_clear 13 = .ok (.aload_n 0, 1) := by decide +kernel
theorem dX0_clear_14 : decode cX0_clear 14 = .ok (.iconst 0, 1) := by decide +kernel
theorem dX0_clear_15 : decode cX0_clear 15 = .ok (.putfield 65, 3) := by decide +kernel
theorem dX0_clear_18 : decode cX0_clear 18 = .ok (.aload_n 0, 1) := by decide +kernel
theorem dX0_clear_19 : decode cX0_clear 19 = .ok (.iconst 0, 1) := by decide +kernel
theorem dX0_clear_20 : decode cX0_clear 20 = .ok (.putfield 68, 3) := by decide +kernel
theorem dX0_clear_23 : decode cX0_clear 23 = .ok (.aload_n 0, 1) := by decide +kernel
theorem dX0_clear_24 : decode cX0_clear 24 = .ok (.iconst 0, 1) := by decide +kernel
theorem dX0_clear_25 : decode cX0_clear 25 = .ok (.putfield 71, 3) := by decide +kernel
theorem dX0_clear_28 : decode cX0_clear 28 = .ok (.return_, 1) := by decide +kernel
def De_clear (d : Sl) : Option (Unit × Sl) :=
  bd (Jk_fill_53178 32 192 d (-1 : Int32)) fun r1 d2 =>
  bnd (wr d2 17 16 (0 : Int32)) fun d3 =>
  bnd (wr d3 17 17 (0 : Int32)) fun d4 =>
  bnd (wr d4 17 18 (0 : Int32)) fun d5 =>
  bnd (wr d5 17 19 (0 : Int32)) fun d6 =>
  some ((), d6)
theorem y_X0_clear : YV yX0_clear cX0_clear 1 none 0 := ⟨q580, q581, q582, q147, by decide +kernel, by decide +kernel, by decide +kernel, by decide +kernel⟩
theorem r_De_clear {C : Cxt} {G : Geo} {M : Mem} {k : Nat} (hC : Cx C cX0_clear 1 "FrameHeirs$Deeds" none rm_X0_clear G) (hk : LWd G k) (hk2 : 2 ≤ k) (d : Sl) : Rz C 1 G (setS M k) (poM avV (setS M k)) 0 [(0, .inr (k, 17))] [] d (De_clear d) := by
  unfold De_clear
  refine z_aload_n (pc := 0) hC 0 rfl 0 rfl dX0_clear_0 ?_
  refine z_getc (pc := 1) hC (hk 17 rfl) f_17_14 q324 dX0_clear_1 ?_
  refine z_iconst (pc := 4) hC (-1 : Int32) rfl dX0_clear_4 ?_
  refine z_cvS (pc := 5) (st := []) hC y_J7_fill_53178 q290 [.inr (k, 32), .inl (.int (-1 : Int32))] rfl (c_J7_fill_53178 (Nb0 := 192) hC.2.2.2.2.2.2.1 (hk 32 rfl) (by decide) rfl) rfl ⟨rfl, rfl, (Nat.le_of_ble_eq_true rfl), (Nat.le_of_ble_eq_true rfl)⟩ (Nat.le_of_ble_eq_true rfl) dX0_clear_5 (fun r1 d2 => ?_)
  refine z_aload_n (pc := 8) hC 0 rfl 0 rfl dX0_clear_8 ?_
  refine z_iconst (pc := 9) hC (0 : Int32) rfl dX0_clear_9 ?_
  refine zs_puti (pc := 10) hC (hk 17 rfl) f_17_16 q327 dX0_clear_10 (fun d3 => ?_)
  refine z_aload_n (pc := 13) hC 0 rfl 0 rfl dX0_clear_13 ?_
  refine z_iconst (pc := 14) hC (0 : Int32) rfl dX0_clear_14 ?_
  refine zs_puti (pc := 15) hC (hk 17 rfl) f_17_17 q329 dX0_clear_15 (fun d4 => ?_)
  refine z_aload_n (pc := 18) hC 0 rfl 0 rfl dX0_clear_18 ?_
  refine z_iconst (pc := 19) hC (0 : Int32) rfl dX0_clear_19 ?_
  refine zs_puti (pc := 20) hC (hk 17 rfl) f_17_18 q331 dX0_clear_20 (fun d5 => ?_)
  refine z_aload_n (pc := 23) hC 0 rfl 0 rfl dX0_clear_23 ?_
  refine z_iconst (pc := 24) hC (0 : Int32) rfl dX0_clear_24 ?_
  refine zs_puti (pc := 25) hC (hk 17 rfl) f_17_19 q332 dX0_clear_25 (fun d6 => ?_)
  exact z_vret (pc := 28) hC rfl dX0_clear_28
theorem c_X0_clear {G : Geo} {M : Mem} {k : Nat} (hG : GOk G) (hk : LWd G k) (hk2 : 2 ≤ k) {d : Sl} (l : Launch) (r : Unit) (d1 : Sl) (h : De_clear d = some (r, d1)) : Mt l yX0_clear cX0_clear 1 none rm_X0_clear G [.inr (k, 17)] ((setS M k) d) (avV r) ((setS M k) d1) :=
  mt_of (mem := (setS M k)) (po := poM avV (setS M k)) (x0 := d) (t := (r, d1)) rfl hG [.inr (k, 17)] (Nat.le_of_ble_eq_true rfl) rfl (fun C hC => r_De_clear hC hk hk2 d) h
-- FrameHeirs$Deeds.find(II)I
abbrev rm_X0_find : Room := { frames := 0, cells := 0, slots := 0, locals := 0 }
theorem dX0_find_0 : decode cX0_find 0 = .ok (.iload_n 1, 1) := by decide +kernel
theorem dX0_find_1 : decode cX0_find 1 = .ok (.ifCond .lt 19, 3) := by decide +kernel
theorem dX0_find_4 : decode cX0_find 4 = .ok (.iload_n 1, 1) := by decide +kernel
theorem dX0_find_5 : decode cX0_find 5 = .ok (.bipush 6, 2) := by decide +kernel
theorem dX0_find_7 : decode cX0_find 7 = .ok (.if_icmp .ge 13, 3) := by decide +kernel
theorem dX0_find_10 : decode cX0_find 10 = .ok (.iload_n 2, 1) := by decide +kernel
theorem dX0_find_11 : decode cX0_find 11 = .ok (.ifCond .lt 9, 3) := by decide +kernel
theorem dX0_find_14 : decode cX0_find 14 = .ok (.iload_n 2, 1) := by decide +kernel
theorem dX0_find_15 : decode cX0_find 15 = .ok (.bipush 32, 2) := by decide +kernel
theorem dX0_find_17 : decode cX0_find 17 = .ok (.if_icmp .lt 5, 3) := by decide +kernel
theorem dX0_find_20 : decode cX0_find 20 = .ok (.iconst (-1), 1) := by decide +kernel
theorem dX0_find_21 : decode cX0_find 21 = .ok (.ireturn, 1) := by decide +kernel
theorem dX0_find_22 : decode cX0_find 22 = .ok (.aload_n 0, 1) := by decide +kernel
theorem dX0_find_23 : decode cX0_find 23 = .ok (.getfield 55, 3) := by decide +kernel
theorem dX0_find_26 : decode cX0_find 26 = .ok (.iload_n 1, 1) := by decide +kernel
theorem dX0_find_27 : decode cX0_find 27 = .ok (.bipush 32, 2) := by decide +kernel
theorem dX0_find_29 : decode cX0_find 29 = .ok (.imul, 1) := by decide +kernel
theorem dX0_find_30 : decode cX0_find 30 = .ok (.iload_n 2, 1) := by decide +kernel
theorem dX0_find_31 : decode cX0_find 31 = .ok (.iadd, 1) := by decide +kernel
theorem dX0_find_32 : decode cX0_find 32 = .ok (.iaload, 1) := by decide +kernel
theorem dX0_find_33 : decode cX0_find 33 = .ok (.ireturn, 1) := by decide +kernel
def De_find (d : Sl) (a1 : Int32) (a2 : Int32) : Option Int32 :=
  if a1 < 0 then
    (some (-1 : Int32))
  else
    (if (6 : Int32) ≤ a1 then
      (some (-1 : Int32))
    else
      (if a2 < 0 then
        (some (-1 : Int32))
      else
        (if a2 < (32 : Int32) then
          (if inb ((a1 * (32 : Int32)) + a2) 192 then
          some (d 32 (ix ((a1 * (32 : Int32)) + a2)))
          else none)
        else
          (some (-1 : Int32)))))
theorem y_X0_find : YV yX0_find cX0_find 3 (some .int) 2 := ⟨q656, q657, q658, q147, by decide +kernel, by decide +kernel, by decide +kernel, by decide +kernel⟩
theorem r_De_find {C : Cxt} {G : Geo} {M : Mem} {k : Nat} (hC : Cx C cX0_find 3 "FrameHeirs$Deeds" (some .int) rm_X0_find G) (hk : LWd G k) (hk2 : 2 ≤ k) (d : Sl) (a1 : Int32) (a2 : Int32) : Rz C 3 G (setS M k) (poP avI ((setS M k) d)) 0 [(0, .inr (k, 17)), (1, .inl (.int a1)), (2, .inl (.int a2))] [] d (De_find d a1 a2) := by
  unfold De_find
  refine z_iload_n (pc := 0) hC 1 rfl 1 rfl dX0_find_0 ?_
  refine z_if_lt (pc := 1) hC 20 rfl dX0_find_1 ?_ ?_
  · refine z_iconst (pc := 20) hC (-1 : Int32) rfl dX0_find_20 ?_
    exact z_iret (pc := 21) hC rfl dX0_find_21
  · refine z_iload_n (pc := 4) hC 1 rfl 1 rfl dX0_find_4 ?_
    refine z_bipush (pc := 5) hC (6 : Int32) rfl dX0_find_5 ?_
    refine z_icmp_ge (pc := 7) hC 20 rfl dX0_find_7 ?_ ?_
    · refine z_iconst (pc := 20) hC (-1 : Int32) rfl dX0_find_20 ?_
      exact z_iret (pc := 21) hC rfl dX0_find_21
    · refine z_iload_n (pc := 10) hC 2 rfl 2 rfl dX0_find_10 ?_
      refine z_if_lt (pc := 11) hC 20 rfl dX0_find_11 ?_ ?_
      · refine z_iconst (pc := 20) hC (-1 : Int32) rfl dX0_find_20 ?_
        exact z_iret (pc := 21) hC rfl dX0_find_21
      · refine z_iload_n (pc := 14) hC 2 rfl 2 rfl dX0_find_14 ?_
        refine z_bipush (pc := 15) hC (32 : Int32) rfl dX0_find_15 ?_
        refine z_icmp_lt (pc := 17) hC 22 rfl dX0_find_17 ?_ ?_
        · refine z_aload_n (pc := 22) hC 0 rfl 0 rfl dX0_find_22 ?_
          refine z_getc (pc := 23) hC (hk 17 rfl) f_17_14 q324 dX0_find_23 ?_
          refine z_iload_n (pc := 26) hC 1 rfl 1 rfl dX0_find_26 ?_
          refine z_bipush (pc := 27) hC (32 : Int32) rfl dX0_find_27 ?_
          refine z_imul (pc := 29) hC dX0_find_29 ?_
          refine z_iload_n (pc := 30) hC 2 rfl 2 rfl dX0_find_30 ?_
          refine z_iadd (pc := 31) hC dX0_find_31 ?_
          refine zs_iald (pc := 32) hC (hk 32 rfl) rfl dX0_find_32 ?_
          exact z_iret (pc := 33) hC rfl dX0_find_33
        · refine z_iconst (pc := 20) hC (-1 : Int32) rfl dX0_find_20 ?_
          exact z_iret (pc := 21) hC rfl dX0_find_21
theorem c_X0_find {G : Geo} {M : Mem} {k : Nat} (hG : GOk G) (hk : LWd G k) (hk2 : 2 ≤ k) {d : Sl} {a1 : Int32} {a2 : Int32} (l : Launch) (r : Int32) (h : De_find d a1 a2 = some r) : Mt l yX0_find cX0_find 3 (some .int) rm_X0_find G [.inr (k, 17), .inl (.int a1), .inl (.int a2)] ((setS M k) d) (avI r) ((setS M k) d) :=
  mt_of (mem := (setS M k)) (po := poP avI ((setS M k) d)) (x0 := d) (t := r) rfl hG [.inr (k, 17), .inl (.int a1), .inl (.int a2)] (Nat.le_of_ble_eq_true rfl) rfl (fun C hC => r_De_find hC hk hk2 d a1 a2) h
-- FrameHeirs$Deeds.pagesIn(III)I
abbrev rm_X0_pagesIn : Room := { frames := 0, cells := 0, slots := 0, locals := 0 }
theorem dX0_pagesIn_0 : decode cX0_pagesIn 0 = .ok (.iload_n 1, 1) := by decide +kernel
theorem dX0_pagesIn_1 : decode cX0_pagesIn 1 = .ok (.ifCond .lt 21, 3) := by decide +kernel
theorem dX0_pagesIn_4 : decode cX0_pagesIn 4 = .ok (.iload_n 1, 1) := by decide +kernel
theorem dX0_pagesIn_5 : decode cX0_pagesIn 5 = .ok (.bipush 6, 2) := by decide +kernel
theorem dX0_pagesIn_7 : decode cX0_pagesIn 7 = .ok (.if_icmp .ge 15, 3) := by decide +kernel
theorem dX0_pagesIn_10 : decode cX0_pagesIn 10 = .ok (.iload_n 2, 1) := by decide +kernel
theorem dX0_pagesIn_11 : decode cX0_pagesIn 11 = .ok (.ifCond .lt 11, 3) := by decide +kernel
theorem dX0_pagesIn_14 : decode cX0_pagesIn 14 = .ok (.iload_n 2, 1) := by decide +kernel
theorem dX0_pagesIn_15 : decode cX0_pagesIn 15 = .ok (.iload_n 3, 1) := by decide +kernel
theorem dX0_pagesIn_16 : decode cX0_pagesIn 16 = .ok (.iadd, 1) := by decide +kernel
theorem dX0_pagesIn_17 : decode cX0_pagesIn 17 = .ok (.bipush 32, 2) := by decide +kernel
theorem dX0_pagesIn_19 : decode cX0_pagesIn 19 = .ok (.if_icmp .le 5, 3) := by decide +kernel
theorem dX0_pagesIn_22 : decode cX0_pagesIn 22 = .ok (.iconst 0, 1) := by decide +kernel
theorem dX0_pagesIn_23 : decode cX0_pagesIn 23 = .ok (.ireturn, 1) := by decide +kernel
theorem dX0_pagesIn_24 : decode cX0_pagesIn 24 = .ok (.iconst 0, 1) := by decide +kernel
theorem dX0_pagesIn_25 : decode cX0_pagesIn 25 = .ok (.istore 4, 2) := by decide +kernel
theorem dX0_pagesIn_27 : decode cX0_pagesIn 27 = .ok (.iload_n 2, 1) := by decide +kernel
theorem dX0_pagesIn_28 : decode cX0_pagesIn 28 = .ok (.istore 5, 2) := by decide +kernel
theorem dX0_pagesIn_30 : decode cX0_pagesIn 30 = .ok (.iload 5, 2) := by decide +kernel
theorem dX0_pagesIn_32 : decode cX0_pagesIn 32 = .ok (.iload_n 2, 1) := by decide +kernel
theorem dX0_pagesIn_33 : decode cX0_pagesIn 33 = .ok (.iload_n 3, 1) := by decide +kernel
theorem dX0_pagesIn_34 : decode cX0_pagesIn 34 = .ok (.iadd, 1) := by decide +kernel
theorem dX0_pagesIn_35 : decode cX0_pagesIn 35 = .ok (.if_icmp .ge 27, 3) := by decide +kernel
theorem dX0_pagesIn_38 : decode cX0_pagesIn 38 = .ok (.aload_n 0, 1) := by decide +kernel
theorem dX0_pagesIn_39 : decode cX0_pagesIn 39 = .ok (.getfield 55, 3) := by decide +kernel
theorem dX0_pagesIn_42 : decode cX0_pagesIn 42 = .ok (.iload_n 1, 1) := by decide +kernel
theorem dX0_pagesIn_43 : decode cX0_pagesIn 43 = .ok (.bipush 32, 2) := by decide +kernel
theorem dX0_pagesIn_45 : decode cX0_pagesIn 45 = .ok (.imul, 1) := by decide +kernel
theorem dX0_pagesIn_46 : decode cX0_pagesIn 46 = .ok (.iload 5, 2) := by decide +kernel
theorem dX0_pagesIn_48 : decode cX0_pagesIn 48 = .ok (.iadd, 1) := by decide +kernel
theorem dX0_pagesIn_49 : decode cX0_pagesIn 49 = .ok (.iaload, 1) := by decide +kernel
theorem dX0_pagesIn_50 : decode cX0_pagesIn 50 = .ok (.ifCond .lt 6, 3) := by decide +kernel
theorem dX0_pagesIn_53 : decode cX0_pagesIn 53 = .ok (.iinc 4 1, 3) := by decide +kernel
theorem dX0_pagesIn_56 : decode cX0_pagesIn 56 = .ok (.iinc 5 1, 3) := by decide +kernel
theorem dX0_pagesIn_59 : decode cX0_pagesIn 59 = .ok (.goto (-29), 3) := by decide +kernel
theorem dX0_pagesIn_62 : decode cX0_pagesIn 62 = .ok (.iload 4, 2) := by decide +kernel
theorem dX0_pagesIn_64 : decode cX0_pagesIn 64 = .ok (.ireturn, 1) := by decide +kernel
def De_pagesIn_56 (k30 : Int32 → Int32 → Int32 → Int32 → Int32 → Option Int32) (d : Sl) (v1 : Int32) (v2 : Int32) (v3 : Int32) (v4 : Int32) (v5 : Int32) : Option Int32 :=
  bnd (v5 + (1 : Int32)) fun v5_1 =>
  k30 v1 v2 v3 v4 v5_1
def De_pagesIn_30 (d : Sl) : Nat → Int32 → Int32 → Int32 → Int32 → Int32 → Option Int32
  | 0, _, _, _, _, _ => none
  | n + 1, v1, v2, v3, v4, v5 =>
    if (v2 + v3) ≤ v5 then
      (some v4)
    else
      (if inb ((v1 * (32 : Int32)) + v5) 192 then
      if (d 32 (ix ((v1 * (32 : Int32)) + v5))) < 0 then
        (De_pagesIn_56 (De_pagesIn_30 d n) d v1 v2 v3 v4 v5)
      else
        (bnd (v4 + (1 : Int32)) fun v4_2 =>
        De_pagesIn_56 (De_pagesIn_30 d n) d v1 v2 v3 v4_2 v5)
      else none)
def De_pagesIn (d : Sl) (a1 : Int32) (a2 : Int32) (a3 : Int32) : Option Int32 :=
  if a1 < 0 then
    (some (0 : Int32))
  else
    (if (6 : Int32) ≤ a1 then
      (some (0 : Int32))
    else
      (if a2 < 0 then
        (some (0 : Int32))
      else
        (if (a2 + a3) ≤ (32 : Int32) then
          (bnd (0 : Int32) fun v4_3 =>
          bnd a2 fun v5_4 =>
          De_pagesIn_30 d FU a1 a2 a3 v4_3 v5_4)
        else
          (some (0 : Int32)))))
theorem y_X0_pagesIn : YV yX0_pagesIn cX0_pagesIn 6 (some .int) 3 := ⟨q673, q674, q675, q147, by decide +kernel, by decide +kernel, by decide +kernel, by decide +kernel⟩
theorem r_De_pagesIn_56 {C : Cxt} {G : Geo} {M : Mem} {k : Nat} {d : Sl} (hC : Cx C cX0_pagesIn 6 "FrameHeirs$Deeds" (some .int) rm_X0_pagesIn G) (hk : LWd G k) (hk2 : 2 ≤ k) (k30 : Int32 → Int32 → Int32 → Int32 → Int32 → Option Int32) (h30 : ∀ (v1 : Int32) (v2 : Int32) (v3 : Int32) (v4 : Int32) (v5 : Int32), Rz C 6 G (setS M k) (poP avI ((setS M k) d)) 30 [(0, .inr (k, 17)), (1, .inl (.int v1)), (2, .inl (.int v2)), (3, .inl (.int v3)), (4, .inl (.int v4)), (5, .inl (.int v5))] [] d (k30 v1 v2 v3 v4 v5)) (v1 : Int32) (v2 : Int32) (v3 : Int32) (v4 : Int32) (v5 : Int32) : Rz C 6 G (setS M k) (poP avI ((setS M k) d)) 56 [(0, .inr (k, 17)), (1, .inl (.int v1)), (2, .inl (.int v2)), (3, .inl (.int v3)), (4, .inl (.int v4)), (5, .inl (.int v5))] [] d (De_pagesIn_56 k30 d v1 v2 v3 v4 v5) := by
  unfold De_pagesIn_56
  refine z_iinc (pc := 56) (ls1 := fun v => [(5, .inl (.int v)), (0, .inr (k, 17)), (1, .inl (.int v1)), (2, .inl (.int v2)), (3, .inl (.int v3)), (4, .inl (.int v4))]) hC 5 5 (by decide) (1 : Int32) rfl rfl (fun v => rfl) dX0_pagesIn_56 (fun v5_1 => ?_)
  refine z_goto (pc := 59) hC 30 rfl dX0_pagesIn_59 ?_
  exact z_sub [1, 2, 3, 4, 5, 0] rfl (h30 v1 v2 v3 v4 v5_1)
theorem r_De_pagesIn_30 {C : Cxt} {G : Geo} {M : Mem} {k : Nat} {d : Sl} (hC : Cx C cX0_pagesIn 6 "FrameHeirs$Deeds" (some .int) rm_X0_pagesIn G) (hk : LWd G k) (hk2 : 2 ≤ k) : ∀ (n : Nat) (v1 : Int32) (v2 : Int32) (v3 : Int32) (v4 : Int32) (v5 : Int32), Rz C 6 G (setS M k) (poP avI ((setS M k) d)) 30 [(0, .inr (k, 17)), (1, .inl (.int v1)), (2, .inl (.int v2)), (3, .inl (.int v3)), (4, .inl (.int v4)), (5, .inl (.int v5))] [] d (De_pagesIn_30 d n v1 v2 v3 v4 v5) := by
  intro n
  induction n with
  | zero => intros; exact z_none
  | succ n ih =>
    intro v1 v2 v3 v4 v5
    rw [De_pagesIn_30]
    refine z_iload (pc := 30) hC 5 5 rfl dX0_pagesIn_30 ?_
    refine z_iload_n (pc := 32) hC 2 rfl 2 rfl dX0_pagesIn_32 ?_
    refine z_iload_n (pc := 33) hC 3 rfl 3 rfl dX0_pagesIn_33 ?_
    refine z_iadd (pc := 34) hC dX0_pagesIn_34 ?_
    refine z_icmp_ge (pc := 35) hC 62 rfl dX0_pagesIn_35 ?_ ?_
    · refine z_iload (pc := 62) hC 4 4 rfl dX0_pagesIn_62 ?_
      exact z_iret (pc := 64) hC rfl dX0_pagesIn_64
    · refine z_aload_n (pc := 38) hC 0 rfl 0 rfl dX0_pagesIn_38 ?_
      refine z_getc (pc := 39) hC (hk 17 rfl) f_17_14 q324 dX0_pagesIn_39 ?_
      refine z_iload_n (pc := 42) hC 1 rfl 1 rfl dX0_pagesIn_42 ?_
      refine z_bipush (pc := 43) hC (32 : Int32) rfl dX0_pagesIn_43 ?_
      refine z_imul (pc := 45) hC dX0_pagesIn_45 ?_
      refine z_iload (pc := 46) hC 5 5 rfl dX0_pagesIn_46 ?_
      refine z_iadd (pc := 48) hC dX0_pagesIn_48 ?_
      refine zs_iald (pc := 49) hC (hk 32 rfl) rfl dX0_pagesIn_49 ?_
      refine z_if_lt (pc := 50) hC 56 rfl dX0_pagesIn_50 ?_ ?_
      · exact z_sub [0, 1, 2, 3, 4, 5] rfl (r_De_pagesIn_56 hC hk hk2 _ ih v1 v2 v3 v4 v5)
      · refine z_iinc (pc := 53) (ls1 := fun v => [(4, .inl (.int v)), (0, .inr (k, 17)), (1, .inl (.int v1)), (2, .inl (.int v2)), (3, .inl (.int v3)), (5, .inl (.int v5))]) hC 4 4 (by decide) (1 : Int32) rfl rfl (fun v => rfl) dX0_pagesIn_53 (fun v4_2 => ?_)
        exact z_sub [1, 2, 3, 4, 0, 5] rfl (r_De_pagesIn_56 hC hk hk2 _ ih v1 v2 v3 v4_2 v5)
theorem r_De_pagesIn {C : Cxt} {G : Geo} {M : Mem} {k : Nat} (hC : Cx C cX0_pagesIn 6 "FrameHeirs$Deeds" (some .int) rm_X0_pagesIn G) (hk : LWd G k) (hk2 : 2 ≤ k) (d : Sl) (a1 : Int32) (a2 : Int32) (a3 : Int32) : Rz C 6 G (setS M k) (poP avI ((setS M k) d)) 0 [(0, .inr (k, 17)), (1, .inl (.int a1)), (2, .inl (.int a2)), (3, .inl (.int a3))] [] d (De_pagesIn d a1 a2 a3) := by
  unfold De_pagesIn
  refine z_iload_n (pc := 0) hC 1 rfl 1 rfl dX0_pagesIn_0 ?_
  refine z_if_lt (pc := 1) hC 22 rfl dX0_pagesIn_1 ?_ ?_
  · refine z_iconst (pc := 22) hC (0 : Int32) rfl dX0_pagesIn_22 ?_
    exact z_iret (pc := 23) hC rfl dX0_pagesIn_23
  · refine z_iload_n (pc := 4) hC 1 rfl 1 rfl dX0_pagesIn_4 ?_
    refine z_bipush (pc := 5) hC (6 : Int32) rfl dX0_pagesIn_5 ?_
    refine z_icmp_ge (pc := 7) hC 22 rfl dX0_pagesIn_7 ?_ ?_
    · refine z_iconst (pc := 22) hC (0 : Int32) rfl dX0_pagesIn_22 ?_
      exact z_iret (pc := 23) hC rfl dX0_pagesIn_23
    · refine z_iload_n (pc := 10) hC 2 rfl 2 rfl dX0_pagesIn_10 ?_
      refine z_if_lt (pc := 11) hC 22 rfl dX0_pagesIn_11 ?_ ?_
      · refine z_iconst (pc := 22) hC (0 : Int32) rfl dX0_pagesIn_22 ?_
        exact z_iret (pc := 23) hC rfl dX0_pagesIn_23
      · refine z_iload_n (pc := 14) hC 2 rfl 2 rfl dX0_pagesIn_14 ?_
        refine z_iload_n (pc := 15) hC 3 rfl 3 rfl dX0_pagesIn_15 ?_
        refine z_iadd (pc := 16) hC dX0_pagesIn_16 ?_
        refine z_bipush (pc := 17) hC (32 : Int32) rfl dX0_pagesIn_17 ?_
        refine z_icmp_le (pc := 19) hC 24 rfl dX0_pagesIn_19 ?_ ?_
        · refine z_iconst (pc := 24) hC (0 : Int32) rfl dX0_pagesIn_24 ?_
          refine z_istore (pc := 25) (ls1 := fun v => [(4, .inl (.int v)), (0, .inr (k, 17)), (1, .inl (.int a1)), (2, .inl (.int a2)), (3, .inl (.int a3))]) hC 4 (by decide) (fun v => rfl) dX0_pagesIn_25 (fun v4_3 => ?_)
          refine z_iload_n (pc := 27) hC 2 rfl 3 rfl dX0_pagesIn_27 ?_
          refine z_istore (pc := 28) (ls1 := fun v => [(5, .inl (.int v)), (4, .inl (.int v4_3)), (0, .inr (k, 17)), (1, .inl (.int a1)), (2, .inl (.int a2)), (3, .inl (.int a3))]) hC 5 (by decide) (fun v => rfl) dX0_pagesIn_28 (fun v5_4 => ?_)
          exact z_sub [2, 3, 4, 5, 1, 0] rfl (r_De_pagesIn_30 hC hk hk2 FU a1 a2 a3 v4_3 v5_4)
        · refine z_iconst (pc := 22) hC (0 : Int32) rfl dX0_pagesIn_22 ?_
          exact z_iret (pc := 23) hC rfl dX0_pagesIn_23
theorem c_X0_pagesIn {G : Geo} {M : Mem} {k : Nat} (hG : GOk G) (hk : LWd G k) (hk2 : 2 ≤ k) {d : Sl} {a1 : Int32} {a2 : Int32} {a3 : Int32} (l : Launch) (r : Int32) (h : De_pagesIn d a1 a2 a3 = some r) : Mt l yX0_pagesIn cX0_pagesIn 6 (some .int) rm_X0_pagesIn G [.inr (k, 17), .inl (.int a1), .inl (.int a2), .inl (.int a3)] ((setS M k) d) (avI r) ((setS M k) d) :=
  mt_of (mem := (setS M k)) (po := poP avI ((setS M k) d)) (x0 := d) (t := r) rfl hG [.inr (k, 17), .inl (.int a1), .inl (.int a2), .inl (.int a3)] (Nat.le_of_ble_eq_true rfl) rfl (fun C hC => r_De_pagesIn hC hk hk2 d a1 a2 a3) h
-- FrameHeirs$Deeds.pagesOf(I)I
abbrev rm_X0_pagesOf : Room := { frames := 1, cells := 0, slots := 0, locals := 25 }
theorem dX0_pagesOf_0 : decode cX0_pagesOf 0 = .ok (.aload_n 0, 1) := by decide +kernel
theorem dX0_pagesOf_1 : decode cX0_pagesOf 1 = .ok (.iload_n 1, 1) := by decide +kernel
theorem dX0_pagesOf_2 : decode cX0_pagesOf 2 = .ok (.iconst 0, 1) := by decide +kernel
theorem dX0_pagesOf_3 : decode cX0_pagesOf 3 = .ok (.bipush 32, 2) := by decide +kernel
theorem dX0_pagesOf_5 : decode cX0_pagesOf 5 = .ok (.invokevirtual 86, 3) := by decide +kernel
theorem dX0_pagesOf_8 : decode cX0_pagesOf 8 = .ok (.ireturn, 1) := by decide +kernel
def De_pagesOf (d : Sl) (a1 : Int32) : Option Int32 :=
  bp (De_pagesIn d a1 (0 : Int32) (32 : Int32)) fun r1 =>
  some r1
theorem y_X0_pagesOf : YV yX0_pagesOf cX0_pagesOf 2 (some .int) 1 := ⟨q685, q686, q687, q147, by decide +kernel, by decide +kernel, by decide +kernel, by decide +kernel⟩
theorem r_De_pagesOf {C : Cxt} {G : Geo} {M : Mem} {k : Nat} (hC : Cx C cX0_pagesOf 2 "FrameHeirs$Deeds" (some .int) rm_X0_pagesOf G) (hk : LWd G k) (hk2 : 2 ≤ k) (d : Sl) (a1 : Int32) : Rz C 2 G (setS M k) (poP avI ((setS M k) d)) 0 [(0, .inr (k, 17)), (1, .inl (.int a1))] [] d (De_pagesOf d a1) := by
  unfold De_pagesOf
  refine z_aload_n (pc := 0) hC 0 rfl 0 rfl dX0_pagesOf_0 ?_
  refine z_iload_n (pc := 1) hC 1 rfl 1 rfl dX0_pagesOf_1 ?_
  refine z_iconst (pc := 2) hC (0 : Int32) rfl dX0_pagesOf_2 ?_
  refine z_bipush (pc := 3) hC (32 : Int32) rfl dX0_pagesOf_3 ?_
  refine z_piV (pc := 5) (st := []) hC y_X0_pagesIn q688 [.inl (.int a1), .inl (.int (0 : Int32)), .inl (.int (32 : Int32))] rfl (hk 17 rfl) rfl rfl (c_X0_pagesIn hC.2.2.2.2.2.2.1 hk hk2) rfl ⟨rfl, rfl, (Nat.le_of_ble_eq_true rfl), (Nat.le_of_ble_eq_true rfl)⟩ (Nat.le_of_ble_eq_true rfl) dX0_pagesOf_5 (fun r1 => ?_)
  exact z_iret (pc := 8) hC rfl dX0_pagesOf_8
theorem c_X0_pagesOf {G : Geo} {M : Mem} {k : Nat} (hG : GOk G) (hk : LWd G k) (hk2 : 2 ≤ k) {d : Sl} {a1 : Int32} (l : Launch) (r : Int32) (h : De_pagesOf d a1 = some r) : Mt l yX0_pagesOf cX0_pagesOf 2 (some .int) rm_X0_pagesOf G [.inr (k, 17), .inl (.int a1)] ((setS M k) d) (avI r) ((setS M k) d) :=
  mt_of (mem := (setS M k)) (po := poP avI ((setS M k) d)) (x0 := d) (t := r) rfl hG [.inr (k, 17), .inl (.int a1)] (Nat.le_of_ble_eq_true rfl) rfl (fun C hC => r_De_pagesOf hC hk hk2 d a1) h
-- FrameHeirs$Deeds.pagesOfAll()I
abbrev rm_X0_pagesOfAll : Room := { frames := 0, cells := 0, slots := 0, locals := 0 }
theorem dX0_pagesOfAll_0 : decode cX0_pagesOfAll 0 = .ok (.iconst 0, 1) := by decide +kernel
theorem dX0_pagesOfAll_1 : decode cX0_pagesOfAll 1 = .ok (.istore_n 1, 1) := by decide +kernel
theorem dX0_pagesOfAll_2 : decode cX0_pagesOfAll 2 = .ok (.iconst 0, 1) := by decide +kernel
theorem dX0_pagesOfAll_3 : decode cX0_pagesOfAll 3 = .ok (.istore_n 2, 1) := by decide +kernel
theorem dX0_pagesOfAll_4 : decode cX0_pagesOfAll 4 = .ok (.iload_n 2, 1) := by decide +kernel
theorem dX0_pagesOfAll_5 : decode cX0_pagesOfAll 5 = .ok (.aload_n 0, 1) := by decide +kernel
theorem dX0_pagesOfAll_6 : decode cX0_pagesOfAll 6 = .ok (.getfield 61, 3) := by decide +kernel
theorem dX0_pagesOfAll_9 : decode cX0_pagesOfAll 9 = .ok (.if_icmp .ge 29, 3) := by decide +kernel
theorem dX0_pagesOfAll_12 : decode cX0_pagesOfAll 12 = .ok (.aload_n 0, 1) := by decide +kernel
theorem dX0_pagesOfAll_13 : decode cX0_pagesOfAll 13 = .ok (.getfield 21, 3) := by decide +kernel
theorem dX0_pagesOfAll_16 : decode cX0_pagesOfAll 16 = .ok (.iload_n 2, 1) := by decide +kernel
theorem dX0_pagesOfAll_17 : decode cX0_pagesOfAll 17 = .ok (.iaload, 1) := by decide +kernel
theorem dX0_pagesOfAll_18 : decode cX0_pagesOfAll 18 = .ok (.ifCond .lt 14, 3) := by decide +kernel
theorem dX0_pagesOfAll_21 : decode cX0_pagesOfAll 21 = .ok (.iload_n 1, 1) := by decide +kernel
theorem dX0_pagesOfAll_22 : decode cX0_pagesOfAll 22 = .ok (.iconst 1, 1) := by decide +kernel
theorem dX0_pagesOfAll_23 : decode cX0_pagesOfAll 23 = .ok (.aload_n 0, 1) := by decide +kernel
theorem dX0_pagesOfAll_24 : decode cX0_pagesOfAll 24 = .ok (.getfield 21, 3) := by decide +kernel
theorem dX0_pagesOfAll_27 : decode cX0_pagesOfAll 27 = .ok (.iload_n 2, 1) := by decide +kernel
theorem dX0_pagesOfAll_28 : decode cX0_pagesOfAll 28 = .ok (.iaload, 1) := by decide +kernel
theorem dX0_pagesOfAll_29 : decode cX0_pagesOfAll 29 = .ok (.ishl, 1) := by decide +kernel
theorem dX0_pagesOfAll_30 : decode cX0_pagesOfAll 30 = .ok (.iadd, 1) := by decide +kernel
theorem dX0_pagesOfAll_31 : decode cX0_pagesOfAll 31 = .ok (.istore_n 1, 1) := by decide +kernel
theorem dX0_pagesOfAll_32 : decode cX0_pagesOfAll 32 = .ok (.iinc 2 1, 3) := by decide +kernel
theorem dX0_pagesOfAll_35 : decode cX0_pagesOfAll 35 = .ok (.goto (-31), 3) := by decide +kernel
theorem dX0_pagesOfAll_38 : decode cX0_pagesOfAll 38 = .ok (.iload_n 1, 1) := by decide +kernel
theorem dX0_pagesOfAll_39 : decode cX0_pagesOfAll 39 = .ok (.ireturn, 1) := by decide +kernel
def De_pagesOfAll_32 (k4 : Int32 → Int32 → Option Int32) (d : Sl) (v1 : Int32) (v2 : Int32) : Option Int32 :=
  bnd (v2 + (1 : Int32)) fun v2_1 =>
  k4 v1 v2_1
def De_pagesOfAll_4 (d : Sl) : Nat → Int32 → Int32 → Option Int32
  | 0, _, _ => none
  | n + 1, v1, v2 =>
    if (d 17 16) ≤ v2 then
      (some v1)
    else
      (if inb v2 192 then
      if (d 21 (ix v2)) < 0 then
        (De_pagesOfAll_32 (De_pagesOfAll_4 d n) d v1 v2)
      else
        (if inb v2 192 then
        bnd (v1 + ((1 : Int32) <<< ((d 21 (ix v2)) &&& 31))) fun v1_2 =>
        De_pagesOfAll_32 (De_pagesOfAll_4 d n) d v1_2 v2
        else none)
      else none)
def De_pagesOfAll (d : Sl) : Option Int32 :=
  bnd (0 : Int32) fun v1_3 =>
  bnd (0 : Int32) fun v2_4 =>
  De_pagesOfAll_4 d FU v1_3 v2_4
theorem y_X0_pagesOfAll : YV yX0_pagesOfAll cX0_pagesOfAll 3 (some .int) 0 := ⟨q1094, q1095, q1096, q147, by decide +kernel, by decide +kernel, by decide +kernel, by decide +kernel⟩
theorem r_De_pagesOfAll_32 {C : Cxt} {G : Geo} {M : Mem} {k : Nat} {d : Sl} (hC : Cx C cX0_pagesOfAll 3 "FrameHeirs$Deeds" (some .int) rm_X0_pagesOfAll G) (hk : LWd G k) (hk2 : 2 ≤ k) (k4 : Int32 → Int32 → Option Int32) (h4 : ∀ (v1 : Int32) (v2 : Int32), Rz C 3 G (setS M k) (poP avI ((setS M k) d)) 4 [(0, .inr (k, 17)), (1, .inl (.int v1)), (2, .inl (.int v2))] [] d (k4 v1 v2)) (v1 : Int32) (v2 : Int32) : Rz C 3 G (setS M k) (poP avI ((setS M k) d)) 32 [(0, .inr (k, 17)), (1, .inl (.int v1)), (2, .inl (.int v2))] [] d (De_pagesOfAll_32 k4 d v1 v2) := by
  unfold De_pagesOfAll_32
  refine z_iinc (pc := 32) (ls1 := fun v => [(2, .inl (.int v)), (0, .inr (k, 17)), (1, .inl (.int v1))]) hC 2 2 (by decide) (1 : Int32) rfl rfl (fun v => rfl) dX0_pagesOfAll_32 (fun v2_1 => ?_)
  refine z_goto (pc := 35) hC 4 rfl dX0_pagesOfAll_35 ?_
  exact z_sub [1, 2, 0] rfl (h4 v1 v2_1)
theorem r_De_pagesOfAll_4 {C : Cxt} {G : Geo} {M : Mem} {k : Nat} {d : Sl} (hC : Cx C cX0_pagesOfAll 3 "FrameHeirs$Deeds" (some .int) rm_X0_pagesOfAll G) (hk : LWd G k) (hk2 : 2 ≤ k) : ∀ (n : Nat) (v1 : Int32) (v2 : Int32), Rz C 3 G (setS M k) (poP avI ((setS M k) d)) 4 [(0, .inr (k, 17)), (1, .inl (.int v1)), (2, .inl (.int v2))] [] d (De_pagesOfAll_4 d n v1 v2) := by
  intro n
  induction n with
  | zero => intros; exact z_none
  | succ n ih =>
    intro v1 v2
    rw [De_pagesOfAll_4]
    refine z_iload_n (pc := 4) hC 2 rfl 2 rfl dX0_pagesOfAll_4 ?_
    refine z_aload_n (pc := 5) hC 0 rfl 0 rfl dX0_pagesOfAll_5 ?_
    refine zs_geti (pc := 6) hC (hk 17 rfl) f_17_16 q327 dX0_pagesOfAll_6 ?_
    refine z_icmp_ge (pc := 9) hC 38 rfl dX0_pagesOfAll_9 ?_ ?_
    · refine z_iload_n (pc := 38) hC 1 rfl 1 rfl dX0_pagesOfAll_38 ?_
      exact z_iret (pc := 39) hC rfl dX0_pagesOfAll_39
    · refine z_aload_n (pc := 12) hC 0 rfl 0 rfl dX0_pagesOfAll_12 ?_
      refine z_getc (pc := 13) hC (hk 17 rfl) f_17_3 q302 dX0_pagesOfAll_13 ?_
      refine z_iload_n (pc := 16) hC 2 rfl 2 rfl dX0_pagesOfAll_16 ?_
      refine zs_iald (pc := 17) hC (hk 21 rfl) rfl dX0_pagesOfAll_17 ?_
      refine z_if_lt (pc := 18) hC 32 rfl dX0_pagesOfAll_18 ?_ ?_
      · exact z_sub [0, 1, 2] rfl (r_De_pagesOfAll_32 hC hk hk2 _ ih v1 v2)
      · refine z_iload_n (pc := 21) hC 1 rfl 1 rfl dX0_pagesOfAll_21 ?_
        refine z_iconst (pc := 22) hC (1 : Int32) rfl dX0_pagesOfAll_22 ?_
        refine z_aload_n (pc := 23) hC 0 rfl 0 rfl dX0_pagesOfAll_23 ?_
        refine z_getc (pc := 24) hC (hk 17 rfl) f_17_3 q302 dX0_pagesOfAll_24 ?_
        refine z_iload_n (pc := 27) hC 2 rfl 2 rfl dX0_pagesOfAll_27 ?_
        refine zs_iald (pc := 28) hC (hk 21 rfl) rfl dX0_pagesOfAll_28 ?_
        refine z_ishl (pc := 29) hC dX0_pagesOfAll_29 ?_
        refine z_iadd (pc := 30) hC dX0_pagesOfAll_30 ?_
        refine z_istore_n (pc := 31) (ls1 := fun v => [(1, .inl (.int v)), (0, .inr (k, 17)), (2, .inl (.int v2))]) hC 1 rfl (by decide) (fun v => rfl) dX0_pagesOfAll_31 (fun v1_2 => ?_)
        exact z_sub [1, 0, 2] rfl (r_De_pagesOfAll_32 hC hk hk2 _ ih v1_2 v2)
theorem r_De_pagesOfAll {C : Cxt} {G : Geo} {M : Mem} {k : Nat} (hC : Cx C cX0_pagesOfAll 3 "FrameHeirs$Deeds" (some .int) rm_X0_pagesOfAll G) (hk : LWd G k) (hk2 : 2 ≤ k) (d : Sl) : Rz C 3 G (setS M k) (poP avI ((setS M k) d)) 0 [(0, .inr (k, 17))] [] d (De_pagesOfAll d) := by
  unfold De_pagesOfAll
  refine z_iconst (pc := 0) hC (0 : Int32) rfl dX0_pagesOfAll_0 ?_
  refine z_istore_n (pc := 1) (ls1 := fun v => [(1, .inl (.int v)), (0, .inr (k, 17))]) hC 1 rfl (by decide) (fun v => rfl) dX0_pagesOfAll_1 (fun v1_3 => ?_)
  refine z_iconst (pc := 2) hC (0 : Int32) rfl dX0_pagesOfAll_2 ?_
  refine z_istore_n (pc := 3) (ls1 := fun v => [(2, .inl (.int v)), (1, .inl (.int v1_3)), (0, .inr (k, 17))]) hC 2 rfl (by decide) (fun v => rfl) dX0_pagesOfAll_3 (fun v2_4 => ?_)
  exact z_sub [2, 1, 0] rfl (r_De_pagesOfAll_4 hC hk hk2 FU v1_3 v2_4)
theorem c_X0_pagesOfAll {G : Geo} {M : Mem} {k : Nat} (hG : GOk G) (hk : LWd G k) (hk2 : 2 ≤ k) {d : Sl} (l : Launch) (r : Int32) (h : De_pagesOfAll d = some r) : Mt l yX0_pagesOfAll cX0_pagesOfAll 3 (some .int) rm_X0_pagesOfAll G [.inr (k, 17)] ((setS M k) d) (avI r) ((setS M k) d) :=
  mt_of (mem := (setS M k)) (po := poP avI ((setS M k) d)) (x0 := d) (t := r) rfl hG [.inr (k, 17)] (Nat.le_of_ble_eq_true rfl) rfl (fun C hC => r_De_pagesOfAll hC hk hk2 d) h
-- FrameHeirs$Deeds.settleAt(II)V
abbrev rm_X0_settleAt : Room := { frames := 0, cells := 0, slots := 0, locals := 0 }
theorem dX0_settleAt_0 : decode cX0_settleAt 0 = .ok (.aload_n 0, 1) := by decide +kernel
theorem dX0_settleAt_1 : decode cX0_settleAt 1 = .ok (.getfield 9, 3) := by decide +kernel
theorem dX0_settleAt_4 : decode cX0_settleAt 4 = .ok (.iload_n 1, 1) := by decide +kernel
theorem dX0_settleAt_5 : decode cX0_settleAt 5 = .ok (.iaload, 1) := by decide +kernel
theorem dX0_settleAt_6 : decode cX0_settleAt 6 = .ok (.bipush 32, 2) := by decide +kernel
theorem dX0_settleAt_8 : decode cX0_settleAt 8 = .ok (.imul, 1) := by decide +kernel
theorem dX0_settleAt_9 : decode cX0_settleAt 9 = .ok (.aload_n 0, 1) := by decide +kernel
theorem dX0_settleAt_10 : decode cX0_settleAt 10 = .ok (.getfield 15, 3) := by decide +kernel
theorem dX0_settleAt_13 : decode cX0_settleAt 13 = .ok (.iload_n 1, 1) := by decide +kernel
theorem dX0_settleAt_14 : decode cX0_settleAt 14 = .ok (.iaload, 1) := by decide +kernel
theorem dX0_settleAt_15 : decode cX0_settleAt 15 = .ok (.iadd, 1) := by decide +kernel
theorem dX0_settleAt_16 : decode cX0_settleAt 16 = .ok (.istore_n 3, 1) := by decide +kernel
theorem dX0_settleAt_17 : decode cX0_settleAt 17 = .ok (.iconst 1, 1) := by decide +kernel
theorem dX0_settleAt_18 : decode cX0_settleAt 18 = .ok (.aload_n 0, 1) := by decide +kernel
theorem dX0_settleAt_19 : decode cX0_settleAt 19 = .ok (.getfield 21, 3) := by decide +kernel
theorem dX0_settleAt_22 : decode cX0_settleAt 22 = .ok (.iload_n 1, 1) := by decide +kernel
theorem dX0_settleAt_23 : decode cX0_settleAt 23 = .ok (.iaload, 1) := by decide +kernel
theorem dX0_settleAt_24 : decode cX0_settleAt 24 = .ok (.ishl, 1) := by decide +kernel
theorem dX0_settleAt_25 : decode cX0_settleAt 25 = .ok (.istore 4, 2) := by decide +kernel
theorem dX0_settleAt_27 : decode cX0_settleAt 27 = .ok (.iconst 0, 1) := by decide +kernel
theorem dX0_settleAt_28 : decode cX0_settleAt 28 = .ok (.istore 5, 2) := by decide +kernel
theorem dX0_settleAt_30 : decode cX0_settleAt 30 = .ok (.iload 5, 2) := by decide +kernel
theorem dX0_settleAt_32 : decode cX0_settleAt 32 = .ok (.iload 4, 2) := by decide +kernel
theorem dX0_settleAt_34 : decode cX0_settleAt 34 = .ok (.if_icmp .ge 36, 3) := by decide +kernel
theorem dX0_settleAt_37 : decode cX0_settleAt 37 = .ok (.iload_n 3, 1) := by decide +kernel
theorem dX0_settleAt_38 : decode cX0_settleAt 38 = .ok (.iload 5, 2) := by decide +kernel
theorem dX0_settleAt_40 : decode cX0_settleAt 40 = .ok (.iadd, 1) := by decide +kernel
theorem dX0_settleAt_41 : decode cX0_settleAt 41 = .ok (.ifCond .lt 23, 3) := by decide +kernel
theorem dX0_settleAt_44 : decode cX0_settleAt 44 = .ok (.iload_n 3, 1) := by decide +kernel
theorem dX0_settleAt_45 : decode cX0_settleAt 45 = .ok (.iload 5, 2) := by decide +kernel
theorem dX0_settleAt_47 : decode cX0_settleAt 47 = .ok (.iadd, 1) := by decide +kernel
theorem dX0_settleAt_48 : decode cX0_settleAt 48 = .ok (.sipush 192, 3) := by decide +kernel
theorem dX0_settleAt_51 : decode cX0_settleAt 51 = .ok (.if_icmp .ge 13, 3) := by decide +kernel
theorem dX0_settleAt_54 : decode cX0_settleAt 54 = .ok (.aload_n 0, 1) := by decide +kernel
theorem dX0_settleAt_55 : decode cX0_settleAt 55 = .ok (.getfield 55, 3) := by decide +kernel
theorem dX0_settleAt_58 : decode cX0_settleAt 58 = .ok (.iload_n 3, 1) := by decide +kernel
theorem dX0_settleAt_59 : decode cX0_settleAt 59 = .ok (.iload 5, 2) := by decide +kernel
theorem dX0_settleAt_61 : decode cX0_settleAt 61 = .ok (.iadd, 1) := by decide +kernel
theorem dX0_settleAt_62 : decode cX0_settleAt 62 = .ok (.iload_n 2, 1) := by decide +kernel
theorem dX0_settleAt_63 : decode cX0_settleAt 63 = .ok (.iastore, 1) := by decide +kernel
theorem dX0_settleAt_64 : decode cX0_settleAt 64 = .ok (.iinc 5 1, 3) := by decide +kernel
theorem dX0_settleAt_67 : decode cX0_settleAt 67 = .ok (.goto (-37), 3) := by decide +kernel
theorem dX0_settleAt_70 : decode cX0_settleAt 70 = .ok (.return_, 1) := by decide +kernel
def De_settleAt_64 (k30 : Int32 → Int32 → Int32 → Int32 → Sl → Option (Unit × Sl)) (v2 : Int32) (v3 : Int32) (v4 : Int32) (v5 : Int32) (d : Sl) : Option (Unit × Sl) :=
  bnd (v5 + (1 : Int32)) fun v5_1 =>
  k30 v2 v3 v4 v5_1 d
def De_settleAt_30 : Nat → Int32 → Int32 → Int32 → Int32 → Sl → Option (Unit × Sl)
  | 0, _, _, _, _, _ => none
  | n + 1, v2, v3, v4, v5, d =>
    if v4 ≤ v5 then
      (some ((), d))
    else
      (if (v3 + v5) < 0 then
        (De_settleAt_64 (De_settleAt_30 n) v2 v3 v4 v5 d)
      else
        (if (192 : Int32) ≤ (v3 + v5) then
          (De_settleAt_64 (De_settleAt_30 n) v2 v3 v4 v5 d)
        else
          (if inb (v3 + v5) 192 then
          bnd (wr d 32 (ix (v3 + v5)) v2) fun d2 =>
          De_settleAt_64 (De_settleAt_30 n) v2 v3 v4 v5 d2
          else none)))
def De_settleAt (d : Sl) (a1 : Int32) (a2 : Int32) : Option (Unit × Sl) :=
  if inb a1 192 then
  if inb a1 192 then
  bnd (((d 18 (ix a1)) * (32 : Int32)) + (d 19 (ix a1))) fun v3_3 =>
  if inb a1 192 then
  bnd ((1 : Int32) <<< ((d 21 (ix a1)) &&& 31)) fun v4_4 =>
  bnd (0 : Int32) fun v5_5 =>
  De_settleAt_30 FU a2 v3_3 v4_4 v5_5 d
  else none
  else none
  else none
theorem y_X0_settleAt : YV yX0_settleAt cX0_settleAt 6 none 2 := ⟨q593, q12, q594, q147, by decide +kernel, by decide +kernel, by decide +kernel, by decide +kernel⟩
theorem r_De_settleAt_64 {C : Cxt} {G : Geo} {M : Mem} {k : Nat} (hC : Cx C cX0_settleAt 6 "FrameHeirs$Deeds" none rm_X0_settleAt G) (hk : LWd G k) (hk2 : 2 ≤ k) (k30 : Int32 → Int32 → Int32 → Int32 → Sl → Option (Unit × Sl)) (h30 : ∀ (v2 : Int32) (v3 : Int32) (v4 : Int32) (v5 : Int32) (d : Sl), Rz C 6 G (setS M k) (poM avV (setS M k)) 30 [(0, .inr (k, 17)), (2, .inl (.int v2)), (3, .inl (.int v3)), (4, .inl (.int v4)), (5, .inl (.int v5))] [] d (k30 v2 v3 v4 v5 d)) (v2 : Int32) (v3 : Int32) (v4 : Int32) (v5 : Int32) (d : Sl) : Rz C 6 G (setS M k) (poM avV (setS M k)) 64 [(0, .inr (k, 17)), (2, .inl (.int v2)), (3, .inl (.int v3)), (4, .inl (.int v4)), (5, .inl (.int v5))] [] d (De_settleAt_64 k30 v2 v3 v4 v5 d) := by
  unfold De_settleAt_64
  refine z_iinc (pc := 64) (ls1 := fun v => [(5, .inl (.int v)), (0, .inr (k, 17)), (2, .inl (.int v2)), (3, .inl (.int v3)), (4, .inl (.int v4))]) hC 5 4 (by decide) (1 : Int32) rfl rfl (fun v => rfl) dX0_settleAt_64 (fun v5_1 => ?_)
  refine z_goto (pc := 67) hC 30 rfl dX0_settleAt_67 ?_
  exact z_sub [1, 2, 3, 4, 0] rfl (h30 v2 v3 v4 v5_1 d)
theorem r_De_settleAt_30 {C : Cxt} {G : Geo} {M : Mem} {k : Nat} (hC : Cx C cX0_settleAt 6 "FrameHeirs$Deeds" none rm_X0_settleAt G) (hk : LWd G k) (hk2 : 2 ≤ k) : ∀ (n : Nat) (v2 : Int32) (v3 : Int32) (v4 : Int32) (v5 : Int32) (d : Sl), Rz C 6 G (setS M k) (poM avV (setS M k)) 30 [(0, .inr (k, 17)), (2, .inl (.int v2)), (3, .inl (.int v3)), (4, .inl (.int v4)), (5, .inl (.int v5))] [] d (De_settleAt_30 n v2 v3 v4 v5 d) := by
  intro n
  induction n with
  | zero => intros; exact z_none
  | succ n ih =>
    intro v2 v3 v4 v5 d
    rw [De_settleAt_30]
    refine z_iload (pc := 30) hC 5 4 rfl dX0_settleAt_30 ?_
    refine z_iload (pc := 32) hC 4 3 rfl dX0_settleAt_32 ?_
    refine z_icmp_ge (pc := 34) hC 70 rfl dX0_settleAt_34 ?_ ?_
    · exact z_vret (pc := 70) hC rfl dX0_settleAt_70
    · refine z_iload_n (pc := 37) hC 3 rfl 2 rfl dX0_settleAt_37 ?_
      refine z_iload (pc := 38) hC 5 4 rfl dX0_settleAt_38 ?_
      refine z_iadd (pc := 40) hC dX0_settleAt_40 ?_
      refine z_if_lt (pc := 41) hC 64 rfl dX0_settleAt_41 ?_ ?_
      · exact z_sub [0, 1, 2, 3, 4] rfl (r_De_settleAt_64 hC hk hk2 _ ih v2 v3 v4 v5 d)
      · refine z_iload_n (pc := 44) hC 3 rfl 2 rfl dX0_settleAt_44 ?_
        refine z_iload (pc := 45) hC 5 4 rfl dX0_settleAt_45 ?_
        refine z_iadd (pc := 47) hC dX0_settleAt_47 ?_
        refine z_sipush (pc := 48) hC (192 : Int32) rfl dX0_settleAt_48 ?_
        refine z_icmp_ge (pc := 51) hC 64 rfl dX0_settleAt_51 ?_ ?_
        · exact z_sub [0, 1, 2, 3, 4] rfl (r_De_settleAt_64 hC hk hk2 _ ih v2 v3 v4 v5 d)
        · refine z_aload_n (pc := 54) hC 0 rfl 0 rfl dX0_settleAt_54 ?_
          refine z_getc (pc := 55) hC (hk 17 rfl) f_17_14 q324 dX0_settleAt_55 ?_
          refine z_iload_n (pc := 58) hC 3 rfl 2 rfl dX0_settleAt_58 ?_
          refine z_iload (pc := 59) hC 5 4 rfl dX0_settleAt_59 ?_
          refine z_iadd (pc := 61) hC dX0_settleAt_61 ?_
          refine z_iload_n (pc := 62) hC 2 rfl 1 rfl dX0_settleAt_62 ?_
          refine zs_iast (pc := 63) hC (hk 32 rfl) (by decide) rfl dX0_settleAt_63 (fun d2 => ?_)
          exact z_sub [0, 1, 2, 3, 4] rfl (r_De_settleAt_64 hC hk hk2 _ ih v2 v3 v4 v5 d2)
theorem r_De_settleAt {C : Cxt} {G : Geo} {M : Mem} {k : Nat} (hC : Cx C cX0_settleAt 6 "FrameHeirs$Deeds" none rm_X0_settleAt G) (hk : LWd G k) (hk2 : 2 ≤ k) (d : Sl) (a1 : Int32) (a2 : Int32) : Rz C 6 G (setS M k) (poM avV (setS M k)) 0 [(0, .inr (k, 17)), (1, .inl (.int a1)), (2, .inl (.int a2))] [] d (De_settleAt d a1 a2) := by
  unfold De_settleAt
  refine z_aload_n (pc := 0) hC 0 rfl 0 rfl dX0_settleAt_0 ?_
  refine z_getc (pc := 1) hC (hk 17 rfl) f_17_0 q293 dX0_settleAt_1 ?_
  refine z_iload_n (pc := 4) hC 1 rfl 1 rfl dX0_settleAt_4 ?_
  refine zs_iald (pc := 5) hC (hk 18 rfl) rfl dX0_settleAt_5 ?_
  refine z_bipush (pc := 6) hC (32 : Int32) rfl dX0_settleAt_6 ?_
  refine z_imul (pc := 8) hC dX0_settleAt_8 ?_
  refine z_aload_n (pc := 9) hC 0 rfl 0 rfl dX0_settleAt_9 ?_
  refine z_getc (pc := 10) hC (hk 17 rfl) f_17_1 q295 dX0_settleAt_10 ?_
  refine z_iload_n (pc := 13) hC 1 rfl 1 rfl dX0_settleAt_13 ?_
  refine zs_iald (pc := 14) hC (hk 19 rfl) rfl dX0_settleAt_14 ?_
  refine z_iadd (pc := 15) hC dX0_settleAt_15 ?_
  refine z_istore_n (pc := 16) (ls1 := fun v => [(3, .inl (.int v)), (0, .inr (k, 17)), (1, .inl (.int a1)), (2, .inl (.int a2))]) hC 3 rfl (by decide) (fun v => rfl) dX0_settleAt_16 (fun v3_3 => ?_)
  refine z_iconst (pc := 17) hC (1 : Int32) rfl dX0_settleAt_17 ?_
  refine z_aload_n (pc := 18) hC 0 rfl 1 rfl dX0_settleAt_18 ?_
  refine z_getc (pc := 19) hC (hk 17 rfl) f_17_3 q302 dX0_settleAt_19 ?_
  refine z_iload_n (pc := 22) hC 1 rfl 2 rfl dX0_settleAt_22 ?_
  refine zs_iald (pc := 23) hC (hk 21 rfl) rfl dX0_settleAt_23 ?_
  refine z_ishl (pc := 24) hC dX0_settleAt_24 ?_
  refine z_istore (pc := 25) (ls1 := fun v => [(4, .inl (.int v)), (3, .inl (.int v3_3)), (0, .inr (k, 17)), (1, .inl (.int a1)), (2, .inl (.int a2))]) hC 4 (by decide) (fun v => rfl) dX0_settleAt_25 (fun v4_4 => ?_)
  refine z_iconst (pc := 27) hC (0 : Int32) rfl dX0_settleAt_27 ?_
  refine z_istore (pc := 28) (ls1 := fun v => [(5, .inl (.int v)), (4, .inl (.int v4_4)), (3, .inl (.int v3_3)), (0, .inr (k, 17)), (1, .inl (.int a1)), (2, .inl (.int a2))]) hC 5 (by decide) (fun v => rfl) dX0_settleAt_28 (fun v5_5 => ?_)
  exact z_sub [3, 5, 2, 1, 0] rfl (r_De_settleAt_30 hC hk hk2 FU a2 v3_3 v4_4 v5_5 d)
theorem c_X0_settleAt {G : Geo} {M : Mem} {k : Nat} (hG : GOk G) (hk : LWd G k) (hk2 : 2 ≤ k) {d : Sl} {a1 : Int32} {a2 : Int32} (l : Launch) (r : Unit) (d1 : Sl) (h : De_settleAt d a1 a2 = some (r, d1)) : Mt l yX0_settleAt cX0_settleAt 6 none rm_X0_settleAt G [.inr (k, 17), .inl (.int a1), .inl (.int a2)] ((setS M k) d) (avV r) ((setS M k) d1) :=
  mt_of (mem := (setS M k)) (po := poM avV (setS M k)) (x0 := d) (t := (r, d1)) rfl hG [.inr (k, 17), .inl (.int a1), .inl (.int a2)] (Nat.le_of_ble_eq_true rfl) rfl (fun C hC => r_De_settleAt hC hk hk2 d a1 a2) h
-- FrameHeirs$Deeds.make(IIIII)I
abbrev rm_X0_make : Room := { frames := 1, cells := 0, slots := 0, locals := 25 }
theorem dX0_make_0 : decode cX0_make 0 = .ok (.iconst 0, 1) := by decide +kernel
theorem dX0_make_1 : decode cX0_make 1 = .ok (.istore 6, 2) := by decide +kernel
theorem dX0_make_3 : decode cX0_make 3 = .ok (.iload 6, 2) := by decide +kernel
theorem dX0_make_5 : decode cX0_make 5 = .ok (.aload_n 0, 1) := by decide +kernel
theorem dX0_make_6 : decode cX0_make 6 = .ok (.getfield 61, 3) := by decide +kernel
theorem dX0_make_9 : decode cX0_make 9 = .ok (.if_icmp .ge 19, 3) := by decide +kernel
theorem dX0_make_12 : decode cX0_make 12 = .ok (.aload_n 0, 1) := by decide +kernel
theorem dX0_make_13 : decode cX0_make 13 = .ok (.getfield 21, 3) := by decide +kernel
theorem dX0_make_16 : decode cX0_make 16 = .ok (.iload 6, 2) := by decide +kernel
theorem dX0_make_18 : decode cX0_make 18 = .ok (.iaload, 1) := by decide +kernel
theorem dX0_make_19 : decode cX0_make 19 = .ok (.ifCond .lt 9, 3) := by decide +kernel
theorem dX0_make_22 : decode cX0_make 22 = .ok (.iinc 6 1, 3) := by decide +kernel
theorem dX0_make_25 : decode cX0_make 25 = .ok (.goto (-22), 3) := by decide +kernel
theorem dX0_make_28 : decode cX0_make 28 = .ok (.iload 6, 2) := by decide +kernel
theorem dX0_make_30 : decode cX0_make 30 = .ok (.sipush 192, 3) := by decide +kernel
theorem dX0_make_33 : decode cX0_make 33 = .ok (.if_icmp .lt 5, 3) := by decide +kernel
theorem dX0_make_36 : decode cX0_make 36 = .ok (.iconst (-1), 1) := by decide +kernel
theorem dX0_make_37 : decode cX0_make 37 = .ok (.ireturn, 1) := by decide +kernel
theorem dX0_make_38 : decode cX0_make 38 = .ok (.aload_n 0, 1) := by decide +kernel
theorem dX0_make_39 : decode cX0_make 39 = .ok (.aload_n 0, 1) := by decide +kernel
theorem dX0_make_40 : decode cX0_make 40 = .ok (.getfield 61, 3) := by decide +kernel
theorem dX0_make_43 : decode cX0_make 43 = .ok (.iload 6, 2) := by decide +kernel
theorem dX0_make_45 : decode cX0_make 45 = .ok (.iconst 1, 1) := by decide +kernel
theorem dX0_make_46 : decode cX0_make 46 = .ok (.iadd, 1) := by decide +kernel
theorem dX0_make_47 : decode cX0_make 47 = .ok (.invokestatic 90, 3) := by decide +kernel
theorem dX0_make_50 : decode cX0_make 50 = .ok (.putfield 61, 3) := by decide +kernel
theorem dX0_make_53 : decode cX0_make 53 = .ok (.aload_n 0, 1) := by decide +kernel
theorem dX0_make_54 : decode cX0_make 54 = .ok (.getfield 9, 3) := by decide +kernel
theorem dX0_make_57 : decode cX0_make 57 = .ok (.iload 6, 2) := by decide +kernel
theorem dX0_make_59 : decode cX0_make 59 = .ok (.iload_n 1, 1) := by decide +kernel
theorem dX0_make_60 : decode cX0_make 60 = .ok (.iastore, 1) := by decide +kernel
theorem dX0_make_61 : decode cX0_make 61 = .ok (.aload_n 0, 1) := by decide +kernel
theorem dX0_make_62 : decode cX0_make 62 = .ok (.getfield 15, 3) := by decide +kernel
theorem dX0_make_65 : decode cX0_make 65 = .ok (.iload 6, 2) := by decide +kernel
theorem dX0_make_67 : decode cX0_make 67 = .ok (.iload_n 2, 1) := by decide +kernel
theorem dX0_make_68 : decode cX0_make 68 = .ok (.iastore, 1) := by decide +kernel
theorem dX0_make_69 : decode cX0_make 69 = .ok (.aload_n 0, 1) := by decide +kernel
theorem dX0_make_70 : decode cX0_make 70 = .ok (.getfield 18, 3) := by decide +kernel
theorem dX0_make_73 : decode cX0_make 73 = .ok (.iload 6, 2) := by decide +kernel
theorem dX0_make_75 : decode cX0_make 75 = .ok (.iload_n 3, 1) := by decide +kernel
theorem dX0_make_76 : decode cX0_make 76 = .ok (.iastore, 1) := by decide +kernel
theorem dX0_make_77 : decode cX0_make 77 = .ok (.aload_n 0, 1) := by decide +kernel
theorem dX0_make_78 : decode cX0_make 78 = .ok (.getfield 21, 3) := by decide +kernel
theorem dX0_make_81 : decode cX0_make 81 = .ok (.iload 6, 2) := by decide +kernel
theorem dX0_make_83 : decode cX0_make 83 = .ok (.iload 4, 2) := by decide +kernel
theorem dX0_make_85 : decode cX0_make 85 = .ok (.iastore, 1) := by decide +kernel
theorem dX0_make_86 : decode cX0_make 86 = .ok (.aload_n 0, 1) := by decide +kernel
theorem dX0_make_87 : decode cX0_make 87 = .ok (.getfield 24, 3) := by decide +kernel
theorem dX0_make_90 : decode cX0_make 90 = .ok (.iload 6, 2) := by decide +kernel
theorem dX0_make_92 : decode cX0_make 92 = .ok (.iload 5, 2) := by decide +kernel
theorem dX0_make_94 : decode cX0_make 94 = .ok (.iastore, 1) := by decide +kernel
theorem dX0_make_95 : decode cX0_make 95 = .ok (.aload_n 0, 1) := by decide +kernel
theorem dX0_make_96 : decode cX0_make 96 = .ok (.getfield 27, 3) := by decide +kernel
theorem dX0_make_99 : decode cX0_make 99 = .ok (.iload 6, 2) := by decide +kernel
theorem dX0_make_101 : decode cX0_make 101 = .ok (.iconst (-1), 1) := by decide +kernel
theorem dX0_make_102 : decode cX0_make 102 = .ok (.iastore, 1) := by decide +kernel
theorem dX0_make_103 : decode cX0_make 103 = .ok (.aload_n 0, 1) := by decide +kernel
theorem dX0_make_104 : decode cX0_make 104 = .ok (.getfield 30, 3) := by decide +kernel
theorem dX0_make_107 : decode cX0_make 107 = .ok (.iload 6, 2) := by decide +kernel
theorem dX0_make_109 : decode cX0_make 109 = .ok (.iconst (-1), 1) := by decide +kernel
theorem dX0_make_110 : decode cX0_make 110 = .ok (.iastore, 1) := by decide +kernel
theorem dX0_make_111 : decode cX0_make 111 = .ok (.aload_n 0, 1) := by decide +kernel
theorem dX0_make_112 : decode cX0_make 112 = .ok (.getfield 33, 3) := by decide +kernel
theorem dX0_make_115 : decode cX0_make 115 = .ok (.iload 6, 2) := by decide +kernel
theorem dX0_make_117 : decode cX0_make 117 = .ok (.iconst (-1), 1) := by decide +kernel
theorem dX0_make_118 : decode cX0_make 118 = .ok (.iastore, 1) := by decide +kernel
theorem dX0_make_119 : decode cX0_make 119 = .ok (.aload_n 0, 1) := by decide +kernel
theorem dX0_make_120 : decode cX0_make 120 = .ok (.getfield 36, 3) := by decide +kernel
theorem dX0_make_123 : decode cX0_make 123 = .ok (.iload 6, 2) := by decide +kernel
theorem dX0_make_125 : decode cX0_make 125 = .ok (.iconst (-1), 1) := by decide +kernel
theorem dX0_make_126 : decode cX0_make 126 = .ok (.iastore, 1) := by decide +kernel
theorem dX0_make_127 : decode cX0_make 127 = .ok (.aload_n 0, 1) := by decide +kernel
theorem dX0_make_128 : decode cX0_make 128 = .ok (.getfield 39, 3) := by decide +kernel
theorem dX0_make_131 : decode cX0_make 131 = .ok (.iload 6, 2) := by decide +kernel
theorem dX0_make_133 : decode cX0_make 133 = .ok (.iconst (-1), 1) := by decide +kernel
theorem dX0_make_134 : decode cX0_make 134 = .ok (.iastore, 1) := by decide +kernel
theorem dX0_make_135 : decode cX0_make 135 = .ok (.aload_n 0, 1) := by decide +kernel
theorem dX0_make_136 : decode cX0_make 136 = .ok (.getfield 42, 3) := by decide +kernel
theorem dX0_make_139 : decode cX0_make 139 = .ok (.iload 6, 2) := by decide +kernel
theorem dX0_make_141 : decode cX0_make 141 = .ok (.iconst 0, 1) := by decide +kernel
theorem dX0_make_142 : decode cX0_make 142 = .ok (.iastore, 1) := by decide +kernel
theorem dX0_make_143 : decode cX0_make 143 = .ok (.aload_n 0, 1) := by decide +kernel
theorem dX0_make_144 : decode cX0_make 144 = .ok (.getfield 45, 3) := by decide +kernel
theorem dX0_make_147 : decode cX0_make 147 = .ok (.iload 6, 2) := by decide +kernel
theorem dX0_make_149 : decode cX0_make 149 = .ok (.iconst 0, 1) := by decide +kernel
theorem dX0_make_150 : decode cX0_make 150 = .ok (.iastore, 1) := by decide +kernel
theorem dX0_make_151 : decode cX0_make 151 = .ok (.aload_n 0, 1) := by decide +kernel
theorem dX0_make_152 : decode cX0_make 152 = .ok (.getfield 48, 3) := by decide +kernel
theorem dX0_make_155 : decode cX0_make 155 = .ok (.iload 6, 2) := by decide +kernel
theorem dX0_make_157 : decode cX0_make 157 = .ok (.iconst 0, 1) := by decide +kernel
theorem dX0_make_158 : decode cX0_make 158 = .ok (.iastore, 1) := by decide +kernel
theorem dX0_make_159 : decode cX0_make 159 = .ok (.aload_n 0, 1) := by decide +kernel
theorem dX0_make_160 : decode cX0_make 160 = .ok (.getfield 51, 3) := by decide +kernel
theorem dX0_make_163 : decode cX0_make 163 = .ok (.iload 6, 2) := by decide +kernel
theorem dX0_make_165 : decode cX0_make 165 = .ok (.fconst 0, 1) := by decide +kernel
theorem dX0_make_166 : decode cX0_make 166 = .ok (.fastore, 1) := by decide +kernel
theorem dX0_make_167 : decode cX0_make 167 = .ok (.aload_n 0, 1) := by decide +kernel
theorem dX0_make_168 : decode cX0_make 168 = .ok (.dup, 1) := by decide +kernel
theorem dX0_make_169 : decode cX0_make 169 = .ok (.getfield 65, 3) := by decide +kernel
theorem dX0_make_172 : decode cX0_make 172 = .ok (.iconst 1, 1) := by decide +kernel
theorem dX0_make_173 : decode cX0_make 173 = .ok (.iadd, 1) := by decide +kernel
theorem dX0_make_174 : decode cX0_make 174 = .ok (.putfield 65, 3) := by decide +kernel
theorem dX0_make_177 : decode cX0_make 177 = .ok (.aload_n 0, 1) := by decide +kernel
theorem dX0_make_178 : decode cX0_make 178 = .ok (.iload 6, 2) := by decide +kernel
theorem dX0_make_180 : decode cX0_make 180 = .ok (.iload 6, 2) := by decide +kernel
theorem dX0_make_182 : decode cX0_make 182 = .ok (.invokevirtual 96, 3) := by decide +kernel
theorem dX0_make_185 : decode cX0_make 185 = .ok (.iload 6, 2) := by decide +kernel
theorem dX0_make_187 : decode cX0_make 187 = .ok (.ireturn, 1) := by decide +kernel
def De_make_28 (v1 : Int32) (v2 : Int32) (v3 : Int32) (v4 : Int32) (v5 : Int32) (v6 : Int32) (d : Sl) : Option (Int32 × Sl) :=
  if v6 < (192 : Int32) then
    (bnd (wr d 17 16 (if (d 17 16) < (v6 + (1 : Int32)) then (v6 + (1 : Int32)) else (d 17 16))) fun d1 =>
    if inb v6 192 then
    bnd (wr d1 18 (ix v6) v1) fun d2 =>
    if inb v6 192 then
    bnd (wr d2 19 (ix v6) v2) fun d3 =>
    if inb v6 192 then
    bnd (wr d3 20 (ix v6) v3) fun d4 =>
    if inb v6 192 then
    bnd (wr d4 21 (ix v6) v4) fun d5 =>
    if inb v6 192 then
    bnd (wr d5 22 (ix v6) v5) fun d6 =>
    if inb v6 192 then
    bnd (wr d6 23 (ix v6) (-1 : Int32)) fun d7 =>
    if inb v6 192 then
    bnd (wr d7 24 (ix v6) (-1 : Int32)) fun d8 =>
    if inb v6 192 then
    bnd (wr d8 25 (ix v6) (-1 : Int32)) fun d9 =>
    if inb v6 192 then
    bnd (wr d9 26 (ix v6) (-1 : Int32)) fun d10 =>
    if inb v6 192 then
    bnd (wr d10 27 (ix v6) (-1 : Int32)) fun d11 =>
    if inb v6 192 then
    bnd (wr d11 28 (ix v6) (0 : Int32)) fun d12 =>
    if inb v6 192 then
    bnd (wr d12 29 (ix v6) (0 : Int32)) fun d13 =>
    if inb v6 192 then
    bnd (wr d13 30 (ix v6) (0 : Int32)) fun d14 =>
    if inb v6 192 then
    bnd (wr d14 31 (ix v6) (FP.fconst0).toInt32) fun d15 =>
    bnd (wr d15 17 17 ((d15 17 17) + (1 : Int32))) fun d16 =>
    bd (De_settleAt d16 v6 v6) fun r17 d18 =>
    some (v6, d18)
    else none
    else none
    else none
    else none
    else none
    else none
    else none
    else none
    else none
    else none
    else none
    else none
    else none
    else none)
  else
    (some ((-1 : Int32), d))
def De_make_3 : Nat → Int32 → Int32 → Int32 → Int32 → Int32 → Int32 → Sl → Option (Int32 × Sl)
  | 0, _, _, _, _, _, _, _ => none
  | n + 1, v1, v2, v3, v4, v5, v6, d =>
    if (d 17 16) ≤ v6 then
      (De_make_28 v1 v2 v3 v4 v5 v6 d)
    else
      (if inb v6 192 then
      if (d 21 (ix v6)) < 0 then
        (De_make_28 v1 v2 v3 v4 v5 v6 d)
      else
        (bnd (v6 + (1 : Int32)) fun v6_19 =>
        De_make_3 n v1 v2 v3 v4 v5 v6_19 d)
      else none)
def De_make (d : Sl) (a1 : Int32) (a2 : Int32) (a3 : Int32) (a4 : Int32) (a5 : Int32) : Option (Int32 × Sl) :=
  bnd (0 : Int32) fun v6_20 =>
  De_make_3 FU a1 a2 a3 a4 a5 v6_20 d
theorem y_X0_make : YV yX0_make cX0_make 7 (some .int) 5 := ⟨q585, q586, q587, q147, by decide +kernel, by decide +kernel, by decide +kernel, by decide +kernel⟩
theorem r_De_make_28 {C : Cxt} {G : Geo} {M : Mem} {k : Nat} (hC : Cx C cX0_make 7 "FrameHeirs$Deeds" (some .int) rm_X0_make G) (hk : LWd G k) (hk2 : 2 ≤ k) (v1 : Int32) (v2 : Int32) (v3 : Int32) (v4 : Int32) (v5 : Int32) (v6 : Int32) (d : Sl) : Rz C 7 G (setS M k) (poM avI (setS M k)) 28 [(0, .inr (k, 17)), (1, .inl (.int v1)), (2, .inl (.int v2)), (3, .inl (.int v3)), (4, .inl (.int v4)), (5, .inl (.int v5)), (6, .inl (.int v6))] [] d (De_make_28 v1 v2 v3 v4 v5 v6 d) := by
  unfold De_make_28
  refine z_iload (pc := 28) hC 6 6 rfl dX0_make_28 ?_
  refine z_sipush (pc := 30) hC (192 : Int32) rfl dX0_make_30 ?_
  refine z_icmp_lt (pc := 33) hC 38 rfl dX0_make_33 ?_ ?_
  · refine z_aload_n (pc := 38) hC 0 rfl 0 rfl dX0_make_38 ?_
    refine z_aload_n (pc := 39) hC 0 rfl 0 rfl dX0_make_39 ?_
    refine zs_geti (pc := 40) hC (hk 17 rfl) f_17_16 q327 dX0_make_40 ?_
    refine z_iload (pc := 43) hC 6 6 rfl dX0_make_43 ?_
    refine z_iconst (pc := 45) hC (1 : Int32) rfl dX0_make_45 ?_
    refine z_iadd (pc := 46) hC dX0_make_46 ?_
    refine z_max (pc := 47) hC q588 q589 q150 q590 (Nat.le_of_ble_eq_true rfl) (Nat.le_of_ble_eq_true rfl) dX0_make_47 ?_
    refine zs_puti (pc := 50) hC (hk 17 rfl) f_17_16 q327 dX0_make_50 (fun d1 => ?_)
    refine z_aload_n (pc := 53) hC 0 rfl 0 rfl dX0_make_53 ?_
    refine z_getc (pc := 54) hC (hk 17 rfl) f_17_0 q293 dX0_make_54 ?_
    refine z_iload (pc := 57) hC 6 6 rfl dX0_make_57 ?_
    refine z_iload_n (pc := 59) hC 1 rfl 1 rfl dX0_make_59 ?_
    refine zs_iast (pc := 60) hC (hk 18 rfl) (by decide) rfl dX0_make_60 (fun d2 => ?_)
    refine z_aload_n (pc := 61) hC 0 rfl 0 rfl dX0_make_61 ?_
    refine z_getc (pc := 62) hC (hk 17 rfl) f_17_1 q295 dX0_make_62 ?_
    refine z_iload (pc := 65) hC 6 6 rfl dX0_make_65 ?_
    refine z_iload_n (pc := 67) hC 2 rfl 2 rfl dX0_make_67 ?_
    refine zs_iast (pc := 68) hC (hk 19 rfl) (by decide) rfl dX0_make_68 (fun d3 => ?_)
    refine z_aload_n (pc := 69) hC 0 rfl 0 rfl dX0_make_69 ?_
    refine z_getc (pc := 70) hC (hk 17 rfl) f_17_2 q299 dX0_make_70 ?_
    refine z_iload (pc := 73) hC 6 6 rfl dX0_make_73 ?_
    refine z_iload_n (pc := 75) hC 3 rfl 3 rfl dX0_make_75 ?_
    refine zs_iast (pc := 76) hC (hk 20 rfl) (by decide) rfl dX0_make_76 (fun d4 => ?_)
    refine z_aload_n (pc := 77) hC 0 rfl 0 rfl dX0_make_77 ?_
    refine z_getc (pc := 78) hC (hk 17 rfl) f_17_3 q302 dX0_make_78 ?_
    refine z_iload (pc := 81) hC 6 6 rfl dX0_make_81 ?_
    refine z_iload (pc := 83) hC 4 4 rfl dX0_make_83 ?_
    refine zs_iast (pc := 85) hC (hk 21 rfl) (by decide) rfl dX0_make_85 (fun d5 => ?_)
    refine z_aload_n (pc := 86) hC 0 rfl 0 rfl dX0_make_86 ?_
    refine z_getc (pc := 87) hC (hk 17 rfl) f_17_4 q305 dX0_make_87 ?_
    refine z_iload (pc := 90) hC 6 6 rfl dX0_make_90 ?_
    refine z_iload (pc := 92) hC 5 5 rfl dX0_make_92 ?_
    refine zs_iast (pc := 94) hC (hk 22 rfl) (by decide) rfl dX0_make_94 (fun d6 => ?_)
    refine z_aload_n (pc := 95) hC 0 rfl 0 rfl dX0_make_95 ?_
    refine z_getc (pc := 96) hC (hk 17 rfl) f_17_5 q308 dX0_make_96 ?_
    refine z_iload (pc := 99) hC 6 6 rfl dX0_make_99 ?_
    refine z_iconst (pc := 101) hC (-1 : Int32) rfl dX0_make_101 ?_
    refine zs_iast (pc := 102) hC (hk 23 rfl) (by decide) rfl dX0_make_102 (fun d7 => ?_)
    refine z_aload_n (pc := 103) hC 0 rfl 0 rfl dX0_make_103 ?_
    refine z_getc (pc := 104) hC (hk 17 rfl) f_17_6 q311 dX0_make_104 ?_
    refine z_iload (pc := 107) hC 6 6 rfl dX0_make_107 ?_
    refine z_iconst (pc := 109) hC (-1 : Int32) rfl dX0_make_109 ?_
    refine zs_iast (pc := 110) hC (hk 24 rfl) (by decide) rfl dX0_make_110 (fun d8 => ?_)
    refine z_aload_n (pc := 111) hC 0 rfl 0 rfl dX0_make_111 ?_
    refine z_getc (pc := 112) hC (hk 17 rfl) f_17_7 q313 dX0_make_112 ?_
    refine z_iload (pc := 115) hC 6 6 rfl dX0_make_115 ?_
    refine z_iconst (pc := 117) hC (-1 : Int32) rfl dX0_make_117 ?_
    refine zs_iast (pc := 118) hC (hk 25 rfl) (by decide) rfl dX0_make_118 (fun d9 => ?_)
    refine z_aload_n (pc := 119) hC 0 rfl 0 rfl dX0_make_119 ?_
    refine z_getc (pc := 120) hC (hk 17 rfl) f_17_8 q314 dX0_make_120 ?_
    refine z_iload (pc := 123) hC 6 6 rfl dX0_make_123 ?_
    refine z_iconst (pc := 125) hC (-1 : Int32) rfl dX0_make_125 ?_
    refine zs_iast (pc := 126) hC (hk 26 rfl) (by decide) rfl dX0_make_126 (fun d10 => ?_)
    refine z_aload_n (pc := 127) hC 0 rfl 0 rfl dX0_make_127 ?_
    refine z_getc (pc := 128) hC (hk 17 rfl) f_17_9 q316 dX0_make_128 ?_
    refine z_iload (pc := 131) hC 6 6 rfl dX0_make_131 ?_
    refine z_iconst (pc := 133) hC (-1 : Int32) rfl dX0_make_133 ?_
    refine zs_iast (pc := 134) hC (hk 27 rfl) (by decide) rfl dX0_make_134 (fun d11 => ?_)
    refine z_aload_n (pc := 135) hC 0 rfl 0 rfl dX0_make_135 ?_
    refine z_getc (pc := 136) hC (hk 17 rfl) f_17_10 q317 dX0_make_136 ?_
    refine z_iload (pc := 139) hC 6 6 rfl dX0_make_139 ?_
    refine z_iconst (pc := 141) hC (0 : Int32) rfl dX0_make_141 ?_
    refine zs_iast (pc := 142) hC (hk 28 rfl) (by decide) rfl dX0_make_142 (fun d12 => ?_)
    refine z_aload_n (pc := 143) hC 0 rfl 0 rfl dX0_make_143 ?_
    refine z_getc (pc := 144) hC (hk 17 rfl) f_17_11 q318 dX0_make_144 ?_
    refine z_iload (pc := 147) hC 6 6 rfl dX0_make_147 ?_
    refine z_iconst (pc := 149) hC (0 : Int32) rfl dX0_make_149 ?_
    refine zs_iast (pc := 150) hC (hk 29 rfl) (by decide) rfl dX0_make_150 (fun d13 => ?_)
    refine z_aload_n (pc := 151) hC 0 rfl 0 rfl dX0_make_151 ?_
    refine z_getc (pc := 152) hC (hk 17 rfl) f_17_12 q320 dX0_make_152 ?_
    refine z_iload (pc := 155) hC 6 6 rfl dX0_make_155 ?_
    refine z_iconst (pc := 157) hC (0 : Int32) rfl dX0_make_157 ?_
    refine zs_iast (pc := 158) hC (hk 30 rfl) (by decide) rfl dX0_make_158 (fun d14 => ?_)
    refine z_aload_n (pc := 159) hC 0 rfl 0 rfl dX0_make_159 ?_
    refine z_getc (pc := 160) hC (hk 17 rfl) f_17_13 q321 dX0_make_160 ?_
    refine z_iload (pc := 163) hC 6 6 rfl dX0_make_163 ?_
    refine z_fconst0 (pc := 165) hC dX0_make_165 ?_
    refine zs_fast (pc := 166) hC (hk 31 rfl) (by decide) rfl dX0_make_166 (fun d15 => ?_)
    refine z_aload_n (pc := 167) hC 0 rfl 0 rfl dX0_make_167 ?_
    refine z_dup (pc := 168) hC rfl dX0_make_168 ?_
    refine zs_geti (pc := 169) hC (hk 17 rfl) f_17_17 q329 dX0_make_169 ?_
    refine z_iconst (pc := 172) hC (1 : Int32) rfl dX0_make_172 ?_
    refine z_iadd (pc := 173) hC dX0_make_173 ?_
    refine zs_puti (pc := 174) hC (hk 17 rfl) f_17_17 q329 dX0_make_174 (fun d16 => ?_)
    refine z_aload_n (pc := 177) hC 0 rfl 0 rfl dX0_make_177 ?_
    refine z_iload (pc := 178) hC 6 6 rfl dX0_make_178 ?_
    refine z_iload (pc := 180) hC 6 6 rfl dX0_make_180 ?_
    refine z_cvV (pc := 182) (st := []) hC y_X0_settleAt q591 [.inl (.int v6), .inl (.int v6)] rfl (hk 17 rfl) rfl rfl (c_X0_settleAt hC.2.2.2.2.2.2.1 hk hk2) rfl ⟨rfl, rfl, (Nat.le_of_ble_eq_true rfl), (Nat.le_of_ble_eq_true rfl)⟩ (Nat.le_of_ble_eq_true rfl) dX0_make_182 (fun r17 d18 => ?_)
    refine z_iload (pc := 185) hC 6 6 rfl dX0_make_185 ?_
    exact z_iret (pc := 187) hC rfl dX0_make_187
  · refine z_iconst (pc := 36) hC (-1 : Int32) rfl dX0_make_36 ?_
    exact z_iret (pc := 37) hC rfl dX0_make_37
theorem r_De_make_3 {C : Cxt} {G : Geo} {M : Mem} {k : Nat} (hC : Cx C cX0_make 7 "FrameHeirs$Deeds" (some .int) rm_X0_make G) (hk : LWd G k) (hk2 : 2 ≤ k) : ∀ (n : Nat) (v1 : Int32) (v2 : Int32) (v3 : Int32) (v4 : Int32) (v5 : Int32) (v6 : Int32) (d : Sl), Rz C 7 G (setS M k) (poM avI (setS M k)) 3 [(0, .inr (k, 17)), (1, .inl (.int v1)), (2, .inl (.int v2)), (3, .inl (.int v3)), (4, .inl (.int v4)), (5, .inl (.int v5)), (6, .inl (.int v6))] [] d (De_make_3 n v1 v2 v3 v4 v5 v6 d) := by
  intro n
  induction n with
  | zero => intros; exact z_none
  | succ n ih =>
    intro v1 v2 v3 v4 v5 v6 d
    rw [De_make_3]
    refine z_iload (pc := 3) hC 6 6 rfl dX0_make_3 ?_
    refine z_aload_n (pc := 5) hC 0 rfl 0 rfl dX0_make_5 ?_
    refine zs_geti (pc := 6) hC (hk 17 rfl) f_17_16 q327 dX0_make_6 ?_
    refine z_icmp_ge (pc := 9) hC 28 rfl dX0_make_9 ?_ ?_
    · exact z_sub [0, 1, 2, 3, 4, 5, 6] rfl (r_De_make_28 hC hk hk2 v1 v2 v3 v4 v5 v6 d)
    · refine z_aload_n (pc := 12) hC 0 rfl 0 rfl dX0_make_12 ?_
      refine z_getc (pc := 13) hC (hk 17 rfl) f_17_3 q302 dX0_make_13 ?_
      refine z_iload (pc := 16) hC 6 6 rfl dX0_make_16 ?_
      refine zs_iald (pc := 18) hC (hk 21 rfl) rfl dX0_make_18 ?_
      refine z_if_lt (pc := 19) hC 28 rfl dX0_make_19 ?_ ?_
      · exact z_sub [0, 1, 2, 3, 4, 5, 6] rfl (r_De_make_28 hC hk hk2 v1 v2 v3 v4 v5 v6 d)
      · refine z_iinc (pc := 22) (ls1 := fun v => [(6, .inl (.int v)), (0, .inr (k, 17)), (1, .inl (.int v1)), (2, .inl (.int v2)), (3, .inl (.int v3)), (4, .inl (.int v4)), (5, .inl (.int v5))]) hC 6 6 (by decide) (1 : Int32) rfl rfl (fun v => rfl) dX0_make_22 (fun v6_19 => ?_)
        refine z_goto (pc := 25) hC 3 rfl dX0_make_25 ?_
        exact z_sub [1, 2, 3, 4, 5, 6, 0] rfl (ih v1 v2 v3 v4 v5 v6_19 d)
theorem r_De_make {C : Cxt} {G : Geo} {M : Mem} {k : Nat} (hC : Cx C cX0_make 7 "FrameHeirs$Deeds" (some .int) rm_X0_make G) (hk : LWd G k) (hk2 : 2 ≤ k) (d : Sl) (a1 : Int32) (a2 : Int32) (a3 : Int32) (a4 : Int32) (a5 : Int32) : Rz C 7 G (setS M k) (poM avI (setS M k)) 0 [(0, .inr (k, 17)), (1, .inl (.int a1)), (2, .inl (.int a2)), (3, .inl (.int a3)), (4, .inl (.int a4)), (5, .inl (.int a5))] [] d (De_make d a1 a2 a3 a4 a5) := by
  unfold De_make
  refine z_iconst (pc := 0) hC (0 : Int32) rfl dX0_make_0 ?_
  refine z_istore (pc := 1) (ls1 := fun v => [(6, .inl (.int v)), (0, .inr (k, 17)), (1, .inl (.int a1)), (2, .inl (.int a2)), (3, .inl (.int a3)), (4, .inl (.int a4)), (5, .inl (.int a5))]) hC 6 (by decide) (fun v => rfl) dX0_make_1 (fun v6_20 => ?_)
  exact z_sub [1, 2, 3, 4, 5, 6, 0] rfl (r_De_make_3 hC hk hk2 FU a1 a2 a3 a4 a5 v6_20 d)
theorem c_X0_make {G : Geo} {M : Mem} {k : Nat} (hG : GOk G) (hk : LWd G k) (hk2 : 2 ≤ k) {d : Sl} {a1 : Int32} {a2 : Int32} {a3 : Int32} {a4 : Int32} {a5 : Int32} (l : Launch) (r : Int32) (d1 : Sl) (h : De_make d a1 a2 a3 a4 a5 = some (r, d1)) : Mt l yX0_make cX0_make 7 (some .int) rm_X0_make G [.inr (k, 17), .inl (.int a1), .inl (.int a2), .inl (.int a3), .inl (.int a4), .inl (.int a5)] ((setS M k) d) (avI r) ((setS M k) d1) :=
  mt_of (mem := (setS M k)) (po := poM avI (setS M k)) (x0 := d) (t := (r, d1)) rfl hG [.inr (k, 17), .inl (.int a1), .inl (.int a2), .inl (.int a3), .inl (.int a4), .inl (.int a5)] (Nat.le_of_ble_eq_true rfl) rfl (fun C hC => r_De_make hC hk hk2 d a1 a2 a3 a4 a5) h
-- FrameHeirs$Deeds.release(I)V
abbrev rm_X0_release : Room := { frames := 1, cells := 0, slots := 0, locals := 25 }
theorem dX0_release_0 : decode cX0_release 0 = .ok (.aload_n 0, 1) := by decide +kernel
theorem dX0_release_1 : decode cX0_release 1 = .ok (.iload_n 1, 1) := by decide +kernel
theorem dX0_release_2 : decode cX0_release 2 = .ok (.iconst (-1), 1) := by decide +kernel
theorem dX0_release_3 : decode cX0_release 3 = .ok (.invokevirtual 96, 3) := by decide +kernel
theorem dX0_release_6 : decode cX0_release 6 = .ok (.aload_n 0, 1) := by decide +kernel
theorem dX0_release_7 : decode cX0_release 7 = .ok (.getfield 21, 3) := by decide +kernel
theorem dX0_release_10 : decode cX0_release 10 = .ok (.iload_n 1, 1) := by decide +kernel
theorem dX0_release_11 : decode cX0_release 11 = .ok (.iconst (-1), 1) := by decide +kernel
theorem dX0_release_12 : decode cX0_release 12 = .ok (.iastore, 1) := by decide +kernel
theorem dX0_release_13 : decode cX0_release 13 = .ok (.aload_n 0, 1) := by decide +kernel
theorem dX0_release_14 : decode cX0_release 14 = .ok (.dup, 1) := by decide +kernel
theorem dX0_release_15 : decode cX0_release 15 = .ok (.getfield 68, 3) := by decide +kernel
theorem dX0_release_18 : decode cX0_release 18 = .ok (.aload_n 0, 1) := by decide +kernel
theorem dX0_release_19 : decode cX0_release 19 = .ok (.getfield 42, 3) := by decide +kernel
theorem dX0_release_22 : decode cX0_release 22 = .ok (.iload_n 1, 1) := by decide +kernel
theorem dX0_release_23 : decode cX0_release 23 = .ok (.iaload, 1) := by decide +kernel
theorem dX0_release_24 : decode cX0_release 24 = .ok (.ifCond .ne 7, 3) := by decide +kernel
theorem dX0_release_27 : decode cX0_release 27 = .ok (.iconst 0, 1) := by decide +kernel
theorem dX0_release_28 : decode cX0_release 28 = .ok (.goto 4, 3) := by decide +kernel
theorem dX0_release_31 : decode cX0_release 31 = .ok (.iconst 1, 1) := by decide +kernel
theorem dX0_release_32 : decode cX0_release 32 = .ok (.isub, 1) := by decide +kernel
theorem dX0_release_33 : decode cX0_release 33 = .ok (.putfield 68, 3) := by decide +kernel
theorem dX0_release_36 : decode cX0_release 36 = .ok (.aload_n 0, 1) := by decide +kernel
theorem dX0_release_37 : decode cX0_release 37 = .ok (.dup, 1) := by decide +kernel
theorem dX0_release_38 : decode cX0_release 38 = .ok (.getfield 65, 3) := by decide +kernel
theorem dX0_release_41 : decode cX0_release 41 = .ok (.iconst 1, 1) := by decide +kernel
theorem dX0_release_42 : decode cX0_release 42 = .ok (.isub, 1) := by decide +kernel
theorem dX0_release_43 : decode cX0_release 43 = .ok (.putfield 65, 3) := by decide +kernel
theorem dX0_release_46 : decode cX0_release 46 = .ok (.return_, 1) := by decide +kernel
def De_release_32 (s0 : Int32) (s1 : Int32) (d : Sl) : Option (Unit × Sl) :=
  bnd (wr d 17 18 (s1 - s0)) fun d1 =>
  bnd (wr d1 17 17 ((d1 17 17) - (1 : Int32))) fun d2 =>
  some ((), d2)
def De_release (d : Sl) (a1 : Int32) : Option (Unit × Sl) :=
  bd (De_settleAt d a1 (-1 : Int32)) fun r3 d4 =>
  if inb a1 192 then
  bnd (wr d4 21 (ix a1) (-1 : Int32)) fun d5 =>
  if inb a1 192 then
  if (d5 28 (ix a1)) = 0 then
    (De_release_32 (0 : Int32) (d5 17 18) d5)
  else
    (De_release_32 (1 : Int32) (d5 17 18) d5)
  else none
  else none
theorem y_X0_release : YV yX0_release cX0_release 2 none 1 := ⟨q799, q28, q800, q147, by decide +kernel, by decide +kernel, by decide +kernel, by decide +kernel⟩
theorem r_De_release_32 {C : Cxt} {G : Geo} {M : Mem} {k : Nat} (hC : Cx C cX0_release 2 "FrameHeirs$Deeds" none rm_X0_release G) (hk : LWd G k) (hk2 : 2 ≤ k) (s0 : Int32) (s1 : Int32) (d : Sl) : Rz C 2 G (setS M k) (poM avV (setS M k)) 32 [(0, .inr (k, 17))] [.inl (.int s0), .inl (.int s1), .inr (k, 17)] d (De_release_32 s0 s1 d) := by
  unfold De_release_32
  refine z_isub (pc := 32) hC dX0_release_32 ?_
  refine zs_puti (pc := 33) hC (hk 17 rfl) f_17_18 q331 dX0_release_33 (fun d1 => ?_)
  refine z_aload_n (pc := 36) hC 0 rfl 0 rfl dX0_release_36 ?_
  refine z_dup (pc := 37) hC rfl dX0_release_37 ?_
  refine zs_geti (pc := 38) hC (hk 17 rfl) f_17_17 q329 dX0_release_38 ?_
  refine z_iconst (pc := 41) hC (1 : Int32) rfl dX0_release_41 ?_
  refine z_isub (pc := 42) hC dX0_release_42 ?_
  refine zs_puti (pc := 43) hC (hk 17 rfl) f_17_17 q329 dX0_release_43 (fun d2 => ?_)
  exact z_vret (pc := 46) hC rfl dX0_release_46
theorem r_De_release {C : Cxt} {G : Geo} {M : Mem} {k : Nat} (hC : Cx C cX0_release 2 "FrameHeirs$Deeds" none rm_X0_release G) (hk : LWd G k) (hk2 : 2 ≤ k) (d : Sl) (a1 : Int32) : Rz C 2 G (setS M k) (poM avV (setS M k)) 0 [(0, .inr (k, 17)), (1, .inl (.int a1))] [] d (De_release d a1) := by
  unfold De_release
  refine z_aload_n (pc := 0) hC 0 rfl 0 rfl dX0_release_0 ?_
  refine z_iload_n (pc := 1) hC 1 rfl 1 rfl dX0_release_1 ?_
  refine z_iconst (pc := 2) hC (-1 : Int32) rfl dX0_release_2 ?_
  refine z_cvV (pc := 3) (st := []) hC y_X0_settleAt q591 [.inl (.int a1), .inl (.int (-1 : Int32))] rfl (hk 17 rfl) rfl rfl (c_X0_settleAt hC.2.2.2.2.2.2.1 hk hk2) rfl ⟨rfl, rfl, (Nat.le_of_ble_eq_true rfl), (Nat.le_of_ble_eq_true rfl)⟩ (Nat.le_of_ble_eq_true rfl) dX0_release_3 (fun r3 d4 => ?_)
  refine z_aload_n (pc := 6) hC 0 rfl 0 rfl dX0_release_6 ?_
  refine z_getc (pc := 7) hC (hk 17 rfl) f_17_3 q302 dX0_release_7 ?_
  refine z_iload_n (pc := 10) hC 1 rfl 1 rfl dX0_release_10 ?_
  refine z_iconst (pc := 11) hC (-1 : Int32) rfl dX0_release_11 ?_
  refine zs_iast (pc := 12) hC (hk 21 rfl) (by decide) rfl dX0_release_12 (fun d5 => ?_)
  refine z_aload_n (pc := 13) hC 0 rfl 0 rfl dX0_release_13 ?_
  refine z_dup (pc := 14) hC rfl dX0_release_14 ?_
  refine zs_geti (pc := 15) hC (hk 17 rfl) f_17_18 q331 dX0_release_15 ?_
  refine z_aload_n (pc := 18) hC 0 rfl 0 rfl dX0_release_18 ?_
  refine z_getc (pc := 19) hC (hk 17 rfl) f_17_10 q317 dX0_release_19 ?_
  refine z_iload_n (pc := 22) hC 1 rfl 1 rfl dX0_release_22 ?_
  refine zs_iald (pc := 23) hC (hk 28 rfl) rfl dX0_release_23 ?_
  refine z_if_ne (pc := 24) hC 31 rfl dX0_release_24 ?_ ?_
  · refine z_iconst (pc := 31) hC (1 : Int32) rfl dX0_release_31 ?_
    exact z_sub [0] rfl (r_De_release_32 hC hk hk2 (1 : Int32) (d5 17 18) d5)
  · refine z_iconst (pc := 27) hC (0 : Int32) rfl dX0_release_27 ?_
    refine z_goto (pc := 28) hC 32 rfl dX0_release_28 ?_
    exact z_sub [0] rfl (r_De_release_32 hC hk hk2 (0 : Int32) (d5 17 18) d5)
theorem c_X0_release {G : Geo} {M : Mem} {k : Nat} (hG : GOk G) (hk : LWd G k) (hk2 : 2 ≤ k) {d : Sl} {a1 : Int32} (l : Launch) (r : Unit) (d1 : Sl) (h : De_release d a1 = some (r, d1)) : Mt l yX0_release cX0_release 2 none rm_X0_release G [.inr (k, 17), .inl (.int a1)] ((setS M k) d) (avV r) ((setS M k) d1) :=
  mt_of (mem := (setS M k)) (po := poM avV (setS M k)) (x0 := d) (t := (r, d1)) rfl hG [.inr (k, 17), .inl (.int a1)] (Nat.le_of_ble_eq_true rfl) rfl (fun C hC => r_De_release hC hk hk2 d a1) h
-- FrameHeirs$Deeds.moveTo(III)V
abbrev rm_X0_moveTo : Room := { frames := 1, cells := 0, slots := 0, locals := 25 }
theorem dX0_moveTo_0 : decode cX0_moveTo 0 = .ok (.aload_n 0, 1) := by decide +kernel
theorem dX0_moveTo_1 : decode cX0_moveTo 1 = .ok (.iload_n 1, 1) := by decide +kernel
theorem dX0_moveTo_2 : decode cX0_moveTo 2 = .ok (.iconst (-1), 1) := by decide +kernel
theorem dX0_moveTo_3 : decode cX0_moveTo 3 = .ok (.invokevirtual 96, 3) := by decide +kernel
theorem dX0_moveTo_6 : decode cX0_moveTo 6 = .ok (.aload_n 0, 1) := by decide +kernel
theorem dX0_moveTo_7 : decode cX0_moveTo 7 = .ok (.getfield 9, 3) := by decide +kernel
theorem dX0_moveTo_10 : decode cX0_moveTo 10 = .ok (.iload_n 1, 1) := by decide +kernel
theorem dX0_moveTo_11 : decode cX0_moveTo 11 = .ok (.iload_n 2, 1) := by decide +kernel
theorem dX0_moveTo_12 : decode cX0_moveTo 12 = .ok (.iastore, 1) := by decide +kernel
theorem dX0_moveTo_13 : decode cX0_moveTo 13 = .ok (.aload_n 0, 1) := by decide +kernel
theorem dX0_moveTo_14 : decode cX0_moveTo 14 = .ok (.getfield 15, 3) := by decide +kernel
theorem dX0_moveTo_17 : decode cX0_moveTo 17 = .ok (.iload_n 1, 1) := by decide +kernel
theorem dX0_moveTo_18 : decode cX0_moveTo 18 = .ok (.iload_n 3, 1) := by decide +kernel
theorem dX0_moveTo_19 : decode cX0_moveTo 19 = .ok (.iastore, 1) := by decide +kernel
theorem dX0_moveTo_20 : decode cX0_moveTo 20 = .ok (.aload_n 0, 1) := by decide +kernel
theorem dX0_moveTo_21 : decode cX0_moveTo 21 = .ok (.iload_n 1, 1) := by decide +kernel
theorem dX0_moveTo_22 : decode cX0_moveTo 22 = .ok (.iload_n 1, 1) := by decide +kernel
theorem dX0_moveTo_23 : decode cX0_moveTo 23 = .ok (.invokevirtual 96, 3) := by decide +kernel
theorem dX0_moveTo_26 : decode cX0_moveTo 26 = .ok (.return_, 1) := by decide +kernel
def De_moveTo (d : Sl) (a1 : Int32) (a2 : Int32) (a3 : Int32) : Option (Unit × Sl) :=
  bd (De_settleAt d a1 (-1 : Int32)) fun r1 d2 =>
  if inb a1 192 then
  bnd (wr d2 18 (ix a1) a2) fun d3 =>
  if inb a1 192 then
  bnd (wr d3 19 (ix a1) a3) fun d4 =>
  bd (De_settleAt d4 a1 a1) fun r5 d6 =>
  some ((), d6)
  else none
  else none
theorem y_X0_moveTo : YV yX0_moveTo cX0_moveTo 4 none 3 := ⟨q742, q743, q744, q147, by decide +kernel, by decide +kernel, by decide +kernel, by decide +kernel⟩
theorem r_De_moveTo {C : Cxt} {G : Geo} {M : Mem} {k : Nat} (hC : Cx C cX0_moveTo 4 "FrameHeirs$Deeds" none rm_X0_moveTo G) (hk : LWd G k) (hk2 : 2 ≤ k) (d : Sl) (a1 : Int32) (a2 : Int32) (a3 : Int32) : Rz C 4 G (setS M k) (poM avV (setS M k)) 0 [(0, .inr (k, 17)), (1, .inl (.int a1)), (2, .inl (.int a2)), (3, .inl (.int a3))] [] d (De_moveTo d a1 a2 a3) := by
  unfold De_moveTo
  refine z_aload_n (pc := 0) hC 0 rfl 0 rfl dX0_moveTo_0 ?_
  refine z_iload_n (pc := 1) hC 1 rfl 1 rfl dX0_moveTo_1 ?_
  refine z_iconst (pc := 2) hC (-1 : Int32) rfl dX0_moveTo_2 ?_
  refine z_cvV (pc := 3) (st := []) hC y_X0_settleAt q591 [.inl (.int a1), .inl (.int (-1 : Int32))] rfl (hk 17 rfl) rfl rfl (c_X0_settleAt hC.2.2.2.2.2.2.1 hk hk2) rfl ⟨rfl, rfl, (Nat.le_of_ble_eq_true rfl), (Nat.le_of_ble_eq_true rfl)⟩ (Nat.le_of_ble_eq_true rfl) dX0_moveTo_3 (fun r1 d2 => ?_)
  refine z_aload_n (pc := 6) hC 0 rfl 0 rfl dX0_moveTo_6 ?_
  refine z_getc (pc := 7) hC (hk 17 rfl) f_17_0 q293 dX0_moveTo_7 ?_
  refine z_iload_n (pc := 10) hC 1 rfl 1 rfl dX0_moveTo_10 ?_
  refine z_iload_n (pc := 11) hC 2 rfl 2 rfl dX0_moveTo_11 ?_
  refine zs_iast (pc := 12) hC (hk 18 rfl) (by decide) rfl dX0_moveTo_12 (fun d3 => ?_)
  refine z_aload_n (pc := 13) hC 0 rfl 0 rfl dX0_moveTo_13 ?_
  refine z_getc (pc := 14) hC (hk 17 rfl) f_17_1 q295 dX0_moveTo_14 ?_
  refine z_iload_n (pc := 17) hC 1 rfl 1 rfl dX0_moveTo_17 ?_
  refine z_iload_n (pc := 18) hC 3 rfl 3 rfl dX0_moveTo_18 ?_
  refine zs_iast (pc := 19) hC (hk 19 rfl) (by decide) rfl dX0_moveTo_19 (fun d4 => ?_)
  refine z_aload_n (pc := 20) hC 0 rfl 0 rfl dX0_moveTo_20 ?_
  refine z_iload_n (pc := 21) hC 1 rfl 1 rfl dX0_moveTo_21 ?_
  refine z_iload_n (pc := 22) hC 1 rfl 1 rfl dX0_moveTo_22 ?_
  refine z_cvV (pc := 23) (st := []) hC y_X0_settleAt q591 [.inl (.int a1), .inl (.int a1)] rfl (hk 17 rfl) rfl rfl (c_X0_settleAt hC.2.2.2.2.2.2.1 hk hk2) rfl ⟨rfl, rfl, (Nat.le_of_ble_eq_true rfl), (Nat.le_of_ble_eq_true rfl)⟩ (Nat.le_of_ble_eq_true rfl) dX0_moveTo_23 (fun r5 d6 => ?_)
  exact z_vret (pc := 26) hC rfl dX0_moveTo_26
theorem c_X0_moveTo {G : Geo} {M : Mem} {k : Nat} (hG : GOk G) (hk : LWd G k) (hk2 : 2 ≤ k) {d : Sl} {a1 : Int32} {a2 : Int32} {a3 : Int32} (l : Launch) (r : Unit) (d1 : Sl) (h : De_moveTo d a1 a2 a3 = some (r, d1)) : Mt l yX0_moveTo cX0_moveTo 4 none rm_X0_moveTo G [.inr (k, 17), .inl (.int a1), .inl (.int a2), .inl (.int a3)] ((setS M k) d) (avV r) ((setS M k) d1) :=
  mt_of (mem := (setS M k)) (po := poM avV (setS M k)) (x0 := d) (t := (r, d1)) rfl hG [.inr (k, 17), .inl (.int a1), .inl (.int a2), .inl (.int a3)] (Nat.le_of_ble_eq_true rfl) rfl (fun C hC => r_De_moveTo hC hk hk2 d a1 a2 a3) h
-- FrameHeirs$Deeds.append(II)V
abbrev rm_X0_append : Room := { frames := 0, cells := 0, slots := 0, locals := 0 }
theorem dX0_append_0 : decode cX0_append 0 = .ok (.aload_n 0, 1) := by decide +kernel
theorem dX0_append_1 : decode cX0_append 1 = .ok (.getfield 33, 3) := by decide +kernel
theorem dX0_append_4 : decode cX0_append 4 = .ok (.iload_n 2, 1) := by decide +kernel
theorem dX0_append_5 : decode cX0_append 5 = .ok (.iaload, 1) := by decide +kernel
theorem dX0_append_6 : decode cX0_append 6 = .ok (.istore_n 3, 1) := by decide +kernel
theorem dX0_append_7 : decode cX0_append 7 = .ok (.aload_n 0, 1) := by decide +kernel
theorem dX0_append_8 : decode cX0_append 8 = .ok (.getfield 27, 3) := by decide +kernel
theorem dX0_append_11 : decode cX0_append 11 = .ok (.iload_n 1, 1) := by decide +kernel
theorem dX0_append_12 : decode cX0_append 12 = .ok (.iload_n 2, 1) := by decide +kernel
theorem dX0_append_13 : decode cX0_append 13 = .ok (.iastore, 1) := by decide +kernel
theorem dX0_append_14 : decode cX0_append 14 = .ok (.aload_n 0, 1) := by decide +kernel
theorem dX0_append_15 : decode cX0_append 15 = .ok (.getfield 39, 3) := by decide +kernel
theorem dX0_append_18 : decode cX0_append 18 = .ok (.iload_n 1, 1) := by decide +kernel
theorem dX0_append_19 : decode cX0_append 19 = .ok (.iload_n 3, 1) := by decide +kernel
theorem dX0_append_20 : decode cX0_append 20 = .ok (.iastore, 1) := by decide +kernel
theorem dX0_append_21 : decode cX0_append 21 = .ok (.aload_n 0, 1) := by decide +kernel
theorem dX0_append_22 : decode cX0_append 22 = .ok (.getfield 36, 3) := by decide +kernel
theorem dX0_append_25 : decode cX0_append 25 = .ok (.iload_n 1, 1) := by decide +kernel
theorem dX0_append_26 : decode cX0_append 26 = .ok (.iconst (-1), 1) := by decide +kernel
theorem dX0_append_27 : decode cX0_append 27 = .ok (.iastore, 1) := by decide +kernel
theorem dX0_append_28 : decode cX0_append 28 = .ok (.aload_n 0, 1) := by decide +kernel
theorem dX0_append_29 : decode cX0_append 29 = .ok (.getfield 33, 3) := by decide +kernel
theorem dX0_append_32 : decode cX0_append 32 = .ok (.iload_n 2, 1) := by decide +kernel
theorem dX0_append_33 : decode cX0_append 33 = .ok (.iload_n 1, 1) := by decide +kernel
theorem dX0_append_34 : decode cX0_append 34 = .ok (.iastore, 1) := by decide +kernel
theorem dX0_append_35 : decode cX0_append 35 = .ok (.iload_n 3, 1) := by decide +kernel
theorem dX0_append_36 : decode cX0_append 36 = .ok (.ifCond .lt 13, 3) := by decide +kernel
theorem dX0_append_39 : decode cX0_append 39 = .ok (.aload_n 0, 1) := by decide +kernel
theorem dX0_append_40 : decode cX0_append 40 = .ok (.getfield 36, 3) := by decide +kernel
theorem dX0_append_43 : decode cX0_append 43 = .ok (.iload_n 3, 1) := by decide +kernel
theorem dX0_append_44 : decode cX0_append 44 = .ok (.iload_n 1, 1) := by decide +kernel
theorem dX0_append_45 : decode cX0_append 45 = .ok (.iastore, 1) := by decide +kernel
theorem dX0_append_46 : decode cX0_append 46 = .ok (.goto 10, 3) := by decide +kernel
theorem dX0_append_49 : decode cX0_append 49 = .ok (.aload_n 0, 1) := by decide +kernel
theorem dX0_append_50 : decode cX0_append 50 = .ok (.getfield 30, 3) := by decide +kernel
theorem dX0_append_53 : decode cX0_append 53 = .ok (.iload_n 2, 1) := by decide +kernel
theorem dX0_append_54 : decode cX0_append 54 = .ok (.iload_n 1, 1) := by decide +kernel
theorem dX0_append_55 : decode cX0_append 55 = .ok (.iastore, 1) := by decide +kernel
theorem dX0_append_56 : decode cX0_append 56 = .ok (.return_, 1) := by decide +kernel
def De_append (d : Sl) (a1 : Int32) (a2 : Int32) : Option (Unit × Sl) :=
  if inb a2 192 then
  bnd (d 25 (ix a2)) fun v3_1 =>
  if inb a1 192 then
  bnd (wr d 23 (ix a1) a2) fun d2 =>
  if inb a1 192 then
  bnd (wr d2 27 (ix a1) v3_1) fun d3 =>
  if inb a1 192 then
  bnd (wr d3 26 (ix a1) (-1 : Int32)) fun d4 =>
  if inb a2 192 then
  bnd (wr d4 25 (ix a2) a1) fun d5 =>
  if v3_1 < 0 then
    (if inb a2 192 then
    bnd (wr d5 24 (ix a2) a1) fun d6 =>
    some ((), d6)
    else none)
  else
    (if inb v3_1 192 then
    bnd (wr d5 26 (ix v3_1) a1) fun d7 =>
    some ((), d7)
    else none)
  else none
  else none
  else none
  else none
  else none
theorem y_X0_append : YV yX0_append cX0_append 4 none 2 := ⟨q702, q703, q704, q147, by decide +kernel, by decide +kernel, by decide +kernel, by decide +kernel⟩
theorem r_De_append {C : Cxt} {G : Geo} {M : Mem} {k : Nat} (hC : Cx C cX0_append 4 "FrameHeirs$Deeds" none rm_X0_append G) (hk : LWd G k) (hk2 : 2 ≤ k) (d : Sl) (a1 : Int32) (a2 : Int32) : Rz C 4 G (setS M k) (poM avV (setS M k)) 0 [(0, .inr (k, 17)), (1, .inl (.int a1)), (2, .inl (.int a2))] [] d (De_append d a1 a2) := by
  unfold De_append
  refine z_aload_n (pc := 0) hC 0 rfl 0 rfl dX0_append_0 ?_
  refine z_getc (pc := 1) hC (hk 17 rfl) f_17_7 q313 dX0_append_1 ?_
  refine z_iload_n (pc := 4) hC 2 rfl 2 rfl dX0_append_4 ?_
  refine zs_iald (pc := 5) hC (hk 25 rfl) rfl dX0_append_5 ?_
  refine z_istore_n (pc := 6) (ls1 := fun v => [(3, .inl (.int v)), (0, .inr (k, 17)), (1, .inl (.int a1)), (2, .inl (.int a2))]) hC 3 rfl (by decide) (fun v => rfl) dX0_append_6 (fun v3_1 => ?_)
  refine z_aload_n (pc := 7) hC 0 rfl 1 rfl dX0_append_7 ?_
  refine z_getc (pc := 8) hC (hk 17 rfl) f_17_5 q308 dX0_append_8 ?_
  refine z_iload_n (pc := 11) hC 1 rfl 2 rfl dX0_append_11 ?_
  refine z_iload_n (pc := 12) hC 2 rfl 3 rfl dX0_append_12 ?_
  refine zs_iast (pc := 13) hC (hk 23 rfl) (by decide) rfl dX0_append_13 (fun d2 => ?_)
  refine z_aload_n (pc := 14) hC 0 rfl 1 rfl dX0_append_14 ?_
  refine z_getc (pc := 15) hC (hk 17 rfl) f_17_9 q316 dX0_append_15 ?_
  refine z_iload_n (pc := 18) hC 1 rfl 2 rfl dX0_append_18 ?_
  refine z_iload_n (pc := 19) hC 3 rfl 0 rfl dX0_append_19 ?_
  refine zs_iast (pc := 20) hC (hk 27 rfl) (by decide) rfl dX0_append_20 (fun d3 => ?_)
  refine z_aload_n (pc := 21) hC 0 rfl 1 rfl dX0_append_21 ?_
  refine z_getc (pc := 22) hC (hk 17 rfl) f_17_8 q314 dX0_append_22 ?_
  refine z_iload_n (pc := 25) hC 1 rfl 2 rfl dX0_append_25 ?_
  refine z_iconst (pc := 26) hC (-1 : Int32) rfl dX0_append_26 ?_
  refine zs_iast (pc := 27) hC (hk 26 rfl) (by decide) rfl dX0_append_27 (fun d4 => ?_)
  refine z_aload_n (pc := 28) hC 0 rfl 1 rfl dX0_append_28 ?_
  refine z_getc (pc := 29) hC (hk 17 rfl) f_17_7 q313 dX0_append_29 ?_
  refine z_iload_n (pc := 32) hC 2 rfl 3 rfl dX0_append_32 ?_
  refine z_iload_n (pc := 33) hC 1 rfl 2 rfl dX0_append_33 ?_
  refine zs_iast (pc := 34) hC (hk 25 rfl) (by decide) rfl dX0_append_34 (fun d5 => ?_)
  refine z_iload_n (pc := 35) hC 3 rfl 0 rfl dX0_append_35 ?_
  refine z_if_lt (pc := 36) hC 49 rfl dX0_append_36 ?_ ?_
  · refine z_aload_n (pc := 49) hC 0 rfl 1 rfl dX0_append_49 ?_
    refine z_getc (pc := 50) hC (hk 17 rfl) f_17_6 q311 dX0_append_50 ?_
    refine z_iload_n (pc := 53) hC 2 rfl 3 rfl dX0_append_53 ?_
    refine z_iload_n (pc := 54) hC 1 rfl 2 rfl dX0_append_54 ?_
    refine zs_iast (pc := 55) hC (hk 24 rfl) (by decide) rfl dX0_append_55 (fun d6 => ?_)
    exact z_vret (pc := 56) hC rfl dX0_append_56
  · refine z_aload_n (pc := 39) hC 0 rfl 1 rfl dX0_append_39 ?_
    refine z_getc (pc := 40) hC (hk 17 rfl) f_17_8 q314 dX0_append_40 ?_
    refine z_iload_n (pc := 43) hC 3 rfl 0 rfl dX0_append_43 ?_
    refine z_iload_n (pc := 44) hC 1 rfl 2 rfl dX0_append_44 ?_
    refine zs_iast (pc := 45) hC (hk 26 rfl) (by decide) rfl dX0_append_45 (fun d7 => ?_)
    refine z_goto (pc := 46) hC 56 rfl dX0_append_46 ?_
    exact z_vret (pc := 56) hC rfl dX0_append_56
theorem c_X0_append {G : Geo} {M : Mem} {k : Nat} (hG : GOk G) (hk : LWd G k) (hk2 : 2 ≤ k) {d : Sl} {a1 : Int32} {a2 : Int32} (l : Launch) (r : Unit) (d1 : Sl) (h : De_append d a1 a2 = some (r, d1)) : Mt l yX0_append cX0_append 4 none rm_X0_append G [.inr (k, 17), .inl (.int a1), .inl (.int a2)] ((setS M k) d) (avV r) ((setS M k) d1) :=
  mt_of (mem := (setS M k)) (po := poM avV (setS M k)) (x0 := d) (t := (r, d1)) rfl hG [.inr (k, 17), .inl (.int a1), .inl (.int a2)] (Nat.le_of_ble_eq_true rfl) rfl (fun C hC => r_De_append hC hk hk2 d a1 a2) h
-- FrameHeirs$Deeds.putBehind(II)V
abbrev rm_X0_putBehind : Room := { frames := 0, cells := 0, slots := 0, locals := 0 }
theorem dX0_putBehind_0 : decode cX0_putBehind 0 = .ok (.aload_n 0, 1) := by decide +kernel
theorem dX0_putBehind_1 : decode cX0_putBehind 1 = .ok (.getfield 27, 3) := by decide +kernel
theorem dX0_putBehind_4 : decode cX0_putBehind 4 = .ok (.iload_n 2, 1) := by decide +kernel
theorem dX0_putBehind_5 : decode cX0_putBehind 5 = .ok (.iaload, 1) := by decide +kernel
theorem dX0_putBehind_6 : decode cX0_putBehind 6 = .ok (.istore_n 3, 1) := by decide +kernel
theorem dX0_putBehind_7 : decode cX0_putBehind 7 = .ok (.iload_n 3, 1) := by decide +kernel
theorem dX0_putBehind_8 : decode cX0_putBehind 8 = .ok (.ifCond .ge 4, 3) := by decide +kernel
theorem dX0_putBehind_11 : decode cX0_putBehind 11 = .ok (.return_, 1) := by decide +kernel
theorem dX0_putBehind_12 : decode cX0_putBehind 12 = .ok (.aload_n 0, 1) := by decide +kernel
theorem dX0_putBehind_13 : decode cX0_putBehind 13 = .ok (.getfield 36, 3) := by decide +kernel
theorem dX0_putBehind_16 : decode cX0_putBehind 16 = .ok (.iload_n 2, 1) := by decide +kernel
theorem dX0_putBehind_17 : decode cX0_putBehind 17 = .ok (.iaload, 1) := by decide +kernel
theorem dX0_putBehind_18 : decode cX0_putBehind 18 = .ok (.istore 4, 2) := by decide +kernel
theorem dX0_putBehind_20 : decode cX0_putBehind 20 = .ok (.aload_n 0, 1) := by decide +kernel
theorem dX0_putBehind_21 : decode cX0_putBehind 21 = .ok (.getfield 27, 3) := by decide +kernel
theorem dX0_putBehind_24 : decode cX0_putBehind 24 = .ok (.iload_n 1, 1) := by decide +kernel
theorem dX0_putBehind_25 : decode cX0_putBehind 25 = .ok (.iload_n 3, 1) := by decide +kernel
theorem dX0_putBehind_26 : decode cX0_putBehind 26 = .ok (.iastore, 1) := by decide +kernel
theorem dX0_putBehind_27 : decode cX0_putBehind 27 = .ok (.aload_n 0, 1) := by decide +kernel
theorem dX0_putBehind_28 : decode cX0_putBehind 28 = .ok (.getfield 39, 3) := by decide +kernel
theorem dX0_putBehind_31 : decode cX0_putBehind 31 = .ok (.iload_n 1, 1) := by decide +kernel
theorem dX0_putBehind_32 : decode cX0_putBehind 32 = .ok (.iload_n 2, 1) := by decide +kernel
theorem dX0_putBehind_33 : decode cX0_putBehind 33 = .ok (.iastore, 1) := by decide +kernel
theorem dX0_putBehind_34 : decode cX0_putBehind 34 = .ok (.aload_n 0, 1) := by decide +kernel
theorem dX0_putBehind_35 : decode cX0_putBehind 35 = .ok (.getfield 36, 3) := by decide +kernel
theorem dX0_putBehind_38 : decode cX0_putBehind 38 = .ok (.iload_n 1, 1) := by decide +kernel
theorem dX0_putBehind_39 : decode cX0_putBehind 39 = .ok (.iload 4, 2) := by decide +kernel
theorem dX0_putBehind_41 : decode cX0_putBehind 41 = .ok (.iastore, 1) := by decide +kernel
theorem dX0_putBehind_42 : decode cX0_putBehind 42 = .ok (.aload_n 0, 1) := by decide +kernel
theorem dX0_putBehind_43 : decode cX0_putBehind 43 = .ok (.getfield 36, 3) := by decide +kernel
theorem dX0_putBehind_46 : decode cX0_putBehind 46 = .ok (.iload_n 2, 1) := by decide +kernel
theorem dX0_putBehind_47 : decode cX0_putBehind 47 = .ok (.iload_n 1, 1) := by decide +kernel
theorem dX0_putBehind_48 : decode cX0_putBehind 48 = .ok (.iastore, 1) := by decide +kernel
theorem dX0_putBehind_49 : decode cX0_putBehind 49 = .ok (.iload 4, 2) := by decide +kernel
theorem dX0_putBehind_51 : decode cX0_putBehind 51 = .ok (.ifCond .lt 14, 3) := by decide +kernel
theorem dX0_putBehind_54 : decode cX0_putBehind 54 = .ok (.aload_n 0, 1) := by decide +kernel
theorem dX0_putBehind_55 : decode cX0_putBehind 55 = .ok (.getfield 39, 3) := by decide +kernel
theorem dX0_putBehind_58 : decode cX0_putBehind 58 = .ok (.iload 4, 2) := by decide +kernel
theorem dX0_putBehind_60 : decode cX0_putBehind 60 = .ok (.iload_n 1, 1) := by decide +kernel
theorem dX0_putBehind_61 : decode cX0_putBehind 61 = .ok (.iastore, 1) := by decide +kernel
theorem dX0_putBehind_62 : decode cX0_putBehind 62 = .ok (.goto 10, 3) := by decide +kernel
theorem dX0_putBehind_65 : decode cX0_putBehind 65 = .ok (.aload_n 0, 1) := by decide +kernel
theorem dX0_putBehind_66 : decode cX0_putBehind 66 = .ok (.getfield 33, 3) := by decide +kernel
theorem dX0_putBehind_69 : decode cX0_putBehind 69 = .ok (.iload_n 3, 1) := by decide +kernel
theorem dX0_putBehind_70 : decode cX0_putBehind 70 = .ok (.iload_n 1, 1) := by decide +kernel
theorem dX0_putBehind_71 : decode cX0_putBehind 71 = .ok (.iastore, 1) := by decide +kernel
theorem dX0_putBehind_72 : decode cX0_putBehind 72 = .ok (.return_, 1) := by decide +kernel
def De_putBehind (d : Sl) (a1 : Int32) (a2 : Int32) : Option (Unit × Sl) :=
  if inb a2 192 then
  bnd (d 23 (ix a2)) fun v3_1 =>
  if 0 ≤ v3_1 then
    (if inb a2 192 then
    bnd (d 26 (ix a2)) fun v4_2 =>
    if inb a1 192 then
    bnd (wr d 23 (ix a1) v3_1) fun d3 =>
    if inb a1 192 then
    bnd (wr d3 27 (ix a1) a2) fun d4 =>
    if inb a1 192 then
    bnd (wr d4 26 (ix a1) v4_2) fun d5 =>
    if inb a2 192 then
    bnd (wr d5 26 (ix a2) a1) fun d6 =>
    if v4_2 < 0 then
      (if inb v3_1 192 then
      bnd (wr d6 25 (ix v3_1) a1) fun d7 =>
      some ((), d7)
      else none)
    else
      (if inb v4_2 192 then
      bnd (wr d6 27 (ix v4_2) a1) fun d8 =>
      some ((), d8)
      else none)
    else none
    else none
    else none
    else none
    else none)
  else
    (some ((), d))
  else none
theorem y_X0_putBehind : YV yX0_putBehind cX0_putBehind 5 none 2 := ⟨q734, q24, q735, q147, by decide +kernel, by decide +kernel, by decide +kernel, by decide +kernel⟩
theorem r_De_putBehind {C : Cxt} {G : Geo} {M : Mem} {k : Nat} (hC : Cx C cX0_putBehind 5 "FrameHeirs$Deeds" none rm_X0_putBehind G) (hk : LWd G k) (hk2 : 2 ≤ k) (d : Sl) (a1 : Int32) (a2 : Int32) : Rz C 5 G (setS M k) (poM avV (setS M k)) 0 [(0, .inr (k, 17)), (1, .inl (.int a1)), (2, .inl (.int a2))] [] d (De_putBehind d a1 a2) := by
  unfold De_putBehind
  refine z_aload_n (pc := 0) hC 0 rfl 0 rfl dX0_putBehind_0 ?_
  refine z_getc (pc := 1) hC (hk 17 rfl) f_17_5 q308 dX0_putBehind_1 ?_
  refine z_iload_n (pc := 4) hC 2 rfl 2 rfl dX0_putBehind_4 ?_
  refine zs_iald (pc := 5) hC (hk 23 rfl) rfl dX0_putBehind_5 ?_
  refine z_istore_n (pc := 6) (ls1 := fun v => [(3, .inl (.int v)), (0, .inr (k, 17)), (1, .inl (.int a1)), (2, .inl (.int a2))]) hC 3 rfl (by decide) (fun v => rfl) dX0_putBehind_6 (fun v3_1 => ?_)
  refine z_iload_n (pc := 7) hC 3 rfl 0 rfl dX0_putBehind_7 ?_
  refine z_if_ge (pc := 8) hC 12 rfl dX0_putBehind_8 ?_ ?_
  · refine z_aload_n (pc := 12) hC 0 rfl 1 rfl dX0_putBehind_12 ?_
    refine z_getc (pc := 13) hC (hk 17 rfl) f_17_8 q314 dX0_putBehind_13 ?_
    refine z_iload_n (pc := 16) hC 2 rfl 3 rfl dX0_putBehind_16 ?_
    refine zs_iald (pc := 17) hC (hk 26 rfl) rfl dX0_putBehind_17 ?_
    refine z_istore (pc := 18) (ls1 := fun v => [(4, .inl (.int v)), (3, .inl (.int v3_1)), (0, .inr (k, 17)), (1, .inl (.int a1)), (2, .inl (.int a2))]) hC 4 (by decide) (fun v => rfl) dX0_putBehind_18 (fun v4_2 => ?_)
    refine z_aload_n (pc := 20) hC 0 rfl 2 rfl dX0_putBehind_20 ?_
    refine z_getc (pc := 21) hC (hk 17 rfl) f_17_5 q308 dX0_putBehind_21 ?_
    refine z_iload_n (pc := 24) hC 1 rfl 3 rfl dX0_putBehind_24 ?_
    refine z_iload_n (pc := 25) hC 3 rfl 1 rfl dX0_putBehind_25 ?_
    refine zs_iast (pc := 26) hC (hk 23 rfl) (by decide) rfl dX0_putBehind_26 (fun d3 => ?_)
    refine z_aload_n (pc := 27) hC 0 rfl 2 rfl dX0_putBehind_27 ?_
    refine z_getc (pc := 28) hC (hk 17 rfl) f_17_9 q316 dX0_putBehind_28 ?_
    refine z_iload_n (pc := 31) hC 1 rfl 3 rfl dX0_putBehind_31 ?_
    refine z_iload_n (pc := 32) hC 2 rfl 4 rfl dX0_putBehind_32 ?_
    refine zs_iast (pc := 33) hC (hk 27 rfl) (by decide) rfl dX0_putBehind_33 (fun d4 => ?_)
    refine z_aload_n (pc := 34) hC 0 rfl 2 rfl dX0_putBehind_34 ?_
    refine z_getc (pc := 35) hC (hk 17 rfl) f_17_8 q314 dX0_putBehind_35 ?_
    refine z_iload_n (pc := 38) hC 1 rfl 3 rfl dX0_putBehind_38 ?_
    refine z_iload (pc := 39) hC 4 0 rfl dX0_putBehind_39 ?_
    refine zs_iast (pc := 41) hC (hk 26 rfl) (by decide) rfl dX0_putBehind_41 (fun d5 => ?_)
    refine z_aload_n (pc := 42) hC 0 rfl 2 rfl dX0_putBehind_42 ?_
    refine z_getc (pc := 43) hC (hk 17 rfl) f_17_8 q314 dX0_putBehind_43 ?_
    refine z_iload_n (pc := 46) hC 2 rfl 4 rfl dX0_putBehind_46 ?_
    refine z_iload_n (pc := 47) hC 1 rfl 3 rfl dX0_putBehind_47 ?_
    refine zs_iast (pc := 48) hC (hk 26 rfl) (by decide) rfl dX0_putBehind_48 (fun d6 => ?_)
    refine z_iload (pc := 49) hC 4 0 rfl dX0_putBehind_49 ?_
    refine z_if_lt (pc := 51) hC 65 rfl dX0_putBehind_51 ?_ ?_
    · refine z_aload_n (pc := 65) hC 0 rfl 2 rfl dX0_putBehind_65 ?_
      refine z_getc (pc := 66) hC (hk 17 rfl) f_17_7 q313 dX0_putBehind_66 ?_
      refine z_iload_n (pc := 69) hC 3 rfl 1 rfl dX0_putBehind_69 ?_
      refine z_iload_n (pc := 70) hC 1 rfl 3 rfl dX0_putBehind_70 ?_
      refine zs_iast (pc := 71) hC (hk 25 rfl) (by decide) rfl dX0_putBehind_71 (fun d7 => ?_)
      exact z_vret (pc := 72) hC rfl dX0_putBehind_72
    · refine z_aload_n (pc := 54) hC 0 rfl 2 rfl dX0_putBehind_54 ?_
      refine z_getc (pc := 55) hC (hk 17 rfl) f_17_9 q316 dX0_putBehind_55 ?_
      refine z_iload (pc := 58) hC 4 0 rfl dX0_putBehind_58 ?_
      refine z_iload_n (pc := 60) hC 1 rfl 3 rfl dX0_putBehind_60 ?_
      refine zs_iast (pc := 61) hC (hk 27 rfl) (by decide) rfl dX0_putBehind_61 (fun d8 => ?_)
      refine z_goto (pc := 62) hC 72 rfl dX0_putBehind_62 ?_
      exact z_vret (pc := 72) hC rfl dX0_putBehind_72
  · exact z_vret (pc := 11) hC rfl dX0_putBehind_11
theorem c_X0_putBehind {G : Geo} {M : Mem} {k : Nat} (hG : GOk G) (hk : LWd G k) (hk2 : 2 ≤ k) {d : Sl} {a1 : Int32} {a2 : Int32} (l : Launch) (r : Unit) (d1 : Sl) (h : De_putBehind d a1 a2 = some (r, d1)) : Mt l yX0_putBehind cX0_putBehind 5 none rm_X0_putBehind G [.inr (k, 17), .inl (.int a1), .inl (.int a2)] ((setS M k) d) (avV r) ((setS M k) d1) :=
  mt_of (mem := (setS M k)) (po := poM avV (setS M k)) (x0 := d) (t := (r, d1)) rfl hG [.inr (k, 17), .inl (.int a1), .inl (.int a2)] (Nat.le_of_ble_eq_true rfl) rfl (fun C hC => r_De_putBehind hC hk hk2 d a1 a2) h
-- FrameHeirs$Deeds.takeFromGiver(I)V
abbrev rm_X0_takeFromGiver : Room := { frames := 0, cells := 0, slots := 0, locals := 0 }
theorem dX0_takeFromGiver_0 : decode cX0_takeFromGiver 0 = .ok (.aload_n 0, 1) := by decide +kernel
theorem dX0_takeFromGiver_1 : decode cX0_takeFromGiver 1 = .ok (.getfield 27, 3) := by decide +kernel
theorem dX0_takeFromGiver_4 : decode cX0_takeFromGiver 4 = .ok (.iload_n 1, 1) := by decide +kernel
theorem dX0_takeFromGiver_5 : decode cX0_takeFromGiver 5 = .ok (.iaload, 1) := by decide +kernel
theorem dX0_takeFromGiver_6 : decode cX0_takeFromGiver 6 = .ok (.istore_n 2, 1) := by decide +kernel
theorem dX0_takeFromGiver_7 : decode cX0_takeFromGiver 7 = .ok (.iload_n 2, 1) := by decide +kernel
theorem dX0_takeFromGiver_8 : decode cX0_takeFromGiver 8 = .ok (.ifCond .ge 4, 3) := by decide +kernel
theorem dX0_takeFromGiver_11 : decode cX0_takeFromGiver 11 = .ok (.return_, 1) := by decide +kernel
theorem dX0_takeFromGiver_12 : decode cX0_takeFromGiver 12 = .ok (.aload_n 0, 1) := by decide +kernel
theorem dX0_takeFromGiver_13 : decode cX0_takeFromGiver 13 = .ok (.getfield 39, 3) := by decide +kernel
theorem dX0_takeFromGiver_16 : decode cX0_takeFromGiver 16 = .ok (.iload_n 1, 1) := by decide +kernel
theorem dX0_takeFromGiver_17 : decode cX0_takeFromGiver 17 = .ok (.iaload, 1) := by decide +kernel
theorem dX0_takeFromGiver_18 : decode cX0_takeFromGiver 18 = .ok (.istore_n 3, 1) := by decide +kernel
theorem dX0_takeFromGiver_19 : decode cX0_takeFromGiver 19 = .ok (.aload_n 0, 1) := by decide +kernel
theorem dX0_takeFromGiver_20 : decode cX0_takeFromGiver 20 = .ok (.getfield 36, 3) := by decide +kernel
theorem dX0_takeFromGiver_23 : decode cX0_takeFromGiver 23 = .ok (.iload_n 1, 1) := by decide +kernel
theorem dX0_takeFromGiver_24 : decode cX0_takeFromGiver 24 = .ok (.iaload, 1) := by decide +kernel
theorem dX0_takeFromGiver_25 : decode cX0_takeFromGiver 25 = .ok (.istore 4, 2) := by decide +kernel
theorem dX0_takeFromGiver_27 : decode cX0_takeFromGiver 27 = .ok (.iload_n 3, 1) := by decide +kernel
theorem dX0_takeFromGiver_28 : decode cX0_takeFromGiver 28 = .ok (.ifCond .lt 14, 3) := by decide +kernel
theorem dX0_takeFromGiver_31 : decode cX0_takeFromGiver 31 = .ok (.aload_n 0, 1) := by decide +kernel
theorem dX0_takeFromGiver_32 : decode cX0_takeFromGiver 32 = .ok (.getfield 36, 3) := by decide +kernel
theorem dX0_takeFromGiver_35 : decode cX0_takeFromGiver 35 = .ok (.iload_n 3, 1) := by decide +kernel
theorem dX0_takeFromGiver_36 : decode cX0_takeFromGiver 36 = .ok (.iload 4, 2) := by decide +kernel
theorem dX0_takeFromGiver_38 : decode cX0_takeFromGiver 38 = .ok (.iastore, 1) := by decide +kernel
theorem dX0_takeFromGiver_39 : decode cX0_takeFromGiver 39 = .ok (.goto 11, 3) := by decide +kernel
theorem dX0_takeFromGiver_42 : decode cX0_takeFromGiver 42 = .ok (.aload_n 0, 1) := by decide +kernel
theorem dX0_takeFromGiver_43 : decode cX0_takeFromGiver 43 = .ok (.getfield 30, 3) := by decide +kernel
theorem dX0_takeFromGiver_46 : decode cX0_takeFromGiver 46 = .ok (.iload_n 2, 1) := by decide +kernel
theorem dX0_takeFromGiver_47 : decode cX0_takeFromGiver 47 = .ok (.iload 4, 2) := by decide +kernel
theorem dX0_takeFromGiver_49 : decode cX0_takeFromGiver 49 = .ok (.iastore, 1) := by decide +kernel
theorem dX0_takeFromGiver_50 : decode cX0_takeFromGiver 50 = .ok (.iload 4, 2) := by decide +kernel
theorem dX0_takeFromGiver_52 : decode cX0_takeFromGiver 52 = .ok (.ifCond .lt 14, 3) := by decide +kernel
theorem dX0_takeFromGiver_55 : decode cX0_takeFromGiver 55 = .ok (.aload_n 0, 1) := by decide +kernel
theorem dX0_takeFromGiver_56 : decode cX0_takeFromGiver 56 = .ok (.getfield 39, 3) := by decide +kernel
theorem dX0_takeFromGiver_59 : decode cX0_takeFromGiver 59 = .ok (.iload 4, 2) := by decide +kernel
theorem dX0_takeFromGiver_61 : decode cX0_takeFromGiver 61 = .ok (.iload_n 3, 1) := by decide +kernel
theorem dX0_takeFromGiver_62 : decode cX0_takeFromGiver 62 = .ok (.iastore, 1) := by decide +kernel
theorem dX0_takeFromGiver_63 : decode cX0_takeFromGiver 63 = .ok (.goto 10, 3) := by decide +kernel
theorem dX0_takeFromGiver_66 : decode cX0_takeFromGiver 66 = .ok (.aload_n 0, 1) := by decide +kernel
theorem dX0_takeFromGiver_67 : decode cX0_takeFromGiver 67 = .ok (.getfield 33, 3) := by decide +kernel
theorem dX0_takeFromGiver_70 : decode cX0_takeFromGiver 70 = .ok (.iload_n 2, 1) := by decide +kernel
theorem dX0_takeFromGiver_71 : decode cX0_takeFromGiver 71 = .ok (.iload_n 3, 1) := by decide +kernel
theorem dX0_takeFromGiver_72 : decode cX0_takeFromGiver 72 = .ok (.iastore, 1) := by decide +kernel
theorem dX0_takeFromGiver_73 : decode cX0_takeFromGiver 73 = .ok (.aload_n 0, 1) := by decide +kernel
theorem dX0_takeFromGiver_74 : decode cX0_takeFromGiver 74 = .ok (.getfield 27, 3) := by decide +kernel
theorem dX0_takeFromGiver_77 : decode cX0_takeFromGiver 77 = .ok (.iload_n 1, 1) := by decide +kernel
theorem dX0_takeFromGiver_78 : decode cX0_takeFromGiver 78 = .ok (.iconst (-1), 1) := by decide +kernel
theorem dX0_takeFromGiver_79 : decode cX0_takeFromGiver 79 = .ok (.iastore, 1) := by decide +kernel
theorem dX0_takeFromGiver_80 : decode cX0_takeFromGiver 80 = .ok (.aload_n 0, 1) := by decide +kernel
theorem dX0_takeFromGiver_81 : decode cX0_takeFromGiver 81 = .ok (.getfield 39, 3) := by decide +kernel
theorem dX0_takeFromGiver_84 : decode cX0_takeFromGiver 84 = .ok (.iload_n 1, 1) := by decide +kernel
theorem dX0_takeFromGiver_85 : decode cX0_takeFromGiver 85 = .ok (.iconst (-1), 1) := by decide +kernel
theorem dX0_takeFromGiver_86 : decode cX0_takeFromGiver 86 = .ok (.iastore, 1) := by decide +kernel
theorem dX0_takeFromGiver_87 : decode cX0_takeFromGiver 87 = .ok (.aload_n 0, 1) := by decide +kernel
theorem dX0_takeFromGiver_88 : decode cX0_takeFromGiver 88 = .ok (.getfield 36, 3) := by decide +kernel
theorem dX0_takeFromGiver_91 : decode cX0_takeFromGiver 91 = .ok (.iload_n 1, 1) := by decide +kernel
theorem dX0_takeFromGiver_92 : decode cX0_takeFromGiver 92 = .ok (.iconst (-1), 1) := by decide +kernel
theorem dX0_takeFromGiver_93 : decode cX0_takeFromGiver 93 = .ok (.iastore, 1) := by decide +kernel
theorem dX0_takeFromGiver_94 : decode cX0_takeFromGiver 94 = .ok (.return_, 1) := by decide +kernel
def De_takeFromGiver_73 (v1 : Int32) (d : Sl) : Option (Unit × Sl) :=
  if inb v1 192 then
  bnd (wr d 23 (ix v1) (-1 : Int32)) fun d1 =>
  if inb v1 192 then
  bnd (wr d1 27 (ix v1) (-1 : Int32)) fun d2 =>
  if inb v1 192 then
  bnd (wr d2 26 (ix v1) (-1 : Int32)) fun d3 =>
  some ((), d3)
  else none
  else none
  else none
def De_takeFromGiver_50 (v1 : Int32) (v2 : Int32) (v3 : Int32) (v4 : Int32) (d : Sl) : Option (Unit × Sl) :=
  if v4 < 0 then
    (if inb v2 192 then
    bnd (wr d 25 (ix v2) v3) fun d4 =>
    De_takeFromGiver_73 v1 d4
    else none)
  else
    (if inb v4 192 then
    bnd (wr d 27 (ix v4) v3) fun d5 =>
    De_takeFromGiver_73 v1 d5
    else none)
def De_takeFromGiver (d : Sl) (a1 : Int32) : Option (Unit × Sl) :=
  if inb a1 192 then
  bnd (d 23 (ix a1)) fun v2_6 =>
  if 0 ≤ v2_6 then
    (if inb a1 192 then
    bnd (d 27 (ix a1)) fun v3_7 =>
    if inb a1 192 then
    bnd (d 26 (ix a1)) fun v4_8 =>
    if v3_7 < 0 then
      (if inb v2_6 192 then
      bnd (wr d 24 (ix v2_6) v4_8) fun d9 =>
      De_takeFromGiver_50 a1 v2_6 v3_7 v4_8 d9
      else none)
    else
      (if inb v3_7 192 then
      bnd (wr d 26 (ix v3_7) v4_8) fun d10 =>
      De_takeFromGiver_50 a1 v2_6 v3_7 v4_8 d10
      else none)
    else none
    else none)
  else
    (some ((), d))
  else none
theorem y_X0_takeFromGiver : YV yX0_takeFromGiver cX0_takeFromGiver 5 none 1 := ⟨q738, q25, q739, q147, by decide +kernel, by decide +kernel, by decide +kernel, by decide +kernel⟩
theorem r_De_takeFromGiver_73 {C : Cxt} {G : Geo} {M : Mem} {k : Nat} (hC : Cx C cX0_takeFromGiver 5 "FrameHeirs$Deeds" none rm_X0_takeFromGiver G) (hk : LWd G k) (hk2 : 2 ≤ k) (v1 : Int32) (d : Sl) : Rz C 5 G (setS M k) (poM avV (setS M k)) 73 [(0, .inr (k, 17)), (1, .inl (.int v1))] [] d (De_takeFromGiver_73 v1 d) := by
  unfold De_takeFromGiver_73
  refine z_aload_n (pc := 73) hC 0 rfl 0 rfl dX0_takeFromGiver_73 ?_
  refine z_getc (pc := 74) hC (hk 17 rfl) f_17_5 q308 dX0_takeFromGiver_74 ?_
  refine z_iload_n (pc := 77) hC 1 rfl 1 rfl dX0_takeFromGiver_77 ?_
  refine z_iconst (pc := 78) hC (-1 : Int32) rfl dX0_takeFromGiver_78 ?_
  refine zs_iast (pc := 79) hC (hk 23 rfl) (by decide) rfl dX0_takeFromGiver_79 (fun d1 => ?_)
  refine z_aload_n (pc := 80) hC 0 rfl 0 rfl dX0_takeFromGiver_80 ?_
  refine z_getc (pc := 81) hC (hk 17 rfl) f_17_9 q316 dX0_takeFromGiver_81 ?_
  refine z_iload_n (pc := 84) hC 1 rfl 1 rfl dX0_takeFromGiver_84 ?_
  refine z_iconst (pc := 85) hC (-1 : Int32) rfl dX0_takeFromGiver_85 ?_
  refine zs_iast (pc := 86) hC (hk 27 rfl) (by decide) rfl dX0_takeFromGiver_86 (fun d2 => ?_)
  refine z_aload_n (pc := 87) hC 0 rfl 0 rfl dX0_takeFromGiver_87 ?_
  refine z_getc (pc := 88) hC (hk 17 rfl) f_17_8 q314 dX0_takeFromGiver_88 ?_
  refine z_iload_n (pc := 91) hC 1 rfl 1 rfl dX0_takeFromGiver_91 ?_
  refine z_iconst (pc := 92) hC (-1 : Int32) rfl dX0_takeFromGiver_92 ?_
  refine zs_iast (pc := 93) hC (hk 26 rfl) (by decide) rfl dX0_takeFromGiver_93 (fun d3 => ?_)
  exact z_vret (pc := 94) hC rfl dX0_takeFromGiver_94
theorem r_De_takeFromGiver_50 {C : Cxt} {G : Geo} {M : Mem} {k : Nat} (hC : Cx C cX0_takeFromGiver 5 "FrameHeirs$Deeds" none rm_X0_takeFromGiver G) (hk : LWd G k) (hk2 : 2 ≤ k) (v1 : Int32) (v2 : Int32) (v3 : Int32) (v4 : Int32) (d : Sl) : Rz C 5 G (setS M k) (poM avV (setS M k)) 50 [(0, .inr (k, 17)), (1, .inl (.int v1)), (2, .inl (.int v2)), (3, .inl (.int v3)), (4, .inl (.int v4))] [] d (De_takeFromGiver_50 v1 v2 v3 v4 d) := by
  unfold De_takeFromGiver_50
  refine z_iload (pc := 50) hC 4 4 rfl dX0_takeFromGiver_50 ?_
  refine z_if_lt (pc := 52) hC 66 rfl dX0_takeFromGiver_52 ?_ ?_
  · refine z_aload_n (pc := 66) hC 0 rfl 0 rfl dX0_takeFromGiver_66 ?_
    refine z_getc (pc := 67) hC (hk 17 rfl) f_17_7 q313 dX0_takeFromGiver_67 ?_
    refine z_iload_n (pc := 70) hC 2 rfl 2 rfl dX0_takeFromGiver_70 ?_
    refine z_iload_n (pc := 71) hC 3 rfl 3 rfl dX0_takeFromGiver_71 ?_
    refine zs_iast (pc := 72) hC (hk 25 rfl) (by decide) rfl dX0_takeFromGiver_72 (fun d4 => ?_)
    exact z_sub [0, 1] rfl (r_De_takeFromGiver_73 hC hk hk2 v1 d4)
  · refine z_aload_n (pc := 55) hC 0 rfl 0 rfl dX0_takeFromGiver_55 ?_
    refine z_getc (pc := 56) hC (hk 17 rfl) f_17_9 q316 dX0_takeFromGiver_56 ?_
    refine z_iload (pc := 59) hC 4 4 rfl dX0_takeFromGiver_59 ?_
    refine z_iload_n (pc := 61) hC 3 rfl 3 rfl dX0_takeFromGiver_61 ?_
    refine zs_iast (pc := 62) hC (hk 27 rfl) (by decide) rfl dX0_takeFromGiver_62 (fun d5 => ?_)
    refine z_goto (pc := 63) hC 73 rfl dX0_takeFromGiver_63 ?_
    exact z_sub [0, 1] rfl (r_De_takeFromGiver_73 hC hk hk2 v1 d5)
theorem r_De_takeFromGiver {C : Cxt} {G : Geo} {M : Mem} {k : Nat} (hC : Cx C cX0_takeFromGiver 5 "FrameHeirs$Deeds" none rm_X0_takeFromGiver G) (hk : LWd G k) (hk2 : 2 ≤ k) (d : Sl) (a1 : Int32) : Rz C 5 G (setS M k) (poM avV (setS M k)) 0 [(0, .inr (k, 17)), (1, .inl (.int a1))] [] d (De_takeFromGiver d a1) := by
  unfold De_takeFromGiver
  refine z_aload_n (pc := 0) hC 0 rfl 0 rfl dX0_takeFromGiver_0 ?_
  refine z_getc (pc := 1) hC (hk 17 rfl) f_17_5 q308 dX0_takeFromGiver_1 ?_
  refine z_iload_n (pc := 4) hC 1 rfl 1 rfl dX0_takeFromGiver_4 ?_
  refine zs_iald (pc := 5) hC (hk 23 rfl) rfl dX0_takeFromGiver_5 ?_
  refine z_istore_n (pc := 6) (ls1 := fun v => [(2, .inl (.int v)), (0, .inr (k, 17)), (1, .inl (.int a1))]) hC 2 rfl (by decide) (fun v => rfl) dX0_takeFromGiver_6 (fun v2_6 => ?_)
  refine z_iload_n (pc := 7) hC 2 rfl 0 rfl dX0_takeFromGiver_7 ?_
  refine z_if_ge (pc := 8) hC 12 rfl dX0_takeFromGiver_8 ?_ ?_
  · refine z_aload_n (pc := 12) hC 0 rfl 1 rfl dX0_takeFromGiver_12 ?_
    refine z_getc (pc := 13) hC (hk 17 rfl) f_17_9 q316 dX0_takeFromGiver_13 ?_
    refine z_iload_n (pc := 16) hC 1 rfl 2 rfl dX0_takeFromGiver_16 ?_
    refine zs_iald (pc := 17) hC (hk 27 rfl) rfl dX0_takeFromGiver_17 ?_
    refine z_istore_n (pc := 18) (ls1 := fun v => [(3, .inl (.int v)), (2, .inl (.int v2_6)), (0, .inr (k, 17)), (1, .inl (.int a1))]) hC 3 rfl (by decide) (fun v => rfl) dX0_takeFromGiver_18 (fun v3_7 => ?_)
    refine z_aload_n (pc := 19) hC 0 rfl 2 rfl dX0_takeFromGiver_19 ?_
    refine z_getc (pc := 20) hC (hk 17 rfl) f_17_8 q314 dX0_takeFromGiver_20 ?_
    refine z_iload_n (pc := 23) hC 1 rfl 3 rfl dX0_takeFromGiver_23 ?_
    refine zs_iald (pc := 24) hC (hk 26 rfl) rfl dX0_takeFromGiver_24 ?_
    refine z_istore (pc := 25) (ls1 := fun v => [(4, .inl (.int v)), (3, .inl (.int v3_7)), (2, .inl (.int v2_6)), (0, .inr (k, 17)), (1, .inl (.int a1))]) hC 4 (by decide) (fun v => rfl) dX0_takeFromGiver_25 (fun v4_8 => ?_)
    refine z_iload_n (pc := 27) hC 3 rfl 1 rfl dX0_takeFromGiver_27 ?_
    refine z_if_lt (pc := 28) hC 42 rfl dX0_takeFromGiver_28 ?_ ?_
    · refine z_aload_n (pc := 42) hC 0 rfl 3 rfl dX0_takeFromGiver_42 ?_
      refine z_getc (pc := 43) hC (hk 17 rfl) f_17_6 q311 dX0_takeFromGiver_43 ?_
      refine z_iload_n (pc := 46) hC 2 rfl 2 rfl dX0_takeFromGiver_46 ?_
      refine z_iload (pc := 47) hC 4 0 rfl dX0_takeFromGiver_47 ?_
      refine zs_iast (pc := 49) hC (hk 24 rfl) (by decide) rfl dX0_takeFromGiver_49 (fun d9 => ?_)
      exact z_sub [3, 4, 2, 1, 0] rfl (r_De_takeFromGiver_50 hC hk hk2 a1 v2_6 v3_7 v4_8 d9)
    · refine z_aload_n (pc := 31) hC 0 rfl 3 rfl dX0_takeFromGiver_31 ?_
      refine z_getc (pc := 32) hC (hk 17 rfl) f_17_8 q314 dX0_takeFromGiver_32 ?_
      refine z_iload_n (pc := 35) hC 3 rfl 1 rfl dX0_takeFromGiver_35 ?_
      refine z_iload (pc := 36) hC 4 0 rfl dX0_takeFromGiver_36 ?_
      refine zs_iast (pc := 38) hC (hk 26 rfl) (by decide) rfl dX0_takeFromGiver_38 (fun d10 => ?_)
      refine z_goto (pc := 39) hC 50 rfl dX0_takeFromGiver_39 ?_
      exact z_sub [3, 4, 2, 1, 0] rfl (r_De_takeFromGiver_50 hC hk hk2 a1 v2_6 v3_7 v4_8 d10)
  · exact z_vret (pc := 11) hC rfl dX0_takeFromGiver_11
theorem c_X0_takeFromGiver {G : Geo} {M : Mem} {k : Nat} (hG : GOk G) (hk : LWd G k) (hk2 : 2 ≤ k) {d : Sl} {a1 : Int32} (l : Launch) (r : Unit) (d1 : Sl) (h : De_takeFromGiver d a1 = some (r, d1)) : Mt l yX0_takeFromGiver cX0_takeFromGiver 5 none rm_X0_takeFromGiver G [.inr (k, 17), .inl (.int a1)] ((setS M k) d) (avV r) ((setS M k) d1) :=
  mt_of (mem := (setS M k)) (po := poM avV (setS M k)) (x0 := d) (t := (r, d1)) rfl hG [.inr (k, 17), .inl (.int a1)] (Nat.le_of_ble_eq_true rfl) rfl (fun C hC => r_De_takeFromGiver hC hk hk2 d a1) h
-- FrameHeirs$Deeds.deepest(I)I
abbrev rm_X0_deepest : Room := { frames := 0, cells := 0, slots := 0, locals := 0 }
theorem dX0_deepest_0 : decode cX0_deepest 0 = .ok (.iload_n 1, 1) := by decide +kernel
theorem dX0_deepest_1 : decode cX0_deepest 1 = .ok (.istore_n 2, 1) := by decide +kernel
theorem dX0_deepest_2 : decode cX0_deepest 2 = .ok (.iconst 0, 1) := by decide +kernel
theorem dX0_deepest_3 : decode cX0_deepest 3 = .ok (.istore_n 3, 1) := by decide +kernel
theorem dX0_deepest_4 : decode cX0_deepest 4 = .ok (.iload_n 3, 1) := by decide +kernel
theorem dX0_deepest_5 : decode cX0_deepest 5 = .ok (.sipush 192, 3) := by decide +kernel
theorem dX0_deepest_8 : decode cX0_deepest 8 = .ok (.if_icmp .ge 25, 3) := by decide +kernel
theorem dX0_deepest_11 : decode cX0_deepest 11 = .ok (.aload_n 0, 1) := by decide +kernel
theorem dX0_deepest_12 : decode cX0_deepest 12 = .ok (.getfield 30, 3) := by decide +kernel
theorem dX0_deepest_15 : decode cX0_deepest 15 = .ok (.iload_n 2, 1) := by decide +kernel
theorem dX0_deepest_16 : decode cX0_deepest 16 = .ok (.iaload, 1) := by decide +kernel
theorem dX0_deepest_17 : decode cX0_deepest 17 = .ok (.ifCond .lt 16, 3) := by decide +kernel
theorem dX0_deepest_20 : decode cX0_deepest 20 = .ok (.aload_n 0, 1) := by decide +kernel
theorem dX0_deepest_21 : decode cX0_deepest 21 = .ok (.getfield 30, 3) := by decide +kernel
theorem dX0_deepest_24 : decode cX0_deepest 24 = .ok (.iload_n 2, 1) := by decide +kernel
theorem dX0_deepest_25 : decode cX0_deepest 25 = .ok (.iaload, 1) := by decide +kernel
theorem dX0_deepest_26 : decode cX0_deepest 26 = .ok (.istore_n 2, 1) := by decide +kernel
theorem dX0_deepest_27 : decode cX0_deepest 27 = .ok (.iinc 3 1, 3) := by decide +kernel
theorem dX0_deepest_30 : decode cX0_deepest 30 = .ok (.goto (-26), 3) := by decide +kernel
theorem dX0_deepest_33 : decode cX0_deepest 33 = .ok (.iload_n 2, 1) := by decide +kernel
theorem dX0_deepest_34 : decode cX0_deepest 34 = .ok (.ireturn, 1) := by decide +kernel
def De_deepest_4 (d : Sl) : Nat → Int32 → Int32 → Option Int32
  | 0, _, _ => none
  | n + 1, v2, v3 =>
    if (192 : Int32) ≤ v3 then
      (some v2)
    else
      (if inb v2 192 then
      if (d 24 (ix v2)) < 0 then
        (some v2)
      else
        (if inb v2 192 then
        bnd (d 24 (ix v2)) fun v2_1 =>
        bnd (v3 + (1 : Int32)) fun v3_2 =>
        De_deepest_4 d n v2_1 v3_2
        else none)
      else none)
def De_deepest (d : Sl) (a1 : Int32) : Option Int32 :=
  bnd a1 fun v2_3 =>
  bnd (0 : Int32) fun v3_4 =>
  De_deepest_4 d FU v2_3 v3_4
theorem y_X0_deepest : YV yX0_deepest cX0_deepest 4 (some .int) 1 := ⟨q766, q767, q768, q147, by decide +kernel, by decide +kernel, by decide +kernel, by decide +kernel⟩
theorem r_De_deepest_4 {C : Cxt} {G : Geo} {M : Mem} {k : Nat} {d : Sl} (hC : Cx C cX0_deepest 4 "FrameHeirs$Deeds" (some .int) rm_X0_deepest G) (hk : LWd G k) (hk2 : 2 ≤ k) : ∀ (n : Nat) (v2 : Int32) (v3 : Int32), Rz C 4 G (setS M k) (poP avI ((setS M k) d)) 4 [(0, .inr (k, 17)), (2, .inl (.int v2)), (3, .inl (.int v3))] [] d (De_deepest_4 d n v2 v3) := by
  intro n
  induction n with
  | zero => intros; exact z_none
  | succ n ih =>
    intro v2 v3
    rw [De_deepest_4]
    refine z_iload_n (pc := 4) hC 3 rfl 2 rfl dX0_deepest_4 ?_
    refine z_sipush (pc := 5) hC (192 : Int32) rfl dX0_deepest_5 ?_
    refine z_icmp_ge (pc := 8) hC 33 rfl dX0_deepest_8 ?_ ?_
    · refine z_iload_n (pc := 33) hC 2 rfl 1 rfl dX0_deepest_33 ?_
      exact z_iret (pc := 34) hC rfl dX0_deepest_34
    · refine z_aload_n (pc := 11) hC 0 rfl 0 rfl dX0_deepest_11 ?_
      refine z_getc (pc := 12) hC (hk 17 rfl) f_17_6 q311 dX0_deepest_12 ?_
      refine z_iload_n (pc := 15) hC 2 rfl 1 rfl dX0_deepest_15 ?_
      refine zs_iald (pc := 16) hC (hk 24 rfl) rfl dX0_deepest_16 ?_
      refine z_if_lt (pc := 17) hC 33 rfl dX0_deepest_17 ?_ ?_
      · refine z_iload_n (pc := 33) hC 2 rfl 1 rfl dX0_deepest_33 ?_
        exact z_iret (pc := 34) hC rfl dX0_deepest_34
      · refine z_aload_n (pc := 20) hC 0 rfl 0 rfl dX0_deepest_20 ?_
        refine z_getc (pc := 21) hC (hk 17 rfl) f_17_6 q311 dX0_deepest_21 ?_
        refine z_iload_n (pc := 24) hC 2 rfl 1 rfl dX0_deepest_24 ?_
        refine zs_iald (pc := 25) hC (hk 24 rfl) rfl dX0_deepest_25 ?_
        refine z_istore_n (pc := 26) (ls1 := fun v => [(2, .inl (.int v)), (0, .inr (k, 17)), (3, .inl (.int v3))]) hC 2 rfl (by decide) (fun v => rfl) dX0_deepest_26 (fun v2_1 => ?_)
        refine z_iinc (pc := 27) (ls1 := fun v => [(3, .inl (.int v)), (2, .inl (.int v2_1)), (0, .inr (k, 17))]) hC 3 2 (by decide) (1 : Int32) rfl rfl (fun v => rfl) dX0_deepest_27 (fun v3_2 => ?_)
        refine z_goto (pc := 30) hC 4 rfl dX0_deepest_30 ?_
        exact z_sub [2, 1, 0] rfl (ih v2_1 v3_2)
theorem r_De_deepest {C : Cxt} {G : Geo} {M : Mem} {k : Nat} (hC : Cx C cX0_deepest 4 "FrameHeirs$Deeds" (some .int) rm_X0_deepest G) (hk : LWd G k) (hk2 : 2 ≤ k) (d : Sl) (a1 : Int32) : Rz C 4 G (setS M k) (poP avI ((setS M k) d)) 0 [(0, .inr (k, 17)), (1, .inl (.int a1))] [] d (De_deepest d a1) := by
  unfold De_deepest
  refine z_iload_n (pc := 0) hC 1 rfl 1 rfl dX0_deepest_0 ?_
  refine z_istore_n (pc := 1) (ls1 := fun v => [(2, .inl (.int v)), (0, .inr (k, 17)), (1, .inl (.int a1))]) hC 2 rfl (by decide) (fun v => rfl) dX0_deepest_1 (fun v2_3 => ?_)
  refine z_iconst (pc := 2) hC (0 : Int32) rfl dX0_deepest_2 ?_
  refine z_istore_n (pc := 3) (ls1 := fun v => [(3, .inl (.int v)), (2, .inl (.int v2_3)), (0, .inr (k, 17)), (1, .inl (.int a1))]) hC 3 rfl (by decide) (fun v => rfl) dX0_deepest_3 (fun v3_4 => ?_)
  exact z_sub [2, 1, 0] rfl (r_De_deepest_4 hC hk hk2 FU v2_3 v3_4)
theorem c_X0_deepest {G : Geo} {M : Mem} {k : Nat} (hG : GOk G) (hk : LWd G k) (hk2 : 2 ≤ k) {d : Sl} {a1 : Int32} (l : Launch) (r : Int32) (h : De_deepest d a1 = some r) : Mt l yX0_deepest cX0_deepest 4 (some .int) rm_X0_deepest G [.inr (k, 17), .inl (.int a1)] ((setS M k) d) (avI r) ((setS M k) d) :=
  mt_of (mem := (setS M k)) (po := poP avI ((setS M k) d)) (x0 := d) (t := r) rfl hG [.inr (k, 17), .inl (.int a1)] (Nat.le_of_ble_eq_true rfl) rfl (fun C hC => r_De_deepest hC hk hk2 d a1) h
-- FrameHeirs$Deeds.afterwards(I)I
abbrev rm_X0_afterwards : Room := { frames := 1, cells := 0, slots := 0, locals := 23 }
theorem dX0_afterwards_0 : decode cX0_afterwards 0 = .ok (.aload_n 0, 1) := by decide +kernel
theorem dX0_afterwards_1 : decode cX0_afterwards 1 = .ok (.getfield 36, 3) := by decide +kernel
theorem dX0_afterwards_4 : decode cX0_afterwards 4 = .ok (.iload_n 1, 1) := by decide +kernel
theorem dX0_afterwards_5 : decode cX0_afterwards 5 = .ok (.iaload, 1) := by decide +kernel
theorem dX0_afterwards_6 : decode cX0_afterwards 6 = .ok (.ifCond .lt 16, 3) := by decide +kernel
theorem dX0_afterwards_9 : decode cX0_afterwards 9 = .ok (.aload_n 0, 1) := by decide +kernel
theorem dX0_afterwards_10 : decode cX0_afterwards 10 = .ok (.aload_n 0, 1) := by decide +kernel
theorem dX0_afterwards_11 : decode cX0_afterwards 11 = .ok (.getfield 36, 3) := by decide +kernel
theorem dX0_afterwards_14 : decode cX0_afterwards 14 = .ok (.iload_n 1, 1) := by decide +kernel
theorem dX0_afterwards_15 : decode cX0_afterwards 15 = .ok (.iaload, 1) := by decide +kernel
theorem dX0_afterwards_16 : decode cX0_afterwards 16 = .ok (.invokevirtual 104, 3) := by decide +kernel
theorem dX0_afterwards_19 : decode cX0_afterwards 19 = .ok (.goto 9, 3) := by decide +kernel
theorem dX0_afterwards_22 : decode cX0_afterwards 22 = .ok (.aload_n 0, 1) := by decide +kernel
theorem dX0_afterwards_23 : decode cX0_afterwards 23 = .ok (.getfield 27, 3) := by decide +kernel
theorem dX0_afterwards_26 : decode cX0_afterwards 26 = .ok (.iload_n 1, 1) := by decide +kernel
theorem dX0_afterwards_27 : decode cX0_afterwards 27 = .ok (.iaload, 1) := by decide +kernel
theorem dX0_afterwards_28 : decode cX0_afterwards 28 = .ok (.ireturn, 1) := by decide +kernel
def De_afterwards (d : Sl) (a1 : Int32) : Option Int32 :=
  if inb a1 192 then
  if (d 26 (ix a1)) < 0 then
    (if inb a1 192 then
    some (d 23 (ix a1))
    else none)
  else
    (if inb a1 192 then
    bp (De_deepest d (d 26 (ix a1))) fun r1 =>
    some r1
    else none)
  else none
theorem y_X0_afterwards : YV yX0_afterwards cX0_afterwards 2 (some .int) 1 := ⟨q770, q771, q772, q147, by decide +kernel, by decide +kernel, by decide +kernel, by decide +kernel⟩
theorem r_De_afterwards {C : Cxt} {G : Geo} {M : Mem} {k : Nat} (hC : Cx C cX0_afterwards 2 "FrameHeirs$Deeds" (some .int) rm_X0_afterwards G) (hk : LWd G k) (hk2 : 2 ≤ k) (d : Sl) (a1 : Int32) : Rz C 2 G (setS M k) (poP avI ((setS M k) d)) 0 [(0, .inr (k, 17)), (1, .inl (.int a1))] [] d (De_afterwards d a1) := by
  unfold De_afterwards
  refine z_aload_n (pc := 0) hC 0 rfl 0 rfl dX0_afterwards_0 ?_
  refine z_getc (pc := 1) hC (hk 17 rfl) f_17_8 q314 dX0_afterwards_1 ?_
  refine z_iload_n (pc := 4) hC 1 rfl 1 rfl dX0_afterwards_4 ?_
  refine zs_iald (pc := 5) hC (hk 26 rfl) rfl dX0_afterwards_5 ?_
  refine z_if_lt (pc := 6) hC 22 rfl dX0_afterwards_6 ?_ ?_
  · refine z_aload_n (pc := 22) hC 0 rfl 0 rfl dX0_afterwards_22 ?_
    refine z_getc (pc := 23) hC (hk 17 rfl) f_17_5 q308 dX0_afterwards_23 ?_
    refine z_iload_n (pc := 26) hC 1 rfl 1 rfl dX0_afterwards_26 ?_
    refine zs_iald (pc := 27) hC (hk 23 rfl) rfl dX0_afterwards_27 ?_
    exact z_iret (pc := 28) hC rfl dX0_afterwards_28
  · refine z_aload_n (pc := 9) hC 0 rfl 0 rfl dX0_afterwards_9 ?_
    refine z_aload_n (pc := 10) hC 0 rfl 0 rfl dX0_afterwards_10 ?_
    refine z_getc (pc := 11) hC (hk 17 rfl) f_17_8 q314 dX0_afterwards_11 ?_
    refine z_iload_n (pc := 14) hC 1 rfl 1 rfl dX0_afterwards_14 ?_
    refine zs_iald (pc := 15) hC (hk 26 rfl) rfl dX0_afterwards_15 ?_
    refine z_piV (pc := 16) (st := []) hC y_X0_deepest q765 [.inl (.int (d 26 (ix a1)))] rfl (hk 17 rfl) rfl rfl (c_X0_deepest hC.2.2.2.2.2.2.1 hk hk2) rfl ⟨rfl, rfl, (Nat.le_of_ble_eq_true rfl), (Nat.le_of_ble_eq_true rfl)⟩ (Nat.le_of_ble_eq_true rfl) dX0_afterwards_16 (fun r1 => ?_)
    refine z_goto (pc := 19) hC 28 rfl dX0_afterwards_19 ?_
    exact z_iret (pc := 28) hC rfl dX0_afterwards_28
theorem c_X0_afterwards {G : Geo} {M : Mem} {k : Nat} (hG : GOk G) (hk : LWd G k) (hk2 : 2 ≤ k) {d : Sl} {a1 : Int32} (l : Launch) (r : Int32) (h : De_afterwards d a1 = some r) : Mt l yX0_afterwards cX0_afterwards 2 (some .int) rm_X0_afterwards G [.inr (k, 17), .inl (.int a1)] ((setS M k) d) (avI r) ((setS M k) d) :=
  mt_of (mem := (setS M k)) (po := poP avI ((setS M k) d)) (x0 := d) (t := r) rfl hG [.inr (k, 17), .inl (.int a1)] (Nat.le_of_ble_eq_true rfl) rfl (fun C hC => r_De_afterwards hC hk hk2 d a1) h
-- FrameHeirs$Deeds.remove(I)V
abbrev rm_X0_remove : Room := { frames := 2, cells := 0, slots := 0, locals := 46 }
theorem dX0_remove_0 : decode cX0_remove 0 = .ok (.iload_n 1, 1) := by decide +kernel
theorem dX0_remove_1 : decode cX0_remove 1 = .ok (.ifCond .lt 12, 3) := by decide +kernel
theorem dX0_remove_4 : decode cX0_remove 4 = .ok (.aload_n 0, 1) := by decide +kernel
theorem dX0_remove_5 : decode cX0_remove 5 = .ok (.getfield 27, 3) := by decide +kernel
theorem dX0_remove_8 : decode cX0_remove 8 = .ok (.iload_n 1, 1) := by decide +kernel
theorem dX0_remove_9 : decode cX0_remove 9 = .ok (.iaload, 1) := by decide +kernel
theorem dX0_remove_10 : decode cX0_remove 10 = .ok (.ifCond .ge 4, 3) := by decide +kernel
theorem dX0_remove_13 : decode cX0_remove 13 = .ok (.return_, 1) := by decide +kernel
theorem dX0_remove_14 : decode cX0_remove 14 = .ok (.aload_n 0, 1) := by decide +kernel
theorem dX0_remove_15 : decode cX0_remove 15 = .ok (.iload_n 1, 1) := by decide +kernel
theorem dX0_remove_16 : decode cX0_remove 16 = .ok (.invokevirtual 100, 3) := by decide +kernel
theorem dX0_remove_19 : decode cX0_remove 19 = .ok (.aload_n 0, 1) := by decide +kernel
theorem dX0_remove_20 : decode cX0_remove 20 = .ok (.iload_n 1, 1) := by decide +kernel
theorem dX0_remove_21 : decode cX0_remove 21 = .ok (.invokevirtual 104, 3) := by decide +kernel
theorem dX0_remove_24 : decode cX0_remove 24 = .ok (.istore_n 2, 1) := by decide +kernel
theorem dX0_remove_25 : decode cX0_remove 25 = .ok (.iconst 0, 1) := by decide +kernel
theorem dX0_remove_26 : decode cX0_remove 26 = .ok (.istore_n 3, 1) := by decide +kernel
theorem dX0_remove_27 : decode cX0_remove 27 = .ok (.iload_n 3, 1) := by decide +kernel
theorem dX0_remove_28 : decode cX0_remove 28 = .ok (.sipush 192, 3) := by decide +kernel
theorem dX0_remove_31 : decode cX0_remove 31 = .ok (.if_icmp .ge 37, 3) := by decide +kernel
theorem dX0_remove_34 : decode cX0_remove 34 = .ok (.iload_n 2, 1) := by decide +kernel
theorem dX0_remove_35 : decode cX0_remove 35 = .ok (.ifCond .lt 33, 3) := by decide +kernel
theorem dX0_remove_38 : decode cX0_remove 38 = .ok (.iload_n 2, 1) := by decide +kernel
theorem dX0_remove_39 : decode cX0_remove 39 = .ok (.iload_n 1, 1) := by decide +kernel
theorem dX0_remove_40 : decode cX0_remove 40 = .ok (.if_icmp .ne 7, 3) := by decide +kernel
theorem dX0_remove_43 : decode cX0_remove 43 = .ok (.iconst (-1), 1) := by decide +kernel
theorem dX0_remove_44 : decode cX0_remove 44 = .ok (.goto 8, 3) := by decide +kernel
theorem dX0_remove_47 : decode cX0_remove 47 = .ok (.aload_n 0, 1) := by decide +kernel
theorem dX0_remove_48 : decode cX0_remove 48 = .ok (.iload_n 2, 1) := by decide +kernel
theorem dX0_remove_49 : decode cX0_remove 49 = .ok (.invokevirtual 108, 3) := by decide +kernel
theorem dX0_remove_52 : decode cX0_remove 52 = .ok (.istore 4, 2) := by decide +kernel
theorem dX0_remove_54 : decode cX0_remove 54 = .ok (.aload_n 0, 1) := by decide +kernel
theorem dX0_remove_55 : decode cX0_remove 55 = .ok (.iload_n 2, 1) := by decide +kernel
theorem dX0_remove_56 : decode cX0_remove 56 = .ok (.invokevirtual 111, 3) := by decide +kernel
theorem dX0_remove_59 : decode cX0_remove 59 = .ok (.iload 4, 2) := by decide +kernel
theorem dX0_remove_61 : decode cX0_remove 61 = .ok (.istore_n 2, 1) := by decide +kernel
theorem dX0_remove_62 : decode cX0_remove 62 = .ok (.iinc 3 1, 3) := by decide +kernel
theorem dX0_remove_65 : decode cX0_remove 65 = .ok (.goto (-38), 3) := by decide +kernel
theorem dX0_remove_68 : decode cX0_remove 68 = .ok (.return_, 1) := by decide +kernel
def De_remove_52 (k27 : Int32 → Int32 → Int32 → Sl → Option (Unit × Sl)) (v1 : Int32) (v2 : Int32) (v3 : Int32) (s0 : Int32) (d : Sl) : Option (Unit × Sl) :=
  bnd s0 fun v4_1 =>
  bd (De_release d v2) fun r2 d3 =>
  bnd v4_1 fun v2_4 =>
  bnd (v3 + (1 : Int32)) fun v3_5 =>
  k27 v1 v2_4 v3_5 d3
def De_remove_27 : Nat → Int32 → Int32 → Int32 → Sl → Option (Unit × Sl)
  | 0, _, _, _, _ => none
  | n + 1, v1, v2, v3, d =>
    if (192 : Int32) ≤ v3 then
      (some ((), d))
    else
      (if v2 < 0 then
        (some ((), d))
      else
        (if v2 = v1 then
          (De_remove_52 (De_remove_27 n) v1 v2 v3 (-1 : Int32) d)
        else
          (bp (De_afterwards d v2) fun r6 =>
          De_remove_52 (De_remove_27 n) v1 v2 v3 r6 d)))
def De_remove (d : Sl) (a1 : Int32) : Option (Unit × Sl) :=
  if a1 < 0 then
    (some ((), d))
  else
    (if inb a1 192 then
    if 0 ≤ (d 23 (ix a1)) then
      (bd (De_takeFromGiver d a1) fun r7 d8 =>
      bp (De_deepest d8 a1) fun r9 =>
      bnd r9 fun v2_10 =>
      bnd (0 : Int32) fun v3_11 =>
      De_remove_27 FU a1 v2_10 v3_11 d8)
    else
      (some ((), d))
    else none)
theorem y_X0_remove : YV yX0_remove cX0_remove 5 none 1 := ⟨q794, q795, q796, q147, by decide +kernel, by decide +kernel, by decide +kernel, by decide +kernel⟩
theorem r_De_remove_52 {C : Cxt} {G : Geo} {M : Mem} {k : Nat} (hC : Cx C cX0_remove 5 "FrameHeirs$Deeds" none rm_X0_remove G) (hk : LWd G k) (hk2 : 2 ≤ k) (k27 : Int32 → Int32 → Int32 → Sl → Option (Unit × Sl)) (h27 : ∀ (v1 : Int32) (v2 : Int32) (v3 : Int32) (d : Sl), Rz C 5 G (setS M k) (poM avV (setS M k)) 27 [(0, .inr (k, 17)), (1, .inl (.int v1)), (2, .inl (.int v2)), (3, .inl (.int v3))] [] d (k27 v1 v2 v3 d)) (v1 : Int32) (v2 : Int32) (v3 : Int32) (s0 : Int32) (d : Sl) : Rz C 5 G (setS M k) (poM avV (setS M k)) 52 [(0, .inr (k, 17)), (1, .inl (.int v1)), (2, .inl (.int v2)), (3, .inl (.int v3))] [.inl (.int s0)] d (De_remove_52 k27 v1 v2 v3 s0 d) := by
  unfold De_remove_52
  refine z_istore (pc := 52) (ls1 := fun v => [(4, .inl (.int v)), (0, .inr (k, 17)), (1, .inl (.int v1)), (2, .inl (.int v2)), (3, .inl (.int v3))]) hC 4 (by decide) (fun v => rfl) dX0_remove_52 (fun v4_1 => ?_)
  refine z_aload_n (pc := 54) hC 0 rfl 1 rfl dX0_remove_54 ?_
  refine z_iload_n (pc := 55) hC 2 rfl 3 rfl dX0_remove_55 ?_
  refine z_cvV (pc := 56) (st := []) hC y_X0_release q797 [.inl (.int v2)] rfl (hk 17 rfl) rfl rfl (c_X0_release hC.2.2.2.2.2.2.1 hk hk2) rfl ⟨rfl, rfl, (Nat.le_of_ble_eq_true rfl), (Nat.le_of_ble_eq_true rfl)⟩ (Nat.le_of_ble_eq_true rfl) dX0_remove_56 (fun r2 d3 => ?_)
  refine z_iload (pc := 59) hC 4 0 rfl dX0_remove_59 ?_
  refine z_istore_n (pc := 61) (ls1 := fun v => [(2, .inl (.int v)), (4, .inl (.int v4_1)), (0, .inr (k, 17)), (1, .inl (.int v1)), (3, .inl (.int v3))]) hC 2 rfl (by decide) (fun v => rfl) dX0_remove_61 (fun v2_4 => ?_)
  refine z_iinc (pc := 62) (ls1 := fun v => [(3, .inl (.int v)), (2, .inl (.int v2_4)), (4, .inl (.int v4_1)), (0, .inr (k, 17)), (1, .inl (.int v1))]) hC 3 4 (by decide) (1 : Int32) rfl rfl (fun v => rfl) dX0_remove_62 (fun v3_5 => ?_)
  refine z_goto (pc := 65) hC 27 rfl dX0_remove_65 ?_
  exact z_sub [3, 4, 1, 0] rfl (h27 v1 v2_4 v3_5 d3)
theorem r_De_remove_27 {C : Cxt} {G : Geo} {M : Mem} {k : Nat} (hC : Cx C cX0_remove 5 "FrameHeirs$Deeds" none rm_X0_remove G) (hk : LWd G k) (hk2 : 2 ≤ k) : ∀ (n : Nat) (v1 : Int32) (v2 : Int32) (v3 : Int32) (d : Sl), Rz C 5 G (setS M k) (poM avV (setS M k)) 27 [(0, .inr (k, 17)), (1, .inl (.int v1)), (2, .inl (.int v2)), (3, .inl (.int v3))] [] d (De_remove_27 n v1 v2 v3 d) := by
  intro n
  induction n with
  | zero => intros; exact z_none
  | succ n ih =>
    intro v1 v2 v3 d
    rw [De_remove_27]
    refine z_iload_n (pc := 27) hC 3 rfl 3 rfl dX0_remove_27 ?_
    refine z_sipush (pc := 28) hC (192 : Int32) rfl dX0_remove_28 ?_
    refine z_icmp_ge (pc := 31) hC 68 rfl dX0_remove_31 ?_ ?_
    · exact z_vret (pc := 68) hC rfl dX0_remove_68
    · refine z_iload_n (pc := 34) hC 2 rfl 2 rfl dX0_remove_34 ?_
      refine z_if_lt (pc := 35) hC 68 rfl dX0_remove_35 ?_ ?_
      · exact z_vret (pc := 68) hC rfl dX0_remove_68
      · refine z_iload_n (pc := 38) hC 2 rfl 2 rfl dX0_remove_38 ?_
        refine z_iload_n (pc := 39) hC 1 rfl 1 rfl dX0_remove_39 ?_
        refine z_icmp_ne (pc := 40) hC 47 rfl dX0_remove_40 ?_ ?_
        · refine z_aload_n (pc := 47) hC 0 rfl 0 rfl dX0_remove_47 ?_
          refine z_iload_n (pc := 48) hC 2 rfl 2 rfl dX0_remove_48 ?_
          refine z_piV (pc := 49) (st := []) hC y_X0_afterwards q769 [.inl (.int v2)] rfl (hk 17 rfl) rfl rfl (c_X0_afterwards hC.2.2.2.2.2.2.1 hk hk2) rfl ⟨rfl, rfl, (Nat.le_of_ble_eq_true rfl), (Nat.le_of_ble_eq_true rfl)⟩ (Nat.le_of_ble_eq_true rfl) dX0_remove_49 (fun r6 => ?_)
          exact z_sub [0, 1, 2, 3] rfl (r_De_remove_52 hC hk hk2 _ ih v1 v2 v3 r6 d)
        · refine z_iconst (pc := 43) hC (-1 : Int32) rfl dX0_remove_43 ?_
          refine z_goto (pc := 44) hC 52 rfl dX0_remove_44 ?_
          exact z_sub [0, 1, 2, 3] rfl (r_De_remove_52 hC hk hk2 _ ih v1 v2 v3 (-1 : Int32) d)
theorem r_De_remove {C : Cxt} {G : Geo} {M : Mem} {k : Nat} (hC : Cx C cX0_remove 5 "FrameHeirs$Deeds" none rm_X0_remove G) (hk : LWd G k) (hk2 : 2 ≤ k) (d : Sl) (a1 : Int32) : Rz C 5 G (setS M k) (poM avV (setS M k)) 0 [(0, .inr (k, 17)), (1, .inl (.int a1))] [] d (De_remove d a1) := by
  unfold De_remove
  refine z_iload_n (pc := 0) hC 1 rfl 1 rfl dX0_remove_0 ?_
  refine z_if_lt (pc := 1) hC 13 rfl dX0_remove_1 ?_ ?_
  · exact z_vret (pc := 13) hC rfl dX0_remove_13
  · refine z_aload_n (pc := 4) hC 0 rfl 0 rfl dX0_remove_4 ?_
    refine z_getc (pc := 5) hC (hk 17 rfl) f_17_5 q308 dX0_remove_5 ?_
    refine z_iload_n (pc := 8) hC 1 rfl 1 rfl dX0_remove_8 ?_
    refine zs_iald (pc := 9) hC (hk 23 rfl) rfl dX0_remove_9 ?_
    refine z_if_ge (pc := 10) hC 14 rfl dX0_remove_10 ?_ ?_
    · refine z_aload_n (pc := 14) hC 0 rfl 0 rfl dX0_remove_14 ?_
      refine z_iload_n (pc := 15) hC 1 rfl 1 rfl dX0_remove_15 ?_
      refine z_cvV (pc := 16) (st := []) hC y_X0_takeFromGiver q736 [.inl (.int a1)] rfl (hk 17 rfl) rfl rfl (c_X0_takeFromGiver hC.2.2.2.2.2.2.1 hk hk2) rfl ⟨rfl, rfl, (Nat.le_of_ble_eq_true rfl), (Nat.le_of_ble_eq_true rfl)⟩ (Nat.le_of_ble_eq_true rfl) dX0_remove_16 (fun r7 d8 => ?_)
      refine z_aload_n (pc := 19) hC 0 rfl 0 rfl dX0_remove_19 ?_
      refine z_iload_n (pc := 20) hC 1 rfl 1 rfl dX0_remove_20 ?_
      refine z_piV (pc := 21) (st := []) hC y_X0_deepest q765 [.inl (.int a1)] rfl (hk 17 rfl) rfl rfl (c_X0_deepest hC.2.2.2.2.2.2.1 hk hk2) rfl ⟨rfl, rfl, (Nat.le_of_ble_eq_true rfl), (Nat.le_of_ble_eq_true rfl)⟩ (Nat.le_of_ble_eq_true rfl) dX0_remove_21 (fun r9 => ?_)
      refine z_istore_n (pc := 24) (ls1 := fun v => [(2, .inl (.int v)), (0, .inr (k, 17)), (1, .inl (.int a1))]) hC 2 rfl (by decide) (fun v => rfl) dX0_remove_24 (fun v2_10 => ?_)
      refine z_iconst (pc := 25) hC (0 : Int32) rfl dX0_remove_25 ?_
      refine z_istore_n (pc := 26) (ls1 := fun v => [(3, .inl (.int v)), (2, .inl (.int v2_10)), (0, .inr (k, 17)), (1, .inl (.int a1))]) hC 3 rfl (by decide) (fun v => rfl) dX0_remove_26 (fun v3_11 => ?_)
      exact z_sub [2, 3, 1, 0] rfl (r_De_remove_27 hC hk hk2 FU a1 v2_10 v3_11 d8)
    · exact z_vret (pc := 13) hC rfl dX0_remove_13
theorem c_X0_remove {G : Geo} {M : Mem} {k : Nat} (hG : GOk G) (hk : LWd G k) (hk2 : 2 ≤ k) {d : Sl} {a1 : Int32} (l : Launch) (r : Unit) (d1 : Sl) (h : De_remove d a1 = some (r, d1)) : Mt l yX0_remove cX0_remove 5 none rm_X0_remove G [.inr (k, 17), .inl (.int a1)] ((setS M k) d) (avV r) ((setS M k) d1) :=
  mt_of (mem := (setS M k)) (po := poM avV (setS M k)) (x0 := d) (t := (r, d1)) rfl hG [.inr (k, 17), .inl (.int a1)] (Nat.le_of_ble_eq_true rfl) rfl (fun C hC => r_De_remove hC hk hk2 d a1) h
-- FrameHeirs$Deeds.listAlike(I)I
abbrev rm_X0_listAlike : Room := { frames := 0, cells := 0, slots := 0, locals := 0 }
theorem dX0_listAlike_0 : decode cX0_listAlike 0 = .ok (.aload_n 0, 1) := by decide +kernel
theorem dX0_listAlike_1 : decode cX0_listAlike 1 = .ok (.getfield 21, 3) := by decide +kernel
theorem dX0_listAlike_4 : decode cX0_listAlike 4 = .ok (.iload_n 1, 1) := by decide +kernel
theorem dX0_listAlike_5 : decode cX0_listAlike 5 = .ok (.iaload, 1) := by decide +kernel
theorem dX0_listAlike_6 : decode cX0_listAlike 6 = .ok (.istore_n 2, 1) := by decide +kernel
theorem dX0_listAlike_7 : decode cX0_listAlike 7 = .ok (.aload_n 0, 1) := by decide +kernel
theorem dX0_listAlike_8 : decode cX0_listAlike 8 = .ok (.getfield 58, 3) := by decide +kernel
theorem dX0_listAlike_11 : decode cX0_listAlike 11 = .ok (.iconst 0, 1) := by decide +kernel
theorem dX0_listAlike_12 : decode cX0_listAlike 12 = .ok (.iload_n 1, 1) := by decide +kernel
theorem dX0_listAlike_13 : decode cX0_listAlike 13 = .ok (.iastore, 1) := by decide +kernel
theorem dX0_listAlike_14 : decode cX0_listAlike 14 = .ok (.iconst 1, 1) := by decide +kernel
theorem dX0_listAlike_15 : decode cX0_listAlike 15 = .ok (.istore_n 3, 1) := by decide +kernel
theorem dX0_listAlike_16 : decode cX0_listAlike 16 = .ok (.iconst 0, 1) := by decide +kernel
theorem dX0_listAlike_17 : decode cX0_listAlike 17 = .ok (.istore 4, 2) := by decide +kernel
theorem dX0_listAlike_19 : decode cX0_listAlike 19 = .ok (.iload 4, 2) := by decide +kernel
theorem dX0_listAlike_21 : decode cX0_listAlike 21 = .ok (.iload_n 3, 1) := by decide +kernel
theorem dX0_listAlike_22 : decode cX0_listAlike 22 = .ok (.if_icmp .ge 83, 3) := by decide +kernel
theorem dX0_listAlike_25 : decode cX0_listAlike 25 = .ok (.aload_n 0, 1) := by decide +kernel
theorem dX0_listAlike_26 : decode cX0_listAlike 26 = .ok (.getfield 30, 3) := by decide +kernel
theorem dX0_listAlike_29 : decode cX0_listAlike 29 = .ok (.aload_n 0, 1) := by decide +kernel
theorem dX0_listAlike_30 : decode cX0_listAlike 30 = .ok (.getfield 58, 3) := by decide +kernel
theorem dX0_listAlike_33 : decode cX0_listAlike 33 = .ok (.iload 4, 2) := by decide +kernel
theorem dX0_listAlike_35 : decode cX0_listAlike 35 = .ok (.iaload, 1) := by decide +kernel
theorem dX0_listAlike_36 : decode cX0_listAlike 36 = .ok (.iaload, 1) := by decide +kernel
theorem dX0_listAlike_37 : decode cX0_listAlike 37 = .ok (.istore 5, 2) := by decide +kernel
theorem dX0_listAlike_39 : decode cX0_listAlike 39 = .ok (.iconst 0, 1) := by decide +kernel
theorem dX0_listAlike_40 : decode cX0_listAlike 40 = .ok (.istore 6, 2) := by decide +kernel
theorem dX0_listAlike_42 : decode cX0_listAlike 42 = .ok (.iload 6, 2) := by decide +kernel
theorem dX0_listAlike_44 : decode cX0_listAlike 44 = .ok (.sipush 192, 3) := by decide +kernel
theorem dX0_listAlike_47 : decode cX0_listAlike 47 = .ok (.if_icmp .ge 52, 3) := by decide +kernel
theorem dX0_listAlike_50 : decode cX0_listAlike 50 = .ok (.iload 5, 2) := by decide +kernel
theorem dX0_listAlike_52 : decode cX0_listAlike 52 = .ok (.ifCond .lt 47, 3) := by decide +kernel
theorem dX0_listAlike_55 : decode cX0_listAlike 55 = .ok (.aload_n 0, 1) := by decide +kernel
theorem dX0_listAlike_56 : decode cX0_listAlike 56 = .ok (.getfield 21, 3) := by decide +kernel
theorem dX0_listAlike_59 : decode cX0_listAlike 59 = .ok (.iload 5, 2) := by decide +kernel
theorem dX0_listAlike_61 : decode cX0_listAlike 61 = .ok (.iaload, 1) := by decide +kernel
theorem dX0_listAlike_62 : decode cX0_listAlike 62 = .ok (.iload_n 2, 1) := by decide +kernel
theorem dX0_listAlike_63 : decode cX0_listAlike 63 = .ok (.if_icmp .ne 21, 3) := by decide +kernel
theorem dX0_listAlike_66 : decode cX0_listAlike 66 = .ok (.iload_n 3, 1) := by decide +kernel
theorem dX0_listAlike_67 : decode cX0_listAlike 67 = .ok (.sipush 192, 3) := by decide +kernel
theorem dX0_listAlike_70 : decode cX0_listAlike 70 = .ok (.if_icmp .ge 14, 3) := by decide +kernel
theorem dX0_listAlike_73 : decode cX0_listAlike 73 = .ok (.aload_n 0, 1) := by decide +kernel
theorem dX0_listAlike_74 : decode cX0_listAlike 74 = .ok (.getfield 58, 3) := by decide +kernel
theorem dX0_listAlike_77 : decode cX0_listAlike 77 = .ok (.iload_n 3, 1) := by decide +kernel
theorem dX0_listAlike_78 : decode cX0_listAlike 78 = .ok (.iload 5, 2) := by decide +kernel
theorem dX0_listAlike_80 : decode cX0_listAlike 80 = .ok (.iastore, 1) := by decide +kernel
theorem dX0_listAlike_81 : decode cX0_listAlike 81 = .ok (.iinc 3 1, 3) := by decide +kernel
theorem dX0_listAlike_84 : decode cX0_listAlike 84 = .ok (.aload_n 0, 1) := by decide +kernel
theorem dX0_listAlike_85 : decode cX0_listAlike 85 = .ok (.getfield 36, 3) := by decide +kernel
theorem dX0_listAlike_88 : decode cX0_listAlike 88 = .ok (.iload 5, 2) := by decide +kernel
theorem dX0_listAlike_90 : decode cX0_listAlike 90 = .ok (.iaload, 1) := by decide +kernel
theorem dX0_listAlike_91 : decode cX0_listAlike 91 = .ok (.istore 5, 2) := by decide +kernel
theorem dX0_listAlike_93 : decode cX0_listAlike 93 = .ok (.iinc 6 1, 3) := by decide +kernel
theorem dX0_listAlike_96 : decode cX0_listAlike 96 = .ok (.goto (-54), 3) := by decide +kernel
theorem dX0_listAlike_99 : decode cX0_listAlike 99 = .ok (.iinc 4 1, 3) := by decide +kernel
theorem dX0_listAlike_102 : decode cX0_listAlike 102 = .ok (.goto (-83), 3) := by decide +kernel
theorem dX0_listAlike_105 : decode cX0_listAlike 105 = .ok (.iload_n 3, 1) := by decide +kernel
theorem dX0_listAlike_106 : decode cX0_listAlike 106 = .ok (.ireturn, 1) := by decide +kernel
def De_listAlike_99 (k19 : Int32 → Int32 → Int32 → Sl → Option (Int32 × Sl)) (v2 : Int32) (v3 : Int32) (v4 : Int32) (d : Sl) : Option (Int32 × Sl) :=
  bnd (v4 + (1 : Int32)) fun v4_1 =>
  k19 v2 v3 v4_1 d
def De_listAlike_84 (k19 : Int32 → Int32 → Int32 → Sl → Option (Int32 × Sl)) (k42 : Int32 → Int32 → Int32 → Int32 → Int32 → Sl → Option (Int32 × Sl)) (v2 : Int32) (v3 : Int32) (v4 : Int32) (v5 : Int32) (v6 : Int32) (d : Sl) : Option (Int32 × Sl) :=
  if inb v5 192 then
  bnd (d 26 (ix v5)) fun v5_2 =>
  bnd (v6 + (1 : Int32)) fun v6_3 =>
  k42 v2 v3 v4 v5_2 v6_3 d
  else none
def De_listAlike_42 (k19 : Int32 → Int32 → Int32 → Sl → Option (Int32 × Sl)) : Nat → Int32 → Int32 → Int32 → Int32 → Int32 → Sl → Option (Int32 × Sl)
  | 0, _, _, _, _, _, _ => none
  | n + 1, v2, v3, v4, v5, v6, d =>
    if (192 : Int32) ≤ v6 then
      (De_listAlike_99 k19 v2 v3 v4 d)
    else
      (if v5 < 0 then
        (De_listAlike_99 k19 v2 v3 v4 d)
      else
        (if inb v5 192 then
        if (d 21 (ix v5)) = v2 then
          (if (192 : Int32) ≤ v3 then
            (De_listAlike_84 k19 (De_listAlike_42 k19 n) v2 v3 v4 v5 v6 d)
          else
            (if inb v3 192 then
            bnd (wr d 33 (ix v3) v5) fun d4 =>
            bnd (v3 + (1 : Int32)) fun v3_5 =>
            De_listAlike_84 k19 (De_listAlike_42 k19 n) v2 v3_5 v4 v5 v6 d4
            else none))
        else
          (De_listAlike_84 k19 (De_listAlike_42 k19 n) v2 v3 v4 v5 v6 d)
        else none))
def De_listAlike_19 : Nat → Int32 → Int32 → Int32 → Sl → Option (Int32 × Sl)
  | 0, _, _, _, _ => none
  | n + 1, v2, v3, v4, d =>
    if v3 ≤ v4 then
      (some (v3, d))
    else
      (if inb v4 192 then
      if inb (d 33 (ix v4)) 192 then
      bnd (d 24 (ix (d 33 (ix v4)))) fun v5_6 =>
      bnd (0 : Int32) fun v6_7 =>
      De_listAlike_42 (De_listAlike_19 n) FU v2 v3 v4 v5_6 v6_7 d
      else none
      else none)
def De_listAlike (d : Sl) (a1 : Int32) : Option (Int32 × Sl) :=
  if inb a1 192 then
  bnd (d 21 (ix a1)) fun v2_8 =>
  if inb (0 : Int32) 192 then
  bnd (wr d 33 (ix (0 : Int32)) a1) fun d9 =>
  bnd (1 : Int32) fun v3_10 =>
  bnd (0 : Int32) fun v4_11 =>
  De_listAlike_19 FU v2_8 v3_10 v4_11 d9
  else none
  else none
theorem y_X0_listAlike : YV yX0_listAlike cX0_listAlike 7 (some .int) 1 := ⟨q725, q22, q726, q147, by decide +kernel, by decide +kernel, by decide +kernel, by decide +kernel⟩
theorem r_De_listAlike_99 {C : Cxt} {G : Geo} {M : Mem} {k : Nat} (hC : Cx C cX0_listAlike 7 "FrameHeirs$Deeds" (some .int) rm_X0_listAlike G) (hk : LWd G k) (hk2 : 2 ≤ k) (k19 : Int32 → Int32 → Int32 → Sl → Option (Int32 × Sl)) (h19 : ∀ (v2 : Int32) (v3 : Int32) (v4 : Int32) (d : Sl), Rz C 7 G (setS M k) (poM avI (setS M k)) 19 [(0, .inr (k, 17)), (2, .inl (.int v2)), (3, .inl (.int v3)), (4, .inl (.int v4))] [] d (k19 v2 v3 v4 d)) (v2 : Int32) (v3 : Int32) (v4 : Int32) (d : Sl) : Rz C 7 G (setS M k) (poM avI (setS M k)) 99 [(0, .inr (k, 17)), (2, .inl (.int v2)), (3, .inl (.int v3)), (4, .inl (.int v4))] [] d (De_listAlike_99 k19 v2 v3 v4 d) := by
  unfold De_listAlike_99
  refine z_iinc (pc := 99) (ls1 := fun v => [(4, .inl (.int v)), (0, .inr (k, 17)), (2, .inl (.int v2)), (3, .inl (.int v3))]) hC 4 3 (by decide) (1 : Int32) rfl rfl (fun v => rfl) dX0_listAlike_99 (fun v4_1 => ?_)
  refine z_goto (pc := 102) hC 19 rfl dX0_listAlike_102 ?_
  exact z_sub [1, 2, 3, 0] rfl (h19 v2 v3 v4_1 d)
theorem r_De_listAlike_84 {C : Cxt} {G : Geo} {M : Mem} {k : Nat} (hC : Cx C cX0_listAlike 7 "FrameHeirs$Deeds" (some .int) rm_X0_listAlike G) (hk : LWd G k) (hk2 : 2 ≤ k) (k19 : Int32 → Int32 → Int32 → Sl → Option (Int32 × Sl)) (h19 : ∀ (v2 : Int32) (v3 : Int32) (v4 : Int32) (d : Sl), Rz C 7 G (setS M k) (poM avI (setS M k)) 19 [(0, .inr (k, 17)), (2, .inl (.int v2)), (3, .inl (.int v3)), (4, .inl (.int v4))] [] d (k19 v2 v3 v4 d)) (k42 : Int32 → Int32 → Int32 → Int32 → Int32 → Sl → Option (Int32 × Sl)) (h42 : ∀ (v2 : Int32) (v3 : Int32) (v4 : Int32) (v5 : Int32) (v6 : Int32) (d : Sl), Rz C 7 G (setS M k) (poM avI (setS M k)) 42 [(0, .inr (k, 17)), (2, .inl (.int v2)), (3, .inl (.int v3)), (4, .inl (.int v4)), (5, .inl (.int v5)), (6, .inl (.int v6))] [] d (k42 v2 v3 v4 v5 v6 d)) (v2 : Int32) (v3 : Int32) (v4 : Int32) (v5 : Int32) (v6 : Int32) (d : Sl) : Rz C 7 G (setS M k) (poM avI (setS M k)) 84 [(0, .inr (k, 17)), (2, .inl (.int v2)), (3, .inl (.int v3)), (4, .inl (.int v4)), (5, .inl (.int v5)), (6, .inl (.int v6))] [] d (De_listAlike_84 k19 k42 v2 v3 v4 v5 v6 d) := by
  unfold De_listAlike_84
  refine z_aload_n (pc := 84) hC 0 rfl 0 rfl dX0_listAlike_84 ?_
  refine z_getc (pc := 85) hC (hk 17 rfl) f_17_8 q314 dX0_listAlike_85 ?_
  refine z_iload (pc := 88) hC 5 4 rfl dX0_listAlike_88 ?_
  refine zs_iald (pc := 90) hC (hk 26 rfl) rfl dX0_listAlike_90 ?_
  refine z_istore (pc := 91) (ls1 := fun v => [(5, .inl (.int v)), (0, .inr (k, 17)), (2, .inl (.int v2)), (3, .inl (.int v3)), (4, .inl (.int v4)), (6, .inl (.int v6))]) hC 5 (by decide) (fun v => rfl) dX0_listAlike_91 (fun v5_2 => ?_)
  refine z_iinc (pc := 93) (ls1 := fun v => [(6, .inl (.int v)), (5, .inl (.int v5_2)), (0, .inr (k, 17)), (2, .inl (.int v2)), (3, .inl (.int v3)), (4, .inl (.int v4))]) hC 6 5 (by decide) (1 : Int32) rfl rfl (fun v => rfl) dX0_listAlike_93 (fun v6_3 => ?_)
  refine z_goto (pc := 96) hC 42 rfl dX0_listAlike_96 ?_
  exact z_sub [2, 3, 4, 5, 1, 0] rfl (h42 v2 v3 v4 v5_2 v6_3 d)
theorem r_De_listAlike_42 {C : Cxt} {G : Geo} {M : Mem} {k : Nat} (hC : Cx C cX0_listAlike 7 "FrameHeirs$Deeds" (some .int) rm_X0_listAlike G) (hk : LWd G k) (hk2 : 2 ≤ k) (k19 : Int32 → Int32 → Int32 → Sl → Option (Int32 × Sl)) (h19 : ∀ (v2 : Int32) (v3 : Int32) (v4 : Int32) (d : Sl), Rz C 7 G (setS M k) (poM avI (setS M k)) 19 [(0, .inr (k, 17)), (2, .inl (.int v2)), (3, .inl (.int v3)), (4, .inl (.int v4))] [] d (k19 v2 v3 v4 d)) : ∀ (n : Nat) (v2 : Int32) (v3 : Int32) (v4 : Int32) (v5 : Int32) (v6 : Int32) (d : Sl), Rz C 7 G (setS M k) (poM avI (setS M k)) 42 [(0, .inr (k, 17)), (2, .inl (.int v2)), (3, .inl (.int v3)), (4, .inl (.int v4)), (5, .inl (.int v5)), (6, .inl (.int v6))] [] d (De_listAlike_42 k19 n v2 v3 v4 v5 v6 d) := by
  intro n
  induction n with
  | zero => intros; exact z_none
  | succ n ih =>
    intro v2 v3 v4 v5 v6 d
    rw [De_listAlike_42]
    refine z_iload (pc := 42) hC 6 5 rfl dX0_listAlike_42 ?_
    refine z_sipush (pc := 44) hC (192 : Int32) rfl dX0_listAlike_44 ?_
    refine z_icmp_ge (pc := 47) hC 99 rfl dX0_listAlike_47 ?_ ?_
    · exact z_sub [0, 1, 2, 3] rfl (r_De_listAlike_99 hC hk hk2 k19 h19 v2 v3 v4 d)
    · refine z_iload (pc := 50) hC 5 4 rfl dX0_listAlike_50 ?_
      refine z_if_lt (pc := 52) hC 99 rfl dX0_listAlike_52 ?_ ?_
      · exact z_sub [0, 1, 2, 3] rfl (r_De_listAlike_99 hC hk hk2 k19 h19 v2 v3 v4 d)
      · refine z_aload_n (pc := 55) hC 0 rfl 0 rfl dX0_listAlike_55 ?_
        refine z_getc (pc := 56) hC (hk 17 rfl) f_17_3 q302 dX0_listAlike_56 ?_
        refine z_iload (pc := 59) hC 5 4 rfl dX0_listAlike_59 ?_
        refine zs_iald (pc := 61) hC (hk 21 rfl) rfl dX0_listAlike_61 ?_
        refine z_iload_n (pc := 62) hC 2 rfl 1 rfl dX0_listAlike_62 ?_
        refine z_icmp_ne (pc := 63) hC 84 rfl dX0_listAlike_63 ?_ ?_
        · exact z_sub [0, 1, 2, 3, 4, 5] rfl (r_De_listAlike_84 hC hk hk2 k19 h19 _ ih v2 v3 v4 v5 v6 d)
        · refine z_iload_n (pc := 66) hC 3 rfl 2 rfl dX0_listAlike_66 ?_
          refine z_sipush (pc := 67) hC (192 : Int32) rfl dX0_listAlike_67 ?_
          refine z_icmp_ge (pc := 70) hC 84 rfl dX0_listAlike_70 ?_ ?_
          · exact z_sub [0, 1, 2, 3, 4, 5] rfl (r_De_listAlike_84 hC hk hk2 k19 h19 _ ih v2 v3 v4 v5 v6 d)
          · refine z_aload_n (pc := 73) hC 0 rfl 0 rfl dX0_listAlike_73 ?_
            refine z_getc (pc := 74) hC (hk 17 rfl) f_17_15 q325 dX0_listAlike_74 ?_
            refine z_iload_n (pc := 77) hC 3 rfl 2 rfl dX0_listAlike_77 ?_
            refine z_iload (pc := 78) hC 5 4 rfl dX0_listAlike_78 ?_
            refine zs_iast (pc := 80) hC (hk 33 rfl) (by decide) rfl dX0_listAlike_80 (fun d4 => ?_)
            refine z_iinc (pc := 81) (ls1 := fun v => [(3, .inl (.int v)), (0, .inr (k, 17)), (2, .inl (.int v2)), (4, .inl (.int v4)), (5, .inl (.int v5)), (6, .inl (.int v6))]) hC 3 2 (by decide) (1 : Int32) rfl rfl (fun v => rfl) dX0_listAlike_81 (fun v3_5 => ?_)
            exact z_sub [1, 2, 0, 3, 4, 5] rfl (r_De_listAlike_84 hC hk hk2 k19 h19 _ ih v2 v3_5 v4 v5 v6 d4)
theorem r_De_listAlike_19 {C : Cxt} {G : Geo} {M : Mem} {k : Nat} (hC : Cx C cX0_listAlike 7 "FrameHeirs$Deeds" (some .int) rm_X0_listAlike G) (hk : LWd G k) (hk2 : 2 ≤ k) : ∀ (n : Nat) (v2 : Int32) (v3 : Int32) (v4 : Int32) (d : Sl), Rz C 7 G (setS M k) (poM avI (setS M k)) 19 [(0, .inr (k, 17)), (2, .inl (.int v2)), (3, .inl (.int v3)), (4, .inl (.int v4))] [] d (De_listAlike_19 n v2 v3 v4 d) := by
  intro n
  induction n with
  | zero => intros; exact z_none
  | succ n ih =>
    intro v2 v3 v4 d
    rw [De_listAlike_19]
    refine z_iload (pc := 19) hC 4 3 rfl dX0_listAlike_19 ?_
    refine z_iload_n (pc := 21) hC 3 rfl 2 rfl dX0_listAlike_21 ?_
    refine z_icmp_ge (pc := 22) hC 105 rfl dX0_listAlike_22 ?_ ?_
    · refine z_iload_n (pc := 105) hC 3 rfl 2 rfl dX0_listAlike_105 ?_
      exact z_iret (pc := 106) hC rfl dX0_listAlike_106
    · refine z_aload_n (pc := 25) hC 0 rfl 0 rfl dX0_listAlike_25 ?_
      refine z_getc (pc := 26) hC (hk 17 rfl) f_17_6 q311 dX0_listAlike_26 ?_
      refine z_aload_n (pc := 29) hC 0 rfl 0 rfl dX0_listAlike_29 ?_
      refine z_getc (pc := 30) hC (hk 17 rfl) f_17_15 q325 dX0_listAlike_30 ?_
      refine z_iload (pc := 33) hC 4 3 rfl dX0_listAlike_33 ?_
      refine zs_iald (pc := 35) hC (hk 33 rfl) rfl dX0_listAlike_35 ?_
      refine zs_iald (pc := 36) hC (hk 24 rfl) rfl dX0_listAlike_36 ?_
      refine z_istore (pc := 37) (ls1 := fun v => [(5, .inl (.int v)), (0, .inr (k, 17)), (2, .inl (.int v2)), (3, .inl (.int v3)), (4, .inl (.int v4))]) hC 5 (by decide) (fun v => rfl) dX0_listAlike_37 (fun v5_6 => ?_)
      refine z_iconst (pc := 39) hC (0 : Int32) rfl dX0_listAlike_39 ?_
      refine z_istore (pc := 40) (ls1 := fun v => [(6, .inl (.int v)), (5, .inl (.int v5_6)), (0, .inr (k, 17)), (2, .inl (.int v2)), (3, .inl (.int v3)), (4, .inl (.int v4))]) hC 6 (by decide) (fun v => rfl) dX0_listAlike_40 (fun v6_7 => ?_)
      exact z_sub [2, 3, 4, 5, 1, 0] rfl (r_De_listAlike_42 hC hk hk2 _ ih FU v2 v3 v4 v5_6 v6_7 d)
theorem r_De_listAlike {C : Cxt} {G : Geo} {M : Mem} {k : Nat} (hC : Cx C cX0_listAlike 7 "FrameHeirs$Deeds" (some .int) rm_X0_listAlike G) (hk : LWd G k) (hk2 : 2 ≤ k) (d : Sl) (a1 : Int32) : Rz C 7 G (setS M k) (poM avI (setS M k)) 0 [(0, .inr (k, 17)), (1, .inl (.int a1))] [] d (De_listAlike d a1) := by
  unfold De_listAlike
  refine z_aload_n (pc := 0) hC 0 rfl 0 rfl dX0_listAlike_0 ?_
  refine z_getc (pc := 1) hC (hk 17 rfl) f_17_3 q302 dX0_listAlike_1 ?_
  refine z_iload_n (pc := 4) hC 1 rfl 1 rfl dX0_listAlike_4 ?_
  refine zs_iald (pc := 5) hC (hk 21 rfl) rfl dX0_listAlike_5 ?_
  refine z_istore_n (pc := 6) (ls1 := fun v => [(2, .inl (.int v)), (0, .inr (k, 17)), (1, .inl (.int a1))]) hC 2 rfl (by decide) (fun v => rfl) dX0_listAlike_6 (fun v2_8 => ?_)
  refine z_aload_n (pc := 7) hC 0 rfl 1 rfl dX0_listAlike_7 ?_
  refine z_getc (pc := 8) hC (hk 17 rfl) f_17_15 q325 dX0_listAlike_8 ?_
  refine z_iconst (pc := 11) hC (0 : Int32) rfl dX0_listAlike_11 ?_
  refine z_iload_n (pc := 12) hC 1 rfl 2 rfl dX0_listAlike_12 ?_
  refine zs_iast (pc := 13) hC (hk 33 rfl) (by decide) rfl dX0_listAlike_13 (fun d9 => ?_)
  refine z_iconst (pc := 14) hC (1 : Int32) rfl dX0_listAlike_14 ?_
  refine z_istore_n (pc := 15) (ls1 := fun v => [(3, .inl (.int v)), (2, .inl (.int v2_8)), (0, .inr (k, 17)), (1, .inl (.int a1))]) hC 3 rfl (by decide) (fun v => rfl) dX0_listAlike_15 (fun v3_10 => ?_)
  refine z_iconst (pc := 16) hC (0 : Int32) rfl dX0_listAlike_16 ?_
  refine z_istore (pc := 17) (ls1 := fun v => [(4, .inl (.int v)), (3, .inl (.int v3_10)), (2, .inl (.int v2_8)), (0, .inr (k, 17)), (1, .inl (.int a1))]) hC 4 (by decide) (fun v => rfl) dX0_listAlike_17 (fun v4_11 => ?_)
  exact z_sub [3, 2, 1, 0] rfl (r_De_listAlike_19 hC hk hk2 FU v2_8 v3_10 v4_11 d9)
theorem c_X0_listAlike {G : Geo} {M : Mem} {k : Nat} (hG : GOk G) (hk : LWd G k) (hk2 : 2 ≤ k) {d : Sl} {a1 : Int32} (l : Launch) (r : Int32) (d1 : Sl) (h : De_listAlike d a1 = some (r, d1)) : Mt l yX0_listAlike cX0_listAlike 7 (some .int) rm_X0_listAlike G [.inr (k, 17), .inl (.int a1)] ((setS M k) d) (avI r) ((setS M k) d1) :=
  mt_of (mem := (setS M k)) (po := poM avI (setS M k)) (x0 := d) (t := (r, d1)) rfl hG [.inr (k, 17), .inl (.int a1)] (Nat.le_of_ble_eq_true rfl) rfl (fun C hC => r_De_listAlike hC hk hk2 d a1) h
-- FrameHeirs$Deeds.halve(I)V
abbrev rm_X0_halve : Room := { frames := 2, cells := 0, slots := 0, locals := 51 }
theorem dX0_halve_0 : decode cX0_halve 0 = .ok (.iconst 1, 1) := by decide +kernel
theorem dX0_halve_1 : decode cX0_halve 1 = .ok (.aload_n 0, 1) := by decide +kernel
theorem dX0_halve_2 : decode cX0_halve 2 = .ok (.getfield 21, 3) := by decide +kernel
theorem dX0_halve_5 : decode cX0_halve 5 = .ok (.iload_n 1, 1) := by decide +kernel
theorem dX0_halve_6 : decode cX0_halve 6 = .ok (.iaload, 1) := by decide +kernel
theorem dX0_halve_7 : decode cX0_halve 7 = .ok (.iconst 1, 1) := by decide +kernel
theorem dX0_halve_8 : decode cX0_halve 8 = .ok (.isub, 1) := by decide +kernel
theorem dX0_halve_9 : decode cX0_halve 9 = .ok (.ishl, 1) := by decide +kernel
theorem dX0_halve_10 : decode cX0_halve 10 = .ok (.istore_n 2, 1) := by decide +kernel
theorem dX0_halve_11 : decode cX0_halve 11 = .ok (.aload_n 0, 1) := by decide +kernel
theorem dX0_halve_12 : decode cX0_halve 12 = .ok (.getfield 21, 3) := by decide +kernel
theorem dX0_halve_15 : decode cX0_halve 15 = .ok (.iload_n 1, 1) := by decide +kernel
theorem dX0_halve_16 : decode cX0_halve 16 = .ok (.dup2, 1) := by decide +kernel
theorem dX0_halve_17 : decode cX0_halve 17 = .ok (.iaload, 1) := by decide +kernel
theorem dX0_halve_18 : decode cX0_halve 18 = .ok (.iconst 1, 1) := by decide +kernel
theorem dX0_halve_19 : decode cX0_halve 19 = .ok (.isub, 1) := by decide +kernel
theorem dX0_halve_20 : decode cX0_halve 20 = .ok (.iastore, 1) := by decide +kernel
theorem dX0_halve_21 : decode cX0_halve 21 = .ok (.aload_n 0, 1) := by decide +kernel
theorem dX0_halve_22 : decode cX0_halve 22 = .ok (.aload_n 0, 1) := by decide +kernel
theorem dX0_halve_23 : decode cX0_halve 23 = .ok (.getfield 9, 3) := by decide +kernel
theorem dX0_halve_26 : decode cX0_halve 26 = .ok (.iload_n 1, 1) := by decide +kernel
theorem dX0_halve_27 : decode cX0_halve 27 = .ok (.iaload, 1) := by decide +kernel
theorem dX0_halve_28 : decode cX0_halve 28 = .ok (.aload_n 0, 1) := by decide +kernel
theorem dX0_halve_29 : decode cX0_halve 29 = .ok (.getfield 15, 3) := by decide +kernel
theorem dX0_halve_32 : decode cX0_halve 32 = .ok (.iload_n 1, 1) := by decide +kernel
theorem dX0_halve_33 : decode cX0_halve 33 = .ok (.iaload, 1) := by decide +kernel
theorem dX0_halve_34 : decode cX0_halve 34 = .ok (.iload_n 2, 1) := by decide +kernel
theorem dX0_halve_35 : decode cX0_halve 35 = .ok (.iadd, 1) := by decide +kernel
theorem dX0_halve_36 : decode cX0_halve 36 = .ok (.aload_n 0, 1) := by decide +kernel
theorem dX0_halve_37 : decode cX0_halve 37 = .ok (.getfield 18, 3) := by decide +kernel
theorem dX0_halve_40 : decode cX0_halve 40 = .ok (.iload_n 1, 1) := by decide +kernel
theorem dX0_halve_41 : decode cX0_halve 41 = .ok (.iaload, 1) := by decide +kernel
theorem dX0_halve_42 : decode cX0_halve 42 = .ok (.iload_n 2, 1) := by decide +kernel
theorem dX0_halve_43 : decode cX0_halve 43 = .ok (.iadd, 1) := by decide +kernel
theorem dX0_halve_44 : decode cX0_halve 44 = .ok (.aload_n 0, 1) := by decide +kernel
theorem dX0_halve_45 : decode cX0_halve 45 = .ok (.getfield 21, 3) := by decide +kernel
theorem dX0_halve_48 : decode cX0_halve 48 = .ok (.iload_n 1, 1) := by decide +kernel
theorem dX0_halve_49 : decode cX0_halve 49 = .ok (.iaload, 1) := by decide +kernel
theorem dX0_halve_50 : decode cX0_halve 50 = .ok (.aload_n 0, 1) := by decide +kernel
theorem dX0_halve_51 : decode cX0_halve 51 = .ok (.getfield 24, 3) := by decide +kernel
theorem dX0_halve_54 : decode cX0_halve 54 = .ok (.iload_n 1, 1) := by decide +kernel
theorem dX0_halve_55 : decode cX0_halve 55 = .ok (.iaload, 1) := by decide +kernel
theorem dX0_halve_56 : decode cX0_halve 56 = .ok (.invokevirtual 123, 3) := by decide +kernel
theorem dX0_halve_59 : decode cX0_halve 59 = .ok (.istore_n 3, 1) := by decide +kernel
theorem dX0_halve_60 : decode cX0_halve 60 = .ok (.iload_n 3, 1) := by decide +kernel
theorem dX0_halve_61 : decode cX0_halve 61 = .ok (.ifCond .ge 4, 3) := by decide +kernel
theorem dX0_halve_64 : decode cX0_halve 64 = .ok (.return_, 1) := by decide +kernel
theorem dX0_halve_65 : decode cX0_halve 65 = .ok (.aload_n 0, 1) := by decide +kernel
theorem dX0_halve_66 : decode cX0_halve 66 = .ok (.getfield 51, 3) := by decide +kernel
theorem dX0_halve_69 : decode cX0_halve 69 = .ok (.iload_n 3, 1) := by decide +kernel
theorem dX0_halve_70 : decode cX0_halve 70 = .ok (.aload_n 0, 1) := by decide +kernel
theorem dX0_halve_71 : decode cX0_halve 71 = .ok (.getfield 51, 3) := by decide +kernel
theorem dX0_halve_74 : decode cX0_halve 74 = .ok (.iload_n 1, 1) := by decide +kernel
theorem dX0_halve_75 : decode cX0_halve 75 = .ok (.faload, 1) := by decide +kernel
theorem dX0_halve_76 : decode cX0_halve 76 = .ok (.fastore, 1) := by decide +kernel
theorem dX0_halve_77 : decode cX0_halve 77 = .ok (.aload_n 0, 1) := by decide +kernel
theorem dX0_halve_78 : decode cX0_halve 78 = .ok (.iload_n 3, 1) := by decide +kernel
theorem dX0_halve_79 : decode cX0_halve 79 = .ok (.iload_n 1, 1) := by decide +kernel
theorem dX0_halve_80 : decode cX0_halve 80 = .ok (.invokevirtual 127, 3) := by decide +kernel
theorem dX0_halve_83 : decode cX0_halve 83 = .ok (.aload_n 0, 1) := by decide +kernel
theorem dX0_halve_84 : decode cX0_halve 84 = .ok (.getfield 30, 3) := by decide +kernel
theorem dX0_halve_87 : decode cX0_halve 87 = .ok (.iload_n 1, 1) := by decide +kernel
theorem dX0_halve_88 : decode cX0_halve 88 = .ok (.iaload, 1) := by decide +kernel
theorem dX0_halve_89 : decode cX0_halve 89 = .ok (.istore 4, 2) := by decide +kernel
theorem dX0_halve_91 : decode cX0_halve 91 = .ok (.iconst 0, 1) := by decide +kernel
theorem dX0_halve_92 : decode cX0_halve 92 = .ok (.istore 5, 2) := by decide +kernel
theorem dX0_halve_94 : decode cX0_halve 94 = .ok (.iload 5, 2) := by decide +kernel
theorem dX0_halve_96 : decode cX0_halve 96 = .ok (.sipush 192, 3) := by decide +kernel
theorem dX0_halve_99 : decode cX0_halve 99 = .ok (.if_icmp .ge 56, 3) := by decide +kernel
theorem dX0_halve_102 : decode cX0_halve 102 = .ok (.iload 4, 2) := by decide +kernel
theorem dX0_halve_104 : decode cX0_halve 104 = .ok (.ifCond .lt 51, 3) := by decide +kernel
theorem dX0_halve_107 : decode cX0_halve 107 = .ok (.aload_n 0, 1) := by decide +kernel
theorem dX0_halve_108 : decode cX0_halve 108 = .ok (.getfield 36, 3) := by decide +kernel
theorem dX0_halve_111 : decode cX0_halve 111 = .ok (.iload 4, 2) := by decide +kernel
theorem dX0_halve_113 : decode cX0_halve 113 = .ok (.iaload, 1) := by decide +kernel
theorem dX0_halve_114 : decode cX0_halve 114 = .ok (.istore 6, 2) := by decide +kernel
theorem dX0_halve_116 : decode cX0_halve 116 = .ok (.aload_n 0, 1) := by decide +kernel
theorem dX0_halve_117 : decode cX0_halve 117 = .ok (.getfield 18, 3) := by decide +kernel
theorem dX0_halve_120 : decode cX0_halve 120 = .ok (.iload 4, 2) := by decide +kernel
theorem dX0_halve_122 : decode cX0_halve 122 = .ok (.iaload, 1) := by decide +kernel
theorem dX0_halve_123 : decode cX0_halve 123 = .ok (.aload_n 0, 1) := by decide +kernel
theorem dX0_halve_124 : decode cX0_halve 124 = .ok (.getfield 18, 3) := by decide +kernel
theorem dX0_halve_127 : decode cX0_halve 127 = .ok (.iload_n 3, 1) := by decide +kernel
theorem dX0_halve_128 : decode cX0_halve 128 = .ok (.iaload, 1) := by decide +kernel
theorem dX0_halve_129 : decode cX0_halve 129 = .ok (.if_icmp .lt 16, 3) := by decide +kernel
theorem dX0_halve_132 : decode cX0_halve 132 = .ok (.aload_n 0, 1) := by decide +kernel
theorem dX0_halve_133 : decode cX0_halve 133 = .ok (.iload 4, 2) := by decide +kernel
theorem dX0_halve_135 : decode cX0_halve 135 = .ok (.invokevirtual 100, 3) := by decide +kernel
theorem dX0_halve_138 : decode cX0_halve 138 = .ok (.aload_n 0, 1) := by decide +kernel
theorem dX0_halve_139 : decode cX0_halve 139 = .ok (.iload 4, 2) := by decide +kernel
theorem dX0_halve_141 : decode cX0_halve 141 = .ok (.iload_n 3, 1) := by decide +kernel
theorem dX0_halve_142 : decode cX0_halve 142 = .ok (.invokevirtual 130, 3) := by decide +kernel
theorem dX0_halve_145 : decode cX0_halve 145 = .ok (.iload 6, 2) := by decide +kernel
theorem dX0_halve_147 : decode cX0_halve 147 = .ok (.istore 4, 2) := by decide +kernel
theorem dX0_halve_149 : decode cX0_halve 149 = .ok (.iinc 5 1, 3) := by decide +kernel
theorem dX0_halve_152 : decode cX0_halve 152 = .ok (.goto (-58), 3) := by decide +kernel
theorem dX0_halve_155 : decode cX0_halve 155 = .ok (.aload_n 0, 1) := by decide +kernel
theorem dX0_halve_156 : decode cX0_halve 156 = .ok (.dup, 1) := by decide +kernel
theorem dX0_halve_157 : decode cX0_halve 157 = .ok (.getfield 71, 3) := by decide +kernel
theorem dX0_halve_160 : decode cX0_halve 160 = .ok (.iconst 1, 1) := by decide +kernel
theorem dX0_halve_161 : decode cX0_halve 161 = .ok (.iadd, 1) := by decide +kernel
theorem dX0_halve_162 : decode cX0_halve 162 = .ok (.putfield 71, 3) := by decide +kernel
theorem dX0_halve_165 : decode cX0_halve 165 = .ok (.return_, 1) := by decide +kernel
def De_halve_155 (d : Sl) : Option (Unit × Sl) :=
  bnd (wr d 17 19 ((d 17 19) + (1 : Int32))) fun d1 =>
  some ((), d1)
def De_halve_145 (k94 : Int32 → Int32 → Int32 → Sl → Option (Unit × Sl)) (v3 : Int32) (v5 : Int32) (v6 : Int32) (d : Sl) : Option (Unit × Sl) :=
  bnd v6 fun v4_2 =>
  bnd (v5 + (1 : Int32)) fun v5_3 =>
  k94 v3 v4_2 v5_3 d
def De_halve_94 : Nat → Int32 → Int32 → Int32 → Sl → Option (Unit × Sl)
  | 0, _, _, _, _ => none
  | n + 1, v3, v4, v5, d =>
    if (192 : Int32) ≤ v5 then
      (De_halve_155 d)
    else
      (if v4 < 0 then
        (De_halve_155 d)
      else
        (if inb v4 192 then
        bnd (d 26 (ix v4)) fun v6_4 =>
        if inb v4 192 then
        if inb v3 192 then
        if (d 20 (ix v4)) < (d 20 (ix v3)) then
          (De_halve_145 (De_halve_94 n) v3 v5 v6_4 d)
        else
          (bd (De_takeFromGiver d v4) fun r5 d6 =>
          bd (De_append d6 v4 v3) fun r7 d8 =>
          De_halve_145 (De_halve_94 n) v3 v5 v6_4 d8)
        else none
        else none
        else none))
def De_halve (d : Sl) (a1 : Int32) : Option (Unit × Sl) :=
  if inb a1 192 then
  bnd ((1 : Int32) <<< (((d 21 (ix a1)) - (1 : Int32)) &&& 31)) fun v2_9 =>
  if inb a1 192 then
  if inb a1 192 then
  bnd (wr d 21 (ix a1) ((d 21 (ix a1)) - (1 : Int32))) fun d10 =>
  if inb a1 192 then
  if inb a1 192 then
  if inb a1 192 then
  if inb a1 192 then
  if inb a1 192 then
  bd (De_make d10 (d10 18 (ix a1)) ((d10 19 (ix a1)) + v2_9) ((d10 20 (ix a1)) + v2_9) (d10 21 (ix a1)) (d10 22 (ix a1))) fun r11 d12 =>
  bnd r11 fun v3_13 =>
  if 0 ≤ v3_13 then
    (if inb a1 192 then
    if inb v3_13 192 then
    bnd (wr d12 31 (ix v3_13) ((d12 31 (ix a1)).toUInt32).toInt32) fun d14 =>
    bd (De_putBehind d14 v3_13 a1) fun r15 d16 =>
    if inb a1 192 then
    bnd (d16 24 (ix a1)) fun v4_17 =>
    bnd (0 : Int32) fun v5_18 =>
    De_halve_94 FU v3_13 v4_17 v5_18 d16
    else none
    else none
    else none)
  else
    (some ((), d12))
  else none
  else none
  else none
  else none
  else none
  else none
  else none
  else none
theorem y_X0_halve : YV yX0_halve cX0_halve 7 none 1 := ⟨q729, q23, q730, q147, by decide +kernel, by decide +kernel, by decide +kernel, by decide +kernel⟩
theorem r_De_halve_155 {C : Cxt} {G : Geo} {M : Mem} {k : Nat} (hC : Cx C cX0_halve 7 "FrameHeirs$Deeds" none rm_X0_halve G) (hk : LWd G k) (hk2 : 2 ≤ k) (d : Sl) : Rz C 7 G (setS M k) (poM avV (setS M k)) 155 [(0, .inr (k, 17))] [] d (De_halve_155 d) := by
  unfold De_halve_155
  refine z_aload_n (pc := 155) hC 0 rfl 0 rfl dX0_halve_155 ?_
  refine z_dup (pc := 156) hC rfl dX0_halve_156 ?_
  refine zs_geti (pc := 157) hC (hk 17 rfl) f_17_19 q332 dX0_halve_157 ?_
  refine z_iconst (pc := 160) hC (1 : Int32) rfl dX0_halve_160 ?_
  refine z_iadd (pc := 161) hC dX0_halve_161 ?_
  refine zs_puti (pc := 162) hC (hk 17 rfl) f_17_19 q332 dX0_halve_162 (fun d1 => ?_)
  exact z_vret (pc := 165) hC rfl dX0_halve_165
theorem r_De_halve_145 {C : Cxt} {G : Geo} {M : Mem} {k : Nat} (hC : Cx C cX0_halve 7 "FrameHeirs$Deeds" none rm_X0_halve G) (hk : LWd G k) (hk2 : 2 ≤ k) (k94 : Int32 → Int32 → Int32 → Sl → Option (Unit × Sl)) (h94 : ∀ (v3 : Int32) (v4 : Int32) (v5 : Int32) (d : Sl), Rz C 7 G (setS M k) (poM avV (setS M k)) 94 [(0, .inr (k, 17)), (3, .inl (.int v3)), (4, .inl (.int v4)), (5, .inl (.int v5))] [] d (k94 v3 v4 v5 d)) (v3 : Int32) (v5 : Int32) (v6 : Int32) (d : Sl) : Rz C 7 G (setS M k) (poM avV (setS M k)) 145 [(0, .inr (k, 17)), (3, .inl (.int v3)), (5, .inl (.int v5)), (6, .inl (.int v6))] [] d (De_halve_145 k94 v3 v5 v6 d) := by
  unfold De_halve_145
  refine z_iload (pc := 145) hC 6 3 rfl dX0_halve_145 ?_
  refine z_istore (pc := 147) (ls1 := fun v => [(4, .inl (.int v)), (0, .inr (k, 17)), (3, .inl (.int v3)), (5, .inl (.int v5)), (6, .inl (.int v6))]) hC 4 (by decide) (fun v => rfl) dX0_halve_147 (fun v4_2 => ?_)
  refine z_iinc (pc := 149) (ls1 := fun v => [(5, .inl (.int v)), (4, .inl (.int v4_2)), (0, .inr (k, 17)), (3, .inl (.int v3)), (6, .inl (.int v6))]) hC 5 3 (by decide) (1 : Int32) rfl rfl (fun v => rfl) dX0_halve_149 (fun v5_3 => ?_)
  refine z_goto (pc := 152) hC 94 rfl dX0_halve_152 ?_
  exact z_sub [2, 3, 1, 0] rfl (h94 v3 v4_2 v5_3 d)
theorem r_De_halve_94 {C : Cxt} {G : Geo} {M : Mem} {k : Nat} (hC : Cx C cX0_halve 7 "FrameHeirs$Deeds" none rm_X0_halve G) (hk : LWd G k) (hk2 : 2 ≤ k) : ∀ (n : Nat) (v3 : Int32) (v4 : Int32) (v5 : Int32) (d : Sl), Rz C 7 G (setS M k) (poM avV (setS M k)) 94 [(0, .inr (k, 17)), (3, .inl (.int v3)), (4, .inl (.int v4)), (5, .inl (.int v5))] [] d (De_halve_94 n v3 v4 v5 d) := by
  intro n
  induction n with
  | zero => intros; exact z_none
  | succ n ih =>
    intro v3 v4 v5 d
    rw [De_halve_94]
    refine z_iload (pc := 94) hC 5 3 rfl dX0_halve_94 ?_
    refine z_sipush (pc := 96) hC (192 : Int32) rfl dX0_halve_96 ?_
    refine z_icmp_ge (pc := 99) hC 155 rfl dX0_halve_99 ?_ ?_
    · exact z_sub [0] rfl (r_De_halve_155 hC hk hk2 d)
    · refine z_iload (pc := 102) hC 4 2 rfl dX0_halve_102 ?_
      refine z_if_lt (pc := 104) hC 155 rfl dX0_halve_104 ?_ ?_
      · exact z_sub [0] rfl (r_De_halve_155 hC hk hk2 d)
      · refine z_aload_n (pc := 107) hC 0 rfl 0 rfl dX0_halve_107 ?_
        refine z_getc (pc := 108) hC (hk 17 rfl) f_17_8 q314 dX0_halve_108 ?_
        refine z_iload (pc := 111) hC 4 2 rfl dX0_halve_111 ?_
        refine zs_iald (pc := 113) hC (hk 26 rfl) rfl dX0_halve_113 ?_
        refine z_istore (pc := 114) (ls1 := fun v => [(6, .inl (.int v)), (0, .inr (k, 17)), (3, .inl (.int v3)), (4, .inl (.int v4)), (5, .inl (.int v5))]) hC 6 (by decide) (fun v => rfl) dX0_halve_114 (fun v6_4 => ?_)
        refine z_aload_n (pc := 116) hC 0 rfl 1 rfl dX0_halve_116 ?_
        refine z_getc (pc := 117) hC (hk 17 rfl) f_17_2 q299 dX0_halve_117 ?_
        refine z_iload (pc := 120) hC 4 3 rfl dX0_halve_120 ?_
        refine zs_iald (pc := 122) hC (hk 20 rfl) rfl dX0_halve_122 ?_
        refine z_aload_n (pc := 123) hC 0 rfl 1 rfl dX0_halve_123 ?_
        refine z_getc (pc := 124) hC (hk 17 rfl) f_17_2 q299 dX0_halve_124 ?_
        refine z_iload_n (pc := 127) hC 3 rfl 2 rfl dX0_halve_127 ?_
        refine zs_iald (pc := 128) hC (hk 20 rfl) rfl dX0_halve_128 ?_
        refine z_icmp_lt (pc := 129) hC 145 rfl dX0_halve_129 ?_ ?_
        · exact z_sub [1, 2, 4, 0] rfl (r_De_halve_145 hC hk hk2 _ ih v3 v5 v6_4 d)
        · refine z_aload_n (pc := 132) hC 0 rfl 1 rfl dX0_halve_132 ?_
          refine z_iload (pc := 133) hC 4 3 rfl dX0_halve_133 ?_
          refine z_cvV (pc := 135) (st := []) hC y_X0_takeFromGiver q736 [.inl (.int v4)] rfl (hk 17 rfl) rfl rfl (c_X0_takeFromGiver hC.2.2.2.2.2.2.1 hk hk2) rfl ⟨rfl, rfl, (Nat.le_of_ble_eq_true rfl), (Nat.le_of_ble_eq_true rfl)⟩ (Nat.le_of_ble_eq_true rfl) dX0_halve_135 (fun r5 d6 => ?_)
          refine z_aload_n (pc := 138) hC 0 rfl 1 rfl dX0_halve_138 ?_
          refine z_iload (pc := 139) hC 4 3 rfl dX0_halve_139 ?_
          refine z_iload_n (pc := 141) hC 3 rfl 2 rfl dX0_halve_141 ?_
          refine z_cvV (pc := 142) (st := []) hC y_X0_append q740 [.inl (.int v4), .inl (.int v3)] rfl (hk 17 rfl) rfl rfl (c_X0_append hC.2.2.2.2.2.2.1 hk hk2) rfl ⟨rfl, rfl, (Nat.le_of_ble_eq_true rfl), (Nat.le_of_ble_eq_true rfl)⟩ (Nat.le_of_ble_eq_true rfl) dX0_halve_142 (fun r7 d8 => ?_)
          exact z_sub [1, 2, 4, 0] rfl (r_De_halve_145 hC hk hk2 _ ih v3 v5 v6_4 d8)
theorem r_De_halve {C : Cxt} {G : Geo} {M : Mem} {k : Nat} (hC : Cx C cX0_halve 7 "FrameHeirs$Deeds" none rm_X0_halve G) (hk : LWd G k) (hk2 : 2 ≤ k) (d : Sl) (a1 : Int32) : Rz C 7 G (setS M k) (poM avV (setS M k)) 0 [(0, .inr (k, 17)), (1, .inl (.int a1))] [] d (De_halve d a1) := by
  unfold De_halve
  refine z_iconst (pc := 0) hC (1 : Int32) rfl dX0_halve_0 ?_
  refine z_aload_n (pc := 1) hC 0 rfl 0 rfl dX0_halve_1 ?_
  refine z_getc (pc := 2) hC (hk 17 rfl) f_17_3 q302 dX0_halve_2 ?_
  refine z_iload_n (pc := 5) hC 1 rfl 1 rfl dX0_halve_5 ?_
  refine zs_iald (pc := 6) hC (hk 21 rfl) rfl dX0_halve_6 ?_
  refine z_iconst (pc := 7) hC (1 : Int32) rfl dX0_halve_7 ?_
  refine z_isub (pc := 8) hC dX0_halve_8 ?_
  refine z_ishl (pc := 9) hC dX0_halve_9 ?_
  refine z_istore_n (pc := 10) (ls1 := fun v => [(2, .inl (.int v)), (0, .inr (k, 17)), (1, .inl (.int a1))]) hC 2 rfl (by decide) (fun v => rfl) dX0_halve_10 (fun v2_9 => ?_)
  refine z_aload_n (pc := 11) hC 0 rfl 1 rfl dX0_halve_11 ?_
  refine z_getc (pc := 12) hC (hk 17 rfl) f_17_3 q302 dX0_halve_12 ?_
  refine z_iload_n (pc := 15) hC 1 rfl 2 rfl dX0_halve_15 ?_
  refine z_dup2 (pc := 16) hC rfl rfl dX0_halve_16 ?_
  refine zs_iald (pc := 17) hC (hk 21 rfl) rfl dX0_halve_17 ?_
  refine z_iconst (pc := 18) hC (1 : Int32) rfl dX0_halve_18 ?_
  refine z_isub (pc := 19) hC dX0_halve_19 ?_
  refine zs_iast (pc := 20) hC (hk 21 rfl) (by decide) rfl dX0_halve_20 (fun d10 => ?_)
  refine z_aload_n (pc := 21) hC 0 rfl 1 rfl dX0_halve_21 ?_
  refine z_aload_n (pc := 22) hC 0 rfl 1 rfl dX0_halve_22 ?_
  refine z_getc (pc := 23) hC (hk 17 rfl) f_17_0 q293 dX0_halve_23 ?_
  refine z_iload_n (pc := 26) hC 1 rfl 2 rfl dX0_halve_26 ?_
  refine zs_iald (pc := 27) hC (hk 18 rfl) rfl dX0_halve_27 ?_
  refine z_aload_n (pc := 28) hC 0 rfl 1 rfl dX0_halve_28 ?_
  refine z_getc (pc := 29) hC (hk 17 rfl) f_17_1 q295 dX0_halve_29 ?_
  refine z_iload_n (pc := 32) hC 1 rfl 2 rfl dX0_halve_32 ?_
  refine zs_iald (pc := 33) hC (hk 19 rfl) rfl dX0_halve_33 ?_
  refine z_iload_n (pc := 34) hC 2 rfl 0 rfl dX0_halve_34 ?_
  refine z_iadd (pc := 35) hC dX0_halve_35 ?_
  refine z_aload_n (pc := 36) hC 0 rfl 1 rfl dX0_halve_36 ?_
  refine z_getc (pc := 37) hC (hk 17 rfl) f_17_2 q299 dX0_halve_37 ?_
  refine z_iload_n (pc := 40) hC 1 rfl 2 rfl dX0_halve_40 ?_
  refine zs_iald (pc := 41) hC (hk 20 rfl) rfl dX0_halve_41 ?_
  refine z_iload_n (pc := 42) hC 2 rfl 0 rfl dX0_halve_42 ?_
  refine z_iadd (pc := 43) hC dX0_halve_43 ?_
  refine z_aload_n (pc := 44) hC 0 rfl 1 rfl dX0_halve_44 ?_
  refine z_getc (pc := 45) hC (hk 17 rfl) f_17_3 q302 dX0_halve_45 ?_
  refine z_iload_n (pc := 48) hC 1 rfl 2 rfl dX0_halve_48 ?_
  refine zs_iald (pc := 49) hC (hk 21 rfl) rfl dX0_halve_49 ?_
  refine z_aload_n (pc := 50) hC 0 rfl 1 rfl dX0_halve_50 ?_
  refine z_getc (pc := 51) hC (hk 17 rfl) f_17_4 q305 dX0_halve_51 ?_
  refine z_iload_n (pc := 54) hC 1 rfl 2 rfl dX0_halve_54 ?_
  refine zs_iald (pc := 55) hC (hk 22 rfl) rfl dX0_halve_55 ?_
  refine z_ciV (pc := 56) (st := []) hC y_X0_make q731 [.inl (.int (d10 18 (ix a1))), .inl (.int ((d10 19 (ix a1)) + v2_9)), .inl (.int ((d10 20 (ix a1)) + v2_9)), .inl (.int (d10 21 (ix a1))), .inl (.int (d10 22 (ix a1)))] rfl (hk 17 rfl) rfl rfl (c_X0_make hC.2.2.2.2.2.2.1 hk hk2) rfl ⟨rfl, rfl, (Nat.le_of_ble_eq_true rfl), (Nat.le_of_ble_eq_true rfl)⟩ (Nat.le_of_ble_eq_true rfl) dX0_halve_56 (fun r11 d12 => ?_)
  refine z_istore_n (pc := 59) (ls1 := fun v => [(3, .inl (.int v)), (2, .inl (.int v2_9)), (0, .inr (k, 17)), (1, .inl (.int a1))]) hC 3 rfl (by decide) (fun v => rfl) dX0_halve_59 (fun v3_13 => ?_)
  refine z_iload_n (pc := 60) hC 3 rfl 0 rfl dX0_halve_60 ?_
  refine z_if_ge (pc := 61) hC 65 rfl dX0_halve_61 ?_ ?_
  · refine z_aload_n (pc := 65) hC 0 rfl 2 rfl dX0_halve_65 ?_
    refine z_getc (pc := 66) hC (hk 17 rfl) f_17_13 q321 dX0_halve_66 ?_
    refine z_iload_n (pc := 69) hC 3 rfl 0 rfl dX0_halve_69 ?_
    refine z_aload_n (pc := 70) hC 0 rfl 2 rfl dX0_halve_70 ?_
    refine z_getc (pc := 71) hC (hk 17 rfl) f_17_13 q321 dX0_halve_71 ?_
    refine z_iload_n (pc := 74) hC 1 rfl 3 rfl dX0_halve_74 ?_
    refine zs_fald (pc := 75) hC (hk 31 rfl) rfl dX0_halve_75 ?_
    refine zs_fast (pc := 76) hC (hk 31 rfl) (by decide) rfl dX0_halve_76 (fun d14 => ?_)
    refine z_aload_n (pc := 77) hC 0 rfl 2 rfl dX0_halve_77 ?_
    refine z_iload_n (pc := 78) hC 3 rfl 0 rfl dX0_halve_78 ?_
    refine z_iload_n (pc := 79) hC 1 rfl 3 rfl dX0_halve_79 ?_
    refine z_cvV (pc := 80) (st := []) hC y_X0_putBehind q732 [.inl (.int v3_13), .inl (.int a1)] rfl (hk 17 rfl) rfl rfl (c_X0_putBehind hC.2.2.2.2.2.2.1 hk hk2) rfl ⟨rfl, rfl, (Nat.le_of_ble_eq_true rfl), (Nat.le_of_ble_eq_true rfl)⟩ (Nat.le_of_ble_eq_true rfl) dX0_halve_80 (fun r15 d16 => ?_)
    refine z_aload_n (pc := 83) hC 0 rfl 2 rfl dX0_halve_83 ?_
    refine z_getc (pc := 84) hC (hk 17 rfl) f_17_6 q311 dX0_halve_84 ?_
    refine z_iload_n (pc := 87) hC 1 rfl 3 rfl dX0_halve_87 ?_
    refine zs_iald (pc := 88) hC (hk 24 rfl) rfl dX0_halve_88 ?_
    refine z_istore (pc := 89) (ls1 := fun v => [(4, .inl (.int v)), (3, .inl (.int v3_13)), (2, .inl (.int v2_9)), (0, .inr (k, 17)), (1, .inl (.int a1))]) hC 4 (by decide) (fun v => rfl) dX0_halve_89 (fun v4_17 => ?_)
    refine z_iconst (pc := 91) hC (0 : Int32) rfl dX0_halve_91 ?_
    refine z_istore (pc := 92) (ls1 := fun v => [(5, .inl (.int v)), (4, .inl (.int v4_17)), (3, .inl (.int v3_13)), (2, .inl (.int v2_9)), (0, .inr (k, 17)), (1, .inl (.int a1))]) hC 5 (by decide) (fun v => rfl) dX0_halve_92 (fun v5_18 => ?_)
    exact z_sub [4, 2, 1, 0] rfl (r_De_halve_94 hC hk hk2 FU v3_13 v4_17 v5_18 d16)
  · exact z_vret (pc := 64) hC rfl dX0_halve_64
theorem c_X0_halve {G : Geo} {M : Mem} {k : Nat} (hG : GOk G) (hk : LWd G k) (hk2 : 2 ≤ k) {d : Sl} {a1 : Int32} (l : Launch) (r : Unit) (d1 : Sl) (h : De_halve d a1 = some (r, d1)) : Mt l yX0_halve cX0_halve 7 none rm_X0_halve G [.inr (k, 17), .inl (.int a1)] ((setS M k) d) (avV r) ((setS M k) d1) :=
  mt_of (mem := (setS M k)) (po := poM avV (setS M k)) (x0 := d) (t := (r, d1)) rfl hG [.inr (k, 17), .inl (.int a1)] (Nat.le_of_ble_eq_true rfl) rfl (fun C hC => r_De_halve hC hk hk2 d a1) h
-- FrameHeirs$Deeds.cut(III)V
abbrev rm_X0_cut : Room := { frames := 3, cells := 0, slots := 0, locals := 77 }
theorem dX0_cut_0 : decode cX0_cut 0 = .ok (.iconst 0, 1) := by decide +kernel
theorem dX0_cut_1 : decode cX0_cut 1 = .ok (.istore 4, 2) := by decide +kernel
theorem dX0_cut_3 : decode cX0_cut 3 = .ok (.iload 4, 2) := by decide +kernel
theorem dX0_cut_5 : decode cX0_cut 5 = .ok (.iconst 3, 1) := by decide +kernel
theorem dX0_cut_6 : decode cX0_cut 6 = .ok (.if_icmp .ge 66, 3) := by decide +kernel
theorem dX0_cut_9 : decode cX0_cut 9 = .ok (.aload_n 0, 1) := by decide +kernel
theorem dX0_cut_10 : decode cX0_cut 10 = .ok (.iload_n 1, 1) := by decide +kernel
theorem dX0_cut_11 : decode cX0_cut 11 = .ok (.iload_n 2, 1) := by decide +kernel
theorem dX0_cut_12 : decode cX0_cut 12 = .ok (.invokevirtual 114, 3) := by decide +kernel
theorem dX0_cut_15 : decode cX0_cut 15 = .ok (.istore 5, 2) := by decide +kernel
theorem dX0_cut_17 : decode cX0_cut 17 = .ok (.iload 5, 2) := by decide +kernel
theorem dX0_cut_19 : decode cX0_cut 19 = .ok (.ifCond .lt 14, 3) := by decide +kernel
theorem dX0_cut_22 : decode cX0_cut 22 = .ok (.aload_n 0, 1) := by decide +kernel
theorem dX0_cut_23 : decode cX0_cut 23 = .ok (.getfield 21, 3) := by decide +kernel
theorem dX0_cut_26 : decode cX0_cut 26 = .ok (.iload 5, 2) := by decide +kernel
theorem dX0_cut_28 : decode cX0_cut 28 = .ok (.iaload, 1) := by decide +kernel
theorem dX0_cut_29 : decode cX0_cut 29 = .ok (.iload_n 3, 1) := by decide +kernel
theorem dX0_cut_30 : decode cX0_cut 30 = .ok (.if_icmp .gt 4, 3) := by decide +kernel
theorem dX0_cut_33 : decode cX0_cut 33 = .ok (.return_, 1) := by decide +kernel
theorem dX0_cut_34 : decode cX0_cut 34 = .ok (.aload_n 0, 1) := by decide +kernel
theorem dX0_cut_35 : decode cX0_cut 35 = .ok (.iload 5, 2) := by decide +kernel
theorem dX0_cut_37 : decode cX0_cut 37 = .ok (.invokevirtual 117, 3) := by decide +kernel
theorem dX0_cut_40 : decode cX0_cut 40 = .ok (.iconst 1, 1) := by decide +kernel
theorem dX0_cut_41 : decode cX0_cut 41 = .ok (.isub, 1) := by decide +kernel
theorem dX0_cut_42 : decode cX0_cut 42 = .ok (.istore 6, 2) := by decide +kernel
theorem dX0_cut_44 : decode cX0_cut 44 = .ok (.iload 6, 2) := by decide +kernel
theorem dX0_cut_46 : decode cX0_cut 46 = .ok (.ifCond .lt 20, 3) := by decide +kernel
theorem dX0_cut_49 : decode cX0_cut 49 = .ok (.aload_n 0, 1) := by decide +kernel
theorem dX0_cut_50 : decode cX0_cut 50 = .ok (.aload_n 0, 1) := by decide +kernel
theorem dX0_cut_51 : decode cX0_cut 51 = .ok (.getfield 58, 3) := by decide +kernel
theorem dX0_cut_54 : decode cX0_cut 54 = .ok (.iload 6, 2) := by decide +kernel
theorem dX0_cut_56 : decode cX0_cut 56 = .ok (.iaload, 1) := by decide +kernel
theorem dX0_cut_57 : decode cX0_cut 57 = .ok (.invokevirtual 120, 3) := by decide +kernel
theorem dX0_cut_60 : decode cX0_cut 60 = .ok (.iinc 6 (-1), 3) := by decide +kernel
theorem dX0_cut_63 : decode cX0_cut 63 = .ok (.goto (-19), 3) := by decide +kernel
theorem dX0_cut_66 : decode cX0_cut 66 = .ok (.iinc 4 1, 3) := by decide +kernel
theorem dX0_cut_69 : decode cX0_cut 69 = .ok (.goto (-66), 3) := by decide +kernel
theorem dX0_cut_72 : decode cX0_cut 72 = .ok (.return_, 1) := by decide +kernel
def De_cut_44 (k3 : Int32 → Int32 → Int32 → Int32 → Sl → Option (Unit × Sl)) : Nat → Int32 → Int32 → Int32 → Int32 → Int32 → Sl → Option (Unit × Sl)
  | 0, _, _, _, _, _, _ => none
  | n + 1, v1, v2, v3, v4, v6, d =>
    if v6 < 0 then
      (bnd (v4 + (1 : Int32)) fun v4_1 =>
      k3 v1 v2 v3 v4_1 d)
    else
      (if inb v6 192 then
      bd (De_halve d (d 33 (ix v6))) fun r2 d3 =>
      bnd (v6 + (-1 : Int32)) fun v6_4 =>
      De_cut_44 k3 n v1 v2 v3 v4 v6_4 d3
      else none)
def De_cut_3 : Nat → Int32 → Int32 → Int32 → Int32 → Sl → Option (Unit × Sl)
  | 0, _, _, _, _, _ => none
  | n + 1, v1, v2, v3, v4, d =>
    if (3 : Int32) ≤ v4 then
      (some ((), d))
    else
      (bp (De_find d v1 v2) fun r5 =>
      bnd r5 fun v5_6 =>
      if v5_6 < 0 then
        (some ((), d))
      else
        (if inb v5_6 192 then
        if v3 < (d 21 (ix v5_6)) then
          (bd (De_listAlike d v5_6) fun r7 d8 =>
          bnd (r7 - (1 : Int32)) fun v6_9 =>
          De_cut_44 (De_cut_3 n) FU v1 v2 v3 v4 v6_9 d8)
        else
          (some ((), d))
        else none))
def De_cut (d : Sl) (a1 : Int32) (a2 : Int32) (a3 : Int32) : Option (Unit × Sl) :=
  bnd (0 : Int32) fun v4_10 =>
  De_cut_3 FU a1 a2 a3 v4_10 d
theorem y_X0_cut : YV yX0_cut cX0_cut 7 none 3 := ⟨q719, q720, q721, q147, by decide +kernel, by decide +kernel, by decide +kernel, by decide +kernel⟩
theorem r_De_cut_44 {C : Cxt} {G : Geo} {M : Mem} {k : Nat} (hC : Cx C cX0_cut 7 "FrameHeirs$Deeds" none rm_X0_cut G) (hk : LWd G k) (hk2 : 2 ≤ k) (k3 : Int32 → Int32 → Int32 → Int32 → Sl → Option (Unit × Sl)) (h3 : ∀ (v1 : Int32) (v2 : Int32) (v3 : Int32) (v4 : Int32) (d : Sl), Rz C 7 G (setS M k) (poM avV (setS M k)) 3 [(0, .inr (k, 17)), (1, .inl (.int v1)), (2, .inl (.int v2)), (3, .inl (.int v3)), (4, .inl (.int v4))] [] d (k3 v1 v2 v3 v4 d)) : ∀ (n : Nat) (v1 : Int32) (v2 : Int32) (v3 : Int32) (v4 : Int32) (v6 : Int32) (d : Sl), Rz C 7 G (setS M k) (poM avV (setS M k)) 44 [(0, .inr (k, 17)), (1, .inl (.int v1)), (2, .inl (.int v2)), (3, .inl (.int v3)), (4, .inl (.int v4)), (6, .inl (.int v6))] [] d (De_cut_44 k3 n v1 v2 v3 v4 v6 d) := by
  intro n
  induction n with
  | zero => intros; exact z_none
  | succ n ih =>
    intro v1 v2 v3 v4 v6 d
    rw [De_cut_44]
    refine z_iload (pc := 44) hC 6 5 rfl dX0_cut_44 ?_
    refine z_if_lt (pc := 46) hC 66 rfl dX0_cut_46 ?_ ?_
    · refine z_iinc (pc := 66) (ls1 := fun v => [(4, .inl (.int v)), (0, .inr (k, 17)), (1, .inl (.int v1)), (2, .inl (.int v2)), (3, .inl (.int v3)), (6, .inl (.int v6))]) hC 4 4 (by decide) (1 : Int32) rfl rfl (fun v => rfl) dX0_cut_66 (fun v4_1 => ?_)
      refine z_goto (pc := 69) hC 3 rfl dX0_cut_69 ?_
      exact z_sub [1, 2, 3, 4, 0] rfl (h3 v1 v2 v3 v4_1 d)
    · refine z_aload_n (pc := 49) hC 0 rfl 0 rfl dX0_cut_49 ?_
      refine z_aload_n (pc := 50) hC 0 rfl 0 rfl dX0_cut_50 ?_
      refine z_getc (pc := 51) hC (hk 17 rfl) f_17_15 q325 dX0_cut_51 ?_
      refine z_iload (pc := 54) hC 6 5 rfl dX0_cut_54 ?_
      refine zs_iald (pc := 56) hC (hk 33 rfl) rfl dX0_cut_56 ?_
      refine z_cvV (pc := 57) (st := []) hC y_X0_halve q727 [.inl (.int (d 33 (ix v6)))] rfl (hk 17 rfl) rfl rfl (c_X0_halve hC.2.2.2.2.2.2.1 hk hk2) rfl ⟨rfl, rfl, (Nat.le_of_ble_eq_true rfl), (Nat.le_of_ble_eq_true rfl)⟩ (Nat.le_of_ble_eq_true rfl) dX0_cut_57 (fun r2 d3 => ?_)
      refine z_iinc (pc := 60) (ls1 := fun v => [(6, .inl (.int v)), (0, .inr (k, 17)), (1, .inl (.int v1)), (2, .inl (.int v2)), (3, .inl (.int v3)), (4, .inl (.int v4))]) hC 6 5 (by decide) (-1 : Int32) rfl rfl (fun v => rfl) dX0_cut_60 (fun v6_4 => ?_)
      refine z_goto (pc := 63) hC 44 rfl dX0_cut_63 ?_
      exact z_sub [1, 2, 3, 4, 5, 0] rfl (ih v1 v2 v3 v4 v6_4 d3)
theorem r_De_cut_3 {C : Cxt} {G : Geo} {M : Mem} {k : Nat} (hC : Cx C cX0_cut 7 "FrameHeirs$Deeds" none rm_X0_cut G) (hk : LWd G k) (hk2 : 2 ≤ k) : ∀ (n : Nat) (v1 : Int32) (v2 : Int32) (v3 : Int32) (v4 : Int32) (d : Sl), Rz C 7 G (setS M k) (poM avV (setS M k)) 3 [(0, .inr (k, 17)), (1, .inl (.int v1)), (2, .inl (.int v2)), (3, .inl (.int v3)), (4, .inl (.int v4))] [] d (De_cut_3 n v1 v2 v3 v4 d) := by
  intro n
  induction n with
  | zero => intros; exact z_none
  | succ n ih =>
    intro v1 v2 v3 v4 d
    rw [De_cut_3]
    refine z_iload (pc := 3) hC 4 4 rfl dX0_cut_3 ?_
    refine z_iconst (pc := 5) hC (3 : Int32) rfl dX0_cut_5 ?_
    refine z_icmp_ge (pc := 6) hC 72 rfl dX0_cut_6 ?_ ?_
    · exact z_vret (pc := 72) hC rfl dX0_cut_72
    · refine z_aload_n (pc := 9) hC 0 rfl 0 rfl dX0_cut_9 ?_
      refine z_iload_n (pc := 10) hC 1 rfl 1 rfl dX0_cut_10 ?_
      refine z_iload_n (pc := 11) hC 2 rfl 2 rfl dX0_cut_11 ?_
      refine z_piV (pc := 12) (st := []) hC y_X0_find q722 [.inl (.int v1), .inl (.int v2)] rfl (hk 17 rfl) rfl rfl (c_X0_find hC.2.2.2.2.2.2.1 hk hk2) rfl ⟨rfl, rfl, (Nat.le_of_ble_eq_true rfl), (Nat.le_of_ble_eq_true rfl)⟩ (Nat.le_of_ble_eq_true rfl) dX0_cut_12 (fun r5 => ?_)
      refine z_istore (pc := 15) (ls1 := fun v => [(5, .inl (.int v)), (0, .inr (k, 17)), (1, .inl (.int v1)), (2, .inl (.int v2)), (3, .inl (.int v3)), (4, .inl (.int v4))]) hC 5 (by decide) (fun v => rfl) dX0_cut_15 (fun v5_6 => ?_)
      refine z_iload (pc := 17) hC 5 0 rfl dX0_cut_17 ?_
      refine z_if_lt (pc := 19) hC 33 rfl dX0_cut_19 ?_ ?_
      · exact z_vret (pc := 33) hC rfl dX0_cut_33
      · refine z_aload_n (pc := 22) hC 0 rfl 1 rfl dX0_cut_22 ?_
        refine z_getc (pc := 23) hC (hk 17 rfl) f_17_3 q302 dX0_cut_23 ?_
        refine z_iload (pc := 26) hC 5 0 rfl dX0_cut_26 ?_
        refine zs_iald (pc := 28) hC (hk 21 rfl) rfl dX0_cut_28 ?_
        refine z_iload_n (pc := 29) hC 3 rfl 4 rfl dX0_cut_29 ?_
        refine z_icmp_gt (pc := 30) hC 34 rfl dX0_cut_30 ?_ ?_
        · refine z_aload_n (pc := 34) hC 0 rfl 1 rfl dX0_cut_34 ?_
          refine z_iload (pc := 35) hC 5 0 rfl dX0_cut_35 ?_
          refine z_ciV (pc := 37) (st := []) hC y_X0_listAlike q723 [.inl (.int v5_6)] rfl (hk 17 rfl) rfl rfl (c_X0_listAlike hC.2.2.2.2.2.2.1 hk hk2) rfl ⟨rfl, rfl, (Nat.le_of_ble_eq_true rfl), (Nat.le_of_ble_eq_true rfl)⟩ (Nat.le_of_ble_eq_true rfl) dX0_cut_37 (fun r7 d8 => ?_)
          refine z_iconst (pc := 40) hC (1 : Int32) rfl dX0_cut_40 ?_
          refine z_isub (pc := 41) hC dX0_cut_41 ?_
          refine z_istore (pc := 42) (ls1 := fun v => [(6, .inl (.int v)), (5, .inl (.int v5_6)), (0, .inr (k, 17)), (1, .inl (.int v1)), (2, .inl (.int v2)), (3, .inl (.int v3)), (4, .inl (.int v4))]) hC 6 (by decide) (fun v => rfl) dX0_cut_42 (fun v6_9 => ?_)
          exact z_sub [2, 3, 4, 5, 6, 0] rfl (r_De_cut_44 hC hk hk2 _ ih FU v1 v2 v3 v4 v6_9 d8)
        · exact z_vret (pc := 33) hC rfl dX0_cut_33
theorem r_De_cut {C : Cxt} {G : Geo} {M : Mem} {k : Nat} (hC : Cx C cX0_cut 7 "FrameHeirs$Deeds" none rm_X0_cut G) (hk : LWd G k) (hk2 : 2 ≤ k) (d : Sl) (a1 : Int32) (a2 : Int32) (a3 : Int32) : Rz C 7 G (setS M k) (poM avV (setS M k)) 0 [(0, .inr (k, 17)), (1, .inl (.int a1)), (2, .inl (.int a2)), (3, .inl (.int a3))] [] d (De_cut d a1 a2 a3) := by
  unfold De_cut
  refine z_iconst (pc := 0) hC (0 : Int32) rfl dX0_cut_0 ?_
  refine z_istore (pc := 1) (ls1 := fun v => [(4, .inl (.int v)), (0, .inr (k, 17)), (1, .inl (.int a1)), (2, .inl (.int a2)), (3, .inl (.int a3))]) hC 4 (by decide) (fun v => rfl) dX0_cut_1 (fun v4_10 => ?_)
  exact z_sub [1, 2, 3, 4, 0] rfl (r_De_cut_3 hC hk hk2 FU a1 a2 a3 v4_10 d)
theorem c_X0_cut {G : Geo} {M : Mem} {k : Nat} (hG : GOk G) (hk : LWd G k) (hk2 : 2 ≤ k) {d : Sl} {a1 : Int32} {a2 : Int32} {a3 : Int32} (l : Launch) (r : Unit) (d1 : Sl) (h : De_cut d a1 a2 a3 = some (r, d1)) : Mt l yX0_cut cX0_cut 7 none rm_X0_cut G [.inr (k, 17), .inl (.int a1), .inl (.int a2), .inl (.int a3)] ((setS M k) d) (avV r) ((setS M k) d1) :=
  mt_of (mem := (setS M k)) (po := poM avV (setS M k)) (x0 := d) (t := (r, d1)) rfl hG [.inr (k, 17), .inl (.int a1), .inl (.int a2), .inl (.int a3)] (Nat.le_of_ble_eq_true rfl) rfl (fun C hC => r_De_cut hC hk hk2 d a1 a2 a3) h
-- FrameHeirs$Deeds.isBusy(I)Z
abbrev rm_X0_isBusy : Room := { frames := 0, cells := 0, slots := 0, locals := 0 }
theorem dX0_isBusy_0 : decode cX0_isBusy 0 = .ok (.iload_n 1, 1) := by decide +kernel
theorem dX0_isBusy_1 : decode cX0_isBusy 1 = .ok (.istore_n 2, 1) := by decide +kernel
theorem dX0_isBusy_2 : decode cX0_isBusy 2 = .ok (.iconst 0, 1) := by decide +kernel
theorem dX0_isBusy_3 : decode cX0_isBusy 3 = .ok (.istore_n 3, 1) := by decide +kernel
theorem dX0_isBusy_4 : decode cX0_isBusy 4 = .ok (.iload_n 3, 1) := by decide +kernel
theorem dX0_isBusy_5 : decode cX0_isBusy 5 = .ok (.sipush 192, 3) := by decide +kernel
theorem dX0_isBusy_8 : decode cX0_isBusy 8 = .ok (.if_icmp .ge 38, 3) := by decide +kernel
theorem dX0_isBusy_11 : decode cX0_isBusy 11 = .ok (.iload_n 2, 1) := by decide +kernel
theorem dX0_isBusy_12 : decode cX0_isBusy 12 = .ok (.ifCond .lt 34, 3) := by decide +kernel
theorem dX0_isBusy_15 : decode cX0_isBusy 15 = .ok (.aload_n 0, 1) := by decide +kernel
theorem dX0_isBusy_16 : decode cX0_isBusy 16 = .ok (.getfield 68, 3) := by decide +kernel
theorem dX0_isBusy_19 : decode cX0_isBusy 19 = .ok (.ifCond .le 27, 3) := by decide +kernel
theorem dX0_isBusy_22 : decode cX0_isBusy 22 = .ok (.aload_n 0, 1) := by decide +kernel
theorem dX0_isBusy_23 : decode cX0_isBusy 23 = .ok (.getfield 42, 3) := by decide +kernel
theorem dX0_isBusy_26 : decode cX0_isBusy 26 = .ok (.iload_n 2, 1) := by decide +kernel
theorem dX0_isBusy_27 : decode cX0_isBusy 27 = .ok (.iaload, 1) := by decide +kernel
theorem dX0_isBusy_28 : decode cX0_isBusy 28 = .ok (.ifCond .eq 5, 3) := by decide +kernel
theorem dX0_isBusy_31 : decode cX0_isBusy 31 = .ok (.iconst 1, 1) := by decide +kernel
theorem dX0_isBusy_32 : decode cX0_isBusy 32 = .ok (.ireturn, 1) := by decide +kernel
theorem dX0_isBusy_33 : decode cX0_isBusy 33 = .ok (.aload_n 0, 1) := by decide +kernel
theorem dX0_isBusy_34 : decode cX0_isBusy 34 = .ok (.getfield 27, 3) := by decide +kernel
theorem dX0_isBusy_37 : decode cX0_isBusy 37 = .ok (.iload_n 2, 1) := by decide +kernel
theorem dX0_isBusy_38 : decode cX0_isBusy 38 = .ok (.iaload, 1) := by decide +kernel
theorem dX0_isBusy_39 : decode cX0_isBusy 39 = .ok (.istore_n 2, 1) := by decide +kernel
theorem dX0_isBusy_40 : decode cX0_isBusy 40 = .ok (.iinc 3 1, 3) := by decide +kernel
theorem dX0_isBusy_43 : decode cX0_isBusy 43 = .ok (.goto (-39), 3) := by decide +kernel
theorem dX0_isBusy_46 : decode cX0_isBusy 46 = .ok (.iconst 0, 1) := by decide +kernel
theorem dX0_isBusy_47 : decode cX0_isBusy 47 = .ok (.ireturn, 1) := by decide +kernel
def De_isBusy_4 (d : Sl) : Nat → Int32 → Int32 → Option Int32
  | 0, _, _ => none
  | n + 1, v2, v3 =>
    if (192 : Int32) ≤ v3 then
      (some (0 : Int32))
    else
      (if v2 < 0 then
        (some (0 : Int32))
      else
        (if (d 17 18) ≤ 0 then
          (some (0 : Int32))
        else
          (if inb v2 192 then
          if (d 28 (ix v2)) = 0 then
            (if inb v2 192 then
            bnd (d 23 (ix v2)) fun v2_1 =>
            bnd (v3 + (1 : Int32)) fun v3_2 =>
            De_isBusy_4 d n v2_1 v3_2
            else none)
          else
            (some (1 : Int32))
          else none)))
def De_isBusy (d : Sl) (a1 : Int32) : Option Int32 :=
  bnd a1 fun v2_3 =>
  bnd (0 : Int32) fun v3_4 =>
  De_isBusy_4 d FU v2_3 v3_4
theorem y_X0_isBusy : YV yX0_isBusy cX0_isBusy 4 (some .boolean) 1 := ⟨q660, q661, q662, q147, by decide +kernel, by decide +kernel, by decide +kernel, by decide +kernel⟩
theorem r_De_isBusy_4 {C : Cxt} {G : Geo} {M : Mem} {k : Nat} {d : Sl} (hC : Cx C cX0_isBusy 4 "FrameHeirs$Deeds" (some .boolean) rm_X0_isBusy G) (hk : LWd G k) (hk2 : 2 ≤ k) : ∀ (n : Nat) (v2 : Int32) (v3 : Int32), Rz C 4 G (setS M k) (poP avI ((setS M k) d)) 4 [(0, .inr (k, 17)), (2, .inl (.int v2)), (3, .inl (.int v3))] [] d (De_isBusy_4 d n v2 v3) := by
  intro n
  induction n with
  | zero => intros; exact z_none
  | succ n ih =>
    intro v2 v3
    rw [De_isBusy_4]
    refine z_iload_n (pc := 4) hC 3 rfl 2 rfl dX0_isBusy_4 ?_
    refine z_sipush (pc := 5) hC (192 : Int32) rfl dX0_isBusy_5 ?_
    refine z_icmp_ge (pc := 8) hC 46 rfl dX0_isBusy_8 ?_ ?_
    · refine z_iconst (pc := 46) hC (0 : Int32) rfl dX0_isBusy_46 ?_
      exact z_zret (pc := 47) hC rfl rfl dX0_isBusy_47
    · refine z_iload_n (pc := 11) hC 2 rfl 1 rfl dX0_isBusy_11 ?_
      refine z_if_lt (pc := 12) hC 46 rfl dX0_isBusy_12 ?_ ?_
      · refine z_iconst (pc := 46) hC (0 : Int32) rfl dX0_isBusy_46 ?_
        exact z_zret (pc := 47) hC rfl rfl dX0_isBusy_47
      · refine z_aload_n (pc := 15) hC 0 rfl 0 rfl dX0_isBusy_15 ?_
        refine zs_geti (pc := 16) hC (hk 17 rfl) f_17_18 q331 dX0_isBusy_16 ?_
        refine z_if_le (pc := 19) hC 46 rfl dX0_isBusy_19 ?_ ?_
        · refine z_iconst (pc := 46) hC (0 : Int32) rfl dX0_isBusy_46 ?_
          exact z_zret (pc := 47) hC rfl rfl dX0_isBusy_47
        · refine z_aload_n (pc := 22) hC 0 rfl 0 rfl dX0_isBusy_22 ?_
          refine z_getc (pc := 23) hC (hk 17 rfl) f_17_10 q317 dX0_isBusy_23 ?_
          refine z_iload_n (pc := 26) hC 2 rfl 1 rfl dX0_isBusy_26 ?_
          refine zs_iald (pc := 27) hC (hk 28 rfl) rfl dX0_isBusy_27 ?_
          refine z_if_eq (pc := 28) hC 33 rfl dX0_isBusy_28 ?_ ?_
          · refine z_aload_n (pc := 33) hC 0 rfl 0 rfl dX0_isBusy_33 ?_
            refine z_getc (pc := 34) hC (hk 17 rfl) f_17_5 q308 dX0_isBusy_34 ?_
            refine z_iload_n (pc := 37) hC 2 rfl 1 rfl dX0_isBusy_37 ?_
            refine zs_iald (pc := 38) hC (hk 23 rfl) rfl dX0_isBusy_38 ?_
            refine z_istore_n (pc := 39) (ls1 := fun v => [(2, .inl (.int v)), (0, .inr (k, 17)), (3, .inl (.int v3))]) hC 2 rfl (by decide) (fun v => rfl) dX0_isBusy_39 (fun v2_1 => ?_)
            refine z_iinc (pc := 40) (ls1 := fun v => [(3, .inl (.int v)), (2, .inl (.int v2_1)), (0, .inr (k, 17))]) hC 3 2 (by decide) (1 : Int32) rfl rfl (fun v => rfl) dX0_isBusy_40 (fun v3_2 => ?_)
            refine z_goto (pc := 43) hC 4 rfl dX0_isBusy_43 ?_
            exact z_sub [2, 1, 0] rfl (ih v2_1 v3_2)
          · refine z_iconst (pc := 31) hC (1 : Int32) rfl dX0_isBusy_31 ?_
            exact z_zret (pc := 32) hC rfl rfl dX0_isBusy_32
theorem r_De_isBusy {C : Cxt} {G : Geo} {M : Mem} {k : Nat} (hC : Cx C cX0_isBusy 4 "FrameHeirs$Deeds" (some .boolean) rm_X0_isBusy G) (hk : LWd G k) (hk2 : 2 ≤ k) (d : Sl) (a1 : Int32) : Rz C 4 G (setS M k) (poP avI ((setS M k) d)) 0 [(0, .inr (k, 17)), (1, .inl (.int a1))] [] d (De_isBusy d a1) := by
  unfold De_isBusy
  refine z_iload_n (pc := 0) hC 1 rfl 1 rfl dX0_isBusy_0 ?_
  refine z_istore_n (pc := 1) (ls1 := fun v => [(2, .inl (.int v)), (0, .inr (k, 17)), (1, .inl (.int a1))]) hC 2 rfl (by decide) (fun v => rfl) dX0_isBusy_1 (fun v2_3 => ?_)
  refine z_iconst (pc := 2) hC (0 : Int32) rfl dX0_isBusy_2 ?_
  refine z_istore_n (pc := 3) (ls1 := fun v => [(3, .inl (.int v)), (2, .inl (.int v2_3)), (0, .inr (k, 17)), (1, .inl (.int a1))]) hC 3 rfl (by decide) (fun v => rfl) dX0_isBusy_3 (fun v3_4 => ?_)
  exact z_sub [2, 1, 0] rfl (r_De_isBusy_4 hC hk hk2 FU v2_3 v3_4)
theorem c_X0_isBusy {G : Geo} {M : Mem} {k : Nat} (hG : GOk G) (hk : LWd G k) (hk2 : 2 ≤ k) {d : Sl} {a1 : Int32} (l : Launch) (r : Int32) (h : De_isBusy d a1 = some r) : Mt l yX0_isBusy cX0_isBusy 4 (some .boolean) rm_X0_isBusy G [.inr (k, 17), .inl (.int a1)] ((setS M k) d) (avI r) ((setS M k) d) :=
  mt_of (mem := (setS M k)) (po := poP avI ((setS M k) d)) (x0 := d) (t := r) rfl hG [.inr (k, 17), .inl (.int a1)] (Nat.le_of_ble_eq_true rfl) rfl (fun C hC => r_De_isBusy hC hk hk2 d a1) h
-- FrameHeirs$Deeds.areHalves(III)Z
abbrev rm_X0_areHalves : Room := { frames := 1, cells := 0, slots := 0, locals := 23 }
theorem dX0_areHalves_0 : decode cX0_areHalves 0 = .ok (.iconst 1, 1) := by decide +kernel
theorem dX0_areHalves_1 : decode cX0_areHalves 1 = .ok (.iload_n 3, 1) := by decide +kernel
theorem dX0_areHalves_2 : decode cX0_areHalves 2 = .ok (.ishl, 1) := by decide +kernel
theorem dX0_areHalves_3 : decode cX0_areHalves 3 = .ok (.istore 4, 2) := by decide +kernel
theorem dX0_areHalves_5 : decode cX0_areHalves 5 = .ok (.aload_n 0, 1) := by decide +kernel
theorem dX0_areHalves_6 : decode cX0_areHalves 6 = .ok (.getfield 21, 3) := by decide +kernel
theorem dX0_areHalves_9 : decode cX0_areHalves 9 = .ok (.iload_n 1, 1) := by decide +kernel
theorem dX0_areHalves_10 : decode cX0_areHalves 10 = .ok (.iaload, 1) := by decide +kernel
theorem dX0_areHalves_11 : decode cX0_areHalves 11 = .ok (.iload_n 3, 1) := by decide +kernel
theorem dX0_areHalves_12 : decode cX0_areHalves 12 = .ok (.if_icmp .ne 97, 3) := by decide +kernel
theorem dX0_areHalves_15 : decode cX0_areHalves 15 = .ok (.aload_n 0, 1) := by decide +kernel
theorem dX0_areHalves_16 : decode cX0_areHalves 16 = .ok (.getfield 21, 3) := by decide +kernel
theorem dX0_areHalves_19 : decode cX0_areHalves 19 = .ok (.iload_n 2, 1) := by decide +kernel
theorem dX0_areHalves_20 : decode cX0_areHalves 20 = .ok (.iaload, 1) := by decide +kernel
theorem dX0_areHalves_21 : decode cX0_areHalves 21 = .ok (.iload_n 3, 1) := by decide +kernel
theorem dX0_areHalves_22 : decode cX0_areHalves 22 = .ok (.if_icmp .ne 87, 3) := by decide +kernel
theorem dX0_areHalves_25 : decode cX0_areHalves 25 = .ok (.aload_n 0, 1) := by decide +kernel
theorem dX0_areHalves_26 : decode cX0_areHalves 26 = .ok (.getfield 18, 3) := by decide +kernel
theorem dX0_areHalves_29 : decode cX0_areHalves 29 = .ok (.iload_n 1, 1) := by decide +kernel
theorem dX0_areHalves_30 : decode cX0_areHalves 30 = .ok (.iaload, 1) := by decide +kernel
theorem dX0_areHalves_31 : decode cX0_areHalves 31 = .ok (.iconst 2, 1) := by decide +kernel
theorem dX0_areHalves_32 : decode cX0_areHalves 32 = .ok (.iload 4, 2) := by decide +kernel
theorem dX0_areHalves_34 : decode cX0_areHalves 34 = .ok (.imul, 1) := by decide +kernel
theorem dX0_areHalves_35 : decode cX0_areHalves 35 = .ok (.iconst 1, 1) := by decide +kernel
theorem dX0_areHalves_36 : decode cX0_areHalves 36 = .ok (.isub, 1) := by decide +kernel
theorem dX0_areHalves_37 : decode cX0_areHalves 37 = .ok (.iand, 1) := by decide +kernel
theorem dX0_areHalves_38 : decode cX0_areHalves 38 = .ok (.ifCond .ne 71, 3) := by decide +kernel
theorem dX0_areHalves_41 : decode cX0_areHalves 41 = .ok (.aload_n 0, 1) := by decide +kernel
theorem dX0_areHalves_42 : decode cX0_areHalves 42 = .ok (.getfield 18, 3) := by decide +kernel
theorem dX0_areHalves_45 : decode cX0_areHalves 45 = .ok (.iload_n 2, 1) := by decide +kernel
theorem dX0_areHalves_46 : decode cX0_areHalves 46 = .ok (.iaload, 1) := by decide +kernel
theorem dX0_areHalves_47 : decode cX0_areHalves 47 = .ok (.aload_n 0, 1) := by decide +kernel
theorem dX0_areHalves_48 : decode cX0_areHalves 48 = .ok (.getfield 18, 3) := by decide +kernel
theorem dX0_areHalves_51 : decode cX0_areHalves 51 = .ok (.iload_n 1, 1) := by decide +kernel
theorem dX0_areHalves_52 : decode cX0_areHalves 52 = .ok (.iaload, 1) := by decide +kernel
theorem dX0_areHalves_53 : decode cX0_areHalves 53 = .ok (.iload 4, 2) := by decide +kernel
theorem dX0_areHalves_55 : decode cX0_areHalves 55 = .ok (.iadd, 1) := by decide +kernel
theorem dX0_areHalves_56 : decode cX0_areHalves 56 = .ok (.if_icmp .ne 53, 3) := by decide +kernel
theorem dX0_areHalves_59 : decode cX0_areHalves 59 = .ok (.aload_n 0, 1) := by decide +kernel
theorem dX0_areHalves_60 : decode cX0_areHalves 60 = .ok (.getfield 24, 3) := by decide +kernel
theorem dX0_areHalves_63 : decode cX0_areHalves 63 = .ok (.iload_n 1, 1) := by decide +kernel
theorem dX0_areHalves_64 : decode cX0_areHalves 64 = .ok (.iaload, 1) := by decide +kernel
theorem dX0_areHalves_65 : decode cX0_areHalves 65 = .ok (.aload_n 0, 1) := by decide +kernel
theorem dX0_areHalves_66 : decode cX0_areHalves 66 = .ok (.getfield 24, 3) := by decide +kernel
theorem dX0_areHalves_69 : decode cX0_areHalves 69 = .ok (.iload_n 2, 1) := by decide +kernel
theorem dX0_areHalves_70 : decode cX0_areHalves 70 = .ok (.iaload, 1) := by decide +kernel
theorem dX0_areHalves_71 : decode cX0_areHalves 71 = .ok (.if_icmp .ne 38, 3) := by decide +kernel
theorem dX0_areHalves_74 : decode cX0_areHalves 74 = .ok (.aload_n 0, 1) := by decide +kernel
theorem dX0_areHalves_75 : decode cX0_areHalves 75 = .ok (.getfield 27, 3) := by decide +kernel
theorem dX0_areHalves_78 : decode cX0_areHalves 78 = .ok (.iload_n 1, 1) := by decide +kernel
theorem dX0_areHalves_79 : decode cX0_areHalves 79 = .ok (.iaload, 1) := by decide +kernel
theorem dX0_areHalves_80 : decode cX0_areHalves 80 = .ok (.aload_n 0, 1) := by decide +kernel
theorem dX0_areHalves_81 : decode cX0_areHalves 81 = .ok (.getfield 27, 3) := by decide +kernel
theorem dX0_areHalves_84 : decode cX0_areHalves 84 = .ok (.iload_n 2, 1) := by decide +kernel
theorem dX0_areHalves_85 : decode cX0_areHalves 85 = .ok (.iaload, 1) := by decide +kernel
theorem dX0_areHalves_86 : decode cX0_areHalves 86 = .ok (.if_icmp .ne 23, 3) := by decide +kernel
theorem dX0_areHalves_89 : decode cX0_areHalves 89 = .ok (.aload_n 0, 1) := by decide +kernel
theorem dX0_areHalves_90 : decode cX0_areHalves 90 = .ok (.iload_n 1, 1) := by decide +kernel
theorem dX0_areHalves_91 : decode cX0_areHalves 91 = .ok (.invokevirtual 140, 3) := by decide +kernel
theorem dX0_areHalves_94 : decode cX0_areHalves 94 = .ok (.ifCond .ne 15, 3) := by decide +kernel
theorem dX0_areHalves_97 : decode cX0_areHalves 97 = .ok (.aload_n 0, 1) := by decide +kernel
theorem dX0_areHalves_98 : decode cX0_areHalves 98 = .ok (.iload_n 2, 1) := by decide +kernel
theorem dX0_areHalves_99 : decode cX0_areHalves 99 = .ok (.invokevirtual 140, 3) := by decide +kernel
theorem dX0_areHalves_102 : decode cX0_areHalves 102 = .ok (.ifCond .ne 7, 3) := by decide +kernel
theorem dX0_areHalves_105 : decode cX0_areHalves 105 = .ok (.iconst 1, 1) := by decide +kernel
theorem dX0_areHalves_106 : decode cX0_areHalves 106 = .ok (.goto 4, 3) := by decide +kernel
theorem dX0_areHalves_109 : decode cX0_areHalves 109 = .ok (.iconst 0, 1) := by decide +kernel
theorem dX0_areHalves_110 : decode cX0_areHalves 110 = .ok (.ireturn, 1) := by decide +kernel
def De_areHalves (d : Sl) (a1 : Int32) (a2 : Int32) (a3 : Int32) : Option Int32 :=
  bnd ((1 : Int32) <<< (a3 &&& 31)) fun v4_1 =>
  if inb a1 192 then
  if (d 21 (ix a1)) = a3 then
    (if inb a2 192 then
    if (d 21 (ix a2)) = a3 then
      (if inb a1 192 then
      if ((d 20 (ix a1)) &&& (((2 : Int32) * v4_1) - (1 : Int32))) = 0 then
        (if inb a2 192 then
        if inb a1 192 then
        if (d 20 (ix a2)) = ((d 20 (ix a1)) + v4_1) then
          (if inb a1 192 then
          if inb a2 192 then
          if (d 22 (ix a1)) = (d 22 (ix a2)) then
            (if inb a1 192 then
            if inb a2 192 then
            if (d 23 (ix a1)) = (d 23 (ix a2)) then
              (bp (De_isBusy d a1) fun r2 =>
              if r2 = 0 then
                (bp (De_isBusy d a2) fun r3 =>
                if r3 = 0 then
                  (some (1 : Int32))
                else
                  (some (0 : Int32)))
              else
                (some (0 : Int32)))
            else
              (some (0 : Int32))
            else none
            else none)
          else
            (some (0 : Int32))
          else none
          else none)
        else
          (some (0 : Int32))
        else none
        else none)
      else
        (some (0 : Int32))
      else none)
    else
      (some (0 : Int32))
    else none)
  else
    (some (0 : Int32))
  else none
theorem y_X0_areHalves : YV yX0_areHalves cX0_areHalves 5 (some .boolean) 3 := ⟨q895, q37, q896, q147, by decide +kernel, by decide +kernel, by decide +kernel, by decide +kernel⟩
theorem r_De_areHalves {C : Cxt} {G : Geo} {M : Mem} {k : Nat} (hC : Cx C cX0_areHalves 5 "FrameHeirs$Deeds" (some .boolean) rm_X0_areHalves G) (hk : LWd G k) (hk2 : 2 ≤ k) (d : Sl) (a1 : Int32) (a2 : Int32) (a3 : Int32) : Rz C 5 G (setS M k) (poP avI ((setS M k) d)) 0 [(0, .inr (k, 17)), (1, .inl (.int a1)), (2, .inl (.int a2)), (3, .inl (.int a3))] [] d (De_areHalves d a1 a2 a3) := by
  unfold De_areHalves
  refine z_iconst (pc := 0) hC (1 : Int32) rfl dX0_areHalves_0 ?_
  refine z_iload_n (pc := 1) hC 3 rfl 3 rfl dX0_areHalves_1 ?_
  refine z_ishl (pc := 2) hC dX0_areHalves_2 ?_
  refine z_istore (pc := 3) (ls1 := fun v => [(4, .inl (.int v)), (0, .inr (k, 17)), (1, .inl (.int a1)), (2, .inl (.int a2)), (3, .inl (.int a3))]) hC 4 (by decide) (fun v => rfl) dX0_areHalves_3 (fun v4_1 => ?_)
  refine z_aload_n (pc := 5) hC 0 rfl 1 rfl dX0_areHalves_5 ?_
  refine z_getc (pc := 6) hC (hk 17 rfl) f_17_3 q302 dX0_areHalves_6 ?_
  refine z_iload_n (pc := 9) hC 1 rfl 2 rfl dX0_areHalves_9 ?_
  refine zs_iald (pc := 10) hC (hk 21 rfl) rfl dX0_areHalves_10 ?_
  refine z_iload_n (pc := 11) hC 3 rfl 4 rfl dX0_areHalves_11 ?_
  refine z_icmp_ne (pc := 12) hC 109 rfl dX0_areHalves_12 ?_ ?_
  · refine z_iconst (pc := 109) hC (0 : Int32) rfl dX0_areHalves_109 ?_
    exact z_zret (pc := 110) hC rfl rfl dX0_areHalves_110
  · refine z_aload_n (pc := 15) hC 0 rfl 1 rfl dX0_areHalves_15 ?_
    refine z_getc (pc := 16) hC (hk 17 rfl) f_17_3 q302 dX0_areHalves_16 ?_
    refine z_iload_n (pc := 19) hC 2 rfl 3 rfl dX0_areHalves_19 ?_
    refine zs_iald (pc := 20) hC (hk 21 rfl) rfl dX0_areHalves_20 ?_
    refine z_iload_n (pc := 21) hC 3 rfl 4 rfl dX0_areHalves_21 ?_
    refine z_icmp_ne (pc := 22) hC 109 rfl dX0_areHalves_22 ?_ ?_
    · refine z_iconst (pc := 109) hC (0 : Int32) rfl dX0_areHalves_109 ?_
      exact z_zret (pc := 110) hC rfl rfl dX0_areHalves_110
    · refine z_aload_n (pc := 25) hC 0 rfl 1 rfl dX0_areHalves_25 ?_
      refine z_getc (pc := 26) hC (hk 17 rfl) f_17_2 q299 dX0_areHalves_26 ?_
      refine z_iload_n (pc := 29) hC 1 rfl 2 rfl dX0_areHalves_29 ?_
      refine zs_iald (pc := 30) hC (hk 20 rfl) rfl dX0_areHalves_30 ?_
      refine z_iconst (pc := 31) hC (2 : Int32) rfl dX0_areHalves_31 ?_
      refine z_iload (pc := 32) hC 4 0 rfl dX0_areHalves_32 ?_
      refine z_imul (pc := 34) hC dX0_areHalves_34 ?_
      refine z_iconst (pc := 35) hC (1 : Int32) rfl dX0_areHalves_35 ?_
      refine z_isub (pc := 36) hC dX0_areHalves_36 ?_
      refine z_iand (pc := 37) hC dX0_areHalves_37 ?_
      refine z_if_ne (pc := 38) hC 109 rfl dX0_areHalves_38 ?_ ?_
      · refine z_iconst (pc := 109) hC (0 : Int32) rfl dX0_areHalves_109 ?_
        exact z_zret (pc := 110) hC rfl rfl dX0_areHalves_110
      · refine z_aload_n (pc := 41) hC 0 rfl 1 rfl dX0_areHalves_41 ?_
        refine z_getc (pc := 42) hC (hk 17 rfl) f_17_2 q299 dX0_areHalves_42 ?_
        refine z_iload_n (pc := 45) hC 2 rfl 3 rfl dX0_areHalves_45 ?_
        refine zs_iald (pc := 46) hC (hk 20 rfl) rfl dX0_areHalves_46 ?_
        refine z_aload_n (pc := 47) hC 0 rfl 1 rfl dX0_areHalves_47 ?_
        refine z_getc (pc := 48) hC (hk 17 rfl) f_17_2 q299 dX0_areHalves_48 ?_
        refine z_iload_n (pc := 51) hC 1 rfl 2 rfl dX0_areHalves_51 ?_
        refine zs_iald (pc := 52) hC (hk 20 rfl) rfl dX0_areHalves_52 ?_
        refine z_iload (pc := 53) hC 4 0 rfl dX0_areHalves_53 ?_
        refine z_iadd (pc := 55) hC dX0_areHalves_55 ?_
        refine z_icmp_ne (pc := 56) hC 109 rfl dX0_areHalves_56 ?_ ?_
        · refine z_iconst (pc := 109) hC (0 : Int32) rfl dX0_areHalves_109 ?_
          exact z_zret (pc := 110) hC rfl rfl dX0_areHalves_110
        · refine z_aload_n (pc := 59) hC 0 rfl 1 rfl dX0_areHalves_59 ?_
          refine z_getc (pc := 60) hC (hk 17 rfl) f_17_4 q305 dX0_areHalves_60 ?_
          refine z_iload_n (pc := 63) hC 1 rfl 2 rfl dX0_areHalves_63 ?_
          refine zs_iald (pc := 64) hC (hk 22 rfl) rfl dX0_areHalves_64 ?_
          refine z_aload_n (pc := 65) hC 0 rfl 1 rfl dX0_areHalves_65 ?_
          refine z_getc (pc := 66) hC (hk 17 rfl) f_17_4 q305 dX0_areHalves_66 ?_
          refine z_iload_n (pc := 69) hC 2 rfl 3 rfl dX0_areHalves_69 ?_
          refine zs_iald (pc := 70) hC (hk 22 rfl) rfl dX0_areHalves_70 ?_
          refine z_icmp_ne (pc := 71) hC 109 rfl dX0_areHalves_71 ?_ ?_
          · refine z_iconst (pc := 109) hC (0 : Int32) rfl dX0_areHalves_109 ?_
            exact z_zret (pc := 110) hC rfl rfl dX0_areHalves_110
          · refine z_aload_n (pc := 74) hC 0 rfl 1 rfl dX0_areHalves_74 ?_
            refine z_getc (pc := 75) hC (hk 17 rfl) f_17_5 q308 dX0_areHalves_75 ?_
            refine z_iload_n (pc := 78) hC 1 rfl 2 rfl dX0_areHalves_78 ?_
            refine zs_iald (pc := 79) hC (hk 23 rfl) rfl dX0_areHalves_79 ?_
            refine z_aload_n (pc := 80) hC 0 rfl 1 rfl dX0_areHalves_80 ?_
            refine z_getc (pc := 81) hC (hk 17 rfl) f_17_5 q308 dX0_areHalves_81 ?_
            refine z_iload_n (pc := 84) hC 2 rfl 3 rfl dX0_areHalves_84 ?_
            refine zs_iald (pc := 85) hC (hk 23 rfl) rfl dX0_areHalves_85 ?_
            refine z_icmp_ne (pc := 86) hC 109 rfl dX0_areHalves_86 ?_ ?_
            · refine z_iconst (pc := 109) hC (0 : Int32) rfl dX0_areHalves_109 ?_
              exact z_zret (pc := 110) hC rfl rfl dX0_areHalves_110
            · refine z_aload_n (pc := 89) hC 0 rfl 1 rfl dX0_areHalves_89 ?_
              refine z_iload_n (pc := 90) hC 1 rfl 2 rfl dX0_areHalves_90 ?_
              refine z_piV (pc := 91) (st := []) hC y_X0_isBusy q667 [.inl (.int a1)] rfl (hk 17 rfl) rfl rfl (c_X0_isBusy hC.2.2.2.2.2.2.1 hk hk2) rfl ⟨rfl, rfl, (Nat.le_of_ble_eq_true rfl), (Nat.le_of_ble_eq_true rfl)⟩ (Nat.le_of_ble_eq_true rfl) dX0_areHalves_91 (fun r2 => ?_)
              refine z_if_ne (pc := 94) hC 109 rfl dX0_areHalves_94 ?_ ?_
              · refine z_iconst (pc := 109) hC (0 : Int32) rfl dX0_areHalves_109 ?_
                exact z_zret (pc := 110) hC rfl rfl dX0_areHalves_110
              · refine z_aload_n (pc := 97) hC 0 rfl 1 rfl dX0_areHalves_97 ?_
                refine z_iload_n (pc := 98) hC 2 rfl 3 rfl dX0_areHalves_98 ?_
                refine z_piV (pc := 99) (st := []) hC y_X0_isBusy q667 [.inl (.int a2)] rfl (hk 17 rfl) rfl rfl (c_X0_isBusy hC.2.2.2.2.2.2.1 hk hk2) rfl ⟨rfl, rfl, (Nat.le_of_ble_eq_true rfl), (Nat.le_of_ble_eq_true rfl)⟩ (Nat.le_of_ble_eq_true rfl) dX0_areHalves_99 (fun r3 => ?_)
                refine z_if_ne (pc := 102) hC 109 rfl dX0_areHalves_102 ?_ ?_
                · refine z_iconst (pc := 109) hC (0 : Int32) rfl dX0_areHalves_109 ?_
                  exact z_zret (pc := 110) hC rfl rfl dX0_areHalves_110
                · refine z_iconst (pc := 105) hC (1 : Int32) rfl dX0_areHalves_105 ?_
                  refine z_goto (pc := 106) hC 110 rfl dX0_areHalves_106 ?_
                  exact z_zret (pc := 110) hC rfl rfl dX0_areHalves_110
theorem c_X0_areHalves {G : Geo} {M : Mem} {k : Nat} (hG : GOk G) (hk : LWd G k) (hk2 : 2 ≤ k) {d : Sl} {a1 : Int32} {a2 : Int32} {a3 : Int32} (l : Launch) (r : Int32) (h : De_areHalves d a1 a2 a3 = some r) : Mt l yX0_areHalves cX0_areHalves 5 (some .boolean) rm_X0_areHalves G [.inr (k, 17), .inl (.int a1), .inl (.int a2), .inl (.int a3)] ((setS M k) d) (avI r) ((setS M k) d) :=
  mt_of (mem := (setS M k)) (po := poP avI ((setS M k) d)) (x0 := d) (t := r) rfl hG [.inr (k, 17), .inl (.int a1), .inl (.int a2), .inl (.int a3)] (Nat.le_of_ble_eq_true rfl) rfl (fun C hC => r_De_areHalves hC hk hk2 d a1 a2 a3) h
-- FrameHeirs$Deeds.join(II)V
abbrev rm_X0_join : Room := { frames := 2, cells := 0, slots := 0, locals := 46 }
theorem dX0_join_0 : decode cX0_join 0 = .ok (.aload_n 0, 1) := by decide +kernel
theorem dX0_join_1 : decode cX0_join 1 = .ok (.iload_n 2, 1) := by decide +kernel
theorem dX0_join_2 : decode cX0_join 2 = .ok (.invokevirtual 100, 3) := by decide +kernel
theorem dX0_join_5 : decode cX0_join 5 = .ok (.aload_n 0, 1) := by decide +kernel
theorem dX0_join_6 : decode cX0_join 6 = .ok (.getfield 30, 3) := by decide +kernel
theorem dX0_join_9 : decode cX0_join 9 = .ok (.iload_n 2, 1) := by decide +kernel
theorem dX0_join_10 : decode cX0_join 10 = .ok (.iaload, 1) := by decide +kernel
theorem dX0_join_11 : decode cX0_join 11 = .ok (.istore_n 3, 1) := by decide +kernel
theorem dX0_join_12 : decode cX0_join 12 = .ok (.iconst 0, 1) := by decide +kernel
theorem dX0_join_13 : decode cX0_join 13 = .ok (.istore 4, 2) := by decide +kernel
theorem dX0_join_15 : decode cX0_join 15 = .ok (.iload 4, 2) := by decide +kernel
theorem dX0_join_17 : decode cX0_join 17 = .ok (.sipush 192, 3) := by decide +kernel
theorem dX0_join_20 : decode cX0_join 20 = .ok (.if_icmp .ge 35, 3) := by decide +kernel
theorem dX0_join_23 : decode cX0_join 23 = .ok (.iload_n 3, 1) := by decide +kernel
theorem dX0_join_24 : decode cX0_join 24 = .ok (.ifCond .lt 31, 3) := by decide +kernel
theorem dX0_join_27 : decode cX0_join 27 = .ok (.aload_n 0, 1) := by decide +kernel
theorem dX0_join_28 : decode cX0_join 28 = .ok (.getfield 36, 3) := by decide +kernel
theorem dX0_join_31 : decode cX0_join 31 = .ok (.iload_n 3, 1) := by decide +kernel
theorem dX0_join_32 : decode cX0_join 32 = .ok (.iaload, 1) := by decide +kernel
theorem dX0_join_33 : decode cX0_join 33 = .ok (.istore 5, 2) := by decide +kernel
theorem dX0_join_35 : decode cX0_join 35 = .ok (.aload_n 0, 1) := by decide +kernel
theorem dX0_join_36 : decode cX0_join 36 = .ok (.iload_n 3, 1) := by decide +kernel
theorem dX0_join_37 : decode cX0_join 37 = .ok (.invokevirtual 100, 3) := by decide +kernel
theorem dX0_join_40 : decode cX0_join 40 = .ok (.aload_n 0, 1) := by decide +kernel
theorem dX0_join_41 : decode cX0_join 41 = .ok (.iload_n 3, 1) := by decide +kernel
theorem dX0_join_42 : decode cX0_join 42 = .ok (.iload_n 1, 1) := by decide +kernel
theorem dX0_join_43 : decode cX0_join 43 = .ok (.invokevirtual 130, 3) := by decide +kernel
theorem dX0_join_46 : decode cX0_join 46 = .ok (.iload 5, 2) := by decide +kernel
theorem dX0_join_48 : decode cX0_join 48 = .ok (.istore_n 3, 1) := by decide +kernel
theorem dX0_join_49 : decode cX0_join 49 = .ok (.iinc 4 1, 3) := by decide +kernel
theorem dX0_join_52 : decode cX0_join 52 = .ok (.goto (-37), 3) := by decide +kernel
theorem dX0_join_55 : decode cX0_join 55 = .ok (.aload_n 0, 1) := by decide +kernel
theorem dX0_join_56 : decode cX0_join 56 = .ok (.getfield 51, 3) := by decide +kernel
theorem dX0_join_59 : decode cX0_join 59 = .ok (.iload_n 1, 1) := by decide +kernel
theorem dX0_join_60 : decode cX0_join 60 = .ok (.aload_n 0, 1) := by decide +kernel
theorem dX0_join_61 : decode cX0_join 61 = .ok (.getfield 51, 3) := by decide +kernel
theorem dX0_join_64 : decode cX0_join 64 = .ok (.iload_n 1, 1) := by decide +kernel
theorem dX0_join_65 : decode cX0_join 65 = .ok (.faload, 1) := by decide +kernel
theorem dX0_join_66 : decode cX0_join 66 = .ok (.aload_n 0, 1) := by decide +kernel
theorem dX0_join_67 : decode cX0_join 67 = .ok (.getfield 51, 3) := by decide +kernel
theorem dX0_join_70 : decode cX0_join 70 = .ok (.iload_n 2, 1) := by decide +kernel
theorem dX0_join_71 : decode cX0_join 71 = .ok (.faload, 1) := by decide +kernel
theorem dX0_join_72 : decode cX0_join 72 = .ok (.fadd, 1) := by decide +kernel
theorem dX0_join_73 : decode cX0_join 73 = .ok (.fconst 2, 1) := by decide +kernel
theorem dX0_join_74 : decode cX0_join 74 = .ok (.fdiv, 1) := by decide +kernel
theorem dX0_join_75 : decode cX0_join 75 = .ok (.fastore, 1) := by decide +kernel
theorem dX0_join_76 : decode cX0_join 76 = .ok (.aload_n 0, 1) := by decide +kernel
theorem dX0_join_77 : decode cX0_join 77 = .ok (.iload_n 2, 1) := by decide +kernel
theorem dX0_join_78 : decode cX0_join 78 = .ok (.invokevirtual 111, 3) := by decide +kernel
theorem dX0_join_81 : decode cX0_join 81 = .ok (.aload_n 0, 1) := by decide +kernel
theorem dX0_join_82 : decode cX0_join 82 = .ok (.getfield 21, 3) := by decide +kernel
theorem dX0_join_85 : decode cX0_join 85 = .ok (.iload_n 1, 1) := by decide +kernel
theorem dX0_join_86 : decode cX0_join 86 = .ok (.dup2, 1) := by decide +kernel
theorem dX0_join_87 : decode cX0_join 87 = .ok (.iaload, 1) := by decide +kernel
theorem dX0_join_88 : decode cX0_join 88 = .ok (.iconst 1, 1) := by decide +kernel
theorem dX0_join_89 : decode cX0_join 89 = .ok (.iadd, 1) := by decide +kernel
theorem dX0_join_90 : decode cX0_join 90 = .ok (.iastore, 1) := by decide +kernel
theorem dX0_join_91 : decode cX0_join 91 = .ok (.aload_n 0, 1) := by decide +kernel
theorem dX0_join_92 : decode cX0_join 92 = .ok (.iload_n 1, 1) := by decide +kernel
theorem dX0_join_93 : decode cX0_join 93 = .ok (.iload_n 1, 1) := by decide +kernel
theorem dX0_join_94 : decode cX0_join 94 = .ok (.invokevirtual 96, 3) := by decide +kernel
theorem dX0_join_97 : decode cX0_join 97 = .ok (.return_, 1) := by decide +kernel
def De_join_55 (v1 : Int32) (v2 : Int32) (d : Sl) : Option (Unit × Sl) :=
  if inb v1 192 then
  if inb v2 192 then
  if nn32 (FP.fadd ((d 31 (ix v1)).toUInt32) ((d 31 (ix v2)).toUInt32)) then
  if nn32 (FP.fdiv (FP.fadd ((d 31 (ix v1)).toUInt32) ((d 31 (ix v2)).toUInt32)) FP.fconst2) then
  if inb v1 192 then
  bnd (wr d 31 (ix v1) ((FP.fdiv (FP.fadd ((d 31 (ix v1)).toUInt32) ((d 31 (ix v2)).toUInt32)) FP.fconst2)).toInt32) fun d1 =>
  bd (De_release d1 v2) fun r2 d3 =>
  if inb v1 192 then
  if inb v1 192 then
  bnd (wr d3 21 (ix v1) ((d3 21 (ix v1)) + (1 : Int32))) fun d4 =>
  bd (De_settleAt d4 v1 v1) fun r5 d6 =>
  some ((), d6)
  else none
  else none
  else none
  else none
  else none
  else none
  else none
def De_join_15 : Nat → Int32 → Int32 → Int32 → Int32 → Sl → Option (Unit × Sl)
  | 0, _, _, _, _, _ => none
  | n + 1, v1, v2, v3, v4, d =>
    if (192 : Int32) ≤ v4 then
      (De_join_55 v1 v2 d)
    else
      (if v3 < 0 then
        (De_join_55 v1 v2 d)
      else
        (if inb v3 192 then
        bnd (d 26 (ix v3)) fun v5_7 =>
        bd (De_takeFromGiver d v3) fun r8 d9 =>
        bd (De_append d9 v3 v1) fun r10 d11 =>
        bnd v5_7 fun v3_12 =>
        bnd (v4 + (1 : Int32)) fun v4_13 =>
        De_join_15 n v1 v2 v3_12 v4_13 d11
        else none))
def De_join (d : Sl) (a1 : Int32) (a2 : Int32) : Option (Unit × Sl) :=
  bd (De_takeFromGiver d a2) fun r14 d15 =>
  if inb a2 192 then
  bnd (d15 24 (ix a2)) fun v3_16 =>
  bnd (0 : Int32) fun v4_17 =>
  De_join_15 FU a1 a2 v3_16 v4_17 d15
  else none
theorem y_X0_join : YV yX0_join cX0_join 6 none 2 := ⟨q899, q38, q900, q147, by decide +kernel, by decide +kernel, by decide +kernel, by decide +kernel⟩
theorem r_De_join_55 {C : Cxt} {G : Geo} {M : Mem} {k : Nat} (hC : Cx C cX0_join 6 "FrameHeirs$Deeds" none rm_X0_join G) (hk : LWd G k) (hk2 : 2 ≤ k) (v1 : Int32) (v2 : Int32) (d : Sl) : Rz C 6 G (setS M k) (poM avV (setS M k)) 55 [(0, .inr (k, 17)), (1, .inl (.int v1)), (2, .inl (.int v2))] [] d (De_join_55 v1 v2 d) := by
  unfold De_join_55
  refine z_aload_n (pc := 55) hC 0 rfl 0 rfl dX0_join_55 ?_
  refine z_getc (pc := 56) hC (hk 17 rfl) f_17_13 q321 dX0_join_56 ?_
  refine z_iload_n (pc := 59) hC 1 rfl 1 rfl dX0_join_59 ?_
  refine z_aload_n (pc := 60) hC 0 rfl 0 rfl dX0_join_60 ?_
  refine z_getc (pc := 61) hC (hk 17 rfl) f_17_13 q321 dX0_join_61 ?_
  refine z_iload_n (pc := 64) hC 1 rfl 1 rfl dX0_join_64 ?_
  refine zs_fald (pc := 65) hC (hk 31 rfl) rfl dX0_join_65 ?_
  refine z_aload_n (pc := 66) hC 0 rfl 0 rfl dX0_join_66 ?_
  refine z_getc (pc := 67) hC (hk 17 rfl) f_17_13 q321 dX0_join_67 ?_
  refine z_iload_n (pc := 70) hC 2 rfl 2 rfl dX0_join_70 ?_
  refine zs_fald (pc := 71) hC (hk 31 rfl) rfl dX0_join_71 ?_
  refine z_fadd (pc := 72) hC dX0_join_72 ?_
  refine z_fconst2 (pc := 73) hC dX0_join_73 ?_
  refine z_fdiv (pc := 74) hC dX0_join_74 ?_
  refine zs_fast (pc := 75) hC (hk 31 rfl) (by decide) rfl dX0_join_75 (fun d1 => ?_)
  refine z_aload_n (pc := 76) hC 0 rfl 0 rfl dX0_join_76 ?_
  refine z_iload_n (pc := 77) hC 2 rfl 2 rfl dX0_join_77 ?_
  refine z_cvV (pc := 78) (st := []) hC y_X0_release q797 [.inl (.int v2)] rfl (hk 17 rfl) rfl rfl (c_X0_release hC.2.2.2.2.2.2.1 hk hk2) rfl ⟨rfl, rfl, (Nat.le_of_ble_eq_true rfl), (Nat.le_of_ble_eq_true rfl)⟩ (Nat.le_of_ble_eq_true rfl) dX0_join_78 (fun r2 d3 => ?_)
  refine z_aload_n (pc := 81) hC 0 rfl 0 rfl dX0_join_81 ?_
  refine z_getc (pc := 82) hC (hk 17 rfl) f_17_3 q302 dX0_join_82 ?_
  refine z_iload_n (pc := 85) hC 1 rfl 1 rfl dX0_join_85 ?_
  refine z_dup2 (pc := 86) hC rfl rfl dX0_join_86 ?_
  refine zs_iald (pc := 87) hC (hk 21 rfl) rfl dX0_join_87 ?_
  refine z_iconst (pc := 88) hC (1 : Int32) rfl dX0_join_88 ?_
  refine z_iadd (pc := 89) hC dX0_join_89 ?_
  refine zs_iast (pc := 90) hC (hk 21 rfl) (by decide) rfl dX0_join_90 (fun d4 => ?_)
  refine z_aload_n (pc := 91) hC 0 rfl 0 rfl dX0_join_91 ?_
  refine z_iload_n (pc := 92) hC 1 rfl 1 rfl dX0_join_92 ?_
  refine z_iload_n (pc := 93) hC 1 rfl 1 rfl dX0_join_93 ?_
  refine z_cvV (pc := 94) (st := []) hC y_X0_settleAt q591 [.inl (.int v1), .inl (.int v1)] rfl (hk 17 rfl) rfl rfl (c_X0_settleAt hC.2.2.2.2.2.2.1 hk hk2) rfl ⟨rfl, rfl, (Nat.le_of_ble_eq_true rfl), (Nat.le_of_ble_eq_true rfl)⟩ (Nat.le_of_ble_eq_true rfl) dX0_join_94 (fun r5 d6 => ?_)
  exact z_vret (pc := 97) hC rfl dX0_join_97
theorem r_De_join_15 {C : Cxt} {G : Geo} {M : Mem} {k : Nat} (hC : Cx C cX0_join 6 "FrameHeirs$Deeds" none rm_X0_join G) (hk : LWd G k) (hk2 : 2 ≤ k) : ∀ (n : Nat) (v1 : Int32) (v2 : Int32) (v3 : Int32) (v4 : Int32) (d : Sl), Rz C 6 G (setS M k) (poM avV (setS M k)) 15 [(0, .inr (k, 17)), (1, .inl (.int v1)), (2, .inl (.int v2)), (3, .inl (.int v3)), (4, .inl (.int v4))] [] d (De_join_15 n v1 v2 v3 v4 d) := by
  intro n
  induction n with
  | zero => intros; exact z_none
  | succ n ih =>
    intro v1 v2 v3 v4 d
    rw [De_join_15]
    refine z_iload (pc := 15) hC 4 4 rfl dX0_join_15 ?_
    refine z_sipush (pc := 17) hC (192 : Int32) rfl dX0_join_17 ?_
    refine z_icmp_ge (pc := 20) hC 55 rfl dX0_join_20 ?_ ?_
    · exact z_sub [0, 1, 2] rfl (r_De_join_55 hC hk hk2 v1 v2 d)
    · refine z_iload_n (pc := 23) hC 3 rfl 3 rfl dX0_join_23 ?_
      refine z_if_lt (pc := 24) hC 55 rfl dX0_join_24 ?_ ?_
      · exact z_sub [0, 1, 2] rfl (r_De_join_55 hC hk hk2 v1 v2 d)
      · refine z_aload_n (pc := 27) hC 0 rfl 0 rfl dX0_join_27 ?_
        refine z_getc (pc := 28) hC (hk 17 rfl) f_17_8 q314 dX0_join_28 ?_
        refine z_iload_n (pc := 31) hC 3 rfl 3 rfl dX0_join_31 ?_
        refine zs_iald (pc := 32) hC (hk 26 rfl) rfl dX0_join_32 ?_
        refine z_istore (pc := 33) (ls1 := fun v => [(5, .inl (.int v)), (0, .inr (k, 17)), (1, .inl (.int v1)), (2, .inl (.int v2)), (3, .inl (.int v3)), (4, .inl (.int v4))]) hC 5 (by decide) (fun v => rfl) dX0_join_33 (fun v5_7 => ?_)
        refine z_aload_n (pc := 35) hC 0 rfl 1 rfl dX0_join_35 ?_
        refine z_iload_n (pc := 36) hC 3 rfl 4 rfl dX0_join_36 ?_
        refine z_cvV (pc := 37) (st := []) hC y_X0_takeFromGiver q736 [.inl (.int v3)] rfl (hk 17 rfl) rfl rfl (c_X0_takeFromGiver hC.2.2.2.2.2.2.1 hk hk2) rfl ⟨rfl, rfl, (Nat.le_of_ble_eq_true rfl), (Nat.le_of_ble_eq_true rfl)⟩ (Nat.le_of_ble_eq_true rfl) dX0_join_37 (fun r8 d9 => ?_)
        refine z_aload_n (pc := 40) hC 0 rfl 1 rfl dX0_join_40 ?_
        refine z_iload_n (pc := 41) hC 3 rfl 4 rfl dX0_join_41 ?_
        refine z_iload_n (pc := 42) hC 1 rfl 2 rfl dX0_join_42 ?_
        refine z_cvV (pc := 43) (st := []) hC y_X0_append q740 [.inl (.int v3), .inl (.int v1)] rfl (hk 17 rfl) rfl rfl (c_X0_append hC.2.2.2.2.2.2.1 hk hk2) rfl ⟨rfl, rfl, (Nat.le_of_ble_eq_true rfl), (Nat.le_of_ble_eq_true rfl)⟩ (Nat.le_of_ble_eq_true rfl) dX0_join_43 (fun r10 d11 => ?_)
        refine z_iload (pc := 46) hC 5 0 rfl dX0_join_46 ?_
        refine z_istore_n (pc := 48) (ls1 := fun v => [(3, .inl (.int v)), (5, .inl (.int v5_7)), (0, .inr (k, 17)), (1, .inl (.int v1)), (2, .inl (.int v2)), (4, .inl (.int v4))]) hC 3 rfl (by decide) (fun v => rfl) dX0_join_48 (fun v3_12 => ?_)
        refine z_iinc (pc := 49) (ls1 := fun v => [(4, .inl (.int v)), (3, .inl (.int v3_12)), (5, .inl (.int v5_7)), (0, .inr (k, 17)), (1, .inl (.int v1)), (2, .inl (.int v2))]) hC 4 5 (by decide) (1 : Int32) rfl rfl (fun v => rfl) dX0_join_49 (fun v4_13 => ?_)
        refine z_goto (pc := 52) hC 15 rfl dX0_join_52 ?_
        exact z_sub [3, 4, 5, 1, 0] rfl (ih v1 v2 v3_12 v4_13 d11)
theorem r_De_join {C : Cxt} {G : Geo} {M : Mem} {k : Nat} (hC : Cx C cX0_join 6 "FrameHeirs$Deeds" none rm_X0_join G) (hk : LWd G k) (hk2 : 2 ≤ k) (d : Sl) (a1 : Int32) (a2 : Int32) : Rz C 6 G (setS M k) (poM avV (setS M k)) 0 [(0, .inr (k, 17)), (1, .inl (.int a1)), (2, .inl (.int a2))] [] d (De_join d a1 a2) := by
  unfold De_join
  refine z_aload_n (pc := 0) hC 0 rfl 0 rfl dX0_join_0 ?_
  refine z_iload_n (pc := 1) hC 2 rfl 2 rfl dX0_join_1 ?_
  refine z_cvV (pc := 2) (st := []) hC y_X0_takeFromGiver q736 [.inl (.int a2)] rfl (hk 17 rfl) rfl rfl (c_X0_takeFromGiver hC.2.2.2.2.2.2.1 hk hk2) rfl ⟨rfl, rfl, (Nat.le_of_ble_eq_true rfl), (Nat.le_of_ble_eq_true rfl)⟩ (Nat.le_of_ble_eq_true rfl) dX0_join_2 (fun r14 d15 => ?_)
  refine z_aload_n (pc := 5) hC 0 rfl 0 rfl dX0_join_5 ?_
  refine z_getc (pc := 6) hC (hk 17 rfl) f_17_6 q311 dX0_join_6 ?_
  refine z_iload_n (pc := 9) hC 2 rfl 2 rfl dX0_join_9 ?_
  refine zs_iald (pc := 10) hC (hk 24 rfl) rfl dX0_join_10 ?_
  refine z_istore_n (pc := 11) (ls1 := fun v => [(3, .inl (.int v)), (0, .inr (k, 17)), (1, .inl (.int a1)), (2, .inl (.int a2))]) hC 3 rfl (by decide) (fun v => rfl) dX0_join_11 (fun v3_16 => ?_)
  refine z_iconst (pc := 12) hC (0 : Int32) rfl dX0_join_12 ?_
  refine z_istore (pc := 13) (ls1 := fun v => [(4, .inl (.int v)), (3, .inl (.int v3_16)), (0, .inr (k, 17)), (1, .inl (.int a1)), (2, .inl (.int a2))]) hC 4 (by decide) (fun v => rfl) dX0_join_13 (fun v4_17 => ?_)
  exact z_sub [2, 3, 4, 1, 0] rfl (r_De_join_15 hC hk hk2 FU a1 a2 v3_16 v4_17 d15)
theorem c_X0_join {G : Geo} {M : Mem} {k : Nat} (hG : GOk G) (hk : LWd G k) (hk2 : 2 ≤ k) {d : Sl} {a1 : Int32} {a2 : Int32} (l : Launch) (r : Unit) (d1 : Sl) (h : De_join d a1 a2 = some (r, d1)) : Mt l yX0_join cX0_join 6 none rm_X0_join G [.inr (k, 17), .inl (.int a1), .inl (.int a2)] ((setS M k) d) (avV r) ((setS M k) d1) :=
  mt_of (mem := (setS M k)) (po := poM avV (setS M k)) (x0 := d) (t := (r, d1)) rfl hG [.inr (k, 17), .inl (.int a1), .inl (.int a2)] (Nat.le_of_ble_eq_true rfl) rfl (fun C hC => r_De_join hC hk hk2 d a1 a2) h
-- FrameHeirs$Deeds.joinTwo(I)Z
abbrev rm_X0_joinTwo : Room := { frames := 3, cells := 0, slots := 0, locals := 71 }
theorem dX0_joinTwo_0 : decode cX0_joinTwo 0 = .ok (.iconst 0, 1) := by decide +kernel
theorem dX0_joinTwo_1 : decode cX0_joinTwo 1 = .ok (.istore_n 2, 1) := by decide +kernel
theorem dX0_joinTwo_2 : decode cX0_joinTwo 2 = .ok (.iload_n 2, 1) := by decide +kernel
theorem dX0_joinTwo_3 : decode cX0_joinTwo 3 = .ok (.iconst 3, 1) := by decide +kernel
theorem dX0_joinTwo_4 : decode cX0_joinTwo 4 = .ok (.if_icmp .ge 86, 3) := by decide +kernel
theorem dX0_joinTwo_7 : decode cX0_joinTwo 7 = .ok (.iconst 1, 1) := by decide +kernel
theorem dX0_joinTwo_8 : decode cX0_joinTwo 8 = .ok (.iload_n 2, 1) := by decide +kernel
theorem dX0_joinTwo_9 : decode cX0_joinTwo 9 = .ok (.ishl, 1) := by decide +kernel
theorem dX0_joinTwo_10 : decode cX0_joinTwo 10 = .ok (.istore_n 3, 1) := by decide +kernel
theorem dX0_joinTwo_11 : decode cX0_joinTwo 11 = .ok (.iconst 0, 1) := by decide +kernel
theorem dX0_joinTwo_12 : decode cX0_joinTwo 12 = .ok (.istore 4, 2) := by decide +kernel
theorem dX0_joinTwo_14 : decode cX0_joinTwo 14 = .ok (.iload 4, 2) := by decide +kernel
theorem dX0_joinTwo_16 : decode cX0_joinTwo 16 = .ok (.bipush 32, 2) := by decide +kernel
theorem dX0_joinTwo_18 : decode cX0_joinTwo 18 = .ok (.if_icmp .ge 66, 3) := by decide +kernel
theorem dX0_joinTwo_21 : decode cX0_joinTwo 21 = .ok (.aload_n 0, 1) := by decide +kernel
theorem dX0_joinTwo_22 : decode cX0_joinTwo 22 = .ok (.iload_n 1, 1) := by decide +kernel
theorem dX0_joinTwo_23 : decode cX0_joinTwo 23 = .ok (.iload 4, 2) := by decide +kernel
theorem dX0_joinTwo_25 : decode cX0_joinTwo 25 = .ok (.invokevirtual 114, 3) := by decide +kernel
theorem dX0_joinTwo_28 : decode cX0_joinTwo 28 = .ok (.istore 5, 2) := by decide +kernel
theorem dX0_joinTwo_30 : decode cX0_joinTwo 30 = .ok (.aload_n 0, 1) := by decide +kernel
theorem dX0_joinTwo_31 : decode cX0_joinTwo 31 = .ok (.iload_n 1, 1) := by decide +kernel
theorem dX0_joinTwo_32 : decode cX0_joinTwo 32 = .ok (.iload 4, 2) := by decide +kernel
theorem dX0_joinTwo_34 : decode cX0_joinTwo 34 = .ok (.iload_n 3, 1) := by decide +kernel
theorem dX0_joinTwo_35 : decode cX0_joinTwo 35 = .ok (.iadd, 1) := by decide +kernel
theorem dX0_joinTwo_36 : decode cX0_joinTwo 36 = .ok (.invokevirtual 114, 3) := by decide +kernel
theorem dX0_joinTwo_39 : decode cX0_joinTwo 39 = .ok (.istore 6, 2) := by decide +kernel
theorem dX0_joinTwo_41 : decode cX0_joinTwo 41 = .ok (.iload 5, 2) := by decide +kernel
theorem dX0_joinTwo_43 : decode cX0_joinTwo 43 = .ok (.ifCond .lt 30, 3) := by decide +kernel
theorem dX0_joinTwo_46 : decode cX0_joinTwo 46 = .ok (.iload 6, 2) := by decide +kernel
theorem dX0_joinTwo_48 : decode cX0_joinTwo 48 = .ok (.ifCond .lt 25, 3) := by decide +kernel
theorem dX0_joinTwo_51 : decode cX0_joinTwo 51 = .ok (.aload_n 0, 1) := by decide +kernel
theorem dX0_joinTwo_52 : decode cX0_joinTwo 52 = .ok (.iload 5, 2) := by decide +kernel
theorem dX0_joinTwo_54 : decode cX0_joinTwo 54 = .ok (.iload 6, 2) := by decide +kernel
theorem dX0_joinTwo_56 : decode cX0_joinTwo 56 = .ok (.iload_n 2, 1) := by decide +kernel
theorem dX0_joinTwo_57 : decode cX0_joinTwo 57 = .ok (.invokevirtual 133, 3) := by decide +kernel
theorem dX0_joinTwo_60 : decode cX0_joinTwo 60 = .ok (.ifCond .eq 13, 3) := by decide +kernel
theorem dX0_joinTwo_63 : decode cX0_joinTwo 63 = .ok (.aload_n 0, 1) := by decide +kernel
theorem dX0_joinTwo_64 : decode cX0_joinTwo 64 = .ok (.iload 5, 2) := by decide +kernel
theorem dX0_joinTwo_66 : decode cX0_joinTwo 66 = .ok (.iload 6, 2) := by decide +kernel
theorem dX0_joinTwo_68 : decode cX0_joinTwo 68 = .ok (.invokevirtual 137, 3) := by decide +kernel
theorem dX0_joinTwo_71 : decode cX0_joinTwo 71 = .ok (.iconst 1, 1) := by decide +kernel
theorem dX0_joinTwo_72 : decode cX0_joinTwo 72 = .ok (.ireturn, 1) := by decide +kernel
theorem dX0_joinTwo_73 : decode cX0_joinTwo 73 = .ok (.iload 4, 2) := by decide +kernel
theorem dX0_joinTwo_75 : decode cX0_joinTwo 75 = .ok (.iconst 2, 1) := by decide +kernel
theorem dX0_joinTwo_76 : decode cX0_joinTwo 76 = .ok (.iload_n 3, 1) := by decide +kernel
theorem dX0_joinTwo_77 : decode cX0_joinTwo 77 = .ok (.imul, 1) := by decide +kernel
theorem dX0_joinTwo_78 : decode cX0_joinTwo 78 = .ok (.iadd, 1) := by decide +kernel
theorem dX0_joinTwo_79 : decode cX0_joinTwo 79 = .ok (.istore 4, 2) := by decide +kernel
theorem dX0_joinTwo_81 : decode cX0_joinTwo 81 = .ok (.goto (-67), 3) := by decide +kernel
theorem dX0_joinTwo_84 : decode cX0_joinTwo 84 = .ok (.iinc 2 1, 3) := by decide +kernel
theorem dX0_joinTwo_87 : decode cX0_joinTwo 87 = .ok (.goto (-85), 3) := by decide +kernel
theorem dX0_joinTwo_90 : decode cX0_joinTwo 90 = .ok (.iconst 0, 1) := by decide +kernel
theorem dX0_joinTwo_91 : decode cX0_joinTwo 91 = .ok (.ireturn, 1) := by decide +kernel
def De_joinTwo_73 (k2 : Int32 → Int32 → Sl → Option (Int32 × Sl)) (k14 : Int32 → Int32 → Int32 → Int32 → Sl → Option (Int32 × Sl)) (v1 : Int32) (v2 : Int32) (v3 : Int32) (v4 : Int32) (d : Sl) : Option (Int32 × Sl) :=
  bnd (v4 + ((2 : Int32) * v3)) fun v4_1 =>
  k14 v1 v2 v3 v4_1 d
def De_joinTwo_14 (k2 : Int32 → Int32 → Sl → Option (Int32 × Sl)) : Nat → Int32 → Int32 → Int32 → Int32 → Sl → Option (Int32 × Sl)
  | 0, _, _, _, _, _ => none
  | n + 1, v1, v2, v3, v4, d =>
    if (32 : Int32) ≤ v4 then
      (bnd (v2 + (1 : Int32)) fun v2_2 =>
      k2 v1 v2_2 d)
    else
      (bp (De_find d v1 v4) fun r3 =>
      bnd r3 fun v5_4 =>
      bp (De_find d v1 (v4 + v3)) fun r5 =>
      bnd r5 fun v6_6 =>
      if v5_4 < 0 then
        (De_joinTwo_73 k2 (De_joinTwo_14 k2 n) v1 v2 v3 v4 d)
      else
        (if v6_6 < 0 then
          (De_joinTwo_73 k2 (De_joinTwo_14 k2 n) v1 v2 v3 v4 d)
        else
          (bp (De_areHalves d v5_4 v6_6 v2) fun r7 =>
          if r7 = 0 then
            (De_joinTwo_73 k2 (De_joinTwo_14 k2 n) v1 v2 v3 v4 d)
          else
            (bd (De_join d v5_4 v6_6) fun r8 d9 =>
            some ((1 : Int32), d9)))))
def De_joinTwo_2 : Nat → Int32 → Int32 → Sl → Option (Int32 × Sl)
  | 0, _, _, _ => none
  | n + 1, v1, v2, d =>
    if (3 : Int32) ≤ v2 then
      (some ((0 : Int32), d))
    else
      (bnd ((1 : Int32) <<< (v2 &&& 31)) fun v3_10 =>
      bnd (0 : Int32) fun v4_11 =>
      De_joinTwo_14 (De_joinTwo_2 n) FU v1 v2 v3_10 v4_11 d)
def De_joinTwo (d : Sl) (a1 : Int32) : Option (Int32 × Sl) :=
  bnd (0 : Int32) fun v2_12 =>
  De_joinTwo_2 FU a1 v2_12 d
theorem y_X0_joinTwo : YV yX0_joinTwo cX0_joinTwo 7 (some .boolean) 1 := ⟨q890, q891, q892, q147, by decide +kernel, by decide +kernel, by decide +kernel, by decide +kernel⟩
theorem r_De_joinTwo_73 {C : Cxt} {G : Geo} {M : Mem} {k : Nat} (hC : Cx C cX0_joinTwo 7 "FrameHeirs$Deeds" (some .boolean) rm_X0_joinTwo G) (hk : LWd G k) (hk2 : 2 ≤ k) (k2 : Int32 → Int32 → Sl → Option (Int32 × Sl)) (h2 : ∀ (v1 : Int32) (v2 : Int32) (d : Sl), Rz C 7 G (setS M k) (poM avI (setS M k)) 2 [(0, .inr (k, 17)), (1, .inl (.int v1)), (2, .inl (.int v2))] [] d (k2 v1 v2 d)) (k14 : Int32 → Int32 → Int32 → Int32 → Sl → Option (Int32 × Sl)) (h14 : ∀ (v1 : Int32) (v2 : Int32) (v3 : Int32) (v4 : Int32) (d : Sl), Rz C 7 G (setS M k) (poM avI (setS M k)) 14 [(0, .inr (k, 17)), (1, .inl (.int v1)), (2, .inl (.int v2)), (3, .inl (.int v3)), (4, .inl (.int v4))] [] d (k14 v1 v2 v3 v4 d)) (v1 : Int32) (v2 : Int32) (v3 : Int32) (v4 : Int32) (d : Sl) : Rz C 7 G (setS M k) (poM avI (setS M k)) 73 [(0, .inr (k, 17)), (1, .inl (.int v1)), (2, .inl (.int v2)), (3, .inl (.int v3)), (4, .inl (.int v4))] [] d (De_joinTwo_73 k2 k14 v1 v2 v3 v4 d) := by
  unfold De_joinTwo_73
  refine z_iload (pc := 73) hC 4 4 rfl dX0_joinTwo_73 ?_
  refine z_iconst (pc := 75) hC (2 : Int32) rfl dX0_joinTwo_75 ?_
  refine z_iload_n (pc := 76) hC 3 rfl 3 rfl dX0_joinTwo_76 ?_
  refine z_imul (pc := 77) hC dX0_joinTwo_77 ?_
  refine z_iadd (pc := 78) hC dX0_joinTwo_78 ?_
  refine z_istore (pc := 79) (ls1 := fun v => [(4, .inl (.int v)), (0, .inr (k, 17)), (1, .inl (.int v1)), (2, .inl (.int v2)), (3, .inl (.int v3))]) hC 4 (by decide) (fun v => rfl) dX0_joinTwo_79 (fun v4_1 => ?_)
  refine z_goto (pc := 81) hC 14 rfl dX0_joinTwo_81 ?_
  exact z_sub [1, 2, 3, 4, 0] rfl (h14 v1 v2 v3 v4_1 d)
theorem r_De_joinTwo_14 {C : Cxt} {G : Geo} {M : Mem} {k : Nat} (hC : Cx C cX0_joinTwo 7 "FrameHeirs$Deeds" (some .boolean) rm_X0_joinTwo G) (hk : LWd G k) (hk2 : 2 ≤ k) (k2 : Int32 → Int32 → Sl → Option (Int32 × Sl)) (h2 : ∀ (v1 : Int32) (v2 : Int32) (d : Sl), Rz C 7 G (setS M k) (poM avI (setS M k)) 2 [(0, .inr (k, 17)), (1, .inl (.int v1)), (2, .inl (.int v2))] [] d (k2 v1 v2 d)) : ∀ (n : Nat) (v1 : Int32) (v2 : Int32) (v3 : Int32) (v4 : Int32) (d : Sl), Rz C 7 G (setS M k) (poM avI (setS M k)) 14 [(0, .inr (k, 17)), (1, .inl (.int v1)), (2, .inl (.int v2)), (3, .inl (.int v3)), (4, .inl (.int v4))] [] d (De_joinTwo_14 k2 n v1 v2 v3 v4 d) := by
  intro n
  induction n with
  | zero => intros; exact z_none
  | succ n ih =>
    intro v1 v2 v3 v4 d
    rw [De_joinTwo_14]
    refine z_iload (pc := 14) hC 4 4 rfl dX0_joinTwo_14 ?_
    refine z_bipush (pc := 16) hC (32 : Int32) rfl dX0_joinTwo_16 ?_
    refine z_icmp_ge (pc := 18) hC 84 rfl dX0_joinTwo_18 ?_ ?_
    · refine z_iinc (pc := 84) (ls1 := fun v => [(2, .inl (.int v)), (0, .inr (k, 17)), (1, .inl (.int v1)), (3, .inl (.int v3)), (4, .inl (.int v4))]) hC 2 2 (by decide) (1 : Int32) rfl rfl (fun v => rfl) dX0_joinTwo_84 (fun v2_2 => ?_)
      refine z_goto (pc := 87) hC 2 rfl dX0_joinTwo_87 ?_
      exact z_sub [1, 2, 0] rfl (h2 v1 v2_2 d)
    · refine z_aload_n (pc := 21) hC 0 rfl 0 rfl dX0_joinTwo_21 ?_
      refine z_iload_n (pc := 22) hC 1 rfl 1 rfl dX0_joinTwo_22 ?_
      refine z_iload (pc := 23) hC 4 4 rfl dX0_joinTwo_23 ?_
      refine z_piV (pc := 25) (st := []) hC y_X0_find q722 [.inl (.int v1), .inl (.int v4)] rfl (hk 17 rfl) rfl rfl (c_X0_find hC.2.2.2.2.2.2.1 hk hk2) rfl ⟨rfl, rfl, (Nat.le_of_ble_eq_true rfl), (Nat.le_of_ble_eq_true rfl)⟩ (Nat.le_of_ble_eq_true rfl) dX0_joinTwo_25 (fun r3 => ?_)
      refine z_istore (pc := 28) (ls1 := fun v => [(5, .inl (.int v)), (0, .inr (k, 17)), (1, .inl (.int v1)), (2, .inl (.int v2)), (3, .inl (.int v3)), (4, .inl (.int v4))]) hC 5 (by decide) (fun v => rfl) dX0_joinTwo_28 (fun v5_4 => ?_)
      refine z_aload_n (pc := 30) hC 0 rfl 1 rfl dX0_joinTwo_30 ?_
      refine z_iload_n (pc := 31) hC 1 rfl 2 rfl dX0_joinTwo_31 ?_
      refine z_iload (pc := 32) hC 4 5 rfl dX0_joinTwo_32 ?_
      refine z_iload_n (pc := 34) hC 3 rfl 4 rfl dX0_joinTwo_34 ?_
      refine z_iadd (pc := 35) hC dX0_joinTwo_35 ?_
      refine z_piV (pc := 36) (st := []) hC y_X0_find q722 [.inl (.int v1), .inl (.int (v4 + v3))] rfl (hk 17 rfl) rfl rfl (c_X0_find hC.2.2.2.2.2.2.1 hk hk2) rfl ⟨rfl, rfl, (Nat.le_of_ble_eq_true rfl), (Nat.le_of_ble_eq_true rfl)⟩ (Nat.le_of_ble_eq_true rfl) dX0_joinTwo_36 (fun r5 => ?_)
      refine z_istore (pc := 39) (ls1 := fun v => [(6, .inl (.int v)), (5, .inl (.int v5_4)), (0, .inr (k, 17)), (1, .inl (.int v1)), (2, .inl (.int v2)), (3, .inl (.int v3)), (4, .inl (.int v4))]) hC 6 (by decide) (fun v => rfl) dX0_joinTwo_39 (fun v6_6 => ?_)
      refine z_iload (pc := 41) hC 5 1 rfl dX0_joinTwo_41 ?_
      refine z_if_lt (pc := 43) hC 73 rfl dX0_joinTwo_43 ?_ ?_
      · exact z_sub [2, 3, 4, 5, 6] rfl (r_De_joinTwo_73 hC hk hk2 k2 h2 _ ih v1 v2 v3 v4 d)
      · refine z_iload (pc := 46) hC 6 0 rfl dX0_joinTwo_46 ?_
        refine z_if_lt (pc := 48) hC 73 rfl dX0_joinTwo_48 ?_ ?_
        · exact z_sub [2, 3, 4, 5, 6] rfl (r_De_joinTwo_73 hC hk hk2 k2 h2 _ ih v1 v2 v3 v4 d)
        · refine z_aload_n (pc := 51) hC 0 rfl 2 rfl dX0_joinTwo_51 ?_
          refine z_iload (pc := 52) hC 5 1 rfl dX0_joinTwo_52 ?_
          refine z_iload (pc := 54) hC 6 0 rfl dX0_joinTwo_54 ?_
          refine z_iload_n (pc := 56) hC 2 rfl 4 rfl dX0_joinTwo_56 ?_
          refine z_piV (pc := 57) (st := []) hC y_X0_areHalves q893 [.inl (.int v5_4), .inl (.int v6_6), .inl (.int v2)] rfl (hk 17 rfl) rfl rfl (c_X0_areHalves hC.2.2.2.2.2.2.1 hk hk2) rfl ⟨rfl, rfl, (Nat.le_of_ble_eq_true rfl), (Nat.le_of_ble_eq_true rfl)⟩ (Nat.le_of_ble_eq_true rfl) dX0_joinTwo_57 (fun r7 => ?_)
          refine z_if_eq (pc := 60) hC 73 rfl dX0_joinTwo_60 ?_ ?_
          · exact z_sub [2, 3, 4, 5, 6] rfl (r_De_joinTwo_73 hC hk hk2 k2 h2 _ ih v1 v2 v3 v4 d)
          · refine z_aload_n (pc := 63) hC 0 rfl 2 rfl dX0_joinTwo_63 ?_
            refine z_iload (pc := 64) hC 5 1 rfl dX0_joinTwo_64 ?_
            refine z_iload (pc := 66) hC 6 0 rfl dX0_joinTwo_66 ?_
            refine z_cvV (pc := 68) (st := []) hC y_X0_join q897 [.inl (.int v5_4), .inl (.int v6_6)] rfl (hk 17 rfl) rfl rfl (c_X0_join hC.2.2.2.2.2.2.1 hk hk2) rfl ⟨rfl, rfl, (Nat.le_of_ble_eq_true rfl), (Nat.le_of_ble_eq_true rfl)⟩ (Nat.le_of_ble_eq_true rfl) dX0_joinTwo_68 (fun r8 d9 => ?_)
            refine z_iconst (pc := 71) hC (1 : Int32) rfl dX0_joinTwo_71 ?_
            exact z_zret (pc := 72) hC rfl rfl dX0_joinTwo_72
theorem r_De_joinTwo_2 {C : Cxt} {G : Geo} {M : Mem} {k : Nat} (hC : Cx C cX0_joinTwo 7 "FrameHeirs$Deeds" (some .boolean) rm_X0_joinTwo G) (hk : LWd G k) (hk2 : 2 ≤ k) : ∀ (n : Nat) (v1 : Int32) (v2 : Int32) (d : Sl), Rz C 7 G (setS M k) (poM avI (setS M k)) 2 [(0, .inr (k, 17)), (1, .inl (.int v1)), (2, .inl (.int v2))] [] d (De_joinTwo_2 n v1 v2 d) := by
  intro n
  induction n with
  | zero => intros; exact z_none
  | succ n ih =>
    intro v1 v2 d
    rw [De_joinTwo_2]
    refine z_iload_n (pc := 2) hC 2 rfl 2 rfl dX0_joinTwo_2 ?_
    refine z_iconst (pc := 3) hC (3 : Int32) rfl dX0_joinTwo_3 ?_
    refine z_icmp_ge (pc := 4) hC 90 rfl dX0_joinTwo_4 ?_ ?_
    · refine z_iconst (pc := 90) hC (0 : Int32) rfl dX0_joinTwo_90 ?_
      exact z_zret (pc := 91) hC rfl rfl dX0_joinTwo_91
    · refine z_iconst (pc := 7) hC (1 : Int32) rfl dX0_joinTwo_7 ?_
      refine z_iload_n (pc := 8) hC 2 rfl 2 rfl dX0_joinTwo_8 ?_
      refine z_ishl (pc := 9) hC dX0_joinTwo_9 ?_
      refine z_istore_n (pc := 10) (ls1 := fun v => [(3, .inl (.int v)), (0, .inr (k, 17)), (1, .inl (.int v1)), (2, .inl (.int v2))]) hC 3 rfl (by decide) (fun v => rfl) dX0_joinTwo_10 (fun v3_10 => ?_)
      refine z_iconst (pc := 11) hC (0 : Int32) rfl dX0_joinTwo_11 ?_
      refine z_istore (pc := 12) (ls1 := fun v => [(4, .inl (.int v)), (3, .inl (.int v3_10)), (0, .inr (k, 17)), (1, .inl (.int v1)), (2, .inl (.int v2))]) hC 4 (by decide) (fun v => rfl) dX0_joinTwo_12 (fun v4_11 => ?_)
      exact z_sub [2, 3, 4, 1, 0] rfl (r_De_joinTwo_14 hC hk hk2 _ ih FU v1 v2 v3_10 v4_11 d)
theorem r_De_joinTwo {C : Cxt} {G : Geo} {M : Mem} {k : Nat} (hC : Cx C cX0_joinTwo 7 "FrameHeirs$Deeds" (some .boolean) rm_X0_joinTwo G) (hk : LWd G k) (hk2 : 2 ≤ k) (d : Sl) (a1 : Int32) : Rz C 7 G (setS M k) (poM avI (setS M k)) 0 [(0, .inr (k, 17)), (1, .inl (.int a1))] [] d (De_joinTwo d a1) := by
  unfold De_joinTwo
  refine z_iconst (pc := 0) hC (0 : Int32) rfl dX0_joinTwo_0 ?_
  refine z_istore_n (pc := 1) (ls1 := fun v => [(2, .inl (.int v)), (0, .inr (k, 17)), (1, .inl (.int a1))]) hC 2 rfl (by decide) (fun v => rfl) dX0_joinTwo_1 (fun v2_12 => ?_)
  exact z_sub [1, 2, 0] rfl (r_De_joinTwo_2 hC hk hk2 FU a1 v2_12 d)
theorem c_X0_joinTwo {G : Geo} {M : Mem} {k : Nat} (hG : GOk G) (hk : LWd G k) (hk2 : 2 ≤ k) {d : Sl} {a1 : Int32} (l : Launch) (r : Int32) (d1 : Sl) (h : De_joinTwo d a1 = some (r, d1)) : Mt l yX0_joinTwo cX0_joinTwo 7 (some .boolean) rm_X0_joinTwo G [.inr (k, 17), .inl (.int a1)] ((setS M k) d) (avI r) ((setS M k) d1) :=
  mt_of (mem := (setS M k)) (po := poM avI (setS M k)) (x0 := d) (t := (r, d1)) rfl hG [.inr (k, 17), .inl (.int a1)] (Nat.le_of_ble_eq_true rfl) rfl (fun C hC => r_De_joinTwo hC hk hk2 d a1) h
-- FrameHeirs$Deeds.isBeneath(II)Z
abbrev rm_X0_isBeneath : Room := { frames := 0, cells := 0, slots := 0, locals := 0 }
theorem dX0_isBeneath_0 : decode cX0_isBeneath 0 = .ok (.aload_n 0, 1) := by decide +kernel
theorem dX0_isBeneath_1 : decode cX0_isBeneath 1 = .ok (.getfield 27, 3) := by decide +kernel
theorem dX0_isBeneath_4 : decode cX0_isBeneath 4 = .ok (.iload_n 1, 1) := by decide +kernel
theorem dX0_isBeneath_5 : decode cX0_isBeneath 5 = .ok (.iaload, 1) := by decide +kernel
theorem dX0_isBeneath_6 : decode cX0_isBeneath 6 = .ok (.istore_n 3, 1) := by decide +kernel
theorem dX0_isBeneath_7 : decode cX0_isBeneath 7 = .ok (.iconst 0, 1) := by decide +kernel
theorem dX0_isBeneath_8 : decode cX0_isBeneath 8 = .ok (.istore 4, 2) := by decide +kernel
theorem dX0_isBeneath_10 : decode cX0_isBeneath 10 = .ok (.iload 4, 2) := by decide +kernel
theorem dX0_isBeneath_12 : decode cX0_isBeneath 12 = .ok (.sipush 192, 3) := by decide +kernel
theorem dX0_isBeneath_15 : decode cX0_isBeneath 15 = .ok (.if_icmp .ge 27, 3) := by decide +kernel
theorem dX0_isBeneath_18 : decode cX0_isBeneath 18 = .ok (.iload_n 3, 1) := by decide +kernel
theorem dX0_isBeneath_19 : decode cX0_isBeneath 19 = .ok (.ifCond .lt 23, 3) := by decide +kernel
theorem dX0_isBeneath_22 : decode cX0_isBeneath 22 = .ok (.iload_n 3, 1) := by decide +kernel
theorem dX0_isBeneath_23 : decode cX0_isBeneath 23 = .ok (.iload_n 2, 1) := by decide +kernel
theorem dX0_isBeneath_24 : decode cX0_isBeneath 24 = .ok (.if_icmp .ne 5, 3) := by decide +kernel
theorem dX0_isBeneath_27 : decode cX0_isBeneath 27 = .ok (.iconst 1, 1) := by decide +kernel
theorem dX0_isBeneath_28 : decode cX0_isBeneath 28 = .ok (.ireturn, 1) := by decide +kernel
theorem dX0_isBeneath_29 : decode cX0_isBeneath 29 = .ok (.aload_n 0, 1) := by decide +kernel
theorem dX0_isBeneath_30 : decode cX0_isBeneath 30 = .ok (.getfield 27, 3) := by decide +kernel
theorem dX0_isBeneath_33 : decode cX0_isBeneath 33 = .ok (.iload_n 3, 1) := by decide +kernel
theorem dX0_isBeneath_34 : decode cX0_isBeneath 34 = .ok (.iaload, 1) := by decide +kernel
theorem dX0_isBeneath_35 : decode cX0_isBeneath 35 = .ok (.istore_n 3, 1) := by decide +kernel
theorem dX0_isBeneath_36 : decode cX0_isBeneath 36 = .ok (.iinc 4 1, 3) := by decide +kernel
theorem dX0_isBeneath_39 : decode cX0_isBeneath 39 = .ok (.goto (-29), 3) := by decide +kernel
theorem dX0_isBeneath_42 : decode cX0_isBeneath 42 = .ok (.iconst 0, 1) := by decide +kernel
theorem dX0_isBeneath_43 : decode cX0_isBeneath 43 = .ok (.ireturn, 1) := by decide +kernel
def De_isBeneath_10 (d : Sl) : Nat → Int32 → Int32 → Int32 → Option Int32
  | 0, _, _, _ => none
  | n + 1, v2, v3, v4 =>
    if (192 : Int32) ≤ v4 then
      (some (0 : Int32))
    else
      (if v3 < 0 then
        (some (0 : Int32))
      else
        (if v3 = v2 then
          (some (1 : Int32))
        else
          (if inb v3 192 then
          bnd (d 23 (ix v3)) fun v3_1 =>
          bnd (v4 + (1 : Int32)) fun v4_2 =>
          De_isBeneath_10 d n v2 v3_1 v4_2
          else none)))
def De_isBeneath (d : Sl) (a1 : Int32) (a2 : Int32) : Option Int32 :=
  if inb a1 192 then
  bnd (d 23 (ix a1)) fun v3_3 =>
  bnd (0 : Int32) fun v4_4 =>
  De_isBeneath_10 d FU a2 v3_3 v4_4
  else none
theorem y_X0_isBeneath : YV yX0_isBeneath cX0_isBeneath 5 (some .boolean) 2 := ⟨q669, q670, q671, q147, by decide +kernel, by decide +kernel, by decide +kernel, by decide +kernel⟩
theorem r_De_isBeneath_10 {C : Cxt} {G : Geo} {M : Mem} {k : Nat} {d : Sl} (hC : Cx C cX0_isBeneath 5 "FrameHeirs$Deeds" (some .boolean) rm_X0_isBeneath G) (hk : LWd G k) (hk2 : 2 ≤ k) : ∀ (n : Nat) (v2 : Int32) (v3 : Int32) (v4 : Int32), Rz C 5 G (setS M k) (poP avI ((setS M k) d)) 10 [(0, .inr (k, 17)), (2, .inl (.int v2)), (3, .inl (.int v3)), (4, .inl (.int v4))] [] d (De_isBeneath_10 d n v2 v3 v4) := by
  intro n
  induction n with
  | zero => intros; exact z_none
  | succ n ih =>
    intro v2 v3 v4
    rw [De_isBeneath_10]
    refine z_iload (pc := 10) hC 4 3 rfl dX0_isBeneath_10 ?_
    refine z_sipush (pc := 12) hC (192 : Int32) rfl dX0_isBeneath_12 ?_
    refine z_icmp_ge (pc := 15) hC 42 rfl dX0_isBeneath_15 ?_ ?_
    · refine z_iconst (pc := 42) hC (0 : Int32) rfl dX0_isBeneath_42 ?_
      exact z_zret (pc := 43) hC rfl rfl dX0_isBeneath_43
    · refine z_iload_n (pc := 18) hC 3 rfl 2 rfl dX0_isBeneath_18 ?_
      refine z_if_lt (pc := 19) hC 42 rfl dX0_isBeneath_19 ?_ ?_
      · refine z_iconst (pc := 42) hC (0 : Int32) rfl dX0_isBeneath_42 ?_
        exact z_zret (pc := 43) hC rfl rfl dX0_isBeneath_43
      · refine z_iload_n (pc := 22) hC 3 rfl 2 rfl dX0_isBeneath_22 ?_
        refine z_iload_n (pc := 23) hC 2 rfl 1 rfl dX0_isBeneath_23 ?_
        refine z_icmp_ne (pc := 24) hC 29 rfl dX0_isBeneath_24 ?_ ?_
        · refine z_aload_n (pc := 29) hC 0 rfl 0 rfl dX0_isBeneath_29 ?_
          refine z_getc (pc := 30) hC (hk 17 rfl) f_17_5 q308 dX0_isBeneath_30 ?_
          refine z_iload_n (pc := 33) hC 3 rfl 2 rfl dX0_isBeneath_33 ?_
          refine zs_iald (pc := 34) hC (hk 23 rfl) rfl dX0_isBeneath_34 ?_
          refine z_istore_n (pc := 35) (ls1 := fun v => [(3, .inl (.int v)), (0, .inr (k, 17)), (2, .inl (.int v2)), (4, .inl (.int v4))]) hC 3 rfl (by decide) (fun v => rfl) dX0_isBeneath_35 (fun v3_1 => ?_)
          refine z_iinc (pc := 36) (ls1 := fun v => [(4, .inl (.int v)), (3, .inl (.int v3_1)), (0, .inr (k, 17)), (2, .inl (.int v2))]) hC 4 3 (by decide) (1 : Int32) rfl rfl (fun v => rfl) dX0_isBeneath_36 (fun v4_2 => ?_)
          refine z_goto (pc := 39) hC 10 rfl dX0_isBeneath_39 ?_
          exact z_sub [2, 3, 1, 0] rfl (ih v2 v3_1 v4_2)
        · refine z_iconst (pc := 27) hC (1 : Int32) rfl dX0_isBeneath_27 ?_
          exact z_zret (pc := 28) hC rfl rfl dX0_isBeneath_28
theorem r_De_isBeneath {C : Cxt} {G : Geo} {M : Mem} {k : Nat} (hC : Cx C cX0_isBeneath 5 "FrameHeirs$Deeds" (some .boolean) rm_X0_isBeneath G) (hk : LWd G k) (hk2 : 2 ≤ k) (d : Sl) (a1 : Int32) (a2 : Int32) : Rz C 5 G (setS M k) (poP avI ((setS M k) d)) 0 [(0, .inr (k, 17)), (1, .inl (.int a1)), (2, .inl (.int a2))] [] d (De_isBeneath d a1 a2) := by
  unfold De_isBeneath
  refine z_aload_n (pc := 0) hC 0 rfl 0 rfl dX0_isBeneath_0 ?_
  refine z_getc (pc := 1) hC (hk 17 rfl) f_17_5 q308 dX0_isBeneath_1 ?_
  refine z_iload_n (pc := 4) hC 1 rfl 1 rfl dX0_isBeneath_4 ?_
  refine zs_iald (pc := 5) hC (hk 23 rfl) rfl dX0_isBeneath_5 ?_
  refine z_istore_n (pc := 6) (ls1 := fun v => [(3, .inl (.int v)), (0, .inr (k, 17)), (1, .inl (.int a1)), (2, .inl (.int a2))]) hC 3 rfl (by decide) (fun v => rfl) dX0_isBeneath_6 (fun v3_3 => ?_)
  refine z_iconst (pc := 7) hC (0 : Int32) rfl dX0_isBeneath_7 ?_
  refine z_istore (pc := 8) (ls1 := fun v => [(4, .inl (.int v)), (3, .inl (.int v3_3)), (0, .inr (k, 17)), (1, .inl (.int a1)), (2, .inl (.int a2))]) hC 4 (by decide) (fun v => rfl) dX0_isBeneath_8 (fun v4_4 => ?_)
  exact z_sub [2, 4, 1, 0] rfl (r_De_isBeneath_10 hC hk hk2 FU a2 v3_3 v4_4)
theorem c_X0_isBeneath {G : Geo} {M : Mem} {k : Nat} (hG : GOk G) (hk : LWd G k) (hk2 : 2 ≤ k) {d : Sl} {a1 : Int32} {a2 : Int32} (l : Launch) (r : Int32) (h : De_isBeneath d a1 a2 = some r) : Mt l yX0_isBeneath cX0_isBeneath 5 (some .boolean) rm_X0_isBeneath G [.inr (k, 17), .inl (.int a1), .inl (.int a2)] ((setS M k) d) (avI r) ((setS M k) d) :=
  mt_of (mem := (setS M k)) (po := poP avI ((setS M k) d)) (x0 := d) (t := r) rfl hG [.inr (k, 17), .inl (.int a1), .inl (.int a2)] (Nat.le_of_ble_eq_true rfl) rfl (fun C hC => r_De_isBeneath hC hk hk2 d a1 a2) h
-- FrameHeirs$Deeds.isTied(I)Z
abbrev rm_X0_isTied : Room := { frames := 1, cells := 0, slots := 0, locals := 24 }
theorem dX0_isTied_0 : decode cX0_isTied 0 = .ok (.aload_n 0, 1) := by decide +kernel
theorem dX0_isTied_1 : decode cX0_isTied 1 = .ok (.iload_n 1, 1) := by decide +kernel
theorem dX0_isTied_2 : decode cX0_isTied 2 = .ok (.invokevirtual 140, 3) := by decide +kernel
theorem dX0_isTied_5 : decode cX0_isTied 5 = .ok (.ifCond .eq 5, 3) := by decide +kernel
theorem dX0_isTied_8 : decode cX0_isTied 8 = .ok (.iconst 1, 1) := by decide +kernel
theorem dX0_isTied_9 : decode cX0_isTied 9 = .ok (.ireturn, 1) := by decide +kernel
theorem dX0_isTied_10 : decode cX0_isTied 10 = .ok (.iconst 0, 1) := by decide +kernel
theorem dX0_isTied_11 : decode cX0_isTied 11 = .ok (.istore_n 2, 1) := by decide +kernel
theorem dX0_isTied_12 : decode cX0_isTied 12 = .ok (.iload_n 2, 1) := by decide +kernel
theorem dX0_isTied_13 : decode cX0_isTied 13 = .ok (.aload_n 0, 1) := by decide +kernel
theorem dX0_isTied_14 : decode cX0_isTied 14 = .ok (.getfield 61, 3) := by decide +kernel
theorem dX0_isTied_17 : decode cX0_isTied 17 = .ok (.if_icmp .ge 45, 3) := by decide +kernel
theorem dX0_isTied_20 : decode cX0_isTied 20 = .ok (.aload_n 0, 1) := by decide +kernel
theorem dX0_isTied_21 : decode cX0_isTied 21 = .ok (.getfield 68, 3) := by decide +kernel
theorem dX0_isTied_24 : decode cX0_isTied 24 = .ok (.ifCond .le 38, 3) := by decide +kernel
theorem dX0_isTied_27 : decode cX0_isTied 27 = .ok (.aload_n 0, 1) := by decide +kernel
theorem dX0_isTied_28 : decode cX0_isTied 28 = .ok (.getfield 21, 3) := by decide +kernel
theorem dX0_isTied_31 : decode cX0_isTied 31 = .ok (.iload_n 2, 1) := by decide +kernel
theorem dX0_isTied_32 : decode cX0_isTied 32 = .ok (.iaload, 1) := by decide +kernel
theorem dX0_isTied_33 : decode cX0_isTied 33 = .ok (.ifCond .lt 23, 3) := by decide +kernel
theorem dX0_isTied_36 : decode cX0_isTied 36 = .ok (.aload_n 0, 1) := by decide +kernel
theorem dX0_isTied_37 : decode cX0_isTied 37 = .ok (.getfield 42, 3) := by decide +kernel
theorem dX0_isTied_40 : decode cX0_isTied 40 = .ok (.iload_n 2, 1) := by decide +kernel
theorem dX0_isTied_41 : decode cX0_isTied 41 = .ok (.iaload, 1) := by decide +kernel
theorem dX0_isTied_42 : decode cX0_isTied 42 = .ok (.ifCond .eq 14, 3) := by decide +kernel
theorem dX0_isTied_45 : decode cX0_isTied 45 = .ok (.aload_n 0, 1) := by decide +kernel
theorem dX0_isTied_46 : decode cX0_isTied 46 = .ok (.iload_n 2, 1) := by decide +kernel
theorem dX0_isTied_47 : decode cX0_isTied 47 = .ok (.iload_n 1, 1) := by decide +kernel
theorem dX0_isTied_48 : decode cX0_isTied 48 = .ok (.invokevirtual 144, 3) := by decide +kernel
theorem dX0_isTied_51 : decode cX0_isTied 51 = .ok (.ifCond .eq 5, 3) := by decide +kernel
theorem dX0_isTied_54 : decode cX0_isTied 54 = .ok (.iconst 1, 1) := by decide +kernel
theorem dX0_isTied_55 : decode cX0_isTied 55 = .ok (.ireturn, 1) := by decide +kernel
theorem dX0_isTied_56 : decode cX0_isTied 56 = .ok (.iinc 2 1, 3) := by decide +kernel
theorem dX0_isTied_59 : decode cX0_isTied 59 = .ok (.goto (-47), 3) := by decide +kernel
theorem dX0_isTied_62 : decode cX0_isTied 62 = .ok (.iconst 0, 1) := by decide +kernel
theorem dX0_isTied_63 : decode cX0_isTied 63 = .ok (.ireturn, 1) := by decide +kernel
def De_isTied_56 (k12 : Int32 → Int32 → Option Int32) (d : Sl) (v1 : Int32) (v2 : Int32) : Option Int32 :=
  bnd (v2 + (1 : Int32)) fun v2_1 =>
  k12 v1 v2_1
def De_isTied_12 (d : Sl) : Nat → Int32 → Int32 → Option Int32
  | 0, _, _ => none
  | n + 1, v1, v2 =>
    if (d 17 16) ≤ v2 then
      (some (0 : Int32))
    else
      (if (d 17 18) ≤ 0 then
        (some (0 : Int32))
      else
        (if inb v2 192 then
        if (d 21 (ix v2)) < 0 then
          (De_isTied_56 (De_isTied_12 d n) d v1 v2)
        else
          (if inb v2 192 then
          if (d 28 (ix v2)) = 0 then
            (De_isTied_56 (De_isTied_12 d n) d v1 v2)
          else
            (bp (De_isBeneath d v2 v1) fun r2 =>
            if r2 = 0 then
              (De_isTied_56 (De_isTied_12 d n) d v1 v2)
            else
              (some (1 : Int32)))
          else none)
        else none))
def De_isTied (d : Sl) (a1 : Int32) : Option Int32 :=
  bp (De_isBusy d a1) fun r3 =>
  if r3 = 0 then
    (bnd (0 : Int32) fun v2_4 =>
    De_isTied_12 d FU a1 v2_4)
  else
    (some (1 : Int32))
theorem y_X0_isTied : YV yX0_isTied cX0_isTied 3 (some .boolean) 1 := ⟨q664, q665, q666, q147, by decide +kernel, by decide +kernel, by decide +kernel, by decide +kernel⟩
theorem r_De_isTied_56 {C : Cxt} {G : Geo} {M : Mem} {k : Nat} {d : Sl} (hC : Cx C cX0_isTied 3 "FrameHeirs$Deeds" (some .boolean) rm_X0_isTied G) (hk : LWd G k) (hk2 : 2 ≤ k) (k12 : Int32 → Int32 → Option Int32) (h12 : ∀ (v1 : Int32) (v2 : Int32), Rz C 3 G (setS M k) (poP avI ((setS M k) d)) 12 [(0, .inr (k, 17)), (1, .inl (.int v1)), (2, .inl (.int v2))] [] d (k12 v1 v2)) (v1 : Int32) (v2 : Int32) : Rz C 3 G (setS M k) (poP avI ((setS M k) d)) 56 [(0, .inr (k, 17)), (1, .inl (.int v1)), (2, .inl (.int v2))] [] d (De_isTied_56 k12 d v1 v2) := by
  unfold De_isTied_56
  refine z_iinc (pc := 56) (ls1 := fun v => [(2, .inl (.int v)), (0, .inr (k, 17)), (1, .inl (.int v1))]) hC 2 2 (by decide) (1 : Int32) rfl rfl (fun v => rfl) dX0_isTied_56 (fun v2_1 => ?_)
  refine z_goto (pc := 59) hC 12 rfl dX0_isTied_59 ?_
  exact z_sub [1, 2, 0] rfl (h12 v1 v2_1)
theorem r_De_isTied_12 {C : Cxt} {G : Geo} {M : Mem} {k : Nat} {d : Sl} (hC : Cx C cX0_isTied 3 "FrameHeirs$Deeds" (some .boolean) rm_X0_isTied G) (hk : LWd G k) (hk2 : 2 ≤ k) : ∀ (n : Nat) (v1 : Int32) (v2 : Int32), Rz C 3 G (setS M k) (poP avI ((setS M k) d)) 12 [(0, .inr (k, 17)), (1, .inl (.int v1)), (2, .inl (.int v2))] [] d (De_isTied_12 d n v1 v2) := by
  intro n
  induction n with
  | zero => intros; exact z_none
  | succ n ih =>
    intro v1 v2
    rw [De_isTied_12]
    refine z_iload_n (pc := 12) hC 2 rfl 2 rfl dX0_isTied_12 ?_
    refine z_aload_n (pc := 13) hC 0 rfl 0 rfl dX0_isTied_13 ?_
    refine zs_geti (pc := 14) hC (hk 17 rfl) f_17_16 q327 dX0_isTied_14 ?_
    refine z_icmp_ge (pc := 17) hC 62 rfl dX0_isTied_17 ?_ ?_
    · refine z_iconst (pc := 62) hC (0 : Int32) rfl dX0_isTied_62 ?_
      exact z_zret (pc := 63) hC rfl rfl dX0_isTied_63
    · refine z_aload_n (pc := 20) hC 0 rfl 0 rfl dX0_isTied_20 ?_
      refine zs_geti (pc := 21) hC (hk 17 rfl) f_17_18 q331 dX0_isTied_21 ?_
      refine z_if_le (pc := 24) hC 62 rfl dX0_isTied_24 ?_ ?_
      · refine z_iconst (pc := 62) hC (0 : Int32) rfl dX0_isTied_62 ?_
        exact z_zret (pc := 63) hC rfl rfl dX0_isTied_63
      · refine z_aload_n (pc := 27) hC 0 rfl 0 rfl dX0_isTied_27 ?_
        refine z_getc (pc := 28) hC (hk 17 rfl) f_17_3 q302 dX0_isTied_28 ?_
        refine z_iload_n (pc := 31) hC 2 rfl 2 rfl dX0_isTied_31 ?_
        refine zs_iald (pc := 32) hC (hk 21 rfl) rfl dX0_isTied_32 ?_
        refine z_if_lt (pc := 33) hC 56 rfl dX0_isTied_33 ?_ ?_
        · exact z_sub [0, 1, 2] rfl (r_De_isTied_56 hC hk hk2 _ ih v1 v2)
        · refine z_aload_n (pc := 36) hC 0 rfl 0 rfl dX0_isTied_36 ?_
          refine z_getc (pc := 37) hC (hk 17 rfl) f_17_10 q317 dX0_isTied_37 ?_
          refine z_iload_n (pc := 40) hC 2 rfl 2 rfl dX0_isTied_40 ?_
          refine zs_iald (pc := 41) hC (hk 28 rfl) rfl dX0_isTied_41 ?_
          refine z_if_eq (pc := 42) hC 56 rfl dX0_isTied_42 ?_ ?_
          · exact z_sub [0, 1, 2] rfl (r_De_isTied_56 hC hk hk2 _ ih v1 v2)
          · refine z_aload_n (pc := 45) hC 0 rfl 0 rfl dX0_isTied_45 ?_
            refine z_iload_n (pc := 46) hC 2 rfl 2 rfl dX0_isTied_46 ?_
            refine z_iload_n (pc := 47) hC 1 rfl 1 rfl dX0_isTied_47 ?_
            refine z_piV (pc := 48) (st := []) hC y_X0_isBeneath q668 [.inl (.int v2), .inl (.int v1)] rfl (hk 17 rfl) rfl rfl (c_X0_isBeneath hC.2.2.2.2.2.2.1 hk hk2) rfl ⟨rfl, rfl, (Nat.le_of_ble_eq_true rfl), (Nat.le_of_ble_eq_true rfl)⟩ (Nat.le_of_ble_eq_true rfl) dX0_isTied_48 (fun r2 => ?_)
            refine z_if_eq (pc := 51) hC 56 rfl dX0_isTied_51 ?_ ?_
            · exact z_sub [0, 1, 2] rfl (r_De_isTied_56 hC hk hk2 _ ih v1 v2)
            · refine z_iconst (pc := 54) hC (1 : Int32) rfl dX0_isTied_54 ?_
              exact z_zret (pc := 55) hC rfl rfl dX0_isTied_55
theorem r_De_isTied {C : Cxt} {G : Geo} {M : Mem} {k : Nat} (hC : Cx C cX0_isTied 3 "FrameHeirs$Deeds" (some .boolean) rm_X0_isTied G) (hk : LWd G k) (hk2 : 2 ≤ k) (d : Sl) (a1 : Int32) : Rz C 3 G (setS M k) (poP avI ((setS M k) d)) 0 [(0, .inr (k, 17)), (1, .inl (.int a1))] [] d (De_isTied d a1) := by
  unfold De_isTied
  refine z_aload_n (pc := 0) hC 0 rfl 0 rfl dX0_isTied_0 ?_
  refine z_iload_n (pc := 1) hC 1 rfl 1 rfl dX0_isTied_1 ?_
  refine z_piV (pc := 2) (st := []) hC y_X0_isBusy q667 [.inl (.int a1)] rfl (hk 17 rfl) rfl rfl (c_X0_isBusy hC.2.2.2.2.2.2.1 hk hk2) rfl ⟨rfl, rfl, (Nat.le_of_ble_eq_true rfl), (Nat.le_of_ble_eq_true rfl)⟩ (Nat.le_of_ble_eq_true rfl) dX0_isTied_2 (fun r3 => ?_)
  refine z_if_eq (pc := 5) hC 10 rfl dX0_isTied_5 ?_ ?_
  · refine z_iconst (pc := 10) hC (0 : Int32) rfl dX0_isTied_10 ?_
    refine z_istore_n (pc := 11) (ls1 := fun v => [(2, .inl (.int v)), (0, .inr (k, 17)), (1, .inl (.int a1))]) hC 2 rfl (by decide) (fun v => rfl) dX0_isTied_11 (fun v2_4 => ?_)
    exact z_sub [1, 2, 0] rfl (r_De_isTied_12 hC hk hk2 FU a1 v2_4)
  · refine z_iconst (pc := 8) hC (1 : Int32) rfl dX0_isTied_8 ?_
    exact z_zret (pc := 9) hC rfl rfl dX0_isTied_9
theorem c_X0_isTied {G : Geo} {M : Mem} {k : Nat} (hG : GOk G) (hk : LWd G k) (hk2 : 2 ≤ k) {d : Sl} {a1 : Int32} (l : Launch) (r : Int32) (h : De_isTied d a1 = some r) : Mt l yX0_isTied cX0_isTied 3 (some .boolean) rm_X0_isTied G [.inr (k, 17), .inl (.int a1)] ((setS M k) d) (avI r) ((setS M k) d) :=
  mt_of (mem := (setS M k)) (po := poP avI ((setS M k) d)) (x0 := d) (t := r) rfl hG [.inr (k, 17), .inl (.int a1)] (Nat.le_of_ble_eq_true rfl) rfl (fun C hC => r_De_isTied hC hk hk2 d a1) h
-- FrameHeirs$Deeds.coldestOf(IZ)I
abbrev rm_X0_coldestOf : Room := { frames := 2, cells := 0, slots := 0, locals := 46 }
theorem dX0_coldestOf_0 : decode cX0_coldestOf 0 = .ok (.iconst (-1), 1) := by decide +kernel
theorem dX0_coldestOf_1 : decode cX0_coldestOf 1 = .ok (.istore_n 3, 1) := by decide +kernel
theorem dX0_coldestOf_2 : decode cX0_coldestOf 2 = .ok (.iconst 0, 1) := by decide +kernel
theorem dX0_coldestOf_3 : decode cX0_coldestOf 3 = .ok (.istore 4, 2) := by decide +kernel
theorem dX0_coldestOf_5 : decode cX0_coldestOf 5 = .ok (.iload 4, 2) := by decide +kernel
theorem dX0_coldestOf_7 : decode cX0_coldestOf 7 = .ok (.bipush 32, 2) := by decide +kernel
theorem dX0_coldestOf_9 : decode cX0_coldestOf 9 = .ok (.if_icmp .ge 85, 3) := by decide +kernel
theorem dX0_coldestOf_12 : decode cX0_coldestOf 12 = .ok (.aload_n 0, 1) := by decide +kernel
theorem dX0_coldestOf_13 : decode cX0_coldestOf 13 = .ok (.iload_n 1, 1) := by decide +kernel
theorem dX0_coldestOf_14 : decode cX0_coldestOf 14 = .ok (.iload 4, 2) := by decide +kernel
theorem dX0_coldestOf_16 : decode cX0_coldestOf 16 = .ok (.invokevirtual 114, 3) := by decide +kernel
theorem dX0_coldestOf_19 : decode cX0_coldestOf 19 = .ok (.istore 5, 2) := by decide +kernel
theorem dX0_coldestOf_21 : decode cX0_coldestOf 21 = .ok (.iload 5, 2) := by decide +kernel
theorem dX0_coldestOf_23 : decode cX0_coldestOf 23 = .ok (.ifCond .lt 65, 3) := by decide +kernel
theorem dX0_coldestOf_26 : decode cX0_coldestOf 26 = .ok (.aload_n 0, 1) := by decide +kernel
theorem dX0_coldestOf_27 : decode cX0_coldestOf 27 = .ok (.getfield 15, 3) := by decide +kernel
theorem dX0_coldestOf_30 : decode cX0_coldestOf 30 = .ok (.iload 5, 2) := by decide +kernel
theorem dX0_coldestOf_32 : decode cX0_coldestOf 32 = .ok (.iaload, 1) := by decide +kernel
theorem dX0_coldestOf_33 : decode cX0_coldestOf 33 = .ok (.iload 4, 2) := by decide +kernel
theorem dX0_coldestOf_35 : decode cX0_coldestOf 35 = .ok (.if_icmp .ne 53, 3) := by decide +kernel
theorem dX0_coldestOf_38 : decode cX0_coldestOf 38 = .ok (.iload_n 3, 1) := by decide +kernel
theorem dX0_coldestOf_39 : decode cX0_coldestOf 39 = .ok (.ifCond .lt 23, 3) := by decide +kernel
theorem dX0_coldestOf_42 : decode cX0_coldestOf 42 = .ok (.aload_n 0, 1) := by decide +kernel
theorem dX0_coldestOf_43 : decode cX0_coldestOf 43 = .ok (.getfield 51, 3) := by decide +kernel
theorem dX0_coldestOf_46 : decode cX0_coldestOf 46 = .ok (.iload 5, 2) := by decide +kernel
theorem dX0_coldestOf_48 : decode cX0_coldestOf 48 = .ok (.faload, 1) := by decide +kernel
theorem dX0_coldestOf_49 : decode cX0_coldestOf 49 = .ok (.aload_n 0, 1) := by decide +kernel
theorem dX0_coldestOf_50 : decode cX0_coldestOf 50 = .ok (.getfield 51, 3) := by decide +kernel
theorem dX0_coldestOf_53 : decode cX0_coldestOf 53 = .ok (.iload_n 3, 1) := by decide +kernel
theorem dX0_coldestOf_54 : decode cX0_coldestOf 54 = .ok (.faload, 1) := by decide +kernel
theorem dX0_coldestOf_55 : decode cX0_coldestOf 55 = .ok (.fcmp .l, 1) := by decide +kernel
theorem dX0_coldestOf_56 : decode cX0_coldestOf 56 = .ok (.ifCond .lt 6, 3) := by decide +kernel
theorem dX0_coldestOf_59 : decode cX0_coldestOf 59 = .ok (.goto 29, 3) := by decide +kernel
theorem dX0_coldestOf_62 : decode cX0_coldestOf 62 = .ok (.iload_n 2, 1) := by decide +kernel
theorem dX0_coldestOf_63 : decode cX0_coldestOf 63 = .ok (.ifCond .eq 22, 3) := by decide +kernel
theorem dX0_coldestOf_66 : decode cX0_coldestOf 66 = .ok (.aload_n 0, 1) := by decide +kernel
theorem dX0_coldestOf_67 : decode cX0_coldestOf 67 = .ok (.getfield 27, 3) := by decide +kernel
theorem dX0_coldestOf_70 : decode cX0_coldestOf 70 = .ok (.iload 5, 2) := by decide +kernel
theorem dX0_coldestOf_72 : decode cX0_coldestOf 72 = .ok (.iaload, 1) := by decide +kernel
theorem dX0_coldestOf_73 : decode cX0_coldestOf 73 = .ok (.ifCond .lt 15, 3) := by decide +kernel
theorem dX0_coldestOf_76 : decode cX0_coldestOf 76 = .ok (.aload_n 0, 1) := by decide +kernel
theorem dX0_coldestOf_77 : decode cX0_coldestOf 77 = .ok (.iload 5, 2) := by decide +kernel
theorem dX0_coldestOf_79 : decode cX0_coldestOf 79 = .ok (.invokevirtual 148, 3) := by decide +kernel
theorem dX0_coldestOf_82 : decode cX0_coldestOf 82 = .ok (.ifCond .ne 6, 3) := by decide +kernel
theorem dX0_coldestOf_85 : decode cX0_coldestOf 85 = .ok (.iload 5, 2) := by decide +kernel
theorem dX0_coldestOf_87 : decode cX0_coldestOf 87 = .ok (.istore_n 3, 1) := by decide +kernel
theorem dX0_coldestOf_88 : decode cX0_coldestOf 88 = .ok (.iinc 4 1, 3) := by decide +kernel
theorem dX0_coldestOf_91 : decode cX0_coldestOf 91 = .ok (.goto (-86), 3) := by decide +kernel
theorem dX0_coldestOf_94 : decode cX0_coldestOf 94 = .ok (.iload_n 3, 1) := by decide +kernel
theorem dX0_coldestOf_95 : decode cX0_coldestOf 95 = .ok (.ireturn, 1) := by decide +kernel
def De_coldestOf_88 (k5 : Int32 → Int32 → Int32 → Int32 → Option Int32) (d : Sl) (v1 : Int32) (v2 : Int32) (v3 : Int32) (v4 : Int32) : Option Int32 :=
  bnd (v4 + (1 : Int32)) fun v4_1 =>
  k5 v1 v2 v3 v4_1
def De_coldestOf_85 (k5 : Int32 → Int32 → Int32 → Int32 → Option Int32) (d : Sl) (v1 : Int32) (v2 : Int32) (v4 : Int32) (v5 : Int32) : Option Int32 :=
  bnd v5 fun v3_2 =>
  De_coldestOf_88 k5 d v1 v2 v3_2 v4
def De_coldestOf_62 (k5 : Int32 → Int32 → Int32 → Int32 → Option Int32) (d : Sl) (v1 : Int32) (v2 : Int32) (v3 : Int32) (v4 : Int32) (v5 : Int32) : Option Int32 :=
  if v2 = 0 then
    (De_coldestOf_85 k5 d v1 v2 v4 v5)
  else
    (if inb v5 192 then
    if (d 23 (ix v5)) < 0 then
      (De_coldestOf_88 k5 d v1 v2 v3 v4)
    else
      (bp (De_isTied d v5) fun r3 =>
      if r3 = 0 then
        (De_coldestOf_85 k5 d v1 v2 v4 v5)
      else
        (De_coldestOf_88 k5 d v1 v2 v3 v4))
    else none)
def De_coldestOf_5 (d : Sl) : Nat → Int32 → Int32 → Int32 → Int32 → Option Int32
  | 0, _, _, _, _ => none
  | n + 1, v1, v2, v3, v4 =>
    if (32 : Int32) ≤ v4 then
      (some v3)
    else
      (bp (De_find d v1 v4) fun r4 =>
      bnd r4 fun v5_5 =>
      if v5_5 < 0 then
        (De_coldestOf_88 (De_coldestOf_5 d n) d v1 v2 v3 v4)
      else
        (if inb v5_5 192 then
        if (d 19 (ix v5_5)) = v4 then
          (if v3 < 0 then
            (De_coldestOf_62 (De_coldestOf_5 d n) d v1 v2 v3 v4 v5_5)
          else
            (if inb v5_5 192 then
            if inb v3 192 then
            if (Op.cmpValue (FP.fcmp ((d 31 (ix v5_5)).toUInt32) ((d 31 (ix v3)).toUInt32)) .l) < 0 then
              (De_coldestOf_62 (De_coldestOf_5 d n) d v1 v2 v3 v4 v5_5)
            else
              (De_coldestOf_88 (De_coldestOf_5 d n) d v1 v2 v3 v4)
            else none
            else none))
        else
          (De_coldestOf_88 (De_coldestOf_5 d n) d v1 v2 v3 v4)
        else none))
def De_coldestOf (d : Sl) (a1 : Int32) (a2 : Int32) : Option Int32 :=
  bnd (-1 : Int32) fun v3_6 =>
  bnd (0 : Int32) fun v4_7 =>
  De_coldestOf_5 d FU a1 a2 v3_6 v4_7
theorem y_X0_coldestOf : YV yX0_coldestOf cX0_coldestOf 6 (some .int) 2 := ⟨q859, q860, q861, q147, by decide +kernel, by decide +kernel, by decide +kernel, by decide +kernel⟩
theorem r_De_coldestOf_88 {C : Cxt} {G : Geo} {M : Mem} {k : Nat} {d : Sl} (hC : Cx C cX0_coldestOf 6 "FrameHeirs$Deeds" (some .int) rm_X0_coldestOf G) (hk : LWd G k) (hk2 : 2 ≤ k) (k5 : Int32 → Int32 → Int32 → Int32 → Option Int32) (h5 : ∀ (v1 : Int32) (v2 : Int32) (v3 : Int32) (v4 : Int32), Rz C 6 G (setS M k) (poP avI ((setS M k) d)) 5 [(0, .inr (k, 17)), (1, .inl (.int v1)), (2, .inl (.int v2)), (3, .inl (.int v3)), (4, .inl (.int v4))] [] d (k5 v1 v2 v3 v4)) (v1 : Int32) (v2 : Int32) (v3 : Int32) (v4 : Int32) : Rz C 6 G (setS M k) (poP avI ((setS M k) d)) 88 [(0, .inr (k, 17)), (1, .inl (.int v1)), (2, .inl (.int v2)), (3, .inl (.int v3)), (4, .inl (.int v4))] [] d (De_coldestOf_88 k5 d v1 v2 v3 v4) := by
  unfold De_coldestOf_88
  refine z_iinc (pc := 88) (ls1 := fun v => [(4, .inl (.int v)), (0, .inr (k, 17)), (1, .inl (.int v1)), (2, .inl (.int v2)), (3, .inl (.int v3))]) hC 4 4 (by decide) (1 : Int32) rfl rfl (fun v => rfl) dX0_coldestOf_88 (fun v4_1 => ?_)
  refine z_goto (pc := 91) hC 5 rfl dX0_coldestOf_91 ?_
  exact z_sub [1, 2, 3, 4, 0] rfl (h5 v1 v2 v3 v4_1)
theorem r_De_coldestOf_85 {C : Cxt} {G : Geo} {M : Mem} {k : Nat} {d : Sl} (hC : Cx C cX0_coldestOf 6 "FrameHeirs$Deeds" (some .int) rm_X0_coldestOf G) (hk : LWd G k) (hk2 : 2 ≤ k) (k5 : Int32 → Int32 → Int32 → Int32 → Option Int32) (h5 : ∀ (v1 : Int32) (v2 : Int32) (v3 : Int32) (v4 : Int32), Rz C 6 G (setS M k) (poP avI ((setS M k) d)) 5 [(0, .inr (k, 17)), (1, .inl (.int v1)), (2, .inl (.int v2)), (3, .inl (.int v3)), (4, .inl (.int v4))] [] d (k5 v1 v2 v3 v4)) (v1 : Int32) (v2 : Int32) (v4 : Int32) (v5 : Int32) : Rz C 6 G (setS M k) (poP avI ((setS M k) d)) 85 [(0, .inr (k, 17)), (1, .inl (.int v1)), (2, .inl (.int v2)), (4, .inl (.int v4)), (5, .inl (.int v5))] [] d (De_coldestOf_85 k5 d v1 v2 v4 v5) := by
  unfold De_coldestOf_85
  refine z_iload (pc := 85) hC 5 4 rfl dX0_coldestOf_85 ?_
  refine z_istore_n (pc := 87) (ls1 := fun v => [(3, .inl (.int v)), (0, .inr (k, 17)), (1, .inl (.int v1)), (2, .inl (.int v2)), (4, .inl (.int v4)), (5, .inl (.int v5))]) hC 3 rfl (by decide) (fun v => rfl) dX0_coldestOf_87 (fun v3_2 => ?_)
  exact z_sub [1, 2, 3, 0, 4] rfl (r_De_coldestOf_88 hC hk hk2 k5 h5 v1 v2 v3_2 v4)
theorem r_De_coldestOf_62 {C : Cxt} {G : Geo} {M : Mem} {k : Nat} {d : Sl} (hC : Cx C cX0_coldestOf 6 "FrameHeirs$Deeds" (some .int) rm_X0_coldestOf G) (hk : LWd G k) (hk2 : 2 ≤ k) (k5 : Int32 → Int32 → Int32 → Int32 → Option Int32) (h5 : ∀ (v1 : Int32) (v2 : Int32) (v3 : Int32) (v4 : Int32), Rz C 6 G (setS M k) (poP avI ((setS M k) d)) 5 [(0, .inr (k, 17)), (1, .inl (.int v1)), (2, .inl (.int v2)), (3, .inl (.int v3)), (4, .inl (.int v4))] [] d (k5 v1 v2 v3 v4)) (v1 : Int32) (v2 : Int32) (v3 : Int32) (v4 : Int32) (v5 : Int32) : Rz C 6 G (setS M k) (poP avI ((setS M k) d)) 62 [(0, .inr (k, 17)), (1, .inl (.int v1)), (2, .inl (.int v2)), (3, .inl (.int v3)), (4, .inl (.int v4)), (5, .inl (.int v5))] [] d (De_coldestOf_62 k5 d v1 v2 v3 v4 v5) := by
  unfold De_coldestOf_62
  refine z_iload_n (pc := 62) hC 2 rfl 2 rfl dX0_coldestOf_62 ?_
  refine z_if_eq (pc := 63) hC 85 rfl dX0_coldestOf_63 ?_ ?_
  · exact z_sub [0, 1, 2, 4, 5] rfl (r_De_coldestOf_85 hC hk hk2 k5 h5 v1 v2 v4 v5)
  · refine z_aload_n (pc := 66) hC 0 rfl 0 rfl dX0_coldestOf_66 ?_
    refine z_getc (pc := 67) hC (hk 17 rfl) f_17_5 q308 dX0_coldestOf_67 ?_
    refine z_iload (pc := 70) hC 5 5 rfl dX0_coldestOf_70 ?_
    refine zs_iald (pc := 72) hC (hk 23 rfl) rfl dX0_coldestOf_72 ?_
    refine z_if_lt (pc := 73) hC 88 rfl dX0_coldestOf_73 ?_ ?_
    · exact z_sub [0, 1, 2, 3, 4] rfl (r_De_coldestOf_88 hC hk hk2 k5 h5 v1 v2 v3 v4)
    · refine z_aload_n (pc := 76) hC 0 rfl 0 rfl dX0_coldestOf_76 ?_
      refine z_iload (pc := 77) hC 5 5 rfl dX0_coldestOf_77 ?_
      refine z_piV (pc := 79) (st := []) hC y_X0_isTied q862 [.inl (.int v5)] rfl (hk 17 rfl) rfl rfl (c_X0_isTied hC.2.2.2.2.2.2.1 hk hk2) rfl ⟨rfl, rfl, (Nat.le_of_ble_eq_true rfl), (Nat.le_of_ble_eq_true rfl)⟩ (Nat.le_of_ble_eq_true rfl) dX0_coldestOf_79 (fun r3 => ?_)
      refine z_if_ne (pc := 82) hC 88 rfl dX0_coldestOf_82 ?_ ?_
      · exact z_sub [0, 1, 2, 3, 4] rfl (r_De_coldestOf_88 hC hk hk2 k5 h5 v1 v2 v3 v4)
      · exact z_sub [0, 1, 2, 4, 5] rfl (r_De_coldestOf_85 hC hk hk2 k5 h5 v1 v2 v4 v5)
theorem r_De_coldestOf_5 {C : Cxt} {G : Geo} {M : Mem} {k : Nat} {d : Sl} (hC : Cx C cX0_coldestOf 6 "FrameHeirs$Deeds" (some .int) rm_X0_coldestOf G) (hk : LWd G k) (hk2 : 2 ≤ k) : ∀ (n : Nat) (v1 : Int32) (v2 : Int32) (v3 : Int32) (v4 : Int32), Rz C 6 G (setS M k) (poP avI ((setS M k) d)) 5 [(0, .inr (k, 17)), (1, .inl (.int v1)), (2, .inl (.int v2)), (3, .inl (.int v3)), (4, .inl (.int v4))] [] d (De_coldestOf_5 d n v1 v2 v3 v4) := by
  intro n
  induction n with
  | zero => intros; exact z_none
  | succ n ih =>
    intro v1 v2 v3 v4
    rw [De_coldestOf_5]
    refine z_iload (pc := 5) hC 4 4 rfl dX0_coldestOf_5 ?_
    refine z_bipush (pc := 7) hC (32 : Int32) rfl dX0_coldestOf_7 ?_
    refine z_icmp_ge (pc := 9) hC 94 rfl dX0_coldestOf_9 ?_ ?_
    · refine z_iload_n (pc := 94) hC 3 rfl 3 rfl dX0_coldestOf_94 ?_
      exact z_iret (pc := 95) hC rfl dX0_coldestOf_95
    · refine z_aload_n (pc := 12) hC 0 rfl 0 rfl dX0_coldestOf_12 ?_
      refine z_iload_n (pc := 13) hC 1 rfl 1 rfl dX0_coldestOf_13 ?_
      refine z_iload (pc := 14) hC 4 4 rfl dX0_coldestOf_14 ?_
      refine z_piV (pc := 16) (st := []) hC y_X0_find q722 [.inl (.int v1), .inl (.int v4)] rfl (hk 17 rfl) rfl rfl (c_X0_find hC.2.2.2.2.2.2.1 hk hk2) rfl ⟨rfl, rfl, (Nat.le_of_ble_eq_true rfl), (Nat.le_of_ble_eq_true rfl)⟩ (Nat.le_of_ble_eq_true rfl) dX0_coldestOf_16 (fun r4 => ?_)
      refine z_istore (pc := 19) (ls1 := fun v => [(5, .inl (.int v)), (0, .inr (k, 17)), (1, .inl (.int v1)), (2, .inl (.int v2)), (3, .inl (.int v3)), (4, .inl (.int v4))]) hC 5 (by decide) (fun v => rfl) dX0_coldestOf_19 (fun v5_5 => ?_)
      refine z_iload (pc := 21) hC 5 0 rfl dX0_coldestOf_21 ?_
      refine z_if_lt (pc := 23) hC 88 rfl dX0_coldestOf_23 ?_ ?_
      · exact z_sub [1, 2, 3, 4, 5] rfl (r_De_coldestOf_88 hC hk hk2 _ ih v1 v2 v3 v4)
      · refine z_aload_n (pc := 26) hC 0 rfl 1 rfl dX0_coldestOf_26 ?_
        refine z_getc (pc := 27) hC (hk 17 rfl) f_17_1 q295 dX0_coldestOf_27 ?_
        refine z_iload (pc := 30) hC 5 0 rfl dX0_coldestOf_30 ?_
        refine zs_iald (pc := 32) hC (hk 19 rfl) rfl dX0_coldestOf_32 ?_
        refine z_iload (pc := 33) hC 4 5 rfl dX0_coldestOf_33 ?_
        refine z_icmp_ne (pc := 35) hC 88 rfl dX0_coldestOf_35 ?_ ?_
        · exact z_sub [1, 2, 3, 4, 5] rfl (r_De_coldestOf_88 hC hk hk2 _ ih v1 v2 v3 v4)
        · refine z_iload_n (pc := 38) hC 3 rfl 4 rfl dX0_coldestOf_38 ?_
          refine z_if_lt (pc := 39) hC 62 rfl dX0_coldestOf_39 ?_ ?_
          · exact z_sub [1, 2, 3, 4, 5, 0] rfl (r_De_coldestOf_62 hC hk hk2 _ ih v1 v2 v3 v4 v5_5)
          · refine z_aload_n (pc := 42) hC 0 rfl 1 rfl dX0_coldestOf_42 ?_
            refine z_getc (pc := 43) hC (hk 17 rfl) f_17_13 q321 dX0_coldestOf_43 ?_
            refine z_iload (pc := 46) hC 5 0 rfl dX0_coldestOf_46 ?_
            refine zs_fald (pc := 48) hC (hk 31 rfl) rfl dX0_coldestOf_48 ?_
            refine z_aload_n (pc := 49) hC 0 rfl 1 rfl dX0_coldestOf_49 ?_
            refine z_getc (pc := 50) hC (hk 17 rfl) f_17_13 q321 dX0_coldestOf_50 ?_
            refine z_iload_n (pc := 53) hC 3 rfl 4 rfl dX0_coldestOf_53 ?_
            refine zs_fald (pc := 54) hC (hk 31 rfl) rfl dX0_coldestOf_54 ?_
            refine z_fcmp (pc := 55) hC dX0_coldestOf_55 ?_
            refine z_if_lt (pc := 56) hC 62 rfl dX0_coldestOf_56 ?_ ?_
            · exact z_sub [1, 2, 3, 4, 5, 0] rfl (r_De_coldestOf_62 hC hk hk2 _ ih v1 v2 v3 v4 v5_5)
            · refine z_goto (pc := 59) hC 88 rfl dX0_coldestOf_59 ?_
              exact z_sub [1, 2, 3, 4, 5] rfl (r_De_coldestOf_88 hC hk hk2 _ ih v1 v2 v3 v4)
theorem r_De_coldestOf {C : Cxt} {G : Geo} {M : Mem} {k : Nat} (hC : Cx C cX0_coldestOf 6 "FrameHeirs$Deeds" (some .int) rm_X0_coldestOf G) (hk : LWd G k) (hk2 : 2 ≤ k) (d : Sl) (a1 : Int32) (a2 : Int32) : Rz C 6 G (setS M k) (poP avI ((setS M k) d)) 0 [(0, .inr (k, 17)), (1, .inl (.int a1)), (2, .inl (.int a2))] [] d (De_coldestOf d a1 a2) := by
  unfold De_coldestOf
  refine z_iconst (pc := 0) hC (-1 : Int32) rfl dX0_coldestOf_0 ?_
  refine z_istore_n (pc := 1) (ls1 := fun v => [(3, .inl (.int v)), (0, .inr (k, 17)), (1, .inl (.int a1)), (2, .inl (.int a2))]) hC 3 rfl (by decide) (fun v => rfl) dX0_coldestOf_1 (fun v3_6 => ?_)
  refine z_iconst (pc := 2) hC (0 : Int32) rfl dX0_coldestOf_2 ?_
  refine z_istore (pc := 3) (ls1 := fun v => [(4, .inl (.int v)), (3, .inl (.int v3_6)), (0, .inr (k, 17)), (1, .inl (.int a1)), (2, .inl (.int a2))]) hC 4 (by decide) (fun v => rfl) dX0_coldestOf_3 (fun v4_7 => ?_)
  exact z_sub [2, 3, 4, 1, 0] rfl (r_De_coldestOf_5 hC hk hk2 FU a1 a2 v3_6 v4_7)
theorem c_X0_coldestOf {G : Geo} {M : Mem} {k : Nat} (hG : GOk G) (hk : LWd G k) (hk2 : 2 ≤ k) {d : Sl} {a1 : Int32} {a2 : Int32} (l : Launch) (r : Int32) (h : De_coldestOf d a1 a2 = some r) : Mt l yX0_coldestOf cX0_coldestOf 6 (some .int) rm_X0_coldestOf G [.inr (k, 17), .inl (.int a1), .inl (.int a2)] ((setS M k) d) (avI r) ((setS M k) d) :=
  mt_of (mem := (setS M k)) (po := poP avI ((setS M k) d)) (x0 := d) (t := r) rfl hG [.inr (k, 17), .inl (.int a1), .inl (.int a2)] (Nat.le_of_ble_eq_true rfl) rfl (fun C hC => r_De_coldestOf hC hk hk2 d a1 a2) h
-- FrameHeirs$Deeds.warmthOf(I)F
abbrev rm_X0_warmthOf : Room := { frames := 1, cells := 0, slots := 0, locals := 22 }
theorem dX0_warmthOf_0 : decode cX0_warmthOf 0 = .ok (.fconst 0, 1) := by decide +kernel
theorem dX0_warmthOf_1 : decode cX0_warmthOf 1 = .ok (.fstore_n 2, 1) := by decide +kernel
theorem dX0_warmthOf_2 : decode cX0_warmthOf 2 = .ok (.iconst 0, 1) := by decide +kernel
theorem dX0_warmthOf_3 : decode cX0_warmthOf 3 = .ok (.istore_n 3, 1) := by decide +kernel
theorem dX0_warmthOf_4 : decode cX0_warmthOf 4 = .ok (.iload_n 3, 1) := by decide +kernel
theorem dX0_warmthOf_5 : decode cX0_warmthOf 5 = .ok (.bipush 32, 2) := by decide +kernel
theorem dX0_warmthOf_7 : decode cX0_warmthOf 7 = .ok (.if_icmp .ge 62, 3) := by decide +kernel
theorem dX0_warmthOf_10 : decode cX0_warmthOf 10 = .ok (.aload_n 0, 1) := by decide +kernel
theorem dX0_warmthOf_11 : decode cX0_warmthOf 11 = .ok (.iload_n 1, 1) := by decide +kernel
theorem dX0_warmthOf_12 : decode cX0_warmthOf 12 = .ok (.iload_n 3, 1) := by decide +kernel
theorem dX0_warmthOf_13 : decode cX0_warmthOf 13 = .ok (.invokevirtual 114, 3) := by decide +kernel
theorem dX0_warmthOf_16 : decode cX0_warmthOf 16 = .ok (.istore 4, 2) := by decide +kernel
theorem dX0_warmthOf_18 : decode cX0_warmthOf 18 = .ok (.iload 4, 2) := by decide +kernel
theorem dX0_warmthOf_20 : decode cX0_warmthOf 20 = .ok (.ifCond .lt 43, 3) := by decide +kernel
theorem dX0_warmthOf_23 : decode cX0_warmthOf 23 = .ok (.aload_n 0, 1) := by decide +kernel
theorem dX0_warmthOf_24 : decode cX0_warmthOf 24 = .ok (.getfield 15, 3) := by decide +kernel
theorem dX0_warmthOf_27 : decode cX0_warmthOf 27 = .ok (.iload 4, 2) := by decide +kernel
theorem dX0_warmthOf_29 : decode cX0_warmthOf 29 = .ok (.iaload, 1) := by decide +kernel
theorem dX0_warmthOf_30 : decode cX0_warmthOf 30 = .ok (.iload_n 3, 1) := by decide +kernel
theorem dX0_warmthOf_31 : decode cX0_warmthOf 31 = .ok (.if_icmp .ne 32, 3) := by decide +kernel
theorem dX0_warmthOf_34 : decode cX0_warmthOf 34 = .ok (.iconst 1, 1) := by decide +kernel
theorem dX0_warmthOf_35 : decode cX0_warmthOf 35 = .ok (.aload_n 0, 1) := by decide +kernel
theorem dX0_warmthOf_36 : decode cX0_warmthOf 36 = .ok (.getfield 21, 3) := by decide +kernel
theorem dX0_warmthOf_39 : decode cX0_warmthOf 39 = .ok (.iload 4, 2) := by decide +kernel
theorem dX0_warmthOf_41 : decode cX0_warmthOf 41 = .ok (.iaload, 1) := by decide +kernel
theorem dX0_warmthOf_42 : decode cX0_warmthOf 42 = .ok (.ishl, 1) := by decide +kernel
theorem dX0_warmthOf_43 : decode cX0_warmthOf 43 = .ok (.i2f, 1) := by decide +kernel
theorem dX0_warmthOf_44 : decode cX0_warmthOf 44 = .ok (.fstore 5, 2) := by decide +kernel
theorem dX0_warmthOf_46 : decode cX0_warmthOf 46 = .ok (.aload_n 0, 1) := by decide +kernel
theorem dX0_warmthOf_47 : decode cX0_warmthOf 47 = .ok (.getfield 51, 3) := by decide +kernel
theorem dX0_warmthOf_50 : decode cX0_warmthOf 50 = .ok (.iload 4, 2) := by decide +kernel
theorem dX0_warmthOf_52 : decode cX0_warmthOf 52 = .ok (.faload, 1) := by decide +kernel
theorem dX0_warmthOf_53 : decode cX0_warmthOf 53 = .ok (.fload 5, 2) := by decide +kernel
theorem dX0_warmthOf_55 : decode cX0_warmthOf 55 = .ok (.fmul, 1) := by decide +kernel
theorem dX0_warmthOf_56 : decode cX0_warmthOf 56 = .ok (.fstore 6, 2) := by decide +kernel
theorem dX0_warmthOf_58 : decode cX0_warmthOf 58 = .ok (.fload_n 2, 1) := by decide +kernel
theorem dX0_warmthOf_59 : decode cX0_warmthOf 59 = .ok (.fload 6, 2) := by decide +kernel
theorem dX0_warmthOf_61 : decode cX0_warmthOf 61 = .ok (.fadd, 1) := by decide +kernel
theorem dX0_warmthOf_62 : decode cX0_warmthOf 62 = .ok (.fstore_n 2, 1) := by decide +kernel
theorem dX0_warmthOf_63 : decode cX0_warmthOf 63 = .ok (.iinc 3 1, 3) := by decide +kernel
theorem dX0_warmthOf_66 : decode cX0_warmthOf 66 = .ok (.goto (-62), 3) := by decide +kernel
theorem dX0_warmthOf_69 : decode cX0_warmthOf 69 = .ok (.fload_n 2, 1) := by decide +kernel
theorem dX0_warmthOf_70 : decode cX0_warmthOf 70 = .ok (.freturn, 1) := by decide +kernel
def De_warmthOf_63 (k4 : Int32 → UInt32 → Int32 → Option UInt32) (d : Sl) (v1 : Int32) (v2 : UInt32) (v3 : Int32) : Option UInt32 :=
  bnd (v3 + (1 : Int32)) fun v3_1 =>
  k4 v1 v2 v3_1
def De_warmthOf_4 (d : Sl) : Nat → Int32 → UInt32 → Int32 → Option UInt32
  | 0, _, _, _ => none
  | n + 1, v1, v2, v3 =>
    if (32 : Int32) ≤ v3 then
      (some v2)
    else
      (bp (De_find d v1 v3) fun r2 =>
      bnd r2 fun v4_3 =>
      if v4_3 < 0 then
        (De_warmthOf_63 (De_warmthOf_4 d n) d v1 v2 v3)
      else
        (if inb v4_3 192 then
        if (d 19 (ix v4_3)) = v3 then
          (if inb v4_3 192 then
          bnd (FP.i2f ((1 : Int32) <<< ((d 21 (ix v4_3)) &&& 31))) fun v5_4 =>
          if inb v4_3 192 then
          if nn32 (FP.fmul ((d 31 (ix v4_3)).toUInt32) v5_4) then
          bnd (FP.fmul ((d 31 (ix v4_3)).toUInt32) v5_4) fun v6_5 =>
          if nn32 (FP.fadd v2 v6_5) then
          bnd (FP.fadd v2 v6_5) fun v2_6 =>
          De_warmthOf_63 (De_warmthOf_4 d n) d v1 v2_6 v3
          else none
          else none
          else none
          else none)
        else
          (De_warmthOf_63 (De_warmthOf_4 d n) d v1 v2 v3)
        else none))
def De_warmthOf (d : Sl) (a1 : Int32) : Option UInt32 :=
  bnd FP.fconst0 fun v2_7 =>
  bnd (0 : Int32) fun v3_8 =>
  De_warmthOf_4 d FU a1 v2_7 v3_8
theorem y_X0_warmthOf : YV yX0_warmthOf cX0_warmthOf 7 (some .float) 1 := ⟨q1027, q1028, q1029, q147, by decide +kernel, by decide +kernel, by decide +kernel, by decide +kernel⟩
theorem r_De_warmthOf_63 {C : Cxt} {G : Geo} {M : Mem} {k : Nat} {d : Sl} (hC : Cx C cX0_warmthOf 7 "FrameHeirs$Deeds" (some .float) rm_X0_warmthOf G) (hk : LWd G k) (hk2 : 2 ≤ k) (k4 : Int32 → UInt32 → Int32 → Option UInt32) (h4 : ∀ (v1 : Int32) (v2 : UInt32) (v3 : Int32), Rz C 7 G (setS M k) (poP avF ((setS M k) d)) 4 [(0, .inr (k, 17)), (1, .inl (.int v1)), (2, .inl (.float v2)), (3, .inl (.int v3))] [] d (k4 v1 v2 v3)) (v1 : Int32) (v2 : UInt32) (v3 : Int32) : Rz C 7 G (setS M k) (poP avF ((setS M k) d)) 63 [(0, .inr (k, 17)), (1, .inl (.int v1)), (2, .inl (.float v2)), (3, .inl (.int v3))] [] d (De_warmthOf_63 k4 d v1 v2 v3) := by
  unfold De_warmthOf_63
  refine z_iinc (pc := 63) (ls1 := fun v => [(3, .inl (.int v)), (0, .inr (k, 17)), (1, .inl (.int v1)), (2, .inl (.float v2))]) hC 3 3 (by decide) (1 : Int32) rfl rfl (fun v => rfl) dX0_warmthOf_63 (fun v3_1 => ?_)
  refine z_goto (pc := 66) hC 4 rfl dX0_warmthOf_66 ?_
  exact z_sub [1, 2, 3, 0] rfl (h4 v1 v2 v3_1)
theorem r_De_warmthOf_4 {C : Cxt} {G : Geo} {M : Mem} {k : Nat} {d : Sl} (hC : Cx C cX0_warmthOf 7 "FrameHeirs$Deeds" (some .float) rm_X0_warmthOf G) (hk : LWd G k) (hk2 : 2 ≤ k) : ∀ (n : Nat) (v1 : Int32) (v2 : UInt32) (v3 : Int32), Rz C 7 G (setS M k) (poP avF ((setS M k) d)) 4 [(0, .inr (k, 17)), (1, .inl (.int v1)), (2, .inl (.float v2)), (3, .inl (.int v3))] [] d (De_warmthOf_4 d n v1 v2 v3) := by
  intro n
  induction n with
  | zero => intros; exact z_none
  | succ n ih =>
    intro v1 v2 v3
    rw [De_warmthOf_4]
    refine z_iload_n (pc := 4) hC 3 rfl 3 rfl dX0_warmthOf_4 ?_
    refine z_bipush (pc := 5) hC (32 : Int32) rfl dX0_warmthOf_5 ?_
    refine z_icmp_ge (pc := 7) hC 69 rfl dX0_warmthOf_7 ?_ ?_
    · refine z_fload_n (pc := 69) hC 2 rfl 2 rfl dX0_warmthOf_69 ?_
      exact z_fret (pc := 70) hC rfl dX0_warmthOf_70
    · refine z_aload_n (pc := 10) hC 0 rfl 0 rfl dX0_warmthOf_10 ?_
      refine z_iload_n (pc := 11) hC 1 rfl 1 rfl dX0_warmthOf_11 ?_
      refine z_iload_n (pc := 12) hC 3 rfl 3 rfl dX0_warmthOf_12 ?_
      refine z_piV (pc := 13) (st := []) hC y_X0_find q722 [.inl (.int v1), .inl (.int v3)] rfl (hk 17 rfl) rfl rfl (c_X0_find hC.2.2.2.2.2.2.1 hk hk2) rfl ⟨rfl, rfl, (Nat.le_of_ble_eq_true rfl), (Nat.le_of_ble_eq_true rfl)⟩ (Nat.le_of_ble_eq_true rfl) dX0_warmthOf_13 (fun r2 => ?_)
      refine z_istore (pc := 16) (ls1 := fun v => [(4, .inl (.int v)), (0, .inr (k, 17)), (1, .inl (.int v1)), (2, .inl (.float v2)), (3, .inl (.int v3))]) hC 4 (by decide) (fun v => rfl) dX0_warmthOf_16 (fun v4_3 => ?_)
      refine z_iload (pc := 18) hC 4 0 rfl dX0_warmthOf_18 ?_
      refine z_if_lt (pc := 20) hC 63 rfl dX0_warmthOf_20 ?_ ?_
      · exact z_sub [1, 2, 3, 4] rfl (r_De_warmthOf_63 hC hk hk2 _ ih v1 v2 v3)
      · refine z_aload_n (pc := 23) hC 0 rfl 1 rfl dX0_warmthOf_23 ?_
        refine z_getc (pc := 24) hC (hk 17 rfl) f_17_1 q295 dX0_warmthOf_24 ?_
        refine z_iload (pc := 27) hC 4 0 rfl dX0_warmthOf_27 ?_
        refine zs_iald (pc := 29) hC (hk 19 rfl) rfl dX0_warmthOf_29 ?_
        refine z_iload_n (pc := 30) hC 3 rfl 4 rfl dX0_warmthOf_30 ?_
        refine z_icmp_ne (pc := 31) hC 63 rfl dX0_warmthOf_31 ?_ ?_
        · exact z_sub [1, 2, 3, 4] rfl (r_De_warmthOf_63 hC hk hk2 _ ih v1 v2 v3)
        · refine z_iconst (pc := 34) hC (1 : Int32) rfl dX0_warmthOf_34 ?_
          refine z_aload_n (pc := 35) hC 0 rfl 1 rfl dX0_warmthOf_35 ?_
          refine z_getc (pc := 36) hC (hk 17 rfl) f_17_3 q302 dX0_warmthOf_36 ?_
          refine z_iload (pc := 39) hC 4 0 rfl dX0_warmthOf_39 ?_
          refine zs_iald (pc := 41) hC (hk 21 rfl) rfl dX0_warmthOf_41 ?_
          refine z_ishl (pc := 42) hC dX0_warmthOf_42 ?_
          refine z_i2f (pc := 43) hC dX0_warmthOf_43 ?_
          refine z_fstore (pc := 44) (ls1 := fun v => [(5, .inl (.float v)), (4, .inl (.int v4_3)), (0, .inr (k, 17)), (1, .inl (.int v1)), (2, .inl (.float v2)), (3, .inl (.int v3))]) hC 5 (by decide) (fun v => rfl) dX0_warmthOf_44 (fun v5_4 => ?_)
          refine z_aload_n (pc := 46) hC 0 rfl 2 rfl dX0_warmthOf_46 ?_
          refine z_getc (pc := 47) hC (hk 17 rfl) f_17_13 q321 dX0_warmthOf_47 ?_
          refine z_iload (pc := 50) hC 4 1 rfl dX0_warmthOf_50 ?_
          refine zs_fald (pc := 52) hC (hk 31 rfl) rfl dX0_warmthOf_52 ?_
          refine z_fload (pc := 53) hC 5 0 rfl dX0_warmthOf_53 ?_
          refine z_fmul (pc := 55) hC dX0_warmthOf_55 ?_
          refine z_fstore (pc := 56) (ls1 := fun v => [(6, .inl (.float v)), (5, .inl (.float v5_4)), (4, .inl (.int v4_3)), (0, .inr (k, 17)), (1, .inl (.int v1)), (2, .inl (.float v2)), (3, .inl (.int v3))]) hC 6 (by decide) (fun v => rfl) dX0_warmthOf_56 (fun v6_5 => ?_)
          refine z_fload_n (pc := 58) hC 2 rfl 5 rfl dX0_warmthOf_58 ?_
          refine z_fload (pc := 59) hC 6 0 rfl dX0_warmthOf_59 ?_
          refine z_fadd (pc := 61) hC dX0_warmthOf_61 ?_
          refine z_fstore_n (pc := 62) (ls1 := fun v => [(2, .inl (.float v)), (6, .inl (.float v6_5)), (5, .inl (.float v5_4)), (4, .inl (.int v4_3)), (0, .inr (k, 17)), (1, .inl (.int v1)), (3, .inl (.int v3))]) hC 2 rfl (by decide) (fun v => rfl) dX0_warmthOf_62 (fun v2_6 => ?_)
          exact z_sub [4, 5, 0, 6] rfl (r_De_warmthOf_63 hC hk hk2 _ ih v1 v2_6 v3)
theorem r_De_warmthOf {C : Cxt} {G : Geo} {M : Mem} {k : Nat} (hC : Cx C cX0_warmthOf 7 "FrameHeirs$Deeds" (some .float) rm_X0_warmthOf G) (hk : LWd G k) (hk2 : 2 ≤ k) (d : Sl) (a1 : Int32) : Rz C 7 G (setS M k) (poP avF ((setS M k) d)) 0 [(0, .inr (k, 17)), (1, .inl (.int a1))] [] d (De_warmthOf d a1) := by
  unfold De_warmthOf
  refine z_fconst0 (pc := 0) hC dX0_warmthOf_0 ?_
  refine z_fstore_n (pc := 1) (ls1 := fun v => [(2, .inl (.float v)), (0, .inr (k, 17)), (1, .inl (.int a1))]) hC 2 rfl (by decide) (fun v => rfl) dX0_warmthOf_1 (fun v2_7 => ?_)
  refine z_iconst (pc := 2) hC (0 : Int32) rfl dX0_warmthOf_2 ?_
  refine z_istore_n (pc := 3) (ls1 := fun v => [(3, .inl (.int v)), (2, .inl (.float v2_7)), (0, .inr (k, 17)), (1, .inl (.int a1))]) hC 3 rfl (by decide) (fun v => rfl) dX0_warmthOf_3 (fun v3_8 => ?_)
  exact z_sub [2, 3, 1, 0] rfl (r_De_warmthOf_4 hC hk hk2 FU a1 v2_7 v3_8)
theorem c_X0_warmthOf {G : Geo} {M : Mem} {k : Nat} (hG : GOk G) (hk : LWd G k) (hk2 : 2 ≤ k) {d : Sl} {a1 : Int32} (l : Launch) (r : UInt32) (h : De_warmthOf d a1 = some r) : Mt l yX0_warmthOf cX0_warmthOf 7 (some .float) rm_X0_warmthOf G [.inr (k, 17), .inl (.int a1)] ((setS M k) d) (avF r) ((setS M k) d) :=
  mt_of (mem := (setS M k)) (po := poP avF ((setS M k) d)) (x0 := d) (t := r) rfl hG [.inr (k, 17), .inl (.int a1)] (Nat.le_of_ble_eq_true rfl) rfl (fun C hC => r_De_warmthOf hC hk hk2 d a1) h
-- FrameHeirs$Deeds.coolDown(I)V
abbrev rm_X0_coolDown : Room := { frames := 0, cells := 0, slots := 0, locals := 0 }
theorem dX0_coolDown_0 : decode cX0_coolDown 0 = .ok (.iload_n 1, 1) := by decide +kernel
theorem dX0_coolDown_1 : decode cX0_coolDown 1 = .ok (.i2f, 1) := by decide +kernel
theorem dX0_coolDown_2 : decode cX0_coolDown 2 = .ok (.ldc 151, 2) := by decide +kernel
theorem dX0_coolDown_4 : decode cX0_coolDown 4 = .ok (.fdiv, 1) := by decide +kernel
theorem dX0_coolDown_5 : decode cX0_coolDown 5 = .ok (.fstore_n 2, 1) := by decide +kernel
theorem dX0_coolDown_6 : decode cX0_coolDown 6 = .ok (.iconst 0, 1) := by decide +kernel
theorem dX0_coolDown_7 : decode cX0_coolDown 7 = .ok (.istore_n 3, 1) := by decide +kernel
theorem dX0_coolDown_8 : decode cX0_coolDown 8 = .ok (.iload_n 3, 1) := by decide +kernel
theorem dX0_coolDown_9 : decode cX0_coolDown 9 = .ok (.aload_n 0, 1) := by decide +kernel
theorem dX0_coolDown_10 : decode cX0_coolDown 10 = .ok (.getfield 61, 3) := by decide +kernel
theorem dX0_coolDown_13 : decode cX0_coolDown 13 = .ok (.if_icmp .ge 32, 3) := by decide +kernel
theorem dX0_coolDown_16 : decode cX0_coolDown 16 = .ok (.aload_n 0, 1) := by decide +kernel
theorem dX0_coolDown_17 : decode cX0_coolDown 17 = .ok (.getfield 21, 3) := by decide +kernel
theorem dX0_coolDown_20 : decode cX0_coolDown 20 = .ok (.iload_n 3, 1) := by decide +kernel
theorem dX0_coolDown_21 : decode cX0_coolDown 21 = .ok (.iaload, 1) := by decide +kernel
theorem dX0_coolDown_22 : decode cX0_coolDown 22 = .ok (.ifCond .lt 17, 3) := by decide +kernel
theorem dX0_coolDown_25 : decode cX0_coolDown 25 = .ok (.aload_n 0, 1) := by decide +kernel
theorem dX0_coolDown_26 : decode cX0_coolDown 26 = .ok (.getfield 51, 3) := by decide +kernel
theorem dX0_coolDown_29 : decode cX0_coolDown 29 = .ok (.iload_n 3, 1) := by decide +kernel
theorem dX0_coolDown_30 : decode cX0_coolDown 30 = .ok (.aload_n 0, 1) := by decide +kernel
theorem dX0_coolDown_31 : decode cX0_coolDown 31 = .ok (.getfield 51, 3) := by decide +kernel
theorem dX0_coolDown_34 : decode cX0_coolDown 34 = .ok (.iload_n 3, 1) := by decide +kernel
theorem dX0_coolDown_35 : decode cX0_coolDown 35 = .ok (.faload, 1) := by decide +kernel
theorem dX0_coolDown_36 : decode cX0_coolDown 36 = .ok (.fload_n 2, 1) := by decide +kernel
theorem dX0_coolDown_37 : decode cX0_coolDown 37 = .ok (.fmul, 1) := by decide +kernel
theorem dX0_coolDown_38 : decode cX0_coolDown 38 = .ok (.fastore, 1) := by decide +kernel
theorem dX0_coolDown_39 : decode cX0_coolDown 39 = .ok (.iinc 3 1, 3) := by decide +kernel
theorem dX0_coolDown_42 : decode cX0_coolDown 42 = .ok (.goto (-34), 3) := by decide +kernel
theorem dX0_coolDown_45 : decode cX0_coolDown 45 = .ok (.return_, 1) := by decide +kernel
def De_coolDown_39 (k8 : UInt32 → Int32 → Sl → Option (Unit × Sl)) (v2 : UInt32) (v3 : Int32) (d : Sl) : Option (Unit × Sl) :=
  bnd (v3 + (1 : Int32)) fun v3_1 =>
  k8 v2 v3_1 d
def De_coolDown_8 : Nat → UInt32 → Int32 → Sl → Option (Unit × Sl)
  | 0, _, _, _ => none
  | n + 1, v2, v3, d =>
    if (d 17 16) ≤ v3 then
      (some ((), d))
    else
      (if inb v3 192 then
      if (d 21 (ix v3)) < 0 then
        (De_coolDown_39 (De_coolDown_8 n) v2 v3 d)
      else
        (if inb v3 192 then
        if nn32 (FP.fmul ((d 31 (ix v3)).toUInt32) v2) then
        if inb v3 192 then
        bnd (wr d 31 (ix v3) ((FP.fmul ((d 31 (ix v3)).toUInt32) v2)).toInt32) fun d2 =>
        De_coolDown_39 (De_coolDown_8 n) v2 v3 d2
        else none
        else none
        else none)
      else none)
def De_coolDown (d : Sl) (a1 : Int32) : Option (Unit × Sl) :=
  if nn32 (FP.fdiv (FP.i2f a1) (1092616192 : UInt32)) then
  bnd (FP.fdiv (FP.i2f a1) (1092616192 : UInt32)) fun v2_3 =>
  bnd (0 : Int32) fun v3_4 =>
  De_coolDown_8 FU v2_3 v3_4 d
  else none
theorem y_X0_coolDown : YV yX0_coolDown cX0_coolDown 4 none 1 := ⟨q877, q878, q879, q147, by decide +kernel, by decide +kernel, by decide +kernel, by decide +kernel⟩
theorem r_De_coolDown_39 {C : Cxt} {G : Geo} {M : Mem} {k : Nat} (hC : Cx C cX0_coolDown 4 "FrameHeirs$Deeds" none rm_X0_coolDown G) (hk : LWd G k) (hk2 : 2 ≤ k) (k8 : UInt32 → Int32 → Sl → Option (Unit × Sl)) (h8 : ∀ (v2 : UInt32) (v3 : Int32) (d : Sl), Rz C 4 G (setS M k) (poM avV (setS M k)) 8 [(0, .inr (k, 17)), (2, .inl (.float v2)), (3, .inl (.int v3))] [] d (k8 v2 v3 d)) (v2 : UInt32) (v3 : Int32) (d : Sl) : Rz C 4 G (setS M k) (poM avV (setS M k)) 39 [(0, .inr (k, 17)), (2, .inl (.float v2)), (3, .inl (.int v3))] [] d (De_coolDown_39 k8 v2 v3 d) := by
  unfold De_coolDown_39
  refine z_iinc (pc := 39) (ls1 := fun v => [(3, .inl (.int v)), (0, .inr (k, 17)), (2, .inl (.float v2))]) hC 3 2 (by decide) (1 : Int32) rfl rfl (fun v => rfl) dX0_coolDown_39 (fun v3_1 => ?_)
  refine z_goto (pc := 42) hC 8 rfl dX0_coolDown_42 ?_
  exact z_sub [1, 2, 0] rfl (h8 v2 v3_1 d)
theorem r_De_coolDown_8 {C : Cxt} {G : Geo} {M : Mem} {k : Nat} (hC : Cx C cX0_coolDown 4 "FrameHeirs$Deeds" none rm_X0_coolDown G) (hk : LWd G k) (hk2 : 2 ≤ k) : ∀ (n : Nat) (v2 : UInt32) (v3 : Int32) (d : Sl), Rz C 4 G (setS M k) (poM avV (setS M k)) 8 [(0, .inr (k, 17)), (2, .inl (.float v2)), (3, .inl (.int v3))] [] d (De_coolDown_8 n v2 v3 d) := by
  intro n
  induction n with
  | zero => intros; exact z_none
  | succ n ih =>
    intro v2 v3 d
    rw [De_coolDown_8]
    refine z_iload_n (pc := 8) hC 3 rfl 2 rfl dX0_coolDown_8 ?_
    refine z_aload_n (pc := 9) hC 0 rfl 0 rfl dX0_coolDown_9 ?_
    refine zs_geti (pc := 10) hC (hk 17 rfl) f_17_16 q327 dX0_coolDown_10 ?_
    refine z_icmp_ge (pc := 13) hC 45 rfl dX0_coolDown_13 ?_ ?_
    · exact z_vret (pc := 45) hC rfl dX0_coolDown_45
    · refine z_aload_n (pc := 16) hC 0 rfl 0 rfl dX0_coolDown_16 ?_
      refine z_getc (pc := 17) hC (hk 17 rfl) f_17_3 q302 dX0_coolDown_17 ?_
      refine z_iload_n (pc := 20) hC 3 rfl 2 rfl dX0_coolDown_20 ?_
      refine zs_iald (pc := 21) hC (hk 21 rfl) rfl dX0_coolDown_21 ?_
      refine z_if_lt (pc := 22) hC 39 rfl dX0_coolDown_22 ?_ ?_
      · exact z_sub [0, 1, 2] rfl (r_De_coolDown_39 hC hk hk2 _ ih v2 v3 d)
      · refine z_aload_n (pc := 25) hC 0 rfl 0 rfl dX0_coolDown_25 ?_
        refine z_getc (pc := 26) hC (hk 17 rfl) f_17_13 q321 dX0_coolDown_26 ?_
        refine z_iload_n (pc := 29) hC 3 rfl 2 rfl dX0_coolDown_29 ?_
        refine z_aload_n (pc := 30) hC 0 rfl 0 rfl dX0_coolDown_30 ?_
        refine z_getc (pc := 31) hC (hk 17 rfl) f_17_13 q321 dX0_coolDown_31 ?_
        refine z_iload_n (pc := 34) hC 3 rfl 2 rfl dX0_coolDown_34 ?_
        refine zs_fald (pc := 35) hC (hk 31 rfl) rfl dX0_coolDown_35 ?_
        refine z_fload_n (pc := 36) hC 2 rfl 1 rfl dX0_coolDown_36 ?_
        refine z_fmul (pc := 37) hC dX0_coolDown_37 ?_
        refine zs_fast (pc := 38) hC (hk 31 rfl) (by decide) rfl dX0_coolDown_38 (fun d2 => ?_)
        exact z_sub [0, 1, 2] rfl (r_De_coolDown_39 hC hk hk2 _ ih v2 v3 d2)
theorem r_De_coolDown {C : Cxt} {G : Geo} {M : Mem} {k : Nat} (hC : Cx C cX0_coolDown 4 "FrameHeirs$Deeds" none rm_X0_coolDown G) (hk : LWd G k) (hk2 : 2 ≤ k) (d : Sl) (a1 : Int32) : Rz C 4 G (setS M k) (poM avV (setS M k)) 0 [(0, .inr (k, 17)), (1, .inl (.int a1))] [] d (De_coolDown d a1) := by
  unfold De_coolDown
  refine z_iload_n (pc := 0) hC 1 rfl 1 rfl dX0_coolDown_0 ?_
  refine z_i2f (pc := 1) hC dX0_coolDown_1 ?_
  refine z_ldcf (pc := 2) hC (1092616192 : UInt32) q880 dX0_coolDown_2 ?_
  refine z_fdiv (pc := 4) hC dX0_coolDown_4 ?_
  refine z_fstore_n (pc := 5) (ls1 := fun v => [(2, .inl (.float v)), (0, .inr (k, 17)), (1, .inl (.int a1))]) hC 2 rfl (by decide) (fun v => rfl) dX0_coolDown_5 (fun v2_3 => ?_)
  refine z_iconst (pc := 6) hC (0 : Int32) rfl dX0_coolDown_6 ?_
  refine z_istore_n (pc := 7) (ls1 := fun v => [(3, .inl (.int v)), (2, .inl (.float v2_3)), (0, .inr (k, 17)), (1, .inl (.int a1))]) hC 3 rfl (by decide) (fun v => rfl) dX0_coolDown_7 (fun v3_4 => ?_)
  exact z_sub [2, 1, 0] rfl (r_De_coolDown_8 hC hk hk2 FU v2_3 v3_4 d)
theorem c_X0_coolDown {G : Geo} {M : Mem} {k : Nat} (hG : GOk G) (hk : LWd G k) (hk2 : 2 ≤ k) {d : Sl} {a1 : Int32} (l : Launch) (r : Unit) (d1 : Sl) (h : De_coolDown d a1 = some (r, d1)) : Mt l yX0_coolDown cX0_coolDown 4 none rm_X0_coolDown G [.inr (k, 17), .inl (.int a1)] ((setS M k) d) (avV r) ((setS M k) d1) :=
  mt_of (mem := (setS M k)) (po := poM avV (setS M k)) (x0 := d) (t := (r, d1)) rfl hG [.inr (k, 17), .inl (.int a1)] (Nat.le_of_ble_eq_true rfl) rfl (fun C hC => r_De_coolDown hC hk hk2 d a1) h
-- FrameHeirs$Deeds.leftToDo(I)I
abbrev rm_X0_leftToDo : Room := { frames := 0, cells := 0, slots := 0, locals := 0 }
theorem dX0_leftToDo_0 : decode cX0_leftToDo 0 = .ok (.iconst 0, 1) := by decide +kernel
theorem dX0_leftToDo_1 : decode cX0_leftToDo 1 = .ok (.istore_n 2, 1) := by decide +kernel
theorem dX0_leftToDo_2 : decode cX0_leftToDo 2 = .ok (.iconst 0, 1) := by decide +kernel
theorem dX0_leftToDo_3 : decode cX0_leftToDo 3 = .ok (.istore_n 3, 1) := by decide +kernel
theorem dX0_leftToDo_4 : decode cX0_leftToDo 4 = .ok (.iload_n 3, 1) := by decide +kernel
theorem dX0_leftToDo_5 : decode cX0_leftToDo 5 = .ok (.aload_n 0, 1) := by decide +kernel
theorem dX0_leftToDo_6 : decode cX0_leftToDo 6 = .ok (.getfield 61, 3) := by decide +kernel
theorem dX0_leftToDo_9 : decode cX0_leftToDo 9 = .ok (.if_icmp .ge 31, 3) := by decide +kernel
theorem dX0_leftToDo_12 : decode cX0_leftToDo 12 = .ok (.aload_n 0, 1) := by decide +kernel
theorem dX0_leftToDo_13 : decode cX0_leftToDo 13 = .ok (.getfield 21, 3) := by decide +kernel
theorem dX0_leftToDo_16 : decode cX0_leftToDo 16 = .ok (.iload_n 3, 1) := by decide +kernel
theorem dX0_leftToDo_17 : decode cX0_leftToDo 17 = .ok (.iaload, 1) := by decide +kernel
theorem dX0_leftToDo_18 : decode cX0_leftToDo 18 = .ok (.ifCond .lt 16, 3) := by decide +kernel
theorem dX0_leftToDo_21 : decode cX0_leftToDo 21 = .ok (.aload_n 0, 1) := by decide +kernel
theorem dX0_leftToDo_22 : decode cX0_leftToDo 22 = .ok (.getfield 45, 3) := by decide +kernel
theorem dX0_leftToDo_25 : decode cX0_leftToDo 25 = .ok (.iload_n 3, 1) := by decide +kernel
theorem dX0_leftToDo_26 : decode cX0_leftToDo 26 = .ok (.iaload, 1) := by decide +kernel
theorem dX0_leftToDo_27 : decode cX0_leftToDo 27 = .ok (.iload_n 1, 1) := by decide +kernel
theorem dX0_leftToDo_28 : decode cX0_leftToDo 28 = .ok (.if_icmp .ne 6, 3) := by decide +kernel
theorem dX0_leftToDo_31 : decode cX0_leftToDo 31 = .ok (.iinc 2 1, 3) := by decide +kernel
theorem dX0_leftToDo_34 : decode cX0_leftToDo 34 = .ok (.iinc 3 1, 3) := by decide +kernel
theorem dX0_leftToDo_37 : decode cX0_leftToDo 37 = .ok (.goto (-33), 3) := by decide +kernel
theorem dX0_leftToDo_40 : decode cX0_leftToDo 40 = .ok (.iload_n 2, 1) := by decide +kernel
theorem dX0_leftToDo_41 : decode cX0_leftToDo 41 = .ok (.ireturn, 1) := by decide +kernel
def De_leftToDo_34 (k4 : Int32 → Int32 → Int32 → Option Int32) (d : Sl) (v1 : Int32) (v2 : Int32) (v3 : Int32) : Option Int32 :=
  bnd (v3 + (1 : Int32)) fun v3_1 =>
  k4 v1 v2 v3_1
def De_leftToDo_4 (d : Sl) : Nat → Int32 → Int32 → Int32 → Option Int32
  | 0, _, _, _ => none
  | n + 1, v1, v2, v3 =>
    if (d 17 16) ≤ v3 then
      (some v2)
    else
      (if inb v3 192 then
      if (d 21 (ix v3)) < 0 then
        (De_leftToDo_34 (De_leftToDo_4 d n) d v1 v2 v3)
      else
        (if inb v3 192 then
        if (d 29 (ix v3)) = v1 then
          (bnd (v2 + (1 : Int32)) fun v2_2 =>
          De_leftToDo_34 (De_leftToDo_4 d n) d v1 v2_2 v3)
        else
          (De_leftToDo_34 (De_leftToDo_4 d n) d v1 v2 v3)
        else none)
      else none)
def De_leftToDo (d : Sl) (a1 : Int32) : Option Int32 :=
  bnd (0 : Int32) fun v2_3 =>
  bnd (0 : Int32) fun v3_4 =>
  De_leftToDo_4 d FU a1 v2_3 v3_4
theorem y_X0_leftToDo : YV yX0_leftToDo cX0_leftToDo 4 (some .int) 1 := ⟨q1058, q1059, q1060, q147, by decide +kernel, by decide +kernel, by decide +kernel, by decide +kernel⟩
theorem r_De_leftToDo_34 {C : Cxt} {G : Geo} {M : Mem} {k : Nat} {d : Sl} (hC : Cx C cX0_leftToDo 4 "FrameHeirs$Deeds" (some .int) rm_X0_leftToDo G) (hk : LWd G k) (hk2 : 2 ≤ k) (k4 : Int32 → Int32 → Int32 → Option Int32) (h4 : ∀ (v1 : Int32) (v2 : Int32) (v3 : Int32), Rz C 4 G (setS M k) (poP avI ((setS M k) d)) 4 [(0, .inr (k, 17)), (1, .inl (.int v1)), (2, .inl (.int v2)), (3, .inl (.int v3))] [] d (k4 v1 v2 v3)) (v1 : Int32) (v2 : Int32) (v3 : Int32) : Rz C 4 G (setS M k) (poP avI ((setS M k) d)) 34 [(0, .inr (k, 17)), (1, .inl (.int v1)), (2, .inl (.int v2)), (3, .inl (.int v3))] [] d (De_leftToDo_34 k4 d v1 v2 v3) := by
  unfold De_leftToDo_34
  refine z_iinc (pc := 34) (ls1 := fun v => [(3, .inl (.int v)), (0, .inr (k, 17)), (1, .inl (.int v1)), (2, .inl (.int v2))]) hC 3 3 (by decide) (1 : Int32) rfl rfl (fun v => rfl) dX0_leftToDo_34 (fun v3_1 => ?_)
  refine z_goto (pc := 37) hC 4 rfl dX0_leftToDo_37 ?_
  exact z_sub [1, 2, 3, 0] rfl (h4 v1 v2 v3_1)
theorem r_De_leftToDo_4 {C : Cxt} {G : Geo} {M : Mem} {k : Nat} {d : Sl} (hC : Cx C cX0_leftToDo 4 "FrameHeirs$Deeds" (some .int) rm_X0_leftToDo G) (hk : LWd G k) (hk2 : 2 ≤ k) : ∀ (n : Nat) (v1 : Int32) (v2 : Int32) (v3 : Int32), Rz C 4 G (setS M k) (poP avI ((setS M k) d)) 4 [(0, .inr (k, 17)), (1, .inl (.int v1)), (2, .inl (.int v2)), (3, .inl (.int v3))] [] d (De_leftToDo_4 d n v1 v2 v3) := by
  intro n
  induction n with
  | zero => intros; exact z_none
  | succ n ih =>
    intro v1 v2 v3
    rw [De_leftToDo_4]
    refine z_iload_n (pc := 4) hC 3 rfl 3 rfl dX0_leftToDo_4 ?_
    refine z_aload_n (pc := 5) hC 0 rfl 0 rfl dX0_leftToDo_5 ?_
    refine zs_geti (pc := 6) hC (hk 17 rfl) f_17_16 q327 dX0_leftToDo_6 ?_
    refine z_icmp_ge (pc := 9) hC 40 rfl dX0_leftToDo_9 ?_ ?_
    · refine z_iload_n (pc := 40) hC 2 rfl 2 rfl dX0_leftToDo_40 ?_
      exact z_iret (pc := 41) hC rfl dX0_leftToDo_41
    · refine z_aload_n (pc := 12) hC 0 rfl 0 rfl dX0_leftToDo_12 ?_
      refine z_getc (pc := 13) hC (hk 17 rfl) f_17_3 q302 dX0_leftToDo_13 ?_
      refine z_iload_n (pc := 16) hC 3 rfl 3 rfl dX0_leftToDo_16 ?_
      refine zs_iald (pc := 17) hC (hk 21 rfl) rfl dX0_leftToDo_17 ?_
      refine z_if_lt (pc := 18) hC 34 rfl dX0_leftToDo_18 ?_ ?_
      · exact z_sub [0, 1, 2, 3] rfl (r_De_leftToDo_34 hC hk hk2 _ ih v1 v2 v3)
      · refine z_aload_n (pc := 21) hC 0 rfl 0 rfl dX0_leftToDo_21 ?_
        refine z_getc (pc := 22) hC (hk 17 rfl) f_17_11 q318 dX0_leftToDo_22 ?_
        refine z_iload_n (pc := 25) hC 3 rfl 3 rfl dX0_leftToDo_25 ?_
        refine zs_iald (pc := 26) hC (hk 29 rfl) rfl dX0_leftToDo_26 ?_
        refine z_iload_n (pc := 27) hC 1 rfl 1 rfl dX0_leftToDo_27 ?_
        refine z_icmp_ne (pc := 28) hC 34 rfl dX0_leftToDo_28 ?_ ?_
        · exact z_sub [0, 1, 2, 3] rfl (r_De_leftToDo_34 hC hk hk2 _ ih v1 v2 v3)
        · refine z_iinc (pc := 31) (ls1 := fun v => [(2, .inl (.int v)), (0, .inr (k, 17)), (1, .inl (.int v1)), (3, .inl (.int v3))]) hC 2 2 (by decide) (1 : Int32) rfl rfl (fun v => rfl) dX0_leftToDo_31 (fun v2_2 => ?_)
          exact z_sub [1, 2, 0, 3] rfl (r_De_leftToDo_34 hC hk hk2 _ ih v1 v2_2 v3)
theorem r_De_leftToDo {C : Cxt} {G : Geo} {M : Mem} {k : Nat} (hC : Cx C cX0_leftToDo 4 "FrameHeirs$Deeds" (some .int) rm_X0_leftToDo G) (hk : LWd G k) (hk2 : 2 ≤ k) (d : Sl) (a1 : Int32) : Rz C 4 G (setS M k) (poP avI ((setS M k) d)) 0 [(0, .inr (k, 17)), (1, .inl (.int a1))] [] d (De_leftToDo d a1) := by
  unfold De_leftToDo
  refine z_iconst (pc := 0) hC (0 : Int32) rfl dX0_leftToDo_0 ?_
  refine z_istore_n (pc := 1) (ls1 := fun v => [(2, .inl (.int v)), (0, .inr (k, 17)), (1, .inl (.int a1))]) hC 2 rfl (by decide) (fun v => rfl) dX0_leftToDo_1 (fun v2_3 => ?_)
  refine z_iconst (pc := 2) hC (0 : Int32) rfl dX0_leftToDo_2 ?_
  refine z_istore_n (pc := 3) (ls1 := fun v => [(3, .inl (.int v)), (2, .inl (.int v2_3)), (0, .inr (k, 17)), (1, .inl (.int a1))]) hC 3 rfl (by decide) (fun v => rfl) dX0_leftToDo_3 (fun v3_4 => ?_)
  exact z_sub [2, 3, 1, 0] rfl (r_De_leftToDo_4 hC hk hk2 FU a1 v2_3 v3_4)
theorem c_X0_leftToDo {G : Geo} {M : Mem} {k : Nat} (hG : GOk G) (hk : LWd G k) (hk2 : 2 ≤ k) {d : Sl} {a1 : Int32} (l : Launch) (r : Int32) (h : De_leftToDo d a1 = some r) : Mt l yX0_leftToDo cX0_leftToDo 4 (some .int) rm_X0_leftToDo G [.inr (k, 17), .inl (.int a1)] ((setS M k) d) (avI r) ((setS M k) d) :=
  mt_of (mem := (setS M k)) (po := poP avI ((setS M k) d)) (x0 := d) (t := r) rfl hG [.inr (k, 17), .inl (.int a1)] (Nat.le_of_ble_eq_true rfl) rfl (fun C hC => r_De_leftToDo hC hk hk2 d a1) h
-- FrameHeirs$Deeds.firstToDo(I)I
abbrev rm_X0_firstToDo : Room := { frames := 0, cells := 0, slots := 0, locals := 0 }
theorem dX0_firstToDo_0 : decode cX0_firstToDo 0 = .ok (.iconst (-1), 1) := by decide +kernel
theorem dX0_firstToDo_1 : decode cX0_firstToDo 1 = .ok (.istore_n 2, 1) := by decide +kernel
theorem dX0_firstToDo_2 : decode cX0_firstToDo 2 = .ok (.iconst 0, 1) := by decide +kernel
theorem dX0_firstToDo_3 : decode cX0_firstToDo 3 = .ok (.istore_n 3, 1) := by decide +kernel
theorem dX0_firstToDo_4 : decode cX0_firstToDo 4 = .ok (.iload_n 3, 1) := by decide +kernel
theorem dX0_firstToDo_5 : decode cX0_firstToDo 5 = .ok (.aload_n 0, 1) := by decide +kernel
theorem dX0_firstToDo_6 : decode cX0_firstToDo 6 = .ok (.getfield 61, 3) := by decide +kernel
theorem dX0_firstToDo_9 : decode cX0_firstToDo 9 = .ok (.if_icmp .ge 49, 3) := by decide +kernel
theorem dX0_firstToDo_12 : decode cX0_firstToDo 12 = .ok (.aload_n 0, 1) := by decide +kernel
theorem dX0_firstToDo_13 : decode cX0_firstToDo 13 = .ok (.getfield 21, 3) := by decide +kernel
theorem dX0_firstToDo_16 : decode cX0_firstToDo 16 = .ok (.iload_n 3, 1) := by decide +kernel
theorem dX0_firstToDo_17 : decode cX0_firstToDo 17 = .ok (.iaload, 1) := by decide +kernel
theorem dX0_firstToDo_18 : decode cX0_firstToDo 18 = .ok (.ifCond .lt 34, 3) := by decide +kernel
theorem dX0_firstToDo_21 : decode cX0_firstToDo 21 = .ok (.aload_n 0, 1) := by decide +kernel
theorem dX0_firstToDo_22 : decode cX0_firstToDo 22 = .ok (.getfield 45, 3) := by decide +kernel
theorem dX0_firstToDo_25 : decode cX0_firstToDo 25 = .ok (.iload_n 3, 1) := by decide +kernel
theorem dX0_firstToDo_26 : decode cX0_firstToDo 26 = .ok (.iaload, 1) := by decide +kernel
theorem dX0_firstToDo_27 : decode cX0_firstToDo 27 = .ok (.iload_n 1, 1) := by decide +kernel
theorem dX0_firstToDo_28 : decode cX0_firstToDo 28 = .ok (.if_icmp .ne 24, 3) := by decide +kernel
theorem dX0_firstToDo_31 : decode cX0_firstToDo 31 = .ok (.iload_n 2, 1) := by decide +kernel
theorem dX0_firstToDo_32 : decode cX0_firstToDo 32 = .ok (.ifCond .lt 18, 3) := by decide +kernel
theorem dX0_firstToDo_35 : decode cX0_firstToDo 35 = .ok (.aload_n 0, 1) := by decide +kernel
theorem dX0_firstToDo_36 : decode cX0_firstToDo 36 = .ok (.getfield 48, 3) := by decide +kernel
theorem dX0_firstToDo_39 : decode cX0_firstToDo 39 = .ok (.iload_n 3, 1) := by decide +kernel
theorem dX0_firstToDo_40 : decode cX0_firstToDo 40 = .ok (.iaload, 1) := by decide +kernel
theorem dX0_firstToDo_41 : decode cX0_firstToDo 41 = .ok (.aload_n 0, 1) := by decide +kernel
theorem dX0_firstToDo_42 : decode cX0_firstToDo 42 = .ok (.getfield 48, 3) := by decide +kernel
theorem dX0_firstToDo_45 : decode cX0_firstToDo 45 = .ok (.iload_n 2, 1) := by decide +kernel
theorem dX0_firstToDo_46 : decode cX0_firstToDo 46 = .ok (.iaload, 1) := by decide +kernel
theorem dX0_firstToDo_47 : decode cX0_firstToDo 47 = .ok (.if_icmp .ge 5, 3) := by decide +kernel
theorem dX0_firstToDo_50 : decode cX0_firstToDo 50 = .ok (.iload_n 3, 1) := by decide +kernel
theorem dX0_firstToDo_51 : decode cX0_firstToDo 51 = .ok (.istore_n 2, 1) := by decide +kernel
theorem dX0_firstToDo_52 : decode cX0_firstToDo 52 = .ok (.iinc 3 1, 3) := by decide +kernel
theorem dX0_firstToDo_55 : decode cX0_firstToDo 55 = .ok (.goto (-51), 3) := by decide +kernel
theorem dX0_firstToDo_58 : decode cX0_firstToDo 58 = .ok (.iload_n 2, 1) := by decide +kernel
theorem dX0_firstToDo_59 : decode cX0_firstToDo 59 = .ok (.ireturn, 1) := by decide +kernel
def De_firstToDo_52 (k4 : Int32 → Int32 → Int32 → Option Int32) (d : Sl) (v1 : Int32) (v2 : Int32) (v3 : Int32) : Option Int32 :=
  bnd (v3 + (1 : Int32)) fun v3_1 =>
  k4 v1 v2 v3_1
def De_firstToDo_50 (k4 : Int32 → Int32 → Int32 → Option Int32) (d : Sl) (v1 : Int32) (v3 : Int32) : Option Int32 :=
  bnd v3 fun v2_2 =>
  De_firstToDo_52 k4 d v1 v2_2 v3
def De_firstToDo_4 (d : Sl) : Nat → Int32 → Int32 → Int32 → Option Int32
  | 0, _, _, _ => none
  | n + 1, v1, v2, v3 =>
    if (d 17 16) ≤ v3 then
      (some v2)
    else
      (if inb v3 192 then
      if (d 21 (ix v3)) < 0 then
        (De_firstToDo_52 (De_firstToDo_4 d n) d v1 v2 v3)
      else
        (if inb v3 192 then
        if (d 29 (ix v3)) = v1 then
          (if v2 < 0 then
            (De_firstToDo_50 (De_firstToDo_4 d n) d v1 v3)
          else
            (if inb v3 192 then
            if inb v2 192 then
            if (d 30 (ix v2)) ≤ (d 30 (ix v3)) then
              (De_firstToDo_52 (De_firstToDo_4 d n) d v1 v2 v3)
            else
              (De_firstToDo_50 (De_firstToDo_4 d n) d v1 v3)
            else none
            else none))
        else
          (De_firstToDo_52 (De_firstToDo_4 d n) d v1 v2 v3)
        else none)
      else none)
def De_firstToDo (d : Sl) (a1 : Int32) : Option Int32 :=
  bnd (-1 : Int32) fun v2_3 =>
  bnd (0 : Int32) fun v3_4 =>
  De_firstToDo_4 d FU a1 v2_3 v3_4
theorem y_X0_firstToDo : YV yX0_firstToDo cX0_firstToDo 4 (some .int) 1 := ⟨q790, q791, q792, q147, by decide +kernel, by decide +kernel, by decide +kernel, by decide +kernel⟩
theorem r_De_firstToDo_52 {C : Cxt} {G : Geo} {M : Mem} {k : Nat} {d : Sl} (hC : Cx C cX0_firstToDo 4 "FrameHeirs$Deeds" (some .int) rm_X0_firstToDo G) (hk : LWd G k) (hk2 : 2 ≤ k) (k4 : Int32 → Int32 → Int32 → Option Int32) (h4 : ∀ (v1 : Int32) (v2 : Int32) (v3 : Int32), Rz C 4 G (setS M k) (poP avI ((setS M k) d)) 4 [(0, .inr (k, 17)), (1, .inl (.int v1)), (2, .inl (.int v2)), (3, .inl (.int v3))] [] d (k4 v1 v2 v3)) (v1 : Int32) (v2 : Int32) (v3 : Int32) : Rz C 4 G (setS M k) (poP avI ((setS M k) d)) 52 [(0, .inr (k, 17)), (1, .inl (.int v1)), (2, .inl (.int v2)), (3, .inl (.int v3))] [] d (De_firstToDo_52 k4 d v1 v2 v3) := by
  unfold De_firstToDo_52
  refine z_iinc (pc := 52) (ls1 := fun v => [(3, .inl (.int v)), (0, .inr (k, 17)), (1, .inl (.int v1)), (2, .inl (.int v2))]) hC 3 3 (by decide) (1 : Int32) rfl rfl (fun v => rfl) dX0_firstToDo_52 (fun v3_1 => ?_)
  refine z_goto (pc := 55) hC 4 rfl dX0_firstToDo_55 ?_
  exact z_sub [1, 2, 3, 0] rfl (h4 v1 v2 v3_1)
theorem r_De_firstToDo_50 {C : Cxt} {G : Geo} {M : Mem} {k : Nat} {d : Sl} (hC : Cx C cX0_firstToDo 4 "FrameHeirs$Deeds" (some .int) rm_X0_firstToDo G) (hk : LWd G k) (hk2 : 2 ≤ k) (k4 : Int32 → Int32 → Int32 → Option Int32) (h4 : ∀ (v1 : Int32) (v2 : Int32) (v3 : Int32), Rz C 4 G (setS M k) (poP avI ((setS M k) d)) 4 [(0, .inr (k, 17)), (1, .inl (.int v1)), (2, .inl (.int v2)), (3, .inl (.int v3))] [] d (k4 v1 v2 v3)) (v1 : Int32) (v3 : Int32) : Rz C 4 G (setS M k) (poP avI ((setS M k) d)) 50 [(0, .inr (k, 17)), (1, .inl (.int v1)), (3, .inl (.int v3))] [] d (De_firstToDo_50 k4 d v1 v3) := by
  unfold De_firstToDo_50
  refine z_iload_n (pc := 50) hC 3 rfl 2 rfl dX0_firstToDo_50 ?_
  refine z_istore_n (pc := 51) (ls1 := fun v => [(2, .inl (.int v)), (0, .inr (k, 17)), (1, .inl (.int v1)), (3, .inl (.int v3))]) hC 2 rfl (by decide) (fun v => rfl) dX0_firstToDo_51 (fun v2_2 => ?_)
  exact z_sub [1, 2, 0, 3] rfl (r_De_firstToDo_52 hC hk hk2 k4 h4 v1 v2_2 v3)
theorem r_De_firstToDo_4 {C : Cxt} {G : Geo} {M : Mem} {k : Nat} {d : Sl} (hC : Cx C cX0_firstToDo 4 "FrameHeirs$Deeds" (some .int) rm_X0_firstToDo G) (hk : LWd G k) (hk2 : 2 ≤ k) : ∀ (n : Nat) (v1 : Int32) (v2 : Int32) (v3 : Int32), Rz C 4 G (setS M k) (poP avI ((setS M k) d)) 4 [(0, .inr (k, 17)), (1, .inl (.int v1)), (2, .inl (.int v2)), (3, .inl (.int v3))] [] d (De_firstToDo_4 d n v1 v2 v3) := by
  intro n
  induction n with
  | zero => intros; exact z_none
  | succ n ih =>
    intro v1 v2 v3
    rw [De_firstToDo_4]
    refine z_iload_n (pc := 4) hC 3 rfl 3 rfl dX0_firstToDo_4 ?_
    refine z_aload_n (pc := 5) hC 0 rfl 0 rfl dX0_firstToDo_5 ?_
    refine zs_geti (pc := 6) hC (hk 17 rfl) f_17_16 q327 dX0_firstToDo_6 ?_
    refine z_icmp_ge (pc := 9) hC 58 rfl dX0_firstToDo_9 ?_ ?_
    · refine z_iload_n (pc := 58) hC 2 rfl 2 rfl dX0_firstToDo_58 ?_
      exact z_iret (pc := 59) hC rfl dX0_firstToDo_59
    · refine z_aload_n (pc := 12) hC 0 rfl 0 rfl dX0_firstToDo_12 ?_
      refine z_getc (pc := 13) hC (hk 17 rfl) f_17_3 q302 dX0_firstToDo_13 ?_
      refine z_iload_n (pc := 16) hC 3 rfl 3 rfl dX0_firstToDo_16 ?_
      refine zs_iald (pc := 17) hC (hk 21 rfl) rfl dX0_firstToDo_17 ?_
      refine z_if_lt (pc := 18) hC 52 rfl dX0_firstToDo_18 ?_ ?_
      · exact z_sub [0, 1, 2, 3] rfl (r_De_firstToDo_52 hC hk hk2 _ ih v1 v2 v3)
      · refine z_aload_n (pc := 21) hC 0 rfl 0 rfl dX0_firstToDo_21 ?_
        refine z_getc (pc := 22) hC (hk 17 rfl) f_17_11 q318 dX0_firstToDo_22 ?_
        refine z_iload_n (pc := 25) hC 3 rfl 3 rfl dX0_firstToDo_25 ?_
        refine zs_iald (pc := 26) hC (hk 29 rfl) rfl dX0_firstToDo_26 ?_
        refine z_iload_n (pc := 27) hC 1 rfl 1 rfl dX0_firstToDo_27 ?_
        refine z_icmp_ne (pc := 28) hC 52 rfl dX0_firstToDo_28 ?_ ?_
        · exact z_sub [0, 1, 2, 3] rfl (r_De_firstToDo_52 hC hk hk2 _ ih v1 v2 v3)
        · refine z_iload_n (pc := 31) hC 2 rfl 2 rfl dX0_firstToDo_31 ?_
          refine z_if_lt (pc := 32) hC 50 rfl dX0_firstToDo_32 ?_ ?_
          · exact z_sub [0, 1, 3] rfl (r_De_firstToDo_50 hC hk hk2 _ ih v1 v3)
          · refine z_aload_n (pc := 35) hC 0 rfl 0 rfl dX0_firstToDo_35 ?_
            refine z_getc (pc := 36) hC (hk 17 rfl) f_17_12 q320 dX0_firstToDo_36 ?_
            refine z_iload_n (pc := 39) hC 3 rfl 3 rfl dX0_firstToDo_39 ?_
            refine zs_iald (pc := 40) hC (hk 30 rfl) rfl dX0_firstToDo_40 ?_
            refine z_aload_n (pc := 41) hC 0 rfl 0 rfl dX0_firstToDo_41 ?_
            refine z_getc (pc := 42) hC (hk 17 rfl) f_17_12 q320 dX0_firstToDo_42 ?_
            refine z_iload_n (pc := 45) hC 2 rfl 2 rfl dX0_firstToDo_45 ?_
            refine zs_iald (pc := 46) hC (hk 30 rfl) rfl dX0_firstToDo_46 ?_
            refine z_icmp_ge (pc := 47) hC 52 rfl dX0_firstToDo_47 ?_ ?_
            · exact z_sub [0, 1, 2, 3] rfl (r_De_firstToDo_52 hC hk hk2 _ ih v1 v2 v3)
            · exact z_sub [0, 1, 3] rfl (r_De_firstToDo_50 hC hk hk2 _ ih v1 v3)
theorem r_De_firstToDo {C : Cxt} {G : Geo} {M : Mem} {k : Nat} (hC : Cx C cX0_firstToDo 4 "FrameHeirs$Deeds" (some .int) rm_X0_firstToDo G) (hk : LWd G k) (hk2 : 2 ≤ k) (d : Sl) (a1 : Int32) : Rz C 4 G (setS M k) (poP avI ((setS M k) d)) 0 [(0, .inr (k, 17)), (1, .inl (.int a1))] [] d (De_firstToDo d a1) := by
  unfold De_firstToDo
  refine z_iconst (pc := 0) hC (-1 : Int32) rfl dX0_firstToDo_0 ?_
  refine z_istore_n (pc := 1) (ls1 := fun v => [(2, .inl (.int v)), (0, .inr (k, 17)), (1, .inl (.int a1))]) hC 2 rfl (by decide) (fun v => rfl) dX0_firstToDo_1 (fun v2_3 => ?_)
  refine z_iconst (pc := 2) hC (0 : Int32) rfl dX0_firstToDo_2 ?_
  refine z_istore_n (pc := 3) (ls1 := fun v => [(3, .inl (.int v)), (2, .inl (.int v2_3)), (0, .inr (k, 17)), (1, .inl (.int a1))]) hC 3 rfl (by decide) (fun v => rfl) dX0_firstToDo_3 (fun v3_4 => ?_)
  exact z_sub [2, 3, 1, 0] rfl (r_De_firstToDo_4 hC hk hk2 FU a1 v2_3 v3_4)
theorem c_X0_firstToDo {G : Geo} {M : Mem} {k : Nat} (hG : GOk G) (hk : LWd G k) (hk2 : 2 ≤ k) {d : Sl} {a1 : Int32} (l : Launch) (r : Int32) (h : De_firstToDo d a1 = some r) : Mt l yX0_firstToDo cX0_firstToDo 4 (some .int) rm_X0_firstToDo G [.inr (k, 17), .inl (.int a1)] ((setS M k) d) (avI r) ((setS M k) d) :=
  mt_of (mem := (setS M k)) (po := poP avI ((setS M k) d)) (x0 := d) (t := r) rfl hG [.inr (k, 17), .inl (.int a1)] (Nat.le_of_ble_eq_true rfl) rfl (fun C hC => r_De_firstToDo hC hk hk2 d a1) h
-- FrameHeirs$Deeds.allToDo()I
abbrev rm_X0_allToDo : Room := { frames := 0, cells := 0, slots := 0, locals := 0 }
theorem dX0_allToDo_0 : decode cX0_allToDo 0 = .ok (.iconst 0, 1) := by decide +kernel
theorem dX0_allToDo_1 : decode cX0_allToDo 1 = .ok (.istore_n 1, 1) := by decide +kernel
theorem dX0_allToDo_2 : decode cX0_allToDo 2 = .ok (.iconst 0, 1) := by decide +kernel
theorem dX0_allToDo_3 : decode cX0_allToDo 3 = .ok (.istore_n 2, 1) := by decide +kernel
theorem dX0_allToDo_4 : decode cX0_allToDo 4 = .ok (.iload_n 2, 1) := by decide +kernel
theorem dX0_allToDo_5 : decode cX0_allToDo 5 = .ok (.aload_n 0, 1) := by decide +kernel
theorem dX0_allToDo_6 : decode cX0_allToDo 6 = .ok (.getfield 61, 3) := by decide +kernel
theorem dX0_allToDo_9 : decode cX0_allToDo 9 = .ok (.if_icmp .ge 30, 3) := by decide +kernel
theorem dX0_allToDo_12 : decode cX0_allToDo 12 = .ok (.aload_n 0, 1) := by decide +kernel
theorem dX0_allToDo_13 : decode cX0_allToDo 13 = .ok (.getfield 21, 3) := by decide +kernel
theorem dX0_allToDo_16 : decode cX0_allToDo 16 = .ok (.iload_n 2, 1) := by decide +kernel
theorem dX0_allToDo_17 : decode cX0_allToDo 17 = .ok (.iaload, 1) := by decide +kernel
theorem dX0_allToDo_18 : decode cX0_allToDo 18 = .ok (.ifCond .lt 15, 3) := by decide +kernel
theorem dX0_allToDo_21 : decode cX0_allToDo 21 = .ok (.aload_n 0, 1) := by decide +kernel
theorem dX0_allToDo_22 : decode cX0_allToDo 22 = .ok (.getfield 45, 3) := by decide +kernel
theorem dX0_allToDo_25 : decode cX0_allToDo 25 = .ok (.iload_n 2, 1) := by decide +kernel
theorem dX0_allToDo_26 : decode cX0_allToDo 26 = .ok (.iaload, 1) := by decide +kernel
theorem dX0_allToDo_27 : decode cX0_allToDo 27 = .ok (.ifCond .eq 6, 3) := by decide +kernel
theorem dX0_allToDo_30 : decode cX0_allToDo 30 = .ok (.iinc 1 1, 3) := by decide +kernel
theorem dX0_allToDo_33 : decode cX0_allToDo 33 = .ok (.iinc 2 1, 3) := by decide +kernel
theorem dX0_allToDo_36 : decode cX0_allToDo 36 = .ok (.goto (-32), 3) := by decide +kernel
theorem dX0_allToDo_39 : decode cX0_allToDo 39 = .ok (.iload_n 1, 1) := by decide +kernel
theorem dX0_allToDo_40 : decode cX0_allToDo 40 = .ok (.ireturn, 1) := by decide +kernel
def De_allToDo_33 (k4 : Int32 → Int32 → Option Int32) (d : Sl) (v1 : Int32) (v2 : Int32) : Option Int32 :=
  bnd (v2 + (1 : Int32)) fun v2_1 =>
  k4 v1 v2_1
def De_allToDo_4 (d : Sl) : Nat → Int32 → Int32 → Option Int32
  | 0, _, _ => none
  | n + 1, v1, v2 =>
    if (d 17 16) ≤ v2 then
      (some v1)
    else
      (if inb v2 192 then
      if (d 21 (ix v2)) < 0 then
        (De_allToDo_33 (De_allToDo_4 d n) d v1 v2)
      else
        (if inb v2 192 then
        if (d 29 (ix v2)) = 0 then
          (De_allToDo_33 (De_allToDo_4 d n) d v1 v2)
        else
          (bnd (v1 + (1 : Int32)) fun v1_2 =>
          De_allToDo_33 (De_allToDo_4 d n) d v1_2 v2)
        else none)
      else none)
def De_allToDo (d : Sl) : Option Int32 :=
  bnd (0 : Int32) fun v1_3 =>
  bnd (0 : Int32) fun v2_4 =>
  De_allToDo_4 d FU v1_3 v2_4
theorem y_X0_allToDo : YV yX0_allToDo cX0_allToDo 3 (some .int) 0 := ⟨q1098, q1099, q1100, q147, by decide +kernel, by decide +kernel, by decide +kernel, by decide +kernel⟩
theorem r_De_allToDo_33 {C : Cxt} {G : Geo} {M : Mem} {k : Nat} {d : Sl} (hC : Cx C cX0_allToDo 3 "FrameHeirs$Deeds" (some .int) rm_X0_allToDo G) (hk : LWd G k) (hk2 : 2 ≤ k) (k4 : Int32 → Int32 → Option Int32) (h4 : ∀ (v1 : Int32) (v2 : Int32), Rz C 3 G (setS M k) (poP avI ((setS M k) d)) 4 [(0, .inr (k, 17)), (1, .inl (.int v1)), (2, .inl (.int v2))] [] d (k4 v1 v2)) (v1 : Int32) (v2 : Int32) : Rz C 3 G (setS M k) (poP avI ((setS M k) d)) 33 [(0, .inr (k, 17)), (1, .inl (.int v1)), (2, .inl (.int v2))] [] d (De_allToDo_33 k4 d v1 v2) := by
  unfold De_allToDo_33
  refine z_iinc (pc := 33) (ls1 := fun v => [(2, .inl (.int v)), (0, .inr (k, 17)), (1, .inl (.int v1))]) hC 2 2 (by decide) (1 : Int32) rfl rfl (fun v => rfl) dX0_allToDo_33 (fun v2_1 => ?_)
  refine z_goto (pc := 36) hC 4 rfl dX0_allToDo_36 ?_
  exact z_sub [1, 2, 0] rfl (h4 v1 v2_1)
theorem r_De_allToDo_4 {C : Cxt} {G : Geo} {M : Mem} {k : Nat} {d : Sl} (hC : Cx C cX0_allToDo 3 "FrameHeirs$Deeds" (some .int) rm_X0_allToDo G) (hk : LWd G k) (hk2 : 2 ≤ k) : ∀ (n : Nat) (v1 : Int32) (v2 : Int32), Rz C 3 G (setS M k) (poP avI ((setS M k) d)) 4 [(0, .inr (k, 17)), (1, .inl (.int v1)), (2, .inl (.int v2))] [] d (De_allToDo_4 d n v1 v2) := by
  intro n
  induction n with
  | zero => intros; exact z_none
  | succ n ih =>
    intro v1 v2
    rw [De_allToDo_4]
    refine z_iload_n (pc := 4) hC 2 rfl 2 rfl dX0_allToDo_4 ?_
    refine z_aload_n (pc := 5) hC 0 rfl 0 rfl dX0_allToDo_5 ?_
    refine zs_geti (pc := 6) hC (hk 17 rfl) f_17_16 q327 dX0_allToDo_6 ?_
    refine z_icmp_ge (pc := 9) hC 39 rfl dX0_allToDo_9 ?_ ?_
    · refine z_iload_n (pc := 39) hC 1 rfl 1 rfl dX0_allToDo_39 ?_
      exact z_iret (pc := 40) hC rfl dX0_allToDo_40
    · refine z_aload_n (pc := 12) hC 0 rfl 0 rfl dX0_allToDo_12 ?_
      refine z_getc (pc := 13) hC (hk 17 rfl) f_17_3 q302 dX0_allToDo_13 ?_
      refine z_iload_n (pc := 16) hC 2 rfl 2 rfl dX0_allToDo_16 ?_
      refine zs_iald (pc := 17) hC (hk 21 rfl) rfl dX0_allToDo_17 ?_
      refine z_if_lt (pc := 18) hC 33 rfl dX0_allToDo_18 ?_ ?_
      · exact z_sub [0, 1, 2] rfl (r_De_allToDo_33 hC hk hk2 _ ih v1 v2)
      · refine z_aload_n (pc := 21) hC 0 rfl 0 rfl dX0_allToDo_21 ?_
        refine z_getc (pc := 22) hC (hk 17 rfl) f_17_11 q318 dX0_allToDo_22 ?_
        refine z_iload_n (pc := 25) hC 2 rfl 2 rfl dX0_allToDo_25 ?_
        refine zs_iald (pc := 26) hC (hk 29 rfl) rfl dX0_allToDo_26 ?_
        refine z_if_eq (pc := 27) hC 33 rfl dX0_allToDo_27 ?_ ?_
        · exact z_sub [0, 1, 2] rfl (r_De_allToDo_33 hC hk hk2 _ ih v1 v2)
        · refine z_iinc (pc := 30) (ls1 := fun v => [(1, .inl (.int v)), (0, .inr (k, 17)), (2, .inl (.int v2))]) hC 1 1 (by decide) (1 : Int32) rfl rfl (fun v => rfl) dX0_allToDo_30 (fun v1_2 => ?_)
          exact z_sub [1, 0, 2] rfl (r_De_allToDo_33 hC hk hk2 _ ih v1_2 v2)
theorem r_De_allToDo {C : Cxt} {G : Geo} {M : Mem} {k : Nat} (hC : Cx C cX0_allToDo 3 "FrameHeirs$Deeds" (some .int) rm_X0_allToDo G) (hk : LWd G k) (hk2 : 2 ≤ k) (d : Sl) : Rz C 3 G (setS M k) (poP avI ((setS M k) d)) 0 [(0, .inr (k, 17))] [] d (De_allToDo d) := by
  unfold De_allToDo
  refine z_iconst (pc := 0) hC (0 : Int32) rfl dX0_allToDo_0 ?_
  refine z_istore_n (pc := 1) (ls1 := fun v => [(1, .inl (.int v)), (0, .inr (k, 17))]) hC 1 rfl (by decide) (fun v => rfl) dX0_allToDo_1 (fun v1_3 => ?_)
  refine z_iconst (pc := 2) hC (0 : Int32) rfl dX0_allToDo_2 ?_
  refine z_istore_n (pc := 3) (ls1 := fun v => [(2, .inl (.int v)), (1, .inl (.int v1_3)), (0, .inr (k, 17))]) hC 2 rfl (by decide) (fun v => rfl) dX0_allToDo_3 (fun v2_4 => ?_)
  exact z_sub [2, 1, 0] rfl (r_De_allToDo_4 hC hk hk2 FU v1_3 v2_4)
theorem c_X0_allToDo {G : Geo} {M : Mem} {k : Nat} (hG : GOk G) (hk : LWd G k) (hk2 : 2 ≤ k) {d : Sl} (l : Launch) (r : Int32) (h : De_allToDo d = some r) : Mt l yX0_allToDo cX0_allToDo 3 (some .int) rm_X0_allToDo G [.inr (k, 17)] ((setS M k) d) (avI r) ((setS M k) d) :=
  mt_of (mem := (setS M k)) (po := poP avI ((setS M k) d)) (x0 := d) (t := r) rfl hG [.inr (k, 17)] (Nat.le_of_ble_eq_true rfl) rfl (fun C hC => r_De_allToDo hC hk hk2 d) h
-- FrameHeirs$Deeds.queueBeneath(IZII)I
abbrev rm_X0_queueBeneath : Room := { frames := 2, cells := 0, slots := 0, locals := 44 }
theorem dX0_queueBeneath_0 : decode cX0_queueBeneath 0 = .ok (.iload 4, 2) := by decide +kernel
theorem dX0_queueBeneath_2 : decode cX0_queueBeneath 2 = .ok (.istore 5, 2) := by decide +kernel
theorem dX0_queueBeneath_4 : decode cX0_queueBeneath 4 = .ok (.aload_n 0, 1) := by decide +kernel
theorem dX0_queueBeneath_5 : decode cX0_queueBeneath 5 = .ok (.iload_n 1, 1) := by decide +kernel
theorem dX0_queueBeneath_6 : decode cX0_queueBeneath 6 = .ok (.invokevirtual 104, 3) := by decide +kernel
theorem dX0_queueBeneath_9 : decode cX0_queueBeneath 9 = .ok (.istore 6, 2) := by decide +kernel
theorem dX0_queueBeneath_11 : decode cX0_queueBeneath 11 = .ok (.iconst 0, 1) := by decide +kernel
theorem dX0_queueBeneath_12 : decode cX0_queueBeneath 12 = .ok (.istore 7, 2) := by decide +kernel
theorem dX0_queueBeneath_14 : decode cX0_queueBeneath 14 = .ok (.iload 7, 2) := by decide +kernel
theorem dX0_queueBeneath_16 : decode cX0_queueBeneath 16 = .ok (.sipush 192, 3) := by decide +kernel
theorem dX0_queueBeneath_19 : decode cX0_queueBeneath 19 = .ok (.if_icmp .ge 72, 3) := by decide +kernel
theorem dX0_queueBeneath_22 : decode cX0_queueBeneath 22 = .ok (.iload 6, 2) := by decide +kernel
theorem dX0_queueBeneath_24 : decode cX0_queueBeneath 24 = .ok (.ifCond .lt 67, 3) := by decide +kernel
theorem dX0_queueBeneath_27 : decode cX0_queueBeneath 27 = .ok (.aload_n 0, 1) := by decide +kernel
theorem dX0_queueBeneath_28 : decode cX0_queueBeneath 28 = .ok (.getfield 45, 3) := by decide +kernel
theorem dX0_queueBeneath_31 : decode cX0_queueBeneath 31 = .ok (.iload 6, 2) := by decide +kernel
theorem dX0_queueBeneath_33 : decode cX0_queueBeneath 33 = .ok (.iaload, 1) := by decide +kernel
theorem dX0_queueBeneath_34 : decode cX0_queueBeneath 34 = .ok (.ifCond .ne 33, 3) := by decide +kernel
theorem dX0_queueBeneath_37 : decode cX0_queueBeneath 37 = .ok (.iload_n 2, 1) := by decide +kernel
theorem dX0_queueBeneath_38 : decode cX0_queueBeneath 38 = .ok (.ifCond .ne 9, 3) := by decide +kernel
theorem dX0_queueBeneath_41 : decode cX0_queueBeneath 41 = .ok (.iload 6, 2) := by decide +kernel
theorem dX0_queueBeneath_43 : decode cX0_queueBeneath 43 = .ok (.iload_n 1, 1) := by decide +kernel
theorem dX0_queueBeneath_44 : decode cX0_queueBeneath 44 = .ok (.if_icmp .eq 23, 3) := by decide +kernel
theorem dX0_queueBeneath_47 : decode cX0_queueBeneath 47 = .ok (.aload_n 0, 1) := by decide +kernel
theorem dX0_queueBeneath_48 : decode cX0_queueBeneath 48 = .ok (.getfield 45, 3) := by decide +kernel
theorem dX0_queueBeneath_51 : decode cX0_queueBeneath 51 = .ok (.iload 6, 2) := by decide +kernel
theorem dX0_queueBeneath_53 : decode cX0_queueBeneath 53 = .ok (.iload_n 3, 1) := by decide +kernel
theorem dX0_queueBeneath_54 : decode cX0_queueBeneath 54 = .ok (.iastore, 1) := by decide +kernel
theorem dX0_queueBeneath_55 : decode cX0_queueBeneath 55 = .ok (.aload_n 0, 1) := by decide +kernel
theorem dX0_queueBeneath_56 : decode cX0_queueBeneath 56 = .ok (.getfield 48, 3) := by decide +kernel
theorem dX0_queueBeneath_59 : decode cX0_queueBeneath 59 = .ok (.iload 6, 2) := by decide +kernel
theorem dX0_queueBeneath_61 : decode cX0_queueBeneath 61 = .ok (.iload 5, 2) := by decide +kernel
theorem dX0_queueBeneath_63 : decode cX0_queueBeneath 63 = .ok (.iastore, 1) := by decide +kernel
theorem dX0_queueBeneath_64 : decode cX0_queueBeneath 64 = .ok (.iinc 5 1, 3) := by decide +kernel
theorem dX0_queueBeneath_67 : decode cX0_queueBeneath 67 = .ok (.iload 6, 2) := by decide +kernel
theorem dX0_queueBeneath_69 : decode cX0_queueBeneath 69 = .ok (.iload_n 1, 1) := by decide +kernel
theorem dX0_queueBeneath_70 : decode cX0_queueBeneath 70 = .ok (.if_icmp .ne 7, 3) := by decide +kernel
theorem dX0_queueBeneath_73 : decode cX0_queueBeneath 73 = .ok (.iconst (-1), 1) := by decide +kernel
theorem dX0_queueBeneath_74 : decode cX0_queueBeneath 74 = .ok (.goto 9, 3) := by decide +kernel
theorem dX0_queueBeneath_77 : decode cX0_queueBeneath 77 = .ok (.aload_n 0, 1) := by decide +kernel
theorem dX0_queueBeneath_78 : decode cX0_queueBeneath 78 = .ok (.iload 6, 2) := by decide +kernel
theorem dX0_queueBeneath_80 : decode cX0_queueBeneath 80 = .ok (.invokevirtual 108, 3) := by decide +kernel
theorem dX0_queueBeneath_83 : decode cX0_queueBeneath 83 = .ok (.istore 6, 2) := by decide +kernel
theorem dX0_queueBeneath_85 : decode cX0_queueBeneath 85 = .ok (.iinc 7 1, 3) := by decide +kernel
theorem dX0_queueBeneath_88 : decode cX0_queueBeneath 88 = .ok (.goto (-74), 3) := by decide +kernel
theorem dX0_queueBeneath_91 : decode cX0_queueBeneath 91 = .ok (.iload 5, 2) := by decide +kernel
theorem dX0_queueBeneath_93 : decode cX0_queueBeneath 93 = .ok (.ireturn, 1) := by decide +kernel
def De_queueBeneath_83 (k14 : Int32 → Int32 → Int32 → Int32 → Int32 → Int32 → Sl → Option (Int32 × Sl)) (v1 : Int32) (v2 : Int32) (v3 : Int32) (v5 : Int32) (v7 : Int32) (s0 : Int32) (d : Sl) : Option (Int32 × Sl) :=
  bnd s0 fun v6_1 =>
  bnd (v7 + (1 : Int32)) fun v7_2 =>
  k14 v1 v2 v3 v5 v6_1 v7_2 d
def De_queueBeneath_67 (k14 : Int32 → Int32 → Int32 → Int32 → Int32 → Int32 → Sl → Option (Int32 × Sl)) (v1 : Int32) (v2 : Int32) (v3 : Int32) (v5 : Int32) (v6 : Int32) (v7 : Int32) (d : Sl) : Option (Int32 × Sl) :=
  if v6 = v1 then
    (De_queueBeneath_83 k14 v1 v2 v3 v5 v7 (-1 : Int32) d)
  else
    (bp (De_afterwards d v6) fun r3 =>
    De_queueBeneath_83 k14 v1 v2 v3 v5 v7 r3 d)
def De_queueBeneath_47 (k14 : Int32 → Int32 → Int32 → Int32 → Int32 → Int32 → Sl → Option (Int32 × Sl)) (v1 : Int32) (v2 : Int32) (v3 : Int32) (v5 : Int32) (v6 : Int32) (v7 : Int32) (d : Sl) : Option (Int32 × Sl) :=
  if inb v6 192 then
  bnd (wr d 29 (ix v6) v3) fun d4 =>
  if inb v6 192 then
  bnd (wr d4 30 (ix v6) v5) fun d5 =>
  bnd (v5 + (1 : Int32)) fun v5_6 =>
  De_queueBeneath_67 k14 v1 v2 v3 v5_6 v6 v7 d5
  else none
  else none
def De_queueBeneath_14 : Nat → Int32 → Int32 → Int32 → Int32 → Int32 → Int32 → Sl → Option (Int32 × Sl)
  | 0, _, _, _, _, _, _, _ => none
  | n + 1, v1, v2, v3, v5, v6, v7, d =>
    if (192 : Int32) ≤ v7 then
      (some (v5, d))
    else
      (if v6 < 0 then
        (some (v5, d))
      else
        (if inb v6 192 then
        if (d 29 (ix v6)) = 0 then
          (if v2 = 0 then
            (if v6 = v1 then
              (De_queueBeneath_67 (De_queueBeneath_14 n) v1 v2 v3 v5 v6 v7 d)
            else
              (De_queueBeneath_47 (De_queueBeneath_14 n) v1 v2 v3 v5 v6 v7 d))
          else
            (De_queueBeneath_47 (De_queueBeneath_14 n) v1 v2 v3 v5 v6 v7 d))
        else
          (De_queueBeneath_67 (De_queueBeneath_14 n) v1 v2 v3 v5 v6 v7 d)
        else none))
def De_queueBeneath (d : Sl) (a1 : Int32) (a2 : Int32) (a3 : Int32) (a4 : Int32) : Option (Int32 × Sl) :=
  bnd a4 fun v5_7 =>
  bp (De_deepest d a1) fun r8 =>
  bnd r8 fun v6_9 =>
  bnd (0 : Int32) fun v7_10 =>
  De_queueBeneath_14 FU a1 a2 a3 v5_7 v6_9 v7_10 d
theorem y_X0_queueBeneath : YV yX0_queueBeneath cX0_queueBeneath 8 (some .int) 4 := ⟨q762, q763, q764, q147, by decide +kernel, by decide +kernel, by decide +kernel, by decide +kernel⟩
theorem r_De_queueBeneath_83 {C : Cxt} {G : Geo} {M : Mem} {k : Nat} (hC : Cx C cX0_queueBeneath 8 "FrameHeirs$Deeds" (some .int) rm_X0_queueBeneath G) (hk : LWd G k) (hk2 : 2 ≤ k) (k14 : Int32 → Int32 → Int32 → Int32 → Int32 → Int32 → Sl → Option (Int32 × Sl)) (h14 : ∀ (v1 : Int32) (v2 : Int32) (v3 : Int32) (v5 : Int32) (v6 : Int32) (v7 : Int32) (d : Sl), Rz C 8 G (setS M k) (poM avI (setS M k)) 14 [(0, .inr (k, 17)), (1, .inl (.int v1)), (2, .inl (.int v2)), (3, .inl (.int v3)), (5, .inl (.int v5)), (6, .inl (.int v6)), (7, .inl (.int v7))] [] d (k14 v1 v2 v3 v5 v6 v7 d)) (v1 : Int32) (v2 : Int32) (v3 : Int32) (v5 : Int32) (v7 : Int32) (s0 : Int32) (d : Sl) : Rz C 8 G (setS M k) (poM avI (setS M k)) 83 [(0, .inr (k, 17)), (1, .inl (.int v1)), (2, .inl (.int v2)), (3, .inl (.int v3)), (5, .inl (.int v5)), (7, .inl (.int v7))] [.inl (.int s0)] d (De_queueBeneath_83 k14 v1 v2 v3 v5 v7 s0 d) := by
  unfold De_queueBeneath_83
  refine z_istore (pc := 83) (ls1 := fun v => [(6, .inl (.int v)), (0, .inr (k, 17)), (1, .inl (.int v1)), (2, .inl (.int v2)), (3, .inl (.int v3)), (5, .inl (.int v5)), (7, .inl (.int v7))]) hC 6 (by decide) (fun v => rfl) dX0_queueBeneath_83 (fun v6_1 => ?_)
  refine z_iinc (pc := 85) (ls1 := fun v => [(7, .inl (.int v)), (6, .inl (.int v6_1)), (0, .inr (k, 17)), (1, .inl (.int v1)), (2, .inl (.int v2)), (3, .inl (.int v3)), (5, .inl (.int v5))]) hC 7 6 (by decide) (1 : Int32) rfl rfl (fun v => rfl) dX0_queueBeneath_85 (fun v7_2 => ?_)
  refine z_goto (pc := 88) hC 14 rfl dX0_queueBeneath_88 ?_
  exact z_sub [2, 3, 4, 5, 6, 1, 0] rfl (h14 v1 v2 v3 v5 v6_1 v7_2 d)
theorem r_De_queueBeneath_67 {C : Cxt} {G : Geo} {M : Mem} {k : Nat} (hC : Cx C cX0_queueBeneath 8 "FrameHeirs$Deeds" (some .int) rm_X0_queueBeneath G) (hk : LWd G k) (hk2 : 2 ≤ k) (k14 : Int32 → Int32 → Int32 → Int32 → Int32 → Int32 → Sl → Option (Int32 × Sl)) (h14 : ∀ (v1 : Int32) (v2 : Int32) (v3 : Int32) (v5 : Int32) (v6 : Int32) (v7 : Int32) (d : Sl), Rz C 8 G (setS M k) (poM avI (setS M k)) 14 [(0, .inr (k, 17)), (1, .inl (.int v1)), (2, .inl (.int v2)), (3, .inl (.int v3)), (5, .inl (.int v5)), (6, .inl (.int v6)), (7, .inl (.int v7))] [] d (k14 v1 v2 v3 v5 v6 v7 d)) (v1 : Int32) (v2 : Int32) (v3 : Int32) (v5 : Int32) (v6 : Int32) (v7 : Int32) (d : Sl) : Rz C 8 G (setS M k) (poM avI (setS M k)) 67 [(0, .inr (k, 17)), (1, .inl (.int v1)), (2, .inl (.int v2)), (3, .inl (.int v3)), (5, .inl (.int v5)), (6, .inl (.int v6)), (7, .inl (.int v7))] [] d (De_queueBeneath_67 k14 v1 v2 v3 v5 v6 v7 d) := by
  unfold De_queueBeneath_67
  refine z_iload (pc := 67) hC 6 5 rfl dX0_queueBeneath_67 ?_
  refine z_iload_n (pc := 69) hC 1 rfl 1 rfl dX0_queueBeneath_69 ?_
  refine z_icmp_ne (pc := 70) hC 77 rfl dX0_queueBeneath_70 ?_ ?_
  · refine z_aload_n (pc := 77) hC 0 rfl 0 rfl dX0_queueBeneath_77 ?_
    refine z_iload (pc := 78) hC 6 5 rfl dX0_queueBeneath_78 ?_
    refine z_piV (pc := 80) (st := []) hC y_X0_afterwards q769 [.inl (.int v6)] rfl (hk 17 rfl) rfl rfl (c_X0_afterwards hC.2.2.2.2.2.2.1 hk hk2) rfl ⟨rfl, rfl, (Nat.le_of_ble_eq_true rfl), (Nat.le_of_ble_eq_true rfl)⟩ (Nat.le_of_ble_eq_true rfl) dX0_queueBeneath_80 (fun r3 => ?_)
    exact z_sub [0, 1, 2, 3, 4, 6] rfl (r_De_queueBeneath_83 hC hk hk2 k14 h14 v1 v2 v3 v5 v7 r3 d)
  · refine z_iconst (pc := 73) hC (-1 : Int32) rfl dX0_queueBeneath_73 ?_
    refine z_goto (pc := 74) hC 83 rfl dX0_queueBeneath_74 ?_
    exact z_sub [0, 1, 2, 3, 4, 6] rfl (r_De_queueBeneath_83 hC hk hk2 k14 h14 v1 v2 v3 v5 v7 (-1 : Int32) d)
theorem r_De_queueBeneath_47 {C : Cxt} {G : Geo} {M : Mem} {k : Nat} (hC : Cx C cX0_queueBeneath 8 "FrameHeirs$Deeds" (some .int) rm_X0_queueBeneath G) (hk : LWd G k) (hk2 : 2 ≤ k) (k14 : Int32 → Int32 → Int32 → Int32 → Int32 → Int32 → Sl → Option (Int32 × Sl)) (h14 : ∀ (v1 : Int32) (v2 : Int32) (v3 : Int32) (v5 : Int32) (v6 : Int32) (v7 : Int32) (d : Sl), Rz C 8 G (setS M k) (poM avI (setS M k)) 14 [(0, .inr (k, 17)), (1, .inl (.int v1)), (2, .inl (.int v2)), (3, .inl (.int v3)), (5, .inl (.int v5)), (6, .inl (.int v6)), (7, .inl (.int v7))] [] d (k14 v1 v2 v3 v5 v6 v7 d)) (v1 : Int32) (v2 : Int32) (v3 : Int32) (v5 : Int32) (v6 : Int32) (v7 : Int32) (d : Sl) : Rz C 8 G (setS M k) (poM avI (setS M k)) 47 [(0, .inr (k, 17)), (1, .inl (.int v1)), (2, .inl (.int v2)), (3, .inl (.int v3)), (5, .inl (.int v5)), (6, .inl (.int v6)), (7, .inl (.int v7))] [] d (De_queueBeneath_47 k14 v1 v2 v3 v5 v6 v7 d) := by
  unfold De_queueBeneath_47
  refine z_aload_n (pc := 47) hC 0 rfl 0 rfl dX0_queueBeneath_47 ?_
  refine z_getc (pc := 48) hC (hk 17 rfl) f_17_11 q318 dX0_queueBeneath_48 ?_
  refine z_iload (pc := 51) hC 6 5 rfl dX0_queueBeneath_51 ?_
  refine z_iload_n (pc := 53) hC 3 rfl 3 rfl dX0_queueBeneath_53 ?_
  refine zs_iast (pc := 54) hC (hk 29 rfl) (by decide) rfl dX0_queueBeneath_54 (fun d4 => ?_)
  refine z_aload_n (pc := 55) hC 0 rfl 0 rfl dX0_queueBeneath_55 ?_
  refine z_getc (pc := 56) hC (hk 17 rfl) f_17_12 q320 dX0_queueBeneath_56 ?_
  refine z_iload (pc := 59) hC 6 5 rfl dX0_queueBeneath_59 ?_
  refine z_iload (pc := 61) hC 5 4 rfl dX0_queueBeneath_61 ?_
  refine zs_iast (pc := 63) hC (hk 30 rfl) (by decide) rfl dX0_queueBeneath_63 (fun d5 => ?_)
  refine z_iinc (pc := 64) (ls1 := fun v => [(5, .inl (.int v)), (0, .inr (k, 17)), (1, .inl (.int v1)), (2, .inl (.int v2)), (3, .inl (.int v3)), (6, .inl (.int v6)), (7, .inl (.int v7))]) hC 5 4 (by decide) (1 : Int32) rfl rfl (fun v => rfl) dX0_queueBeneath_64 (fun v5_6 => ?_)
  exact z_sub [1, 2, 3, 4, 0, 5, 6] rfl (r_De_queueBeneath_67 hC hk hk2 k14 h14 v1 v2 v3 v5_6 v6 v7 d5)
theorem r_De_queueBeneath_14 {C : Cxt} {G : Geo} {M : Mem} {k : Nat} (hC : Cx C cX0_queueBeneath 8 "FrameHeirs$Deeds" (some .int) rm_X0_queueBeneath G) (hk : LWd G k) (hk2 : 2 ≤ k) : ∀ (n : Nat) (v1 : Int32) (v2 : Int32) (v3 : Int32) (v5 : Int32) (v6 : Int32) (v7 : Int32) (d : Sl), Rz C 8 G (setS M k) (poM avI (setS M k)) 14 [(0, .inr (k, 17)), (1, .inl (.int v1)), (2, .inl (.int v2)), (3, .inl (.int v3)), (5, .inl (.int v5)), (6, .inl (.int v6)), (7, .inl (.int v7))] [] d (De_queueBeneath_14 n v1 v2 v3 v5 v6 v7 d) := by
  intro n
  induction n with
  | zero => intros; exact z_none
  | succ n ih =>
    intro v1 v2 v3 v5 v6 v7 d
    rw [De_queueBeneath_14]
    refine z_iload (pc := 14) hC 7 6 rfl dX0_queueBeneath_14 ?_
    refine z_sipush (pc := 16) hC (192 : Int32) rfl dX0_queueBeneath_16 ?_
    refine z_icmp_ge (pc := 19) hC 91 rfl dX0_queueBeneath_19 ?_ ?_
    · refine z_iload (pc := 91) hC 5 4 rfl dX0_queueBeneath_91 ?_
      exact z_iret (pc := 93) hC rfl dX0_queueBeneath_93
    · refine z_iload (pc := 22) hC 6 5 rfl dX0_queueBeneath_22 ?_
      refine z_if_lt (pc := 24) hC 91 rfl dX0_queueBeneath_24 ?_ ?_
      · refine z_iload (pc := 91) hC 5 4 rfl dX0_queueBeneath_91 ?_
        exact z_iret (pc := 93) hC rfl dX0_queueBeneath_93
      · refine z_aload_n (pc := 27) hC 0 rfl 0 rfl dX0_queueBeneath_27 ?_
        refine z_getc (pc := 28) hC (hk 17 rfl) f_17_11 q318 dX0_queueBeneath_28 ?_
        refine z_iload (pc := 31) hC 6 5 rfl dX0_queueBeneath_31 ?_
        refine zs_iald (pc := 33) hC (hk 29 rfl) rfl dX0_queueBeneath_33 ?_
        refine z_if_ne (pc := 34) hC 67 rfl dX0_queueBeneath_34 ?_ ?_
        · exact z_sub [0, 1, 2, 3, 4, 5, 6] rfl (r_De_queueBeneath_67 hC hk hk2 _ ih v1 v2 v3 v5 v6 v7 d)
        · refine z_iload_n (pc := 37) hC 2 rfl 2 rfl dX0_queueBeneath_37 ?_
          refine z_if_ne (pc := 38) hC 47 rfl dX0_queueBeneath_38 ?_ ?_
          · exact z_sub [0, 1, 2, 3, 4, 5, 6] rfl (r_De_queueBeneath_47 hC hk hk2 _ ih v1 v2 v3 v5 v6 v7 d)
          · refine z_iload (pc := 41) hC 6 5 rfl dX0_queueBeneath_41 ?_
            refine z_iload_n (pc := 43) hC 1 rfl 1 rfl dX0_queueBeneath_43 ?_
            refine z_icmp_eq (pc := 44) hC 67 rfl dX0_queueBeneath_44 ?_ ?_
            · exact z_sub [0, 1, 2, 3, 4, 5, 6] rfl (r_De_queueBeneath_67 hC hk hk2 _ ih v1 v2 v3 v5 v6 v7 d)
            · exact z_sub [0, 1, 2, 3, 4, 5, 6] rfl (r_De_queueBeneath_47 hC hk hk2 _ ih v1 v2 v3 v5 v6 v7 d)
theorem r_De_queueBeneath {C : Cxt} {G : Geo} {M : Mem} {k : Nat} (hC : Cx C cX0_queueBeneath 8 "FrameHeirs$Deeds" (some .int) rm_X0_queueBeneath G) (hk : LWd G k) (hk2 : 2 ≤ k) (d : Sl) (a1 : Int32) (a2 : Int32) (a3 : Int32) (a4 : Int32) : Rz C 8 G (setS M k) (poM avI (setS M k)) 0 [(0, .inr (k, 17)), (1, .inl (.int a1)), (2, .inl (.int a2)), (3, .inl (.int a3)), (4, .inl (.int a4))] [] d (De_queueBeneath d a1 a2 a3 a4) := by
  unfold De_queueBeneath
  refine z_iload (pc := 0) hC 4 4 rfl dX0_queueBeneath_0 ?_
  refine z_istore (pc := 2) (ls1 := fun v => [(5, .inl (.int v)), (0, .inr (k, 17)), (1, .inl (.int a1)), (2, .inl (.int a2)), (3, .inl (.int a3)), (4, .inl (.int a4))]) hC 5 (by decide) (fun v => rfl) dX0_queueBeneath_2 (fun v5_7 => ?_)
  refine z_aload_n (pc := 4) hC 0 rfl 1 rfl dX0_queueBeneath_4 ?_
  refine z_iload_n (pc := 5) hC 1 rfl 2 rfl dX0_queueBeneath_5 ?_
  refine z_piV (pc := 6) (st := []) hC y_X0_deepest q765 [.inl (.int a1)] rfl (hk 17 rfl) rfl rfl (c_X0_deepest hC.2.2.2.2.2.2.1 hk hk2) rfl ⟨rfl, rfl, (Nat.le_of_ble_eq_true rfl), (Nat.le_of_ble_eq_true rfl)⟩ (Nat.le_of_ble_eq_true rfl) dX0_queueBeneath_6 (fun r8 => ?_)
  refine z_istore (pc := 9) (ls1 := fun v => [(6, .inl (.int v)), (5, .inl (.int v5_7)), (0, .inr (k, 17)), (1, .inl (.int a1)), (2, .inl (.int a2)), (3, .inl (.int a3)), (4, .inl (.int a4))]) hC 6 (by decide) (fun v => rfl) dX0_queueBeneath_9 (fun v6_9 => ?_)
  refine z_iconst (pc := 11) hC (0 : Int32) rfl dX0_queueBeneath_11 ?_
  refine z_istore (pc := 12) (ls1 := fun v => [(7, .inl (.int v)), (6, .inl (.int v6_9)), (5, .inl (.int v5_7)), (0, .inr (k, 17)), (1, .inl (.int a1)), (2, .inl (.int a2)), (3, .inl (.int a3)), (4, .inl (.int a4))]) hC 7 (by decide) (fun v => rfl) dX0_queueBeneath_12 (fun v7_10 => ?_)
  exact z_sub [3, 4, 5, 6, 2, 1, 0] rfl (r_De_queueBeneath_14 hC hk hk2 FU a1 a2 a3 v5_7 v6_9 v7_10 d)
theorem c_X0_queueBeneath {G : Geo} {M : Mem} {k : Nat} (hG : GOk G) (hk : LWd G k) (hk2 : 2 ≤ k) {d : Sl} {a1 : Int32} {a2 : Int32} {a3 : Int32} {a4 : Int32} (l : Launch) (r : Int32) (d1 : Sl) (h : De_queueBeneath d a1 a2 a3 a4 = some (r, d1)) : Mt l yX0_queueBeneath cX0_queueBeneath 8 (some .int) rm_X0_queueBeneath G [.inr (k, 17), .inl (.int a1), .inl (.int a2), .inl (.int a3), .inl (.int a4)] ((setS M k) d) (avI r) ((setS M k) d1) :=
  mt_of (mem := (setS M k)) (po := poM avI (setS M k)) (x0 := d) (t := (r, d1)) rfl hG [.inr (k, 17), .inl (.int a1), .inl (.int a2), .inl (.int a3), .inl (.int a4)] (Nat.le_of_ble_eq_true rfl) rfl (fun C hC => r_De_queueBeneath hC hk hk2 d a1 a2 a3 a4) h
-- FrameHeirs$Deeds.markTop(II)V
abbrev rm_X0_markTop : Room := { frames := 0, cells := 0, slots := 0, locals := 0 }
theorem dX0_markTop_0 : decode cX0_markTop 0 = .ok (.aload_n 0, 1) := by decide +kernel
theorem dX0_markTop_1 : decode cX0_markTop 1 = .ok (.getfield 42, 3) := by decide +kernel
theorem dX0_markTop_4 : decode cX0_markTop 4 = .ok (.iload_n 1, 1) := by decide +kernel
theorem dX0_markTop_5 : decode cX0_markTop 5 = .ok (.iload_n 2, 1) := by decide +kernel
theorem dX0_markTop_6 : decode cX0_markTop 6 = .ok (.iastore, 1) := by decide +kernel
theorem dX0_markTop_7 : decode cX0_markTop 7 = .ok (.aload_n 0, 1) := by decide +kernel
theorem dX0_markTop_8 : decode cX0_markTop 8 = .ok (.dup, 1) := by decide +kernel
theorem dX0_markTop_9 : decode cX0_markTop 9 = .ok (.getfield 68, 3) := by decide +kernel
theorem dX0_markTop_12 : decode cX0_markTop 12 = .ok (.iconst 1, 1) := by decide +kernel
theorem dX0_markTop_13 : decode cX0_markTop 13 = .ok (.iadd, 1) := by decide +kernel
theorem dX0_markTop_14 : decode cX0_markTop 14 = .ok (.putfield 68, 3) := by decide +kernel
theorem dX0_markTop_17 : decode cX0_markTop 17 = .ok (.return_, 1) := by decide +kernel
def De_markTop (d : Sl) (a1 : Int32) (a2 : Int32) : Option (Unit × Sl) :=
  if inb a1 192 then
  bnd (wr d 28 (ix a1) a2) fun d1 =>
  bnd (wr d1 17 18 ((d1 17 18) + (1 : Int32))) fun d2 =>
  some ((), d2)
  else none
theorem y_X0_markTop : YV yX0_markTop cX0_markTop 3 none 2 := ⟨q758, q759, q760, q147, by decide +kernel, by decide +kernel, by decide +kernel, by decide +kernel⟩
theorem r_De_markTop {C : Cxt} {G : Geo} {M : Mem} {k : Nat} (hC : Cx C cX0_markTop 3 "FrameHeirs$Deeds" none rm_X0_markTop G) (hk : LWd G k) (hk2 : 2 ≤ k) (d : Sl) (a1 : Int32) (a2 : Int32) : Rz C 3 G (setS M k) (poM avV (setS M k)) 0 [(0, .inr (k, 17)), (1, .inl (.int a1)), (2, .inl (.int a2))] [] d (De_markTop d a1 a2) := by
  unfold De_markTop
  refine z_aload_n (pc := 0) hC 0 rfl 0 rfl dX0_markTop_0 ?_
  refine z_getc (pc := 1) hC (hk 17 rfl) f_17_10 q317 dX0_markTop_1 ?_
  refine z_iload_n (pc := 4) hC 1 rfl 1 rfl dX0_markTop_4 ?_
  refine z_iload_n (pc := 5) hC 2 rfl 2 rfl dX0_markTop_5 ?_
  refine zs_iast (pc := 6) hC (hk 28 rfl) (by decide) rfl dX0_markTop_6 (fun d1 => ?_)
  refine z_aload_n (pc := 7) hC 0 rfl 0 rfl dX0_markTop_7 ?_
  refine z_dup (pc := 8) hC rfl dX0_markTop_8 ?_
  refine zs_geti (pc := 9) hC (hk 17 rfl) f_17_18 q331 dX0_markTop_9 ?_
  refine z_iconst (pc := 12) hC (1 : Int32) rfl dX0_markTop_12 ?_
  refine z_iadd (pc := 13) hC dX0_markTop_13 ?_
  refine zs_puti (pc := 14) hC (hk 17 rfl) f_17_18 q331 dX0_markTop_14 (fun d2 => ?_)
  exact z_vret (pc := 17) hC rfl dX0_markTop_17
theorem c_X0_markTop {G : Geo} {M : Mem} {k : Nat} (hG : GOk G) (hk : LWd G k) (hk2 : 2 ≤ k) {d : Sl} {a1 : Int32} {a2 : Int32} (l : Launch) (r : Unit) (d1 : Sl) (h : De_markTop d a1 a2 = some (r, d1)) : Mt l yX0_markTop cX0_markTop 3 none rm_X0_markTop G [.inr (k, 17), .inl (.int a1), .inl (.int a2)] ((setS M k) d) (avV r) ((setS M k) d1) :=
  mt_of (mem := (setS M k)) (po := poM avV (setS M k)) (x0 := d) (t := (r, d1)) rfl hG [.inr (k, 17), .inl (.int a1), .inl (.int a2)] (Nat.le_of_ble_eq_true rfl) rfl (fun C hC => r_De_markTop hC hk hk2 d a1 a2) h
-- FrameHeirs$Deeds.endJob(I)V
abbrev rm_X0_endJob : Room := { frames := 0, cells := 0, slots := 0, locals := 0 }
theorem dX0_endJob_0 : decode cX0_endJob 0 = .ok (.iconst 0, 1) := by decide +kernel
theorem dX0_endJob_1 : decode cX0_endJob 1 = .ok (.istore_n 2, 1) := by decide +kernel
theorem dX0_endJob_2 : decode cX0_endJob 2 = .ok (.iload_n 2, 1) := by decide +kernel
theorem dX0_endJob_3 : decode cX0_endJob 3 = .ok (.aload_n 0, 1) := by decide +kernel
theorem dX0_endJob_4 : decode cX0_endJob 4 = .ok (.getfield 61, 3) := by decide +kernel
theorem dX0_endJob_7 : decode cX0_endJob 7 = .ok (.if_icmp .ge 45, 3) := by decide +kernel
theorem dX0_endJob_10 : decode cX0_endJob 10 = .ok (.aload_n 0, 1) := by decide +kernel
theorem dX0_endJob_11 : decode cX0_endJob 11 = .ok (.getfield 21, 3) := by decide +kernel
theorem dX0_endJob_14 : decode cX0_endJob 14 = .ok (.iload_n 2, 1) := by decide +kernel
theorem dX0_endJob_15 : decode cX0_endJob 15 = .ok (.iaload, 1) := by decide +kernel
theorem dX0_endJob_16 : decode cX0_endJob 16 = .ok (.ifCond .lt 30, 3) := by decide +kernel
theorem dX0_endJob_19 : decode cX0_endJob 19 = .ok (.aload_n 0, 1) := by decide +kernel
theorem dX0_endJob_20 : decode cX0_endJob 20 = .ok (.getfield 42, 3) := by decide +kernel
theorem dX0_endJob_23 : decode cX0_endJob 23 = .ok (.iload_n 2, 1) := by decide +kernel
theorem dX0_endJob_24 : decode cX0_endJob 24 = .ok (.iaload, 1) := by decide +kernel
theorem dX0_endJob_25 : decode cX0_endJob 25 = .ok (.iload_n 1, 1) := by decide +kernel
theorem dX0_endJob_26 : decode cX0_endJob 26 = .ok (.if_icmp .ne 20, 3) := by decide +kernel
theorem dX0_endJob_29 : decode cX0_endJob 29 = .ok (.aload_n 0, 1) := by decide +kernel
theorem dX0_endJob_30 : decode cX0_endJob 30 = .ok (.getfield 42, 3) := by decide +kernel
theorem dX0_endJob_33 : decode cX0_endJob 33 = .ok (.iload_n 2, 1) := by decide +kernel
theorem dX0_endJob_34 : decode cX0_endJob 34 = .ok (.iconst 0, 1) := by decide +kernel
theorem dX0_endJob_35 : decode cX0_endJob 35 = .ok (.iastore, 1) := by decide +kernel
theorem dX0_endJob_36 : decode cX0_endJob 36 = .ok (.aload_n 0, 1) := by decide +kernel
theorem dX0_endJob_37 : decode cX0_endJob 37 = .ok (.dup, 1) := by decide +kernel
theorem dX0_endJob_38 : decode cX0_endJob 38 = .ok (.getfield 68, 3) := by decide +kernel
theorem dX0_endJob_41 : decode cX0_endJob 41 = .ok (.iconst 1, 1) := by decide +kernel
theorem dX0_endJob_42 : decode cX0_endJob 42 = .ok (.isub, 1) := by decide +kernel
theorem dX0_endJob_43 : decode cX0_endJob 43 = .ok (.putfield 68, 3) := by decide +kernel
theorem dX0_endJob_46 : decode cX0_endJob 46 = .ok (.iinc 2 1, 3) := by decide +kernel
theorem dX0_endJob_49 : decode cX0_endJob 49 = .ok (.goto (-47), 3) := by decide +kernel
theorem dX0_endJob_52 : decode cX0_endJob 52 = .ok (.return_, 1) := by decide +kernel
def De_endJob_46 (k2 : Int32 → Int32 → Sl → Option (Unit × Sl)) (v1 : Int32) (v2 : Int32) (d : Sl) : Option (Unit × Sl) :=
  bnd (v2 + (1 : Int32)) fun v2_1 =>
  k2 v1 v2_1 d
def De_endJob_2 : Nat → Int32 → Int32 → Sl → Option (Unit × Sl)
  | 0, _, _, _ => none
  | n + 1, v1, v2, d =>
    if (d 17 16) ≤ v2 then
      (some ((), d))
    else
      (if inb v2 192 then
      if (d 21 (ix v2)) < 0 then
        (De_endJob_46 (De_endJob_2 n) v1 v2 d)
      else
        (if inb v2 192 then
        if (d 28 (ix v2)) = v1 then
          (if inb v2 192 then
          bnd (wr d 28 (ix v2) (0 : Int32)) fun d2 =>
          bnd (wr d2 17 18 ((d2 17 18) - (1 : Int32))) fun d3 =>
          De_endJob_46 (De_endJob_2 n) v1 v2 d3
          else none)
        else
          (De_endJob_46 (De_endJob_2 n) v1 v2 d)
        else none)
      else none)
def De_endJob (d : Sl) (a1 : Int32) : Option (Unit × Sl) :=
  bnd (0 : Int32) fun v2_4 =>
  De_endJob_2 FU a1 v2_4 d
theorem y_X0_endJob : YV yX0_endJob cX0_endJob 3 none 1 := ⟨q774, q775, q776, q147, by decide +kernel, by decide +kernel, by decide +kernel, by decide +kernel⟩
theorem r_De_endJob_46 {C : Cxt} {G : Geo} {M : Mem} {k : Nat} (hC : Cx C cX0_endJob 3 "FrameHeirs$Deeds" none rm_X0_endJob G) (hk : LWd G k) (hk2 : 2 ≤ k) (k2 : Int32 → Int32 → Sl → Option (Unit × Sl)) (h2 : ∀ (v1 : Int32) (v2 : Int32) (d : Sl), Rz C 3 G (setS M k) (poM avV (setS M k)) 2 [(0, .inr (k, 17)), (1, .inl (.int v1)), (2, .inl (.int v2))] [] d (k2 v1 v2 d)) (v1 : Int32) (v2 : Int32) (d : Sl) : Rz C 3 G (setS M k) (poM avV (setS M k)) 46 [(0, .inr (k, 17)), (1, .inl (.int v1)), (2, .inl (.int v2))] [] d (De_endJob_46 k2 v1 v2 d) := by
  unfold De_endJob_46
  refine z_iinc (pc := 46) (ls1 := fun v => [(2, .inl (.int v)), (0, .inr (k, 17)), (1, .inl (.int v1))]) hC 2 2 (by decide) (1 : Int32) rfl rfl (fun v => rfl) dX0_endJob_46 (fun v2_1 => ?_)
  refine z_goto (pc := 49) hC 2 rfl dX0_endJob_49 ?_
  exact z_sub [1, 2, 0] rfl (h2 v1 v2_1 d)
theorem r_De_endJob_2 {C : Cxt} {G : Geo} {M : Mem} {k : Nat} (hC : Cx C cX0_endJob 3 "FrameHeirs$Deeds" none rm_X0_endJob G) (hk : LWd G k) (hk2 : 2 ≤ k) : ∀ (n : Nat) (v1 : Int32) (v2 : Int32) (d : Sl), Rz C 3 G (setS M k) (poM avV (setS M k)) 2 [(0, .inr (k, 17)), (1, .inl (.int v1)), (2, .inl (.int v2))] [] d (De_endJob_2 n v1 v2 d) := by
  intro n
  induction n with
  | zero => intros; exact z_none
  | succ n ih =>
    intro v1 v2 d
    rw [De_endJob_2]
    refine z_iload_n (pc := 2) hC 2 rfl 2 rfl dX0_endJob_2 ?_
    refine z_aload_n (pc := 3) hC 0 rfl 0 rfl dX0_endJob_3 ?_
    refine zs_geti (pc := 4) hC (hk 17 rfl) f_17_16 q327 dX0_endJob_4 ?_
    refine z_icmp_ge (pc := 7) hC 52 rfl dX0_endJob_7 ?_ ?_
    · exact z_vret (pc := 52) hC rfl dX0_endJob_52
    · refine z_aload_n (pc := 10) hC 0 rfl 0 rfl dX0_endJob_10 ?_
      refine z_getc (pc := 11) hC (hk 17 rfl) f_17_3 q302 dX0_endJob_11 ?_
      refine z_iload_n (pc := 14) hC 2 rfl 2 rfl dX0_endJob_14 ?_
      refine zs_iald (pc := 15) hC (hk 21 rfl) rfl dX0_endJob_15 ?_
      refine z_if_lt (pc := 16) hC 46 rfl dX0_endJob_16 ?_ ?_
      · exact z_sub [0, 1, 2] rfl (r_De_endJob_46 hC hk hk2 _ ih v1 v2 d)
      · refine z_aload_n (pc := 19) hC 0 rfl 0 rfl dX0_endJob_19 ?_
        refine z_getc (pc := 20) hC (hk 17 rfl) f_17_10 q317 dX0_endJob_20 ?_
        refine z_iload_n (pc := 23) hC 2 rfl 2 rfl dX0_endJob_23 ?_
        refine zs_iald (pc := 24) hC (hk 28 rfl) rfl dX0_endJob_24 ?_
        refine z_iload_n (pc := 25) hC 1 rfl 1 rfl dX0_endJob_25 ?_
        refine z_icmp_ne (pc := 26) hC 46 rfl dX0_endJob_26 ?_ ?_
        · exact z_sub [0, 1, 2] rfl (r_De_endJob_46 hC hk hk2 _ ih v1 v2 d)
        · refine z_aload_n (pc := 29) hC 0 rfl 0 rfl dX0_endJob_29 ?_
          refine z_getc (pc := 30) hC (hk 17 rfl) f_17_10 q317 dX0_endJob_30 ?_
          refine z_iload_n (pc := 33) hC 2 rfl 2 rfl dX0_endJob_33 ?_
          refine z_iconst (pc := 34) hC (0 : Int32) rfl dX0_endJob_34 ?_
          refine zs_iast (pc := 35) hC (hk 28 rfl) (by decide) rfl dX0_endJob_35 (fun d2 => ?_)
          refine z_aload_n (pc := 36) hC 0 rfl 0 rfl dX0_endJob_36 ?_
          refine z_dup (pc := 37) hC rfl dX0_endJob_37 ?_
          refine zs_geti (pc := 38) hC (hk 17 rfl) f_17_18 q331 dX0_endJob_38 ?_
          refine z_iconst (pc := 41) hC (1 : Int32) rfl dX0_endJob_41 ?_
          refine z_isub (pc := 42) hC dX0_endJob_42 ?_
          refine zs_puti (pc := 43) hC (hk 17 rfl) f_17_18 q331 dX0_endJob_43 (fun d3 => ?_)
          exact z_sub [0, 1, 2] rfl (r_De_endJob_46 hC hk hk2 _ ih v1 v2 d3)
theorem r_De_endJob {C : Cxt} {G : Geo} {M : Mem} {k : Nat} (hC : Cx C cX0_endJob 3 "FrameHeirs$Deeds" none rm_X0_endJob G) (hk : LWd G k) (hk2 : 2 ≤ k) (d : Sl) (a1 : Int32) : Rz C 3 G (setS M k) (poM avV (setS M k)) 0 [(0, .inr (k, 17)), (1, .inl (.int a1))] [] d (De_endJob d a1) := by
  unfold De_endJob
  refine z_iconst (pc := 0) hC (0 : Int32) rfl dX0_endJob_0 ?_
  refine z_istore_n (pc := 1) (ls1 := fun v => [(2, .inl (.int v)), (0, .inr (k, 17)), (1, .inl (.int a1))]) hC 2 rfl (by decide) (fun v => rfl) dX0_endJob_1 (fun v2_4 => ?_)
  exact z_sub [1, 2, 0] rfl (r_De_endJob_2 hC hk hk2 FU a1 v2_4 d)
theorem c_X0_endJob {G : Geo} {M : Mem} {k : Nat} (hG : GOk G) (hk : LWd G k) (hk2 : 2 ≤ k) {d : Sl} {a1 : Int32} (l : Launch) (r : Unit) (d1 : Sl) (h : De_endJob d a1 = some (r, d1)) : Mt l yX0_endJob cX0_endJob 3 none rm_X0_endJob G [.inr (k, 17), .inl (.int a1)] ((setS M k) d) (avV r) ((setS M k) d1) :=
  mt_of (mem := (setS M k)) (po := poM avV (setS M k)) (x0 := d) (t := (r, d1)) rfl hG [.inr (k, 17), .inl (.int a1)] (Nat.le_of_ble_eq_true rfl) rfl (fun C hC => r_De_endJob hC hk hk2 d a1) h

