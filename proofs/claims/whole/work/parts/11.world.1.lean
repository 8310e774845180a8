-- FrameHeirs$Script.clear()V
abbrev rm_X3_clear : Room := { frames := 0, cells := 0, slots := 0, locals := 0 }
theorem dX3_clear_0 : decode cX3_clear 0 = .ok (.aload_n 0, 1) := by decide +kernel
theorem dX3_clear_1 : decode cX3_clear 1 = .ok (.iconst 0, 1) := by decide +kernel
theorem dX3_clear_2 : decode cX3_clear 2 = .ok (.putfield 27, 3) := by decide +kernel
theorem dX3_clear_5 : decode cX3_clear 5 = .ok (.aload_n 0, 1) := by decide +kernel
theorem dX3_clear_6 : decode cX3_clear 6 = .ok (.bipush 16, 2) := by decide +kernel
theorem dX3_clear_8 : decode cX3_clear 8 = .ok (.putfield 31, 3) := by decide +kernel
theorem dX3_clear_11 : decode cX3_clear 11 = .ok (.aload_n 0, 1) := by decide +kernel
theorem dX3_clear_12 : decode cX3_clear 12 = .ok (.iconst 2, 1) := by decide +kernel
theorem dX3_clear_13 : decode cX3_clear 13 = .ok (.putfield 34, 3) := by decide +kernel
theorem dX3_clear_16 : decode cX3_clear 16 = .ok (.aload_n 0, 1) := by decide +kernel
theorem dX3_clear_17 : decode cX3_clear 17 = .ok (.iconst 5, 1) := by decide +kernel
theorem dX3_clear_18 : decode cX3_clear 18 = .ok (.putfield 37, 3) := by decide +kernel
theorem dX3_clear_21 : decode cX3_clear 21 = .ok (.aload_n 0, 1) := by decide +kernel
theorem dX3_clear_22 : decode cX3_clear 22 = .ok (.iconst 0, 1) := by decide +kernel
theorem dX3_clear_23 : decode cX3_clear 23 = .ok (.putfield 40, 3) := by decide +kernel
theorem dX3_clear_26 : decode cX3_clear 26 = .ok (.aload_n 0, 1) := by decide +kernel
theorem dX3_clear_27 : decode cX3_clear 27 = .ok (.iconst 0, 1) := by decide +kernel
theorem dX3_clear_28 : decode cX3_clear 28 = .ok (.putfield 43, 3) := by decide +kernel
theorem dX3_clear_31 : decode cX3_clear 31 = .ok (.aload_n 0, 1) := by decide +kernel
theorem dX3_clear_32 : decode cX3_clear 32 = .ok (.iconst 0, 1) := by decide +kernel
theorem dX3_clear_33 : decode cX3_clear 33 = .ok (.putfield 46, 3) := by decide +kernel
theorem dX3_clear_36 : decode cX3_clear 36 = .ok (.return_, 1) := by decide +kernel
def Sc_clear (d : Sl) : Option (Unit × Sl) :=
  bnd (wr d 4 5 (0 : Int32)) fun d1 =>
  bnd (wr d1 4 6 (16 : Int32)) fun d2 =>
  bnd (wr d2 4 7 (2 : Int32)) fun d3 =>
  bnd (wr d3 4 8 (5 : Int32)) fun d4 =>
  bnd (wr d4 4 9 (0 : Int32)) fun d5 =>
  bnd (wr d5 4 10 (0 : Int32)) fun d6 =>
  bnd (wr d6 4 11 (0 : Int32)) fun d7 =>
  some ((), d7)
theorem y_X3_clear : YV yX3_clear cX3_clear 1 none 0 := ⟨q482, q483, q484, q144, by decide +kernel, by decide +kernel, by decide +kernel, by decide +kernel⟩
theorem r_Sc_clear {C : Cxt} {G : Geo} {M : Mem} {k : Nat} (hC : Cx C cX3_clear 1 "FrameHeirs$Script" none rm_X3_clear G) (hk : LSc G k) (d : Sl) : Rz C 1 G (setS M k) (poM avV (setS M k)) 0 [(0, .inr (k, 4))] [] d (Sc_clear d) := by
  unfold Sc_clear
  refine z_aload_n (pc := 0) hC 0 rfl 0 rfl dX3_clear_0 ?_
  refine z_iconst (pc := 1) hC (0 : Int32) rfl dX3_clear_1 ?_
  refine zs_puti (pc := 2) hC (hk 4 rfl) f_4_5 q186 dX3_clear_2 (fun d1 => ?_)
  refine z_aload_n (pc := 5) hC 0 rfl 0 rfl dX3_clear_5 ?_
  refine z_bipush (pc := 6) hC (16 : Int32) rfl dX3_clear_6 ?_
  refine zs_puti (pc := 8) hC (hk 4 rfl) f_4_6 q190 dX3_clear_8 (fun d2 => ?_)
  refine z_aload_n (pc := 11) hC 0 rfl 0 rfl dX3_clear_11 ?_
  refine z_iconst (pc := 12) hC (2 : Int32) rfl dX3_clear_12 ?_
  refine zs_puti (pc := 13) hC (hk 4 rfl) f_4_7 q194 dX3_clear_13 (fun d3 => ?_)
  refine z_aload_n (pc := 16) hC 0 rfl 0 rfl dX3_clear_16 ?_
  refine z_iconst (pc := 17) hC (5 : Int32) rfl dX3_clear_17 ?_
  refine zs_puti (pc := 18) hC (hk 4 rfl) f_4_8 q197 dX3_clear_18 (fun d4 => ?_)
  refine z_aload_n (pc := 21) hC 0 rfl 0 rfl dX3_clear_21 ?_
  refine z_iconst (pc := 22) hC (0 : Int32) rfl dX3_clear_22 ?_
  refine zs_puti (pc := 23) hC (hk 4 rfl) f_4_9 q200 dX3_clear_23 (fun d5 => ?_)
  refine z_aload_n (pc := 26) hC 0 rfl 0 rfl dX3_clear_26 ?_
  refine z_iconst (pc := 27) hC (0 : Int32) rfl dX3_clear_27 ?_
  refine zs_puti (pc := 28) hC (hk 4 rfl) f_4_10 q203 dX3_clear_28 (fun d6 => ?_)
  refine z_aload_n (pc := 31) hC 0 rfl 0 rfl dX3_clear_31 ?_
  refine z_iconst (pc := 32) hC (0 : Int32) rfl dX3_clear_32 ?_
  refine zs_puti (pc := 33) hC (hk 4 rfl) f_4_11 q207 dX3_clear_33 (fun d7 => ?_)
  exact z_vret (pc := 36) hC rfl dX3_clear_36
theorem c_X3_clear {G : Geo} {M : Mem} {k : Nat} (hG : GOk G) (hk : LSc G k) {d : Sl} (l : Launch) (r : Unit) (d1 : Sl) (h : Sc_clear d = some (r, d1)) : Mt l yX3_clear cX3_clear 1 none rm_X3_clear G [.inr (k, 4)] ((setS M k) d) (avV r) ((setS M k) d1) :=
  mt_of (mem := (setS M k)) (po := poM avV (setS M k)) (x0 := d) (t := (r, d1)) rfl hG [.inr (k, 4)] (Nat.le_of_ble_eq_true rfl) rfl (fun C hC => r_Sc_clear hC hk d) h
-- FrameHeirs$Script.spaceNamed(I)I
abbrev rm_X3_spaceNamed : Room := { frames := 0, cells := 0, slots := 0, locals := 0 }
theorem dX3_spaceNamed_0 : decode cX3_spaceNamed 0 = .ok (.iconst 0, 1) := by decide +kernel
theorem dX3_spaceNamed_1 : decode cX3_spaceNamed 1 = .ok (.istore_n 2, 1) := by decide +kernel
theorem dX3_spaceNamed_2 : decode cX3_spaceNamed 2 = .ok (.iload_n 2, 1) := by decide +kernel
theorem dX3_spaceNamed_3 : decode cX3_spaceNamed 3 = .ok (.aload_n 0, 1) := by decide +kernel
theorem dX3_spaceNamed_4 : decode cX3_spaceNamed 4 = .ok (.getfield 27, 3) := by decide +kernel
theorem dX3_spaceNamed_7 : decode cX3_spaceNamed 7 = .ok (.if_icmp .ge 21, 3) := by decide +kernel
theorem dX3_spaceNamed_10 : decode cX3_spaceNamed 10 = .ok (.aload_n 0, 1) := by decide +kernel
theorem dX3_spaceNamed_11 : decode cX3_spaceNamed 11 = .ok (.getfield 9, 3) := by decide +kernel
theorem dX3_spaceNamed_14 : decode cX3_spaceNamed 14 = .ok (.iload_n 2, 1) := by decide +kernel
theorem dX3_spaceNamed_15 : decode cX3_spaceNamed 15 = .ok (.iaload, 1) := by decide +kernel
theorem dX3_spaceNamed_16 : decode cX3_spaceNamed 16 = .ok (.iload_n 1, 1) := by decide +kernel
theorem dX3_spaceNamed_17 : decode cX3_spaceNamed 17 = .ok (.if_icmp .ne 5, 3) := by decide +kernel
theorem dX3_spaceNamed_20 : decode cX3_spaceNamed 20 = .ok (.iload_n 2, 1) := by decide +kernel
theorem dX3_spaceNamed_21 : decode cX3_spaceNamed 21 = .ok (.ireturn, 1) := by decide +kernel
theorem dX3_spaceNamed_22 : decode cX3_spaceNamed 22 = .ok (.iinc 2 1, 3) := by decide +kernel
theorem dX3_spaceNamed_25 : decode cX3_spaceNamed 25 = .ok (.goto (-23), 3) := by decide +kernel
theorem dX3_spaceNamed_28 : decode cX3_spaceNamed 28 = .ok (.iconst (-1), 1) := by decide +kernel
theorem dX3_spaceNamed_29 : decode cX3_spaceNamed 29 = .ok (.ireturn, 1) := by decide +kernel
def Sc_spaceNamed_2 (d : Sl) : Nat → Int32 → Int32 → Option Int32
  | 0, _, _ => none
  | n + 1, v1, v2 =>
    if (d 4 5) ≤ v2 then
      (some (-1 : Int32))
    else
      (if inb v2 6 then
      if (d 5 (ix v2)) = v1 then
        (some v2)
      else
        (bnd (v2 + (1 : Int32)) fun v2_1 =>
        Sc_spaceNamed_2 d n v1 v2_1)
      else none)
def Sc_spaceNamed (d : Sl) (a1 : Int32) : Option Int32 :=
  bnd (0 : Int32) fun v2_2 =>
  Sc_spaceNamed_2 d FU a1 v2_2
theorem y_X3_spaceNamed : YV yX3_spaceNamed cX3_spaceNamed 3 (some .int) 1 := ⟨q526, q527, q528, q144, by decide +kernel, by decide +kernel, by decide +kernel, by decide +kernel⟩
theorem r_Sc_spaceNamed_2 {C : Cxt} {G : Geo} {M : Mem} {k : Nat} {d : Sl} (hC : Cx C cX3_spaceNamed 3 "FrameHeirs$Script" (some .int) rm_X3_spaceNamed G) (hk : LSc G k) : ∀ (n : Nat) (v1 : Int32) (v2 : Int32), Rz C 3 G (setS M k) (poP avI ((setS M k) d)) 2 [(0, .inr (k, 4)), (1, .inl (.int v1)), (2, .inl (.int v2))] [] d (Sc_spaceNamed_2 d n v1 v2) := by
  intro n
  induction n with
  | zero => intros; exact z_none
  | succ n ih =>
    intro v1 v2
    rw [Sc_spaceNamed_2]
    refine z_iload_n (pc := 2) hC 2 rfl 2 rfl dX3_spaceNamed_2 ?_
    refine z_aload_n (pc := 3) hC 0 rfl 0 rfl dX3_spaceNamed_3 ?_
    refine zs_geti (pc := 4) hC (hk 4 rfl) f_4_5 q186 dX3_spaceNamed_4 ?_
    refine z_icmp_ge (pc := 7) hC 28 rfl dX3_spaceNamed_7 ?_ ?_
    · refine z_iconst (pc := 28) hC (-1 : Int32) rfl dX3_spaceNamed_28 ?_
      exact z_iret (pc := 29) hC rfl dX3_spaceNamed_29
    · refine z_aload_n (pc := 10) hC 0 rfl 0 rfl dX3_spaceNamed_10 ?_
      refine z_getc (pc := 11) hC (hk 4 rfl) f_4_0 q173 dX3_spaceNamed_11 ?_
      refine z_iload_n (pc := 14) hC 2 rfl 2 rfl dX3_spaceNamed_14 ?_
      refine zs_iald (pc := 15) hC (hk 5 rfl) rfl dX3_spaceNamed_15 ?_
      refine z_iload_n (pc := 16) hC 1 rfl 1 rfl dX3_spaceNamed_16 ?_
      refine z_icmp_ne (pc := 17) hC 22 rfl dX3_spaceNamed_17 ?_ ?_
      · refine z_iinc (pc := 22) (ls1 := fun v => [(2, .inl (.int v)), (0, .inr (k, 4)), (1, .inl (.int v1))]) hC 2 2 (by decide) (1 : Int32) rfl rfl (fun v => rfl) dX3_spaceNamed_22 (fun v2_1 => ?_)
        refine z_goto (pc := 25) hC 2 rfl dX3_spaceNamed_25 ?_
        exact z_sub [1, 2, 0] rfl (ih v1 v2_1)
      · refine z_iload_n (pc := 20) hC 2 rfl 2 rfl dX3_spaceNamed_20 ?_
        exact z_iret (pc := 21) hC rfl dX3_spaceNamed_21
theorem r_Sc_spaceNamed {C : Cxt} {G : Geo} {M : Mem} {k : Nat} (hC : Cx C cX3_spaceNamed 3 "FrameHeirs$Script" (some .int) rm_X3_spaceNamed G) (hk : LSc G k) (d : Sl) (a1 : Int32) : Rz C 3 G (setS M k) (poP avI ((setS M k) d)) 0 [(0, .inr (k, 4)), (1, .inl (.int a1))] [] d (Sc_spaceNamed d a1) := by
  unfold Sc_spaceNamed
  refine z_iconst (pc := 0) hC (0 : Int32) rfl dX3_spaceNamed_0 ?_
  refine z_istore_n (pc := 1) (ls1 := fun v => [(2, .inl (.int v)), (0, .inr (k, 4)), (1, .inl (.int a1))]) hC 2 rfl (by decide) (fun v => rfl) dX3_spaceNamed_1 (fun v2_2 => ?_)
  exact z_sub [1, 2, 0] rfl (r_Sc_spaceNamed_2 hC hk FU a1 v2_2)
theorem c_X3_spaceNamed {G : Geo} {M : Mem} {k : Nat} (hG : GOk G) (hk : LSc G k) {d : Sl} {a1 : Int32} (l : Launch) (r : Int32) (h : Sc_spaceNamed d a1 = some r) : Mt l yX3_spaceNamed cX3_spaceNamed 3 (some .int) rm_X3_spaceNamed G [.inr (k, 4), .inl (.int a1)] ((setS M k) d) (avI r) ((setS M k) d) :=
  mt_of (mem := (setS M k)) (po := poP avI ((setS M k) d)) (x0 := d) (t := r) rfl hG [.inr (k, 4), .inl (.int a1)] (Nat.le_of_ble_eq_true rfl) rfl (fun C hC => r_Sc_spaceNamed hC hk d a1) h
-- FrameHeirs$Script.addSpace(I)V
abbrev rm_X3_addSpace : Room := { frames := 0, cells := 0, slots := 0, locals := 0 }
theorem dX3_addSpace_0 : decode cX3_addSpace 0 = .ok (.aload_n 0, 1) := by decide +kernel
theorem dX3_addSpace_1 : decode cX3_addSpace 1 = .ok (.getfield 27, 3) := by decide +kernel
theorem dX3_addSpace_4 : decode cX3_addSpace 4 = .ok (.bipush 6, 2) := by decide +kernel
theorem dX3_addSpace_6 : decode cX3_addSpace 6 = .ok (.if_icmp .ge 54, 3) := by decide +kernel
theorem dX3_addSpace_9 : decode cX3_addSpace 9 = .ok (.aload_n 0, 1) := by decide +kernel
theorem dX3_addSpace_10 : decode cX3_addSpace 10 = .ok (.getfield 9, 3) := by decide +kernel
theorem dX3_addSpace_13 : decode cX3_addSpace 13 = .ok (.aload_n 0, 1) := by decide +kernel
theorem dX3_addSpace_14 : decode cX3_addSpace 14 = .ok (.getfield 27, 3) := by decide +kernel
theorem dX3_addSpace_17 : decode cX3_addSpace 17 = .ok (.iload_n 1, 1) := by decide +kernel
theorem dX3_addSpace_18 : decode cX3_addSpace 18 = .ok (.iastore, 1) := by decide +kernel
theorem dX3_addSpace_19 : decode cX3_addSpace 19 = .ok (.aload_n 0, 1) := by decide +kernel
theorem dX3_addSpace_20 : decode cX3_addSpace 20 = .ok (.getfield 15, 3) := by decide +kernel
theorem dX3_addSpace_23 : decode cX3_addSpace 23 = .ok (.aload_n 0, 1) := by decide +kernel
theorem dX3_addSpace_24 : decode cX3_addSpace 24 = .ok (.getfield 27, 3) := by decide +kernel
theorem dX3_addSpace_27 : decode cX3_addSpace 27 = .ok (.iconst (-1), 1) := by decide +kernel
theorem dX3_addSpace_28 : decode cX3_addSpace 28 = .ok (.iastore, 1) := by decide +kernel
theorem dX3_addSpace_29 : decode cX3_addSpace 29 = .ok (.aload_n 0, 1) := by decide +kernel
theorem dX3_addSpace_30 : decode cX3_addSpace 30 = .ok (.getfield 18, 3) := by decide +kernel
theorem dX3_addSpace_33 : decode cX3_addSpace 33 = .ok (.aload_n 0, 1) := by decide +kernel
theorem dX3_addSpace_34 : decode cX3_addSpace 34 = .ok (.getfield 27, 3) := by decide +kernel
theorem dX3_addSpace_37 : decode cX3_addSpace 37 = .ok (.iconst 0, 1) := by decide +kernel
theorem dX3_addSpace_38 : decode cX3_addSpace 38 = .ok (.iastore, 1) := by decide +kernel
theorem dX3_addSpace_39 : decode cX3_addSpace 39 = .ok (.aload_n 0, 1) := by decide +kernel
theorem dX3_addSpace_40 : decode cX3_addSpace 40 = .ok (.getfield 21, 3) := by decide +kernel
theorem dX3_addSpace_43 : decode cX3_addSpace 43 = .ok (.aload_n 0, 1) := by decide +kernel
theorem dX3_addSpace_44 : decode cX3_addSpace 44 = .ok (.getfield 27, 3) := by decide +kernel
theorem dX3_addSpace_47 : decode cX3_addSpace 47 = .ok (.bipush 32, 2) := by decide +kernel
theorem dX3_addSpace_49 : decode cX3_addSpace 49 = .ok (.iastore, 1) := by decide +kernel
theorem dX3_addSpace_50 : decode cX3_addSpace 50 = .ok (.aload_n 0, 1) := by decide +kernel
theorem dX3_addSpace_51 : decode cX3_addSpace 51 = .ok (.dup, 1) := by decide +kernel
theorem dX3_addSpace_52 : decode cX3_addSpace 52 = .ok (.getfield 27, 3) := by decide +kernel
theorem dX3_addSpace_55 : decode cX3_addSpace 55 = .ok (.iconst 1, 1) := by decide +kernel
theorem dX3_addSpace_56 : decode cX3_addSpace 56 = .ok (.iadd, 1) := by decide +kernel
theorem dX3_addSpace_57 : decode cX3_addSpace 57 = .ok (.putfield 27, 3) := by decide +kernel
theorem dX3_addSpace_60 : decode cX3_addSpace 60 = .ok (.return_, 1) := by decide +kernel
def Sc_addSpace (d : Sl) (a1 : Int32) : Option (Unit × Sl) :=
  if (6 : Int32) ≤ (d 4 5) then
    (some ((), d))
  else
    (if inb (d 4 5) 6 then
    bnd (wr d 5 (ix (d 4 5)) a1) fun d1 =>
    if inb (d1 4 5) 6 then
    bnd (wr d1 6 (ix (d1 4 5)) (-1 : Int32)) fun d2 =>
    if inb (d2 4 5) 6 then
    bnd (wr d2 7 (ix (d2 4 5)) (0 : Int32)) fun d3 =>
    if inb (d3 4 5) 6 then
    bnd (wr d3 8 (ix (d3 4 5)) (32 : Int32)) fun d4 =>
    bnd (wr d4 4 5 ((d4 4 5) + (1 : Int32))) fun d5 =>
    some ((), d5)
    else none
    else none
    else none
    else none)
theorem y_X3_addSpace : YV yX3_addSpace cX3_addSpace 2 none 1 := ⟨q530, q531, q532, q144, by decide +kernel, by decide +kernel, by decide +kernel, by decide +kernel⟩
theorem r_Sc_addSpace {C : Cxt} {G : Geo} {M : Mem} {k : Nat} (hC : Cx C cX3_addSpace 2 "FrameHeirs$Script" none rm_X3_addSpace G) (hk : LSc G k) (d : Sl) (a1 : Int32) : Rz C 2 G (setS M k) (poM avV (setS M k)) 0 [(0, .inr (k, 4)), (1, .inl (.int a1))] [] d (Sc_addSpace d a1) := by
  unfold Sc_addSpace
  refine z_aload_n (pc := 0) hC 0 rfl 0 rfl dX3_addSpace_0 ?_
  refine zs_geti (pc := 1) hC (hk 4 rfl) f_4_5 q186 dX3_addSpace_1 ?_
  refine z_bipush (pc := 4) hC (6 : Int32) rfl dX3_addSpace_4 ?_
  refine z_icmp_ge (pc := 6) hC 60 rfl dX3_addSpace_6 ?_ ?_
  · exact z_vret (pc := 60) hC rfl dX3_addSpace_60
  · refine z_aload_n (pc := 9) hC 0 rfl 0 rfl dX3_addSpace_9 ?_
    refine z_getc (pc := 10) hC (hk 4 rfl) f_4_0 q173 dX3_addSpace_10 ?_
    refine z_aload_n (pc := 13) hC 0 rfl 0 rfl dX3_addSpace_13 ?_
    refine zs_geti (pc := 14) hC (hk 4 rfl) f_4_5 q186 dX3_addSpace_14 ?_
    refine z_iload_n (pc := 17) hC 1 rfl 1 rfl dX3_addSpace_17 ?_
    refine zs_iast (pc := 18) hC (hk 5 rfl) (by decide) rfl dX3_addSpace_18 (fun d1 => ?_)
    refine z_aload_n (pc := 19) hC 0 rfl 0 rfl dX3_addSpace_19 ?_
    refine z_getc (pc := 20) hC (hk 4 rfl) f_4_1 q174 dX3_addSpace_20 ?_
    refine z_aload_n (pc := 23) hC 0 rfl 0 rfl dX3_addSpace_23 ?_
    refine zs_geti (pc := 24) hC (hk 4 rfl) f_4_5 q186 dX3_addSpace_24 ?_
    refine z_iconst (pc := 27) hC (-1 : Int32) rfl dX3_addSpace_27 ?_
    refine zs_iast (pc := 28) hC (hk 6 rfl) (by decide) rfl dX3_addSpace_28 (fun d2 => ?_)
    refine z_aload_n (pc := 29) hC 0 rfl 0 rfl dX3_addSpace_29 ?_
    refine z_getc (pc := 30) hC (hk 4 rfl) f_4_2 q177 dX3_addSpace_30 ?_
    refine z_aload_n (pc := 33) hC 0 rfl 0 rfl dX3_addSpace_33 ?_
    refine zs_geti (pc := 34) hC (hk 4 rfl) f_4_5 q186 dX3_addSpace_34 ?_
    refine z_iconst (pc := 37) hC (0 : Int32) rfl dX3_addSpace_37 ?_
    refine zs_iast (pc := 38) hC (hk 7 rfl) (by decide) rfl dX3_addSpace_38 (fun d3 => ?_)
    refine z_aload_n (pc := 39) hC 0 rfl 0 rfl dX3_addSpace_39 ?_
    refine z_getc (pc := 40) hC (hk 4 rfl) f_4_3 q180 dX3_addSpace_40 ?_
    refine z_aload_n (pc := 43) hC 0 rfl 0 rfl dX3_addSpace_43 ?_
    refine zs_geti (pc := 44) hC (hk 4 rfl) f_4_5 q186 dX3_addSpace_44 ?_
    refine z_bipush (pc := 47) hC (32 : Int32) rfl dX3_addSpace_47 ?_
    refine zs_iast (pc := 49) hC (hk 8 rfl) (by decide) rfl dX3_addSpace_49 (fun d4 => ?_)
    refine z_aload_n (pc := 50) hC 0 rfl 0 rfl dX3_addSpace_50 ?_
    refine z_dup (pc := 51) hC rfl dX3_addSpace_51 ?_
    refine zs_geti (pc := 52) hC (hk 4 rfl) f_4_5 q186 dX3_addSpace_52 ?_
    refine z_iconst (pc := 55) hC (1 : Int32) rfl dX3_addSpace_55 ?_
    refine z_iadd (pc := 56) hC dX3_addSpace_56 ?_
    refine zs_puti (pc := 57) hC (hk 4 rfl) f_4_5 q186 dX3_addSpace_57 (fun d5 => ?_)
    exact z_vret (pc := 60) hC rfl dX3_addSpace_60
theorem c_X3_addSpace {G : Geo} {M : Mem} {k : Nat} (hG : GOk G) (hk : LSc G k) {d : Sl} {a1 : Int32} (l : Launch) (r : Unit) (d1 : Sl) (h : Sc_addSpace d a1 = some (r, d1)) : Mt l yX3_addSpace cX3_addSpace 2 none rm_X3_addSpace G [.inr (k, 4), .inl (.int a1)] ((setS M k) d) (avV r) ((setS M k) d1) :=
  mt_of (mem := (setS M k)) (po := poM avV (setS M k)) (x0 := d) (t := (r, d1)) rfl hG [.inr (k, 4), .inl (.int a1)] (Nat.le_of_ble_eq_true rfl) rfl (fun C hC => r_Sc_addSpace hC hk d a1) h
-- FrameHeirs$World.widen(III)V
abbrev rm_X4_widen : Room := { frames := 0, cells := 0, slots := 0, locals := 0 }
theorem dX4_widen_0 : decode cX4_widen 0 = .ok (.iload_n 3, 1) := by decide +kernel
theorem dX4_widen_1 : decode cX4_widen 1 = .ok (.ifCond .le 28, 3) := by decide +kernel
theorem dX4_widen_4 : decode cX4_widen 4 = .ok (.iload_n 1, 1) := by decide +kernel
theorem dX4_widen_5 : decode cX4_widen 5 = .ok (.ifCond .lt 24, 3) := by decide +kernel
theorem dX4_widen_8 : decode cX4_widen 8 = .ok (.iload_n 1, 1) := by decide +kernel
theorem dX4_widen_9 : decode cX4_widen 9 = .ok (.bipush 6, 2) := by decide +kernel
theorem dX4_widen_11 : decode cX4_widen 11 = .ok (.if_icmp .ge 18, 3) := by decide +kernel
theorem dX4_widen_14 : decode cX4_widen 14 = .ok (.aload_n 0, 1) := by decide +kernel
theorem dX4_widen_15 : decode cX4_widen 15 = .ok (.getfield 41, 3) := by decide +kernel
theorem dX4_widen_18 : decode cX4_widen 18 = .ok (.iload_n 1, 1) := by decide +kernel
theorem dX4_widen_19 : decode cX4_widen 19 = .ok (.dup2, 1) := by decide +kernel
theorem dX4_widen_20 : decode cX4_widen 20 = .ok (.iaload, 1) := by decide +kernel
theorem dX4_widen_21 : decode cX4_widen 21 = .ok (.iconst 1, 1) := by decide +kernel
theorem dX4_widen_22 : decode cX4_widen 22 = .ok (.iload_n 2, 1) := by decide +kernel
theorem dX4_widen_23 : decode cX4_widen 23 = .ok (.bipush 8, 2) := by decide +kernel
theorem dX4_widen_25 : decode cX4_widen 25 = .ok (.idiv, 1) := by decide +kernel
theorem dX4_widen_26 : decode cX4_widen 26 = .ok (.ishl, 1) := by decide +kernel
theorem dX4_widen_27 : decode cX4_widen 27 = .ok (.ior, 1) := by decide +kernel
theorem dX4_widen_28 : decode cX4_widen 28 = .ok (.iastore, 1) := by decide +kernel
theorem dX4_widen_29 : decode cX4_widen 29 = .ok (.return_, 1) := by decide +kernel
def Wo_widen (M : Mem) (d : Sl) (a1 : Int32) (a2 : Int32) (a3 : Int32) : Option (Unit × Sl) :=
  if a3 ≤ 0 then
    (some ((), d))
  else
    (if a1 < 0 then
      (some ((), d))
    else
      (if (6 : Int32) ≤ a1 then
        (some ((), d))
      else
        (if inb a1 6 then
        if ¬ (8 : Int32) = 0 then
        if inb a1 6 then
        bnd (wr d 15 (ix a1) ((d 15 (ix a1)) ||| ((1 : Int32) <<< ((a2 / (8 : Int32)) &&& 31)))) fun d1 =>
        some ((), d1)
        else none
        else none
        else none)))
theorem y_X4_widen : YV yX4_widen cX4_widen 4 none 3 := ⟨q597, q13, q598, q146, by decide +kernel, by decide +kernel, by decide +kernel, by decide +kernel⟩
theorem r_Wo_widen {C : Cxt} {G : Geo} {M : Mem} {k : Nat} (hC : Cx C cX4_widen 4 "FrameHeirs$World" none rm_X4_widen G) (hk : LWd G k) (hk2 : 2 ≤ k) (hcl : GCl G) (d : Sl) (a1 : Int32) (a2 : Int32) (a3 : Int32) : Rz C 4 G (setS M k) (poM avV (setS M k)) 0 [(0, .inr (k, 10)), (1, .inl (.int a1)), (2, .inl (.int a2)), (3, .inl (.int a3))] [] d (Wo_widen M d a1 a2 a3) := by
  unfold Wo_widen
  refine z_iload_n (pc := 0) hC 3 rfl 3 rfl dX4_widen_0 ?_
  refine z_if_le (pc := 1) hC 29 rfl dX4_widen_1 ?_ ?_
  · exact z_vret (pc := 29) hC rfl dX4_widen_29
  · refine z_iload_n (pc := 4) hC 1 rfl 1 rfl dX4_widen_4 ?_
    refine z_if_lt (pc := 5) hC 29 rfl dX4_widen_5 ?_ ?_
    · exact z_vret (pc := 29) hC rfl dX4_widen_29
    · refine z_iload_n (pc := 8) hC 1 rfl 1 rfl dX4_widen_8 ?_
      refine z_bipush (pc := 9) hC (6 : Int32) rfl dX4_widen_9 ?_
      refine z_icmp_ge (pc := 11) hC 29 rfl dX4_widen_11 ?_ ?_
      · exact z_vret (pc := 29) hC rfl dX4_widen_29
      · refine z_aload_n (pc := 14) hC 0 rfl 0 rfl dX4_widen_14 ?_
        refine z_getc (pc := 15) hC (hk 10 rfl) f_10_9 q388 dX4_widen_15 ?_
        refine z_iload_n (pc := 18) hC 1 rfl 1 rfl dX4_widen_18 ?_
        refine z_dup2 (pc := 19) hC rfl rfl dX4_widen_19 ?_
        refine zs_iald (pc := 20) hC (hk 15 rfl) rfl dX4_widen_20 ?_
        refine z_iconst (pc := 21) hC (1 : Int32) rfl dX4_widen_21 ?_
        refine z_iload_n (pc := 22) hC 2 rfl 2 rfl dX4_widen_22 ?_
        refine z_bipush (pc := 23) hC (8 : Int32) rfl dX4_widen_23 ?_
        refine z_idiv (pc := 25) hC dX4_widen_25 ?_
        refine z_ishl (pc := 26) hC dX4_widen_26 ?_
        refine z_ior (pc := 27) hC dX4_widen_27 ?_
        refine zs_iast (pc := 28) hC (hk 15 rfl) (by decide) rfl dX4_widen_28 (fun d1 => ?_)
        exact z_vret (pc := 29) hC rfl dX4_widen_29
theorem c_X4_widen {G : Geo} {M : Mem} {k : Nat} (hG : GOk G) (hk : LWd G k) (hk2 : 2 ≤ k) (hcl : GCl G) {d : Sl} {a1 : Int32} {a2 : Int32} {a3 : Int32} (l : Launch) (r : Unit) (d1 : Sl) (h : Wo_widen M d a1 a2 a3 = some (r, d1)) : Mt l yX4_widen cX4_widen 4 none rm_X4_widen G [.inr (k, 10), .inl (.int a1), .inl (.int a2), .inl (.int a3)] ((setS M k) d) (avV r) ((setS M k) d1) :=
  mt_of (mem := (setS M k)) (po := poM avV (setS M k)) (x0 := d) (t := (r, d1)) rfl hG [.inr (k, 10), .inl (.int a1), .inl (.int a2), .inl (.int a3)] (Nat.le_of_ble_eq_true rfl) rfl (fun C hC => r_Wo_widen hC hk hk2 hcl d a1 a2 a3) h
-- FrameHeirs$World.begin(LFrameHeirs$Script;)V
abbrev rm_X4_begin : Room := { frames := 2, cells := 0, slots := 0, locals := 51 }
theorem dX4_begin_0 : decode cX4_begin 0 = .ok (.aload_n 0, 1) := by decide +kernel
theorem dX4_begin_1 : decode cX4_begin 1 = .ok (.aload_n 1, 1) := by decide +kernel
theorem dX4_begin_2 : decode cX4_begin 2 = .ok (.putfield 59, 3) := by decide +kernel
theorem dX4_begin_5 : decode cX4_begin 5 = .ok (.aload_n 0, 1) := by decide +kernel
theorem dX4_begin_6 : decode cX4_begin 6 = .ok (.getfield 12, 3) := by decide +kernel
theorem dX4_begin_9 : decode cX4_begin 9 = .ok (.invokevirtual 63, 3) := by decide +kernel
theorem dX4_begin_12 : decode cX4_begin 12 = .ok (.aload_n 0, 1) := by decide +kernel
theorem dX4_begin_13 : decode cX4_begin 13 = .ok (.iconst 0, 1) := by decide +kernel
theorem dX4_begin_14 : decode cX4_begin 14 = .ok (.putfield 22, 3) := by decide +kernel
theorem dX4_begin_17 : decode cX4_begin 17 = .ok (.aload_n 0, 1) := by decide +kernel
theorem dX4_begin_18 : decode cX4_begin 18 = .ok (.iconst 0, 1) := by decide +kernel
theorem dX4_begin_19 : decode cX4_begin 19 = .ok (.putfield 26, 3) := by decide +kernel
theorem dX4_begin_22 : decode cX4_begin 22 = .ok (.aload_n 0, 1) := by decide +kernel
theorem dX4_begin_23 : decode cX4_begin 23 = .ok (.getfield 35, 3) := by decide +kernel
theorem dX4_begin_26 : decode cX4_begin 26 = .ok (.iconst 0, 1) := by decide +kernel
theorem dX4_begin_27 : decode cX4_begin 27 = .ok (.invokestatic 66, 3) := by decide +kernel
theorem dX4_begin_30 : decode cX4_begin 30 = .ok (.aload_n 0, 1) := by decide +kernel
theorem dX4_begin_31 : decode cX4_begin 31 = .ok (.iconst 0, 1) := by decide +kernel
theorem dX4_begin_32 : decode cX4_begin 32 = .ok (.putfield 38, 3) := by decide +kernel
theorem dX4_begin_35 : decode cX4_begin 35 = .ok (.aload_n 0, 1) := by decide +kernel
theorem dX4_begin_36 : decode cX4_begin 36 = .ok (.getfield 41, 3) := by decide +kernel
theorem dX4_begin_39 : decode cX4_begin 39 = .ok (.iconst 0, 1) := by decide +kernel
theorem dX4_begin_40 : decode cX4_begin 40 = .ok (.invokestatic 66, 3) := by decide +kernel
theorem dX4_begin_43 : decode cX4_begin 43 = .ok (.aload_n 0, 1) := by decide +kernel
theorem dX4_begin_44 : decode cX4_begin 44 = .ok (.iconst 0, 1) := by decide +kernel
theorem dX4_begin_45 : decode cX4_begin 45 = .ok (.putfield 47, 3) := by decide +kernel
theorem dX4_begin_48 : decode cX4_begin 48 = .ok (.aload_n 0, 1) := by decide +kernel
theorem dX4_begin_49 : decode cX4_begin 49 = .ok (.iconst 0, 1) := by decide +kernel
theorem dX4_begin_50 : decode cX4_begin 50 = .ok (.putfield 50, 3) := by decide +kernel
theorem dX4_begin_53 : decode cX4_begin 53 = .ok (.aload_n 0, 1) := by decide +kernel
theorem dX4_begin_54 : decode cX4_begin 54 = .ok (.iconst 0, 1) := by decide +kernel
theorem dX4_begin_55 : decode cX4_begin 55 = .ok (.putfield 53, 3) := by decide +kernel
theorem dX4_begin_58 : decode cX4_begin 58 = .ok (.aload_n 0, 1) := by decide +kernel
theorem dX4_begin_59 : decode cX4_begin 59 = .ok (.iconst 0, 1) := by decide +kernel
theorem dX4_begin_60 : decode cX4_begin 60 = .ok (.putfield 56, 3) := by decide +kernel
theorem dX4_begin_63 : decode cX4_begin 63 = .ok (.iconst 0, 1) := by decide +kernel
theorem dX4_begin_64 : decode cX4_begin 64 = .ok (.istore_n 2, 1) := by decide +kernel
theorem dX4_begin_65 : decode cX4_begin 65 = .ok (.iload_n 2, 1) := by decide +kernel
theorem dX4_begin_66 : decode cX4_begin 66 = .ok (.aload_n 1, 1) := by decide +kernel
theorem dX4_begin_67 : decode cX4_begin 67 = .ok (.getfield 72, 3) := by decide +kernel
theorem dX4_begin_70 : decode cX4_begin 70 = .ok (.if_icmp .ge 37, 3) := by decide +kernel
theorem dX4_begin_73 : decode cX4_begin 73 = .ok (.aload_n 1, 1) := by decide +kernel
theorem dX4_begin_74 : decode cX4_begin 74 = .ok (.getfield 77, 3) := by decide +kernel
theorem dX4_begin_77 : decode cX4_begin 77 = .ok (.ifCond .le 30, 3) := by decide +kernel
theorem dX4_begin_80 : decode cX4_begin 80 = .ok (.aload_n 0, 1) := by decide +kernel
theorem dX4_begin_81 : decode cX4_begin 81 = .ok (.getfield 12, 3) := by decide +kernel
theorem dX4_begin_84 : decode cX4_begin 84 = .ok (.iconst 0, 1) := by decide +kernel
theorem dX4_begin_85 : decode cX4_begin 85 = .ok (.iload_n 2, 1) := by decide +kernel
theorem dX4_begin_86 : decode cX4_begin 86 = .ok (.iload_n 2, 1) := by decide +kernel
theorem dX4_begin_87 : decode cX4_begin 87 = .ok (.iconst 3, 1) := by decide +kernel
theorem dX4_begin_88 : decode cX4_begin 88 = .ok (.bipush 7, 2) := by decide +kernel
theorem dX4_begin_90 : decode cX4_begin 90 = .ok (.invokevirtual 80, 3) := by decide +kernel
theorem dX4_begin_93 : decode cX4_begin 93 = .ok (.pop, 1) := by decide +kernel
theorem dX4_begin_94 : decode cX4_begin 94 = .ok (.aload_n 0, 1) := by decide +kernel
theorem dX4_begin_95 : decode cX4_begin 95 = .ok (.iconst 0, 1) := by decide +kernel
theorem dX4_begin_96 : decode cX4_begin 96 = .ok (.iload_n 2, 1) := by decide +kernel
theorem dX4_begin_97 : decode cX4_begin 97 = .ok (.iconst 3, 1) := by decide +kernel
theorem dX4_begin_98 : decode cX4_begin 98 = .ok (.invokevirtual 84, 3) := by decide +kernel
theorem dX4_begin_101 : decode cX4_begin 101 = .ok (.iinc 2 8, 3) := by decide +kernel
theorem dX4_begin_104 : decode cX4_begin 104 = .ok (.goto (-39), 3) := by decide +kernel
theorem dX4_begin_107 : decode cX4_begin 107 = .ok (.return_, 1) := by decide +kernel
def Wo_begin_65 (M : Mem) (q1 : Nat) : Nat → Int32 → Sl → Option (Unit × Sl)
  | 0, _, _ => none
  | n + 1, v2, d =>
    if (M q1 4 6) ≤ v2 then
      (some ((), d))
    else
      (if (M q1 4 5) ≤ 0 then
        (some ((), d))
      else
        (bd (De_make d (0 : Int32) v2 v2 (3 : Int32) (7 : Int32)) fun r1 d2 =>
        bd (Wo_widen M d2 (0 : Int32) v2 (3 : Int32)) fun r3 d4 =>
        bnd (v2 + (8 : Int32)) fun v2_5 =>
        Wo_begin_65 M q1 n v2_5 d4))
def Wo_begin (M : Mem) (q1 : Nat) (d : Sl) : Option (Unit × Sl) :=
  bnd (wr d 10 0 (nI q1)) fun d6 =>
  bd (De_clear d6) fun r7 d8 =>
  bnd (wr d8 10 3 (0 : Int32)) fun d9 =>
  bnd (wr d9 10 4 (0 : Int32)) fun d10 =>
  bd (Jk_fill_53178 14 6 d10 (0 : Int32)) fun r11 d12 =>
  bnd (wr d12 10 8 (0 : Int32)) fun d13 =>
  bd (Jk_fill_53178 15 6 d13 (0 : Int32)) fun r14 d15 =>
  bnd (wr d15 10 11 (0 : Int32)) fun d16 =>
  bnd (wr d16 10 12 (0 : Int32)) fun d17 =>
  bnd (wr d17 10 13 (0 : Int32)) fun d18 =>
  bnd (wr d18 10 14 (0 : Int32)) fun d19 =>
  bnd (0 : Int32) fun v2_20 =>
  Wo_begin_65 M q1 FU v2_20 d19
theorem y_X4_begin : YV yX4_begin cX4_begin 3 none 1 := ⟨q576, q577, q578, q146, by decide +kernel, by decide +kernel, by decide +kernel, by decide +kernel⟩
theorem r_Wo_begin_65 {C : Cxt} {G : Geo} {M : Mem} {k : Nat} {q1 : Nat} (hC : Cx C cX4_begin 3 "FrameHeirs$World" none rm_X4_begin G) (hk : LWd G k) (hk2 : 2 ≤ k) (hcl : GCl G) (hq1 : LSc G q1) (gq1 : q1 < 2) : ∀ (n : Nat) (v2 : Int32) (d : Sl), Rz C 3 G (setS M k) (poM avV (setS M k)) 65 [(0, .inr (k, 10)), (1, .inr (q1, 4)), (2, .inl (.int v2))] [] d (Wo_begin_65 M q1 n v2 d) := by
  intro n
  induction n with
  | zero => intros; exact z_none
  | succ n ih =>
    intro v2 d
    rw [Wo_begin_65]
    refine z_iload_n (pc := 65) hC 2 rfl 2 rfl dX4_begin_65 ?_
    refine z_aload_n (pc := 66) hC 1 rfl 1 rfl dX4_begin_66 ?_
    refine zo_geti (pc := 67) hC (Nat.ne_of_lt (Nat.lt_of_lt_of_le gq1 hk2)) (hq1 4 rfl) f_4_6 q191 dX4_begin_67 ?_
    refine z_icmp_ge (pc := 70) hC 107 rfl dX4_begin_70 ?_ ?_
    · exact z_vret (pc := 107) hC rfl dX4_begin_107
    · refine z_aload_n (pc := 73) hC 1 rfl 1 rfl dX4_begin_73 ?_
      refine zo_geti (pc := 74) hC (Nat.ne_of_lt (Nat.lt_of_lt_of_le gq1 hk2)) (hq1 4 rfl) f_4_5 q187 dX4_begin_74 ?_
      refine z_if_le (pc := 77) hC 107 rfl dX4_begin_77 ?_ ?_
      · exact z_vret (pc := 107) hC rfl dX4_begin_107
      · refine z_aload_n (pc := 80) hC 0 rfl 0 rfl dX4_begin_80 ?_
        refine z_getc (pc := 81) hC (hk 10 rfl) f_10_1 q378 dX4_begin_81 ?_
        refine z_iconst (pc := 84) hC (0 : Int32) rfl dX4_begin_84 ?_
        refine z_iload_n (pc := 85) hC 2 rfl 2 rfl dX4_begin_85 ?_
        refine z_iload_n (pc := 86) hC 2 rfl 2 rfl dX4_begin_86 ?_
        refine z_iconst (pc := 87) hC (3 : Int32) rfl dX4_begin_87 ?_
        refine z_bipush (pc := 88) hC (7 : Int32) rfl dX4_begin_88 ?_
        refine z_ciV (pc := 90) (st := []) hC y_X0_make q584 [.inl (.int (0 : Int32)), .inl (.int v2), .inl (.int v2), .inl (.int (3 : Int32)), .inl (.int (7 : Int32))] rfl (hk 17 rfl) rfl rfl (c_X0_make hC.2.2.2.2.2.2.1 hk hk2) rfl ⟨rfl, rfl, (Nat.le_of_ble_eq_true rfl), (Nat.le_of_ble_eq_true rfl)⟩ (Nat.le_of_ble_eq_true rfl) dX4_begin_90 (fun r1 d2 => ?_)
        refine z_pop (pc := 93) hC rfl dX4_begin_93 ?_
        refine z_aload_n (pc := 94) hC 0 rfl 0 rfl dX4_begin_94 ?_
        refine z_iconst (pc := 95) hC (0 : Int32) rfl dX4_begin_95 ?_
        refine z_iload_n (pc := 96) hC 2 rfl 2 rfl dX4_begin_96 ?_
        refine z_iconst (pc := 97) hC (3 : Int32) rfl dX4_begin_97 ?_
        refine z_cvV (pc := 98) (st := []) hC y_X4_widen q595 [.inl (.int (0 : Int32)), .inl (.int v2), .inl (.int (3 : Int32))] rfl (hk 10 rfl) rfl rfl (c_X4_widen hC.2.2.2.2.2.2.1 hk hk2 hcl) rfl ⟨rfl, rfl, (Nat.le_of_ble_eq_true rfl), (Nat.le_of_ble_eq_true rfl)⟩ (Nat.le_of_ble_eq_true rfl) dX4_begin_98 (fun r3 d4 => ?_)
        refine z_iinc (pc := 101) (ls1 := fun v => [(2, .inl (.int v)), (0, .inr (k, 10)), (1, .inr (q1, 4))]) hC 2 2 (by decide) (8 : Int32) rfl rfl (fun v => rfl) dX4_begin_101 (fun v2_5 => ?_)
        refine z_goto (pc := 104) hC 65 rfl dX4_begin_104 ?_
        exact z_sub [1, 2, 0] rfl (ih v2_5 d4)
theorem r_Wo_begin {C : Cxt} {G : Geo} {M : Mem} {k : Nat} {q1 : Nat} (hC : Cx C cX4_begin 3 "FrameHeirs$World" none rm_X4_begin G) (hk : LWd G k) (hk2 : 2 ≤ k) (hcl : GCl G) (hq1 : LSc G q1) (gq1 : q1 < 2) (d : Sl) : Rz C 3 G (setS M k) (poM avV (setS M k)) 0 [(0, .inr (k, 10)), (1, .inr (q1, 4))] [] d (Wo_begin M q1 d) := by
  unfold Wo_begin
  refine z_aload_n (pc := 0) hC 0 rfl 0 rfl dX4_begin_0 ?_
  refine z_aload_n (pc := 1) hC 1 rfl 1 rfl dX4_begin_1 ?_
  refine zs_putr (pc := 2) (cn := "FrameHeirs$Script") hC (hk 10 rfl) (hq1 4 rfl) f_10_0 q377 (by decide +kernel) dX4_begin_2 (fun d6 => ?_)
  refine z_aload_n (pc := 5) hC 0 rfl 0 rfl dX4_begin_5 ?_
  refine z_getc (pc := 6) hC (hk 10 rfl) f_10_1 q378 dX4_begin_6 ?_
  refine z_cvV (pc := 9) (st := []) hC y_X0_clear q579 [] rfl (hk 17 rfl) rfl rfl (c_X0_clear hC.2.2.2.2.2.2.1 hk hk2) rfl ⟨rfl, rfl, (Nat.le_of_ble_eq_true rfl), (Nat.le_of_ble_eq_true rfl)⟩ (Nat.le_of_ble_eq_true rfl) dX4_begin_9 (fun r7 d8 => ?_)
  refine z_aload_n (pc := 12) hC 0 rfl 0 rfl dX4_begin_12 ?_
  refine z_iconst (pc := 13) hC (0 : Int32) rfl dX4_begin_13 ?_
  refine zs_puti (pc := 14) hC (hk 10 rfl) f_10_3 q381 dX4_begin_14 (fun d9 => ?_)
  refine z_aload_n (pc := 17) hC 0 rfl 0 rfl dX4_begin_17 ?_
  refine z_iconst (pc := 18) hC (0 : Int32) rfl dX4_begin_18 ?_
  refine zs_puti (pc := 19) hC (hk 10 rfl) f_10_4 q383 dX4_begin_19 (fun d10 => ?_)
  refine z_aload_n (pc := 22) hC 0 rfl 0 rfl dX4_begin_22 ?_
  refine z_getc (pc := 23) hC (hk 10 rfl) f_10_7 q386 dX4_begin_23 ?_
  refine z_iconst (pc := 26) hC (0 : Int32) rfl dX4_begin_26 ?_
  refine z_cvS (pc := 27) (st := []) hC y_J7_fill_53178 q583 [.inr (k, 14), .inl (.int (0 : Int32))] rfl (c_J7_fill_53178 (Nb0 := 6) hC.2.2.2.2.2.2.1 (hk 14 rfl) (by decide) rfl) rfl ⟨rfl, rfl, (Nat.le_of_ble_eq_true rfl), (Nat.le_of_ble_eq_true rfl)⟩ (Nat.le_of_ble_eq_true rfl) dX4_begin_27 (fun r11 d12 => ?_)
  refine z_aload_n (pc := 30) hC 0 rfl 0 rfl dX4_begin_30 ?_
  refine z_iconst (pc := 31) hC (0 : Int32) rfl dX4_begin_31 ?_
  refine zs_puti (pc := 32) hC (hk 10 rfl) f_10_8 q387 dX4_begin_32 (fun d13 => ?_)
  refine z_aload_n (pc := 35) hC 0 rfl 0 rfl dX4_begin_35 ?_
  refine z_getc (pc := 36) hC (hk 10 rfl) f_10_9 q388 dX4_begin_36 ?_
  refine z_iconst (pc := 39) hC (0 : Int32) rfl dX4_begin_39 ?_
  refine z_cvS (pc := 40) (st := []) hC y_J7_fill_53178 q583 [.inr (k, 15), .inl (.int (0 : Int32))] rfl (c_J7_fill_53178 (Nb0 := 6) hC.2.2.2.2.2.2.1 (hk 15 rfl) (by decide) rfl) rfl ⟨rfl, rfl, (Nat.le_of_ble_eq_true rfl), (Nat.le_of_ble_eq_true rfl)⟩ (Nat.le_of_ble_eq_true rfl) dX4_begin_40 (fun r14 d15 => ?_)
  refine z_aload_n (pc := 43) hC 0 rfl 0 rfl dX4_begin_43 ?_
  refine z_iconst (pc := 44) hC (0 : Int32) rfl dX4_begin_44 ?_
  refine zs_puti (pc := 45) hC (hk 10 rfl) f_10_11 q391 dX4_begin_45 (fun d16 => ?_)
  refine z_aload_n (pc := 48) hC 0 rfl 0 rfl dX4_begin_48 ?_
  refine z_iconst (pc := 49) hC (0 : Int32) rfl dX4_begin_49 ?_
  refine zs_puti (pc := 50) hC (hk 10 rfl) f_10_12 q393 dX4_begin_50 (fun d17 => ?_)
  refine z_aload_n (pc := 53) hC 0 rfl 0 rfl dX4_begin_53 ?_
  refine z_iconst (pc := 54) hC (0 : Int32) rfl dX4_begin_54 ?_
  refine zs_puti (pc := 55) hC (hk 10 rfl) f_10_13 q395 dX4_begin_55 (fun d18 => ?_)
  refine z_aload_n (pc := 58) hC 0 rfl 0 rfl dX4_begin_58 ?_
  refine z_iconst (pc := 59) hC (0 : Int32) rfl dX4_begin_59 ?_
  refine zs_puti (pc := 60) hC (hk 10 rfl) f_10_14 q397 dX4_begin_60 (fun d19 => ?_)
  refine z_iconst (pc := 63) hC (0 : Int32) rfl dX4_begin_63 ?_
  refine z_istore_n (pc := 64) (ls1 := fun v => [(2, .inl (.int v)), (0, .inr (k, 10)), (1, .inr (q1, 4))]) hC 2 rfl (by decide) (fun v => rfl) dX4_begin_64 (fun v2_20 => ?_)
  exact z_sub [1, 2, 0] rfl (r_Wo_begin_65 hC hk hk2 hcl hq1 gq1 FU v2_20 d19)
theorem c_X4_begin {G : Geo} {M : Mem} {k : Nat} {q1 : Nat} (hG : GOk G) (hk : LWd G k) (hk2 : 2 ≤ k) (hcl : GCl G) (hq1 : LSc G q1) (gq1 : q1 < 2) {d : Sl} (l : Launch) (r : Unit) (d1 : Sl) (h : Wo_begin M q1 d = some (r, d1)) : Mt l yX4_begin cX4_begin 3 none rm_X4_begin G [.inr (k, 10), .inr (q1, 4)] ((setS M k) d) (avV r) ((setS M k) d1) :=
  mt_of (mem := (setS M k)) (po := poM avV (setS M k)) (x0 := d) (t := (r, d1)) rfl hG [.inr (k, 10), .inr (q1, 4)] (Nat.le_of_ble_eq_true rfl) rfl (fun C hC => r_Wo_begin hC hk hk2 hcl hq1 gq1 d) h
-- FrameHeirs$World.isSpace(I)Z
abbrev rm_X4_isSpace : Room := { frames := 0, cells := 0, slots := 0, locals := 0 }
theorem dX4_isSpace_0 : decode cX4_isSpace 0 = .ok (.iload_n 1, 1) := by decide +kernel
theorem dX4_isSpace_1 : decode cX4_isSpace 1 = .ok (.ifCond .lt 24, 3) := by decide +kernel
theorem dX4_isSpace_4 : decode cX4_isSpace 4 = .ok (.iload_n 1, 1) := by decide +kernel
theorem dX4_isSpace_5 : decode cX4_isSpace 5 = .ok (.aload_n 0, 1) := by decide +kernel
theorem dX4_isSpace_6 : decode cX4_isSpace 6 = .ok (.getfield 59, 3) := by decide +kernel
theorem dX4_isSpace_9 : decode cX4_isSpace 9 = .ok (.getfield 77, 3) := by decide +kernel
theorem dX4_isSpace_12 : decode cX4_isSpace 12 = .ok (.if_icmp .ge 13, 3) := by decide +kernel
theorem dX4_isSpace_15 : decode cX4_isSpace 15 = .ok (.iload_n 1, 1) := by decide +kernel
theorem dX4_isSpace_16 : decode cX4_isSpace 16 = .ok (.bipush 6, 2) := by decide +kernel
theorem dX4_isSpace_18 : decode cX4_isSpace 18 = .ok (.if_icmp .ge 7, 3) := by decide +kernel
theorem dX4_isSpace_21 : decode cX4_isSpace 21 = .ok (.iconst 1, 1) := by decide +kernel
theorem dX4_isSpace_22 : decode cX4_isSpace 22 = .ok (.goto 4, 3) := by decide +kernel
theorem dX4_isSpace_25 : decode cX4_isSpace 25 = .ok (.iconst 0, 1) := by decide +kernel
theorem dX4_isSpace_26 : decode cX4_isSpace 26 = .ok (.ireturn, 1) := by decide +kernel
def Wo_isSpace (M : Mem) (d : Sl) (a1 : Int32) : Option Int32 :=
  if a1 < 0 then
    (some (0 : Int32))
  else
    (gref (d 10 0) fun q1 =>
    if (M q1 4 5) ≤ a1 then
      (some (0 : Int32))
    else
      (if (6 : Int32) ≤ a1 then
        (some (0 : Int32))
      else
        (some (1 : Int32))))
theorem y_X4_isSpace : YV yX4_isSpace cX4_isSpace 2 (some .boolean) 1 := ⟨q637, q638, q639, q146, by decide +kernel, by decide +kernel, by decide +kernel, by decide +kernel⟩
theorem r_Wo_isSpace {C : Cxt} {G : Geo} {M : Mem} {k : Nat} (hC : Cx C cX4_isSpace 2 "FrameHeirs$World" (some .boolean) rm_X4_isSpace G) (hk : LWd G k) (hk2 : 2 ≤ k) (hcl : GCl G) (d : Sl) (a1 : Int32) : Rz C 2 G (setS M k) (poP avI ((setS M k) d)) 0 [(0, .inr (k, 10)), (1, .inl (.int a1))] [] d (Wo_isSpace M d a1) := by
  unfold Wo_isSpace
  refine z_iload_n (pc := 0) hC 1 rfl 1 rfl dX4_isSpace_0 ?_
  refine z_if_lt (pc := 1) hC 25 rfl dX4_isSpace_1 ?_ ?_
  · refine z_iconst (pc := 25) hC (0 : Int32) rfl dX4_isSpace_25 ?_
    exact z_zret (pc := 26) hC rfl rfl dX4_isSpace_26
  · refine z_iload_n (pc := 4) hC 1 rfl 1 rfl dX4_isSpace_4 ?_
    refine z_aload_n (pc := 5) hC 0 rfl 0 rfl dX4_isSpace_5 ?_
    refine zs_getS (pc := 6) hC hcl (hk 10 rfl) f_10_0 q377 dX4_isSpace_6 (fun q1 hq1 gq1 => ?_)
    refine zo_geti (pc := 9) hC (Nat.ne_of_lt (Nat.lt_of_lt_of_le gq1 hk2)) (hq1 4 rfl) f_4_5 q187 dX4_isSpace_9 ?_
    refine z_icmp_ge (pc := 12) hC 25 rfl dX4_isSpace_12 ?_ ?_
    · refine z_iconst (pc := 25) hC (0 : Int32) rfl dX4_isSpace_25 ?_
      exact z_zret (pc := 26) hC rfl rfl dX4_isSpace_26
    · refine z_iload_n (pc := 15) hC 1 rfl 1 rfl dX4_isSpace_15 ?_
      refine z_bipush (pc := 16) hC (6 : Int32) rfl dX4_isSpace_16 ?_
      refine z_icmp_ge (pc := 18) hC 25 rfl dX4_isSpace_18 ?_ ?_
      · refine z_iconst (pc := 25) hC (0 : Int32) rfl dX4_isSpace_25 ?_
        exact z_zret (pc := 26) hC rfl rfl dX4_isSpace_26
      · refine z_iconst (pc := 21) hC (1 : Int32) rfl dX4_isSpace_21 ?_
        refine z_goto (pc := 22) hC 26 rfl dX4_isSpace_22 ?_
        exact z_zret (pc := 26) hC rfl rfl dX4_isSpace_26
theorem c_X4_isSpace {G : Geo} {M : Mem} {k : Nat} (hG : GOk G) (hk : LWd G k) (hk2 : 2 ≤ k) (hcl : GCl G) {d : Sl} {a1 : Int32} (l : Launch) (r : Int32) (h : Wo_isSpace M d a1 = some r) : Mt l yX4_isSpace cX4_isSpace 2 (some .boolean) rm_X4_isSpace G [.inr (k, 10), .inl (.int a1)] ((setS M k) d) (avI r) ((setS M k) d) :=
  mt_of (mem := (setS M k)) (po := poP avI ((setS M k) d)) (x0 := d) (t := r) rfl hG [.inr (k, 10), .inl (.int a1)] (Nat.le_of_ble_eq_true rfl) rfl (fun C hC => r_Wo_isSpace hC hk hk2 hcl d a1) h
-- FrameHeirs$World.areTwo(II)Z
abbrev rm_X4_areTwo : Room := { frames := 1, cells := 0, slots := 0, locals := 21 }
theorem dX4_areTwo_0 : decode cX4_areTwo 0 = .ok (.aload_n 0, 1) := by decide +kernel
theorem dX4_areTwo_1 : decode cX4_areTwo 1 = .ok (.iload_n 1, 1) := by decide +kernel
theorem dX4_areTwo_2 : decode cX4_areTwo 2 = .ok (.invokevirtual 98, 3) := by decide +kernel
theorem dX4_areTwo_5 : decode cX4_areTwo 5 = .ok (.ifCond .eq 20, 3) := by decide +kernel
theorem dX4_areTwo_8 : decode cX4_areTwo 8 = .ok (.aload_n 0, 1) := by decide +kernel
theorem dX4_areTwo_9 : decode cX4_areTwo 9 = .ok (.iload_n 2, 1) := by decide +kernel
theorem dX4_areTwo_10 : decode cX4_areTwo 10 = .ok (.invokevirtual 98, 3) := by decide +kernel
theorem dX4_areTwo_13 : decode cX4_areTwo 13 = .ok (.ifCond .eq 12, 3) := by decide +kernel
theorem dX4_areTwo_16 : decode cX4_areTwo 16 = .ok (.iload_n 1, 1) := by decide +kernel
theorem dX4_areTwo_17 : decode cX4_areTwo 17 = .ok (.iload_n 2, 1) := by decide +kernel
theorem dX4_areTwo_18 : decode cX4_areTwo 18 = .ok (.if_icmp .eq 7, 3) := by decide +kernel
theorem dX4_areTwo_21 : decode cX4_areTwo 21 = .ok (.iconst 1, 1) := by decide +kernel
theorem dX4_areTwo_22 : decode cX4_areTwo 22 = .ok (.goto 4, 3) := by decide +kernel
theorem dX4_areTwo_25 : decode cX4_areTwo 25 = .ok (.iconst 0, 1) := by decide +kernel
theorem dX4_areTwo_26 : decode cX4_areTwo 26 = .ok (.ireturn, 1) := by decide +kernel
def Wo_areTwo (M : Mem) (d : Sl) (a1 : Int32) (a2 : Int32) : Option Int32 :=
  bp (Wo_isSpace M d a1) fun r1 =>
  if r1 = 0 then
    (some (0 : Int32))
  else
    (bp (Wo_isSpace M d a2) fun r2 =>
    if r2 = 0 then
      (some (0 : Int32))
    else
      (if a1 = a2 then
        (some (0 : Int32))
      else
        (some (1 : Int32))))
theorem y_X4_areTwo : YV yX4_areTwo cX4_areTwo 3 (some .boolean) 2 := ⟨q633, q634, q635, q146, by decide +kernel, by decide +kernel, by decide +kernel, by decide +kernel⟩
theorem r_Wo_areTwo {C : Cxt} {G : Geo} {M : Mem} {k : Nat} (hC : Cx C cX4_areTwo 3 "FrameHeirs$World" (some .boolean) rm_X4_areTwo G) (hk : LWd G k) (hk2 : 2 ≤ k) (hcl : GCl G) (d : Sl) (a1 : Int32) (a2 : Int32) : Rz C 3 G (setS M k) (poP avI ((setS M k) d)) 0 [(0, .inr (k, 10)), (1, .inl (.int a1)), (2, .inl (.int a2))] [] d (Wo_areTwo M d a1 a2) := by
  unfold Wo_areTwo
  refine z_aload_n (pc := 0) hC 0 rfl 0 rfl dX4_areTwo_0 ?_
  refine z_iload_n (pc := 1) hC 1 rfl 1 rfl dX4_areTwo_1 ?_
  refine z_piV (pc := 2) (st := []) hC y_X4_isSpace q636 [.inl (.int a1)] rfl (hk 10 rfl) rfl rfl (c_X4_isSpace hC.2.2.2.2.2.2.1 hk hk2 hcl) rfl ⟨rfl, rfl, (Nat.le_of_ble_eq_true rfl), (Nat.le_of_ble_eq_true rfl)⟩ (Nat.le_of_ble_eq_true rfl) dX4_areTwo_2 (fun r1 => ?_)
  refine z_if_eq (pc := 5) hC 25 rfl dX4_areTwo_5 ?_ ?_
  · refine z_iconst (pc := 25) hC (0 : Int32) rfl dX4_areTwo_25 ?_
    exact z_zret (pc := 26) hC rfl rfl dX4_areTwo_26
  · refine z_aload_n (pc := 8) hC 0 rfl 0 rfl dX4_areTwo_8 ?_
    refine z_iload_n (pc := 9) hC 2 rfl 2 rfl dX4_areTwo_9 ?_
    refine z_piV (pc := 10) (st := []) hC y_X4_isSpace q636 [.inl (.int a2)] rfl (hk 10 rfl) rfl rfl (c_X4_isSpace hC.2.2.2.2.2.2.1 hk hk2 hcl) rfl ⟨rfl, rfl, (Nat.le_of_ble_eq_true rfl), (Nat.le_of_ble_eq_true rfl)⟩ (Nat.le_of_ble_eq_true rfl) dX4_areTwo_10 (fun r2 => ?_)
    refine z_if_eq (pc := 13) hC 25 rfl dX4_areTwo_13 ?_ ?_
    · refine z_iconst (pc := 25) hC (0 : Int32) rfl dX4_areTwo_25 ?_
      exact z_zret (pc := 26) hC rfl rfl dX4_areTwo_26
    · refine z_iload_n (pc := 16) hC 1 rfl 1 rfl dX4_areTwo_16 ?_
      refine z_iload_n (pc := 17) hC 2 rfl 2 rfl dX4_areTwo_17 ?_
      refine z_icmp_eq (pc := 18) hC 25 rfl dX4_areTwo_18 ?_ ?_
      · refine z_iconst (pc := 25) hC (0 : Int32) rfl dX4_areTwo_25 ?_
        exact z_zret (pc := 26) hC rfl rfl dX4_areTwo_26
      · refine z_iconst (pc := 21) hC (1 : Int32) rfl dX4_areTwo_21 ?_
        refine z_goto (pc := 22) hC 26 rfl dX4_areTwo_22 ?_
        exact z_zret (pc := 26) hC rfl rfl dX4_areTwo_26
theorem c_X4_areTwo {G : Geo} {M : Mem} {k : Nat} (hG : GOk G) (hk : LWd G k) (hk2 : 2 ≤ k) (hcl : GCl G) {d : Sl} {a1 : Int32} {a2 : Int32} (l : Launch) (r : Int32) (h : Wo_areTwo M d a1 a2 = some r) : Mt l yX4_areTwo cX4_areTwo 3 (some .boolean) rm_X4_areTwo G [.inr (k, 10), .inl (.int a1), .inl (.int a2)] ((setS M k) d) (avI r) ((setS M k) d) :=
  mt_of (mem := (setS M k)) (po := poP avI ((setS M k) d)) (x0 := d) (t := r) rfl hG [.inr (k, 10), .inl (.int a1), .inl (.int a2)] (Nat.le_of_ble_eq_true rfl) rfl (fun C hC => r_Wo_areTwo hC hk hk2 hcl d a1 a2) h
-- FrameHeirs$World.isFrame(I)Z
abbrev rm_X4_isFrame : Room := { frames := 0, cells := 0, slots := 0, locals := 0 }
theorem dX4_isFrame_0 : decode cX4_isFrame 0 = .ok (.iload_n 1, 1) := by decide +kernel
theorem dX4_isFrame_1 : decode cX4_isFrame 1 = .ok (.ifCond .lt 18, 3) := by decide +kernel
theorem dX4_isFrame_4 : decode cX4_isFrame 4 = .ok (.iload_n 1, 1) := by decide +kernel
theorem dX4_isFrame_5 : decode cX4_isFrame 5 = .ok (.aload_n 0, 1) := by decide +kernel
theorem dX4_isFrame_6 : decode cX4_isFrame 6 = .ok (.getfield 59, 3) := by decide +kernel
theorem dX4_isFrame_9 : decode cX4_isFrame 9 = .ok (.getfield 72, 3) := by decide +kernel
theorem dX4_isFrame_12 : decode cX4_isFrame 12 = .ok (.if_icmp .ge 7, 3) := by decide +kernel
theorem dX4_isFrame_15 : decode cX4_isFrame 15 = .ok (.iconst 1, 1) := by decide +kernel
theorem dX4_isFrame_16 : decode cX4_isFrame 16 = .ok (.goto 4, 3) := by decide +kernel
theorem dX4_isFrame_19 : decode cX4_isFrame 19 = .ok (.iconst 0, 1) := by decide +kernel
theorem dX4_isFrame_20 : decode cX4_isFrame 20 = .ok (.ireturn, 1) := by decide +kernel
def Wo_isFrame (M : Mem) (d : Sl) (a1 : Int32) : Option Int32 :=
  if a1 < 0 then
    (some (0 : Int32))
  else
    (gref (d 10 0) fun q1 =>
    if (M q1 4 6) ≤ a1 then
      (some (0 : Int32))
    else
      (some (1 : Int32)))
theorem y_X4_isFrame : YV yX4_isFrame cX4_isFrame 2 (some .boolean) 1 := ⟨q937, q938, q939, q146, by decide +kernel, by decide +kernel, by decide +kernel, by decide +kernel⟩
theorem r_Wo_isFrame {C : Cxt} {G : Geo} {M : Mem} {k : Nat} (hC : Cx C cX4_isFrame 2 "FrameHeirs$World" (some .boolean) rm_X4_isFrame G) (hk : LWd G k) (hk2 : 2 ≤ k) (hcl : GCl G) (d : Sl) (a1 : Int32) : Rz C 2 G (setS M k) (poP avI ((setS M k) d)) 0 [(0, .inr (k, 10)), (1, .inl (.int a1))] [] d (Wo_isFrame M d a1) := by
  unfold Wo_isFrame
  refine z_iload_n (pc := 0) hC 1 rfl 1 rfl dX4_isFrame_0 ?_
  refine z_if_lt (pc := 1) hC 19 rfl dX4_isFrame_1 ?_ ?_
  · refine z_iconst (pc := 19) hC (0 : Int32) rfl dX4_isFrame_19 ?_
    exact z_zret (pc := 20) hC rfl rfl dX4_isFrame_20
  · refine z_iload_n (pc := 4) hC 1 rfl 1 rfl dX4_isFrame_4 ?_
    refine z_aload_n (pc := 5) hC 0 rfl 0 rfl dX4_isFrame_5 ?_
    refine zs_getS (pc := 6) hC hcl (hk 10 rfl) f_10_0 q377 dX4_isFrame_6 (fun q1 hq1 gq1 => ?_)
    refine zo_geti (pc := 9) hC (Nat.ne_of_lt (Nat.lt_of_lt_of_le gq1 hk2)) (hq1 4 rfl) f_4_6 q191 dX4_isFrame_9 ?_
    refine z_icmp_ge (pc := 12) hC 19 rfl dX4_isFrame_12 ?_ ?_
    · refine z_iconst (pc := 19) hC (0 : Int32) rfl dX4_isFrame_19 ?_
      exact z_zret (pc := 20) hC rfl rfl dX4_isFrame_20
    · refine z_iconst (pc := 15) hC (1 : Int32) rfl dX4_isFrame_15 ?_
      refine z_goto (pc := 16) hC 20 rfl dX4_isFrame_16 ?_
      exact z_zret (pc := 20) hC rfl rfl dX4_isFrame_20
theorem c_X4_isFrame {G : Geo} {M : Mem} {k : Nat} (hG : GOk G) (hk : LWd G k) (hk2 : 2 ≤ k) (hcl : GCl G) {d : Sl} {a1 : Int32} (l : Launch) (r : Int32) (h : Wo_isFrame M d a1 = some r) : Mt l yX4_isFrame cX4_isFrame 2 (some .boolean) rm_X4_isFrame G [.inr (k, 10), .inl (.int a1)] ((setS M k) d) (avI r) ((setS M k) d) :=
  mt_of (mem := (setS M k)) (po := poP avI ((setS M k) d)) (x0 := d) (t := r) rfl hG [.inr (k, 10), .inl (.int a1)] (Nat.le_of_ble_eq_true rfl) rfl (fun C hC => r_Wo_isFrame hC hk hk2 hcl d a1) h
-- FrameHeirs$World.isPlace(II)Z
abbrev rm_X4_isPlace : Room := { frames := 1, cells := 0, slots := 0, locals := 21 }
theorem dX4_isPlace_0 : decode cX4_isPlace 0 = .ok (.aload_n 0, 1) := by decide +kernel
theorem dX4_isPlace_1 : decode cX4_isPlace 1 = .ok (.iload_n 1, 1) := by decide +kernel
theorem dX4_isPlace_2 : decode cX4_isPlace 2 = .ok (.invokevirtual 98, 3) := by decide +kernel
theorem dX4_isPlace_5 : decode cX4_isPlace 5 = .ok (.ifCond .eq 22, 3) := by decide +kernel
theorem dX4_isPlace_8 : decode cX4_isPlace 8 = .ok (.iload_n 2, 1) := by decide +kernel
theorem dX4_isPlace_9 : decode cX4_isPlace 9 = .ok (.ifCond .lt 18, 3) := by decide +kernel
theorem dX4_isPlace_12 : decode cX4_isPlace 12 = .ok (.iload_n 2, 1) := by decide +kernel
theorem dX4_isPlace_13 : decode cX4_isPlace 13 = .ok (.aload_n 0, 1) := by decide +kernel
theorem dX4_isPlace_14 : decode cX4_isPlace 14 = .ok (.getfield 59, 3) := by decide +kernel
theorem dX4_isPlace_17 : decode cX4_isPlace 17 = .ok (.getfield 72, 3) := by decide +kernel
theorem dX4_isPlace_20 : decode cX4_isPlace 20 = .ok (.if_icmp .ge 7, 3) := by decide +kernel
theorem dX4_isPlace_23 : decode cX4_isPlace 23 = .ok (.iconst 1, 1) := by decide +kernel
theorem dX4_isPlace_24 : decode cX4_isPlace 24 = .ok (.goto 4, 3) := by decide +kernel
theorem dX4_isPlace_27 : decode cX4_isPlace 27 = .ok (.iconst 0, 1) := by decide +kernel
theorem dX4_isPlace_28 : decode cX4_isPlace 28 = .ok (.ireturn, 1) := by decide +kernel
def Wo_isPlace (M : Mem) (d : Sl) (a1 : Int32) (a2 : Int32) : Option Int32 :=
  bp (Wo_isSpace M d a1) fun r1 =>
  if r1 = 0 then
    (some (0 : Int32))
  else
    (if a2 < 0 then
      (some (0 : Int32))
    else
      (gref (d 10 0) fun q2 =>
      if (M q2 4 6) ≤ a2 then
        (some (0 : Int32))
      else
        (some (1 : Int32))))
theorem y_X4_isPlace : YV yX4_isPlace cX4_isPlace 3 (some .boolean) 2 := ⟨q810, q811, q812, q146, by decide +kernel, by decide +kernel, by decide +kernel, by decide +kernel⟩
theorem r_Wo_isPlace {C : Cxt} {G : Geo} {M : Mem} {k : Nat} (hC : Cx C cX4_isPlace 3 "FrameHeirs$World" (some .boolean) rm_X4_isPlace G) (hk : LWd G k) (hk2 : 2 ≤ k) (hcl : GCl G) (d : Sl) (a1 : Int32) (a2 : Int32) : Rz C 3 G (setS M k) (poP avI ((setS M k) d)) 0 [(0, .inr (k, 10)), (1, .inl (.int a1)), (2, .inl (.int a2))] [] d (Wo_isPlace M d a1 a2) := by
  unfold Wo_isPlace
  refine z_aload_n (pc := 0) hC 0 rfl 0 rfl dX4_isPlace_0 ?_
  refine z_iload_n (pc := 1) hC 1 rfl 1 rfl dX4_isPlace_1 ?_
  refine z_piV (pc := 2) (st := []) hC y_X4_isSpace q636 [.inl (.int a1)] rfl (hk 10 rfl) rfl rfl (c_X4_isSpace hC.2.2.2.2.2.2.1 hk hk2 hcl) rfl ⟨rfl, rfl, (Nat.le_of_ble_eq_true rfl), (Nat.le_of_ble_eq_true rfl)⟩ (Nat.le_of_ble_eq_true rfl) dX4_isPlace_2 (fun r1 => ?_)
  refine z_if_eq (pc := 5) hC 27 rfl dX4_isPlace_5 ?_ ?_
  · refine z_iconst (pc := 27) hC (0 : Int32) rfl dX4_isPlace_27 ?_
    exact z_zret (pc := 28) hC rfl rfl dX4_isPlace_28
  · refine z_iload_n (pc := 8) hC 2 rfl 2 rfl dX4_isPlace_8 ?_
    refine z_if_lt (pc := 9) hC 27 rfl dX4_isPlace_9 ?_ ?_
    · refine z_iconst (pc := 27) hC (0 : Int32) rfl dX4_isPlace_27 ?_
      exact z_zret (pc := 28) hC rfl rfl dX4_isPlace_28
    · refine z_iload_n (pc := 12) hC 2 rfl 2 rfl dX4_isPlace_12 ?_
      refine z_aload_n (pc := 13) hC 0 rfl 0 rfl dX4_isPlace_13 ?_
      refine zs_getS (pc := 14) hC hcl (hk 10 rfl) f_10_0 q377 dX4_isPlace_14 (fun q2 hq2 gq2 => ?_)
      refine zo_geti (pc := 17) hC (Nat.ne_of_lt (Nat.lt_of_lt_of_le gq2 hk2)) (hq2 4 rfl) f_4_6 q191 dX4_isPlace_17 ?_
      refine z_icmp_ge (pc := 20) hC 27 rfl dX4_isPlace_20 ?_ ?_
      · refine z_iconst (pc := 27) hC (0 : Int32) rfl dX4_isPlace_27 ?_
        exact z_zret (pc := 28) hC rfl rfl dX4_isPlace_28
      · refine z_iconst (pc := 23) hC (1 : Int32) rfl dX4_isPlace_23 ?_
        refine z_goto (pc := 24) hC 28 rfl dX4_isPlace_24 ?_
        exact z_zret (pc := 28) hC rfl rfl dX4_isPlace_28
theorem c_X4_isPlace {G : Geo} {M : Mem} {k : Nat} (hG : GOk G) (hk : LWd G k) (hk2 : 2 ≤ k) (hcl : GCl G) {d : Sl} {a1 : Int32} {a2 : Int32} (l : Launch) (r : Int32) (h : Wo_isPlace M d a1 a2 = some r) : Mt l yX4_isPlace cX4_isPlace 3 (some .boolean) rm_X4_isPlace G [.inr (k, 10), .inl (.int a1), .inl (.int a2)] ((setS M k) d) (avI r) ((setS M k) d) :=
  mt_of (mem := (setS M k)) (po := poP avI ((setS M k) d)) (x0 := d) (t := r) rfl hG [.inr (k, 10), .inl (.int a1), .inl (.int a2)] (Nat.le_of_ble_eq_true rfl) rfl (fun C hC => r_Wo_isPlace hC hk hk2 hcl d a1 a2) h
-- FrameHeirs$World.isRegion(II)Z
abbrev rm_X4_isRegion : Room := { frames := 0, cells := 0, slots := 0, locals := 0 }
theorem dX4_isRegion_0 : decode cX4_isRegion 0 = .ok (.iconst 1, 1) := by decide +kernel
theorem dX4_isRegion_1 : decode cX4_isRegion 1 = .ok (.iload_n 2, 1) := by decide +kernel
theorem dX4_isRegion_2 : decode cX4_isRegion 2 = .ok (.ishl, 1) := by decide +kernel
theorem dX4_isRegion_3 : decode cX4_isRegion 3 = .ok (.istore_n 3, 1) := by decide +kernel
theorem dX4_isRegion_4 : decode cX4_isRegion 4 = .ok (.iload_n 1, 1) := by decide +kernel
theorem dX4_isRegion_5 : decode cX4_isRegion 5 = .ok (.ifCond .lt 37, 3) := by decide +kernel
theorem dX4_isRegion_8 : decode cX4_isRegion 8 = .ok (.iload_n 1, 1) := by decide +kernel
theorem dX4_isRegion_9 : decode cX4_isRegion 9 = .ok (.aload_n 0, 1) := by decide +kernel
theorem dX4_isRegion_10 : decode cX4_isRegion 10 = .ok (.getfield 59, 3) := by decide +kernel
theorem dX4_isRegion_13 : decode cX4_isRegion 13 = .ok (.getfield 72, 3) := by decide +kernel
theorem dX4_isRegion_16 : decode cX4_isRegion 16 = .ok (.if_icmp .ge 26, 3) := by decide +kernel
theorem dX4_isRegion_19 : decode cX4_isRegion 19 = .ok (.iload_n 1, 1) := by decide +kernel
theorem dX4_isRegion_20 : decode cX4_isRegion 20 = .ok (.iload_n 3, 1) := by decide +kernel
theorem dX4_isRegion_21 : decode cX4_isRegion 21 = .ok (.irem, 1) := by decide +kernel
theorem dX4_isRegion_22 : decode cX4_isRegion 22 = .ok (.ifCond .ne 20, 3) := by decide +kernel
theorem dX4_isRegion_25 : decode cX4_isRegion 25 = .ok (.iload_n 1, 1) := by decide +kernel
theorem dX4_isRegion_26 : decode cX4_isRegion 26 = .ok (.iload_n 3, 1) := by decide +kernel
theorem dX4_isRegion_27 : decode cX4_isRegion 27 = .ok (.iadd, 1) := by decide +kernel
theorem dX4_isRegion_28 : decode cX4_isRegion 28 = .ok (.aload_n 0, 1) := by decide +kernel
theorem dX4_isRegion_29 : decode cX4_isRegion 29 = .ok (.getfield 59, 3) := by decide +kernel
theorem dX4_isRegion_32 : decode cX4_isRegion 32 = .ok (.getfield 72, 3) := by decide +kernel
theorem dX4_isRegion_35 : decode cX4_isRegion 35 = .ok (.if_icmp .gt 7, 3) := by decide +kernel
theorem dX4_isRegion_38 : decode cX4_isRegion 38 = .ok (.iconst 1, 1) := by decide +kernel
theorem dX4_isRegion_39 : decode cX4_isRegion 39 = .ok (.goto 4, 3) := by decide +kernel
theorem dX4_isRegion_42 : decode cX4_isRegion 42 = .ok (.iconst 0, 1) := by decide +kernel
theorem dX4_isRegion_43 : decode cX4_isRegion 43 = .ok (.ireturn, 1) := by decide +kernel
def Wo_isRegion (M : Mem) (d : Sl) (a1 : Int32) (a2 : Int32) : Option Int32 :=
  bnd ((1 : Int32) <<< (a2 &&& 31)) fun v3_1 =>
  if a1 < 0 then
    (some (0 : Int32))
  else
    (gref (d 10 0) fun q2 =>
    if (M q2 4 6) ≤ a1 then
      (some (0 : Int32))
    else
      (if ¬ v3_1 = 0 then
      if (a1 - a1 / v3_1 * v3_1) = 0 then
        (gref (d 10 0) fun q3 =>
        if (M q3 4 6) < (a1 + v3_1) then
          (some (0 : Int32))
        else
          (some (1 : Int32)))
      else
        (some (0 : Int32))
      else none))
theorem y_X4_isRegion : YV yX4_isRegion cX4_isRegion 4 (some .boolean) 2 := ⟨q646, q15, q647, q146, by decide +kernel, by decide +kernel, by decide +kernel, by decide +kernel⟩
theorem r_Wo_isRegion {C : Cxt} {G : Geo} {M : Mem} {k : Nat} (hC : Cx C cX4_isRegion 4 "FrameHeirs$World" (some .boolean) rm_X4_isRegion G) (hk : LWd G k) (hk2 : 2 ≤ k) (hcl : GCl G) (d : Sl) (a1 : Int32) (a2 : Int32) : Rz C 4 G (setS M k) (poP avI ((setS M k) d)) 0 [(0, .inr (k, 10)), (1, .inl (.int a1)), (2, .inl (.int a2))] [] d (Wo_isRegion M d a1 a2) := by
  unfold Wo_isRegion
  refine z_iconst (pc := 0) hC (1 : Int32) rfl dX4_isRegion_0 ?_
  refine z_iload_n (pc := 1) hC 2 rfl 2 rfl dX4_isRegion_1 ?_
  refine z_ishl (pc := 2) hC dX4_isRegion_2 ?_
  refine z_istore_n (pc := 3) (ls1 := fun v => [(3, .inl (.int v)), (0, .inr (k, 10)), (1, .inl (.int a1)), (2, .inl (.int a2))]) hC 3 rfl (by decide) (fun v => rfl) dX4_isRegion_3 (fun v3_1 => ?_)
  refine z_iload_n (pc := 4) hC 1 rfl 2 rfl dX4_isRegion_4 ?_
  refine z_if_lt (pc := 5) hC 42 rfl dX4_isRegion_5 ?_ ?_
  · refine z_iconst (pc := 42) hC (0 : Int32) rfl dX4_isRegion_42 ?_
    exact z_zret (pc := 43) hC rfl rfl dX4_isRegion_43
  · refine z_iload_n (pc := 8) hC 1 rfl 2 rfl dX4_isRegion_8 ?_
    refine z_aload_n (pc := 9) hC 0 rfl 1 rfl dX4_isRegion_9 ?_
    refine zs_getS (pc := 10) hC hcl (hk 10 rfl) f_10_0 q377 dX4_isRegion_10 (fun q2 hq2 gq2 => ?_)
    refine zo_geti (pc := 13) hC (Nat.ne_of_lt (Nat.lt_of_lt_of_le gq2 hk2)) (hq2 4 rfl) f_4_6 q191 dX4_isRegion_13 ?_
    refine z_icmp_ge (pc := 16) hC 42 rfl dX4_isRegion_16 ?_ ?_
    · refine z_iconst (pc := 42) hC (0 : Int32) rfl dX4_isRegion_42 ?_
      exact z_zret (pc := 43) hC rfl rfl dX4_isRegion_43
    · refine z_iload_n (pc := 19) hC 1 rfl 2 rfl dX4_isRegion_19 ?_
      refine z_iload_n (pc := 20) hC 3 rfl 0 rfl dX4_isRegion_20 ?_
      refine z_irem (pc := 21) hC dX4_isRegion_21 ?_
      refine z_if_ne (pc := 22) hC 42 rfl dX4_isRegion_22 ?_ ?_
      · refine z_iconst (pc := 42) hC (0 : Int32) rfl dX4_isRegion_42 ?_
        exact z_zret (pc := 43) hC rfl rfl dX4_isRegion_43
      · refine z_iload_n (pc := 25) hC 1 rfl 2 rfl dX4_isRegion_25 ?_
        refine z_iload_n (pc := 26) hC 3 rfl 0 rfl dX4_isRegion_26 ?_
        refine z_iadd (pc := 27) hC dX4_isRegion_27 ?_
        refine z_aload_n (pc := 28) hC 0 rfl 1 rfl dX4_isRegion_28 ?_
        refine zs_getS (pc := 29) hC hcl (hk 10 rfl) f_10_0 q377 dX4_isRegion_29 (fun q3 hq3 gq3 => ?_)
        refine zo_geti (pc := 32) hC (Nat.ne_of_lt (Nat.lt_of_lt_of_le gq3 hk2)) (hq3 4 rfl) f_4_6 q191 dX4_isRegion_32 ?_
        refine z_icmp_gt (pc := 35) hC 42 rfl dX4_isRegion_35 ?_ ?_
        · refine z_iconst (pc := 42) hC (0 : Int32) rfl dX4_isRegion_42 ?_
          exact z_zret (pc := 43) hC rfl rfl dX4_isRegion_43
        · refine z_iconst (pc := 38) hC (1 : Int32) rfl dX4_isRegion_38 ?_
          refine z_goto (pc := 39) hC 43 rfl dX4_isRegion_39 ?_
          exact z_zret (pc := 43) hC rfl rfl dX4_isRegion_43
theorem c_X4_isRegion {G : Geo} {M : Mem} {k : Nat} (hG : GOk G) (hk : LWd G k) (hk2 : 2 ≤ k) (hcl : GCl G) {d : Sl} {a1 : Int32} {a2 : Int32} (l : Launch) (r : Int32) (h : Wo_isRegion M d a1 a2 = some r) : Mt l yX4_isRegion cX4_isRegion 4 (some .boolean) rm_X4_isRegion G [.inr (k, 10), .inl (.int a1), .inl (.int a2)] ((setS M k) d) (avI r) ((setS M k) d) :=
  mt_of (mem := (setS M k)) (po := poP avI ((setS M k) d)) (x0 := d) (t := r) rfl hG [.inr (k, 10), .inl (.int a1), .inl (.int a2)] (Nat.le_of_ble_eq_true rfl) rfl (fun C hC => r_Wo_isRegion hC hk hk2 hcl d a1 a2) h
-- FrameHeirs$World.isRegionOf(II)Z
abbrev rm_X4_isRegionOf : Room := { frames := 1, cells := 0, slots := 0, locals := 23 }
theorem dX4_isRegionOf_0 : decode cX4_isRegionOf 0 = .ok (.aload_n 0, 1) := by decide +kernel
theorem dX4_isRegionOf_1 : decode cX4_isRegionOf 1 = .ok (.iload_n 1, 1) := by decide +kernel
theorem dX4_isRegionOf_2 : decode cX4_isRegionOf 2 = .ok (.invokevirtual 98, 3) := by decide +kernel
theorem dX4_isRegionOf_5 : decode cX4_isRegionOf 5 = .ok (.ifCond .eq 24, 3) := by decide +kernel
theorem dX4_isRegionOf_8 : decode cX4_isRegionOf 8 = .ok (.iload_n 2, 1) := by decide +kernel
theorem dX4_isRegionOf_9 : decode cX4_isRegionOf 9 = .ok (.ifCond .lt 20, 3) := by decide +kernel
theorem dX4_isRegionOf_12 : decode cX4_isRegionOf 12 = .ok (.aload_n 0, 1) := by decide +kernel
theorem dX4_isRegionOf_13 : decode cX4_isRegionOf 13 = .ok (.iload_n 2, 1) := by decide +kernel
theorem dX4_isRegionOf_14 : decode cX4_isRegionOf 14 = .ok (.iconst 2, 1) := by decide +kernel
theorem dX4_isRegionOf_15 : decode cX4_isRegionOf 15 = .ok (.ishr, 1) := by decide +kernel
theorem dX4_isRegionOf_16 : decode cX4_isRegionOf 16 = .ok (.iload_n 2, 1) := by decide +kernel
theorem dX4_isRegionOf_17 : decode cX4_isRegionOf 17 = .ok (.iconst 3, 1) := by decide +kernel
theorem dX4_isRegionOf_18 : decode cX4_isRegionOf 18 = .ok (.iand, 1) := by decide +kernel
theorem dX4_isRegionOf_19 : decode cX4_isRegionOf 19 = .ok (.invokevirtual 102, 3) := by decide +kernel
theorem dX4_isRegionOf_22 : decode cX4_isRegionOf 22 = .ok (.ifCond .eq 7, 3) := by decide +kernel
theorem dX4_isRegionOf_25 : decode cX4_isRegionOf 25 = .ok (.iconst 1, 1) := by decide +kernel
theorem dX4_isRegionOf_26 : decode cX4_isRegionOf 26 = .ok (.goto 4, 3) := by decide +kernel
theorem dX4_isRegionOf_29 : decode cX4_isRegionOf 29 = .ok (.iconst 0, 1) := by decide +kernel
theorem dX4_isRegionOf_30 : decode cX4_isRegionOf 30 = .ok (.ireturn, 1) := by decide +kernel
def Wo_isRegionOf (M : Mem) (d : Sl) (a1 : Int32) (a2 : Int32) : Option Int32 :=
  bp (Wo_isSpace M d a1) fun r1 =>
  if r1 = 0 then
    (some (0 : Int32))
  else
    (if a2 < 0 then
      (some (0 : Int32))
    else
      (bp (Wo_isRegion M d (a2 >>> ((2 : Int32) &&& 31)) (a2 &&& (3 : Int32))) fun r2 =>
      if r2 = 0 then
        (some (0 : Int32))
      else
        (some (1 : Int32))))
theorem y_X4_isRegionOf : YV yX4_isRegionOf cX4_isRegionOf 3 (some .boolean) 2 := ⟨q641, q642, q643, q146, by decide +kernel, by decide +kernel, by decide +kernel, by decide +kernel⟩
theorem r_Wo_isRegionOf {C : Cxt} {G : Geo} {M : Mem} {k : Nat} (hC : Cx C cX4_isRegionOf 3 "FrameHeirs$World" (some .boolean) rm_X4_isRegionOf G) (hk : LWd G k) (hk2 : 2 ≤ k) (hcl : GCl G) (d : Sl) (a1 : Int32) (a2 : Int32) : Rz C 3 G (setS M k) (poP avI ((setS M k) d)) 0 [(0, .inr (k, 10)), (1, .inl (.int a1)), (2, .inl (.int a2))] [] d (Wo_isRegionOf M d a1 a2) := by
  unfold Wo_isRegionOf
  refine z_aload_n (pc := 0) hC 0 rfl 0 rfl dX4_isRegionOf_0 ?_
  refine z_iload_n (pc := 1) hC 1 rfl 1 rfl dX4_isRegionOf_1 ?_
  refine z_piV (pc := 2) (st := []) hC y_X4_isSpace q636 [.inl (.int a1)] rfl (hk 10 rfl) rfl rfl (c_X4_isSpace hC.2.2.2.2.2.2.1 hk hk2 hcl) rfl ⟨rfl, rfl, (Nat.le_of_ble_eq_true rfl), (Nat.le_of_ble_eq_true rfl)⟩ (Nat.le_of_ble_eq_true rfl) dX4_isRegionOf_2 (fun r1 => ?_)
  refine z_if_eq (pc := 5) hC 29 rfl dX4_isRegionOf_5 ?_ ?_
  · refine z_iconst (pc := 29) hC (0 : Int32) rfl dX4_isRegionOf_29 ?_
    exact z_zret (pc := 30) hC rfl rfl dX4_isRegionOf_30
  · refine z_iload_n (pc := 8) hC 2 rfl 2 rfl dX4_isRegionOf_8 ?_
    refine z_if_lt (pc := 9) hC 29 rfl dX4_isRegionOf_9 ?_ ?_
    · refine z_iconst (pc := 29) hC (0 : Int32) rfl dX4_isRegionOf_29 ?_
      exact z_zret (pc := 30) hC rfl rfl dX4_isRegionOf_30
    · refine z_aload_n (pc := 12) hC 0 rfl 0 rfl dX4_isRegionOf_12 ?_
      refine z_iload_n (pc := 13) hC 2 rfl 2 rfl dX4_isRegionOf_13 ?_
      refine z_iconst (pc := 14) hC (2 : Int32) rfl dX4_isRegionOf_14 ?_
      refine z_ishr (pc := 15) hC dX4_isRegionOf_15 ?_
      refine z_iload_n (pc := 16) hC 2 rfl 2 rfl dX4_isRegionOf_16 ?_
      refine z_iconst (pc := 17) hC (3 : Int32) rfl dX4_isRegionOf_17 ?_
      refine z_iand (pc := 18) hC dX4_isRegionOf_18 ?_
      refine z_piV (pc := 19) (st := []) hC y_X4_isRegion q644 [.inl (.int (a2 >>> ((2 : Int32) &&& 31))), .inl (.int (a2 &&& (3 : Int32)))] rfl (hk 10 rfl) rfl rfl (c_X4_isRegion hC.2.2.2.2.2.2.1 hk hk2 hcl) rfl ⟨rfl, rfl, (Nat.le_of_ble_eq_true rfl), (Nat.le_of_ble_eq_true rfl)⟩ (Nat.le_of_ble_eq_true rfl) dX4_isRegionOf_19 (fun r2 => ?_)
      refine z_if_eq (pc := 22) hC 29 rfl dX4_isRegionOf_22 ?_ ?_
      · refine z_iconst (pc := 29) hC (0 : Int32) rfl dX4_isRegionOf_29 ?_
        exact z_zret (pc := 30) hC rfl rfl dX4_isRegionOf_30
      · refine z_iconst (pc := 25) hC (1 : Int32) rfl dX4_isRegionOf_25 ?_
        refine z_goto (pc := 26) hC 30 rfl dX4_isRegionOf_26 ?_
        exact z_zret (pc := 30) hC rfl rfl dX4_isRegionOf_30
theorem c_X4_isRegionOf {G : Geo} {M : Mem} {k : Nat} (hG : GOk G) (hk : LWd G k) (hk2 : 2 ≤ k) (hcl : GCl G) {d : Sl} {a1 : Int32} {a2 : Int32} (l : Launch) (r : Int32) (h : Wo_isRegionOf M d a1 a2 = some r) : Mt l yX4_isRegionOf cX4_isRegionOf 3 (some .boolean) rm_X4_isRegionOf G [.inr (k, 10), .inl (.int a1), .inl (.int a2)] ((setS M k) d) (avI r) ((setS M k) d) :=
  mt_of (mem := (setS M k)) (po := poP avI ((setS M k) d)) (x0 := d) (t := r) rfl hG [.inr (k, 10), .inl (.int a1), .inl (.int a2)] (Nat.le_of_ble_eq_true rfl) rfl (fun C hC => r_Wo_isRegionOf hC hk hk2 hcl d a1 a2) h
-- FrameHeirs$World.seenIn(III)I
abbrev rm_X4_seenIn : Room := { frames := 2, cells := 0, slots := 0, locals := 46 }
theorem dX4_seenIn_0 : decode cX4_seenIn 0 = .ok (.iconst 0, 1) := by decide +kernel
theorem dX4_seenIn_1 : decode cX4_seenIn 1 = .ok (.istore 4, 2) := by decide +kernel
theorem dX4_seenIn_3 : decode cX4_seenIn 3 = .ok (.iload_n 2, 1) := by decide +kernel
theorem dX4_seenIn_4 : decode cX4_seenIn 4 = .ok (.iconst 1, 1) := by decide +kernel
theorem dX4_seenIn_5 : decode cX4_seenIn 5 = .ok (.iload_n 3, 1) := by decide +kernel
theorem dX4_seenIn_6 : decode cX4_seenIn 6 = .ok (.ishl, 1) := by decide +kernel
theorem dX4_seenIn_7 : decode cX4_seenIn 7 = .ok (.iadd, 1) := by decide +kernel
theorem dX4_seenIn_8 : decode cX4_seenIn 8 = .ok (.istore 5, 2) := by decide +kernel
theorem dX4_seenIn_10 : decode cX4_seenIn 10 = .ok (.iload_n 2, 1) := by decide +kernel
theorem dX4_seenIn_11 : decode cX4_seenIn 11 = .ok (.istore 6, 2) := by decide +kernel
theorem dX4_seenIn_13 : decode cX4_seenIn 13 = .ok (.iload 6, 2) := by decide +kernel
theorem dX4_seenIn_15 : decode cX4_seenIn 15 = .ok (.iload 5, 2) := by decide +kernel
theorem dX4_seenIn_17 : decode cX4_seenIn 17 = .ok (.if_icmp .ge 116, 3) := by decide +kernel
theorem dX4_seenIn_20 : decode cX4_seenIn 20 = .ok (.aload_n 0, 1) := by decide +kernel
theorem dX4_seenIn_21 : decode cX4_seenIn 21 = .ok (.getfield 12, 3) := by decide +kernel
theorem dX4_seenIn_24 : decode cX4_seenIn 24 = .ok (.iload_n 1, 1) := by decide +kernel
theorem dX4_seenIn_25 : decode cX4_seenIn 25 = .ok (.iload 6, 2) := by decide +kernel
theorem dX4_seenIn_27 : decode cX4_seenIn 27 = .ok (.invokevirtual 106, 3) := by decide +kernel
theorem dX4_seenIn_30 : decode cX4_seenIn 30 = .ok (.istore 7, 2) := by decide +kernel
theorem dX4_seenIn_32 : decode cX4_seenIn 32 = .ok (.iload 7, 2) := by decide +kernel
theorem dX4_seenIn_34 : decode cX4_seenIn 34 = .ok (.ifCond .lt 93, 3) := by decide +kernel
theorem dX4_seenIn_37 : decode cX4_seenIn 37 = .ok (.iload 6, 2) := by decide +kernel
theorem dX4_seenIn_39 : decode cX4_seenIn 39 = .ok (.iload_n 2, 1) := by decide +kernel
theorem dX4_seenIn_40 : decode cX4_seenIn 40 = .ok (.if_icmp .eq 21, 3) := by decide +kernel
theorem dX4_seenIn_43 : decode cX4_seenIn 43 = .ok (.iload 6, 2) := by decide +kernel
theorem dX4_seenIn_45 : decode cX4_seenIn 45 = .ok (.aload_n 0, 1) := by decide +kernel
theorem dX4_seenIn_46 : decode cX4_seenIn 46 = .ok (.getfield 12, 3) := by decide +kernel
theorem dX4_seenIn_49 : decode cX4_seenIn 49 = .ok (.getfield 110, 3) := by decide +kernel
theorem dX4_seenIn_52 : decode cX4_seenIn 52 = .ok (.iload 7, 2) := by decide +kernel
theorem dX4_seenIn_54 : decode cX4_seenIn 54 = .ok (.iaload, 1) := by decide +kernel
theorem dX4_seenIn_55 : decode cX4_seenIn 55 = .ok (.if_icmp .eq 6, 3) := by decide +kernel
theorem dX4_seenIn_58 : decode cX4_seenIn 58 = .ok (.goto 69, 3) := by decide +kernel
theorem dX4_seenIn_61 : decode cX4_seenIn 61 = .ok (.iload 4, 2) := by decide +kernel
theorem dX4_seenIn_63 : decode cX4_seenIn 63 = .ok (.iconst 1, 1) := by decide +kernel
theorem dX4_seenIn_64 : decode cX4_seenIn 64 = .ok (.ior, 1) := by decide +kernel
theorem dX4_seenIn_65 : decode cX4_seenIn 65 = .ok (.istore 4, 2) := by decide +kernel
theorem dX4_seenIn_67 : decode cX4_seenIn 67 = .ok (.aload_n 0, 1) := by decide +kernel
theorem dX4_seenIn_68 : decode cX4_seenIn 68 = .ok (.getfield 12, 3) := by decide +kernel
theorem dX4_seenIn_71 : decode cX4_seenIn 71 = .ok (.iload 7, 2) := by decide +kernel
theorem dX4_seenIn_73 : decode cX4_seenIn 73 = .ok (.invokevirtual 113, 3) := by decide +kernel
theorem dX4_seenIn_76 : decode cX4_seenIn 76 = .ok (.ifCond .eq 13, 3) := by decide +kernel
theorem dX4_seenIn_79 : decode cX4_seenIn 79 = .ok (.iload 4, 2) := by decide +kernel
theorem dX4_seenIn_81 : decode cX4_seenIn 81 = .ok (.bipush 6, 2) := by decide +kernel
theorem dX4_seenIn_83 : decode cX4_seenIn 83 = .ok (.ior, 1) := by decide +kernel
theorem dX4_seenIn_84 : decode cX4_seenIn 84 = .ok (.istore 4, 2) := by decide +kernel
theorem dX4_seenIn_86 : decode cX4_seenIn 86 = .ok (.goto 21, 3) := by decide +kernel
theorem dX4_seenIn_89 : decode cX4_seenIn 89 = .ok (.aload_n 0, 1) := by decide +kernel
theorem dX4_seenIn_90 : decode cX4_seenIn 90 = .ok (.getfield 12, 3) := by decide +kernel
theorem dX4_seenIn_93 : decode cX4_seenIn 93 = .ok (.iload 7, 2) := by decide +kernel
theorem dX4_seenIn_95 : decode cX4_seenIn 95 = .ok (.invokevirtual 116, 3) := by decide +kernel
theorem dX4_seenIn_98 : decode cX4_seenIn 98 = .ok (.ifCond .eq 9, 3) := by decide +kernel
theorem dX4_seenIn_101 : decode cX4_seenIn 101 = .ok (.iload 4, 2) := by decide +kernel
theorem dX4_seenIn_103 : decode cX4_seenIn 103 = .ok (.iconst 4, 1) := by decide +kernel
theorem dX4_seenIn_104 : decode cX4_seenIn 104 = .ok (.ior, 1) := by decide +kernel
theorem dX4_seenIn_105 : decode cX4_seenIn 105 = .ok (.istore 4, 2) := by decide +kernel
theorem dX4_seenIn_107 : decode cX4_seenIn 107 = .ok (.aload_n 0, 1) := by decide +kernel
theorem dX4_seenIn_108 : decode cX4_seenIn 108 = .ok (.getfield 12, 3) := by decide +kernel
theorem dX4_seenIn_111 : decode cX4_seenIn 111 = .ok (.getfield 119, 3) := by decide +kernel
theorem dX4_seenIn_114 : decode cX4_seenIn 114 = .ok (.iload 7, 2) := by decide +kernel
theorem dX4_seenIn_116 : decode cX4_seenIn 116 = .ok (.iaload, 1) := by decide +kernel
theorem dX4_seenIn_117 : decode cX4_seenIn 117 = .ok (.ifCond .ge 10, 3) := by decide +kernel
theorem dX4_seenIn_120 : decode cX4_seenIn 120 = .ok (.iload 4, 2) := by decide +kernel
theorem dX4_seenIn_122 : decode cX4_seenIn 122 = .ok (.bipush 8, 2) := by decide +kernel
theorem dX4_seenIn_124 : decode cX4_seenIn 124 = .ok (.ior, 1) := by decide +kernel
theorem dX4_seenIn_125 : decode cX4_seenIn 125 = .ok (.istore 4, 2) := by decide +kernel
theorem dX4_seenIn_127 : decode cX4_seenIn 127 = .ok (.iinc 6 1, 3) := by decide +kernel
theorem dX4_seenIn_130 : decode cX4_seenIn 130 = .ok (.goto (-117), 3) := by decide +kernel
theorem dX4_seenIn_133 : decode cX4_seenIn 133 = .ok (.iload 4, 2) := by decide +kernel
theorem dX4_seenIn_135 : decode cX4_seenIn 135 = .ok (.ireturn, 1) := by decide +kernel
def Wo_seenIn_127 (k13 : Int32 → Int32 → Int32 → Int32 → Int32 → Option Int32) (M : Mem) (d : Sl) (v1 : Int32) (v2 : Int32) (v4 : Int32) (v5 : Int32) (v6 : Int32) : Option Int32 :=
  bnd (v6 + (1 : Int32)) fun v6_1 =>
  k13 v1 v2 v4 v5 v6_1
def Wo_seenIn_107 (k13 : Int32 → Int32 → Int32 → Int32 → Int32 → Option Int32) (M : Mem) (d : Sl) (v1 : Int32) (v2 : Int32) (v4 : Int32) (v5 : Int32) (v6 : Int32) (v7 : Int32) : Option Int32 :=
  if inb v7 192 then
  if 0 ≤ (d 23 (ix v7)) then
    (Wo_seenIn_127 k13 M d v1 v2 v4 v5 v6)
  else
    (bnd (v4 ||| (8 : Int32)) fun v4_2 =>
    Wo_seenIn_127 k13 M d v1 v2 v4_2 v5 v6)
  else none
def Wo_seenIn_61 (k13 : Int32 → Int32 → Int32 → Int32 → Int32 → Option Int32) (M : Mem) (d : Sl) (v1 : Int32) (v2 : Int32) (v4 : Int32) (v5 : Int32) (v6 : Int32) (v7 : Int32) : Option Int32 :=
  bnd (v4 ||| (1 : Int32)) fun v4_3 =>
  bp (De_isBusy d v7) fun r4 =>
  if r4 = 0 then
    (bp (De_isTied d v7) fun r5 =>
    if r5 = 0 then
      (Wo_seenIn_107 k13 M d v1 v2 v4_3 v5 v6 v7)
    else
      (bnd (v4_3 ||| (4 : Int32)) fun v4_6 =>
      Wo_seenIn_107 k13 M d v1 v2 v4_6 v5 v6 v7))
  else
    (bnd (v4_3 ||| (6 : Int32)) fun v4_7 =>
    Wo_seenIn_107 k13 M d v1 v2 v4_7 v5 v6 v7)
def Wo_seenIn_13 (M : Mem) (d : Sl) : Nat → Int32 → Int32 → Int32 → Int32 → Int32 → Option Int32
  | 0, _, _, _, _, _ => none
  | n + 1, v1, v2, v4, v5, v6 =>
    if v5 ≤ v6 then
      (some v4)
    else
      (bp (De_find d v1 v6) fun r8 =>
      bnd r8 fun v7_9 =>
      if v7_9 < 0 then
        (Wo_seenIn_127 (Wo_seenIn_13 M d n) M d v1 v2 v4 v5 v6)
      else
        (if v6 = v2 then
          (Wo_seenIn_61 (Wo_seenIn_13 M d n) M d v1 v2 v4 v5 v6 v7_9)
        else
          (if inb v7_9 192 then
          if v6 = (d 19 (ix v7_9)) then
            (Wo_seenIn_61 (Wo_seenIn_13 M d n) M d v1 v2 v4 v5 v6 v7_9)
          else
            (Wo_seenIn_127 (Wo_seenIn_13 M d n) M d v1 v2 v4 v5 v6)
          else none)))
def Wo_seenIn (M : Mem) (d : Sl) (a1 : Int32) (a2 : Int32) (a3 : Int32) : Option Int32 :=
  bnd (0 : Int32) fun v4_10 =>
  bnd (a2 + ((1 : Int32) <<< (a3 &&& 31))) fun v5_11 =>
  bnd a2 fun v6_12 =>
  Wo_seenIn_13 M d FU a1 a2 v4_10 v5_11 v6_12
theorem y_X4_seenIn : YV yX4_seenIn cX4_seenIn 8 (some .int) 3 := ⟨q653, q16, q654, q146, by decide +kernel, by decide +kernel, by decide +kernel, by decide +kernel⟩
theorem r_Wo_seenIn_127 {C : Cxt} {G : Geo} {M : Mem} {k : Nat} {d : Sl} (hC : Cx C cX4_seenIn 8 "FrameHeirs$World" (some .int) rm_X4_seenIn G) (hk : LWd G k) (hk2 : 2 ≤ k) (hcl : GCl G) (k13 : Int32 → Int32 → Int32 → Int32 → Int32 → Option Int32) (h13 : ∀ (v1 : Int32) (v2 : Int32) (v4 : Int32) (v5 : Int32) (v6 : Int32), Rz C 8 G (setS M k) (poP avI ((setS M k) d)) 13 [(0, .inr (k, 10)), (1, .inl (.int v1)), (2, .inl (.int v2)), (4, .inl (.int v4)), (5, .inl (.int v5)), (6, .inl (.int v6))] [] d (k13 v1 v2 v4 v5 v6)) (v1 : Int32) (v2 : Int32) (v4 : Int32) (v5 : Int32) (v6 : Int32) : Rz C 8 G (setS M k) (poP avI ((setS M k) d)) 127 [(0, .inr (k, 10)), (1, .inl (.int v1)), (2, .inl (.int v2)), (4, .inl (.int v4)), (5, .inl (.int v5)), (6, .inl (.int v6))] [] d (Wo_seenIn_127 k13 M d v1 v2 v4 v5 v6) := by
  unfold Wo_seenIn_127
  refine z_iinc (pc := 127) (ls1 := fun v => [(6, .inl (.int v)), (0, .inr (k, 10)), (1, .inl (.int v1)), (2, .inl (.int v2)), (4, .inl (.int v4)), (5, .inl (.int v5))]) hC 6 5 (by decide) (1 : Int32) rfl rfl (fun v => rfl) dX4_seenIn_127 (fun v6_1 => ?_)
  refine z_goto (pc := 130) hC 13 rfl dX4_seenIn_130 ?_
  exact z_sub [1, 2, 3, 4, 5, 0] rfl (h13 v1 v2 v4 v5 v6_1)
theorem r_Wo_seenIn_107 {C : Cxt} {G : Geo} {M : Mem} {k : Nat} {d : Sl} (hC : Cx C cX4_seenIn 8 "FrameHeirs$World" (some .int) rm_X4_seenIn G) (hk : LWd G k) (hk2 : 2 ≤ k) (hcl : GCl G) (k13 : Int32 → Int32 → Int32 → Int32 → Int32 → Option Int32) (h13 : ∀ (v1 : Int32) (v2 : Int32) (v4 : Int32) (v5 : Int32) (v6 : Int32), Rz C 8 G (setS M k) (poP avI ((setS M k) d)) 13 [(0, .inr (k, 10)), (1, .inl (.int v1)), (2, .inl (.int v2)), (4, .inl (.int v4)), (5, .inl (.int v5)), (6, .inl (.int v6))] [] d (k13 v1 v2 v4 v5 v6)) (v1 : Int32) (v2 : Int32) (v4 : Int32) (v5 : Int32) (v6 : Int32) (v7 : Int32) : Rz C 8 G (setS M k) (poP avI ((setS M k) d)) 107 [(0, .inr (k, 10)), (1, .inl (.int v1)), (2, .inl (.int v2)), (4, .inl (.int v4)), (5, .inl (.int v5)), (6, .inl (.int v6)), (7, .inl (.int v7))] [] d (Wo_seenIn_107 k13 M d v1 v2 v4 v5 v6 v7) := by
  unfold Wo_seenIn_107
  refine z_aload_n (pc := 107) hC 0 rfl 0 rfl dX4_seenIn_107 ?_
  refine z_getc (pc := 108) hC (hk 10 rfl) f_10_1 q378 dX4_seenIn_108 ?_
  refine z_getc (pc := 111) hC (hk 17 rfl) f_17_5 q310 dX4_seenIn_111 ?_
  refine z_iload (pc := 114) hC 7 6 rfl dX4_seenIn_114 ?_
  refine zs_iald (pc := 116) hC (hk 23 rfl) rfl dX4_seenIn_116 ?_
  refine z_if_ge (pc := 117) hC 127 rfl dX4_seenIn_117 ?_ ?_
  · exact z_sub [0, 1, 2, 3, 4, 5] rfl (r_Wo_seenIn_127 hC hk hk2 hcl k13 h13 v1 v2 v4 v5 v6)
  · refine z_iload (pc := 120) hC 4 3 rfl dX4_seenIn_120 ?_
    refine z_bipush (pc := 122) hC (8 : Int32) rfl dX4_seenIn_122 ?_
    refine z_ior (pc := 124) hC dX4_seenIn_124 ?_
    refine z_istore (pc := 125) (ls1 := fun v => [(4, .inl (.int v)), (0, .inr (k, 10)), (1, .inl (.int v1)), (2, .inl (.int v2)), (5, .inl (.int v5)), (6, .inl (.int v6)), (7, .inl (.int v7))]) hC 4 (by decide) (fun v => rfl) dX4_seenIn_125 (fun v4_2 => ?_)
    exact z_sub [1, 2, 3, 0, 4, 5] rfl (r_Wo_seenIn_127 hC hk hk2 hcl k13 h13 v1 v2 v4_2 v5 v6)
theorem r_Wo_seenIn_61 {C : Cxt} {G : Geo} {M : Mem} {k : Nat} {d : Sl} (hC : Cx C cX4_seenIn 8 "FrameHeirs$World" (some .int) rm_X4_seenIn G) (hk : LWd G k) (hk2 : 2 ≤ k) (hcl : GCl G) (k13 : Int32 → Int32 → Int32 → Int32 → Int32 → Option Int32) (h13 : ∀ (v1 : Int32) (v2 : Int32) (v4 : Int32) (v5 : Int32) (v6 : Int32), Rz C 8 G (setS M k) (poP avI ((setS M k) d)) 13 [(0, .inr (k, 10)), (1, .inl (.int v1)), (2, .inl (.int v2)), (4, .inl (.int v4)), (5, .inl (.int v5)), (6, .inl (.int v6))] [] d (k13 v1 v2 v4 v5 v6)) (v1 : Int32) (v2 : Int32) (v4 : Int32) (v5 : Int32) (v6 : Int32) (v7 : Int32) : Rz C 8 G (setS M k) (poP avI ((setS M k) d)) 61 [(0, .inr (k, 10)), (1, .inl (.int v1)), (2, .inl (.int v2)), (4, .inl (.int v4)), (5, .inl (.int v5)), (6, .inl (.int v6)), (7, .inl (.int v7))] [] d (Wo_seenIn_61 k13 M d v1 v2 v4 v5 v6 v7) := by
  unfold Wo_seenIn_61
  refine z_iload (pc := 61) hC 4 3 rfl dX4_seenIn_61 ?_
  refine z_iconst (pc := 63) hC (1 : Int32) rfl dX4_seenIn_63 ?_
  refine z_ior (pc := 64) hC dX4_seenIn_64 ?_
  refine z_istore (pc := 65) (ls1 := fun v => [(4, .inl (.int v)), (0, .inr (k, 10)), (1, .inl (.int v1)), (2, .inl (.int v2)), (5, .inl (.int v5)), (6, .inl (.int v6)), (7, .inl (.int v7))]) hC 4 (by decide) (fun v => rfl) dX4_seenIn_65 (fun v4_3 => ?_)
  refine z_aload_n (pc := 67) hC 0 rfl 1 rfl dX4_seenIn_67 ?_
  refine z_getc (pc := 68) hC (hk 10 rfl) f_10_1 q378 dX4_seenIn_68 ?_
  refine z_iload (pc := 71) hC 7 6 rfl dX4_seenIn_71 ?_
  refine z_piV (pc := 73) (st := []) hC y_X0_isBusy q659 [.inl (.int v7)] rfl (hk 17 rfl) rfl rfl (c_X0_isBusy hC.2.2.2.2.2.2.1 hk hk2) rfl ⟨rfl, rfl, (Nat.le_of_ble_eq_true rfl), (Nat.le_of_ble_eq_true rfl)⟩ (Nat.le_of_ble_eq_true rfl) dX4_seenIn_73 (fun r4 => ?_)
  refine z_if_eq (pc := 76) hC 89 rfl dX4_seenIn_76 ?_ ?_
  · refine z_aload_n (pc := 89) hC 0 rfl 1 rfl dX4_seenIn_89 ?_
    refine z_getc (pc := 90) hC (hk 10 rfl) f_10_1 q378 dX4_seenIn_90 ?_
    refine z_iload (pc := 93) hC 7 6 rfl dX4_seenIn_93 ?_
    refine z_piV (pc := 95) (st := []) hC y_X0_isTied q663 [.inl (.int v7)] rfl (hk 17 rfl) rfl rfl (c_X0_isTied hC.2.2.2.2.2.2.1 hk hk2) rfl ⟨rfl, rfl, (Nat.le_of_ble_eq_true rfl), (Nat.le_of_ble_eq_true rfl)⟩ (Nat.le_of_ble_eq_true rfl) dX4_seenIn_95 (fun r5 => ?_)
    refine z_if_eq (pc := 98) hC 107 rfl dX4_seenIn_98 ?_ ?_
    · exact z_sub [1, 2, 3, 0, 4, 5, 6] rfl (r_Wo_seenIn_107 hC hk hk2 hcl k13 h13 v1 v2 v4_3 v5 v6 v7)
    · refine z_iload (pc := 101) hC 4 0 rfl dX4_seenIn_101 ?_
      refine z_iconst (pc := 103) hC (4 : Int32) rfl dX4_seenIn_103 ?_
      refine z_ior (pc := 104) hC dX4_seenIn_104 ?_
      refine z_istore (pc := 105) (ls1 := fun v => [(4, .inl (.int v)), (0, .inr (k, 10)), (1, .inl (.int v1)), (2, .inl (.int v2)), (5, .inl (.int v5)), (6, .inl (.int v6)), (7, .inl (.int v7))]) hC 4 (by decide) (fun v => rfl) dX4_seenIn_105 (fun v4_6 => ?_)
      exact z_sub [1, 2, 3, 0, 4, 5, 6] rfl (r_Wo_seenIn_107 hC hk hk2 hcl k13 h13 v1 v2 v4_6 v5 v6 v7)
  · refine z_iload (pc := 79) hC 4 0 rfl dX4_seenIn_79 ?_
    refine z_bipush (pc := 81) hC (6 : Int32) rfl dX4_seenIn_81 ?_
    refine z_ior (pc := 83) hC dX4_seenIn_83 ?_
    refine z_istore (pc := 84) (ls1 := fun v => [(4, .inl (.int v)), (0, .inr (k, 10)), (1, .inl (.int v1)), (2, .inl (.int v2)), (5, .inl (.int v5)), (6, .inl (.int v6)), (7, .inl (.int v7))]) hC 4 (by decide) (fun v => rfl) dX4_seenIn_84 (fun v4_7 => ?_)
    refine z_goto (pc := 86) hC 107 rfl dX4_seenIn_86 ?_
    exact z_sub [1, 2, 3, 0, 4, 5, 6] rfl (r_Wo_seenIn_107 hC hk hk2 hcl k13 h13 v1 v2 v4_7 v5 v6 v7)
theorem r_Wo_seenIn_13 {C : Cxt} {G : Geo} {M : Mem} {k : Nat} {d : Sl} (hC : Cx C cX4_seenIn 8 "FrameHeirs$World" (some .int) rm_X4_seenIn G) (hk : LWd G k) (hk2 : 2 ≤ k) (hcl : GCl G) : ∀ (n : Nat) (v1 : Int32) (v2 : Int32) (v4 : Int32) (v5 : Int32) (v6 : Int32), Rz C 8 G (setS M k) (poP avI ((setS M k) d)) 13 [(0, .inr (k, 10)), (1, .inl (.int v1)), (2, .inl (.int v2)), (4, .inl (.int v4)), (5, .inl (.int v5)), (6, .inl (.int v6))] [] d (Wo_seenIn_13 M d n v1 v2 v4 v5 v6) := by
  intro n
  induction n with
  | zero => intros; exact z_none
  | succ n ih =>
    intro v1 v2 v4 v5 v6
    rw [Wo_seenIn_13]
    refine z_iload (pc := 13) hC 6 5 rfl dX4_seenIn_13 ?_
    refine z_iload (pc := 15) hC 5 4 rfl dX4_seenIn_15 ?_
    refine z_icmp_ge (pc := 17) hC 133 rfl dX4_seenIn_17 ?_ ?_
    · refine z_iload (pc := 133) hC 4 3 rfl dX4_seenIn_133 ?_
      exact z_iret (pc := 135) hC rfl dX4_seenIn_135
    · refine z_aload_n (pc := 20) hC 0 rfl 0 rfl dX4_seenIn_20 ?_
      refine z_getc (pc := 21) hC (hk 10 rfl) f_10_1 q378 dX4_seenIn_21 ?_
      refine z_iload_n (pc := 24) hC 1 rfl 1 rfl dX4_seenIn_24 ?_
      refine z_iload (pc := 25) hC 6 5 rfl dX4_seenIn_25 ?_
      refine z_piV (pc := 27) (st := []) hC y_X0_find q655 [.inl (.int v1), .inl (.int v6)] rfl (hk 17 rfl) rfl rfl (c_X0_find hC.2.2.2.2.2.2.1 hk hk2) rfl ⟨rfl, rfl, (Nat.le_of_ble_eq_true rfl), (Nat.le_of_ble_eq_true rfl)⟩ (Nat.le_of_ble_eq_true rfl) dX4_seenIn_27 (fun r8 => ?_)
      refine z_istore (pc := 30) (ls1 := fun v => [(7, .inl (.int v)), (0, .inr (k, 10)), (1, .inl (.int v1)), (2, .inl (.int v2)), (4, .inl (.int v4)), (5, .inl (.int v5)), (6, .inl (.int v6))]) hC 7 (by decide) (fun v => rfl) dX4_seenIn_30 (fun v7_9 => ?_)
      refine z_iload (pc := 32) hC 7 0 rfl dX4_seenIn_32 ?_
      refine z_if_lt (pc := 34) hC 127 rfl dX4_seenIn_34 ?_ ?_
      · exact z_sub [1, 2, 3, 4, 5, 6] rfl (r_Wo_seenIn_127 hC hk hk2 hcl _ ih v1 v2 v4 v5 v6)
      · refine z_iload (pc := 37) hC 6 6 rfl dX4_seenIn_37 ?_
        refine z_iload_n (pc := 39) hC 2 rfl 3 rfl dX4_seenIn_39 ?_
        refine z_icmp_eq (pc := 40) hC 61 rfl dX4_seenIn_40 ?_ ?_
        · exact z_sub [1, 2, 3, 4, 5, 6, 0] rfl (r_Wo_seenIn_61 hC hk hk2 hcl _ ih v1 v2 v4 v5 v6 v7_9)
        · refine z_iload (pc := 43) hC 6 6 rfl dX4_seenIn_43 ?_
          refine z_aload_n (pc := 45) hC 0 rfl 1 rfl dX4_seenIn_45 ?_
          refine z_getc (pc := 46) hC (hk 10 rfl) f_10_1 q378 dX4_seenIn_46 ?_
          refine z_getc (pc := 49) hC (hk 17 rfl) f_17_1 q297 dX4_seenIn_49 ?_
          refine z_iload (pc := 52) hC 7 0 rfl dX4_seenIn_52 ?_
          refine zs_iald (pc := 54) hC (hk 19 rfl) rfl dX4_seenIn_54 ?_
          refine z_icmp_eq (pc := 55) hC 61 rfl dX4_seenIn_55 ?_ ?_
          · exact z_sub [1, 2, 3, 4, 5, 6, 0] rfl (r_Wo_seenIn_61 hC hk hk2 hcl _ ih v1 v2 v4 v5 v6 v7_9)
          · refine z_goto (pc := 58) hC 127 rfl dX4_seenIn_58 ?_
            exact z_sub [1, 2, 3, 4, 5, 6] rfl (r_Wo_seenIn_127 hC hk hk2 hcl _ ih v1 v2 v4 v5 v6)
theorem r_Wo_seenIn {C : Cxt} {G : Geo} {M : Mem} {k : Nat} (hC : Cx C cX4_seenIn 8 "FrameHeirs$World" (some .int) rm_X4_seenIn G) (hk : LWd G k) (hk2 : 2 ≤ k) (hcl : GCl G) (d : Sl) (a1 : Int32) (a2 : Int32) (a3 : Int32) : Rz C 8 G (setS M k) (poP avI ((setS M k) d)) 0 [(0, .inr (k, 10)), (1, .inl (.int a1)), (2, .inl (.int a2)), (3, .inl (.int a3))] [] d (Wo_seenIn M d a1 a2 a3) := by
  unfold Wo_seenIn
  refine z_iconst (pc := 0) hC (0 : Int32) rfl dX4_seenIn_0 ?_
  refine z_istore (pc := 1) (ls1 := fun v => [(4, .inl (.int v)), (0, .inr (k, 10)), (1, .inl (.int a1)), (2, .inl (.int a2)), (3, .inl (.int a3))]) hC 4 (by decide) (fun v => rfl) dX4_seenIn_1 (fun v4_10 => ?_)
  refine z_iload_n (pc := 3) hC 2 rfl 3 rfl dX4_seenIn_3 ?_
  refine z_iconst (pc := 4) hC (1 : Int32) rfl dX4_seenIn_4 ?_
  refine z_iload_n (pc := 5) hC 3 rfl 4 rfl dX4_seenIn_5 ?_
  refine z_ishl (pc := 6) hC dX4_seenIn_6 ?_
  refine z_iadd (pc := 7) hC dX4_seenIn_7 ?_
  refine z_istore (pc := 8) (ls1 := fun v => [(5, .inl (.int v)), (4, .inl (.int v4_10)), (0, .inr (k, 10)), (1, .inl (.int a1)), (2, .inl (.int a2)), (3, .inl (.int a3))]) hC 5 (by decide) (fun v => rfl) dX4_seenIn_8 (fun v5_11 => ?_)
  refine z_iload_n (pc := 10) hC 2 rfl 4 rfl dX4_seenIn_10 ?_
  refine z_istore (pc := 11) (ls1 := fun v => [(6, .inl (.int v)), (5, .inl (.int v5_11)), (4, .inl (.int v4_10)), (0, .inr (k, 10)), (1, .inl (.int a1)), (2, .inl (.int a2)), (3, .inl (.int a3))]) hC 6 (by decide) (fun v => rfl) dX4_seenIn_11 (fun v6_12 => ?_)
  exact z_sub [3, 4, 5, 2, 1, 0] rfl (r_Wo_seenIn_13 hC hk hk2 hcl FU a1 a2 v4_10 v5_11 v6_12)
theorem c_X4_seenIn {G : Geo} {M : Mem} {k : Nat} (hG : GOk G) (hk : LWd G k) (hk2 : 2 ≤ k) (hcl : GCl G) {d : Sl} {a1 : Int32} {a2 : Int32} {a3 : Int32} (l : Launch) (r : Int32) (h : Wo_seenIn M d a1 a2 a3 = some r) : Mt l yX4_seenIn cX4_seenIn 8 (some .int) rm_X4_seenIn G [.inr (k, 10), .inl (.int a1), .inl (.int a2), .inl (.int a3)] ((setS M k) d) (avI r) ((setS M k) d) :=
  mt_of (mem := (setS M k)) (po := poP avI ((setS M k) d)) (x0 := d) (t := r) rfl hG [.inr (k, 10), .inl (.int a1), .inl (.int a2), .inl (.int a3)] (Nat.le_of_ble_eq_true rfl) rfl (fun C hC => r_Wo_seenIn hC hk hk2 hcl d a1 a2 a3) h
-- FrameHeirs$World.exceedsQuota(II)Z
abbrev rm_X4_exceedsQuota : Room := { frames := 2, cells := 0, slots := 0, locals := 46 }
theorem dX4_exceedsQuota_0 : decode cX4_exceedsQuota 0 = .ok (.iload_n 1, 1) := by decide +kernel
theorem dX4_exceedsQuota_1 : decode cX4_exceedsQuota 1 = .ok (.ifCond .eq 29, 3) := by decide +kernel
theorem dX4_exceedsQuota_4 : decode cX4_exceedsQuota 4 = .ok (.aload_n 0, 1) := by decide +kernel
theorem dX4_exceedsQuota_5 : decode cX4_exceedsQuota 5 = .ok (.getfield 12, 3) := by decide +kernel
theorem dX4_exceedsQuota_8 : decode cX4_exceedsQuota 8 = .ok (.iload_n 1, 1) := by decide +kernel
theorem dX4_exceedsQuota_9 : decode cX4_exceedsQuota 9 = .ok (.invokevirtual 122, 3) := by decide +kernel
theorem dX4_exceedsQuota_12 : decode cX4_exceedsQuota 12 = .ok (.iload_n 2, 1) := by decide +kernel
theorem dX4_exceedsQuota_13 : decode cX4_exceedsQuota 13 = .ok (.iadd, 1) := by decide +kernel
theorem dX4_exceedsQuota_14 : decode cX4_exceedsQuota 14 = .ok (.aload_n 0, 1) := by decide +kernel
theorem dX4_exceedsQuota_15 : decode cX4_exceedsQuota 15 = .ok (.getfield 59, 3) := by decide +kernel
theorem dX4_exceedsQuota_18 : decode cX4_exceedsQuota 18 = .ok (.getfield 126, 3) := by decide +kernel
theorem dX4_exceedsQuota_21 : decode cX4_exceedsQuota 21 = .ok (.iload_n 1, 1) := by decide +kernel
theorem dX4_exceedsQuota_22 : decode cX4_exceedsQuota 22 = .ok (.iaload, 1) := by decide +kernel
theorem dX4_exceedsQuota_23 : decode cX4_exceedsQuota 23 = .ok (.if_icmp .le 7, 3) := by decide +kernel
theorem dX4_exceedsQuota_26 : decode cX4_exceedsQuota 26 = .ok (.iconst 1, 1) := by decide +kernel
theorem dX4_exceedsQuota_27 : decode cX4_exceedsQuota 27 = .ok (.goto 4, 3) := by decide +kernel
theorem dX4_exceedsQuota_30 : decode cX4_exceedsQuota 30 = .ok (.iconst 0, 1) := by decide +kernel
theorem dX4_exceedsQuota_31 : decode cX4_exceedsQuota 31 = .ok (.ireturn, 1) := by decide +kernel
def Wo_exceedsQuota (M : Mem) (d : Sl) (a1 : Int32) (a2 : Int32) : Option Int32 :=
  if a1 = 0 then
    (some (0 : Int32))
  else
    (bp (De_pagesOf d a1) fun r1 =>
    gref (d 10 0) fun q2 =>
    if inb a1 6 then
    if (r1 + a2) ≤ (M q2 8 (ix a1)) then
      (some (0 : Int32))
    else
      (some (1 : Int32))
    else none)
theorem y_X4_exceedsQuota : YV yX4_exceedsQuota cX4_exceedsQuota 3 (some .boolean) 2 := ⟨q682, q18, q683, q146, by decide +kernel, by decide +kernel, by decide +kernel, by decide +kernel⟩
theorem r_Wo_exceedsQuota {C : Cxt} {G : Geo} {M : Mem} {k : Nat} (hC : Cx C cX4_exceedsQuota 3 "FrameHeirs$World" (some .boolean) rm_X4_exceedsQuota G) (hk : LWd G k) (hk2 : 2 ≤ k) (hcl : GCl G) (d : Sl) (a1 : Int32) (a2 : Int32) : Rz C 3 G (setS M k) (poP avI ((setS M k) d)) 0 [(0, .inr (k, 10)), (1, .inl (.int a1)), (2, .inl (.int a2))] [] d (Wo_exceedsQuota M d a1 a2) := by
  unfold Wo_exceedsQuota
  refine z_iload_n (pc := 0) hC 1 rfl 1 rfl dX4_exceedsQuota_0 ?_
  refine z_if_eq (pc := 1) hC 30 rfl dX4_exceedsQuota_1 ?_ ?_
  · refine z_iconst (pc := 30) hC (0 : Int32) rfl dX4_exceedsQuota_30 ?_
    exact z_zret (pc := 31) hC rfl rfl dX4_exceedsQuota_31
  · refine z_aload_n (pc := 4) hC 0 rfl 0 rfl dX4_exceedsQuota_4 ?_
    refine z_getc (pc := 5) hC (hk 10 rfl) f_10_1 q378 dX4_exceedsQuota_5 ?_
    refine z_iload_n (pc := 8) hC 1 rfl 1 rfl dX4_exceedsQuota_8 ?_
    refine z_piV (pc := 9) (st := []) hC y_X0_pagesOf q684 [.inl (.int a1)] rfl (hk 17 rfl) rfl rfl (c_X0_pagesOf hC.2.2.2.2.2.2.1 hk hk2) rfl ⟨rfl, rfl, (Nat.le_of_ble_eq_true rfl), (Nat.le_of_ble_eq_true rfl)⟩ (Nat.le_of_ble_eq_true rfl) dX4_exceedsQuota_9 (fun r1 => ?_)
    refine z_iload_n (pc := 12) hC 2 rfl 2 rfl dX4_exceedsQuota_12 ?_
    refine z_iadd (pc := 13) hC dX4_exceedsQuota_13 ?_
    refine z_aload_n (pc := 14) hC 0 rfl 0 rfl dX4_exceedsQuota_14 ?_
    refine zs_getS (pc := 15) hC hcl (hk 10 rfl) f_10_0 q377 dX4_exceedsQuota_15 (fun q2 hq2 gq2 => ?_)
    refine z_getc (pc := 18) hC (hq2 4 rfl) f_4_3 q182 dX4_exceedsQuota_18 ?_
    refine z_iload_n (pc := 21) hC 1 rfl 1 rfl dX4_exceedsQuota_21 ?_
    refine zo_iald (pc := 22) hC (Nat.ne_of_lt (Nat.lt_of_lt_of_le gq2 hk2)) (hq2 8 rfl) rfl dX4_exceedsQuota_22 ?_
    refine z_icmp_le (pc := 23) hC 30 rfl dX4_exceedsQuota_23 ?_ ?_
    · refine z_iconst (pc := 30) hC (0 : Int32) rfl dX4_exceedsQuota_30 ?_
      exact z_zret (pc := 31) hC rfl rfl dX4_exceedsQuota_31
    · refine z_iconst (pc := 26) hC (1 : Int32) rfl dX4_exceedsQuota_26 ?_
      refine z_goto (pc := 27) hC 31 rfl dX4_exceedsQuota_27 ?_
      exact z_zret (pc := 31) hC rfl rfl dX4_exceedsQuota_31
theorem c_X4_exceedsQuota {G : Geo} {M : Mem} {k : Nat} (hG : GOk G) (hk : LWd G k) (hk2 : 2 ≤ k) (hcl : GCl G) {d : Sl} {a1 : Int32} {a2 : Int32} (l : Launch) (r : Int32) (h : Wo_exceedsQuota M d a1 a2 = some r) : Mt l yX4_exceedsQuota cX4_exceedsQuota 3 (some .boolean) rm_X4_exceedsQuota G [.inr (k, 10), .inl (.int a1), .inl (.int a2)] ((setS M k) d) (avI r) ((setS M k) d) :=
  mt_of (mem := (setS M k)) (po := poP avI ((setS M k) d)) (x0 := d) (t := r) rfl hG [.inr (k, 10), .inl (.int a1), .inl (.int a2)] (Nat.le_of_ble_eq_true rfl) rfl (fun C hC => r_Wo_exceedsQuota hC hk hk2 hcl d a1 a2) h
-- FrameHeirs$World.pagesWith(IIII)I
abbrev rm_X4_pagesWith : Room := { frames := 1, cells := 0, slots := 0, locals := 22 }
theorem dX4_pagesWith_0 : decode cX4_pagesWith 0 = .ok (.iconst 0, 1) := by decide +kernel
theorem dX4_pagesWith_1 : decode cX4_pagesWith 1 = .ok (.istore 5, 2) := by decide +kernel
theorem dX4_pagesWith_3 : decode cX4_pagesWith 3 = .ok (.iload_n 2, 1) := by decide +kernel
theorem dX4_pagesWith_4 : decode cX4_pagesWith 4 = .ok (.iconst 1, 1) := by decide +kernel
theorem dX4_pagesWith_5 : decode cX4_pagesWith 5 = .ok (.iload_n 3, 1) := by decide +kernel
theorem dX4_pagesWith_6 : decode cX4_pagesWith 6 = .ok (.ishl, 1) := by decide +kernel
theorem dX4_pagesWith_7 : decode cX4_pagesWith 7 = .ok (.iadd, 1) := by decide +kernel
theorem dX4_pagesWith_8 : decode cX4_pagesWith 8 = .ok (.istore 6, 2) := by decide +kernel
theorem dX4_pagesWith_10 : decode cX4_pagesWith 10 = .ok (.iload_n 2, 1) := by decide +kernel
theorem dX4_pagesWith_11 : decode cX4_pagesWith 11 = .ok (.istore 7, 2) := by decide +kernel
theorem dX4_pagesWith_13 : decode cX4_pagesWith 13 = .ok (.iload 7, 2) := by decide +kernel
theorem dX4_pagesWith_15 : decode cX4_pagesWith 15 = .ok (.iload 6, 2) := by decide +kernel
theorem dX4_pagesWith_17 : decode cX4_pagesWith 17 = .ok (.if_icmp .ge 45, 3) := by decide +kernel
theorem dX4_pagesWith_20 : decode cX4_pagesWith 20 = .ok (.aload_n 0, 1) := by decide +kernel
theorem dX4_pagesWith_21 : decode cX4_pagesWith 21 = .ok (.getfield 12, 3) := by decide +kernel
theorem dX4_pagesWith_24 : decode cX4_pagesWith 24 = .ok (.iload_n 1, 1) := by decide +kernel
theorem dX4_pagesWith_25 : decode cX4_pagesWith 25 = .ok (.iload 7, 2) := by decide +kernel
theorem dX4_pagesWith_27 : decode cX4_pagesWith 27 = .ok (.invokevirtual 106, 3) := by decide +kernel
theorem dX4_pagesWith_30 : decode cX4_pagesWith 30 = .ok (.istore 8, 2) := by decide +kernel
theorem dX4_pagesWith_32 : decode cX4_pagesWith 32 = .ok (.iload 8, 2) := by decide +kernel
theorem dX4_pagesWith_34 : decode cX4_pagesWith 34 = .ok (.ifCond .lt 22, 3) := by decide +kernel
theorem dX4_pagesWith_37 : decode cX4_pagesWith 37 = .ok (.aload_n 0, 1) := by decide +kernel
theorem dX4_pagesWith_38 : decode cX4_pagesWith 38 = .ok (.getfield 12, 3) := by decide +kernel
theorem dX4_pagesWith_41 : decode cX4_pagesWith 41 = .ok (.getfield 155, 3) := by decide +kernel
theorem dX4_pagesWith_44 : decode cX4_pagesWith 44 = .ok (.iload 8, 2) := by decide +kernel
theorem dX4_pagesWith_46 : decode cX4_pagesWith 46 = .ok (.iaload, 1) := by decide +kernel
theorem dX4_pagesWith_47 : decode cX4_pagesWith 47 = .ok (.iload 4, 2) := by decide +kernel
theorem dX4_pagesWith_49 : decode cX4_pagesWith 49 = .ok (.iand, 1) := by decide +kernel
theorem dX4_pagesWith_50 : decode cX4_pagesWith 50 = .ok (.ifCond .eq 6, 3) := by decide +kernel
theorem dX4_pagesWith_53 : decode cX4_pagesWith 53 = .ok (.iinc 5 1, 3) := by decide +kernel
theorem dX4_pagesWith_56 : decode cX4_pagesWith 56 = .ok (.iinc 7 1, 3) := by decide +kernel
theorem dX4_pagesWith_59 : decode cX4_pagesWith 59 = .ok (.goto (-46), 3) := by decide +kernel
theorem dX4_pagesWith_62 : decode cX4_pagesWith 62 = .ok (.iload 5, 2) := by decide +kernel
theorem dX4_pagesWith_64 : decode cX4_pagesWith 64 = .ok (.ireturn, 1) := by decide +kernel
def Wo_pagesWith_56 (k13 : Int32 → Int32 → Int32 → Int32 → Int32 → Option Int32) (M : Mem) (d : Sl) (v1 : Int32) (v4 : Int32) (v5 : Int32) (v6 : Int32) (v7 : Int32) : Option Int32 :=
  bnd (v7 + (1 : Int32)) fun v7_1 =>
  k13 v1 v4 v5 v6 v7_1
def Wo_pagesWith_13 (M : Mem) (d : Sl) : Nat → Int32 → Int32 → Int32 → Int32 → Int32 → Option Int32
  | 0, _, _, _, _, _ => none
  | n + 1, v1, v4, v5, v6, v7 =>
    if v6 ≤ v7 then
      (some v5)
    else
      (bp (De_find d v1 v7) fun r2 =>
      bnd r2 fun v8_3 =>
      if v8_3 < 0 then
        (Wo_pagesWith_56 (Wo_pagesWith_13 M d n) M d v1 v4 v5 v6 v7)
      else
        (if inb v8_3 192 then
        if ((d 22 (ix v8_3)) &&& v4) = 0 then
          (Wo_pagesWith_56 (Wo_pagesWith_13 M d n) M d v1 v4 v5 v6 v7)
        else
          (bnd (v5 + (1 : Int32)) fun v5_4 =>
          Wo_pagesWith_56 (Wo_pagesWith_13 M d n) M d v1 v4 v5_4 v6 v7)
        else none))
def Wo_pagesWith (M : Mem) (d : Sl) (a1 : Int32) (a2 : Int32) (a3 : Int32) (a4 : Int32) : Option Int32 :=
  bnd (0 : Int32) fun v5_5 =>
  bnd (a2 + ((1 : Int32) <<< (a3 &&& 31))) fun v6_6 =>
  bnd a2 fun v7_7 =>
  Wo_pagesWith_13 M d FU a1 a4 v5_5 v6_6 v7_7
theorem y_X4_pagesWith : YV yX4_pagesWith cX4_pagesWith 9 (some .int) 4 := ⟨q678, q17, q679, q146, by decide +kernel, by decide +kernel, by decide +kernel, by decide +kernel⟩
theorem r_Wo_pagesWith_56 {C : Cxt} {G : Geo} {M : Mem} {k : Nat} {d : Sl} (hC : Cx C cX4_pagesWith 9 "FrameHeirs$World" (some .int) rm_X4_pagesWith G) (hk : LWd G k) (hk2 : 2 ≤ k) (hcl : GCl G) (k13 : Int32 → Int32 → Int32 → Int32 → Int32 → Option Int32) (h13 : ∀ (v1 : Int32) (v4 : Int32) (v5 : Int32) (v6 : Int32) (v7 : Int32), Rz C 9 G (setS M k) (poP avI ((setS M k) d)) 13 [(0, .inr (k, 10)), (1, .inl (.int v1)), (4, .inl (.int v4)), (5, .inl (.int v5)), (6, .inl (.int v6)), (7, .inl (.int v7))] [] d (k13 v1 v4 v5 v6 v7)) (v1 : Int32) (v4 : Int32) (v5 : Int32) (v6 : Int32) (v7 : Int32) : Rz C 9 G (setS M k) (poP avI ((setS M k) d)) 56 [(0, .inr (k, 10)), (1, .inl (.int v1)), (4, .inl (.int v4)), (5, .inl (.int v5)), (6, .inl (.int v6)), (7, .inl (.int v7))] [] d (Wo_pagesWith_56 k13 M d v1 v4 v5 v6 v7) := by
  unfold Wo_pagesWith_56
  refine z_iinc (pc := 56) (ls1 := fun v => [(7, .inl (.int v)), (0, .inr (k, 10)), (1, .inl (.int v1)), (4, .inl (.int v4)), (5, .inl (.int v5)), (6, .inl (.int v6))]) hC 7 5 (by decide) (1 : Int32) rfl rfl (fun v => rfl) dX4_pagesWith_56 (fun v7_1 => ?_)
  refine z_goto (pc := 59) hC 13 rfl dX4_pagesWith_59 ?_
  exact z_sub [1, 2, 3, 4, 5, 0] rfl (h13 v1 v4 v5 v6 v7_1)
theorem r_Wo_pagesWith_13 {C : Cxt} {G : Geo} {M : Mem} {k : Nat} {d : Sl} (hC : Cx C cX4_pagesWith 9 "FrameHeirs$World" (some .int) rm_X4_pagesWith G) (hk : LWd G k) (hk2 : 2 ≤ k) (hcl : GCl G) : ∀ (n : Nat) (v1 : Int32) (v4 : Int32) (v5 : Int32) (v6 : Int32) (v7 : Int32), Rz C 9 G (setS M k) (poP avI ((setS M k) d)) 13 [(0, .inr (k, 10)), (1, .inl (.int v1)), (4, .inl (.int v4)), (5, .inl (.int v5)), (6, .inl (.int v6)), (7, .inl (.int v7))] [] d (Wo_pagesWith_13 M d n v1 v4 v5 v6 v7) := by
  intro n
  induction n with
  | zero => intros; exact z_none
  | succ n ih =>
    intro v1 v4 v5 v6 v7
    rw [Wo_pagesWith_13]
    refine z_iload (pc := 13) hC 7 5 rfl dX4_pagesWith_13 ?_
    refine z_iload (pc := 15) hC 6 4 rfl dX4_pagesWith_15 ?_
    refine z_icmp_ge (pc := 17) hC 62 rfl dX4_pagesWith_17 ?_ ?_
    · refine z_iload (pc := 62) hC 5 3 rfl dX4_pagesWith_62 ?_
      exact z_iret (pc := 64) hC rfl dX4_pagesWith_64
    · refine z_aload_n (pc := 20) hC 0 rfl 0 rfl dX4_pagesWith_20 ?_
      refine z_getc (pc := 21) hC (hk 10 rfl) f_10_1 q378 dX4_pagesWith_21 ?_
      refine z_iload_n (pc := 24) hC 1 rfl 1 rfl dX4_pagesWith_24 ?_
      refine z_iload (pc := 25) hC 7 5 rfl dX4_pagesWith_25 ?_
      refine z_piV (pc := 27) (st := []) hC y_X0_find q655 [.inl (.int v1), .inl (.int v7)] rfl (hk 17 rfl) rfl rfl (c_X0_find hC.2.2.2.2.2.2.1 hk hk2) rfl ⟨rfl, rfl, (Nat.le_of_ble_eq_true rfl), (Nat.le_of_ble_eq_true rfl)⟩ (Nat.le_of_ble_eq_true rfl) dX4_pagesWith_27 (fun r2 => ?_)
      refine z_istore (pc := 30) (ls1 := fun v => [(8, .inl (.int v)), (0, .inr (k, 10)), (1, .inl (.int v1)), (4, .inl (.int v4)), (5, .inl (.int v5)), (6, .inl (.int v6)), (7, .inl (.int v7))]) hC 8 (by decide) (fun v => rfl) dX4_pagesWith_30 (fun v8_3 => ?_)
      refine z_iload (pc := 32) hC 8 0 rfl dX4_pagesWith_32 ?_
      refine z_if_lt (pc := 34) hC 56 rfl dX4_pagesWith_34 ?_ ?_
      · exact z_sub [1, 2, 3, 4, 5, 6] rfl (r_Wo_pagesWith_56 hC hk hk2 hcl _ ih v1 v4 v5 v6 v7)
      · refine z_aload_n (pc := 37) hC 0 rfl 1 rfl dX4_pagesWith_37 ?_
        refine z_getc (pc := 38) hC (hk 10 rfl) f_10_1 q378 dX4_pagesWith_38 ?_
        refine z_getc (pc := 41) hC (hk 17 rfl) f_17_4 q307 dX4_pagesWith_41 ?_
        refine z_iload (pc := 44) hC 8 0 rfl dX4_pagesWith_44 ?_
        refine zs_iald (pc := 46) hC (hk 22 rfl) rfl dX4_pagesWith_46 ?_
        refine z_iload (pc := 47) hC 4 3 rfl dX4_pagesWith_47 ?_
        refine z_iand (pc := 49) hC dX4_pagesWith_49 ?_
        refine z_if_eq (pc := 50) hC 56 rfl dX4_pagesWith_50 ?_ ?_
        · exact z_sub [1, 2, 3, 4, 5, 6] rfl (r_Wo_pagesWith_56 hC hk hk2 hcl _ ih v1 v4 v5 v6 v7)
        · refine z_iinc (pc := 53) (ls1 := fun v => [(5, .inl (.int v)), (8, .inl (.int v8_3)), (0, .inr (k, 10)), (1, .inl (.int v1)), (4, .inl (.int v4)), (6, .inl (.int v6)), (7, .inl (.int v7))]) hC 5 4 (by decide) (1 : Int32) rfl rfl (fun v => rfl) dX4_pagesWith_53 (fun v5_4 => ?_)
          exact z_sub [2, 3, 4, 0, 5, 6] rfl (r_Wo_pagesWith_56 hC hk hk2 hcl _ ih v1 v4 v5_4 v6 v7)
theorem r_Wo_pagesWith {C : Cxt} {G : Geo} {M : Mem} {k : Nat} (hC : Cx C cX4_pagesWith 9 "FrameHeirs$World" (some .int) rm_X4_pagesWith G) (hk : LWd G k) (hk2 : 2 ≤ k) (hcl : GCl G) (d : Sl) (a1 : Int32) (a2 : Int32) (a3 : Int32) (a4 : Int32) : Rz C 9 G (setS M k) (poP avI ((setS M k) d)) 0 [(0, .inr (k, 10)), (1, .inl (.int a1)), (2, .inl (.int a2)), (3, .inl (.int a3)), (4, .inl (.int a4))] [] d (Wo_pagesWith M d a1 a2 a3 a4) := by
  unfold Wo_pagesWith
  refine z_iconst (pc := 0) hC (0 : Int32) rfl dX4_pagesWith_0 ?_
  refine z_istore (pc := 1) (ls1 := fun v => [(5, .inl (.int v)), (0, .inr (k, 10)), (1, .inl (.int a1)), (2, .inl (.int a2)), (3, .inl (.int a3)), (4, .inl (.int a4))]) hC 5 (by decide) (fun v => rfl) dX4_pagesWith_1 (fun v5_5 => ?_)
  refine z_iload_n (pc := 3) hC 2 rfl 3 rfl dX4_pagesWith_3 ?_
  refine z_iconst (pc := 4) hC (1 : Int32) rfl dX4_pagesWith_4 ?_
  refine z_iload_n (pc := 5) hC 3 rfl 4 rfl dX4_pagesWith_5 ?_
  refine z_ishl (pc := 6) hC dX4_pagesWith_6 ?_
  refine z_iadd (pc := 7) hC dX4_pagesWith_7 ?_
  refine z_istore (pc := 8) (ls1 := fun v => [(6, .inl (.int v)), (5, .inl (.int v5_5)), (0, .inr (k, 10)), (1, .inl (.int a1)), (2, .inl (.int a2)), (3, .inl (.int a3)), (4, .inl (.int a4))]) hC 6 (by decide) (fun v => rfl) dX4_pagesWith_8 (fun v6_6 => ?_)
  refine z_iload_n (pc := 10) hC 2 rfl 4 rfl dX4_pagesWith_10 ?_
  refine z_istore (pc := 11) (ls1 := fun v => [(7, .inl (.int v)), (6, .inl (.int v6_6)), (5, .inl (.int v5_5)), (0, .inr (k, 10)), (1, .inl (.int a1)), (2, .inl (.int a2)), (3, .inl (.int a3)), (4, .inl (.int a4))]) hC 7 (by decide) (fun v => rfl) dX4_pagesWith_11 (fun v7_7 => ?_)
  exact z_sub [3, 4, 7, 2, 1, 0] rfl (r_Wo_pagesWith_13 hC hk hk2 hcl FU a1 a4 v5_5 v6_6 v7_7)
theorem c_X4_pagesWith {G : Geo} {M : Mem} {k : Nat} (hG : GOk G) (hk : LWd G k) (hk2 : 2 ≤ k) (hcl : GCl G) {d : Sl} {a1 : Int32} {a2 : Int32} {a3 : Int32} {a4 : Int32} (l : Launch) (r : Int32) (h : Wo_pagesWith M d a1 a2 a3 a4 = some r) : Mt l yX4_pagesWith cX4_pagesWith 9 (some .int) rm_X4_pagesWith G [.inr (k, 10), .inl (.int a1), .inl (.int a2), .inl (.int a3), .inl (.int a4)] ((setS M k) d) (avI r) ((setS M k) d) :=
  mt_of (mem := (setS M k)) (po := poP avI ((setS M k) d)) (x0 := d) (t := r) rfl hG [.inr (k, 10), .inl (.int a1), .inl (.int a2), .inl (.int a3), .inl (.int a4)] (Nat.le_of_ble_eq_true rfl) rfl (fun C hC => r_Wo_pagesWith hC hk hk2 hcl d a1 a2 a3 a4) h
-- FrameHeirs$World.addHeir(IIIIII)I
abbrev rm_X4_addHeir : Room := { frames := 2, cells := 0, slots := 0, locals := 51 }
theorem dX4_addHeir_0 : decode cX4_addHeir 0 = .ok (.aload_n 0, 1) := by decide +kernel
theorem dX4_addHeir_1 : decode cX4_addHeir 1 = .ok (.getfield 12, 3) := by decide +kernel
theorem dX4_addHeir_4 : decode cX4_addHeir 4 = .ok (.iload_n 1, 1) := by decide +kernel
theorem dX4_addHeir_5 : decode cX4_addHeir 5 = .ok (.iload_n 2, 1) := by decide +kernel
theorem dX4_addHeir_6 : decode cX4_addHeir 6 = .ok (.invokestatic 170, 3) := by decide +kernel
theorem dX4_addHeir_9 : decode cX4_addHeir 9 = .ok (.istore 7, 2) := by decide +kernel
theorem dX4_addHeir_11 : decode cX4_addHeir 11 = .ok (.aload_n 0, 1) := by decide +kernel
theorem dX4_addHeir_12 : decode cX4_addHeir 12 = .ok (.getfield 12, 3) := by decide +kernel
theorem dX4_addHeir_15 : decode cX4_addHeir 15 = .ok (.iload_n 3, 1) := by decide +kernel
theorem dX4_addHeir_16 : decode cX4_addHeir 16 = .ok (.iload 4, 2) := by decide +kernel
theorem dX4_addHeir_18 : decode cX4_addHeir 18 = .ok (.iload 7, 2) := by decide +kernel
theorem dX4_addHeir_20 : decode cX4_addHeir 20 = .ok (.iload 5, 2) := by decide +kernel
theorem dX4_addHeir_22 : decode cX4_addHeir 22 = .ok (.iload 6, 2) := by decide +kernel
theorem dX4_addHeir_24 : decode cX4_addHeir 24 = .ok (.invokevirtual 80, 3) := by decide +kernel
theorem dX4_addHeir_27 : decode cX4_addHeir 27 = .ok (.istore 8, 2) := by decide +kernel
theorem dX4_addHeir_29 : decode cX4_addHeir 29 = .ok (.iload 8, 2) := by decide +kernel
theorem dX4_addHeir_31 : decode cX4_addHeir 31 = .ok (.ifCond .lt 22, 3) := by decide +kernel
theorem dX4_addHeir_34 : decode cX4_addHeir 34 = .ok (.aload_n 0, 1) := by decide +kernel
theorem dX4_addHeir_35 : decode cX4_addHeir 35 = .ok (.getfield 12, 3) := by decide +kernel
theorem dX4_addHeir_38 : decode cX4_addHeir 38 = .ok (.iload 8, 2) := by decide +kernel
theorem dX4_addHeir_40 : decode cX4_addHeir 40 = .ok (.iload_n 1, 1) := by decide +kernel
theorem dX4_addHeir_41 : decode cX4_addHeir 41 = .ok (.invokevirtual 176, 3) := by decide +kernel
theorem dX4_addHeir_44 : decode cX4_addHeir 44 = .ok (.aload_n 0, 1) := by decide +kernel
theorem dX4_addHeir_45 : decode cX4_addHeir 45 = .ok (.iload_n 3, 1) := by decide +kernel
theorem dX4_addHeir_46 : decode cX4_addHeir 46 = .ok (.iload 4, 2) := by decide +kernel
theorem dX4_addHeir_48 : decode cX4_addHeir 48 = .ok (.iload 5, 2) := by decide +kernel
theorem dX4_addHeir_50 : decode cX4_addHeir 50 = .ok (.invokevirtual 84, 3) := by decide +kernel
theorem dX4_addHeir_53 : decode cX4_addHeir 53 = .ok (.iload 8, 2) := by decide +kernel
theorem dX4_addHeir_55 : decode cX4_addHeir 55 = .ok (.ireturn, 1) := by decide +kernel
def Wo_addHeir (M : Mem) (d : Sl) (a1 : Int32) (a2 : Int32) (a3 : Int32) (a4 : Int32) (a5 : Int32) (a6 : Int32) : Option (Int32 × Sl) :=
  bp (Qu_frameAt d a1 a2) fun r1 =>
  bnd r1 fun v7_2 =>
  bd (De_make d a3 a4 v7_2 a5 a6) fun r3 d4 =>
  bnd r3 fun v8_5 =>
  if v8_5 < 0 then
    (some (v8_5, d4))
  else
    (bd (De_append d4 v8_5 a1) fun r6 d7 =>
    bd (Wo_widen M d7 a3 a4 a5) fun r8 d9 =>
    some (v8_5, d9))
theorem y_X4_addHeir : YV yX4_addHeir cX4_addHeir 9 (some .int) 6 := ⟨q696, q20, q697, q146, by decide +kernel, by decide +kernel, by decide +kernel, by decide +kernel⟩
theorem r_Wo_addHeir {C : Cxt} {G : Geo} {M : Mem} {k : Nat} (hC : Cx C cX4_addHeir 9 "FrameHeirs$World" (some .int) rm_X4_addHeir G) (hk : LWd G k) (hk2 : 2 ≤ k) (hcl : GCl G) (d : Sl) (a1 : Int32) (a2 : Int32) (a3 : Int32) (a4 : Int32) (a5 : Int32) (a6 : Int32) : Rz C 9 G (setS M k) (poM avI (setS M k)) 0 [(0, .inr (k, 10)), (1, .inl (.int a1)), (2, .inl (.int a2)), (3, .inl (.int a3)), (4, .inl (.int a4)), (5, .inl (.int a5)), (6, .inl (.int a6))] [] d (Wo_addHeir M d a1 a2 a3 a4 a5 a6) := by
  unfold Wo_addHeir
  refine z_aload_n (pc := 0) hC 0 rfl 0 rfl dX4_addHeir_0 ?_
  refine z_getc (pc := 1) hC (hk 10 rfl) f_10_1 q378 dX4_addHeir_1 ?_
  refine z_iload_n (pc := 4) hC 1 rfl 1 rfl dX4_addHeir_4 ?_
  refine z_iload_n (pc := 5) hC 2 rfl 2 rfl dX4_addHeir_5 ?_
  refine z_piS (pc := 6) (st := []) hC y_X1_frameAt q698 [.inr (k, 17), .inl (.int a1), .inl (.int a2)] rfl (c_X1_frameAt hC.2.2.2.2.2.2.1 hk hk2) rfl ⟨rfl, rfl, (Nat.le_of_ble_eq_true rfl), (Nat.le_of_ble_eq_true rfl)⟩ (Nat.le_of_ble_eq_true rfl) dX4_addHeir_6 (fun r1 => ?_)
  refine z_istore (pc := 9) (ls1 := fun v => [(7, .inl (.int v)), (0, .inr (k, 10)), (1, .inl (.int a1)), (2, .inl (.int a2)), (3, .inl (.int a3)), (4, .inl (.int a4)), (5, .inl (.int a5)), (6, .inl (.int a6))]) hC 7 (by decide) (fun v => rfl) dX4_addHeir_9 (fun v7_2 => ?_)
  refine z_aload_n (pc := 11) hC 0 rfl 1 rfl dX4_addHeir_11 ?_
  refine z_getc (pc := 12) hC (hk 10 rfl) f_10_1 q378 dX4_addHeir_12 ?_
  refine z_iload_n (pc := 15) hC 3 rfl 4 rfl dX4_addHeir_15 ?_
  refine z_iload (pc := 16) hC 4 5 rfl dX4_addHeir_16 ?_
  refine z_iload (pc := 18) hC 7 0 rfl dX4_addHeir_18 ?_
  refine z_iload (pc := 20) hC 5 6 rfl dX4_addHeir_20 ?_
  refine z_iload (pc := 22) hC 6 7 rfl dX4_addHeir_22 ?_
  refine z_ciV (pc := 24) (st := []) hC y_X0_make q584 [.inl (.int a3), .inl (.int a4), .inl (.int v7_2), .inl (.int a5), .inl (.int a6)] rfl (hk 17 rfl) rfl rfl (c_X0_make hC.2.2.2.2.2.2.1 hk hk2) rfl ⟨rfl, rfl, (Nat.le_of_ble_eq_true rfl), (Nat.le_of_ble_eq_true rfl)⟩ (Nat.le_of_ble_eq_true rfl) dX4_addHeir_24 (fun r3 d4 => ?_)
  refine z_istore (pc := 27) (ls1 := fun v => [(8, .inl (.int v)), (7, .inl (.int v7_2)), (0, .inr (k, 10)), (1, .inl (.int a1)), (2, .inl (.int a2)), (3, .inl (.int a3)), (4, .inl (.int a4)), (5, .inl (.int a5)), (6, .inl (.int a6))]) hC 8 (by decide) (fun v => rfl) dX4_addHeir_27 (fun v8_5 => ?_)
  refine z_iload (pc := 29) hC 8 0 rfl dX4_addHeir_29 ?_
  refine z_if_lt (pc := 31) hC 53 rfl dX4_addHeir_31 ?_ ?_
  · refine z_iload (pc := 53) hC 8 0 rfl dX4_addHeir_53 ?_
    exact z_iret (pc := 55) hC rfl dX4_addHeir_55
  · refine z_aload_n (pc := 34) hC 0 rfl 2 rfl dX4_addHeir_34 ?_
    refine z_getc (pc := 35) hC (hk 10 rfl) f_10_1 q378 dX4_addHeir_35 ?_
    refine z_iload (pc := 38) hC 8 0 rfl dX4_addHeir_38 ?_
    refine z_iload_n (pc := 40) hC 1 rfl 3 rfl dX4_addHeir_40 ?_
    refine z_cvV (pc := 41) (st := []) hC y_X0_append q701 [.inl (.int v8_5), .inl (.int a1)] rfl (hk 17 rfl) rfl rfl (c_X0_append hC.2.2.2.2.2.2.1 hk hk2) rfl ⟨rfl, rfl, (Nat.le_of_ble_eq_true rfl), (Nat.le_of_ble_eq_true rfl)⟩ (Nat.le_of_ble_eq_true rfl) dX4_addHeir_41 (fun r6 d7 => ?_)
    refine z_aload_n (pc := 44) hC 0 rfl 2 rfl dX4_addHeir_44 ?_
    refine z_iload_n (pc := 45) hC 3 rfl 5 rfl dX4_addHeir_45 ?_
    refine z_iload (pc := 46) hC 4 6 rfl dX4_addHeir_46 ?_
    refine z_iload (pc := 48) hC 5 7 rfl dX4_addHeir_48 ?_
    refine z_cvV (pc := 50) (st := []) hC y_X4_widen q595 [.inl (.int a3), .inl (.int a4), .inl (.int a5)] rfl (hk 10 rfl) rfl rfl (c_X4_widen hC.2.2.2.2.2.2.1 hk hk2 hcl) rfl ⟨rfl, rfl, (Nat.le_of_ble_eq_true rfl), (Nat.le_of_ble_eq_true rfl)⟩ (Nat.le_of_ble_eq_true rfl) dX4_addHeir_50 (fun r8 d9 => ?_)
    refine z_iload (pc := 53) hC 8 0 rfl dX4_addHeir_53 ?_
    exact z_iret (pc := 55) hC rfl dX4_addHeir_55
theorem c_X4_addHeir {G : Geo} {M : Mem} {k : Nat} (hG : GOk G) (hk : LWd G k) (hk2 : 2 ≤ k) (hcl : GCl G) {d : Sl} {a1 : Int32} {a2 : Int32} {a3 : Int32} {a4 : Int32} {a5 : Int32} {a6 : Int32} (l : Launch) (r : Int32) (d1 : Sl) (h : Wo_addHeir M d a1 a2 a3 a4 a5 a6 = some (r, d1)) : Mt l yX4_addHeir cX4_addHeir 9 (some .int) rm_X4_addHeir G [.inr (k, 10), .inl (.int a1), .inl (.int a2), .inl (.int a3), .inl (.int a4), .inl (.int a5), .inl (.int a6)] ((setS M k) d) (avI r) ((setS M k) d1) :=
  mt_of (mem := (setS M k)) (po := poM avI (setS M k)) (x0 := d) (t := (r, d1)) rfl hG [.inr (k, 10), .inl (.int a1), .inl (.int a2), .inl (.int a3), .inl (.int a4), .inl (.int a5), .inl (.int a6)] (Nat.le_of_ble_eq_true rfl) rfl (fun C hC => r_Wo_addHeir hC hk hk2 hcl d a1 a2 a3 a4 a5 a6) h
-- FrameHeirs$World.makeHeirs(IIIII)I
abbrev rm_X4_makeHeirs : Room := { frames := 3, cells := 0, slots := 0, locals := 79 }
theorem dX4_makeHeirs_0 : decode cX4_makeHeirs 0 = .ok (.iconst 0, 1) := by decide +kernel
theorem dX4_makeHeirs_1 : decode cX4_makeHeirs 1 = .ok (.istore 6, 2) := by decide +kernel
theorem dX4_makeHeirs_3 : decode cX4_makeHeirs 3 = .ok (.iload_n 2, 1) := by decide +kernel
theorem dX4_makeHeirs_4 : decode cX4_makeHeirs 4 = .ok (.iconst 2, 1) := by decide +kernel
theorem dX4_makeHeirs_5 : decode cX4_makeHeirs 5 = .ok (.ishr, 1) := by decide +kernel
theorem dX4_makeHeirs_6 : decode cX4_makeHeirs 6 = .ok (.istore 7, 2) := by decide +kernel
theorem dX4_makeHeirs_8 : decode cX4_makeHeirs 8 = .ok (.iload 7, 2) := by decide +kernel
theorem dX4_makeHeirs_10 : decode cX4_makeHeirs 10 = .ok (.iconst 1, 1) := by decide +kernel
theorem dX4_makeHeirs_11 : decode cX4_makeHeirs 11 = .ok (.iload_n 2, 1) := by decide +kernel
theorem dX4_makeHeirs_12 : decode cX4_makeHeirs 12 = .ok (.iconst 3, 1) := by decide +kernel
theorem dX4_makeHeirs_13 : decode cX4_makeHeirs 13 = .ok (.iand, 1) := by decide +kernel
theorem dX4_makeHeirs_14 : decode cX4_makeHeirs 14 = .ok (.ishl, 1) := by decide +kernel
theorem dX4_makeHeirs_15 : decode cX4_makeHeirs 15 = .ok (.iadd, 1) := by decide +kernel
theorem dX4_makeHeirs_16 : decode cX4_makeHeirs 16 = .ok (.istore 8, 2) := by decide +kernel
theorem dX4_makeHeirs_18 : decode cX4_makeHeirs 18 = .ok (.iload 7, 2) := by decide +kernel
theorem dX4_makeHeirs_20 : decode cX4_makeHeirs 20 = .ok (.istore 9, 2) := by decide +kernel
theorem dX4_makeHeirs_22 : decode cX4_makeHeirs 22 = .ok (.iload 9, 2) := by decide +kernel
theorem dX4_makeHeirs_24 : decode cX4_makeHeirs 24 = .ok (.iload 8, 2) := by decide +kernel
theorem dX4_makeHeirs_26 : decode cX4_makeHeirs 26 = .ok (.if_icmp .ge 101, 3) := by decide +kernel
theorem dX4_makeHeirs_29 : decode cX4_makeHeirs 29 = .ok (.aload_n 0, 1) := by decide +kernel
theorem dX4_makeHeirs_30 : decode cX4_makeHeirs 30 = .ok (.getfield 12, 3) := by decide +kernel
theorem dX4_makeHeirs_33 : decode cX4_makeHeirs 33 = .ok (.iload_n 1, 1) := by decide +kernel
theorem dX4_makeHeirs_34 : decode cX4_makeHeirs 34 = .ok (.iload 9, 2) := by decide +kernel
theorem dX4_makeHeirs_36 : decode cX4_makeHeirs 36 = .ok (.invokevirtual 106, 3) := by decide +kernel
theorem dX4_makeHeirs_39 : decode cX4_makeHeirs 39 = .ok (.istore 10, 2) := by decide +kernel
theorem dX4_makeHeirs_41 : decode cX4_makeHeirs 41 = .ok (.iload 10, 2) := by decide +kernel
theorem dX4_makeHeirs_43 : decode cX4_makeHeirs 43 = .ok (.ifCond .ge 9, 3) := by decide +kernel
theorem dX4_makeHeirs_46 : decode cX4_makeHeirs 46 = .ok (.iinc 9 1, 3) := by decide +kernel
theorem dX4_makeHeirs_49 : decode cX4_makeHeirs 49 = .ok (.goto (-27), 3) := by decide +kernel
theorem dX4_makeHeirs_52 : decode cX4_makeHeirs 52 = .ok (.aload_n 0, 1) := by decide +kernel
theorem dX4_makeHeirs_53 : decode cX4_makeHeirs 53 = .ok (.getfield 12, 3) := by decide +kernel
theorem dX4_makeHeirs_56 : decode cX4_makeHeirs 56 = .ok (.getfield 158, 3) := by decide +kernel
theorem dX4_makeHeirs_59 : decode cX4_makeHeirs 59 = .ok (.iload 10, 2) := by decide +kernel
theorem dX4_makeHeirs_61 : decode cX4_makeHeirs 61 = .ok (.iaload, 1) := by decide +kernel
theorem dX4_makeHeirs_62 : decode cX4_makeHeirs 62 = .ok (.iload_n 2, 1) := by decide +kernel
theorem dX4_makeHeirs_63 : decode cX4_makeHeirs 63 = .ok (.iconst 3, 1) := by decide +kernel
theorem dX4_makeHeirs_64 : decode cX4_makeHeirs 64 = .ok (.iand, 1) := by decide +kernel
theorem dX4_makeHeirs_65 : decode cX4_makeHeirs 65 = .ok (.invokestatic 161, 3) := by decide +kernel
theorem dX4_makeHeirs_68 : decode cX4_makeHeirs 68 = .ok (.istore 11, 2) := by decide +kernel
theorem dX4_makeHeirs_70 : decode cX4_makeHeirs 70 = .ok (.aload_n 0, 1) := by decide +kernel
theorem dX4_makeHeirs_71 : decode cX4_makeHeirs 71 = .ok (.getfield 12, 3) := by decide +kernel
theorem dX4_makeHeirs_74 : decode cX4_makeHeirs 74 = .ok (.getfield 155, 3) := by decide +kernel
theorem dX4_makeHeirs_77 : decode cX4_makeHeirs 77 = .ok (.iload 10, 2) := by decide +kernel
theorem dX4_makeHeirs_79 : decode cX4_makeHeirs 79 = .ok (.iaload, 1) := by decide +kernel
theorem dX4_makeHeirs_80 : decode cX4_makeHeirs 80 = .ok (.iload 5, 2) := by decide +kernel
theorem dX4_makeHeirs_82 : decode cX4_makeHeirs 82 = .ok (.iand, 1) := by decide +kernel
theorem dX4_makeHeirs_83 : decode cX4_makeHeirs 83 = .ok (.istore 12, 2) := by decide +kernel
theorem dX4_makeHeirs_85 : decode cX4_makeHeirs 85 = .ok (.iload 12, 2) := by decide +kernel
theorem dX4_makeHeirs_87 : decode cX4_makeHeirs 87 = .ok (.ifCond .eq 28, 3) := by decide +kernel
theorem dX4_makeHeirs_90 : decode cX4_makeHeirs 90 = .ok (.aload_n 0, 1) := by decide +kernel
theorem dX4_makeHeirs_91 : decode cX4_makeHeirs 91 = .ok (.iload 10, 2) := by decide +kernel
theorem dX4_makeHeirs_93 : decode cX4_makeHeirs 93 = .ok (.iload 9, 2) := by decide +kernel
theorem dX4_makeHeirs_95 : decode cX4_makeHeirs 95 = .ok (.iload_n 3, 1) := by decide +kernel
theorem dX4_makeHeirs_96 : decode cX4_makeHeirs 96 = .ok (.iload 4, 2) := by decide +kernel
theorem dX4_makeHeirs_98 : decode cX4_makeHeirs 98 = .ok (.iload 9, 2) := by decide +kernel
theorem dX4_makeHeirs_100 : decode cX4_makeHeirs 100 = .ok (.iadd, 1) := by decide +kernel
theorem dX4_makeHeirs_101 : decode cX4_makeHeirs 101 = .ok (.iload 7, 2) := by decide +kernel
theorem dX4_makeHeirs_103 : decode cX4_makeHeirs 103 = .ok (.isub, 1) := by decide +kernel
theorem dX4_makeHeirs_104 : decode cX4_makeHeirs 104 = .ok (.iload 11, 2) := by decide +kernel
theorem dX4_makeHeirs_106 : decode cX4_makeHeirs 106 = .ok (.iload 12, 2) := by decide +kernel
theorem dX4_makeHeirs_108 : decode cX4_makeHeirs 108 = .ok (.invokevirtual 166, 3) := by decide +kernel
theorem dX4_makeHeirs_111 : decode cX4_makeHeirs 111 = .ok (.pop, 1) := by decide +kernel
theorem dX4_makeHeirs_112 : decode cX4_makeHeirs 112 = .ok (.iinc 6 1, 3) := by decide +kernel
theorem dX4_makeHeirs_115 : decode cX4_makeHeirs 115 = .ok (.iload 9, 2) := by decide +kernel
theorem dX4_makeHeirs_117 : decode cX4_makeHeirs 117 = .ok (.iconst 1, 1) := by decide +kernel
theorem dX4_makeHeirs_118 : decode cX4_makeHeirs 118 = .ok (.iload 11, 2) := by decide +kernel
theorem dX4_makeHeirs_120 : decode cX4_makeHeirs 120 = .ok (.ishl, 1) := by decide +kernel
theorem dX4_makeHeirs_121 : decode cX4_makeHeirs 121 = .ok (.iadd, 1) := by decide +kernel
theorem dX4_makeHeirs_122 : decode cX4_makeHeirs 122 = .ok (.istore 9, 2) := by decide +kernel
theorem dX4_makeHeirs_124 : decode cX4_makeHeirs 124 = .ok (.goto (-102), 3) := by decide +kernel
theorem dX4_makeHeirs_127 : decode cX4_makeHeirs 127 = .ok (.iload 6, 2) := by decide +kernel
theorem dX4_makeHeirs_129 : decode cX4_makeHeirs 129 = .ok (.ireturn, 1) := by decide +kernel
def Wo_makeHeirs_115 (k22 : Int32 → Int32 → Int32 → Int32 → Int32 → Int32 → Int32 → Int32 → Int32 → Sl → Option (Int32 × Sl)) (M : Mem) (v1 : Int32) (v2 : Int32) (v3 : Int32) (v4 : Int32) (v5 : Int32) (v6 : Int32) (v7 : Int32) (v8 : Int32) (v9 : Int32) (v11 : Int32) (d : Sl) : Option (Int32 × Sl) :=
  bnd (v9 + ((1 : Int32) <<< (v11 &&& 31))) fun v9_1 =>
  k22 v1 v2 v3 v4 v5 v6 v7 v8 v9_1 d
def Wo_makeHeirs_22 (M : Mem) : Nat → Int32 → Int32 → Int32 → Int32 → Int32 → Int32 → Int32 → Int32 → Int32 → Sl → Option (Int32 × Sl)
  | 0, _, _, _, _, _, _, _, _, _, _ => none
  | n + 1, v1, v2, v3, v4, v5, v6, v7, v8, v9, d =>
    if v8 ≤ v9 then
      (some (v6, d))
    else
      (bp (De_find d v1 v9) fun r2 =>
      bnd r2 fun v10_3 =>
      if 0 ≤ v10_3 then
        (if inb v10_3 192 then
        bnd (if (v2 &&& (3 : Int32)) < (d 21 (ix v10_3)) then (v2 &&& (3 : Int32)) else (d 21 (ix v10_3))) fun v11_4 =>
        if inb v10_3 192 then
        bnd ((d 22 (ix v10_3)) &&& v5) fun v12_5 =>
        if v12_5 = 0 then
          (Wo_makeHeirs_115 (Wo_makeHeirs_22 M n) M v1 v2 v3 v4 v5 v6 v7 v8 v9 v11_4 d)
        else
          (bd (Wo_addHeir M d v10_3 v9 v3 ((v4 + v9) - v7) v11_4 v12_5) fun r6 d7 =>
          bnd (v6 + (1 : Int32)) fun v6_8 =>
          Wo_makeHeirs_115 (Wo_makeHeirs_22 M n) M v1 v2 v3 v4 v5 v6_8 v7 v8 v9 v11_4 d7)
        else none
        else none)
      else
        (bnd (v9 + (1 : Int32)) fun v9_9 =>
        Wo_makeHeirs_22 M n v1 v2 v3 v4 v5 v6 v7 v8 v9_9 d))
def Wo_makeHeirs (M : Mem) (d : Sl) (a1 : Int32) (a2 : Int32) (a3 : Int32) (a4 : Int32) (a5 : Int32) : Option (Int32 × Sl) :=
  bnd (0 : Int32) fun v6_10 =>
  bnd (a2 >>> ((2 : Int32) &&& 31)) fun v7_11 =>
  bnd (v7_11 + ((1 : Int32) <<< ((a2 &&& (3 : Int32)) &&& 31))) fun v8_12 =>
  bnd v7_11 fun v9_13 =>
  Wo_makeHeirs_22 M FU a1 a2 a3 a4 a5 v6_10 v7_11 v8_12 v9_13 d
theorem y_X4_makeHeirs : YV yX4_makeHeirs cX4_makeHeirs 13 (some .int) 5 := ⟨q691, q19, q692, q146, by decide +kernel, by decide +kernel, by decide +kernel, by decide +kernel⟩
theorem r_Wo_makeHeirs_115 {C : Cxt} {G : Geo} {M : Mem} {k : Nat} (hC : Cx C cX4_makeHeirs 13 "FrameHeirs$World" (some .int) rm_X4_makeHeirs G) (hk : LWd G k) (hk2 : 2 ≤ k) (hcl : GCl G) (k22 : Int32 → Int32 → Int32 → Int32 → Int32 → Int32 → Int32 → Int32 → Int32 → Sl → Option (Int32 × Sl)) (h22 : ∀ (v1 : Int32) (v2 : Int32) (v3 : Int32) (v4 : Int32) (v5 : Int32) (v6 : Int32) (v7 : Int32) (v8 : Int32) (v9 : Int32) (d : Sl), Rz C 13 G (setS M k) (poM avI (setS M k)) 22 [(0, .inr (k, 10)), (1, .inl (.int v1)), (2, .inl (.int v2)), (3, .inl (.int v3)), (4, .inl (.int v4)), (5, .inl (.int v5)), (6, .inl (.int v6)), (7, .inl (.int v7)), (8, .inl (.int v8)), (9, .inl (.int v9))] [] d (k22 v1 v2 v3 v4 v5 v6 v7 v8 v9 d)) (v1 : Int32) (v2 : Int32) (v3 : Int32) (v4 : Int32) (v5 : Int32) (v6 : Int32) (v7 : Int32) (v8 : Int32) (v9 : Int32) (v11 : Int32) (d : Sl) : Rz C 13 G (setS M k) (poM avI (setS M k)) 115 [(0, .inr (k, 10)), (1, .inl (.int v1)), (2, .inl (.int v2)), (3, .inl (.int v3)), (4, .inl (.int v4)), (5, .inl (.int v5)), (6, .inl (.int v6)), (7, .inl (.int v7)), (8, .inl (.int v8)), (9, .inl (.int v9)), (11, .inl (.int v11))] [] d (Wo_makeHeirs_115 k22 M v1 v2 v3 v4 v5 v6 v7 v8 v9 v11 d) := by
  unfold Wo_makeHeirs_115
  refine z_iload (pc := 115) hC 9 9 rfl dX4_makeHeirs_115 ?_
  refine z_iconst (pc := 117) hC (1 : Int32) rfl dX4_makeHeirs_117 ?_
  refine z_iload (pc := 118) hC 11 10 rfl dX4_makeHeirs_118 ?_
  refine z_ishl (pc := 120) hC dX4_makeHeirs_120 ?_
  refine z_iadd (pc := 121) hC dX4_makeHeirs_121 ?_
  refine z_istore (pc := 122) (ls1 := fun v => [(9, .inl (.int v)), (0, .inr (k, 10)), (1, .inl (.int v1)), (2, .inl (.int v2)), (3, .inl (.int v3)), (4, .inl (.int v4)), (5, .inl (.int v5)), (6, .inl (.int v6)), (7, .inl (.int v7)), (8, .inl (.int v8)), (11, .inl (.int v11))]) hC 9 (by decide) (fun v => rfl) dX4_makeHeirs_122 (fun v9_1 => ?_)
  refine z_goto (pc := 124) hC 22 rfl dX4_makeHeirs_124 ?_
  exact z_sub [1, 2, 3, 4, 5, 6, 7, 8, 9, 0] rfl (h22 v1 v2 v3 v4 v5 v6 v7 v8 v9_1 d)
theorem r_Wo_makeHeirs_22 {C : Cxt} {G : Geo} {M : Mem} {k : Nat} (hC : Cx C cX4_makeHeirs 13 "FrameHeirs$World" (some .int) rm_X4_makeHeirs G) (hk : LWd G k) (hk2 : 2 ≤ k) (hcl : GCl G) : ∀ (n : Nat) (v1 : Int32) (v2 : Int32) (v3 : Int32) (v4 : Int32) (v5 : Int32) (v6 : Int32) (v7 : Int32) (v8 : Int32) (v9 : Int32) (d : Sl), Rz C 13 G (setS M k) (poM avI (setS M k)) 22 [(0, .inr (k, 10)), (1, .inl (.int v1)), (2, .inl (.int v2)), (3, .inl (.int v3)), (4, .inl (.int v4)), (5, .inl (.int v5)), (6, .inl (.int v6)), (7, .inl (.int v7)), (8, .inl (.int v8)), (9, .inl (.int v9))] [] d (Wo_makeHeirs_22 M n v1 v2 v3 v4 v5 v6 v7 v8 v9 d) := by
  intro n
  induction n with
  | zero => intros; exact z_none
  | succ n ih =>
    intro v1 v2 v3 v4 v5 v6 v7 v8 v9 d
    rw [Wo_makeHeirs_22]
    refine z_iload (pc := 22) hC 9 9 rfl dX4_makeHeirs_22 ?_
    refine z_iload (pc := 24) hC 8 8 rfl dX4_makeHeirs_24 ?_
    refine z_icmp_ge (pc := 26) hC 127 rfl dX4_makeHeirs_26 ?_ ?_
    · refine z_iload (pc := 127) hC 6 6 rfl dX4_makeHeirs_127 ?_
      exact z_iret (pc := 129) hC rfl dX4_makeHeirs_129
    · refine z_aload_n (pc := 29) hC 0 rfl 0 rfl dX4_makeHeirs_29 ?_
      refine z_getc (pc := 30) hC (hk 10 rfl) f_10_1 q378 dX4_makeHeirs_30 ?_
      refine z_iload_n (pc := 33) hC 1 rfl 1 rfl dX4_makeHeirs_33 ?_
      refine z_iload (pc := 34) hC 9 9 rfl dX4_makeHeirs_34 ?_
      refine z_piV (pc := 36) (st := []) hC y_X0_find q655 [.inl (.int v1), .inl (.int v9)] rfl (hk 17 rfl) rfl rfl (c_X0_find hC.2.2.2.2.2.2.1 hk hk2) rfl ⟨rfl, rfl, (Nat.le_of_ble_eq_true rfl), (Nat.le_of_ble_eq_true rfl)⟩ (Nat.le_of_ble_eq_true rfl) dX4_makeHeirs_36 (fun r2 => ?_)
      refine z_istore (pc := 39) (ls1 := fun v => [(10, .inl (.int v)), (0, .inr (k, 10)), (1, .inl (.int v1)), (2, .inl (.int v2)), (3, .inl (.int v3)), (4, .inl (.int v4)), (5, .inl (.int v5)), (6, .inl (.int v6)), (7, .inl (.int v7)), (8, .inl (.int v8)), (9, .inl (.int v9))]) hC 10 (by decide) (fun v => rfl) dX4_makeHeirs_39 (fun v10_3 => ?_)
      refine z_iload (pc := 41) hC 10 0 rfl dX4_makeHeirs_41 ?_
      refine z_if_ge (pc := 43) hC 52 rfl dX4_makeHeirs_43 ?_ ?_
      · refine z_aload_n (pc := 52) hC 0 rfl 1 rfl dX4_makeHeirs_52 ?_
        refine z_getc (pc := 53) hC (hk 10 rfl) f_10_1 q378 dX4_makeHeirs_53 ?_
        refine z_getc (pc := 56) hC (hk 17 rfl) f_17_3 q304 dX4_makeHeirs_56 ?_
        refine z_iload (pc := 59) hC 10 0 rfl dX4_makeHeirs_59 ?_
        refine zs_iald (pc := 61) hC (hk 21 rfl) rfl dX4_makeHeirs_61 ?_
        refine z_iload_n (pc := 62) hC 2 rfl 3 rfl dX4_makeHeirs_62 ?_
        refine z_iconst (pc := 63) hC (3 : Int32) rfl dX4_makeHeirs_63 ?_
        refine z_iand (pc := 64) hC dX4_makeHeirs_64 ?_
        refine z_min (pc := 65) hC q693 q479 q150 q480 (Nat.le_of_ble_eq_true rfl) (Nat.le_of_ble_eq_true rfl) dX4_makeHeirs_65 ?_
        refine z_istore (pc := 68) (ls1 := fun v => [(11, .inl (.int v)), (10, .inl (.int v10_3)), (0, .inr (k, 10)), (1, .inl (.int v1)), (2, .inl (.int v2)), (3, .inl (.int v3)), (4, .inl (.int v4)), (5, .inl (.int v5)), (6, .inl (.int v6)), (7, .inl (.int v7)), (8, .inl (.int v8)), (9, .inl (.int v9))]) hC 11 (by decide) (fun v => rfl) dX4_makeHeirs_68 (fun v11_4 => ?_)
        refine z_aload_n (pc := 70) hC 0 rfl 2 rfl dX4_makeHeirs_70 ?_
        refine z_getc (pc := 71) hC (hk 10 rfl) f_10_1 q378 dX4_makeHeirs_71 ?_
        refine z_getc (pc := 74) hC (hk 17 rfl) f_17_4 q307 dX4_makeHeirs_74 ?_
        refine z_iload (pc := 77) hC 10 1 rfl dX4_makeHeirs_77 ?_
        refine zs_iald (pc := 79) hC (hk 22 rfl) rfl dX4_makeHeirs_79 ?_
        refine z_iload (pc := 80) hC 5 7 rfl dX4_makeHeirs_80 ?_
        refine z_iand (pc := 82) hC dX4_makeHeirs_82 ?_
        refine z_istore (pc := 83) (ls1 := fun v => [(12, .inl (.int v)), (11, .inl (.int v11_4)), (10, .inl (.int v10_3)), (0, .inr (k, 10)), (1, .inl (.int v1)), (2, .inl (.int v2)), (3, .inl (.int v3)), (4, .inl (.int v4)), (5, .inl (.int v5)), (6, .inl (.int v6)), (7, .inl (.int v7)), (8, .inl (.int v8)), (9, .inl (.int v9))]) hC 12 (by decide) (fun v => rfl) dX4_makeHeirs_83 (fun v12_5 => ?_)
        refine z_iload (pc := 85) hC 12 0 rfl dX4_makeHeirs_85 ?_
        refine z_if_eq (pc := 87) hC 115 rfl dX4_makeHeirs_87 ?_ ?_
        · exact z_sub [3, 4, 5, 6, 7, 8, 9, 10, 11, 12, 1] rfl (r_Wo_makeHeirs_115 hC hk hk2 hcl _ ih v1 v2 v3 v4 v5 v6 v7 v8 v9 v11_4 d)
        · refine z_aload_n (pc := 90) hC 0 rfl 3 rfl dX4_makeHeirs_90 ?_
          refine z_iload (pc := 91) hC 10 2 rfl dX4_makeHeirs_91 ?_
          refine z_iload (pc := 93) hC 9 12 rfl dX4_makeHeirs_93 ?_
          refine z_iload_n (pc := 95) hC 3 rfl 6 rfl dX4_makeHeirs_95 ?_
          refine z_iload (pc := 96) hC 4 7 rfl dX4_makeHeirs_96 ?_
          refine z_iload (pc := 98) hC 9 12 rfl dX4_makeHeirs_98 ?_
          refine z_iadd (pc := 100) hC dX4_makeHeirs_100 ?_
          refine z_iload (pc := 101) hC 7 10 rfl dX4_makeHeirs_101 ?_
          refine z_isub (pc := 103) hC dX4_makeHeirs_103 ?_
          refine z_iload (pc := 104) hC 11 1 rfl dX4_makeHeirs_104 ?_
          refine z_iload (pc := 106) hC 12 0 rfl dX4_makeHeirs_106 ?_
          refine z_ciV (pc := 108) (st := []) hC y_X4_addHeir q694 [.inl (.int v10_3), .inl (.int v9), .inl (.int v3), .inl (.int ((v4 + v9) - v7)), .inl (.int v11_4), .inl (.int v12_5)] rfl (hk 10 rfl) rfl rfl (c_X4_addHeir hC.2.2.2.2.2.2.1 hk hk2 hcl) rfl ⟨rfl, rfl, (Nat.le_of_ble_eq_true rfl), (Nat.le_of_ble_eq_true rfl)⟩ (Nat.le_of_ble_eq_true rfl) dX4_makeHeirs_108 (fun r6 d7 => ?_)
          refine z_pop (pc := 111) hC rfl dX4_makeHeirs_111 ?_
          refine z_iinc (pc := 112) (ls1 := fun v => [(6, .inl (.int v)), (12, .inl (.int v12_5)), (11, .inl (.int v11_4)), (10, .inl (.int v10_3)), (0, .inr (k, 10)), (1, .inl (.int v1)), (2, .inl (.int v2)), (3, .inl (.int v3)), (4, .inl (.int v4)), (5, .inl (.int v5)), (7, .inl (.int v7)), (8, .inl (.int v8)), (9, .inl (.int v9))]) hC 6 9 (by decide) (1 : Int32) rfl rfl (fun v => rfl) dX4_makeHeirs_112 (fun v6_8 => ?_)
          exact z_sub [4, 5, 6, 7, 8, 9, 0, 10, 11, 12, 2] rfl (r_Wo_makeHeirs_115 hC hk hk2 hcl _ ih v1 v2 v3 v4 v5 v6_8 v7 v8 v9 v11_4 d7)
      · refine z_iinc (pc := 46) (ls1 := fun v => [(9, .inl (.int v)), (10, .inl (.int v10_3)), (0, .inr (k, 10)), (1, .inl (.int v1)), (2, .inl (.int v2)), (3, .inl (.int v3)), (4, .inl (.int v4)), (5, .inl (.int v5)), (6, .inl (.int v6)), (7, .inl (.int v7)), (8, .inl (.int v8))]) hC 9 10 (by decide) (1 : Int32) rfl rfl (fun v => rfl) dX4_makeHeirs_46 (fun v9_9 => ?_)
        refine z_goto (pc := 49) hC 22 rfl dX4_makeHeirs_49 ?_
        exact z_sub [2, 3, 4, 5, 6, 7, 8, 9, 10, 0] rfl (ih v1 v2 v3 v4 v5 v6 v7 v8 v9_9 d)
theorem r_Wo_makeHeirs {C : Cxt} {G : Geo} {M : Mem} {k : Nat} (hC : Cx C cX4_makeHeirs 13 "FrameHeirs$World" (some .int) rm_X4_makeHeirs G) (hk : LWd G k) (hk2 : 2 ≤ k) (hcl : GCl G) (d : Sl) (a1 : Int32) (a2 : Int32) (a3 : Int32) (a4 : Int32) (a5 : Int32) : Rz C 13 G (setS M k) (poM avI (setS M k)) 0 [(0, .inr (k, 10)), (1, .inl (.int a1)), (2, .inl (.int a2)), (3, .inl (.int a3)), (4, .inl (.int a4)), (5, .inl (.int a5))] [] d (Wo_makeHeirs M d a1 a2 a3 a4 a5) := by
  unfold Wo_makeHeirs
  refine z_iconst (pc := 0) hC (0 : Int32) rfl dX4_makeHeirs_0 ?_
  refine z_istore (pc := 1) (ls1 := fun v => [(6, .inl (.int v)), (0, .inr (k, 10)), (1, .inl (.int a1)), (2, .inl (.int a2)), (3, .inl (.int a3)), (4, .inl (.int a4)), (5, .inl (.int a5))]) hC 6 (by decide) (fun v => rfl) dX4_makeHeirs_1 (fun v6_10 => ?_)
  refine z_iload_n (pc := 3) hC 2 rfl 3 rfl dX4_makeHeirs_3 ?_
  refine z_iconst (pc := 4) hC (2 : Int32) rfl dX4_makeHeirs_4 ?_
  refine z_ishr (pc := 5) hC dX4_makeHeirs_5 ?_
  refine z_istore (pc := 6) (ls1 := fun v => [(7, .inl (.int v)), (6, .inl (.int v6_10)), (0, .inr (k, 10)), (1, .inl (.int a1)), (2, .inl (.int a2)), (3, .inl (.int a3)), (4, .inl (.int a4)), (5, .inl (.int a5))]) hC 7 (by decide) (fun v => rfl) dX4_makeHeirs_6 (fun v7_11 => ?_)
  refine z_iload (pc := 8) hC 7 0 rfl dX4_makeHeirs_8 ?_
  refine z_iconst (pc := 10) hC (1 : Int32) rfl dX4_makeHeirs_10 ?_
  refine z_iload_n (pc := 11) hC 2 rfl 4 rfl dX4_makeHeirs_11 ?_
  refine z_iconst (pc := 12) hC (3 : Int32) rfl dX4_makeHeirs_12 ?_
  refine z_iand (pc := 13) hC dX4_makeHeirs_13 ?_
  refine z_ishl (pc := 14) hC dX4_makeHeirs_14 ?_
  refine z_iadd (pc := 15) hC dX4_makeHeirs_15 ?_
  refine z_istore (pc := 16) (ls1 := fun v => [(8, .inl (.int v)), (7, .inl (.int v7_11)), (6, .inl (.int v6_10)), (0, .inr (k, 10)), (1, .inl (.int a1)), (2, .inl (.int a2)), (3, .inl (.int a3)), (4, .inl (.int a4)), (5, .inl (.int a5))]) hC 8 (by decide) (fun v => rfl) dX4_makeHeirs_16 (fun v8_12 => ?_)
  refine z_iload (pc := 18) hC 7 1 rfl dX4_makeHeirs_18 ?_
  refine z_istore (pc := 20) (ls1 := fun v => [(9, .inl (.int v)), (8, .inl (.int v8_12)), (7, .inl (.int v7_11)), (6, .inl (.int v6_10)), (0, .inr (k, 10)), (1, .inl (.int a1)), (2, .inl (.int a2)), (3, .inl (.int a3)), (4, .inl (.int a4)), (5, .inl (.int a5))]) hC 9 (by decide) (fun v => rfl) dX4_makeHeirs_20 (fun v9_13 => ?_)
  exact z_sub [4, 5, 6, 7, 8, 9, 3, 2, 1, 0] rfl (r_Wo_makeHeirs_22 hC hk hk2 hcl FU a1 a2 a3 a4 a5 v6_10 v7_11 v8_12 v9_13 d)
theorem c_X4_makeHeirs {G : Geo} {M : Mem} {k : Nat} (hG : GOk G) (hk : LWd G k) (hk2 : 2 ≤ k) (hcl : GCl G) {d : Sl} {a1 : Int32} {a2 : Int32} {a3 : Int32} {a4 : Int32} {a5 : Int32} (l : Launch) (r : Int32) (d1 : Sl) (h : Wo_makeHeirs M d a1 a2 a3 a4 a5 = some (r, d1)) : Mt l yX4_makeHeirs cX4_makeHeirs 13 (some .int) rm_X4_makeHeirs G [.inr (k, 10), .inl (.int a1), .inl (.int a2), .inl (.int a3), .inl (.int a4), .inl (.int a5)] ((setS M k) d) (avI r) ((setS M k) d1) :=
  mt_of (mem := (setS M k)) (po := poM avI (setS M k)) (x0 := d) (t := (r, d1)) rfl hG [.inr (k, 10), .inl (.int a1), .inl (.int a2), .inl (.int a3), .inl (.int a4), .inl (.int a5)] (Nat.le_of_ble_eq_true rfl) rfl (fun C hC => r_Wo_makeHeirs hC hk hk2 hcl d a1 a2 a3 a4 a5) h
-- FrameHeirs$World.handOn(IIIII)I
abbrev rm_X4_handOn : Room := { frames := 4, cells := 0, slots := 0, locals := 111 }
theorem dX4_handOn_0 : decode cX4_handOn 0 = .ok (.iload_n 2, 1) := by decide +kernel
theorem dX4_handOn_1 : decode cX4_handOn 1 = .ok (.iconst 3, 1) := by decide +kernel
theorem dX4_handOn_2 : decode cX4_handOn 2 = .ok (.iand, 1) := by decide +kernel
theorem dX4_handOn_3 : decode cX4_handOn 3 = .ok (.istore 6, 2) := by decide +kernel
theorem dX4_handOn_5 : decode cX4_handOn 5 = .ok (.aload_n 0, 1) := by decide +kernel
theorem dX4_handOn_6 : decode cX4_handOn 6 = .ok (.iload_n 1, 1) := by decide +kernel
theorem dX4_handOn_7 : decode cX4_handOn 7 = .ok (.iload_n 3, 1) := by decide +kernel
theorem dX4_handOn_8 : decode cX4_handOn 8 = .ok (.invokevirtual 129, 3) := by decide +kernel
theorem dX4_handOn_11 : decode cX4_handOn 11 = .ok (.ifCond .eq 31, 3) := by decide +kernel
theorem dX4_handOn_14 : decode cX4_handOn 14 = .ok (.aload_n 0, 1) := by decide +kernel
theorem dX4_handOn_15 : decode cX4_handOn 15 = .ok (.iload_n 1, 1) := by decide +kernel
theorem dX4_handOn_16 : decode cX4_handOn 16 = .ok (.iload_n 2, 1) := by decide +kernel
theorem dX4_handOn_17 : decode cX4_handOn 17 = .ok (.invokevirtual 132, 3) := by decide +kernel
theorem dX4_handOn_20 : decode cX4_handOn 20 = .ok (.ifCond .eq 22, 3) := by decide +kernel
theorem dX4_handOn_23 : decode cX4_handOn 23 = .ok (.aload_n 0, 1) := by decide +kernel
theorem dX4_handOn_24 : decode cX4_handOn 24 = .ok (.iload 4, 2) := by decide +kernel
theorem dX4_handOn_26 : decode cX4_handOn 26 = .ok (.iload 6, 2) := by decide +kernel
theorem dX4_handOn_28 : decode cX4_handOn 28 = .ok (.invokevirtual 102, 3) := by decide +kernel
theorem dX4_handOn_31 : decode cX4_handOn 31 = .ok (.ifCond .eq 11, 3) := by decide +kernel
theorem dX4_handOn_34 : decode cX4_handOn 34 = .ok (.iload 5, 2) := by decide +kernel
theorem dX4_handOn_36 : decode cX4_handOn 36 = .ok (.invokestatic 135, 3) := by decide +kernel
theorem dX4_handOn_39 : decode cX4_handOn 39 = .ok (.ifCond .ne 5, 3) := by decide +kernel
theorem dX4_handOn_42 : decode cX4_handOn 42 = .ok (.iconst (-1), 1) := by decide +kernel
theorem dX4_handOn_43 : decode cX4_handOn 43 = .ok (.ireturn, 1) := by decide +kernel
theorem dX4_handOn_44 : decode cX4_handOn 44 = .ok (.iload_n 2, 1) := by decide +kernel
theorem dX4_handOn_45 : decode cX4_handOn 45 = .ok (.iconst 2, 1) := by decide +kernel
theorem dX4_handOn_46 : decode cX4_handOn 46 = .ok (.ishr, 1) := by decide +kernel
theorem dX4_handOn_47 : decode cX4_handOn 47 = .ok (.istore 7, 2) := by decide +kernel
theorem dX4_handOn_49 : decode cX4_handOn 49 = .ok (.aload_n 0, 1) := by decide +kernel
theorem dX4_handOn_50 : decode cX4_handOn 50 = .ok (.iload_n 1, 1) := by decide +kernel
theorem dX4_handOn_51 : decode cX4_handOn 51 = .ok (.iload 7, 2) := by decide +kernel
theorem dX4_handOn_53 : decode cX4_handOn 53 = .ok (.iload 6, 2) := by decide +kernel
theorem dX4_handOn_55 : decode cX4_handOn 55 = .ok (.invokevirtual 138, 3) := by decide +kernel
theorem dX4_handOn_58 : decode cX4_handOn 58 = .ok (.istore 8, 2) := by decide +kernel
theorem dX4_handOn_60 : decode cX4_handOn 60 = .ok (.iload 8, 2) := by decide +kernel
theorem dX4_handOn_62 : decode cX4_handOn 62 = .ok (.iconst 1, 1) := by decide +kernel
theorem dX4_handOn_63 : decode cX4_handOn 63 = .ok (.iand, 1) := by decide +kernel
theorem dX4_handOn_64 : decode cX4_handOn 64 = .ok (.ifCond .ne 6, 3) := by decide +kernel
theorem dX4_handOn_67 : decode cX4_handOn 67 = .ok (.bipush (-2), 2) := by decide +kernel
theorem dX4_handOn_69 : decode cX4_handOn 69 = .ok (.ireturn, 1) := by decide +kernel
theorem dX4_handOn_70 : decode cX4_handOn 70 = .ok (.iload 8, 2) := by decide +kernel
theorem dX4_handOn_72 : decode cX4_handOn 72 = .ok (.iconst 2, 1) := by decide +kernel
theorem dX4_handOn_73 : decode cX4_handOn 73 = .ok (.iand, 1) := by decide +kernel
theorem dX4_handOn_74 : decode cX4_handOn 74 = .ok (.ifCond .eq 6, 3) := by decide +kernel
theorem dX4_handOn_77 : decode cX4_handOn 77 = .ok (.bipush (-3), 2) := by decide +kernel
theorem dX4_handOn_79 : decode cX4_handOn 79 = .ok (.ireturn, 1) := by decide +kernel
theorem dX4_handOn_80 : decode cX4_handOn 80 = .ok (.aload_n 0, 1) := by decide +kernel
theorem dX4_handOn_81 : decode cX4_handOn 81 = .ok (.getfield 12, 3) := by decide +kernel
theorem dX4_handOn_84 : decode cX4_handOn 84 = .ok (.iload_n 3, 1) := by decide +kernel
theorem dX4_handOn_85 : decode cX4_handOn 85 = .ok (.iload 4, 2) := by decide +kernel
theorem dX4_handOn_87 : decode cX4_handOn 87 = .ok (.iconst 1, 1) := by decide +kernel
theorem dX4_handOn_88 : decode cX4_handOn 88 = .ok (.iload 6, 2) := by decide +kernel
theorem dX4_handOn_90 : decode cX4_handOn 90 = .ok (.ishl, 1) := by decide +kernel
theorem dX4_handOn_91 : decode cX4_handOn 91 = .ok (.invokevirtual 142, 3) := by decide +kernel
theorem dX4_handOn_94 : decode cX4_handOn 94 = .ok (.ifCond .le 6, 3) := by decide +kernel
theorem dX4_handOn_97 : decode cX4_handOn 97 = .ok (.bipush (-4), 2) := by decide +kernel
theorem dX4_handOn_99 : decode cX4_handOn 99 = .ok (.ireturn, 1) := by decide +kernel
theorem dX4_handOn_100 : decode cX4_handOn 100 = .ok (.aload_n 0, 1) := by decide +kernel
theorem dX4_handOn_101 : decode cX4_handOn 101 = .ok (.iload_n 1, 1) := by decide +kernel
theorem dX4_handOn_102 : decode cX4_handOn 102 = .ok (.iload 7, 2) := by decide +kernel
theorem dX4_handOn_104 : decode cX4_handOn 104 = .ok (.iload 6, 2) := by decide +kernel
theorem dX4_handOn_106 : decode cX4_handOn 106 = .ok (.iload 5, 2) := by decide +kernel
theorem dX4_handOn_108 : decode cX4_handOn 108 = .ok (.invokevirtual 145, 3) := by decide +kernel
theorem dX4_handOn_111 : decode cX4_handOn 111 = .ok (.istore 9, 2) := by decide +kernel
theorem dX4_handOn_113 : decode cX4_handOn 113 = .ok (.iload 9, 2) := by decide +kernel
theorem dX4_handOn_115 : decode cX4_handOn 115 = .ok (.ifCond .ne 6, 3) := by decide +kernel
theorem dX4_handOn_118 : decode cX4_handOn 118 = .ok (.bipush (-5), 2) := by decide +kernel
theorem dX4_handOn_120 : decode cX4_handOn 120 = .ok (.ireturn, 1) := by decide +kernel
theorem dX4_handOn_121 : decode cX4_handOn 121 = .ok (.aload_n 0, 1) := by decide +kernel
theorem dX4_handOn_122 : decode cX4_handOn 122 = .ok (.iload_n 3, 1) := by decide +kernel
theorem dX4_handOn_123 : decode cX4_handOn 123 = .ok (.iload 9, 2) := by decide +kernel
theorem dX4_handOn_125 : decode cX4_handOn 125 = .ok (.invokevirtual 149, 3) := by decide +kernel
theorem dX4_handOn_128 : decode cX4_handOn 128 = .ok (.ifCond .eq 6, 3) := by decide +kernel
theorem dX4_handOn_131 : decode cX4_handOn 131 = .ok (.bipush (-6), 2) := by decide +kernel
theorem dX4_handOn_133 : decode cX4_handOn 133 = .ok (.ireturn, 1) := by decide +kernel
theorem dX4_handOn_134 : decode cX4_handOn 134 = .ok (.aload_n 0, 1) := by decide +kernel
theorem dX4_handOn_135 : decode cX4_handOn 135 = .ok (.iload_n 1, 1) := by decide +kernel
theorem dX4_handOn_136 : decode cX4_handOn 136 = .ok (.iload_n 2, 1) := by decide +kernel
theorem dX4_handOn_137 : decode cX4_handOn 137 = .ok (.iload_n 3, 1) := by decide +kernel
theorem dX4_handOn_138 : decode cX4_handOn 138 = .ok (.iload 4, 2) := by decide +kernel
theorem dX4_handOn_140 : decode cX4_handOn 140 = .ok (.iload 5, 2) := by decide +kernel
theorem dX4_handOn_142 : decode cX4_handOn 142 = .ok (.invokevirtual 152, 3) := by decide +kernel
theorem dX4_handOn_145 : decode cX4_handOn 145 = .ok (.ireturn, 1) := by decide +kernel
def Wo_handOn (M : Mem) (d : Sl) (a1 : Int32) (a2 : Int32) (a3 : Int32) (a4 : Int32) (a5 : Int32) : Option (Int32 × Sl) :=
  bnd (a2 &&& (3 : Int32)) fun v6_1 =>
  bp (Wo_areTwo M d a1 a3) fun r2 =>
  if r2 = 0 then
    (some ((-1 : Int32), d))
  else
    (bp (Wo_isRegionOf M d a1 a2) fun r3 =>
    if r3 = 0 then
      (some ((-1 : Int32), d))
    else
      (bp (Wo_isRegion M d a4 v6_1) fun r4 =>
      if r4 = 0 then
        (some ((-1 : Int32), d))
      else
        (bp (Fh_areRights a5) fun r5 =>
        if r5 = 0 then
          (some ((-1 : Int32), d))
        else
          (bnd (a2 >>> ((2 : Int32) &&& 31)) fun v7_6 =>
          bp (Wo_seenIn M d a1 v7_6 v6_1) fun r7 =>
          bnd r7 fun v8_8 =>
          if (v8_8 &&& (1 : Int32)) = 0 then
            (some ((-2 : Int32), d))
          else
            (if (v8_8 &&& (2 : Int32)) = 0 then
              (bp (De_pagesIn d a3 a4 ((1 : Int32) <<< (v6_1 &&& 31))) fun r9 =>
              if r9 ≤ 0 then
                (bp (Wo_pagesWith M d a1 v7_6 v6_1 a5) fun r10 =>
                bnd r10 fun v9_11 =>
                if v9_11 = 0 then
                  (some ((-5 : Int32), d))
                else
                  (bp (Wo_exceedsQuota M d a3 v9_11) fun r12 =>
                  if r12 = 0 then
                    (bd (Wo_makeHeirs M d a1 a2 a3 a4 a5) fun r13 d14 =>
                    some (r13, d14))
                  else
                    (some ((-6 : Int32), d))))
              else
                (some ((-4 : Int32), d)))
            else
              (some ((-3 : Int32), d)))))))
theorem y_X4_handOn : YV yX4_handOn cX4_handOn 10 (some .int) 5 := ⟨q629, q630, q631, q146, by decide +kernel, by decide +kernel, by decide +kernel, by decide +kernel⟩
theorem r_Wo_handOn {C : Cxt} {G : Geo} {M : Mem} {k : Nat} (hC : Cx C cX4_handOn 10 "FrameHeirs$World" (some .int) rm_X4_handOn G) (hk : LWd G k) (hk2 : 2 ≤ k) (hcl : GCl G) (d : Sl) (a1 : Int32) (a2 : Int32) (a3 : Int32) (a4 : Int32) (a5 : Int32) : Rz C 10 G (setS M k) (poM avI (setS M k)) 0 [(0, .inr (k, 10)), (1, .inl (.int a1)), (2, .inl (.int a2)), (3, .inl (.int a3)), (4, .inl (.int a4)), (5, .inl (.int a5))] [] d (Wo_handOn M d a1 a2 a3 a4 a5) := by
  unfold Wo_handOn
  refine z_iload_n (pc := 0) hC 2 rfl 2 rfl dX4_handOn_0 ?_
  refine z_iconst (pc := 1) hC (3 : Int32) rfl dX4_handOn_1 ?_
  refine z_iand (pc := 2) hC dX4_handOn_2 ?_
  refine z_istore (pc := 3) (ls1 := fun v => [(6, .inl (.int v)), (0, .inr (k, 10)), (1, .inl (.int a1)), (2, .inl (.int a2)), (3, .inl (.int a3)), (4, .inl (.int a4)), (5, .inl (.int a5))]) hC 6 (by decide) (fun v => rfl) dX4_handOn_3 (fun v6_1 => ?_)
  refine z_aload_n (pc := 5) hC 0 rfl 1 rfl dX4_handOn_5 ?_
  refine z_iload_n (pc := 6) hC 1 rfl 2 rfl dX4_handOn_6 ?_
  refine z_iload_n (pc := 7) hC 3 rfl 4 rfl dX4_handOn_7 ?_
  refine z_piV (pc := 8) (st := []) hC y_X4_areTwo q632 [.inl (.int a1), .inl (.int a3)] rfl (hk 10 rfl) rfl rfl (c_X4_areTwo hC.2.2.2.2.2.2.1 hk hk2 hcl) rfl ⟨rfl, rfl, (Nat.le_of_ble_eq_true rfl), (Nat.le_of_ble_eq_true rfl)⟩ (Nat.le_of_ble_eq_true rfl) dX4_handOn_8 (fun r2 => ?_)
  refine z_if_eq (pc := 11) hC 42 rfl dX4_handOn_11 ?_ ?_
  · refine z_iconst (pc := 42) hC (-1 : Int32) rfl dX4_handOn_42 ?_
    exact z_iret (pc := 43) hC rfl dX4_handOn_43
  · refine z_aload_n (pc := 14) hC 0 rfl 1 rfl dX4_handOn_14 ?_
    refine z_iload_n (pc := 15) hC 1 rfl 2 rfl dX4_handOn_15 ?_
    refine z_iload_n (pc := 16) hC 2 rfl 3 rfl dX4_handOn_16 ?_
    refine z_piV (pc := 17) (st := []) hC y_X4_isRegionOf q640 [.inl (.int a1), .inl (.int a2)] rfl (hk 10 rfl) rfl rfl (c_X4_isRegionOf hC.2.2.2.2.2.2.1 hk hk2 hcl) rfl ⟨rfl, rfl, (Nat.le_of_ble_eq_true rfl), (Nat.le_of_ble_eq_true rfl)⟩ (Nat.le_of_ble_eq_true rfl) dX4_handOn_17 (fun r3 => ?_)
    refine z_if_eq (pc := 20) hC 42 rfl dX4_handOn_20 ?_ ?_
    · refine z_iconst (pc := 42) hC (-1 : Int32) rfl dX4_handOn_42 ?_
      exact z_iret (pc := 43) hC rfl dX4_handOn_43
    · refine z_aload_n (pc := 23) hC 0 rfl 1 rfl dX4_handOn_23 ?_
      refine z_iload (pc := 24) hC 4 5 rfl dX4_handOn_24 ?_
      refine z_iload (pc := 26) hC 6 0 rfl dX4_handOn_26 ?_
      refine z_piV (pc := 28) (st := []) hC y_X4_isRegion q644 [.inl (.int a4), .inl (.int v6_1)] rfl (hk 10 rfl) rfl rfl (c_X4_isRegion hC.2.2.2.2.2.2.1 hk hk2 hcl) rfl ⟨rfl, rfl, (Nat.le_of_ble_eq_true rfl), (Nat.le_of_ble_eq_true rfl)⟩ (Nat.le_of_ble_eq_true rfl) dX4_handOn_28 (fun r4 => ?_)
      refine z_if_eq (pc := 31) hC 42 rfl dX4_handOn_31 ?_ ?_
      · refine z_iconst (pc := 42) hC (-1 : Int32) rfl dX4_handOn_42 ?_
        exact z_iret (pc := 43) hC rfl dX4_handOn_43
      · refine z_iload (pc := 34) hC 5 6 rfl dX4_handOn_34 ?_
        refine z_piN (pc := 36) (st := []) hC y_X5_areRights (fun U h => h.2) [.inl (.int a5)] rfl (c_X5_areRights hC.2.2.2.2.2.2.1) rfl ⟨rfl, rfl, (Nat.le_of_ble_eq_true rfl), (Nat.le_of_ble_eq_true rfl)⟩ (Nat.le_of_ble_eq_true rfl) dX4_handOn_36 (fun r5 => ?_)
        refine z_if_ne (pc := 39) hC 44 rfl dX4_handOn_39 ?_ ?_
        · refine z_iload_n (pc := 44) hC 2 rfl 3 rfl dX4_handOn_44 ?_
          refine z_iconst (pc := 45) hC (2 : Int32) rfl dX4_handOn_45 ?_
          refine z_ishr (pc := 46) hC dX4_handOn_46 ?_
          refine z_istore (pc := 47) (ls1 := fun v => [(7, .inl (.int v)), (6, .inl (.int v6_1)), (0, .inr (k, 10)), (1, .inl (.int a1)), (2, .inl (.int a2)), (3, .inl (.int a3)), (4, .inl (.int a4)), (5, .inl (.int a5))]) hC 7 (by decide) (fun v => rfl) dX4_handOn_47 (fun v7_6 => ?_)
          refine z_aload_n (pc := 49) hC 0 rfl 2 rfl dX4_handOn_49 ?_
          refine z_iload_n (pc := 50) hC 1 rfl 3 rfl dX4_handOn_50 ?_
          refine z_iload (pc := 51) hC 7 0 rfl dX4_handOn_51 ?_
          refine z_iload (pc := 53) hC 6 1 rfl dX4_handOn_53 ?_
          refine z_piV (pc := 55) (st := []) hC y_X4_seenIn q651 [.inl (.int a1), .inl (.int v7_6), .inl (.int v6_1)] rfl (hk 10 rfl) rfl rfl (c_X4_seenIn hC.2.2.2.2.2.2.1 hk hk2 hcl) rfl ⟨rfl, rfl, (Nat.le_of_ble_eq_true rfl), (Nat.le_of_ble_eq_true rfl)⟩ (Nat.le_of_ble_eq_true rfl) dX4_handOn_55 (fun r7 => ?_)
          refine z_istore (pc := 58) (ls1 := fun v => [(8, .inl (.int v)), (7, .inl (.int v7_6)), (6, .inl (.int v6_1)), (0, .inr (k, 10)), (1, .inl (.int a1)), (2, .inl (.int a2)), (3, .inl (.int a3)), (4, .inl (.int a4)), (5, .inl (.int a5))]) hC 8 (by decide) (fun v => rfl) dX4_handOn_58 (fun v8_8 => ?_)
          refine z_iload (pc := 60) hC 8 0 rfl dX4_handOn_60 ?_
          refine z_iconst (pc := 62) hC (1 : Int32) rfl dX4_handOn_62 ?_
          refine z_iand (pc := 63) hC dX4_handOn_63 ?_
          refine z_if_ne (pc := 64) hC 70 rfl dX4_handOn_64 ?_ ?_
          · refine z_iload (pc := 70) hC 8 0 rfl dX4_handOn_70 ?_
            refine z_iconst (pc := 72) hC (2 : Int32) rfl dX4_handOn_72 ?_
            refine z_iand (pc := 73) hC dX4_handOn_73 ?_
            refine z_if_eq (pc := 74) hC 80 rfl dX4_handOn_74 ?_ ?_
            · refine z_aload_n (pc := 80) hC 0 rfl 3 rfl dX4_handOn_80 ?_
              refine z_getc (pc := 81) hC (hk 10 rfl) f_10_1 q378 dX4_handOn_81 ?_
              refine z_iload_n (pc := 84) hC 3 rfl 6 rfl dX4_handOn_84 ?_
              refine z_iload (pc := 85) hC 4 7 rfl dX4_handOn_85 ?_
              refine z_iconst (pc := 87) hC (1 : Int32) rfl dX4_handOn_87 ?_
              refine z_iload (pc := 88) hC 6 2 rfl dX4_handOn_88 ?_
              refine z_ishl (pc := 90) hC dX4_handOn_90 ?_
              refine z_piV (pc := 91) (st := []) hC y_X0_pagesIn q672 [.inl (.int a3), .inl (.int a4), .inl (.int ((1 : Int32) <<< (v6_1 &&& 31)))] rfl (hk 17 rfl) rfl rfl (c_X0_pagesIn hC.2.2.2.2.2.2.1 hk hk2) rfl ⟨rfl, rfl, (Nat.le_of_ble_eq_true rfl), (Nat.le_of_ble_eq_true rfl)⟩ (Nat.le_of_ble_eq_true rfl) dX4_handOn_91 (fun r9 => ?_)
              refine z_if_le (pc := 94) hC 100 rfl dX4_handOn_94 ?_ ?_
              · refine z_aload_n (pc := 100) hC 0 rfl 3 rfl dX4_handOn_100 ?_
                refine z_iload_n (pc := 101) hC 1 rfl 4 rfl dX4_handOn_101 ?_
                refine z_iload (pc := 102) hC 7 1 rfl dX4_handOn_102 ?_
                refine z_iload (pc := 104) hC 6 2 rfl dX4_handOn_104 ?_
                refine z_iload (pc := 106) hC 5 8 rfl dX4_handOn_106 ?_
                refine z_piV (pc := 108) (st := []) hC y_X4_pagesWith q676 [.inl (.int a1), .inl (.int v7_6), .inl (.int v6_1), .inl (.int a5)] rfl (hk 10 rfl) rfl rfl (c_X4_pagesWith hC.2.2.2.2.2.2.1 hk hk2 hcl) rfl ⟨rfl, rfl, (Nat.le_of_ble_eq_true rfl), (Nat.le_of_ble_eq_true rfl)⟩ (Nat.le_of_ble_eq_true rfl) dX4_handOn_108 (fun r10 => ?_)
                refine z_istore (pc := 111) (ls1 := fun v => [(9, .inl (.int v)), (8, .inl (.int v8_8)), (7, .inl (.int v7_6)), (6, .inl (.int v6_1)), (0, .inr (k, 10)), (1, .inl (.int a1)), (2, .inl (.int a2)), (3, .inl (.int a3)), (4, .inl (.int a4)), (5, .inl (.int a5))]) hC 9 (by decide) (fun v => rfl) dX4_handOn_111 (fun v9_11 => ?_)
                refine z_iload (pc := 113) hC 9 0 rfl dX4_handOn_113 ?_
                refine z_if_ne (pc := 115) hC 121 rfl dX4_handOn_115 ?_ ?_
                · refine z_aload_n (pc := 121) hC 0 rfl 4 rfl dX4_handOn_121 ?_
                  refine z_iload_n (pc := 122) hC 3 rfl 7 rfl dX4_handOn_122 ?_
                  refine z_iload (pc := 123) hC 9 0 rfl dX4_handOn_123 ?_
                  refine z_piV (pc := 125) (st := []) hC y_X4_exceedsQuota q680 [.inl (.int a3), .inl (.int v9_11)] rfl (hk 10 rfl) rfl rfl (c_X4_exceedsQuota hC.2.2.2.2.2.2.1 hk hk2 hcl) rfl ⟨rfl, rfl, (Nat.le_of_ble_eq_true rfl), (Nat.le_of_ble_eq_true rfl)⟩ (Nat.le_of_ble_eq_true rfl) dX4_handOn_125 (fun r12 => ?_)
                  refine z_if_eq (pc := 128) hC 134 rfl dX4_handOn_128 ?_ ?_
                  · refine z_aload_n (pc := 134) hC 0 rfl 4 rfl dX4_handOn_134 ?_
                    refine z_iload_n (pc := 135) hC 1 rfl 5 rfl dX4_handOn_135 ?_
                    refine z_iload_n (pc := 136) hC 2 rfl 6 rfl dX4_handOn_136 ?_
                    refine z_iload_n (pc := 137) hC 3 rfl 7 rfl dX4_handOn_137 ?_
                    refine z_iload (pc := 138) hC 4 8 rfl dX4_handOn_138 ?_
                    refine z_iload (pc := 140) hC 5 9 rfl dX4_handOn_140 ?_
                    refine z_ciV (pc := 142) (st := []) hC y_X4_makeHeirs q689 [.inl (.int a1), .inl (.int a2), .inl (.int a3), .inl (.int a4), .inl (.int a5)] rfl (hk 10 rfl) rfl rfl (c_X4_makeHeirs hC.2.2.2.2.2.2.1 hk hk2 hcl) rfl ⟨rfl, rfl, (Nat.le_of_ble_eq_true rfl), (Nat.le_of_ble_eq_true rfl)⟩ (Nat.le_of_ble_eq_true rfl) dX4_handOn_142 (fun r13 d14 => ?_)
                    exact z_iret (pc := 145) hC rfl dX4_handOn_145
                  · refine z_bipush (pc := 131) hC (-6 : Int32) rfl dX4_handOn_131 ?_
                    exact z_iret (pc := 133) hC rfl dX4_handOn_133
                · refine z_bipush (pc := 118) hC (-5 : Int32) rfl dX4_handOn_118 ?_
                  exact z_iret (pc := 120) hC rfl dX4_handOn_120
              · refine z_bipush (pc := 97) hC (-4 : Int32) rfl dX4_handOn_97 ?_
                exact z_iret (pc := 99) hC rfl dX4_handOn_99
            · refine z_bipush (pc := 77) hC (-3 : Int32) rfl dX4_handOn_77 ?_
              exact z_iret (pc := 79) hC rfl dX4_handOn_79
          · refine z_bipush (pc := 67) hC (-2 : Int32) rfl dX4_handOn_67 ?_
            exact z_iret (pc := 69) hC rfl dX4_handOn_69
        · refine z_iconst (pc := 42) hC (-1 : Int32) rfl dX4_handOn_42 ?_
          exact z_iret (pc := 43) hC rfl dX4_handOn_43
theorem c_X4_handOn {G : Geo} {M : Mem} {k : Nat} (hG : GOk G) (hk : LWd G k) (hk2 : 2 ≤ k) (hcl : GCl G) {d : Sl} {a1 : Int32} {a2 : Int32} {a3 : Int32} {a4 : Int32} {a5 : Int32} (l : Launch) (r : Int32) (d1 : Sl) (h : Wo_handOn M d a1 a2 a3 a4 a5 = some (r, d1)) : Mt l yX4_handOn cX4_handOn 10 (some .int) rm_X4_handOn G [.inr (k, 10), .inl (.int a1), .inl (.int a2), .inl (.int a3), .inl (.int a4), .inl (.int a5)] ((setS M k) d) (avI r) ((setS M k) d1) :=
  mt_of (mem := (setS M k)) (po := poM avI (setS M k)) (x0 := d) (t := (r, d1)) rfl hG [.inr (k, 10), .inl (.int a1), .inl (.int a2), .inl (.int a3), .inl (.int a4), .inl (.int a5)] (Nat.le_of_ble_eq_true rfl) rfl (fun C hC => r_Wo_handOn hC hk hk2 hcl d a1 a2 a3 a4 a5) h
-- FrameHeirs$World.giveAway(IIII)I
abbrev rm_X4_giveAway : Room := { frames := 4, cells := 0, slots := 0, locals := 103 }
theorem dX4_giveAway_0 : decode cX4_giveAway 0 = .ok (.iload_n 2, 1) := by decide +kernel
theorem dX4_giveAway_1 : decode cX4_giveAway 1 = .ok (.iconst 3, 1) := by decide +kernel
theorem dX4_giveAway_2 : decode cX4_giveAway 2 = .ok (.iand, 1) := by decide +kernel
theorem dX4_giveAway_3 : decode cX4_giveAway 3 = .ok (.istore 5, 2) := by decide +kernel
theorem dX4_giveAway_5 : decode cX4_giveAway 5 = .ok (.aload_n 0, 1) := by decide +kernel
theorem dX4_giveAway_6 : decode cX4_giveAway 6 = .ok (.iload_n 1, 1) := by decide +kernel
theorem dX4_giveAway_7 : decode cX4_giveAway 7 = .ok (.iload_n 3, 1) := by decide +kernel
theorem dX4_giveAway_8 : decode cX4_giveAway 8 = .ok (.invokevirtual 129, 3) := by decide +kernel
theorem dX4_giveAway_11 : decode cX4_giveAway 11 = .ok (.ifCond .eq 23, 3) := by decide +kernel
theorem dX4_giveAway_14 : decode cX4_giveAway 14 = .ok (.aload_n 0, 1) := by decide +kernel
theorem dX4_giveAway_15 : decode cX4_giveAway 15 = .ok (.iload_n 1, 1) := by decide +kernel
theorem dX4_giveAway_16 : decode cX4_giveAway 16 = .ok (.iload_n 2, 1) := by decide +kernel
theorem dX4_giveAway_17 : decode cX4_giveAway 17 = .ok (.invokevirtual 132, 3) := by decide +kernel
theorem dX4_giveAway_20 : decode cX4_giveAway 20 = .ok (.ifCond .eq 14, 3) := by decide +kernel
theorem dX4_giveAway_23 : decode cX4_giveAway 23 = .ok (.aload_n 0, 1) := by decide +kernel
theorem dX4_giveAway_24 : decode cX4_giveAway 24 = .ok (.iload 4, 2) := by decide +kernel
theorem dX4_giveAway_26 : decode cX4_giveAway 26 = .ok (.iload 5, 2) := by decide +kernel
theorem dX4_giveAway_28 : decode cX4_giveAway 28 = .ok (.invokevirtual 102, 3) := by decide +kernel
theorem dX4_giveAway_31 : decode cX4_giveAway 31 = .ok (.ifCond .ne 5, 3) := by decide +kernel
theorem dX4_giveAway_34 : decode cX4_giveAway 34 = .ok (.iconst (-1), 1) := by decide +kernel
theorem dX4_giveAway_35 : decode cX4_giveAway 35 = .ok (.ireturn, 1) := by decide +kernel
theorem dX4_giveAway_36 : decode cX4_giveAway 36 = .ok (.iload_n 2, 1) := by decide +kernel
theorem dX4_giveAway_37 : decode cX4_giveAway 37 = .ok (.iconst 2, 1) := by decide +kernel
theorem dX4_giveAway_38 : decode cX4_giveAway 38 = .ok (.ishr, 1) := by decide +kernel
theorem dX4_giveAway_39 : decode cX4_giveAway 39 = .ok (.istore 6, 2) := by decide +kernel
theorem dX4_giveAway_41 : decode cX4_giveAway 41 = .ok (.iconst 1, 1) := by decide +kernel
theorem dX4_giveAway_42 : decode cX4_giveAway 42 = .ok (.iload 5, 2) := by decide +kernel
theorem dX4_giveAway_44 : decode cX4_giveAway 44 = .ok (.ishl, 1) := by decide +kernel
theorem dX4_giveAway_45 : decode cX4_giveAway 45 = .ok (.istore 7, 2) := by decide +kernel
theorem dX4_giveAway_47 : decode cX4_giveAway 47 = .ok (.aload_n 0, 1) := by decide +kernel
theorem dX4_giveAway_48 : decode cX4_giveAway 48 = .ok (.iload_n 1, 1) := by decide +kernel
theorem dX4_giveAway_49 : decode cX4_giveAway 49 = .ok (.iload 6, 2) := by decide +kernel
theorem dX4_giveAway_51 : decode cX4_giveAway 51 = .ok (.iload 5, 2) := by decide +kernel
theorem dX4_giveAway_53 : decode cX4_giveAway 53 = .ok (.invokevirtual 138, 3) := by decide +kernel
theorem dX4_giveAway_56 : decode cX4_giveAway 56 = .ok (.istore 8, 2) := by decide +kernel
theorem dX4_giveAway_58 : decode cX4_giveAway 58 = .ok (.iload 8, 2) := by decide +kernel
theorem dX4_giveAway_60 : decode cX4_giveAway 60 = .ok (.iconst 1, 1) := by decide +kernel
theorem dX4_giveAway_61 : decode cX4_giveAway 61 = .ok (.iand, 1) := by decide +kernel
theorem dX4_giveAway_62 : decode cX4_giveAway 62 = .ok (.ifCond .ne 6, 3) := by decide +kernel
theorem dX4_giveAway_65 : decode cX4_giveAway 65 = .ok (.bipush (-2), 2) := by decide +kernel
theorem dX4_giveAway_67 : decode cX4_giveAway 67 = .ok (.ireturn, 1) := by decide +kernel
theorem dX4_giveAway_68 : decode cX4_giveAway 68 = .ok (.iload 8, 2) := by decide +kernel
theorem dX4_giveAway_70 : decode cX4_giveAway 70 = .ok (.iconst 4, 1) := by decide +kernel
theorem dX4_giveAway_71 : decode cX4_giveAway 71 = .ok (.iand, 1) := by decide +kernel
theorem dX4_giveAway_72 : decode cX4_giveAway 72 = .ok (.ifCond .eq 6, 3) := by decide +kernel
theorem dX4_giveAway_75 : decode cX4_giveAway 75 = .ok (.bipush (-3), 2) := by decide +kernel
theorem dX4_giveAway_77 : decode cX4_giveAway 77 = .ok (.ireturn, 1) := by decide +kernel
theorem dX4_giveAway_78 : decode cX4_giveAway 78 = .ok (.aload_n 0, 1) := by decide +kernel
theorem dX4_giveAway_79 : decode cX4_giveAway 79 = .ok (.getfield 12, 3) := by decide +kernel
theorem dX4_giveAway_82 : decode cX4_giveAway 82 = .ok (.iload_n 3, 1) := by decide +kernel
theorem dX4_giveAway_83 : decode cX4_giveAway 83 = .ok (.iload 4, 2) := by decide +kernel
theorem dX4_giveAway_85 : decode cX4_giveAway 85 = .ok (.iload 7, 2) := by decide +kernel
theorem dX4_giveAway_87 : decode cX4_giveAway 87 = .ok (.invokevirtual 142, 3) := by decide +kernel
theorem dX4_giveAway_90 : decode cX4_giveAway 90 = .ok (.ifCond .le 6, 3) := by decide +kernel
theorem dX4_giveAway_93 : decode cX4_giveAway 93 = .ok (.bipush (-4), 2) := by decide +kernel
theorem dX4_giveAway_95 : decode cX4_giveAway 95 = .ok (.ireturn, 1) := by decide +kernel
theorem dX4_giveAway_96 : decode cX4_giveAway 96 = .ok (.aload_n 0, 1) := by decide +kernel
theorem dX4_giveAway_97 : decode cX4_giveAway 97 = .ok (.iload_n 3, 1) := by decide +kernel
theorem dX4_giveAway_98 : decode cX4_giveAway 98 = .ok (.aload_n 0, 1) := by decide +kernel
theorem dX4_giveAway_99 : decode cX4_giveAway 99 = .ok (.getfield 12, 3) := by decide +kernel
theorem dX4_giveAway_102 : decode cX4_giveAway 102 = .ok (.iload_n 1, 1) := by decide +kernel
theorem dX4_giveAway_103 : decode cX4_giveAway 103 = .ok (.iload 6, 2) := by decide +kernel
theorem dX4_giveAway_105 : decode cX4_giveAway 105 = .ok (.iload 7, 2) := by decide +kernel
theorem dX4_giveAway_107 : decode cX4_giveAway 107 = .ok (.invokevirtual 142, 3) := by decide +kernel
theorem dX4_giveAway_110 : decode cX4_giveAway 110 = .ok (.invokevirtual 149, 3) := by decide +kernel
theorem dX4_giveAway_113 : decode cX4_giveAway 113 = .ok (.ifCond .eq 6, 3) := by decide +kernel
theorem dX4_giveAway_116 : decode cX4_giveAway 116 = .ok (.bipush (-5), 2) := by decide +kernel
theorem dX4_giveAway_118 : decode cX4_giveAway 118 = .ok (.ireturn, 1) := by decide +kernel
theorem dX4_giveAway_119 : decode cX4_giveAway 119 = .ok (.aload_n 0, 1) := by decide +kernel
theorem dX4_giveAway_120 : decode cX4_giveAway 120 = .ok (.getfield 12, 3) := by decide +kernel
theorem dX4_giveAway_123 : decode cX4_giveAway 123 = .ok (.iload_n 1, 1) := by decide +kernel
theorem dX4_giveAway_124 : decode cX4_giveAway 124 = .ok (.iload 6, 2) := by decide +kernel
theorem dX4_giveAway_126 : decode cX4_giveAway 126 = .ok (.iload 5, 2) := by decide +kernel
theorem dX4_giveAway_128 : decode cX4_giveAway 128 = .ok (.invokevirtual 180, 3) := by decide +kernel
theorem dX4_giveAway_131 : decode cX4_giveAway 131 = .ok (.iconst 0, 1) := by decide +kernel
theorem dX4_giveAway_132 : decode cX4_giveAway 132 = .ok (.istore 9, 2) := by decide +kernel
theorem dX4_giveAway_134 : decode cX4_giveAway 134 = .ok (.iconst 0, 1) := by decide +kernel
theorem dX4_giveAway_135 : decode cX4_giveAway 135 = .ok (.istore 10, 2) := by decide +kernel
theorem dX4_giveAway_137 : decode cX4_giveAway 137 = .ok (.iload 10, 2) := by decide +kernel
theorem dX4_giveAway_139 : decode cX4_giveAway 139 = .ok (.iload 7, 2) := by decide +kernel
theorem dX4_giveAway_141 : decode cX4_giveAway 141 = .ok (.if_icmp .ge 67, 3) := by decide +kernel
theorem dX4_giveAway_144 : decode cX4_giveAway 144 = .ok (.aload_n 0, 1) := by decide +kernel
theorem dX4_giveAway_145 : decode cX4_giveAway 145 = .ok (.getfield 12, 3) := by decide +kernel
theorem dX4_giveAway_148 : decode cX4_giveAway 148 = .ok (.iload_n 1, 1) := by decide +kernel
theorem dX4_giveAway_149 : decode cX4_giveAway 149 = .ok (.iload 6, 2) := by decide +kernel
theorem dX4_giveAway_151 : decode cX4_giveAway 151 = .ok (.iload 10, 2) := by decide +kernel
theorem dX4_giveAway_153 : decode cX4_giveAway 153 = .ok (.iadd, 1) := by decide +kernel
theorem dX4_giveAway_154 : decode cX4_giveAway 154 = .ok (.invokevirtual 106, 3) := by decide +kernel
theorem dX4_giveAway_157 : decode cX4_giveAway 157 = .ok (.istore 11, 2) := by decide +kernel
theorem dX4_giveAway_159 : decode cX4_giveAway 159 = .ok (.iload 11, 2) := by decide +kernel
theorem dX4_giveAway_161 : decode cX4_giveAway 161 = .ok (.ifCond .lt 41, 3) := by decide +kernel
theorem dX4_giveAway_164 : decode cX4_giveAway 164 = .ok (.aload_n 0, 1) := by decide +kernel
theorem dX4_giveAway_165 : decode cX4_giveAway 165 = .ok (.getfield 12, 3) := by decide +kernel
theorem dX4_giveAway_168 : decode cX4_giveAway 168 = .ok (.iload 11, 2) := by decide +kernel
theorem dX4_giveAway_170 : decode cX4_giveAway 170 = .ok (.iload_n 3, 1) := by decide +kernel
theorem dX4_giveAway_171 : decode cX4_giveAway 171 = .ok (.iload 4, 2) := by decide +kernel
theorem dX4_giveAway_173 : decode cX4_giveAway 173 = .ok (.iload 10, 2) := by decide +kernel
theorem dX4_giveAway_175 : decode cX4_giveAway 175 = .ok (.iadd, 1) := by decide +kernel
theorem dX4_giveAway_176 : decode cX4_giveAway 176 = .ok (.invokevirtual 183, 3) := by decide +kernel
theorem dX4_giveAway_179 : decode cX4_giveAway 179 = .ok (.aload_n 0, 1) := by decide +kernel
theorem dX4_giveAway_180 : decode cX4_giveAway 180 = .ok (.iload_n 3, 1) := by decide +kernel
theorem dX4_giveAway_181 : decode cX4_giveAway 181 = .ok (.iload 4, 2) := by decide +kernel
theorem dX4_giveAway_183 : decode cX4_giveAway 183 = .ok (.iload 10, 2) := by decide +kernel
theorem dX4_giveAway_185 : decode cX4_giveAway 185 = .ok (.iadd, 1) := by decide +kernel
theorem dX4_giveAway_186 : decode cX4_giveAway 186 = .ok (.aload_n 0, 1) := by decide +kernel
theorem dX4_giveAway_187 : decode cX4_giveAway 187 = .ok (.getfield 12, 3) := by decide +kernel
theorem dX4_giveAway_190 : decode cX4_giveAway 190 = .ok (.getfield 158, 3) := by decide +kernel
theorem dX4_giveAway_193 : decode cX4_giveAway 193 = .ok (.iload 11, 2) := by decide +kernel
theorem dX4_giveAway_195 : decode cX4_giveAway 195 = .ok (.iaload, 1) := by decide +kernel
theorem dX4_giveAway_196 : decode cX4_giveAway 196 = .ok (.invokevirtual 84, 3) := by decide +kernel
theorem dX4_giveAway_199 : decode cX4_giveAway 199 = .ok (.iinc 9 1, 3) := by decide +kernel
theorem dX4_giveAway_202 : decode cX4_giveAway 202 = .ok (.iinc 10 1, 3) := by decide +kernel
theorem dX4_giveAway_205 : decode cX4_giveAway 205 = .ok (.goto (-68), 3) := by decide +kernel
theorem dX4_giveAway_208 : decode cX4_giveAway 208 = .ok (.iload 9, 2) := by decide +kernel
theorem dX4_giveAway_210 : decode cX4_giveAway 210 = .ok (.ireturn, 1) := by decide +kernel
def Wo_giveAway_202 (k137 : Int32 → Int32 → Int32 → Int32 → Int32 → Int32 → Int32 → Sl → Option (Int32 × Sl)) (M : Mem) (v1 : Int32) (v3 : Int32) (v4 : Int32) (v6 : Int32) (v7 : Int32) (v9 : Int32) (v10 : Int32) (d : Sl) : Option (Int32 × Sl) :=
  bnd (v10 + (1 : Int32)) fun v10_1 =>
  k137 v1 v3 v4 v6 v7 v9 v10_1 d
def Wo_giveAway_137 (M : Mem) : Nat → Int32 → Int32 → Int32 → Int32 → Int32 → Int32 → Int32 → Sl → Option (Int32 × Sl)
  | 0, _, _, _, _, _, _, _, _ => none
  | n + 1, v1, v3, v4, v6, v7, v9, v10, d =>
    if v7 ≤ v10 then
      (some (v9, d))
    else
      (bp (De_find d v1 (v6 + v10)) fun r2 =>
      bnd r2 fun v11_3 =>
      if v11_3 < 0 then
        (Wo_giveAway_202 (Wo_giveAway_137 M n) M v1 v3 v4 v6 v7 v9 v10 d)
      else
        (bd (De_moveTo d v11_3 v3 (v4 + v10)) fun r4 d5 =>
        if inb v11_3 192 then
        bd (Wo_widen M d5 v3 (v4 + v10) (d5 21 (ix v11_3))) fun r6 d7 =>
        bnd (v9 + (1 : Int32)) fun v9_8 =>
        Wo_giveAway_202 (Wo_giveAway_137 M n) M v1 v3 v4 v6 v7 v9_8 v10 d7
        else none))
def Wo_giveAway (M : Mem) (d : Sl) (a1 : Int32) (a2 : Int32) (a3 : Int32) (a4 : Int32) : Option (Int32 × Sl) :=
  bnd (a2 &&& (3 : Int32)) fun v5_9 =>
  bp (Wo_areTwo M d a1 a3) fun r10 =>
  if r10 = 0 then
    (some ((-1 : Int32), d))
  else
    (bp (Wo_isRegionOf M d a1 a2) fun r11 =>
    if r11 = 0 then
      (some ((-1 : Int32), d))
    else
      (bp (Wo_isRegion M d a4 v5_9) fun r12 =>
      if r12 = 0 then
        (some ((-1 : Int32), d))
      else
        (bnd (a2 >>> ((2 : Int32) &&& 31)) fun v6_13 =>
        bnd ((1 : Int32) <<< (v5_9 &&& 31)) fun v7_14 =>
        bp (Wo_seenIn M d a1 v6_13 v5_9) fun r15 =>
        bnd r15 fun v8_16 =>
        if (v8_16 &&& (1 : Int32)) = 0 then
          (some ((-2 : Int32), d))
        else
          (if (v8_16 &&& (4 : Int32)) = 0 then
            (bp (De_pagesIn d a3 a4 v7_14) fun r17 =>
            if r17 ≤ 0 then
              (bp (De_pagesIn d a1 v6_13 v7_14) fun r18 =>
              bp (Wo_exceedsQuota M d a3 r18) fun r19 =>
              if r19 = 0 then
                (bd (De_cut d a1 v6_13 v5_9) fun r20 d21 =>
                bnd (0 : Int32) fun v9_22 =>
                bnd (0 : Int32) fun v10_23 =>
                Wo_giveAway_137 M FU a1 a3 a4 v6_13 v7_14 v9_22 v10_23 d21)
              else
                (some ((-5 : Int32), d)))
            else
              (some ((-4 : Int32), d)))
          else
            (some ((-3 : Int32), d))))))
theorem y_X4_giveAway : YV yX4_giveAway cX4_giveAway 12 (some .int) 4 := ⟨q715, q716, q717, q146, by decide +kernel, by decide +kernel, by decide +kernel, by decide +kernel⟩
theorem r_Wo_giveAway_202 {C : Cxt} {G : Geo} {M : Mem} {k : Nat} (hC : Cx C cX4_giveAway 12 "FrameHeirs$World" (some .int) rm_X4_giveAway G) (hk : LWd G k) (hk2 : 2 ≤ k) (hcl : GCl G) (k137 : Int32 → Int32 → Int32 → Int32 → Int32 → Int32 → Int32 → Sl → Option (Int32 × Sl)) (h137 : ∀ (v1 : Int32) (v3 : Int32) (v4 : Int32) (v6 : Int32) (v7 : Int32) (v9 : Int32) (v10 : Int32) (d : Sl), Rz C 12 G (setS M k) (poM avI (setS M k)) 137 [(0, .inr (k, 10)), (1, .inl (.int v1)), (3, .inl (.int v3)), (4, .inl (.int v4)), (6, .inl (.int v6)), (7, .inl (.int v7)), (9, .inl (.int v9)), (10, .inl (.int v10))] [] d (k137 v1 v3 v4 v6 v7 v9 v10 d)) (v1 : Int32) (v3 : Int32) (v4 : Int32) (v6 : Int32) (v7 : Int32) (v9 : Int32) (v10 : Int32) (d : Sl) : Rz C 12 G (setS M k) (poM avI (setS M k)) 202 [(0, .inr (k, 10)), (1, .inl (.int v1)), (3, .inl (.int v3)), (4, .inl (.int v4)), (6, .inl (.int v6)), (7, .inl (.int v7)), (9, .inl (.int v9)), (10, .inl (.int v10))] [] d (Wo_giveAway_202 k137 M v1 v3 v4 v6 v7 v9 v10 d) := by
  unfold Wo_giveAway_202
  refine z_iinc (pc := 202) (ls1 := fun v => [(10, .inl (.int v)), (0, .inr (k, 10)), (1, .inl (.int v1)), (3, .inl (.int v3)), (4, .inl (.int v4)), (6, .inl (.int v6)), (7, .inl (.int v7)), (9, .inl (.int v9))]) hC 10 7 (by decide) (1 : Int32) rfl rfl (fun v => rfl) dX4_giveAway_202 (fun v10_1 => ?_)
  refine z_goto (pc := 205) hC 137 rfl dX4_giveAway_205 ?_
  exact z_sub [1, 2, 3, 4, 5, 6, 7, 0] rfl (h137 v1 v3 v4 v6 v7 v9 v10_1 d)
theorem r_Wo_giveAway_137 {C : Cxt} {G : Geo} {M : Mem} {k : Nat} (hC : Cx C cX4_giveAway 12 "FrameHeirs$World" (some .int) rm_X4_giveAway G) (hk : LWd G k) (hk2 : 2 ≤ k) (hcl : GCl G) : ∀ (n : Nat) (v1 : Int32) (v3 : Int32) (v4 : Int32) (v6 : Int32) (v7 : Int32) (v9 : Int32) (v10 : Int32) (d : Sl), Rz C 12 G (setS M k) (poM avI (setS M k)) 137 [(0, .inr (k, 10)), (1, .inl (.int v1)), (3, .inl (.int v3)), (4, .inl (.int v4)), (6, .inl (.int v6)), (7, .inl (.int v7)), (9, .inl (.int v9)), (10, .inl (.int v10))] [] d (Wo_giveAway_137 M n v1 v3 v4 v6 v7 v9 v10 d) := by
  intro n
  induction n with
  | zero => intros; exact z_none
  | succ n ih =>
    intro v1 v3 v4 v6 v7 v9 v10 d
    rw [Wo_giveAway_137]
    refine z_iload (pc := 137) hC 10 7 rfl dX4_giveAway_137 ?_
    refine z_iload (pc := 139) hC 7 5 rfl dX4_giveAway_139 ?_
    refine z_icmp_ge (pc := 141) hC 208 rfl dX4_giveAway_141 ?_ ?_
    · refine z_iload (pc := 208) hC 9 6 rfl dX4_giveAway_208 ?_
      exact z_iret (pc := 210) hC rfl dX4_giveAway_210
    · refine z_aload_n (pc := 144) hC 0 rfl 0 rfl dX4_giveAway_144 ?_
      refine z_getc (pc := 145) hC (hk 10 rfl) f_10_1 q378 dX4_giveAway_145 ?_
      refine z_iload_n (pc := 148) hC 1 rfl 1 rfl dX4_giveAway_148 ?_
      refine z_iload (pc := 149) hC 6 4 rfl dX4_giveAway_149 ?_
      refine z_iload (pc := 151) hC 10 7 rfl dX4_giveAway_151 ?_
      refine z_iadd (pc := 153) hC dX4_giveAway_153 ?_
      refine z_piV (pc := 154) (st := []) hC y_X0_find q655 [.inl (.int v1), .inl (.int (v6 + v10))] rfl (hk 17 rfl) rfl rfl (c_X0_find hC.2.2.2.2.2.2.1 hk hk2) rfl ⟨rfl, rfl, (Nat.le_of_ble_eq_true rfl), (Nat.le_of_ble_eq_true rfl)⟩ (Nat.le_of_ble_eq_true rfl) dX4_giveAway_154 (fun r2 => ?_)
      refine z_istore (pc := 157) (ls1 := fun v => [(11, .inl (.int v)), (0, .inr (k, 10)), (1, .inl (.int v1)), (3, .inl (.int v3)), (4, .inl (.int v4)), (6, .inl (.int v6)), (7, .inl (.int v7)), (9, .inl (.int v9)), (10, .inl (.int v10))]) hC 11 (by decide) (fun v => rfl) dX4_giveAway_157 (fun v11_3 => ?_)
      refine z_iload (pc := 159) hC 11 0 rfl dX4_giveAway_159 ?_
      refine z_if_lt (pc := 161) hC 202 rfl dX4_giveAway_161 ?_ ?_
      · exact z_sub [1, 2, 3, 4, 5, 6, 7, 8] rfl (r_Wo_giveAway_202 hC hk hk2 hcl _ ih v1 v3 v4 v6 v7 v9 v10 d)
      · refine z_aload_n (pc := 164) hC 0 rfl 1 rfl dX4_giveAway_164 ?_
        refine z_getc (pc := 165) hC (hk 10 rfl) f_10_1 q378 dX4_giveAway_165 ?_
        refine z_iload (pc := 168) hC 11 0 rfl dX4_giveAway_168 ?_
        refine z_iload_n (pc := 170) hC 3 rfl 3 rfl dX4_giveAway_170 ?_
        refine z_iload (pc := 171) hC 4 4 rfl dX4_giveAway_171 ?_
        refine z_iload (pc := 173) hC 10 8 rfl dX4_giveAway_173 ?_
        refine z_iadd (pc := 175) hC dX4_giveAway_175 ?_
        refine z_cvV (pc := 176) (st := []) hC y_X0_moveTo q741 [.inl (.int v11_3), .inl (.int v3), .inl (.int (v4 + v10))] rfl (hk 17 rfl) rfl rfl (c_X0_moveTo hC.2.2.2.2.2.2.1 hk hk2) rfl ⟨rfl, rfl, (Nat.le_of_ble_eq_true rfl), (Nat.le_of_ble_eq_true rfl)⟩ (Nat.le_of_ble_eq_true rfl) dX4_giveAway_176 (fun r4 d5 => ?_)
        refine z_aload_n (pc := 179) hC 0 rfl 1 rfl dX4_giveAway_179 ?_
        refine z_iload_n (pc := 180) hC 3 rfl 3 rfl dX4_giveAway_180 ?_
        refine z_iload (pc := 181) hC 4 4 rfl dX4_giveAway_181 ?_
        refine z_iload (pc := 183) hC 10 8 rfl dX4_giveAway_183 ?_
        refine z_iadd (pc := 185) hC dX4_giveAway_185 ?_
        refine z_aload_n (pc := 186) hC 0 rfl 1 rfl dX4_giveAway_186 ?_
        refine z_getc (pc := 187) hC (hk 10 rfl) f_10_1 q378 dX4_giveAway_187 ?_
        refine z_getc (pc := 190) hC (hk 17 rfl) f_17_3 q304 dX4_giveAway_190 ?_
        refine z_iload (pc := 193) hC 11 0 rfl dX4_giveAway_193 ?_
        refine zs_iald (pc := 195) hC (hk 21 rfl) rfl dX4_giveAway_195 ?_
        refine z_cvV (pc := 196) (st := []) hC y_X4_widen q595 [.inl (.int v3), .inl (.int (v4 + v10)), .inl (.int (d5 21 (ix v11_3)))] rfl (hk 10 rfl) rfl rfl (c_X4_widen hC.2.2.2.2.2.2.1 hk hk2 hcl) rfl ⟨rfl, rfl, (Nat.le_of_ble_eq_true rfl), (Nat.le_of_ble_eq_true rfl)⟩ (Nat.le_of_ble_eq_true rfl) dX4_giveAway_196 (fun r6 d7 => ?_)
        refine z_iinc (pc := 199) (ls1 := fun v => [(9, .inl (.int v)), (11, .inl (.int v11_3)), (0, .inr (k, 10)), (1, .inl (.int v1)), (3, .inl (.int v3)), (4, .inl (.int v4)), (6, .inl (.int v6)), (7, .inl (.int v7)), (10, .inl (.int v10))]) hC 9 7 (by decide) (1 : Int32) rfl rfl (fun v => rfl) dX4_giveAway_199 (fun v9_8 => ?_)
        exact z_sub [2, 3, 4, 5, 6, 7, 0, 8] rfl (r_Wo_giveAway_202 hC hk hk2 hcl _ ih v1 v3 v4 v6 v7 v9_8 v10 d7)
theorem r_Wo_giveAway {C : Cxt} {G : Geo} {M : Mem} {k : Nat} (hC : Cx C cX4_giveAway 12 "FrameHeirs$World" (some .int) rm_X4_giveAway G) (hk : LWd G k) (hk2 : 2 ≤ k) (hcl : GCl G) (d : Sl) (a1 : Int32) (a2 : Int32) (a3 : Int32) (a4 : Int32) : Rz C 12 G (setS M k) (poM avI (setS M k)) 0 [(0, .inr (k, 10)), (1, .inl (.int a1)), (2, .inl (.int a2)), (3, .inl (.int a3)), (4, .inl (.int a4))] [] d (Wo_giveAway M d a1 a2 a3 a4) := by
  unfold Wo_giveAway
  refine z_iload_n (pc := 0) hC 2 rfl 2 rfl dX4_giveAway_0 ?_
  refine z_iconst (pc := 1) hC (3 : Int32) rfl dX4_giveAway_1 ?_
  refine z_iand (pc := 2) hC dX4_giveAway_2 ?_
  refine z_istore (pc := 3) (ls1 := fun v => [(5, .inl (.int v)), (0, .inr (k, 10)), (1, .inl (.int a1)), (2, .inl (.int a2)), (3, .inl (.int a3)), (4, .inl (.int a4))]) hC 5 (by decide) (fun v => rfl) dX4_giveAway_3 (fun v5_9 => ?_)
  refine z_aload_n (pc := 5) hC 0 rfl 1 rfl dX4_giveAway_5 ?_
  refine z_iload_n (pc := 6) hC 1 rfl 2 rfl dX4_giveAway_6 ?_
  refine z_iload_n (pc := 7) hC 3 rfl 4 rfl dX4_giveAway_7 ?_
  refine z_piV (pc := 8) (st := []) hC y_X4_areTwo q632 [.inl (.int a1), .inl (.int a3)] rfl (hk 10 rfl) rfl rfl (c_X4_areTwo hC.2.2.2.2.2.2.1 hk hk2 hcl) rfl ⟨rfl, rfl, (Nat.le_of_ble_eq_true rfl), (Nat.le_of_ble_eq_true rfl)⟩ (Nat.le_of_ble_eq_true rfl) dX4_giveAway_8 (fun r10 => ?_)
  refine z_if_eq (pc := 11) hC 34 rfl dX4_giveAway_11 ?_ ?_
  · refine z_iconst (pc := 34) hC (-1 : Int32) rfl dX4_giveAway_34 ?_
    exact z_iret (pc := 35) hC rfl dX4_giveAway_35
  · refine z_aload_n (pc := 14) hC 0 rfl 1 rfl dX4_giveAway_14 ?_
    refine z_iload_n (pc := 15) hC 1 rfl 2 rfl dX4_giveAway_15 ?_
    refine z_iload_n (pc := 16) hC 2 rfl 3 rfl dX4_giveAway_16 ?_
    refine z_piV (pc := 17) (st := []) hC y_X4_isRegionOf q640 [.inl (.int a1), .inl (.int a2)] rfl (hk 10 rfl) rfl rfl (c_X4_isRegionOf hC.2.2.2.2.2.2.1 hk hk2 hcl) rfl ⟨rfl, rfl, (Nat.le_of_ble_eq_true rfl), (Nat.le_of_ble_eq_true rfl)⟩ (Nat.le_of_ble_eq_true rfl) dX4_giveAway_17 (fun r11 => ?_)
    refine z_if_eq (pc := 20) hC 34 rfl dX4_giveAway_20 ?_ ?_
    · refine z_iconst (pc := 34) hC (-1 : Int32) rfl dX4_giveAway_34 ?_
      exact z_iret (pc := 35) hC rfl dX4_giveAway_35
    · refine z_aload_n (pc := 23) hC 0 rfl 1 rfl dX4_giveAway_23 ?_
      refine z_iload (pc := 24) hC 4 5 rfl dX4_giveAway_24 ?_
      refine z_iload (pc := 26) hC 5 0 rfl dX4_giveAway_26 ?_
      refine z_piV (pc := 28) (st := []) hC y_X4_isRegion q644 [.inl (.int a4), .inl (.int v5_9)] rfl (hk 10 rfl) rfl rfl (c_X4_isRegion hC.2.2.2.2.2.2.1 hk hk2 hcl) rfl ⟨rfl, rfl, (Nat.le_of_ble_eq_true rfl), (Nat.le_of_ble_eq_true rfl)⟩ (Nat.le_of_ble_eq_true rfl) dX4_giveAway_28 (fun r12 => ?_)
      refine z_if_ne (pc := 31) hC 36 rfl dX4_giveAway_31 ?_ ?_
      · refine z_iload_n (pc := 36) hC 2 rfl 3 rfl dX4_giveAway_36 ?_
        refine z_iconst (pc := 37) hC (2 : Int32) rfl dX4_giveAway_37 ?_
        refine z_ishr (pc := 38) hC dX4_giveAway_38 ?_
        refine z_istore (pc := 39) (ls1 := fun v => [(6, .inl (.int v)), (5, .inl (.int v5_9)), (0, .inr (k, 10)), (1, .inl (.int a1)), (2, .inl (.int a2)), (3, .inl (.int a3)), (4, .inl (.int a4))]) hC 6 (by decide) (fun v => rfl) dX4_giveAway_39 (fun v6_13 => ?_)
        refine z_iconst (pc := 41) hC (1 : Int32) rfl dX4_giveAway_41 ?_
        refine z_iload (pc := 42) hC 5 1 rfl dX4_giveAway_42 ?_
        refine z_ishl (pc := 44) hC dX4_giveAway_44 ?_
        refine z_istore (pc := 45) (ls1 := fun v => [(7, .inl (.int v)), (6, .inl (.int v6_13)), (5, .inl (.int v5_9)), (0, .inr (k, 10)), (1, .inl (.int a1)), (2, .inl (.int a2)), (3, .inl (.int a3)), (4, .inl (.int a4))]) hC 7 (by decide) (fun v => rfl) dX4_giveAway_45 (fun v7_14 => ?_)
        refine z_aload_n (pc := 47) hC 0 rfl 3 rfl dX4_giveAway_47 ?_
        refine z_iload_n (pc := 48) hC 1 rfl 4 rfl dX4_giveAway_48 ?_
        refine z_iload (pc := 49) hC 6 1 rfl dX4_giveAway_49 ?_
        refine z_iload (pc := 51) hC 5 2 rfl dX4_giveAway_51 ?_
        refine z_piV (pc := 53) (st := []) hC y_X4_seenIn q651 [.inl (.int a1), .inl (.int v6_13), .inl (.int v5_9)] rfl (hk 10 rfl) rfl rfl (c_X4_seenIn hC.2.2.2.2.2.2.1 hk hk2 hcl) rfl ⟨rfl, rfl, (Nat.le_of_ble_eq_true rfl), (Nat.le_of_ble_eq_true rfl)⟩ (Nat.le_of_ble_eq_true rfl) dX4_giveAway_53 (fun r15 => ?_)
        refine z_istore (pc := 56) (ls1 := fun v => [(8, .inl (.int v)), (7, .inl (.int v7_14)), (6, .inl (.int v6_13)), (5, .inl (.int v5_9)), (0, .inr (k, 10)), (1, .inl (.int a1)), (2, .inl (.int a2)), (3, .inl (.int a3)), (4, .inl (.int a4))]) hC 8 (by decide) (fun v => rfl) dX4_giveAway_56 (fun v8_16 => ?_)
        refine z_iload (pc := 58) hC 8 0 rfl dX4_giveAway_58 ?_
        refine z_iconst (pc := 60) hC (1 : Int32) rfl dX4_giveAway_60 ?_
        refine z_iand (pc := 61) hC dX4_giveAway_61 ?_
        refine z_if_ne (pc := 62) hC 68 rfl dX4_giveAway_62 ?_ ?_
        · refine z_iload (pc := 68) hC 8 0 rfl dX4_giveAway_68 ?_
          refine z_iconst (pc := 70) hC (4 : Int32) rfl dX4_giveAway_70 ?_
          refine z_iand (pc := 71) hC dX4_giveAway_71 ?_
          refine z_if_eq (pc := 72) hC 78 rfl dX4_giveAway_72 ?_ ?_
          · refine z_aload_n (pc := 78) hC 0 rfl 4 rfl dX4_giveAway_78 ?_
            refine z_getc (pc := 79) hC (hk 10 rfl) f_10_1 q378 dX4_giveAway_79 ?_
            refine z_iload_n (pc := 82) hC 3 rfl 7 rfl dX4_giveAway_82 ?_
            refine z_iload (pc := 83) hC 4 8 rfl dX4_giveAway_83 ?_
            refine z_iload (pc := 85) hC 7 1 rfl dX4_giveAway_85 ?_
            refine z_piV (pc := 87) (st := []) hC y_X0_pagesIn q672 [.inl (.int a3), .inl (.int a4), .inl (.int v7_14)] rfl (hk 17 rfl) rfl rfl (c_X0_pagesIn hC.2.2.2.2.2.2.1 hk hk2) rfl ⟨rfl, rfl, (Nat.le_of_ble_eq_true rfl), (Nat.le_of_ble_eq_true rfl)⟩ (Nat.le_of_ble_eq_true rfl) dX4_giveAway_87 (fun r17 => ?_)
            refine z_if_le (pc := 90) hC 96 rfl dX4_giveAway_90 ?_ ?_
            · refine z_aload_n (pc := 96) hC 0 rfl 4 rfl dX4_giveAway_96 ?_
              refine z_iload_n (pc := 97) hC 3 rfl 7 rfl dX4_giveAway_97 ?_
              refine z_aload_n (pc := 98) hC 0 rfl 4 rfl dX4_giveAway_98 ?_
              refine z_getc (pc := 99) hC (hk 10 rfl) f_10_1 q378 dX4_giveAway_99 ?_
              refine z_iload_n (pc := 102) hC 1 rfl 5 rfl dX4_giveAway_102 ?_
              refine z_iload (pc := 103) hC 6 2 rfl dX4_giveAway_103 ?_
              refine z_iload (pc := 105) hC 7 1 rfl dX4_giveAway_105 ?_
              refine z_piV (pc := 107) (st := [.inl (.int a3), .inr (k, 10)]) hC y_X0_pagesIn q672 [.inl (.int a1), .inl (.int v6_13), .inl (.int v7_14)] rfl (hk 17 rfl) rfl rfl (c_X0_pagesIn hC.2.2.2.2.2.2.1 hk hk2) rfl ⟨rfl, rfl, (Nat.le_of_ble_eq_true rfl), (Nat.le_of_ble_eq_true rfl)⟩ (Nat.le_of_ble_eq_true rfl) dX4_giveAway_107 (fun r18 => ?_)
              refine z_piV (pc := 110) (st := []) hC y_X4_exceedsQuota q680 [.inl (.int a3), .inl (.int r18)] rfl (hk 10 rfl) rfl rfl (c_X4_exceedsQuota hC.2.2.2.2.2.2.1 hk hk2 hcl) rfl ⟨rfl, rfl, (Nat.le_of_ble_eq_true rfl), (Nat.le_of_ble_eq_true rfl)⟩ (Nat.le_of_ble_eq_true rfl) dX4_giveAway_110 (fun r19 => ?_)
              refine z_if_eq (pc := 113) hC 119 rfl dX4_giveAway_113 ?_ ?_
              · refine z_aload_n (pc := 119) hC 0 rfl 4 rfl dX4_giveAway_119 ?_
                refine z_getc (pc := 120) hC (hk 10 rfl) f_10_1 q378 dX4_giveAway_120 ?_
                refine z_iload_n (pc := 123) hC 1 rfl 5 rfl dX4_giveAway_123 ?_
                refine z_iload (pc := 124) hC 6 2 rfl dX4_giveAway_124 ?_
                refine z_iload (pc := 126) hC 5 3 rfl dX4_giveAway_126 ?_
                refine z_cvV (pc := 128) (st := []) hC y_X0_cut q718 [.inl (.int a1), .inl (.int v6_13), .inl (.int v5_9)] rfl (hk 17 rfl) rfl rfl (c_X0_cut hC.2.2.2.2.2.2.1 hk hk2) rfl ⟨rfl, rfl, (Nat.le_of_ble_eq_true rfl), (Nat.le_of_ble_eq_true rfl)⟩ (Nat.le_of_ble_eq_true rfl) dX4_giveAway_128 (fun r20 d21 => ?_)
                refine z_iconst (pc := 131) hC (0 : Int32) rfl dX4_giveAway_131 ?_
                refine z_istore (pc := 132) (ls1 := fun v => [(9, .inl (.int v)), (8, .inl (.int v8_16)), (7, .inl (.int v7_14)), (6, .inl (.int v6_13)), (5, .inl (.int v5_9)), (0, .inr (k, 10)), (1, .inl (.int a1)), (2, .inl (.int a2)), (3, .inl (.int a3)), (4, .inl (.int a4))]) hC 9 (by decide) (fun v => rfl) dX4_giveAway_132 (fun v9_22 => ?_)
                refine z_iconst (pc := 134) hC (0 : Int32) rfl dX4_giveAway_134 ?_
                refine z_istore (pc := 135) (ls1 := fun v => [(10, .inl (.int v)), (9, .inl (.int v9_22)), (8, .inl (.int v8_16)), (7, .inl (.int v7_14)), (6, .inl (.int v6_13)), (5, .inl (.int v5_9)), (0, .inr (k, 10)), (1, .inl (.int a1)), (2, .inl (.int a2)), (3, .inl (.int a3)), (4, .inl (.int a4))]) hC 10 (by decide) (fun v => rfl) dX4_giveAway_135 (fun v10_23 => ?_)
                exact z_sub [6, 7, 9, 10, 4, 3, 1, 0] rfl (r_Wo_giveAway_137 hC hk hk2 hcl FU a1 a3 a4 v6_13 v7_14 v9_22 v10_23 d21)
              · refine z_bipush (pc := 116) hC (-5 : Int32) rfl dX4_giveAway_116 ?_
                exact z_iret (pc := 118) hC rfl dX4_giveAway_118
            · refine z_bipush (pc := 93) hC (-4 : Int32) rfl dX4_giveAway_93 ?_
              exact z_iret (pc := 95) hC rfl dX4_giveAway_95
          · refine z_bipush (pc := 75) hC (-3 : Int32) rfl dX4_giveAway_75 ?_
            exact z_iret (pc := 77) hC rfl dX4_giveAway_77
        · refine z_bipush (pc := 65) hC (-2 : Int32) rfl dX4_giveAway_65 ?_
          exact z_iret (pc := 67) hC rfl dX4_giveAway_67
      · refine z_iconst (pc := 34) hC (-1 : Int32) rfl dX4_giveAway_34 ?_
        exact z_iret (pc := 35) hC rfl dX4_giveAway_35
theorem c_X4_giveAway {G : Geo} {M : Mem} {k : Nat} (hG : GOk G) (hk : LWd G k) (hk2 : 2 ≤ k) (hcl : GCl G) {d : Sl} {a1 : Int32} {a2 : Int32} {a3 : Int32} {a4 : Int32} (l : Launch) (r : Int32) (d1 : Sl) (h : Wo_giveAway M d a1 a2 a3 a4 = some (r, d1)) : Mt l yX4_giveAway cX4_giveAway 12 (some .int) rm_X4_giveAway G [.inr (k, 10), .inl (.int a1), .inl (.int a2), .inl (.int a3), .inl (.int a4)] ((setS M k) d) (avI r) ((setS M k) d1) :=
  mt_of (mem := (setS M k)) (po := poM avI (setS M k)) (x0 := d) (t := (r, d1)) rfl hG [.inr (k, 10), .inl (.int a1), .inl (.int a2), .inl (.int a3), .inl (.int a4)] (Nat.le_of_ble_eq_true rfl) rfl (fun C hC => r_Wo_giveAway hC hk hk2 hcl d a1 a2 a3 a4) h
-- FrameHeirs$World.queueJob(IIIZ)I
abbrev rm_X4_queueJob : Room := { frames := 3, cells := 0, slots := 0, locals := 71 }
theorem dX4_queueJob_0 : decode cX4_queueJob 0 = .ok (.aload_n 0, 1) := by decide +kernel
theorem dX4_queueJob_1 : decode cX4_queueJob 1 = .ok (.getfield 26, 3) := by decide +kernel
theorem dX4_queueJob_4 : decode cX4_queueJob 4 = .ok (.iconst 1, 1) := by decide +kernel
theorem dX4_queueJob_5 : decode cX4_queueJob 5 = .ok (.iadd, 1) := by decide +kernel
theorem dX4_queueJob_6 : decode cX4_queueJob 6 = .ok (.istore 5, 2) := by decide +kernel
theorem dX4_queueJob_8 : decode cX4_queueJob 8 = .ok (.iload_n 2, 1) := by decide +kernel
theorem dX4_queueJob_9 : decode cX4_queueJob 9 = .ok (.iconst 2, 1) := by decide +kernel
theorem dX4_queueJob_10 : decode cX4_queueJob 10 = .ok (.ishr, 1) := by decide +kernel
theorem dX4_queueJob_11 : decode cX4_queueJob 11 = .ok (.istore 6, 2) := by decide +kernel
theorem dX4_queueJob_13 : decode cX4_queueJob 13 = .ok (.iload 6, 2) := by decide +kernel
theorem dX4_queueJob_15 : decode cX4_queueJob 15 = .ok (.iconst 1, 1) := by decide +kernel
theorem dX4_queueJob_16 : decode cX4_queueJob 16 = .ok (.iload_n 2, 1) := by decide +kernel
theorem dX4_queueJob_17 : decode cX4_queueJob 17 = .ok (.iconst 3, 1) := by decide +kernel
theorem dX4_queueJob_18 : decode cX4_queueJob 18 = .ok (.iand, 1) := by decide +kernel
theorem dX4_queueJob_19 : decode cX4_queueJob 19 = .ok (.ishl, 1) := by decide +kernel
theorem dX4_queueJob_20 : decode cX4_queueJob 20 = .ok (.iadd, 1) := by decide +kernel
theorem dX4_queueJob_21 : decode cX4_queueJob 21 = .ok (.istore 7, 2) := by decide +kernel
theorem dX4_queueJob_23 : decode cX4_queueJob 23 = .ok (.iconst 0, 1) := by decide +kernel
theorem dX4_queueJob_24 : decode cX4_queueJob 24 = .ok (.istore 8, 2) := by decide +kernel
theorem dX4_queueJob_26 : decode cX4_queueJob 26 = .ok (.iload 6, 2) := by decide +kernel
theorem dX4_queueJob_28 : decode cX4_queueJob 28 = .ok (.istore 9, 2) := by decide +kernel
theorem dX4_queueJob_30 : decode cX4_queueJob 30 = .ok (.iload 9, 2) := by decide +kernel
theorem dX4_queueJob_32 : decode cX4_queueJob 32 = .ok (.iload 7, 2) := by decide +kernel
theorem dX4_queueJob_34 : decode cX4_queueJob 34 = .ok (.if_icmp .ge 69, 3) := by decide +kernel
theorem dX4_queueJob_37 : decode cX4_queueJob 37 = .ok (.aload_n 0, 1) := by decide +kernel
theorem dX4_queueJob_38 : decode cX4_queueJob 38 = .ok (.getfield 12, 3) := by decide +kernel
theorem dX4_queueJob_41 : decode cX4_queueJob 41 = .ok (.iload_n 1, 1) := by decide +kernel
theorem dX4_queueJob_42 : decode cX4_queueJob 42 = .ok (.iload 9, 2) := by decide +kernel
theorem dX4_queueJob_44 : decode cX4_queueJob 44 = .ok (.invokevirtual 106, 3) := by decide +kernel
theorem dX4_queueJob_47 : decode cX4_queueJob 47 = .ok (.istore 10, 2) := by decide +kernel
theorem dX4_queueJob_49 : decode cX4_queueJob 49 = .ok (.iload 10, 2) := by decide +kernel
theorem dX4_queueJob_51 : decode cX4_queueJob 51 = .ok (.ifCond .lt 46, 3) := by decide +kernel
theorem dX4_queueJob_54 : decode cX4_queueJob 54 = .ok (.aload_n 0, 1) := by decide +kernel
theorem dX4_queueJob_55 : decode cX4_queueJob 55 = .ok (.getfield 12, 3) := by decide +kernel
theorem dX4_queueJob_58 : decode cX4_queueJob 58 = .ok (.getfield 110, 3) := by decide +kernel
theorem dX4_queueJob_61 : decode cX4_queueJob 61 = .ok (.iload 10, 2) := by decide +kernel
theorem dX4_queueJob_63 : decode cX4_queueJob 63 = .ok (.iaload, 1) := by decide +kernel
theorem dX4_queueJob_64 : decode cX4_queueJob 64 = .ok (.iload 9, 2) := by decide +kernel
theorem dX4_queueJob_66 : decode cX4_queueJob 66 = .ok (.if_icmp .ne 31, 3) := by decide +kernel
theorem dX4_queueJob_69 : decode cX4_queueJob 69 = .ok (.aload_n 0, 1) := by decide +kernel
theorem dX4_queueJob_70 : decode cX4_queueJob 70 = .ok (.getfield 12, 3) := by decide +kernel
theorem dX4_queueJob_73 : decode cX4_queueJob 73 = .ok (.iload 10, 2) := by decide +kernel
theorem dX4_queueJob_75 : decode cX4_queueJob 75 = .ok (.iload 5, 2) := by decide +kernel
theorem dX4_queueJob_77 : decode cX4_queueJob 77 = .ok (.invokevirtual 190, 3) := by decide +kernel
theorem dX4_queueJob_80 : decode cX4_queueJob 80 = .ok (.aload_n 0, 1) := by decide +kernel
theorem dX4_queueJob_81 : decode cX4_queueJob 81 = .ok (.getfield 12, 3) := by decide +kernel
theorem dX4_queueJob_84 : decode cX4_queueJob 84 = .ok (.iload 10, 2) := by decide +kernel
theorem dX4_queueJob_86 : decode cX4_queueJob 86 = .ok (.iload 4, 2) := by decide +kernel
theorem dX4_queueJob_88 : decode cX4_queueJob 88 = .ok (.iload 5, 2) := by decide +kernel
theorem dX4_queueJob_90 : decode cX4_queueJob 90 = .ok (.iload 8, 2) := by decide +kernel
theorem dX4_queueJob_92 : decode cX4_queueJob 92 = .ok (.invokevirtual 193, 3) := by decide +kernel
theorem dX4_queueJob_95 : decode cX4_queueJob 95 = .ok (.istore 8, 2) := by decide +kernel
theorem dX4_queueJob_97 : decode cX4_queueJob 97 = .ok (.iinc 9 1, 3) := by decide +kernel
theorem dX4_queueJob_100 : decode cX4_queueJob 100 = .ok (.goto (-70), 3) := by decide +kernel
theorem dX4_queueJob_103 : decode cX4_queueJob 103 = .ok (.iload 8, 2) := by decide +kernel
theorem dX4_queueJob_105 : decode cX4_queueJob 105 = .ok (.ifCond .eq 12, 3) := by decide +kernel
theorem dX4_queueJob_108 : decode cX4_queueJob 108 = .ok (.aload_n 0, 1) := by decide +kernel
theorem dX4_queueJob_109 : decode cX4_queueJob 109 = .ok (.getfield 22, 3) := by decide +kernel
theorem dX4_queueJob_112 : decode cX4_queueJob 112 = .ok (.bipush 6, 2) := by decide +kernel
theorem dX4_queueJob_114 : decode cX4_queueJob 114 = .ok (.if_icmp .lt 14, 3) := by decide +kernel
theorem dX4_queueJob_117 : decode cX4_queueJob 117 = .ok (.aload_n 0, 1) := by decide +kernel
theorem dX4_queueJob_118 : decode cX4_queueJob 118 = .ok (.getfield 12, 3) := by decide +kernel
theorem dX4_queueJob_121 : decode cX4_queueJob 121 = .ok (.iload 5, 2) := by decide +kernel
theorem dX4_queueJob_123 : decode cX4_queueJob 123 = .ok (.invokevirtual 197, 3) := by decide +kernel
theorem dX4_queueJob_126 : decode cX4_queueJob 126 = .ok (.iconst 0, 1) := by decide +kernel
theorem dX4_queueJob_127 : decode cX4_queueJob 127 = .ok (.ireturn, 1) := by decide +kernel
theorem dX4_queueJob_128 : decode cX4_queueJob 128 = .ok (.aload_n 0, 1) := by decide +kernel
theorem dX4_queueJob_129 : decode cX4_queueJob 129 = .ok (.getfield 22, 3) := by decide +kernel
theorem dX4_queueJob_132 : decode cX4_queueJob 132 = .ok (.iconst 4, 1) := by decide +kernel
theorem dX4_queueJob_133 : decode cX4_queueJob 133 = .ok (.imul, 1) := by decide +kernel
theorem dX4_queueJob_134 : decode cX4_queueJob 134 = .ok (.istore 9, 2) := by decide +kernel
theorem dX4_queueJob_136 : decode cX4_queueJob 136 = .ok (.aload_n 0, 1) := by decide +kernel
theorem dX4_queueJob_137 : decode cX4_queueJob 137 = .ok (.getfield 18, 3) := by decide +kernel
theorem dX4_queueJob_140 : decode cX4_queueJob 140 = .ok (.iload 9, 2) := by decide +kernel
theorem dX4_queueJob_142 : decode cX4_queueJob 142 = .ok (.iload 5, 2) := by decide +kernel
theorem dX4_queueJob_144 : decode cX4_queueJob 144 = .ok (.iastore, 1) := by decide +kernel
theorem dX4_queueJob_145 : decode cX4_queueJob 145 = .ok (.aload_n 0, 1) := by decide +kernel
theorem dX4_queueJob_146 : decode cX4_queueJob 146 = .ok (.getfield 18, 3) := by decide +kernel
theorem dX4_queueJob_149 : decode cX4_queueJob 149 = .ok (.iload 9, 2) := by decide +kernel
theorem dX4_queueJob_151 : decode cX4_queueJob 151 = .ok (.iconst 1, 1) := by decide +kernel
theorem dX4_queueJob_152 : decode cX4_queueJob 152 = .ok (.iadd, 1) := by decide +kernel
theorem dX4_queueJob_153 : decode cX4_queueJob 153 = .ok (.iload_n 1, 1) := by decide +kernel
theorem dX4_queueJob_154 : decode cX4_queueJob 154 = .ok (.iastore, 1) := by decide +kernel
theorem dX4_queueJob_155 : decode cX4_queueJob 155 = .ok (.aload_n 0, 1) := by decide +kernel
theorem dX4_queueJob_156 : decode cX4_queueJob 156 = .ok (.getfield 18, 3) := by decide +kernel
theorem dX4_queueJob_159 : decode cX4_queueJob 159 = .ok (.iload 9, 2) := by decide +kernel
theorem dX4_queueJob_161 : decode cX4_queueJob 161 = .ok (.iconst 2, 1) := by decide +kernel
theorem dX4_queueJob_162 : decode cX4_queueJob 162 = .ok (.iadd, 1) := by decide +kernel
theorem dX4_queueJob_163 : decode cX4_queueJob 163 = .ok (.iload 6, 2) := by decide +kernel
theorem dX4_queueJob_165 : decode cX4_queueJob 165 = .ok (.iastore, 1) := by decide +kernel
theorem dX4_queueJob_166 : decode cX4_queueJob 166 = .ok (.aload_n 0, 1) := by decide +kernel
theorem dX4_queueJob_167 : decode cX4_queueJob 167 = .ok (.getfield 18, 3) := by decide +kernel
theorem dX4_queueJob_170 : decode cX4_queueJob 170 = .ok (.iload 9, 2) := by decide +kernel
theorem dX4_queueJob_172 : decode cX4_queueJob 172 = .ok (.iconst 3, 1) := by decide +kernel
theorem dX4_queueJob_173 : decode cX4_queueJob 173 = .ok (.iadd, 1) := by decide +kernel
theorem dX4_queueJob_174 : decode cX4_queueJob 174 = .ok (.iload_n 3, 1) := by decide +kernel
theorem dX4_queueJob_175 : decode cX4_queueJob 175 = .ok (.iastore, 1) := by decide +kernel
theorem dX4_queueJob_176 : decode cX4_queueJob 176 = .ok (.aload_n 0, 1) := by decide +kernel
theorem dX4_queueJob_177 : decode cX4_queueJob 177 = .ok (.dup, 1) := by decide +kernel
theorem dX4_queueJob_178 : decode cX4_queueJob 178 = .ok (.getfield 22, 3) := by decide +kernel
theorem dX4_queueJob_181 : decode cX4_queueJob 181 = .ok (.iconst 1, 1) := by decide +kernel
theorem dX4_queueJob_182 : decode cX4_queueJob 182 = .ok (.iadd, 1) := by decide +kernel
theorem dX4_queueJob_183 : decode cX4_queueJob 183 = .ok (.putfield 22, 3) := by decide +kernel
theorem dX4_queueJob_186 : decode cX4_queueJob 186 = .ok (.aload_n 0, 1) := by decide +kernel
theorem dX4_queueJob_187 : decode cX4_queueJob 187 = .ok (.dup, 1) := by decide +kernel
theorem dX4_queueJob_188 : decode cX4_queueJob 188 = .ok (.getfield 26, 3) := by decide +kernel
theorem dX4_queueJob_191 : decode cX4_queueJob 191 = .ok (.iconst 1, 1) := by decide +kernel
theorem dX4_queueJob_192 : decode cX4_queueJob 192 = .ok (.iadd, 1) := by decide +kernel
theorem dX4_queueJob_193 : decode cX4_queueJob 193 = .ok (.putfield 26, 3) := by decide +kernel
theorem dX4_queueJob_196 : decode cX4_queueJob 196 = .ok (.iload 8, 2) := by decide +kernel
theorem dX4_queueJob_198 : decode cX4_queueJob 198 = .ok (.ireturn, 1) := by decide +kernel
def Wo_queueJob_117 (M : Mem) (v5 : Int32) (d : Sl) : Option (Int32 × Sl) :=
  bd (De_endJob d v5) fun r1 d2 =>
  some ((0 : Int32), d2)
def Wo_queueJob_97 (k30 : Int32 → Int32 → Int32 → Int32 → Int32 → Int32 → Int32 → Int32 → Sl → Option (Int32 × Sl)) (M : Mem) (v1 : Int32) (v3 : Int32) (v4 : Int32) (v5 : Int32) (v6 : Int32) (v7 : Int32) (v8 : Int32) (v9 : Int32) (d : Sl) : Option (Int32 × Sl) :=
  bnd (v9 + (1 : Int32)) fun v9_3 =>
  k30 v1 v3 v4 v5 v6 v7 v8 v9_3 d
def Wo_queueJob_30 (M : Mem) : Nat → Int32 → Int32 → Int32 → Int32 → Int32 → Int32 → Int32 → Int32 → Sl → Option (Int32 × Sl)
  | 0, _, _, _, _, _, _, _, _, _ => none
  | n + 1, v1, v3, v4, v5, v6, v7, v8, v9, d =>
    if v7 ≤ v9 then
      (if v8 = 0 then
        (Wo_queueJob_117 M v5 d)
      else
        (if (d 10 3) < (6 : Int32) then
          (bnd ((d 10 3) * (4 : Int32)) fun v9_4 =>
          if inb v9_4 24 then
          bnd (wr d 11 (ix v9_4) v5) fun d5 =>
          if inb (v9_4 + (1 : Int32)) 24 then
          bnd (wr d5 11 (ix (v9_4 + (1 : Int32))) v1) fun d6 =>
          if inb (v9_4 + (2 : Int32)) 24 then
          bnd (wr d6 11 (ix (v9_4 + (2 : Int32))) v6) fun d7 =>
          if inb (v9_4 + (3 : Int32)) 24 then
          bnd (wr d7 11 (ix (v9_4 + (3 : Int32))) v3) fun d8 =>
          bnd (wr d8 10 3 ((d8 10 3) + (1 : Int32))) fun d9 =>
          bnd (wr d9 10 4 ((d9 10 4) + (1 : Int32))) fun d10 =>
          some (v8, d10)
          else none
          else none
          else none
          else none)
        else
          (Wo_queueJob_117 M v5 d)))
    else
      (bp (De_find d v1 v9) fun r11 =>
      bnd r11 fun v10_12 =>
      if v10_12 < 0 then
        (Wo_queueJob_97 (Wo_queueJob_30 M n) M v1 v3 v4 v5 v6 v7 v8 v9 d)
      else
        (if inb v10_12 192 then
        if (d 19 (ix v10_12)) = v9 then
          (bd (De_markTop d v10_12 v5) fun r13 d14 =>
          bd (De_queueBeneath d14 v10_12 v4 v5 v8) fun r15 d16 =>
          bnd r15 fun v8_17 =>
          Wo_queueJob_97 (Wo_queueJob_30 M n) M v1 v3 v4 v5 v6 v7 v8_17 v9 d16)
        else
          (Wo_queueJob_97 (Wo_queueJob_30 M n) M v1 v3 v4 v5 v6 v7 v8 v9 d)
        else none))
def Wo_queueJob (M : Mem) (d : Sl) (a1 : Int32) (a2 : Int32) (a3 : Int32) (a4 : Int32) : Option (Int32 × Sl) :=
  bnd ((d 10 4) + (1 : Int32)) fun v5_18 =>
  bnd (a2 >>> ((2 : Int32) &&& 31)) fun v6_19 =>
  bnd (v6_19 + ((1 : Int32) <<< ((a2 &&& (3 : Int32)) &&& 31))) fun v7_20 =>
  bnd (0 : Int32) fun v8_21 =>
  bnd v6_19 fun v9_22 =>
  Wo_queueJob_30 M FU a1 a3 a4 v5_18 v6_19 v7_20 v8_21 v9_22 d
theorem y_X4_queueJob : YV yX4_queueJob cX4_queueJob 11 (some .int) 4 := ⟨q755, q26, q756, q146, by decide +kernel, by decide +kernel, by decide +kernel, by decide +kernel⟩
theorem r_Wo_queueJob_117 {C : Cxt} {G : Geo} {M : Mem} {k : Nat} (hC : Cx C cX4_queueJob 11 "FrameHeirs$World" (some .int) rm_X4_queueJob G) (hk : LWd G k) (hk2 : 2 ≤ k) (hcl : GCl G) (v5 : Int32) (d : Sl) : Rz C 11 G (setS M k) (poM avI (setS M k)) 117 [(0, .inr (k, 10)), (5, .inl (.int v5))] [] d (Wo_queueJob_117 M v5 d) := by
  unfold Wo_queueJob_117
  refine z_aload_n (pc := 117) hC 0 rfl 0 rfl dX4_queueJob_117 ?_
  refine z_getc (pc := 118) hC (hk 10 rfl) f_10_1 q378 dX4_queueJob_118 ?_
  refine z_iload (pc := 121) hC 5 1 rfl dX4_queueJob_121 ?_
  refine z_cvV (pc := 123) (st := []) hC y_X0_endJob q773 [.inl (.int v5)] rfl (hk 17 rfl) rfl rfl (c_X0_endJob hC.2.2.2.2.2.2.1 hk hk2) rfl ⟨rfl, rfl, (Nat.le_of_ble_eq_true rfl), (Nat.le_of_ble_eq_true rfl)⟩ (Nat.le_of_ble_eq_true rfl) dX4_queueJob_123 (fun r1 d2 => ?_)
  refine z_iconst (pc := 126) hC (0 : Int32) rfl dX4_queueJob_126 ?_
  exact z_iret (pc := 127) hC rfl dX4_queueJob_127
theorem r_Wo_queueJob_97 {C : Cxt} {G : Geo} {M : Mem} {k : Nat} (hC : Cx C cX4_queueJob 11 "FrameHeirs$World" (some .int) rm_X4_queueJob G) (hk : LWd G k) (hk2 : 2 ≤ k) (hcl : GCl G) (k30 : Int32 → Int32 → Int32 → Int32 → Int32 → Int32 → Int32 → Int32 → Sl → Option (Int32 × Sl)) (h30 : ∀ (v1 : Int32) (v3 : Int32) (v4 : Int32) (v5 : Int32) (v6 : Int32) (v7 : Int32) (v8 : Int32) (v9 : Int32) (d : Sl), Rz C 11 G (setS M k) (poM avI (setS M k)) 30 [(0, .inr (k, 10)), (1, .inl (.int v1)), (3, .inl (.int v3)), (4, .inl (.int v4)), (5, .inl (.int v5)), (6, .inl (.int v6)), (7, .inl (.int v7)), (8, .inl (.int v8)), (9, .inl (.int v9))] [] d (k30 v1 v3 v4 v5 v6 v7 v8 v9 d)) (v1 : Int32) (v3 : Int32) (v4 : Int32) (v5 : Int32) (v6 : Int32) (v7 : Int32) (v8 : Int32) (v9 : Int32) (d : Sl) : Rz C 11 G (setS M k) (poM avI (setS M k)) 97 [(0, .inr (k, 10)), (1, .inl (.int v1)), (3, .inl (.int v3)), (4, .inl (.int v4)), (5, .inl (.int v5)), (6, .inl (.int v6)), (7, .inl (.int v7)), (8, .inl (.int v8)), (9, .inl (.int v9))] [] d (Wo_queueJob_97 k30 M v1 v3 v4 v5 v6 v7 v8 v9 d) := by
  unfold Wo_queueJob_97
  refine z_iinc (pc := 97) (ls1 := fun v => [(9, .inl (.int v)), (0, .inr (k, 10)), (1, .inl (.int v1)), (3, .inl (.int v3)), (4, .inl (.int v4)), (5, .inl (.int v5)), (6, .inl (.int v6)), (7, .inl (.int v7)), (8, .inl (.int v8))]) hC 9 8 (by decide) (1 : Int32) rfl rfl (fun v => rfl) dX4_queueJob_97 (fun v9_3 => ?_)
  refine z_goto (pc := 100) hC 30 rfl dX4_queueJob_100 ?_
  exact z_sub [1, 2, 3, 4, 5, 6, 7, 8, 0] rfl (h30 v1 v3 v4 v5 v6 v7 v8 v9_3 d)
theorem r_Wo_queueJob_30 {C : Cxt} {G : Geo} {M : Mem} {k : Nat} (hC : Cx C cX4_queueJob 11 "FrameHeirs$World" (some .int) rm_X4_queueJob G) (hk : LWd G k) (hk2 : 2 ≤ k) (hcl : GCl G) : ∀ (n : Nat) (v1 : Int32) (v3 : Int32) (v4 : Int32) (v5 : Int32) (v6 : Int32) (v7 : Int32) (v8 : Int32) (v9 : Int32) (d : Sl), Rz C 11 G (setS M k) (poM avI (setS M k)) 30 [(0, .inr (k, 10)), (1, .inl (.int v1)), (3, .inl (.int v3)), (4, .inl (.int v4)), (5, .inl (.int v5)), (6, .inl (.int v6)), (7, .inl (.int v7)), (8, .inl (.int v8)), (9, .inl (.int v9))] [] d (Wo_queueJob_30 M n v1 v3 v4 v5 v6 v7 v8 v9 d) := by
  intro n
  induction n with
  | zero => intros; exact z_none
  | succ n ih =>
    intro v1 v3 v4 v5 v6 v7 v8 v9 d
    rw [Wo_queueJob_30]
    refine z_iload (pc := 30) hC 9 8 rfl dX4_queueJob_30 ?_
    refine z_iload (pc := 32) hC 7 6 rfl dX4_queueJob_32 ?_
    refine z_icmp_ge (pc := 34) hC 103 rfl dX4_queueJob_34 ?_ ?_
    · refine z_iload (pc := 103) hC 8 7 rfl dX4_queueJob_103 ?_
      refine z_if_eq (pc := 105) hC 117 rfl dX4_queueJob_105 ?_ ?_
      · exact z_sub [0, 4] rfl (r_Wo_queueJob_117 hC hk hk2 hcl v5 d)
      · refine z_aload_n (pc := 108) hC 0 rfl 0 rfl dX4_queueJob_108 ?_
        refine zs_geti (pc := 109) hC (hk 10 rfl) f_10_3 q381 dX4_queueJob_109 ?_
        refine z_bipush (pc := 112) hC (6 : Int32) rfl dX4_queueJob_112 ?_
        refine z_icmp_lt (pc := 114) hC 128 rfl dX4_queueJob_114 ?_ ?_
        · refine z_aload_n (pc := 128) hC 0 rfl 0 rfl dX4_queueJob_128 ?_
          refine zs_geti (pc := 129) hC (hk 10 rfl) f_10_3 q381 dX4_queueJob_129 ?_
          refine z_iconst (pc := 132) hC (4 : Int32) rfl dX4_queueJob_132 ?_
          refine z_imul (pc := 133) hC dX4_queueJob_133 ?_
          refine z_istore (pc := 134) (ls1 := fun v => [(9, .inl (.int v)), (0, .inr (k, 10)), (1, .inl (.int v1)), (3, .inl (.int v3)), (4, .inl (.int v4)), (5, .inl (.int v5)), (6, .inl (.int v6)), (7, .inl (.int v7)), (8, .inl (.int v8))]) hC 9 (by decide) (fun v => rfl) dX4_queueJob_134 (fun v9_4 => ?_)
          refine z_aload_n (pc := 136) hC 0 rfl 1 rfl dX4_queueJob_136 ?_
          refine z_getc (pc := 137) hC (hk 10 rfl) f_10_2 q380 dX4_queueJob_137 ?_
          refine z_iload (pc := 140) hC 9 0 rfl dX4_queueJob_140 ?_
          refine z_iload (pc := 142) hC 5 5 rfl dX4_queueJob_142 ?_
          refine zs_iast (pc := 144) hC (hk 11 rfl) (by decide) rfl dX4_queueJob_144 (fun d5 => ?_)
          refine z_aload_n (pc := 145) hC 0 rfl 1 rfl dX4_queueJob_145 ?_
          refine z_getc (pc := 146) hC (hk 10 rfl) f_10_2 q380 dX4_queueJob_146 ?_
          refine z_iload (pc := 149) hC 9 0 rfl dX4_queueJob_149 ?_
          refine z_iconst (pc := 151) hC (1 : Int32) rfl dX4_queueJob_151 ?_
          refine z_iadd (pc := 152) hC dX4_queueJob_152 ?_
          refine z_iload_n (pc := 153) hC 1 rfl 2 rfl dX4_queueJob_153 ?_
          refine zs_iast (pc := 154) hC (hk 11 rfl) (by decide) rfl dX4_queueJob_154 (fun d6 => ?_)
          refine z_aload_n (pc := 155) hC 0 rfl 1 rfl dX4_queueJob_155 ?_
          refine z_getc (pc := 156) hC (hk 10 rfl) f_10_2 q380 dX4_queueJob_156 ?_
          refine z_iload (pc := 159) hC 9 0 rfl dX4_queueJob_159 ?_
          refine z_iconst (pc := 161) hC (2 : Int32) rfl dX4_queueJob_161 ?_
          refine z_iadd (pc := 162) hC dX4_queueJob_162 ?_
          refine z_iload (pc := 163) hC 6 6 rfl dX4_queueJob_163 ?_
          refine zs_iast (pc := 165) hC (hk 11 rfl) (by decide) rfl dX4_queueJob_165 (fun d7 => ?_)
          refine z_aload_n (pc := 166) hC 0 rfl 1 rfl dX4_queueJob_166 ?_
          refine z_getc (pc := 167) hC (hk 10 rfl) f_10_2 q380 dX4_queueJob_167 ?_
          refine z_iload (pc := 170) hC 9 0 rfl dX4_queueJob_170 ?_
          refine z_iconst (pc := 172) hC (3 : Int32) rfl dX4_queueJob_172 ?_
          refine z_iadd (pc := 173) hC dX4_queueJob_173 ?_
          refine z_iload_n (pc := 174) hC 3 rfl 3 rfl dX4_queueJob_174 ?_
          refine zs_iast (pc := 175) hC (hk 11 rfl) (by decide) rfl dX4_queueJob_175 (fun d8 => ?_)
          refine z_aload_n (pc := 176) hC 0 rfl 1 rfl dX4_queueJob_176 ?_
          refine z_dup (pc := 177) hC rfl dX4_queueJob_177 ?_
          refine zs_geti (pc := 178) hC (hk 10 rfl) f_10_3 q381 dX4_queueJob_178 ?_
          refine z_iconst (pc := 181) hC (1 : Int32) rfl dX4_queueJob_181 ?_
          refine z_iadd (pc := 182) hC dX4_queueJob_182 ?_
          refine zs_puti (pc := 183) hC (hk 10 rfl) f_10_3 q381 dX4_queueJob_183 (fun d9 => ?_)
          refine z_aload_n (pc := 186) hC 0 rfl 1 rfl dX4_queueJob_186 ?_
          refine z_dup (pc := 187) hC rfl dX4_queueJob_187 ?_
          refine zs_geti (pc := 188) hC (hk 10 rfl) f_10_4 q383 dX4_queueJob_188 ?_
          refine z_iconst (pc := 191) hC (1 : Int32) rfl dX4_queueJob_191 ?_
          refine z_iadd (pc := 192) hC dX4_queueJob_192 ?_
          refine zs_puti (pc := 193) hC (hk 10 rfl) f_10_4 q383 dX4_queueJob_193 (fun d10 => ?_)
          refine z_iload (pc := 196) hC 8 8 rfl dX4_queueJob_196 ?_
          exact z_iret (pc := 198) hC rfl dX4_queueJob_198
        · exact z_sub [0, 4] rfl (r_Wo_queueJob_117 hC hk hk2 hcl v5 d)
    · refine z_aload_n (pc := 37) hC 0 rfl 0 rfl dX4_queueJob_37 ?_
      refine z_getc (pc := 38) hC (hk 10 rfl) f_10_1 q378 dX4_queueJob_38 ?_
      refine z_iload_n (pc := 41) hC 1 rfl 1 rfl dX4_queueJob_41 ?_
      refine z_iload (pc := 42) hC 9 8 rfl dX4_queueJob_42 ?_
      refine z_piV (pc := 44) (st := []) hC y_X0_find q655 [.inl (.int v1), .inl (.int v9)] rfl (hk 17 rfl) rfl rfl (c_X0_find hC.2.2.2.2.2.2.1 hk hk2) rfl ⟨rfl, rfl, (Nat.le_of_ble_eq_true rfl), (Nat.le_of_ble_eq_true rfl)⟩ (Nat.le_of_ble_eq_true rfl) dX4_queueJob_44 (fun r11 => ?_)
      refine z_istore (pc := 47) (ls1 := fun v => [(10, .inl (.int v)), (0, .inr (k, 10)), (1, .inl (.int v1)), (3, .inl (.int v3)), (4, .inl (.int v4)), (5, .inl (.int v5)), (6, .inl (.int v6)), (7, .inl (.int v7)), (8, .inl (.int v8)), (9, .inl (.int v9))]) hC 10 (by decide) (fun v => rfl) dX4_queueJob_47 (fun v10_12 => ?_)
      refine z_iload (pc := 49) hC 10 0 rfl dX4_queueJob_49 ?_
      refine z_if_lt (pc := 51) hC 97 rfl dX4_queueJob_51 ?_ ?_
      · exact z_sub [1, 2, 3, 4, 5, 6, 7, 8, 9] rfl (r_Wo_queueJob_97 hC hk hk2 hcl _ ih v1 v3 v4 v5 v6 v7 v8 v9 d)
      · refine z_aload_n (pc := 54) hC 0 rfl 1 rfl dX4_queueJob_54 ?_
        refine z_getc (pc := 55) hC (hk 10 rfl) f_10_1 q378 dX4_queueJob_55 ?_
        refine z_getc (pc := 58) hC (hk 17 rfl) f_17_1 q297 dX4_queueJob_58 ?_
        refine z_iload (pc := 61) hC 10 0 rfl dX4_queueJob_61 ?_
        refine zs_iald (pc := 63) hC (hk 19 rfl) rfl dX4_queueJob_63 ?_
        refine z_iload (pc := 64) hC 9 9 rfl dX4_queueJob_64 ?_
        refine z_icmp_ne (pc := 66) hC 97 rfl dX4_queueJob_66 ?_ ?_
        · exact z_sub [1, 2, 3, 4, 5, 6, 7, 8, 9] rfl (r_Wo_queueJob_97 hC hk hk2 hcl _ ih v1 v3 v4 v5 v6 v7 v8 v9 d)
        · refine z_aload_n (pc := 69) hC 0 rfl 1 rfl dX4_queueJob_69 ?_
          refine z_getc (pc := 70) hC (hk 10 rfl) f_10_1 q378 dX4_queueJob_70 ?_
          refine z_iload (pc := 73) hC 10 0 rfl dX4_queueJob_73 ?_
          refine z_iload (pc := 75) hC 5 5 rfl dX4_queueJob_75 ?_
          refine z_cvV (pc := 77) (st := []) hC y_X0_markTop q757 [.inl (.int v10_12), .inl (.int v5)] rfl (hk 17 rfl) rfl rfl (c_X0_markTop hC.2.2.2.2.2.2.1 hk hk2) rfl ⟨rfl, rfl, (Nat.le_of_ble_eq_true rfl), (Nat.le_of_ble_eq_true rfl)⟩ (Nat.le_of_ble_eq_true rfl) dX4_queueJob_77 (fun r13 d14 => ?_)
          refine z_aload_n (pc := 80) hC 0 rfl 1 rfl dX4_queueJob_80 ?_
          refine z_getc (pc := 81) hC (hk 10 rfl) f_10_1 q378 dX4_queueJob_81 ?_
          refine z_iload (pc := 84) hC 10 0 rfl dX4_queueJob_84 ?_
          refine z_iload (pc := 86) hC 4 4 rfl dX4_queueJob_86 ?_
          refine z_iload (pc := 88) hC 5 5 rfl dX4_queueJob_88 ?_
          refine z_iload (pc := 90) hC 8 8 rfl dX4_queueJob_90 ?_
          refine z_ciV (pc := 92) (st := []) hC y_X0_queueBeneath q761 [.inl (.int v10_12), .inl (.int v4), .inl (.int v5), .inl (.int v8)] rfl (hk 17 rfl) rfl rfl (c_X0_queueBeneath hC.2.2.2.2.2.2.1 hk hk2) rfl ⟨rfl, rfl, (Nat.le_of_ble_eq_true rfl), (Nat.le_of_ble_eq_true rfl)⟩ (Nat.le_of_ble_eq_true rfl) dX4_queueJob_92 (fun r15 d16 => ?_)
          refine z_istore (pc := 95) (ls1 := fun v => [(8, .inl (.int v)), (10, .inl (.int v10_12)), (0, .inr (k, 10)), (1, .inl (.int v1)), (3, .inl (.int v3)), (4, .inl (.int v4)), (5, .inl (.int v5)), (6, .inl (.int v6)), (7, .inl (.int v7)), (9, .inl (.int v9))]) hC 8 (by decide) (fun v => rfl) dX4_queueJob_95 (fun v8_17 => ?_)
          exact z_sub [2, 3, 4, 5, 6, 7, 8, 0, 9] rfl (r_Wo_queueJob_97 hC hk hk2 hcl _ ih v1 v3 v4 v5 v6 v7 v8_17 v9 d16)
theorem r_Wo_queueJob {C : Cxt} {G : Geo} {M : Mem} {k : Nat} (hC : Cx C cX4_queueJob 11 "FrameHeirs$World" (some .int) rm_X4_queueJob G) (hk : LWd G k) (hk2 : 2 ≤ k) (hcl : GCl G) (d : Sl) (a1 : Int32) (a2 : Int32) (a3 : Int32) (a4 : Int32) : Rz C 11 G (setS M k) (poM avI (setS M k)) 0 [(0, .inr (k, 10)), (1, .inl (.int a1)), (2, .inl (.int a2)), (3, .inl (.int a3)), (4, .inl (.int a4))] [] d (Wo_queueJob M d a1 a2 a3 a4) := by
  unfold Wo_queueJob
  refine z_aload_n (pc := 0) hC 0 rfl 0 rfl dX4_queueJob_0 ?_
  refine zs_geti (pc := 1) hC (hk 10 rfl) f_10_4 q383 dX4_queueJob_1 ?_
  refine z_iconst (pc := 4) hC (1 : Int32) rfl dX4_queueJob_4 ?_
  refine z_iadd (pc := 5) hC dX4_queueJob_5 ?_
  refine z_istore (pc := 6) (ls1 := fun v => [(5, .inl (.int v)), (0, .inr (k, 10)), (1, .inl (.int a1)), (2, .inl (.int a2)), (3, .inl (.int a3)), (4, .inl (.int a4))]) hC 5 (by decide) (fun v => rfl) dX4_queueJob_6 (fun v5_18 => ?_)
  refine z_iload_n (pc := 8) hC 2 rfl 3 rfl dX4_queueJob_8 ?_
  refine z_iconst (pc := 9) hC (2 : Int32) rfl dX4_queueJob_9 ?_
  refine z_ishr (pc := 10) hC dX4_queueJob_10 ?_
  refine z_istore (pc := 11) (ls1 := fun v => [(6, .inl (.int v)), (5, .inl (.int v5_18)), (0, .inr (k, 10)), (1, .inl (.int a1)), (2, .inl (.int a2)), (3, .inl (.int a3)), (4, .inl (.int a4))]) hC 6 (by decide) (fun v => rfl) dX4_queueJob_11 (fun v6_19 => ?_)
  refine z_iload (pc := 13) hC 6 0 rfl dX4_queueJob_13 ?_
  refine z_iconst (pc := 15) hC (1 : Int32) rfl dX4_queueJob_15 ?_
  refine z_iload_n (pc := 16) hC 2 rfl 4 rfl dX4_queueJob_16 ?_
  refine z_iconst (pc := 17) hC (3 : Int32) rfl dX4_queueJob_17 ?_
  refine z_iand (pc := 18) hC dX4_queueJob_18 ?_
  refine z_ishl (pc := 19) hC dX4_queueJob_19 ?_
  refine z_iadd (pc := 20) hC dX4_queueJob_20 ?_
  refine z_istore (pc := 21) (ls1 := fun v => [(7, .inl (.int v)), (6, .inl (.int v6_19)), (5, .inl (.int v5_18)), (0, .inr (k, 10)), (1, .inl (.int a1)), (2, .inl (.int a2)), (3, .inl (.int a3)), (4, .inl (.int a4))]) hC 7 (by decide) (fun v => rfl) dX4_queueJob_21 (fun v7_20 => ?_)
  refine z_iconst (pc := 23) hC (0 : Int32) rfl dX4_queueJob_23 ?_
  refine z_istore (pc := 24) (ls1 := fun v => [(8, .inl (.int v)), (7, .inl (.int v7_20)), (6, .inl (.int v6_19)), (5, .inl (.int v5_18)), (0, .inr (k, 10)), (1, .inl (.int a1)), (2, .inl (.int a2)), (3, .inl (.int a3)), (4, .inl (.int a4))]) hC 8 (by decide) (fun v => rfl) dX4_queueJob_24 (fun v8_21 => ?_)
  refine z_iload (pc := 26) hC 6 2 rfl dX4_queueJob_26 ?_
  refine z_istore (pc := 28) (ls1 := fun v => [(9, .inl (.int v)), (8, .inl (.int v8_21)), (7, .inl (.int v7_20)), (6, .inl (.int v6_19)), (5, .inl (.int v5_18)), (0, .inr (k, 10)), (1, .inl (.int a1)), (2, .inl (.int a2)), (3, .inl (.int a3)), (4, .inl (.int a4))]) hC 9 (by decide) (fun v => rfl) dX4_queueJob_28 (fun v9_22 => ?_)
  exact z_sub [5, 6, 8, 9, 4, 3, 2, 1, 0] rfl (r_Wo_queueJob_30 hC hk hk2 hcl FU a1 a3 a4 v5_18 v6_19 v7_20 v8_21 v9_22 d)
theorem c_X4_queueJob {G : Geo} {M : Mem} {k : Nat} (hG : GOk G) (hk : LWd G k) (hk2 : 2 ≤ k) (hcl : GCl G) {d : Sl} {a1 : Int32} {a2 : Int32} {a3 : Int32} {a4 : Int32} (l : Launch) (r : Int32) (d1 : Sl) (h : Wo_queueJob M d a1 a2 a3 a4 = some (r, d1)) : Mt l yX4_queueJob cX4_queueJob 11 (some .int) rm_X4_queueJob G [.inr (k, 10), .inl (.int a1), .inl (.int a2), .inl (.int a3), .inl (.int a4)] ((setS M k) d) (avI r) ((setS M k) d1) :=
  mt_of (mem := (setS M k)) (po := poM avI (setS M k)) (x0 := d) (t := (r, d1)) rfl hG [.inr (k, 10), .inl (.int a1), .inl (.int a2), .inl (.int a3), .inl (.int a4)] (Nat.le_of_ble_eq_true rfl) rfl (fun C hC => r_Wo_queueJob hC hk hk2 hcl d a1 a2 a3 a4) h
-- FrameHeirs$World.startFlush(IIIZ)I
abbrev rm_X4_startFlush : Room := { frames := 4, cells := 0, slots := 0, locals := 103 }
theorem dX4_startFlush_0 : decode cX4_startFlush 0 = .ok (.aload_n 0, 1) := by decide +kernel
theorem dX4_startFlush_1 : decode cX4_startFlush 1 = .ok (.iload_n 1, 1) := by decide +kernel
theorem dX4_startFlush_2 : decode cX4_startFlush 2 = .ok (.iload_n 2, 1) := by decide +kernel
theorem dX4_startFlush_3 : decode cX4_startFlush 3 = .ok (.invokevirtual 132, 3) := by decide +kernel
theorem dX4_startFlush_6 : decode cX4_startFlush 6 = .ok (.ifCond .eq 10, 3) := by decide +kernel
theorem dX4_startFlush_9 : decode cX4_startFlush 9 = .ok (.iload_n 3, 1) := by decide +kernel
theorem dX4_startFlush_10 : decode cX4_startFlush 10 = .ok (.invokestatic 135, 3) := by decide +kernel
theorem dX4_startFlush_13 : decode cX4_startFlush 13 = .ok (.ifCond .ne 5, 3) := by decide +kernel
theorem dX4_startFlush_16 : decode cX4_startFlush 16 = .ok (.iconst (-1), 1) := by decide +kernel
theorem dX4_startFlush_17 : decode cX4_startFlush 17 = .ok (.ireturn, 1) := by decide +kernel
theorem dX4_startFlush_18 : decode cX4_startFlush 18 = .ok (.iload_n 2, 1) := by decide +kernel
theorem dX4_startFlush_19 : decode cX4_startFlush 19 = .ok (.iconst 2, 1) := by decide +kernel
theorem dX4_startFlush_20 : decode cX4_startFlush 20 = .ok (.ishr, 1) := by decide +kernel
theorem dX4_startFlush_21 : decode cX4_startFlush 21 = .ok (.istore 5, 2) := by decide +kernel
theorem dX4_startFlush_23 : decode cX4_startFlush 23 = .ok (.iload_n 2, 1) := by decide +kernel
theorem dX4_startFlush_24 : decode cX4_startFlush 24 = .ok (.iconst 3, 1) := by decide +kernel
theorem dX4_startFlush_25 : decode cX4_startFlush 25 = .ok (.iand, 1) := by decide +kernel
theorem dX4_startFlush_26 : decode cX4_startFlush 26 = .ok (.istore 6, 2) := by decide +kernel
theorem dX4_startFlush_28 : decode cX4_startFlush 28 = .ok (.aload_n 0, 1) := by decide +kernel
theorem dX4_startFlush_29 : decode cX4_startFlush 29 = .ok (.iload_n 1, 1) := by decide +kernel
theorem dX4_startFlush_30 : decode cX4_startFlush 30 = .ok (.iload 5, 2) := by decide +kernel
theorem dX4_startFlush_32 : decode cX4_startFlush 32 = .ok (.iload 6, 2) := by decide +kernel
theorem dX4_startFlush_34 : decode cX4_startFlush 34 = .ok (.invokevirtual 138, 3) := by decide +kernel
theorem dX4_startFlush_37 : decode cX4_startFlush 37 = .ok (.istore 7, 2) := by decide +kernel
theorem dX4_startFlush_39 : decode cX4_startFlush 39 = .ok (.iload 7, 2) := by decide +kernel
theorem dX4_startFlush_41 : decode cX4_startFlush 41 = .ok (.iconst 1, 1) := by decide +kernel
theorem dX4_startFlush_42 : decode cX4_startFlush 42 = .ok (.iand, 1) := by decide +kernel
theorem dX4_startFlush_43 : decode cX4_startFlush 43 = .ok (.ifCond .ne 6, 3) := by decide +kernel
theorem dX4_startFlush_46 : decode cX4_startFlush 46 = .ok (.bipush (-2), 2) := by decide +kernel
theorem dX4_startFlush_48 : decode cX4_startFlush 48 = .ok (.ireturn, 1) := by decide +kernel
theorem dX4_startFlush_49 : decode cX4_startFlush 49 = .ok (.iload 7, 2) := by decide +kernel
theorem dX4_startFlush_51 : decode cX4_startFlush 51 = .ok (.iconst 4, 1) := by decide +kernel
theorem dX4_startFlush_52 : decode cX4_startFlush 52 = .ok (.iand, 1) := by decide +kernel
theorem dX4_startFlush_53 : decode cX4_startFlush 53 = .ok (.ifCond .eq 6, 3) := by decide +kernel
theorem dX4_startFlush_56 : decode cX4_startFlush 56 = .ok (.bipush (-3), 2) := by decide +kernel
theorem dX4_startFlush_58 : decode cX4_startFlush 58 = .ok (.ireturn, 1) := by decide +kernel
theorem dX4_startFlush_59 : decode cX4_startFlush 59 = .ok (.iload 4, 2) := by decide +kernel
theorem dX4_startFlush_61 : decode cX4_startFlush 61 = .ok (.ifCond .eq 14, 3) := by decide +kernel
theorem dX4_startFlush_64 : decode cX4_startFlush 64 = .ok (.iload 7, 2) := by decide +kernel
theorem dX4_startFlush_66 : decode cX4_startFlush 66 = .ok (.bipush 8, 2) := by decide +kernel
theorem dX4_startFlush_68 : decode cX4_startFlush 68 = .ok (.iand, 1) := by decide +kernel
theorem dX4_startFlush_69 : decode cX4_startFlush 69 = .ok (.ifCond .eq 6, 3) := by decide +kernel
theorem dX4_startFlush_72 : decode cX4_startFlush 72 = .ok (.bipush (-4), 2) := by decide +kernel
theorem dX4_startFlush_74 : decode cX4_startFlush 74 = .ok (.ireturn, 1) := by decide +kernel
theorem dX4_startFlush_75 : decode cX4_startFlush 75 = .ok (.aload_n 0, 1) := by decide +kernel
theorem dX4_startFlush_76 : decode cX4_startFlush 76 = .ok (.getfield 22, 3) := by decide +kernel
theorem dX4_startFlush_79 : decode cX4_startFlush 79 = .ok (.bipush 6, 2) := by decide +kernel
theorem dX4_startFlush_81 : decode cX4_startFlush 81 = .ok (.if_icmp .lt 6, 3) := by decide +kernel
theorem dX4_startFlush_84 : decode cX4_startFlush 84 = .ok (.bipush (-5), 2) := by decide +kernel
theorem dX4_startFlush_86 : decode cX4_startFlush 86 = .ok (.ireturn, 1) := by decide +kernel
theorem dX4_startFlush_87 : decode cX4_startFlush 87 = .ok (.aload_n 0, 1) := by decide +kernel
theorem dX4_startFlush_88 : decode cX4_startFlush 88 = .ok (.getfield 12, 3) := by decide +kernel
theorem dX4_startFlush_91 : decode cX4_startFlush 91 = .ok (.iload_n 1, 1) := by decide +kernel
theorem dX4_startFlush_92 : decode cX4_startFlush 92 = .ok (.iload 5, 2) := by decide +kernel
theorem dX4_startFlush_94 : decode cX4_startFlush 94 = .ok (.iload 6, 2) := by decide +kernel
theorem dX4_startFlush_96 : decode cX4_startFlush 96 = .ok (.invokevirtual 180, 3) := by decide +kernel
theorem dX4_startFlush_99 : decode cX4_startFlush 99 = .ok (.aload_n 0, 1) := by decide +kernel
theorem dX4_startFlush_100 : decode cX4_startFlush 100 = .ok (.iload_n 1, 1) := by decide +kernel
theorem dX4_startFlush_101 : decode cX4_startFlush 101 = .ok (.iload_n 2, 1) := by decide +kernel
theorem dX4_startFlush_102 : decode cX4_startFlush 102 = .ok (.iload_n 3, 1) := by decide +kernel
theorem dX4_startFlush_103 : decode cX4_startFlush 103 = .ok (.iload 4, 2) := by decide +kernel
theorem dX4_startFlush_105 : decode cX4_startFlush 105 = .ok (.invokevirtual 186, 3) := by decide +kernel
theorem dX4_startFlush_108 : decode cX4_startFlush 108 = .ok (.ireturn, 1) := by decide +kernel
def Wo_startFlush_75 (M : Mem) (v1 : Int32) (v2 : Int32) (v3 : Int32) (v4 : Int32) (v5 : Int32) (v6 : Int32) (d : Sl) : Option (Int32 × Sl) :=
  if (d 10 3) < (6 : Int32) then
    (bd (De_cut d v1 v5 v6) fun r1 d2 =>
    bd (Wo_queueJob M d2 v1 v2 v3 v4) fun r3 d4 =>
    some (r3, d4))
  else
    (some ((-5 : Int32), d))
def Wo_startFlush (M : Mem) (d : Sl) (a1 : Int32) (a2 : Int32) (a3 : Int32) (a4 : Int32) : Option (Int32 × Sl) :=
  bp (Wo_isRegionOf M d a1 a2) fun r5 =>
  if r5 = 0 then
    (some ((-1 : Int32), d))
  else
    (bp (Fh_areRights a3) fun r6 =>
    if r6 = 0 then
      (some ((-1 : Int32), d))
    else
      (bnd (a2 >>> ((2 : Int32) &&& 31)) fun v5_7 =>
      bnd (a2 &&& (3 : Int32)) fun v6_8 =>
      bp (Wo_seenIn M d a1 v5_7 v6_8) fun r9 =>
      bnd r9 fun v7_10 =>
      if (v7_10 &&& (1 : Int32)) = 0 then
        (some ((-2 : Int32), d))
      else
        (if (v7_10 &&& (4 : Int32)) = 0 then
          (if a4 = 0 then
            (Wo_startFlush_75 M a1 a2 a3 a4 v5_7 v6_8 d)
          else
            (if (v7_10 &&& (8 : Int32)) = 0 then
              (Wo_startFlush_75 M a1 a2 a3 a4 v5_7 v6_8 d)
            else
              (some ((-4 : Int32), d))))
        else
          (some ((-3 : Int32), d)))))
theorem y_X4_startFlush : YV yX4_startFlush cX4_startFlush 8 (some .int) 4 := ⟨q750, q751, q752, q146, by decide +kernel, by decide +kernel, by decide +kernel, by decide +kernel⟩
theorem r_Wo_startFlush_75 {C : Cxt} {G : Geo} {M : Mem} {k : Nat} (hC : Cx C cX4_startFlush 8 "FrameHeirs$World" (some .int) rm_X4_startFlush G) (hk : LWd G k) (hk2 : 2 ≤ k) (hcl : GCl G) (v1 : Int32) (v2 : Int32) (v3 : Int32) (v4 : Int32) (v5 : Int32) (v6 : Int32) (d : Sl) : Rz C 8 G (setS M k) (poM avI (setS M k)) 75 [(0, .inr (k, 10)), (1, .inl (.int v1)), (2, .inl (.int v2)), (3, .inl (.int v3)), (4, .inl (.int v4)), (5, .inl (.int v5)), (6, .inl (.int v6))] [] d (Wo_startFlush_75 M v1 v2 v3 v4 v5 v6 d) := by
  unfold Wo_startFlush_75
  refine z_aload_n (pc := 75) hC 0 rfl 0 rfl dX4_startFlush_75 ?_
  refine zs_geti (pc := 76) hC (hk 10 rfl) f_10_3 q381 dX4_startFlush_76 ?_
  refine z_bipush (pc := 79) hC (6 : Int32) rfl dX4_startFlush_79 ?_
  refine z_icmp_lt (pc := 81) hC 87 rfl dX4_startFlush_81 ?_ ?_
  · refine z_aload_n (pc := 87) hC 0 rfl 0 rfl dX4_startFlush_87 ?_
    refine z_getc (pc := 88) hC (hk 10 rfl) f_10_1 q378 dX4_startFlush_88 ?_
    refine z_iload_n (pc := 91) hC 1 rfl 1 rfl dX4_startFlush_91 ?_
    refine z_iload (pc := 92) hC 5 5 rfl dX4_startFlush_92 ?_
    refine z_iload (pc := 94) hC 6 6 rfl dX4_startFlush_94 ?_
    refine z_cvV (pc := 96) (st := []) hC y_X0_cut q718 [.inl (.int v1), .inl (.int v5), .inl (.int v6)] rfl (hk 17 rfl) rfl rfl (c_X0_cut hC.2.2.2.2.2.2.1 hk hk2) rfl ⟨rfl, rfl, (Nat.le_of_ble_eq_true rfl), (Nat.le_of_ble_eq_true rfl)⟩ (Nat.le_of_ble_eq_true rfl) dX4_startFlush_96 (fun r1 d2 => ?_)
    refine z_aload_n (pc := 99) hC 0 rfl 0 rfl dX4_startFlush_99 ?_
    refine z_iload_n (pc := 100) hC 1 rfl 1 rfl dX4_startFlush_100 ?_
    refine z_iload_n (pc := 101) hC 2 rfl 2 rfl dX4_startFlush_101 ?_
    refine z_iload_n (pc := 102) hC 3 rfl 3 rfl dX4_startFlush_102 ?_
    refine z_iload (pc := 103) hC 4 4 rfl dX4_startFlush_103 ?_
    refine z_ciV (pc := 105) (st := []) hC y_X4_queueJob q753 [.inl (.int v1), .inl (.int v2), .inl (.int v3), .inl (.int v4)] rfl (hk 10 rfl) rfl rfl (c_X4_queueJob hC.2.2.2.2.2.2.1 hk hk2 hcl) rfl ⟨rfl, rfl, (Nat.le_of_ble_eq_true rfl), (Nat.le_of_ble_eq_true rfl)⟩ (Nat.le_of_ble_eq_true rfl) dX4_startFlush_105 (fun r3 d4 => ?_)
    exact z_iret (pc := 108) hC rfl dX4_startFlush_108
  · refine z_bipush (pc := 84) hC (-5 : Int32) rfl dX4_startFlush_84 ?_
    exact z_iret (pc := 86) hC rfl dX4_startFlush_86
theorem r_Wo_startFlush {C : Cxt} {G : Geo} {M : Mem} {k : Nat} (hC : Cx C cX4_startFlush 8 "FrameHeirs$World" (some .int) rm_X4_startFlush G) (hk : LWd G k) (hk2 : 2 ≤ k) (hcl : GCl G) (d : Sl) (a1 : Int32) (a2 : Int32) (a3 : Int32) (a4 : Int32) : Rz C 8 G (setS M k) (poM avI (setS M k)) 0 [(0, .inr (k, 10)), (1, .inl (.int a1)), (2, .inl (.int a2)), (3, .inl (.int a3)), (4, .inl (.int a4))] [] d (Wo_startFlush M d a1 a2 a3 a4) := by
  unfold Wo_startFlush
  refine z_aload_n (pc := 0) hC 0 rfl 0 rfl dX4_startFlush_0 ?_
  refine z_iload_n (pc := 1) hC 1 rfl 1 rfl dX4_startFlush_1 ?_
  refine z_iload_n (pc := 2) hC 2 rfl 2 rfl dX4_startFlush_2 ?_
  refine z_piV (pc := 3) (st := []) hC y_X4_isRegionOf q640 [.inl (.int a1), .inl (.int a2)] rfl (hk 10 rfl) rfl rfl (c_X4_isRegionOf hC.2.2.2.2.2.2.1 hk hk2 hcl) rfl ⟨rfl, rfl, (Nat.le_of_ble_eq_true rfl), (Nat.le_of_ble_eq_true rfl)⟩ (Nat.le_of_ble_eq_true rfl) dX4_startFlush_3 (fun r5 => ?_)
  refine z_if_eq (pc := 6) hC 16 rfl dX4_startFlush_6 ?_ ?_
  · refine z_iconst (pc := 16) hC (-1 : Int32) rfl dX4_startFlush_16 ?_
    exact z_iret (pc := 17) hC rfl dX4_startFlush_17
  · refine z_iload_n (pc := 9) hC 3 rfl 3 rfl dX4_startFlush_9 ?_
    refine z_piN (pc := 10) (st := []) hC y_X5_areRights (fun U h => h.2) [.inl (.int a3)] rfl (c_X5_areRights hC.2.2.2.2.2.2.1) rfl ⟨rfl, rfl, (Nat.le_of_ble_eq_true rfl), (Nat.le_of_ble_eq_true rfl)⟩ (Nat.le_of_ble_eq_true rfl) dX4_startFlush_10 (fun r6 => ?_)
    refine z_if_ne (pc := 13) hC 18 rfl dX4_startFlush_13 ?_ ?_
    · refine z_iload_n (pc := 18) hC 2 rfl 2 rfl dX4_startFlush_18 ?_
      refine z_iconst (pc := 19) hC (2 : Int32) rfl dX4_startFlush_19 ?_
      refine z_ishr (pc := 20) hC dX4_startFlush_20 ?_
      refine z_istore (pc := 21) (ls1 := fun v => [(5, .inl (.int v)), (0, .inr (k, 10)), (1, .inl (.int a1)), (2, .inl (.int a2)), (3, .inl (.int a3)), (4, .inl (.int a4))]) hC 5 (by decide) (fun v => rfl) dX4_startFlush_21 (fun v5_7 => ?_)
      refine z_iload_n (pc := 23) hC 2 rfl 3 rfl dX4_startFlush_23 ?_
      refine z_iconst (pc := 24) hC (3 : Int32) rfl dX4_startFlush_24 ?_
      refine z_iand (pc := 25) hC dX4_startFlush_25 ?_
      refine z_istore (pc := 26) (ls1 := fun v => [(6, .inl (.int v)), (5, .inl (.int v5_7)), (0, .inr (k, 10)), (1, .inl (.int a1)), (2, .inl (.int a2)), (3, .inl (.int a3)), (4, .inl (.int a4))]) hC 6 (by decide) (fun v => rfl) dX4_startFlush_26 (fun v6_8 => ?_)
      refine z_aload_n (pc := 28) hC 0 rfl 2 rfl dX4_startFlush_28 ?_
      refine z_iload_n (pc := 29) hC 1 rfl 3 rfl dX4_startFlush_29 ?_
      refine z_iload (pc := 30) hC 5 1 rfl dX4_startFlush_30 ?_
      refine z_iload (pc := 32) hC 6 0 rfl dX4_startFlush_32 ?_
      refine z_piV (pc := 34) (st := []) hC y_X4_seenIn q651 [.inl (.int a1), .inl (.int v5_7), .inl (.int v6_8)] rfl (hk 10 rfl) rfl rfl (c_X4_seenIn hC.2.2.2.2.2.2.1 hk hk2 hcl) rfl ⟨rfl, rfl, (Nat.le_of_ble_eq_true rfl), (Nat.le_of_ble_eq_true rfl)⟩ (Nat.le_of_ble_eq_true rfl) dX4_startFlush_34 (fun r9 => ?_)
      refine z_istore (pc := 37) (ls1 := fun v => [(7, .inl (.int v)), (6, .inl (.int v6_8)), (5, .inl (.int v5_7)), (0, .inr (k, 10)), (1, .inl (.int a1)), (2, .inl (.int a2)), (3, .inl (.int a3)), (4, .inl (.int a4))]) hC 7 (by decide) (fun v => rfl) dX4_startFlush_37 (fun v7_10 => ?_)
      refine z_iload (pc := 39) hC 7 0 rfl dX4_startFlush_39 ?_
      refine z_iconst (pc := 41) hC (1 : Int32) rfl dX4_startFlush_41 ?_
      refine z_iand (pc := 42) hC dX4_startFlush_42 ?_
      refine z_if_ne (pc := 43) hC 49 rfl dX4_startFlush_43 ?_ ?_
      · refine z_iload (pc := 49) hC 7 0 rfl dX4_startFlush_49 ?_
        refine z_iconst (pc := 51) hC (4 : Int32) rfl dX4_startFlush_51 ?_
        refine z_iand (pc := 52) hC dX4_startFlush_52 ?_
        refine z_if_eq (pc := 53) hC 59 rfl dX4_startFlush_53 ?_ ?_
        · refine z_iload (pc := 59) hC 4 7 rfl dX4_startFlush_59 ?_
          refine z_if_eq (pc := 61) hC 75 rfl dX4_startFlush_61 ?_ ?_
          · exact z_sub [3, 4, 5, 6, 7, 2, 1] rfl (r_Wo_startFlush_75 hC hk hk2 hcl a1 a2 a3 a4 v5_7 v6_8 d)
          · refine z_iload (pc := 64) hC 7 0 rfl dX4_startFlush_64 ?_
            refine z_bipush (pc := 66) hC (8 : Int32) rfl dX4_startFlush_66 ?_
            refine z_iand (pc := 68) hC dX4_startFlush_68 ?_
            refine z_if_eq (pc := 69) hC 75 rfl dX4_startFlush_69 ?_ ?_
            · exact z_sub [3, 4, 5, 6, 7, 2, 1] rfl (r_Wo_startFlush_75 hC hk hk2 hcl a1 a2 a3 a4 v5_7 v6_8 d)
            · refine z_bipush (pc := 72) hC (-4 : Int32) rfl dX4_startFlush_72 ?_
              exact z_iret (pc := 74) hC rfl dX4_startFlush_74
        · refine z_bipush (pc := 56) hC (-3 : Int32) rfl dX4_startFlush_56 ?_
          exact z_iret (pc := 58) hC rfl dX4_startFlush_58
      · refine z_bipush (pc := 46) hC (-2 : Int32) rfl dX4_startFlush_46 ?_
        exact z_iret (pc := 48) hC rfl dX4_startFlush_48
    · refine z_iconst (pc := 16) hC (-1 : Int32) rfl dX4_startFlush_16 ?_
      exact z_iret (pc := 17) hC rfl dX4_startFlush_17
theorem c_X4_startFlush {G : Geo} {M : Mem} {k : Nat} (hG : GOk G) (hk : LWd G k) (hk2 : 2 ≤ k) (hcl : GCl G) {d : Sl} {a1 : Int32} {a2 : Int32} {a3 : Int32} {a4 : Int32} (l : Launch) (r : Int32) (d1 : Sl) (h : Wo_startFlush M d a1 a2 a3 a4 = some (r, d1)) : Mt l yX4_startFlush cX4_startFlush 8 (some .int) rm_X4_startFlush G [.inr (k, 10), .inl (.int a1), .inl (.int a2), .inl (.int a3), .inl (.int a4)] ((setS M k) d) (avI r) ((setS M k) d1) :=
  mt_of (mem := (setS M k)) (po := poM avI (setS M k)) (x0 := d) (t := (r, d1)) rfl hG [.inr (k, 10), .inl (.int a1), .inl (.int a2), .inl (.int a3), .inl (.int a4)] (Nat.le_of_ble_eq_true rfl) rfl (fun C hC => r_Wo_startFlush hC hk hk2 hcl d a1 a2 a3 a4) h
-- FrameHeirs$World.workOnce()V
abbrev rm_X4_workOnce : Room := { frames := 3, cells := 0, slots := 0, locals := 70 }
theorem dX4_workOnce_0 : decode cX4_workOnce 0 = .ok (.aload_n 0, 1) := by decide +kernel
theorem dX4_workOnce_1 : decode cX4_workOnce 1 = .ok (.getfield 18, 3) := by decide +kernel
theorem dX4_workOnce_4 : decode cX4_workOnce 4 = .ok (.iconst 0, 1) := by decide +kernel
theorem dX4_workOnce_5 : decode cX4_workOnce 5 = .ok (.iaload, 1) := by decide +kernel
theorem dX4_workOnce_6 : decode cX4_workOnce 6 = .ok (.istore_n 1, 1) := by decide +kernel
theorem dX4_workOnce_7 : decode cX4_workOnce 7 = .ok (.aload_n 0, 1) := by decide +kernel
theorem dX4_workOnce_8 : decode cX4_workOnce 8 = .ok (.getfield 12, 3) := by decide +kernel
theorem dX4_workOnce_11 : decode cX4_workOnce 11 = .ok (.iload_n 1, 1) := by decide +kernel
theorem dX4_workOnce_12 : decode cX4_workOnce 12 = .ok (.invokevirtual 204, 3) := by decide +kernel
theorem dX4_workOnce_15 : decode cX4_workOnce 15 = .ok (.istore_n 2, 1) := by decide +kernel
theorem dX4_workOnce_16 : decode cX4_workOnce 16 = .ok (.iload_n 2, 1) := by decide +kernel
theorem dX4_workOnce_17 : decode cX4_workOnce 17 = .ok (.ifCond .lt 53, 3) := by decide +kernel
theorem dX4_workOnce_20 : decode cX4_workOnce 20 = .ok (.aload_n 0, 1) := by decide +kernel
theorem dX4_workOnce_21 : decode cX4_workOnce 21 = .ok (.getfield 12, 3) := by decide +kernel
theorem dX4_workOnce_24 : decode cX4_workOnce 24 = .ok (.getfield 207, 3) := by decide +kernel
theorem dX4_workOnce_27 : decode cX4_workOnce 27 = .ok (.iload_n 2, 1) := by decide +kernel
theorem dX4_workOnce_28 : decode cX4_workOnce 28 = .ok (.iconst 0, 1) := by decide +kernel
theorem dX4_workOnce_29 : decode cX4_workOnce 29 = .ok (.iastore, 1) := by decide +kernel
theorem dX4_workOnce_30 : decode cX4_workOnce 30 = .ok (.aload_n 0, 1) := by decide +kernel
theorem dX4_workOnce_31 : decode cX4_workOnce 31 = .ok (.getfield 12, 3) := by decide +kernel
theorem dX4_workOnce_34 : decode cX4_workOnce 34 = .ok (.getfield 155, 3) := by decide +kernel
theorem dX4_workOnce_37 : decode cX4_workOnce 37 = .ok (.iload_n 2, 1) := by decide +kernel
theorem dX4_workOnce_38 : decode cX4_workOnce 38 = .ok (.dup2, 1) := by decide +kernel
theorem dX4_workOnce_39 : decode cX4_workOnce 39 = .ok (.iaload, 1) := by decide +kernel
theorem dX4_workOnce_40 : decode cX4_workOnce 40 = .ok (.aload_n 0, 1) := by decide +kernel
theorem dX4_workOnce_41 : decode cX4_workOnce 41 = .ok (.getfield 18, 3) := by decide +kernel
theorem dX4_workOnce_44 : decode cX4_workOnce 44 = .ok (.iconst 3, 1) := by decide +kernel
theorem dX4_workOnce_45 : decode cX4_workOnce 45 = .ok (.iaload, 1) := by decide +kernel
theorem dX4_workOnce_46 : decode cX4_workOnce 46 = .ok (.iconst (-1), 1) := by decide +kernel
theorem dX4_workOnce_47 : decode cX4_workOnce 47 = .ok (.ixor, 1) := by decide +kernel
theorem dX4_workOnce_48 : decode cX4_workOnce 48 = .ok (.iand, 1) := by decide +kernel
theorem dX4_workOnce_49 : decode cX4_workOnce 49 = .ok (.iastore, 1) := by decide +kernel
theorem dX4_workOnce_50 : decode cX4_workOnce 50 = .ok (.aload_n 0, 1) := by decide +kernel
theorem dX4_workOnce_51 : decode cX4_workOnce 51 = .ok (.getfield 12, 3) := by decide +kernel
theorem dX4_workOnce_54 : decode cX4_workOnce 54 = .ok (.getfield 155, 3) := by decide +kernel
theorem dX4_workOnce_57 : decode cX4_workOnce 57 = .ok (.iload_n 2, 1) := by decide +kernel
theorem dX4_workOnce_58 : decode cX4_workOnce 58 = .ok (.iaload, 1) := by decide +kernel
theorem dX4_workOnce_59 : decode cX4_workOnce 59 = .ok (.ifCond .ne 11, 3) := by decide +kernel
theorem dX4_workOnce_62 : decode cX4_workOnce 62 = .ok (.aload_n 0, 1) := by decide +kernel
theorem dX4_workOnce_63 : decode cX4_workOnce 63 = .ok (.getfield 12, 3) := by decide +kernel
theorem dX4_workOnce_66 : decode cX4_workOnce 66 = .ok (.iload_n 2, 1) := by decide +kernel
theorem dX4_workOnce_67 : decode cX4_workOnce 67 = .ok (.invokevirtual 210, 3) := by decide +kernel
theorem dX4_workOnce_70 : decode cX4_workOnce 70 = .ok (.aload_n 0, 1) := by decide +kernel
theorem dX4_workOnce_71 : decode cX4_workOnce 71 = .ok (.getfield 12, 3) := by decide +kernel
theorem dX4_workOnce_74 : decode cX4_workOnce 74 = .ok (.iload_n 1, 1) := by decide +kernel
theorem dX4_workOnce_75 : decode cX4_workOnce 75 = .ok (.invokevirtual 204, 3) := by decide +kernel
theorem dX4_workOnce_78 : decode cX4_workOnce 78 = .ok (.ifCond .ge 36, 3) := by decide +kernel
theorem dX4_workOnce_81 : decode cX4_workOnce 81 = .ok (.aload_n 0, 1) := by decide +kernel
theorem dX4_workOnce_82 : decode cX4_workOnce 82 = .ok (.getfield 12, 3) := by decide +kernel
theorem dX4_workOnce_85 : decode cX4_workOnce 85 = .ok (.iload_n 1, 1) := by decide +kernel
theorem dX4_workOnce_86 : decode cX4_workOnce 86 = .ok (.invokevirtual 197, 3) := by decide +kernel
theorem dX4_workOnce_89 : decode cX4_workOnce 89 = .ok (.aload_n 0, 1) := by decide +kernel
theorem dX4_workOnce_90 : decode cX4_workOnce 90 = .ok (.dup, 1) := by decide +kernel
theorem dX4_workOnce_91 : decode cX4_workOnce 91 = .ok (.getfield 22, 3) := by decide +kernel
theorem dX4_workOnce_94 : decode cX4_workOnce 94 = .ok (.iconst 1, 1) := by decide +kernel
theorem dX4_workOnce_95 : decode cX4_workOnce 95 = .ok (.isub, 1) := by decide +kernel
theorem dX4_workOnce_96 : decode cX4_workOnce 96 = .ok (.putfield 22, 3) := by decide +kernel
theorem dX4_workOnce_99 : decode cX4_workOnce 99 = .ok (.aload_n 0, 1) := by decide +kernel
theorem dX4_workOnce_100 : decode cX4_workOnce 100 = .ok (.getfield 18, 3) := by decide +kernel
theorem dX4_workOnce_103 : decode cX4_workOnce 103 = .ok (.iconst 4, 1) := by decide +kernel
theorem dX4_workOnce_104 : decode cX4_workOnce 104 = .ok (.aload_n 0, 1) := by decide +kernel
theorem dX4_workOnce_105 : decode cX4_workOnce 105 = .ok (.getfield 18, 3) := by decide +kernel
theorem dX4_workOnce_108 : decode cX4_workOnce 108 = .ok (.iconst 0, 1) := by decide +kernel
theorem dX4_workOnce_109 : decode cX4_workOnce 109 = .ok (.bipush 20, 2) := by decide +kernel
theorem dX4_workOnce_111 : decode cX4_workOnce 111 = .ok (.invokestatic 92, 3) := by decide +kernel
theorem dX4_workOnce_114 : decode cX4_workOnce 114 = .ok (.return_, 1) := by decide +kernel
def Wo_workOnce_70 (M : Mem) (v1 : Int32) (d : Sl) : Option (Unit × Sl) :=
  bp (De_firstToDo d v1) fun r1 =>
  if 0 ≤ r1 then
    (some ((), d))
  else
    (bd (De_endJob d v1) fun r2 d3 =>
    bnd (wr d3 10 3 ((d3 10 3) - (1 : Int32))) fun d4 =>
    if cpok (4 : Int32) (0 : Int32) (20 : Int32) 24 24 then
    bnd (wrA d4 11 (va_cpy (d4 11) (d4 11) (ix (4 : Int32)) (ix (0 : Int32)) (ix (20 : Int32)))) fun d5 =>
    some ((), d5)
    else none)
def Wo_workOnce (M : Mem) (d : Sl) : Option (Unit × Sl) :=
  if inb (0 : Int32) 24 then
  bnd (d 11 (ix (0 : Int32))) fun v1_6 =>
  bp (De_firstToDo d v1_6) fun r7 =>
  bnd r7 fun v2_8 =>
  if v2_8 < 0 then
    (Wo_workOnce_70 M v1_6 d)
  else
    (if inb v2_8 192 then
    bnd (wr d 29 (ix v2_8) (0 : Int32)) fun d9 =>
    if inb v2_8 192 then
    if inb (3 : Int32) 24 then
    if inb v2_8 192 then
    bnd (wr d9 22 (ix v2_8) ((d9 22 (ix v2_8)) &&& ((d9 11 (ix (3 : Int32))) ^^^ (-1 : Int32)))) fun d10 =>
    if inb v2_8 192 then
    if (d10 22 (ix v2_8)) = 0 then
      (bd (De_remove d10 v2_8) fun r11 d12 =>
      Wo_workOnce_70 M v1_6 d12)
    else
      (Wo_workOnce_70 M v1_6 d10)
    else none
    else none
    else none
    else none
    else none)
  else none
theorem y_X4_workOnce : YV yX4_workOnce cX4_workOnce 3 none 0 := ⟨q787, q27, q788, q146, by decide +kernel, by decide +kernel, by decide +kernel, by decide +kernel⟩
theorem r_Wo_workOnce_70 {C : Cxt} {G : Geo} {M : Mem} {k : Nat} (hC : Cx C cX4_workOnce 3 "FrameHeirs$World" none rm_X4_workOnce G) (hk : LWd G k) (hk2 : 2 ≤ k) (hcl : GCl G) (v1 : Int32) (d : Sl) : Rz C 3 G (setS M k) (poM avV (setS M k)) 70 [(0, .inr (k, 10)), (1, .inl (.int v1))] [] d (Wo_workOnce_70 M v1 d) := by
  unfold Wo_workOnce_70
  refine z_aload_n (pc := 70) hC 0 rfl 0 rfl dX4_workOnce_70 ?_
  refine z_getc (pc := 71) hC (hk 10 rfl) f_10_1 q378 dX4_workOnce_71 ?_
  refine z_iload_n (pc := 74) hC 1 rfl 1 rfl dX4_workOnce_74 ?_
  refine z_piV (pc := 75) (st := []) hC y_X0_firstToDo q789 [.inl (.int v1)] rfl (hk 17 rfl) rfl rfl (c_X0_firstToDo hC.2.2.2.2.2.2.1 hk hk2) rfl ⟨rfl, rfl, (Nat.le_of_ble_eq_true rfl), (Nat.le_of_ble_eq_true rfl)⟩ (Nat.le_of_ble_eq_true rfl) dX4_workOnce_75 (fun r1 => ?_)
  refine z_if_ge (pc := 78) hC 114 rfl dX4_workOnce_78 ?_ ?_
  · exact z_vret (pc := 114) hC rfl dX4_workOnce_114
  · refine z_aload_n (pc := 81) hC 0 rfl 0 rfl dX4_workOnce_81 ?_
    refine z_getc (pc := 82) hC (hk 10 rfl) f_10_1 q378 dX4_workOnce_82 ?_
    refine z_iload_n (pc := 85) hC 1 rfl 1 rfl dX4_workOnce_85 ?_
    refine z_cvV (pc := 86) (st := []) hC y_X0_endJob q773 [.inl (.int v1)] rfl (hk 17 rfl) rfl rfl (c_X0_endJob hC.2.2.2.2.2.2.1 hk hk2) rfl ⟨rfl, rfl, (Nat.le_of_ble_eq_true rfl), (Nat.le_of_ble_eq_true rfl)⟩ (Nat.le_of_ble_eq_true rfl) dX4_workOnce_86 (fun r2 d3 => ?_)
    refine z_aload_n (pc := 89) hC 0 rfl 0 rfl dX4_workOnce_89 ?_
    refine z_dup (pc := 90) hC rfl dX4_workOnce_90 ?_
    refine zs_geti (pc := 91) hC (hk 10 rfl) f_10_3 q381 dX4_workOnce_91 ?_
    refine z_iconst (pc := 94) hC (1 : Int32) rfl dX4_workOnce_94 ?_
    refine z_isub (pc := 95) hC dX4_workOnce_95 ?_
    refine zs_puti (pc := 96) hC (hk 10 rfl) f_10_3 q381 dX4_workOnce_96 (fun d4 => ?_)
    refine z_aload_n (pc := 99) hC 0 rfl 0 rfl dX4_workOnce_99 ?_
    refine z_getc (pc := 100) hC (hk 10 rfl) f_10_2 q380 dX4_workOnce_100 ?_
    refine z_iconst (pc := 103) hC (4 : Int32) rfl dX4_workOnce_103 ?_
    refine z_aload_n (pc := 104) hC 0 rfl 0 rfl dX4_workOnce_104 ?_
    refine z_getc (pc := 105) hC (hk 10 rfl) f_10_2 q380 dX4_workOnce_105 ?_
    refine z_iconst (pc := 108) hC (0 : Int32) rfl dX4_workOnce_108 ?_
    refine z_bipush (pc := 109) hC (20 : Int32) rfl dX4_workOnce_109 ?_
    refine zs_cpi (pc := 111) hC (hk 11 rfl) (hk 11 rfl) (by decide) rfl rfl q627 q626 q625 q151 (Nat.le_of_ble_eq_true rfl) (by decide +kernel) dX4_workOnce_111 (fun d5 => ?_)
    exact z_vret (pc := 114) hC rfl dX4_workOnce_114
theorem r_Wo_workOnce {C : Cxt} {G : Geo} {M : Mem} {k : Nat} (hC : Cx C cX4_workOnce 3 "FrameHeirs$World" none rm_X4_workOnce G) (hk : LWd G k) (hk2 : 2 ≤ k) (hcl : GCl G) (d : Sl) : Rz C 3 G (setS M k) (poM avV (setS M k)) 0 [(0, .inr (k, 10))] [] d (Wo_workOnce M d) := by
  unfold Wo_workOnce
  refine z_aload_n (pc := 0) hC 0 rfl 0 rfl dX4_workOnce_0 ?_
  refine z_getc (pc := 1) hC (hk 10 rfl) f_10_2 q380 dX4_workOnce_1 ?_
  refine z_iconst (pc := 4) hC (0 : Int32) rfl dX4_workOnce_4 ?_
  refine zs_iald (pc := 5) hC (hk 11 rfl) rfl dX4_workOnce_5 ?_
  refine z_istore_n (pc := 6) (ls1 := fun v => [(1, .inl (.int v)), (0, .inr (k, 10))]) hC 1 rfl (by decide) (fun v => rfl) dX4_workOnce_6 (fun v1_6 => ?_)
  refine z_aload_n (pc := 7) hC 0 rfl 1 rfl dX4_workOnce_7 ?_
  refine z_getc (pc := 8) hC (hk 10 rfl) f_10_1 q378 dX4_workOnce_8 ?_
  refine z_iload_n (pc := 11) hC 1 rfl 0 rfl dX4_workOnce_11 ?_
  refine z_piV (pc := 12) (st := []) hC y_X0_firstToDo q789 [.inl (.int v1_6)] rfl (hk 17 rfl) rfl rfl (c_X0_firstToDo hC.2.2.2.2.2.2.1 hk hk2) rfl ⟨rfl, rfl, (Nat.le_of_ble_eq_true rfl), (Nat.le_of_ble_eq_true rfl)⟩ (Nat.le_of_ble_eq_true rfl) dX4_workOnce_12 (fun r7 => ?_)
  refine z_istore_n (pc := 15) (ls1 := fun v => [(2, .inl (.int v)), (1, .inl (.int v1_6)), (0, .inr (k, 10))]) hC 2 rfl (by decide) (fun v => rfl) dX4_workOnce_15 (fun v2_8 => ?_)
  refine z_iload_n (pc := 16) hC 2 rfl 0 rfl dX4_workOnce_16 ?_
  refine z_if_lt (pc := 17) hC 70 rfl dX4_workOnce_17 ?_ ?_
  · exact z_sub [2, 1] rfl (r_Wo_workOnce_70 hC hk hk2 hcl v1_6 d)
  · refine z_aload_n (pc := 20) hC 0 rfl 2 rfl dX4_workOnce_20 ?_
    refine z_getc (pc := 21) hC (hk 10 rfl) f_10_1 q378 dX4_workOnce_21 ?_
    refine z_getc (pc := 24) hC (hk 17 rfl) f_17_11 q319 dX4_workOnce_24 ?_
    refine z_iload_n (pc := 27) hC 2 rfl 0 rfl dX4_workOnce_27 ?_
    refine z_iconst (pc := 28) hC (0 : Int32) rfl dX4_workOnce_28 ?_
    refine zs_iast (pc := 29) hC (hk 29 rfl) (by decide) rfl dX4_workOnce_29 (fun d9 => ?_)
    refine z_aload_n (pc := 30) hC 0 rfl 2 rfl dX4_workOnce_30 ?_
    refine z_getc (pc := 31) hC (hk 10 rfl) f_10_1 q378 dX4_workOnce_31 ?_
    refine z_getc (pc := 34) hC (hk 17 rfl) f_17_4 q307 dX4_workOnce_34 ?_
    refine z_iload_n (pc := 37) hC 2 rfl 0 rfl dX4_workOnce_37 ?_
    refine z_dup2 (pc := 38) hC rfl rfl dX4_workOnce_38 ?_
    refine zs_iald (pc := 39) hC (hk 22 rfl) rfl dX4_workOnce_39 ?_
    refine z_aload_n (pc := 40) hC 0 rfl 2 rfl dX4_workOnce_40 ?_
    refine z_getc (pc := 41) hC (hk 10 rfl) f_10_2 q380 dX4_workOnce_41 ?_
    refine z_iconst (pc := 44) hC (3 : Int32) rfl dX4_workOnce_44 ?_
    refine zs_iald (pc := 45) hC (hk 11 rfl) rfl dX4_workOnce_45 ?_
    refine z_iconst (pc := 46) hC (-1 : Int32) rfl dX4_workOnce_46 ?_
    refine z_ixor (pc := 47) hC dX4_workOnce_47 ?_
    refine z_iand (pc := 48) hC dX4_workOnce_48 ?_
    refine zs_iast (pc := 49) hC (hk 22 rfl) (by decide) rfl dX4_workOnce_49 (fun d10 => ?_)
    refine z_aload_n (pc := 50) hC 0 rfl 2 rfl dX4_workOnce_50 ?_
    refine z_getc (pc := 51) hC (hk 10 rfl) f_10_1 q378 dX4_workOnce_51 ?_
    refine z_getc (pc := 54) hC (hk 17 rfl) f_17_4 q307 dX4_workOnce_54 ?_
    refine z_iload_n (pc := 57) hC 2 rfl 0 rfl dX4_workOnce_57 ?_
    refine zs_iald (pc := 58) hC (hk 22 rfl) rfl dX4_workOnce_58 ?_
    refine z_if_ne (pc := 59) hC 70 rfl dX4_workOnce_59 ?_ ?_
    · exact z_sub [2, 1] rfl (r_Wo_workOnce_70 hC hk hk2 hcl v1_6 d10)
    · refine z_aload_n (pc := 62) hC 0 rfl 2 rfl dX4_workOnce_62 ?_
      refine z_getc (pc := 63) hC (hk 10 rfl) f_10_1 q378 dX4_workOnce_63 ?_
      refine z_iload_n (pc := 66) hC 2 rfl 0 rfl dX4_workOnce_66 ?_
      refine z_cvV (pc := 67) (st := []) hC y_X0_remove q793 [.inl (.int v2_8)] rfl (hk 17 rfl) rfl rfl (c_X0_remove hC.2.2.2.2.2.2.1 hk hk2) rfl ⟨rfl, rfl, (Nat.le_of_ble_eq_true rfl), (Nat.le_of_ble_eq_true rfl)⟩ (Nat.le_of_ble_eq_true rfl) dX4_workOnce_67 (fun r11 d12 => ?_)
      exact z_sub [2, 1] rfl (r_Wo_workOnce_70 hC hk hk2 hcl v1_6 d12)
theorem c_X4_workOnce {G : Geo} {M : Mem} {k : Nat} (hG : GOk G) (hk : LWd G k) (hk2 : 2 ≤ k) (hcl : GCl G) {d : Sl} (l : Launch) (r : Unit) (d1 : Sl) (h : Wo_workOnce M d = some (r, d1)) : Mt l yX4_workOnce cX4_workOnce 3 none rm_X4_workOnce G [.inr (k, 10)] ((setS M k) d) (avV r) ((setS M k) d1) :=
  mt_of (mem := (setS M k)) (po := poM avV (setS M k)) (x0 := d) (t := (r, d1)) rfl hG [.inr (k, 10)] (Nat.le_of_ble_eq_true rfl) rfl (fun C hC => r_Wo_workOnce hC hk hk2 hcl d) h
-- FrameHeirs$World.workOn(I)I
abbrev rm_X4_workOn : Room := { frames := 4, cells := 0, slots := 0, locals := 92 }
theorem dX4_workOn_0 : decode cX4_workOn 0 = .ok (.iconst 0, 1) := by decide +kernel
theorem dX4_workOn_1 : decode cX4_workOn 1 = .ok (.istore_n 2, 1) := by decide +kernel
theorem dX4_workOn_2 : decode cX4_workOn 2 = .ok (.iload_n 2, 1) := by decide +kernel
theorem dX4_workOn_3 : decode cX4_workOn 3 = .ok (.iload_n 1, 1) := by decide +kernel
theorem dX4_workOn_4 : decode cX4_workOn 4 = .ok (.if_icmp .ge 20, 3) := by decide +kernel
theorem dX4_workOn_7 : decode cX4_workOn 7 = .ok (.aload_n 0, 1) := by decide +kernel
theorem dX4_workOn_8 : decode cX4_workOn 8 = .ok (.getfield 22, 3) := by decide +kernel
theorem dX4_workOn_11 : decode cX4_workOn 11 = .ok (.ifCond .le 13, 3) := by decide +kernel
theorem dX4_workOn_14 : decode cX4_workOn 14 = .ok (.aload_n 0, 1) := by decide +kernel
theorem dX4_workOn_15 : decode cX4_workOn 15 = .ok (.invokevirtual 201, 3) := by decide +kernel
theorem dX4_workOn_18 : decode cX4_workOn 18 = .ok (.iinc 2 1, 3) := by decide +kernel
theorem dX4_workOn_21 : decode cX4_workOn 21 = .ok (.goto (-19), 3) := by decide +kernel
theorem dX4_workOn_24 : decode cX4_workOn 24 = .ok (.aload_n 0, 1) := by decide +kernel
theorem dX4_workOn_25 : decode cX4_workOn 25 = .ok (.dup, 1) := by decide +kernel
theorem dX4_workOn_26 : decode cX4_workOn 26 = .ok (.getfield 56, 3) := by decide +kernel
theorem dX4_workOn_29 : decode cX4_workOn 29 = .ok (.iload_n 2, 1) := by decide +kernel
theorem dX4_workOn_30 : decode cX4_workOn 30 = .ok (.iadd, 1) := by decide +kernel
theorem dX4_workOn_31 : decode cX4_workOn 31 = .ok (.putfield 56, 3) := by decide +kernel
theorem dX4_workOn_34 : decode cX4_workOn 34 = .ok (.iload_n 2, 1) := by decide +kernel
theorem dX4_workOn_35 : decode cX4_workOn 35 = .ok (.ireturn, 1) := by decide +kernel
def Wo_workOn_24 (M : Mem) (v2 : Int32) (d : Sl) : Option (Int32 × Sl) :=
  bnd (wr d 10 14 ((d 10 14) + v2)) fun d1 =>
  some (v2, d1)
def Wo_workOn_2 (M : Mem) : Nat → Int32 → Int32 → Sl → Option (Int32 × Sl)
  | 0, _, _, _ => none
  | n + 1, v1, v2, d =>
    if v1 ≤ v2 then
      (Wo_workOn_24 M v2 d)
    else
      (if (d 10 3) ≤ 0 then
        (Wo_workOn_24 M v2 d)
      else
        (bd (Wo_workOnce M d) fun r2 d3 =>
        bnd (v2 + (1 : Int32)) fun v2_4 =>
        Wo_workOn_2 M n v1 v2_4 d3))
def Wo_workOn (M : Mem) (d : Sl) (a1 : Int32) : Option (Int32 × Sl) :=
  bnd (0 : Int32) fun v2_5 =>
  Wo_workOn_2 M FU a1 v2_5 d
theorem y_X4_workOn : YV yX4_workOn cX4_workOn 3 (some .int) 1 := ⟨q782, q783, q784, q146, by decide +kernel, by decide +kernel, by decide +kernel, by decide +kernel⟩
theorem r_Wo_workOn_24 {C : Cxt} {G : Geo} {M : Mem} {k : Nat} (hC : Cx C cX4_workOn 3 "FrameHeirs$World" (some .int) rm_X4_workOn G) (hk : LWd G k) (hk2 : 2 ≤ k) (hcl : GCl G) (v2 : Int32) (d : Sl) : Rz C 3 G (setS M k) (poM avI (setS M k)) 24 [(0, .inr (k, 10)), (2, .inl (.int v2))] [] d (Wo_workOn_24 M v2 d) := by
  unfold Wo_workOn_24
  refine z_aload_n (pc := 24) hC 0 rfl 0 rfl dX4_workOn_24 ?_
  refine z_dup (pc := 25) hC rfl dX4_workOn_25 ?_
  refine zs_geti (pc := 26) hC (hk 10 rfl) f_10_14 q397 dX4_workOn_26 ?_
  refine z_iload_n (pc := 29) hC 2 rfl 1 rfl dX4_workOn_29 ?_
  refine z_iadd (pc := 30) hC dX4_workOn_30 ?_
  refine zs_puti (pc := 31) hC (hk 10 rfl) f_10_14 q397 dX4_workOn_31 (fun d1 => ?_)
  refine z_iload_n (pc := 34) hC 2 rfl 1 rfl dX4_workOn_34 ?_
  exact z_iret (pc := 35) hC rfl dX4_workOn_35
theorem r_Wo_workOn_2 {C : Cxt} {G : Geo} {M : Mem} {k : Nat} (hC : Cx C cX4_workOn 3 "FrameHeirs$World" (some .int) rm_X4_workOn G) (hk : LWd G k) (hk2 : 2 ≤ k) (hcl : GCl G) : ∀ (n : Nat) (v1 : Int32) (v2 : Int32) (d : Sl), Rz C 3 G (setS M k) (poM avI (setS M k)) 2 [(0, .inr (k, 10)), (1, .inl (.int v1)), (2, .inl (.int v2))] [] d (Wo_workOn_2 M n v1 v2 d) := by
  intro n
  induction n with
  | zero => intros; exact z_none
  | succ n ih =>
    intro v1 v2 d
    rw [Wo_workOn_2]
    refine z_iload_n (pc := 2) hC 2 rfl 2 rfl dX4_workOn_2 ?_
    refine z_iload_n (pc := 3) hC 1 rfl 1 rfl dX4_workOn_3 ?_
    refine z_icmp_ge (pc := 4) hC 24 rfl dX4_workOn_4 ?_ ?_
    · exact z_sub [0, 2] rfl (r_Wo_workOn_24 hC hk hk2 hcl v2 d)
    · refine z_aload_n (pc := 7) hC 0 rfl 0 rfl dX4_workOn_7 ?_
      refine zs_geti (pc := 8) hC (hk 10 rfl) f_10_3 q381 dX4_workOn_8 ?_
      refine z_if_le (pc := 11) hC 24 rfl dX4_workOn_11 ?_ ?_
      · exact z_sub [0, 2] rfl (r_Wo_workOn_24 hC hk hk2 hcl v2 d)
      · refine z_aload_n (pc := 14) hC 0 rfl 0 rfl dX4_workOn_14 ?_
        refine z_cvV (pc := 15) (st := []) hC y_X4_workOnce q785 [] rfl (hk 10 rfl) rfl rfl (c_X4_workOnce hC.2.2.2.2.2.2.1 hk hk2 hcl) rfl ⟨rfl, rfl, (Nat.le_of_ble_eq_true rfl), (Nat.le_of_ble_eq_true rfl)⟩ (Nat.le_of_ble_eq_true rfl) dX4_workOn_15 (fun r2 d3 => ?_)
        refine z_iinc (pc := 18) (ls1 := fun v => [(2, .inl (.int v)), (0, .inr (k, 10)), (1, .inl (.int v1))]) hC 2 2 (by decide) (1 : Int32) rfl rfl (fun v => rfl) dX4_workOn_18 (fun v2_4 => ?_)
        refine z_goto (pc := 21) hC 2 rfl dX4_workOn_21 ?_
        exact z_sub [1, 2, 0] rfl (ih v1 v2_4 d3)
theorem r_Wo_workOn {C : Cxt} {G : Geo} {M : Mem} {k : Nat} (hC : Cx C cX4_workOn 3 "FrameHeirs$World" (some .int) rm_X4_workOn G) (hk : LWd G k) (hk2 : 2 ≤ k) (hcl : GCl G) (d : Sl) (a1 : Int32) : Rz C 3 G (setS M k) (poM avI (setS M k)) 0 [(0, .inr (k, 10)), (1, .inl (.int a1))] [] d (Wo_workOn M d a1) := by
  unfold Wo_workOn
  refine z_iconst (pc := 0) hC (0 : Int32) rfl dX4_workOn_0 ?_
  refine z_istore_n (pc := 1) (ls1 := fun v => [(2, .inl (.int v)), (0, .inr (k, 10)), (1, .inl (.int a1))]) hC 2 rfl (by decide) (fun v => rfl) dX4_workOn_1 (fun v2_5 => ?_)
  exact z_sub [1, 2, 0] rfl (r_Wo_workOn_2 hC hk hk2 hcl FU a1 v2_5 d)
theorem c_X4_workOn {G : Geo} {M : Mem} {k : Nat} (hG : GOk G) (hk : LWd G k) (hk2 : 2 ≤ k) (hcl : GCl G) {d : Sl} {a1 : Int32} (l : Launch) (r : Int32) (d1 : Sl) (h : Wo_workOn M d a1 = some (r, d1)) : Mt l yX4_workOn cX4_workOn 3 (some .int) rm_X4_workOn G [.inr (k, 10), .inl (.int a1)] ((setS M k) d) (avI r) ((setS M k) d1) :=
  mt_of (mem := (setS M k)) (po := poM avI (setS M k)) (x0 := d) (t := (r, d1)) rfl hG [.inr (k, 10), .inl (.int a1)] (Nat.le_of_ble_eq_true rfl) rfl (fun C hC => r_Wo_workOn hC hk hk2 hcl d a1) h
-- FrameHeirs$World.tellJob(II)I
abbrev rm_X4_tellJob : Room := { frames := 1, cells := 0, slots := 0, locals := 23 }
theorem dX4_tellJob_0 : decode cX4_tellJob 0 = .ok (.iload_n 1, 1) := by decide +kernel
theorem dX4_tellJob_1 : decode cX4_tellJob 1 = .ok (.ifCond .lt 9, 3) := by decide +kernel
theorem dX4_tellJob_4 : decode cX4_tellJob 4 = .ok (.iload_n 1, 1) := by decide +kernel
theorem dX4_tellJob_5 : decode cX4_tellJob 5 = .ok (.bipush 6, 2) := by decide +kernel
theorem dX4_tellJob_7 : decode cX4_tellJob 7 = .ok (.if_icmp .lt 5, 3) := by decide +kernel
theorem dX4_tellJob_10 : decode cX4_tellJob 10 = .ok (.iconst (-1), 1) := by decide +kernel
theorem dX4_tellJob_11 : decode cX4_tellJob 11 = .ok (.ireturn, 1) := by decide +kernel
theorem dX4_tellJob_12 : decode cX4_tellJob 12 = .ok (.iload_n 1, 1) := by decide +kernel
theorem dX4_tellJob_13 : decode cX4_tellJob 13 = .ok (.iconst 4, 1) := by decide +kernel
theorem dX4_tellJob_14 : decode cX4_tellJob 14 = .ok (.imul, 1) := by decide +kernel
theorem dX4_tellJob_15 : decode cX4_tellJob 15 = .ok (.istore_n 3, 1) := by decide +kernel
theorem dX4_tellJob_16 : decode cX4_tellJob 16 = .ok (.iload_n 2, 1) := by decide +kernel
theorem dX4_tellJob_17 : decode cX4_tellJob 17 = .ok (.tableswitch 59 0 2 #[27, 36, 45], 27) := by decide +kernel
theorem dX4_tellJob_44 : decode cX4_tellJob 44 = .ok (.aload_n 0, 1) := by decide +kernel
theorem dX4_tellJob_45 : decode cX4_tellJob 45 = .ok (.getfield 18, 3) := by decide +kernel
theorem dX4_tellJob_48 : decode cX4_tellJob 48 = .ok (.iload_n 3, 1) := by decide +kernel
theorem dX4_tellJob_49 : decode cX4_tellJob 49 = .ok (.iconst 1, 1) := by decide +kernel
theorem dX4_tellJob_50 : decode cX4_tellJob 50 = .ok (.iadd, 1) := by decide +kernel
theorem dX4_tellJob_51 : decode cX4_tellJob 51 = .ok (.iaload, 1) := by decide +kernel
theorem dX4_tellJob_52 : decode cX4_tellJob 52 = .ok (.ireturn, 1) := by decide +kernel
theorem dX4_tellJob_53 : decode cX4_tellJob 53 = .ok (.aload_n 0, 1) := by decide +kernel
theorem dX4_tellJob_54 : decode cX4_tellJob 54 = .ok (.getfield 18, 3) := by decide +kernel
theorem dX4_tellJob_57 : decode cX4_tellJob 57 = .ok (.iload_n 3, 1) := by decide +kernel
theorem dX4_tellJob_58 : decode cX4_tellJob 58 = .ok (.iconst 2, 1) := by decide +kernel
theorem dX4_tellJob_59 : decode cX4_tellJob 59 = .ok (.iadd, 1) := by decide +kernel
theorem dX4_tellJob_60 : decode cX4_tellJob 60 = .ok (.iaload, 1) := by decide +kernel
theorem dX4_tellJob_61 : decode cX4_tellJob 61 = .ok (.ireturn, 1) := by decide +kernel
theorem dX4_tellJob_62 : decode cX4_tellJob 62 = .ok (.aload_n 0, 1) := by decide +kernel
theorem dX4_tellJob_63 : decode cX4_tellJob 63 = .ok (.getfield 12, 3) := by decide +kernel
theorem dX4_tellJob_66 : decode cX4_tellJob 66 = .ok (.aload_n 0, 1) := by decide +kernel
theorem dX4_tellJob_67 : decode cX4_tellJob 67 = .ok (.getfield 18, 3) := by decide +kernel
theorem dX4_tellJob_70 : decode cX4_tellJob 70 = .ok (.iload_n 3, 1) := by decide +kernel
theorem dX4_tellJob_71 : decode cX4_tellJob 71 = .ok (.iaload, 1) := by decide +kernel
theorem dX4_tellJob_72 : decode cX4_tellJob 72 = .ok (.invokevirtual 213, 3) := by decide +kernel
theorem dX4_tellJob_75 : decode cX4_tellJob 75 = .ok (.ireturn, 1) := by decide +kernel
theorem dX4_tellJob_76 : decode cX4_tellJob 76 = .ok (.aload_n 0, 1) := by decide +kernel
theorem dX4_tellJob_77 : decode cX4_tellJob 77 = .ok (.getfield 18, 3) := by decide +kernel
theorem dX4_tellJob_80 : decode cX4_tellJob 80 = .ok (.iload_n 3, 1) := by decide +kernel
theorem dX4_tellJob_81 : decode cX4_tellJob 81 = .ok (.iconst 3, 1) := by decide +kernel
theorem dX4_tellJob_82 : decode cX4_tellJob 82 = .ok (.iadd, 1) := by decide +kernel
theorem dX4_tellJob_83 : decode cX4_tellJob 83 = .ok (.iaload, 1) := by decide +kernel
theorem dX4_tellJob_84 : decode cX4_tellJob 84 = .ok (.ireturn, 1) := by decide +kernel
def Wo_tellJob (M : Mem) (d : Sl) (a1 : Int32) (a2 : Int32) : Option Int32 :=
  if a1 < 0 then
    (some (-1 : Int32))
  else
    (if a1 < (6 : Int32) then
      (bnd (a1 * (4 : Int32)) fun v3_1 =>
      if a2 = (0 : Int32) then
        (if inb (v3_1 + (1 : Int32)) 24 then
        some (d 11 (ix (v3_1 + (1 : Int32))))
        else none)
      else
        (if a2 = (1 : Int32) then
          (if inb (v3_1 + (2 : Int32)) 24 then
          some (d 11 (ix (v3_1 + (2 : Int32))))
          else none)
        else
          (if a2 = (2 : Int32) then
            (if inb v3_1 24 then
            bp (De_leftToDo d (d 11 (ix v3_1))) fun r2 =>
            some r2
            else none)
          else
            (if inb (v3_1 + (3 : Int32)) 24 then
            some (d 11 (ix (v3_1 + (3 : Int32))))
            else none))))
    else
      (some (-1 : Int32)))
theorem y_X4_tellJob : YV yX4_tellJob cX4_tellJob 4 (some .int) 2 := ⟨q1054, q1055, q1056, q146, by decide +kernel, by decide +kernel, by decide +kernel, by decide +kernel⟩
theorem r_Wo_tellJob {C : Cxt} {G : Geo} {M : Mem} {k : Nat} (hC : Cx C cX4_tellJob 4 "FrameHeirs$World" (some .int) rm_X4_tellJob G) (hk : LWd G k) (hk2 : 2 ≤ k) (hcl : GCl G) (d : Sl) (a1 : Int32) (a2 : Int32) : Rz C 4 G (setS M k) (poP avI ((setS M k) d)) 0 [(0, .inr (k, 10)), (1, .inl (.int a1)), (2, .inl (.int a2))] [] d (Wo_tellJob M d a1 a2) := by
  unfold Wo_tellJob
  refine z_iload_n (pc := 0) hC 1 rfl 1 rfl dX4_tellJob_0 ?_
  refine z_if_lt (pc := 1) hC 10 rfl dX4_tellJob_1 ?_ ?_
  · refine z_iconst (pc := 10) hC (-1 : Int32) rfl dX4_tellJob_10 ?_
    exact z_iret (pc := 11) hC rfl dX4_tellJob_11
  · refine z_iload_n (pc := 4) hC 1 rfl 1 rfl dX4_tellJob_4 ?_
    refine z_bipush (pc := 5) hC (6 : Int32) rfl dX4_tellJob_5 ?_
    refine z_icmp_lt (pc := 7) hC 12 rfl dX4_tellJob_7 ?_ ?_
    · refine z_iload_n (pc := 12) hC 1 rfl 1 rfl dX4_tellJob_12 ?_
      refine z_iconst (pc := 13) hC (4 : Int32) rfl dX4_tellJob_13 ?_
      refine z_imul (pc := 14) hC dX4_tellJob_14 ?_
      refine z_istore_n (pc := 15) (ls1 := fun v => [(3, .inl (.int v)), (0, .inr (k, 10)), (1, .inl (.int a1)), (2, .inl (.int a2))]) hC 3 rfl (by decide) (fun v => rfl) dX4_tellJob_15 (fun v3_1 => ?_)
      refine z_iload_n (pc := 16) hC 2 rfl 3 rfl dX4_tellJob_16 ?_
      refine z_ite (fun e => ?_) (fun e0 => ?_)
      · refine z_tswIn (pc := 17) hC 0 44 (by rw [e]; rfl) (by decide) (by decide) rfl rfl dX4_tellJob_17 ?_
        refine z_aload_n (pc := 44) hC 0 rfl 1 rfl dX4_tellJob_44 ?_
        refine z_getc (pc := 45) hC (hk 10 rfl) f_10_2 q380 dX4_tellJob_45 ?_
        refine z_iload_n (pc := 48) hC 3 rfl 0 rfl dX4_tellJob_48 ?_
        refine z_iconst (pc := 49) hC (1 : Int32) rfl dX4_tellJob_49 ?_
        refine z_iadd (pc := 50) hC dX4_tellJob_50 ?_
        refine zs_iald (pc := 51) hC (hk 11 rfl) rfl dX4_tellJob_51 ?_
        exact z_iret (pc := 52) hC rfl dX4_tellJob_52
      · refine z_ite (fun e => ?_) (fun e1 => ?_)
        · refine z_tswIn (pc := 17) hC 1 53 (by rw [e]; rfl) (by decide) (by decide) rfl rfl dX4_tellJob_17 ?_
          refine z_aload_n (pc := 53) hC 0 rfl 1 rfl dX4_tellJob_53 ?_
          refine z_getc (pc := 54) hC (hk 10 rfl) f_10_2 q380 dX4_tellJob_54 ?_
          refine z_iload_n (pc := 57) hC 3 rfl 0 rfl dX4_tellJob_57 ?_
          refine z_iconst (pc := 58) hC (2 : Int32) rfl dX4_tellJob_58 ?_
          refine z_iadd (pc := 59) hC dX4_tellJob_59 ?_
          refine zs_iald (pc := 60) hC (hk 11 rfl) rfl dX4_tellJob_60 ?_
          exact z_iret (pc := 61) hC rfl dX4_tellJob_61
        · refine z_ite (fun e => ?_) (fun e2 => ?_)
          · refine z_tswIn (pc := 17) hC 2 62 (by rw [e]; rfl) (by decide) (by decide) rfl rfl dX4_tellJob_17 ?_
            refine z_aload_n (pc := 62) hC 0 rfl 1 rfl dX4_tellJob_62 ?_
            refine z_getc (pc := 63) hC (hk 10 rfl) f_10_1 q378 dX4_tellJob_63 ?_
            refine z_aload_n (pc := 66) hC 0 rfl 1 rfl dX4_tellJob_66 ?_
            refine z_getc (pc := 67) hC (hk 10 rfl) f_10_2 q380 dX4_tellJob_67 ?_
            refine z_iload_n (pc := 70) hC 3 rfl 0 rfl dX4_tellJob_70 ?_
            refine zs_iald (pc := 71) hC (hk 11 rfl) rfl dX4_tellJob_71 ?_
            refine z_piV (pc := 72) (st := []) hC y_X0_leftToDo q1057 [.inl (.int (d 11 (ix v3_1)))] rfl (hk 17 rfl) rfl rfl (c_X0_leftToDo hC.2.2.2.2.2.2.1 hk hk2) rfl ⟨rfl, rfl, (Nat.le_of_ble_eq_true rfl), (Nat.le_of_ble_eq_true rfl)⟩ (Nat.le_of_ble_eq_true rfl) dX4_tellJob_72 (fun r2 => ?_)
            exact z_iret (pc := 75) hC rfl dX4_tellJob_75
          · have e0_ : (a2).toInt ≠ 0 := fun h => e0 (Int32.toInt_inj.mp (by rw [h]; rfl))
            have e1_ : (a2).toInt ≠ 1 := fun h => e1 (Int32.toInt_inj.mp (by rw [h]; rfl))
            have e2_ : (a2).toInt ≠ 2 := fun h => e2 (Int32.toInt_inj.mp (by rw [h]; rfl))
            refine z_tswOut (pc := 17) hC 76 (by omega) rfl dX4_tellJob_17 ?_
            refine z_aload_n (pc := 76) hC 0 rfl 1 rfl dX4_tellJob_76 ?_
            refine z_getc (pc := 77) hC (hk 10 rfl) f_10_2 q380 dX4_tellJob_77 ?_
            refine z_iload_n (pc := 80) hC 3 rfl 0 rfl dX4_tellJob_80 ?_
            refine z_iconst (pc := 81) hC (3 : Int32) rfl dX4_tellJob_81 ?_
            refine z_iadd (pc := 82) hC dX4_tellJob_82 ?_
            refine zs_iald (pc := 83) hC (hk 11 rfl) rfl dX4_tellJob_83 ?_
            exact z_iret (pc := 84) hC rfl dX4_tellJob_84
    · refine z_iconst (pc := 10) hC (-1 : Int32) rfl dX4_tellJob_10 ?_
      exact z_iret (pc := 11) hC rfl dX4_tellJob_11
theorem c_X4_tellJob {G : Geo} {M : Mem} {k : Nat} (hG : GOk G) (hk : LWd G k) (hk2 : 2 ≤ k) (hcl : GCl G) {d : Sl} {a1 : Int32} {a2 : Int32} (l : Launch) (r : Int32) (h : Wo_tellJob M d a1 a2 = some r) : Mt l yX4_tellJob cX4_tellJob 4 (some .int) rm_X4_tellJob G [.inr (k, 10), .inl (.int a1), .inl (.int a2)] ((setS M k) d) (avI r) ((setS M k) d) :=
  mt_of (mem := (setS M k)) (po := poP avI ((setS M k) d)) (x0 := d) (t := r) rfl hG [.inr (k, 10), .inl (.int a1), .inl (.int a2)] (Nat.le_of_ble_eq_true rfl) rfl (fun C hC => r_Wo_tellJob hC hk hk2 hcl d a1 a2) h
-- FrameHeirs$World.startWait(III)V
abbrev rm_X4_startWait : Room := { frames := 0, cells := 0, slots := 0, locals := 0 }
theorem dX4_startWait_0 : decode cX4_startWait 0 = .ok (.aload_n 0, 1) := by decide +kernel
theorem dX4_startWait_1 : decode cX4_startWait 1 = .ok (.getfield 29, 3) := by decide +kernel
theorem dX4_startWait_4 : decode cX4_startWait 4 = .ok (.iload_n 1, 1) := by decide +kernel
theorem dX4_startWait_5 : decode cX4_startWait 5 = .ok (.iload_n 2, 1) := by decide +kernel
theorem dX4_startWait_6 : decode cX4_startWait 6 = .ok (.iastore, 1) := by decide +kernel
theorem dX4_startWait_7 : decode cX4_startWait 7 = .ok (.aload_n 0, 1) := by decide +kernel
theorem dX4_startWait_8 : decode cX4_startWait 8 = .ok (.getfield 32, 3) := by decide +kernel
theorem dX4_startWait_11 : decode cX4_startWait 11 = .ok (.iload_n 1, 1) := by decide +kernel
theorem dX4_startWait_12 : decode cX4_startWait 12 = .ok (.iload_n 3, 1) := by decide +kernel
theorem dX4_startWait_13 : decode cX4_startWait 13 = .ok (.iastore, 1) := by decide +kernel
theorem dX4_startWait_14 : decode cX4_startWait 14 = .ok (.aload_n 0, 1) := by decide +kernel
theorem dX4_startWait_15 : decode cX4_startWait 15 = .ok (.dup, 1) := by decide +kernel
theorem dX4_startWait_16 : decode cX4_startWait 16 = .ok (.getfield 38, 3) := by decide +kernel
theorem dX4_startWait_19 : decode cX4_startWait 19 = .ok (.iconst 1, 1) := by decide +kernel
theorem dX4_startWait_20 : decode cX4_startWait 20 = .ok (.iadd, 1) := by decide +kernel
theorem dX4_startWait_21 : decode cX4_startWait 21 = .ok (.putfield 38, 3) := by decide +kernel
theorem dX4_startWait_24 : decode cX4_startWait 24 = .ok (.aload_n 0, 1) := by decide +kernel
theorem dX4_startWait_25 : decode cX4_startWait 25 = .ok (.getfield 35, 3) := by decide +kernel
theorem dX4_startWait_28 : decode cX4_startWait 28 = .ok (.iload_n 1, 1) := by decide +kernel
theorem dX4_startWait_29 : decode cX4_startWait 29 = .ok (.aload_n 0, 1) := by decide +kernel
theorem dX4_startWait_30 : decode cX4_startWait 30 = .ok (.getfield 38, 3) := by decide +kernel
theorem dX4_startWait_33 : decode cX4_startWait 33 = .ok (.iastore, 1) := by decide +kernel
theorem dX4_startWait_34 : decode cX4_startWait 34 = .ok (.aload_n 0, 1) := by decide +kernel
theorem dX4_startWait_35 : decode cX4_startWait 35 = .ok (.dup, 1) := by decide +kernel
theorem dX4_startWait_36 : decode cX4_startWait 36 = .ok (.getfield 50, 3) := by decide +kernel
theorem dX4_startWait_39 : decode cX4_startWait 39 = .ok (.iconst 1, 1) := by decide +kernel
theorem dX4_startWait_40 : decode cX4_startWait 40 = .ok (.iadd, 1) := by decide +kernel
theorem dX4_startWait_41 : decode cX4_startWait 41 = .ok (.putfield 50, 3) := by decide +kernel
theorem dX4_startWait_44 : decode cX4_startWait 44 = .ok (.return_, 1) := by decide +kernel
def Wo_startWait (M : Mem) (d : Sl) (a1 : Int32) (a2 : Int32) (a3 : Int32) : Option (Unit × Sl) :=
  if inb a1 6 then
  bnd (wr d 12 (ix a1) a2) fun d1 =>
  if inb a1 6 then
  bnd (wr d1 13 (ix a1) a3) fun d2 =>
  bnd (wr d2 10 8 ((d2 10 8) + (1 : Int32))) fun d3 =>
  if inb a1 6 then
  bnd (wr d3 14 (ix a1) (d3 10 8)) fun d4 =>
  bnd (wr d4 10 12 ((d4 10 12) + (1 : Int32))) fun d5 =>
  some ((), d5)
  else none
  else none
  else none
theorem y_X4_startWait : YV yX4_startWait cX4_startWait 4 none 3 := ⟨q815, q29, q816, q146, by decide +kernel, by decide +kernel, by decide +kernel, by decide +kernel⟩
theorem r_Wo_startWait {C : Cxt} {G : Geo} {M : Mem} {k : Nat} (hC : Cx C cX4_startWait 4 "FrameHeirs$World" none rm_X4_startWait G) (hk : LWd G k) (hk2 : 2 ≤ k) (hcl : GCl G) (d : Sl) (a1 : Int32) (a2 : Int32) (a3 : Int32) : Rz C 4 G (setS M k) (poM avV (setS M k)) 0 [(0, .inr (k, 10)), (1, .inl (.int a1)), (2, .inl (.int a2)), (3, .inl (.int a3))] [] d (Wo_startWait M d a1 a2 a3) := by
  unfold Wo_startWait
  refine z_aload_n (pc := 0) hC 0 rfl 0 rfl dX4_startWait_0 ?_
  refine z_getc (pc := 1) hC (hk 10 rfl) f_10_5 q384 dX4_startWait_1 ?_
  refine z_iload_n (pc := 4) hC 1 rfl 1 rfl dX4_startWait_4 ?_
  refine z_iload_n (pc := 5) hC 2 rfl 2 rfl dX4_startWait_5 ?_
  refine zs_iast (pc := 6) hC (hk 12 rfl) (by decide) rfl dX4_startWait_6 (fun d1 => ?_)
  refine z_aload_n (pc := 7) hC 0 rfl 0 rfl dX4_startWait_7 ?_
  refine z_getc (pc := 8) hC (hk 10 rfl) f_10_6 q385 dX4_startWait_8 ?_
  refine z_iload_n (pc := 11) hC 1 rfl 1 rfl dX4_startWait_11 ?_
  refine z_iload_n (pc := 12) hC 3 rfl 3 rfl dX4_startWait_12 ?_
  refine zs_iast (pc := 13) hC (hk 13 rfl) (by decide) rfl dX4_startWait_13 (fun d2 => ?_)
  refine z_aload_n (pc := 14) hC 0 rfl 0 rfl dX4_startWait_14 ?_
  refine z_dup (pc := 15) hC rfl dX4_startWait_15 ?_
  refine zs_geti (pc := 16) hC (hk 10 rfl) f_10_8 q387 dX4_startWait_16 ?_
  refine z_iconst (pc := 19) hC (1 : Int32) rfl dX4_startWait_19 ?_
  refine z_iadd (pc := 20) hC dX4_startWait_20 ?_
  refine zs_puti (pc := 21) hC (hk 10 rfl) f_10_8 q387 dX4_startWait_21 (fun d3 => ?_)
  refine z_aload_n (pc := 24) hC 0 rfl 0 rfl dX4_startWait_24 ?_
  refine z_getc (pc := 25) hC (hk 10 rfl) f_10_7 q386 dX4_startWait_25 ?_
  refine z_iload_n (pc := 28) hC 1 rfl 1 rfl dX4_startWait_28 ?_
  refine z_aload_n (pc := 29) hC 0 rfl 0 rfl dX4_startWait_29 ?_
  refine zs_geti (pc := 30) hC (hk 10 rfl) f_10_8 q387 dX4_startWait_30 ?_
  refine zs_iast (pc := 33) hC (hk 14 rfl) (by decide) rfl dX4_startWait_33 (fun d4 => ?_)
  refine z_aload_n (pc := 34) hC 0 rfl 0 rfl dX4_startWait_34 ?_
  refine z_dup (pc := 35) hC rfl dX4_startWait_35 ?_
  refine zs_geti (pc := 36) hC (hk 10 rfl) f_10_12 q393 dX4_startWait_36 ?_
  refine z_iconst (pc := 39) hC (1 : Int32) rfl dX4_startWait_39 ?_
  refine z_iadd (pc := 40) hC dX4_startWait_40 ?_
  refine zs_puti (pc := 41) hC (hk 10 rfl) f_10_12 q393 dX4_startWait_41 (fun d5 => ?_)
  exact z_vret (pc := 44) hC rfl dX4_startWait_44
theorem c_X4_startWait {G : Geo} {M : Mem} {k : Nat} (hG : GOk G) (hk : LWd G k) (hk2 : 2 ≤ k) (hcl : GCl G) {d : Sl} {a1 : Int32} {a2 : Int32} {a3 : Int32} (l : Launch) (r : Unit) (d1 : Sl) (h : Wo_startWait M d a1 a2 a3 = some (r, d1)) : Mt l yX4_startWait cX4_startWait 4 none rm_X4_startWait G [.inr (k, 10), .inl (.int a1), .inl (.int a2), .inl (.int a3)] ((setS M k) d) (avV r) ((setS M k) d1) :=
  mt_of (mem := (setS M k)) (po := poM avV (setS M k)) (x0 := d) (t := (r, d1)) rfl hG [.inr (k, 10), .inl (.int a1), .inl (.int a2), .inl (.int a3)] (Nat.le_of_ble_eq_true rfl) rfl (fun C hC => r_Wo_startWait hC hk hk2 hcl d a1 a2 a3) h
-- FrameHeirs$World.touchPage(III)I
abbrev rm_X4_touchPage : Room := { frames := 2, cells := 0, slots := 0, locals := 43 }
theorem dX4_touchPage_0 : decode cX4_touchPage 0 = .ok (.aload_n 0, 1) := by decide +kernel
theorem dX4_touchPage_1 : decode cX4_touchPage 1 = .ok (.iload_n 1, 1) := by decide +kernel
theorem dX4_touchPage_2 : decode cX4_touchPage 2 = .ok (.iload_n 2, 1) := by decide +kernel
theorem dX4_touchPage_3 : decode cX4_touchPage 3 = .ok (.invokevirtual 216, 3) := by decide +kernel
theorem dX4_touchPage_6 : decode cX4_touchPage 6 = .ok (.ifCond .eq 27, 3) := by decide +kernel
theorem dX4_touchPage_9 : decode cX4_touchPage 9 = .ok (.iload_n 3, 1) := by decide +kernel
theorem dX4_touchPage_10 : decode cX4_touchPage 10 = .ok (.iconst 1, 1) := by decide +kernel
theorem dX4_touchPage_11 : decode cX4_touchPage 11 = .ok (.if_icmp .eq 13, 3) := by decide +kernel
theorem dX4_touchPage_14 : decode cX4_touchPage 14 = .ok (.iload_n 3, 1) := by decide +kernel
theorem dX4_touchPage_15 : decode cX4_touchPage 15 = .ok (.iconst 2, 1) := by decide +kernel
theorem dX4_touchPage_16 : decode cX4_touchPage 16 = .ok (.if_icmp .eq 8, 3) := by decide +kernel
theorem dX4_touchPage_19 : decode cX4_touchPage 19 = .ok (.iload_n 3, 1) := by decide +kernel
theorem dX4_touchPage_20 : decode cX4_touchPage 20 = .ok (.iconst 4, 1) := by decide +kernel
theorem dX4_touchPage_21 : decode cX4_touchPage 21 = .ok (.if_icmp .ne 12, 3) := by decide +kernel
theorem dX4_touchPage_24 : decode cX4_touchPage 24 = .ok (.aload_n 0, 1) := by decide +kernel
theorem dX4_touchPage_25 : decode cX4_touchPage 25 = .ok (.getfield 35, 3) := by decide +kernel
theorem dX4_touchPage_28 : decode cX4_touchPage 28 = .ok (.iload_n 1, 1) := by decide +kernel
theorem dX4_touchPage_29 : decode cX4_touchPage 29 = .ok (.iaload, 1) := by decide +kernel
theorem dX4_touchPage_30 : decode cX4_touchPage 30 = .ok (.ifCond .eq 5, 3) := by decide +kernel
theorem dX4_touchPage_33 : decode cX4_touchPage 33 = .ok (.iconst (-1), 1) := by decide +kernel
theorem dX4_touchPage_34 : decode cX4_touchPage 34 = .ok (.ireturn, 1) := by decide +kernel
theorem dX4_touchPage_35 : decode cX4_touchPage 35 = .ok (.aload_n 0, 1) := by decide +kernel
theorem dX4_touchPage_36 : decode cX4_touchPage 36 = .ok (.getfield 12, 3) := by decide +kernel
theorem dX4_touchPage_39 : decode cX4_touchPage 39 = .ok (.iload_n 1, 1) := by decide +kernel
theorem dX4_touchPage_40 : decode cX4_touchPage 40 = .ok (.iload_n 2, 1) := by decide +kernel
theorem dX4_touchPage_41 : decode cX4_touchPage 41 = .ok (.invokevirtual 106, 3) := by decide +kernel
theorem dX4_touchPage_44 : decode cX4_touchPage 44 = .ok (.istore 4, 2) := by decide +kernel
theorem dX4_touchPage_46 : decode cX4_touchPage 46 = .ok (.iload 4, 2) := by decide +kernel
theorem dX4_touchPage_48 : decode cX4_touchPage 48 = .ok (.ifCond .lt 51, 3) := by decide +kernel
theorem dX4_touchPage_51 : decode cX4_touchPage 51 = .ok (.aload_n 0, 1) := by decide +kernel
theorem dX4_touchPage_52 : decode cX4_touchPage 52 = .ok (.getfield 12, 3) := by decide +kernel
theorem dX4_touchPage_55 : decode cX4_touchPage 55 = .ok (.getfield 155, 3) := by decide +kernel
theorem dX4_touchPage_58 : decode cX4_touchPage 58 = .ok (.iload 4, 2) := by decide +kernel
theorem dX4_touchPage_60 : decode cX4_touchPage 60 = .ok (.iaload, 1) := by decide +kernel
theorem dX4_touchPage_61 : decode cX4_touchPage 61 = .ok (.iload_n 3, 1) := by decide +kernel
theorem dX4_touchPage_62 : decode cX4_touchPage 62 = .ok (.iand, 1) := by decide +kernel
theorem dX4_touchPage_63 : decode cX4_touchPage 63 = .ok (.ifCond .eq 36, 3) := by decide +kernel
theorem dX4_touchPage_66 : decode cX4_touchPage 66 = .ok (.aload_n 0, 1) := by decide +kernel
theorem dX4_touchPage_67 : decode cX4_touchPage 67 = .ok (.getfield 12, 3) := by decide +kernel
theorem dX4_touchPage_70 : decode cX4_touchPage 70 = .ok (.getfield 219, 3) := by decide +kernel
theorem dX4_touchPage_73 : decode cX4_touchPage 73 = .ok (.iload 4, 2) := by decide +kernel
theorem dX4_touchPage_75 : decode cX4_touchPage 75 = .ok (.aload_n 0, 1) := by decide +kernel
theorem dX4_touchPage_76 : decode cX4_touchPage 76 = .ok (.getfield 12, 3) := by decide +kernel
theorem dX4_touchPage_79 : decode cX4_touchPage 79 = .ok (.getfield 219, 3) := by decide +kernel
theorem dX4_touchPage_82 : decode cX4_touchPage 82 = .ok (.iload 4, 2) := by decide +kernel
theorem dX4_touchPage_84 : decode cX4_touchPage 84 = .ok (.faload, 1) := by decide +kernel
theorem dX4_touchPage_85 : decode cX4_touchPage 85 = .ok (.fconst 1, 1) := by decide +kernel
theorem dX4_touchPage_86 : decode cX4_touchPage 86 = .ok (.fadd, 1) := by decide +kernel
theorem dX4_touchPage_87 : decode cX4_touchPage 87 = .ok (.fastore, 1) := by decide +kernel
theorem dX4_touchPage_88 : decode cX4_touchPage 88 = .ok (.aload_n 0, 1) := by decide +kernel
theorem dX4_touchPage_89 : decode cX4_touchPage 89 = .ok (.getfield 12, 3) := by decide +kernel
theorem dX4_touchPage_92 : decode cX4_touchPage 92 = .ok (.iload 4, 2) := by decide +kernel
theorem dX4_touchPage_94 : decode cX4_touchPage 94 = .ok (.iload_n 2, 1) := by decide +kernel
theorem dX4_touchPage_95 : decode cX4_touchPage 95 = .ok (.invokestatic 170, 3) := by decide +kernel
theorem dX4_touchPage_98 : decode cX4_touchPage 98 = .ok (.ireturn, 1) := by decide +kernel
theorem dX4_touchPage_99 : decode cX4_touchPage 99 = .ok (.aload_n 0, 1) := by decide +kernel
theorem dX4_touchPage_100 : decode cX4_touchPage 100 = .ok (.getfield 59, 3) := by decide +kernel
theorem dX4_touchPage_103 : decode cX4_touchPage 103 = .ok (.getfield 223, 3) := by decide +kernel
theorem dX4_touchPage_106 : decode cX4_touchPage 106 = .ok (.iload_n 1, 1) := by decide +kernel
theorem dX4_touchPage_107 : decode cX4_touchPage 107 = .ok (.iaload, 1) := by decide +kernel
theorem dX4_touchPage_108 : decode cX4_touchPage 108 = .ok (.ifCond .ge 6, 3) := by decide +kernel
theorem dX4_touchPage_111 : decode cX4_touchPage 111 = .ok (.bipush (-3), 2) := by decide +kernel
theorem dX4_touchPage_113 : decode cX4_touchPage 113 = .ok (.ireturn, 1) := by decide +kernel
theorem dX4_touchPage_114 : decode cX4_touchPage 114 = .ok (.aload_n 0, 1) := by decide +kernel
theorem dX4_touchPage_115 : decode cX4_touchPage 115 = .ok (.iload_n 1, 1) := by decide +kernel
theorem dX4_touchPage_116 : decode cX4_touchPage 116 = .ok (.iload_n 2, 1) := by decide +kernel
theorem dX4_touchPage_117 : decode cX4_touchPage 117 = .ok (.iload_n 3, 1) := by decide +kernel
theorem dX4_touchPage_118 : decode cX4_touchPage 118 = .ok (.invokevirtual 226, 3) := by decide +kernel
theorem dX4_touchPage_121 : decode cX4_touchPage 121 = .ok (.bipush (-2), 2) := by decide +kernel
theorem dX4_touchPage_123 : decode cX4_touchPage 123 = .ok (.ireturn, 1) := by decide +kernel
def Wo_touchPage_99 (M : Mem) (v1 : Int32) (v2 : Int32) (v3 : Int32) (d : Sl) : Option (Int32 × Sl) :=
  gref (d 10 0) fun q1 =>
  if inb v1 6 then
  if 0 ≤ (M q1 6 (ix v1)) then
    (bd (Wo_startWait M d v1 v2 v3) fun r2 d3 =>
    some ((-2 : Int32), d3))
  else
    (some ((-3 : Int32), d))
  else none
def Wo_touchPage_24 (M : Mem) (v1 : Int32) (v2 : Int32) (v3 : Int32) (d : Sl) : Option (Int32 × Sl) :=
  if inb v1 6 then
  if (d 14 (ix v1)) = 0 then
    (bp (De_find d v1 v2) fun r4 =>
    bnd r4 fun v4_5 =>
    if v4_5 < 0 then
      (Wo_touchPage_99 M v1 v2 v3 d)
    else
      (if inb v4_5 192 then
      if ((d 22 (ix v4_5)) &&& v3) = 0 then
        (Wo_touchPage_99 M v1 v2 v3 d)
      else
        (if inb v4_5 192 then
        if nn32 (FP.fadd ((d 31 (ix v4_5)).toUInt32) FP.fconst1) then
        if inb v4_5 192 then
        bnd (wr d 31 (ix v4_5) ((FP.fadd ((d 31 (ix v4_5)).toUInt32) FP.fconst1)).toInt32) fun d6 =>
        bp (Qu_frameAt d6 v4_5 v2) fun r7 =>
        some (r7, d6)
        else none
        else none
        else none)
      else none))
  else
    (some ((-1 : Int32), d))
  else none
def Wo_touchPage (M : Mem) (d : Sl) (a1 : Int32) (a2 : Int32) (a3 : Int32) : Option (Int32 × Sl) :=
  bp (Wo_isPlace M d a1 a2) fun r8 =>
  if r8 = 0 then
    (some ((-1 : Int32), d))
  else
    (if a3 = (1 : Int32) then
      (Wo_touchPage_24 M a1 a2 a3 d)
    else
      (if a3 = (2 : Int32) then
        (Wo_touchPage_24 M a1 a2 a3 d)
      else
        (if a3 = (4 : Int32) then
          (Wo_touchPage_24 M a1 a2 a3 d)
        else
          (some ((-1 : Int32), d)))))
theorem y_X4_touchPage : YV yX4_touchPage cX4_touchPage 5 (some .int) 3 := ⟨q806, q807, q808, q146, by decide +kernel, by decide +kernel, by decide +kernel, by decide +kernel⟩
theorem r_Wo_touchPage_99 {C : Cxt} {G : Geo} {M : Mem} {k : Nat} (hC : Cx C cX4_touchPage 5 "FrameHeirs$World" (some .int) rm_X4_touchPage G) (hk : LWd G k) (hk2 : 2 ≤ k) (hcl : GCl G) (v1 : Int32) (v2 : Int32) (v3 : Int32) (d : Sl) : Rz C 5 G (setS M k) (poM avI (setS M k)) 99 [(0, .inr (k, 10)), (1, .inl (.int v1)), (2, .inl (.int v2)), (3, .inl (.int v3))] [] d (Wo_touchPage_99 M v1 v2 v3 d) := by
  unfold Wo_touchPage_99
  refine z_aload_n (pc := 99) hC 0 rfl 0 rfl dX4_touchPage_99 ?_
  refine zs_getS (pc := 100) hC hcl (hk 10 rfl) f_10_0 q377 dX4_touchPage_100 (fun q1 hq1 gq1 => ?_)
  refine z_getc (pc := 103) hC (hq1 4 rfl) f_4_1 q176 dX4_touchPage_103 ?_
  refine z_iload_n (pc := 106) hC 1 rfl 1 rfl dX4_touchPage_106 ?_
  refine zo_iald (pc := 107) hC (Nat.ne_of_lt (Nat.lt_of_lt_of_le gq1 hk2)) (hq1 6 rfl) rfl dX4_touchPage_107 ?_
  refine z_if_ge (pc := 108) hC 114 rfl dX4_touchPage_108 ?_ ?_
  · refine z_aload_n (pc := 114) hC 0 rfl 0 rfl dX4_touchPage_114 ?_
    refine z_iload_n (pc := 115) hC 1 rfl 1 rfl dX4_touchPage_115 ?_
    refine z_iload_n (pc := 116) hC 2 rfl 2 rfl dX4_touchPage_116 ?_
    refine z_iload_n (pc := 117) hC 3 rfl 3 rfl dX4_touchPage_117 ?_
    refine z_cvV (pc := 118) (st := []) hC y_X4_startWait q813 [.inl (.int v1), .inl (.int v2), .inl (.int v3)] rfl (hk 10 rfl) rfl rfl (c_X4_startWait hC.2.2.2.2.2.2.1 hk hk2 hcl) rfl ⟨rfl, rfl, (Nat.le_of_ble_eq_true rfl), (Nat.le_of_ble_eq_true rfl)⟩ (Nat.le_of_ble_eq_true rfl) dX4_touchPage_118 (fun r2 d3 => ?_)
    refine z_bipush (pc := 121) hC (-2 : Int32) rfl dX4_touchPage_121 ?_
    exact z_iret (pc := 123) hC rfl dX4_touchPage_123
  · refine z_bipush (pc := 111) hC (-3 : Int32) rfl dX4_touchPage_111 ?_
    exact z_iret (pc := 113) hC rfl dX4_touchPage_113
theorem r_Wo_touchPage_24 {C : Cxt} {G : Geo} {M : Mem} {k : Nat} (hC : Cx C cX4_touchPage 5 "FrameHeirs$World" (some .int) rm_X4_touchPage G) (hk : LWd G k) (hk2 : 2 ≤ k) (hcl : GCl G) (v1 : Int32) (v2 : Int32) (v3 : Int32) (d : Sl) : Rz C 5 G (setS M k) (poM avI (setS M k)) 24 [(0, .inr (k, 10)), (1, .inl (.int v1)), (2, .inl (.int v2)), (3, .inl (.int v3))] [] d (Wo_touchPage_24 M v1 v2 v3 d) := by
  unfold Wo_touchPage_24
  refine z_aload_n (pc := 24) hC 0 rfl 0 rfl dX4_touchPage_24 ?_
  refine z_getc (pc := 25) hC (hk 10 rfl) f_10_7 q386 dX4_touchPage_25 ?_
  refine z_iload_n (pc := 28) hC 1 rfl 1 rfl dX4_touchPage_28 ?_
  refine zs_iald (pc := 29) hC (hk 14 rfl) rfl dX4_touchPage_29 ?_
  refine z_if_eq (pc := 30) hC 35 rfl dX4_touchPage_30 ?_ ?_
  · refine z_aload_n (pc := 35) hC 0 rfl 0 rfl dX4_touchPage_35 ?_
    refine z_getc (pc := 36) hC (hk 10 rfl) f_10_1 q378 dX4_touchPage_36 ?_
    refine z_iload_n (pc := 39) hC 1 rfl 1 rfl dX4_touchPage_39 ?_
    refine z_iload_n (pc := 40) hC 2 rfl 2 rfl dX4_touchPage_40 ?_
    refine z_piV (pc := 41) (st := []) hC y_X0_find q655 [.inl (.int v1), .inl (.int v2)] rfl (hk 17 rfl) rfl rfl (c_X0_find hC.2.2.2.2.2.2.1 hk hk2) rfl ⟨rfl, rfl, (Nat.le_of_ble_eq_true rfl), (Nat.le_of_ble_eq_true rfl)⟩ (Nat.le_of_ble_eq_true rfl) dX4_touchPage_41 (fun r4 => ?_)
    refine z_istore (pc := 44) (ls1 := fun v => [(4, .inl (.int v)), (0, .inr (k, 10)), (1, .inl (.int v1)), (2, .inl (.int v2)), (3, .inl (.int v3))]) hC 4 (by decide) (fun v => rfl) dX4_touchPage_44 (fun v4_5 => ?_)
    refine z_iload (pc := 46) hC 4 0 rfl dX4_touchPage_46 ?_
    refine z_if_lt (pc := 48) hC 99 rfl dX4_touchPage_48 ?_ ?_
    · exact z_sub [1, 2, 3, 4] rfl (r_Wo_touchPage_99 hC hk hk2 hcl v1 v2 v3 d)
    · refine z_aload_n (pc := 51) hC 0 rfl 1 rfl dX4_touchPage_51 ?_
      refine z_getc (pc := 52) hC (hk 10 rfl) f_10_1 q378 dX4_touchPage_52 ?_
      refine z_getc (pc := 55) hC (hk 17 rfl) f_17_4 q307 dX4_touchPage_55 ?_
      refine z_iload (pc := 58) hC 4 0 rfl dX4_touchPage_58 ?_
      refine zs_iald (pc := 60) hC (hk 22 rfl) rfl dX4_touchPage_60 ?_
      refine z_iload_n (pc := 61) hC 3 rfl 4 rfl dX4_touchPage_61 ?_
      refine z_iand (pc := 62) hC dX4_touchPage_62 ?_
      refine z_if_eq (pc := 63) hC 99 rfl dX4_touchPage_63 ?_ ?_
      · exact z_sub [1, 2, 3, 4] rfl (r_Wo_touchPage_99 hC hk hk2 hcl v1 v2 v3 d)
      · refine z_aload_n (pc := 66) hC 0 rfl 1 rfl dX4_touchPage_66 ?_
        refine z_getc (pc := 67) hC (hk 10 rfl) f_10_1 q378 dX4_touchPage_67 ?_
        refine z_getc (pc := 70) hC (hk 17 rfl) f_17_13 q322 dX4_touchPage_70 ?_
        refine z_iload (pc := 73) hC 4 0 rfl dX4_touchPage_73 ?_
        refine z_aload_n (pc := 75) hC 0 rfl 1 rfl dX4_touchPage_75 ?_
        refine z_getc (pc := 76) hC (hk 10 rfl) f_10_1 q378 dX4_touchPage_76 ?_
        refine z_getc (pc := 79) hC (hk 17 rfl) f_17_13 q322 dX4_touchPage_79 ?_
        refine z_iload (pc := 82) hC 4 0 rfl dX4_touchPage_82 ?_
        refine zs_fald (pc := 84) hC (hk 31 rfl) rfl dX4_touchPage_84 ?_
        refine z_fconst1 (pc := 85) hC dX4_touchPage_85 ?_
        refine z_fadd (pc := 86) hC dX4_touchPage_86 ?_
        refine zs_fast (pc := 87) hC (hk 31 rfl) (by decide) rfl dX4_touchPage_87 (fun d6 => ?_)
        refine z_aload_n (pc := 88) hC 0 rfl 1 rfl dX4_touchPage_88 ?_
        refine z_getc (pc := 89) hC (hk 10 rfl) f_10_1 q378 dX4_touchPage_89 ?_
        refine z_iload (pc := 92) hC 4 0 rfl dX4_touchPage_92 ?_
        refine z_iload_n (pc := 94) hC 2 rfl 3 rfl dX4_touchPage_94 ?_
        refine z_piS (pc := 95) (st := []) hC y_X1_frameAt q698 [.inr (k, 17), .inl (.int v4_5), .inl (.int v2)] rfl (c_X1_frameAt hC.2.2.2.2.2.2.1 hk hk2) rfl ⟨rfl, rfl, (Nat.le_of_ble_eq_true rfl), (Nat.le_of_ble_eq_true rfl)⟩ (Nat.le_of_ble_eq_true rfl) dX4_touchPage_95 (fun r7 => ?_)
        exact z_iret (pc := 98) hC rfl dX4_touchPage_98
  · refine z_iconst (pc := 33) hC (-1 : Int32) rfl dX4_touchPage_33 ?_
    exact z_iret (pc := 34) hC rfl dX4_touchPage_34
theorem r_Wo_touchPage {C : Cxt} {G : Geo} {M : Mem} {k : Nat} (hC : Cx C cX4_touchPage 5 "FrameHeirs$World" (some .int) rm_X4_touchPage G) (hk : LWd G k) (hk2 : 2 ≤ k) (hcl : GCl G) (d : Sl) (a1 : Int32) (a2 : Int32) (a3 : Int32) : Rz C 5 G (setS M k) (poM avI (setS M k)) 0 [(0, .inr (k, 10)), (1, .inl (.int a1)), (2, .inl (.int a2)), (3, .inl (.int a3))] [] d (Wo_touchPage M d a1 a2 a3) := by
  unfold Wo_touchPage
  refine z_aload_n (pc := 0) hC 0 rfl 0 rfl dX4_touchPage_0 ?_
  refine z_iload_n (pc := 1) hC 1 rfl 1 rfl dX4_touchPage_1 ?_
  refine z_iload_n (pc := 2) hC 2 rfl 2 rfl dX4_touchPage_2 ?_
  refine z_piV (pc := 3) (st := []) hC y_X4_isPlace q809 [.inl (.int a1), .inl (.int a2)] rfl (hk 10 rfl) rfl rfl (c_X4_isPlace hC.2.2.2.2.2.2.1 hk hk2 hcl) rfl ⟨rfl, rfl, (Nat.le_of_ble_eq_true rfl), (Nat.le_of_ble_eq_true rfl)⟩ (Nat.le_of_ble_eq_true rfl) dX4_touchPage_3 (fun r8 => ?_)
  refine z_if_eq (pc := 6) hC 33 rfl dX4_touchPage_6 ?_ ?_
  · refine z_iconst (pc := 33) hC (-1 : Int32) rfl dX4_touchPage_33 ?_
    exact z_iret (pc := 34) hC rfl dX4_touchPage_34
  · refine z_iload_n (pc := 9) hC 3 rfl 3 rfl dX4_touchPage_9 ?_
    refine z_iconst (pc := 10) hC (1 : Int32) rfl dX4_touchPage_10 ?_
    refine z_icmp_eq (pc := 11) hC 24 rfl dX4_touchPage_11 ?_ ?_
    · exact z_sub [0, 1, 2, 3] rfl (r_Wo_touchPage_24 hC hk hk2 hcl a1 a2 a3 d)
    · refine z_iload_n (pc := 14) hC 3 rfl 3 rfl dX4_touchPage_14 ?_
      refine z_iconst (pc := 15) hC (2 : Int32) rfl dX4_touchPage_15 ?_
      refine z_icmp_eq (pc := 16) hC 24 rfl dX4_touchPage_16 ?_ ?_
      · exact z_sub [0, 1, 2, 3] rfl (r_Wo_touchPage_24 hC hk hk2 hcl a1 a2 a3 d)
      · refine z_iload_n (pc := 19) hC 3 rfl 3 rfl dX4_touchPage_19 ?_
        refine z_iconst (pc := 20) hC (4 : Int32) rfl dX4_touchPage_20 ?_
        refine z_icmp_ne (pc := 21) hC 33 rfl dX4_touchPage_21 ?_ ?_
        · refine z_iconst (pc := 33) hC (-1 : Int32) rfl dX4_touchPage_33 ?_
          exact z_iret (pc := 34) hC rfl dX4_touchPage_34
        · exact z_sub [0, 1, 2, 3] rfl (r_Wo_touchPage_24 hC hk hk2 hcl a1 a2 a3 d)
theorem c_X4_touchPage {G : Geo} {M : Mem} {k : Nat} (hG : GOk G) (hk : LWd G k) (hk2 : 2 ≤ k) (hcl : GCl G) {d : Sl} {a1 : Int32} {a2 : Int32} {a3 : Int32} (l : Launch) (r : Int32) (d1 : Sl) (h : Wo_touchPage M d a1 a2 a3 = some (r, d1)) : Mt l yX4_touchPage cX4_touchPage 5 (some .int) rm_X4_touchPage G [.inr (k, 10), .inl (.int a1), .inl (.int a2), .inl (.int a3)] ((setS M k) d) (avI r) ((setS M k) d1) :=
  mt_of (mem := (setS M k)) (po := poM avI (setS M k)) (x0 := d) (t := (r, d1)) rfl hG [.inr (k, 10), .inl (.int a1), .inl (.int a2), .inl (.int a3)] (Nat.le_of_ble_eq_true rfl) rfl (fun C hC => r_Wo_touchPage hC hk hk2 hcl d a1 a2 a3) h
-- FrameHeirs$World.firstWaiting(I)I
abbrev rm_X4_firstWaiting : Room := { frames := 0, cells := 0, slots := 0, locals := 0 }
theorem dX4_firstWaiting_0 : decode cX4_firstWaiting 0 = .ok (.iconst (-1), 1) := by decide +kernel
theorem dX4_firstWaiting_1 : decode cX4_firstWaiting 1 = .ok (.istore_n 2, 1) := by decide +kernel
theorem dX4_firstWaiting_2 : decode cX4_firstWaiting 2 = .ok (.iconst 0, 1) := by decide +kernel
theorem dX4_firstWaiting_3 : decode cX4_firstWaiting 3 = .ok (.istore_n 3, 1) := by decide +kernel
theorem dX4_firstWaiting_4 : decode cX4_firstWaiting 4 = .ok (.iload_n 3, 1) := by decide +kernel
theorem dX4_firstWaiting_5 : decode cX4_firstWaiting 5 = .ok (.aload_n 0, 1) := by decide +kernel
theorem dX4_firstWaiting_6 : decode cX4_firstWaiting 6 = .ok (.getfield 59, 3) := by decide +kernel
theorem dX4_firstWaiting_9 : decode cX4_firstWaiting 9 = .ok (.getfield 77, 3) := by decide +kernel
theorem dX4_firstWaiting_12 : decode cX4_firstWaiting 12 = .ok (.if_icmp .ge 52, 3) := by decide +kernel
theorem dX4_firstWaiting_15 : decode cX4_firstWaiting 15 = .ok (.aload_n 0, 1) := by decide +kernel
theorem dX4_firstWaiting_16 : decode cX4_firstWaiting 16 = .ok (.getfield 35, 3) := by decide +kernel
theorem dX4_firstWaiting_19 : decode cX4_firstWaiting 19 = .ok (.iload_n 3, 1) := by decide +kernel
theorem dX4_firstWaiting_20 : decode cX4_firstWaiting 20 = .ok (.iaload, 1) := by decide +kernel
theorem dX4_firstWaiting_21 : decode cX4_firstWaiting 21 = .ok (.ifCond .eq 37, 3) := by decide +kernel
theorem dX4_firstWaiting_24 : decode cX4_firstWaiting 24 = .ok (.aload_n 0, 1) := by decide +kernel
theorem dX4_firstWaiting_25 : decode cX4_firstWaiting 25 = .ok (.getfield 59, 3) := by decide +kernel
theorem dX4_firstWaiting_28 : decode cX4_firstWaiting 28 = .ok (.getfield 223, 3) := by decide +kernel
theorem dX4_firstWaiting_31 : decode cX4_firstWaiting 31 = .ok (.iload_n 3, 1) := by decide +kernel
theorem dX4_firstWaiting_32 : decode cX4_firstWaiting 32 = .ok (.iaload, 1) := by decide +kernel
theorem dX4_firstWaiting_33 : decode cX4_firstWaiting 33 = .ok (.iload_n 1, 1) := by decide +kernel
theorem dX4_firstWaiting_34 : decode cX4_firstWaiting 34 = .ok (.if_icmp .ne 24, 3) := by decide +kernel
theorem dX4_firstWaiting_37 : decode cX4_firstWaiting 37 = .ok (.iload_n 2, 1) := by decide +kernel
theorem dX4_firstWaiting_38 : decode cX4_firstWaiting 38 = .ok (.ifCond .lt 18, 3) := by decide +kernel
theorem dX4_firstWaiting_41 : decode cX4_firstWaiting 41 = .ok (.aload_n 0, 1) := by decide +kernel
theorem dX4_firstWaiting_42 : decode cX4_firstWaiting 42 = .ok (.getfield 35, 3) := by decide +kernel
theorem dX4_firstWaiting_45 : decode cX4_firstWaiting 45 = .ok (.iload_n 3, 1) := by decide +kernel
theorem dX4_firstWaiting_46 : decode cX4_firstWaiting 46 = .ok (.iaload, 1) := by decide +kernel
theorem dX4_firstWaiting_47 : decode cX4_firstWaiting 47 = .ok (.aload_n 0, 1) := by decide +kernel
theorem dX4_firstWaiting_48 : decode cX4_firstWaiting 48 = .ok (.getfield 35, 3) := by decide +kernel
theorem dX4_firstWaiting_51 : decode cX4_firstWaiting 51 = .ok (.iload_n 2, 1) := by decide +kernel
theorem dX4_firstWaiting_52 : decode cX4_firstWaiting 52 = .ok (.iaload, 1) := by decide +kernel
theorem dX4_firstWaiting_53 : decode cX4_firstWaiting 53 = .ok (.if_icmp .ge 5, 3) := by decide +kernel
theorem dX4_firstWaiting_56 : decode cX4_firstWaiting 56 = .ok (.iload_n 3, 1) := by decide +kernel
theorem dX4_firstWaiting_57 : decode cX4_firstWaiting 57 = .ok (.istore_n 2, 1) := by decide +kernel
theorem dX4_firstWaiting_58 : decode cX4_firstWaiting 58 = .ok (.iinc 3 1, 3) := by decide +kernel
theorem dX4_firstWaiting_61 : decode cX4_firstWaiting 61 = .ok (.goto (-57), 3) := by decide +kernel
theorem dX4_firstWaiting_64 : decode cX4_firstWaiting 64 = .ok (.iload_n 2, 1) := by decide +kernel
theorem dX4_firstWaiting_65 : decode cX4_firstWaiting 65 = .ok (.ireturn, 1) := by decide +kernel
def Wo_firstWaiting_58 (k4 : Int32 → Int32 → Int32 → Option Int32) (M : Mem) (d : Sl) (v1 : Int32) (v2 : Int32) (v3 : Int32) : Option Int32 :=
  bnd (v3 + (1 : Int32)) fun v3_1 =>
  k4 v1 v2 v3_1
def Wo_firstWaiting_56 (k4 : Int32 → Int32 → Int32 → Option Int32) (M : Mem) (d : Sl) (v1 : Int32) (v3 : Int32) : Option Int32 :=
  bnd v3 fun v2_2 =>
  Wo_firstWaiting_58 k4 M d v1 v2_2 v3
def Wo_firstWaiting_4 (M : Mem) (d : Sl) : Nat → Int32 → Int32 → Int32 → Option Int32
  | 0, _, _, _ => none
  | n + 1, v1, v2, v3 =>
    gref (d 10 0) fun q3 =>
    if (M q3 4 5) ≤ v3 then
      (some v2)
    else
      (if inb v3 6 then
      if (d 14 (ix v3)) = 0 then
        (Wo_firstWaiting_58 (Wo_firstWaiting_4 M d n) M d v1 v2 v3)
      else
        (gref (d 10 0) fun q4 =>
        if inb v3 6 then
        if (M q4 6 (ix v3)) = v1 then
          (if v2 < 0 then
            (Wo_firstWaiting_56 (Wo_firstWaiting_4 M d n) M d v1 v3)
          else
            (if inb v3 6 then
            if inb v2 6 then
            if (d 14 (ix v2)) ≤ (d 14 (ix v3)) then
              (Wo_firstWaiting_58 (Wo_firstWaiting_4 M d n) M d v1 v2 v3)
            else
              (Wo_firstWaiting_56 (Wo_firstWaiting_4 M d n) M d v1 v3)
            else none
            else none))
        else
          (Wo_firstWaiting_58 (Wo_firstWaiting_4 M d n) M d v1 v2 v3)
        else none)
      else none)
def Wo_firstWaiting (M : Mem) (d : Sl) (a1 : Int32) : Option Int32 :=
  bnd (-1 : Int32) fun v2_5 =>
  bnd (0 : Int32) fun v3_6 =>
  Wo_firstWaiting_4 M d FU a1 v2_5 v3_6
theorem y_X4_firstWaiting : YV yX4_firstWaiting cX4_firstWaiting 4 (some .int) 1 := ⟨q827, q30, q828, q146, by decide +kernel, by decide +kernel, by decide +kernel, by decide +kernel⟩
theorem r_Wo_firstWaiting_58 {C : Cxt} {G : Geo} {M : Mem} {k : Nat} {d : Sl} (hC : Cx C cX4_firstWaiting 4 "FrameHeirs$World" (some .int) rm_X4_firstWaiting G) (hk : LWd G k) (hk2 : 2 ≤ k) (hcl : GCl G) (k4 : Int32 → Int32 → Int32 → Option Int32) (h4 : ∀ (v1 : Int32) (v2 : Int32) (v3 : Int32), Rz C 4 G (setS M k) (poP avI ((setS M k) d)) 4 [(0, .inr (k, 10)), (1, .inl (.int v1)), (2, .inl (.int v2)), (3, .inl (.int v3))] [] d (k4 v1 v2 v3)) (v1 : Int32) (v2 : Int32) (v3 : Int32) : Rz C 4 G (setS M k) (poP avI ((setS M k) d)) 58 [(0, .inr (k, 10)), (1, .inl (.int v1)), (2, .inl (.int v2)), (3, .inl (.int v3))] [] d (Wo_firstWaiting_58 k4 M d v1 v2 v3) := by
  unfold Wo_firstWaiting_58
  refine z_iinc (pc := 58) (ls1 := fun v => [(3, .inl (.int v)), (0, .inr (k, 10)), (1, .inl (.int v1)), (2, .inl (.int v2))]) hC 3 3 (by decide) (1 : Int32) rfl rfl (fun v => rfl) dX4_firstWaiting_58 (fun v3_1 => ?_)
  refine z_goto (pc := 61) hC 4 rfl dX4_firstWaiting_61 ?_
  exact z_sub [1, 2, 3, 0] rfl (h4 v1 v2 v3_1)
theorem r_Wo_firstWaiting_56 {C : Cxt} {G : Geo} {M : Mem} {k : Nat} {d : Sl} (hC : Cx C cX4_firstWaiting 4 "FrameHeirs$World" (some .int) rm_X4_firstWaiting G) (hk : LWd G k) (hk2 : 2 ≤ k) (hcl : GCl G) (k4 : Int32 → Int32 → Int32 → Option Int32) (h4 : ∀ (v1 : Int32) (v2 : Int32) (v3 : Int32), Rz C 4 G (setS M k) (poP avI ((setS M k) d)) 4 [(0, .inr (k, 10)), (1, .inl (.int v1)), (2, .inl (.int v2)), (3, .inl (.int v3))] [] d (k4 v1 v2 v3)) (v1 : Int32) (v3 : Int32) : Rz C 4 G (setS M k) (poP avI ((setS M k) d)) 56 [(0, .inr (k, 10)), (1, .inl (.int v1)), (3, .inl (.int v3))] [] d (Wo_firstWaiting_56 k4 M d v1 v3) := by
  unfold Wo_firstWaiting_56
  refine z_iload_n (pc := 56) hC 3 rfl 2 rfl dX4_firstWaiting_56 ?_
  refine z_istore_n (pc := 57) (ls1 := fun v => [(2, .inl (.int v)), (0, .inr (k, 10)), (1, .inl (.int v1)), (3, .inl (.int v3))]) hC 2 rfl (by decide) (fun v => rfl) dX4_firstWaiting_57 (fun v2_2 => ?_)
  exact z_sub [1, 2, 0, 3] rfl (r_Wo_firstWaiting_58 hC hk hk2 hcl k4 h4 v1 v2_2 v3)
theorem r_Wo_firstWaiting_4 {C : Cxt} {G : Geo} {M : Mem} {k : Nat} {d : Sl} (hC : Cx C cX4_firstWaiting 4 "FrameHeirs$World" (some .int) rm_X4_firstWaiting G) (hk : LWd G k) (hk2 : 2 ≤ k) (hcl : GCl G) : ∀ (n : Nat) (v1 : Int32) (v2 : Int32) (v3 : Int32), Rz C 4 G (setS M k) (poP avI ((setS M k) d)) 4 [(0, .inr (k, 10)), (1, .inl (.int v1)), (2, .inl (.int v2)), (3, .inl (.int v3))] [] d (Wo_firstWaiting_4 M d n v1 v2 v3) := by
  intro n
  induction n with
  | zero => intros; exact z_none
  | succ n ih =>
    intro v1 v2 v3
    rw [Wo_firstWaiting_4]
    refine z_iload_n (pc := 4) hC 3 rfl 3 rfl dX4_firstWaiting_4 ?_
    refine z_aload_n (pc := 5) hC 0 rfl 0 rfl dX4_firstWaiting_5 ?_
    refine zs_getS (pc := 6) hC hcl (hk 10 rfl) f_10_0 q377 dX4_firstWaiting_6 (fun q3 hq3 gq3 => ?_)
    refine zo_geti (pc := 9) hC (Nat.ne_of_lt (Nat.lt_of_lt_of_le gq3 hk2)) (hq3 4 rfl) f_4_5 q187 dX4_firstWaiting_9 ?_
    refine z_icmp_ge (pc := 12) hC 64 rfl dX4_firstWaiting_12 ?_ ?_
    · refine z_iload_n (pc := 64) hC 2 rfl 2 rfl dX4_firstWaiting_64 ?_
      exact z_iret (pc := 65) hC rfl dX4_firstWaiting_65
    · refine z_aload_n (pc := 15) hC 0 rfl 0 rfl dX4_firstWaiting_15 ?_
      refine z_getc (pc := 16) hC (hk 10 rfl) f_10_7 q386 dX4_firstWaiting_16 ?_
      refine z_iload_n (pc := 19) hC 3 rfl 3 rfl dX4_firstWaiting_19 ?_
      refine zs_iald (pc := 20) hC (hk 14 rfl) rfl dX4_firstWaiting_20 ?_
      refine z_if_eq (pc := 21) hC 58 rfl dX4_firstWaiting_21 ?_ ?_
      · exact z_sub [0, 1, 2, 3] rfl (r_Wo_firstWaiting_58 hC hk hk2 hcl _ ih v1 v2 v3)
      · refine z_aload_n (pc := 24) hC 0 rfl 0 rfl dX4_firstWaiting_24 ?_
        refine zs_getS (pc := 25) hC hcl (hk 10 rfl) f_10_0 q377 dX4_firstWaiting_25 (fun q4 hq4 gq4 => ?_)
        refine z_getc (pc := 28) hC (hq4 4 rfl) f_4_1 q176 dX4_firstWaiting_28 ?_
        refine z_iload_n (pc := 31) hC 3 rfl 3 rfl dX4_firstWaiting_31 ?_
        refine zo_iald (pc := 32) hC (Nat.ne_of_lt (Nat.lt_of_lt_of_le gq4 hk2)) (hq4 6 rfl) rfl dX4_firstWaiting_32 ?_
        refine z_iload_n (pc := 33) hC 1 rfl 1 rfl dX4_firstWaiting_33 ?_
        refine z_icmp_ne (pc := 34) hC 58 rfl dX4_firstWaiting_34 ?_ ?_
        · exact z_sub [0, 1, 2, 3] rfl (r_Wo_firstWaiting_58 hC hk hk2 hcl _ ih v1 v2 v3)
        · refine z_iload_n (pc := 37) hC 2 rfl 2 rfl dX4_firstWaiting_37 ?_
          refine z_if_lt (pc := 38) hC 56 rfl dX4_firstWaiting_38 ?_ ?_
          · exact z_sub [0, 1, 3] rfl (r_Wo_firstWaiting_56 hC hk hk2 hcl _ ih v1 v3)
          · refine z_aload_n (pc := 41) hC 0 rfl 0 rfl dX4_firstWaiting_41 ?_
            refine z_getc (pc := 42) hC (hk 10 rfl) f_10_7 q386 dX4_firstWaiting_42 ?_
            refine z_iload_n (pc := 45) hC 3 rfl 3 rfl dX4_firstWaiting_45 ?_
            refine zs_iald (pc := 46) hC (hk 14 rfl) rfl dX4_firstWaiting_46 ?_
            refine z_aload_n (pc := 47) hC 0 rfl 0 rfl dX4_firstWaiting_47 ?_
            refine z_getc (pc := 48) hC (hk 10 rfl) f_10_7 q386 dX4_firstWaiting_48 ?_
            refine z_iload_n (pc := 51) hC 2 rfl 2 rfl dX4_firstWaiting_51 ?_
            refine zs_iald (pc := 52) hC (hk 14 rfl) rfl dX4_firstWaiting_52 ?_
            refine z_icmp_ge (pc := 53) hC 58 rfl dX4_firstWaiting_53 ?_ ?_
            · exact z_sub [0, 1, 2, 3] rfl (r_Wo_firstWaiting_58 hC hk hk2 hcl _ ih v1 v2 v3)
            · exact z_sub [0, 1, 3] rfl (r_Wo_firstWaiting_56 hC hk hk2 hcl _ ih v1 v3)
theorem r_Wo_firstWaiting {C : Cxt} {G : Geo} {M : Mem} {k : Nat} (hC : Cx C cX4_firstWaiting 4 "FrameHeirs$World" (some .int) rm_X4_firstWaiting G) (hk : LWd G k) (hk2 : 2 ≤ k) (hcl : GCl G) (d : Sl) (a1 : Int32) : Rz C 4 G (setS M k) (poP avI ((setS M k) d)) 0 [(0, .inr (k, 10)), (1, .inl (.int a1))] [] d (Wo_firstWaiting M d a1) := by
  unfold Wo_firstWaiting
  refine z_iconst (pc := 0) hC (-1 : Int32) rfl dX4_firstWaiting_0 ?_
  refine z_istore_n (pc := 1) (ls1 := fun v => [(2, .inl (.int v)), (0, .inr (k, 10)), (1, .inl (.int a1))]) hC 2 rfl (by decide) (fun v => rfl) dX4_firstWaiting_1 (fun v2_5 => ?_)
  refine z_iconst (pc := 2) hC (0 : Int32) rfl dX4_firstWaiting_2 ?_
  refine z_istore_n (pc := 3) (ls1 := fun v => [(3, .inl (.int v)), (2, .inl (.int v2_5)), (0, .inr (k, 10)), (1, .inl (.int a1))]) hC 3 rfl (by decide) (fun v => rfl) dX4_firstWaiting_3 (fun v3_6 => ?_)
  exact z_sub [2, 3, 1, 0] rfl (r_Wo_firstWaiting_4 hC hk hk2 hcl FU a1 v2_5 v3_6)
theorem c_X4_firstWaiting {G : Geo} {M : Mem} {k : Nat} (hG : GOk G) (hk : LWd G k) (hk2 : 2 ≤ k) (hcl : GCl G) {d : Sl} {a1 : Int32} (l : Launch) (r : Int32) (h : Wo_firstWaiting M d a1 = some r) : Mt l yX4_firstWaiting cX4_firstWaiting 4 (some .int) rm_X4_firstWaiting G [.inr (k, 10), .inl (.int a1)] ((setS M k) d) (avI r) ((setS M k) d) :=
  mt_of (mem := (setS M k)) (po := poP avI ((setS M k) d)) (x0 := d) (t := r) rfl hG [.inr (k, 10), .inl (.int a1)] (Nat.le_of_ble_eq_true rfl) rfl (fun C hC => r_Wo_firstWaiting hC hk hk2 hcl d a1) h
-- FrameHeirs$World.waitingAhead(I)I
abbrev rm_X4_waitingAhead : Room := { frames := 0, cells := 0, slots := 0, locals := 0 }
theorem dX4_waitingAhead_0 : decode cX4_waitingAhead 0 = .ok (.iconst 0, 1) := by decide +kernel
theorem dX4_waitingAhead_1 : decode cX4_waitingAhead 1 = .ok (.istore_n 2, 1) := by decide +kernel
theorem dX4_waitingAhead_2 : decode cX4_waitingAhead 2 = .ok (.iconst 0, 1) := by decide +kernel
theorem dX4_waitingAhead_3 : decode cX4_waitingAhead 3 = .ok (.istore_n 3, 1) := by decide +kernel
theorem dX4_waitingAhead_4 : decode cX4_waitingAhead 4 = .ok (.iload_n 3, 1) := by decide +kernel
theorem dX4_waitingAhead_5 : decode cX4_waitingAhead 5 = .ok (.aload_n 0, 1) := by decide +kernel
theorem dX4_waitingAhead_6 : decode cX4_waitingAhead 6 = .ok (.getfield 59, 3) := by decide +kernel
theorem dX4_waitingAhead_9 : decode cX4_waitingAhead 9 = .ok (.getfield 77, 3) := by decide +kernel
theorem dX4_waitingAhead_12 : decode cX4_waitingAhead 12 = .ok (.if_icmp .ge 57, 3) := by decide +kernel
theorem dX4_waitingAhead_15 : decode cX4_waitingAhead 15 = .ok (.aload_n 0, 1) := by decide +kernel
theorem dX4_waitingAhead_16 : decode cX4_waitingAhead 16 = .ok (.getfield 35, 3) := by decide +kernel
theorem dX4_waitingAhead_19 : decode cX4_waitingAhead 19 = .ok (.iload_n 3, 1) := by decide +kernel
theorem dX4_waitingAhead_20 : decode cX4_waitingAhead 20 = .ok (.iaload, 1) := by decide +kernel
theorem dX4_waitingAhead_21 : decode cX4_waitingAhead 21 = .ok (.ifCond .eq 42, 3) := by decide +kernel
theorem dX4_waitingAhead_24 : decode cX4_waitingAhead 24 = .ok (.aload_n 0, 1) := by decide +kernel
theorem dX4_waitingAhead_25 : decode cX4_waitingAhead 25 = .ok (.getfield 35, 3) := by decide +kernel
theorem dX4_waitingAhead_28 : decode cX4_waitingAhead 28 = .ok (.iload_n 3, 1) := by decide +kernel
theorem dX4_waitingAhead_29 : decode cX4_waitingAhead 29 = .ok (.iaload, 1) := by decide +kernel
theorem dX4_waitingAhead_30 : decode cX4_waitingAhead 30 = .ok (.aload_n 0, 1) := by decide +kernel
theorem dX4_waitingAhead_31 : decode cX4_waitingAhead 31 = .ok (.getfield 35, 3) := by decide +kernel
theorem dX4_waitingAhead_34 : decode cX4_waitingAhead 34 = .ok (.iload_n 1, 1) := by decide +kernel
theorem dX4_waitingAhead_35 : decode cX4_waitingAhead 35 = .ok (.iaload, 1) := by decide +kernel
theorem dX4_waitingAhead_36 : decode cX4_waitingAhead 36 = .ok (.if_icmp .ge 27, 3) := by decide +kernel
theorem dX4_waitingAhead_39 : decode cX4_waitingAhead 39 = .ok (.aload_n 0, 1) := by decide +kernel
theorem dX4_waitingAhead_40 : decode cX4_waitingAhead 40 = .ok (.getfield 59, 3) := by decide +kernel
theorem dX4_waitingAhead_43 : decode cX4_waitingAhead 43 = .ok (.getfield 223, 3) := by decide +kernel
theorem dX4_waitingAhead_46 : decode cX4_waitingAhead 46 = .ok (.iload_n 3, 1) := by decide +kernel
theorem dX4_waitingAhead_47 : decode cX4_waitingAhead 47 = .ok (.iaload, 1) := by decide +kernel
theorem dX4_waitingAhead_48 : decode cX4_waitingAhead 48 = .ok (.aload_n 0, 1) := by decide +kernel
theorem dX4_waitingAhead_49 : decode cX4_waitingAhead 49 = .ok (.getfield 59, 3) := by decide +kernel
theorem dX4_waitingAhead_52 : decode cX4_waitingAhead 52 = .ok (.getfield 223, 3) := by decide +kernel
theorem dX4_waitingAhead_55 : decode cX4_waitingAhead 55 = .ok (.iload_n 1, 1) := by decide +kernel
theorem dX4_waitingAhead_56 : decode cX4_waitingAhead 56 = .ok (.iaload, 1) := by decide +kernel
theorem dX4_waitingAhead_57 : decode cX4_waitingAhead 57 = .ok (.if_icmp .ne 6, 3) := by decide +kernel
theorem dX4_waitingAhead_60 : decode cX4_waitingAhead 60 = .ok (.iinc 2 1, 3) := by decide +kernel
theorem dX4_waitingAhead_63 : decode cX4_waitingAhead 63 = .ok (.iinc 3 1, 3) := by decide +kernel
theorem dX4_waitingAhead_66 : decode cX4_waitingAhead 66 = .ok (.goto (-62), 3) := by decide +kernel
theorem dX4_waitingAhead_69 : decode cX4_waitingAhead 69 = .ok (.iload_n 2, 1) := by decide +kernel
theorem dX4_waitingAhead_70 : decode cX4_waitingAhead 70 = .ok (.ireturn, 1) := by decide +kernel
def Wo_waitingAhead_63 (k4 : Int32 → Int32 → Int32 → Option Int32) (M : Mem) (d : Sl) (v1 : Int32) (v2 : Int32) (v3 : Int32) : Option Int32 :=
  bnd (v3 + (1 : Int32)) fun v3_1 =>
  k4 v1 v2 v3_1
def Wo_waitingAhead_4 (M : Mem) (d : Sl) : Nat → Int32 → Int32 → Int32 → Option Int32
  | 0, _, _, _ => none
  | n + 1, v1, v2, v3 =>
    gref (d 10 0) fun q2 =>
    if (M q2 4 5) ≤ v3 then
      (some v2)
    else
      (if inb v3 6 then
      if (d 14 (ix v3)) = 0 then
        (Wo_waitingAhead_63 (Wo_waitingAhead_4 M d n) M d v1 v2 v3)
      else
        (if inb v3 6 then
        if inb v1 6 then
        if (d 14 (ix v1)) ≤ (d 14 (ix v3)) then
          (Wo_waitingAhead_63 (Wo_waitingAhead_4 M d n) M d v1 v2 v3)
        else
          (gref (d 10 0) fun q3 =>
          if inb v3 6 then
          gref (d 10 0) fun q4 =>
          if inb v1 6 then
          if (M q3 6 (ix v3)) = (M q4 6 (ix v1)) then
            (bnd (v2 + (1 : Int32)) fun v2_5 =>
            Wo_waitingAhead_63 (Wo_waitingAhead_4 M d n) M d v1 v2_5 v3)
          else
            (Wo_waitingAhead_63 (Wo_waitingAhead_4 M d n) M d v1 v2 v3)
          else none
          else none)
        else none
        else none)
      else none)
def Wo_waitingAhead (M : Mem) (d : Sl) (a1 : Int32) : Option Int32 :=
  bnd (0 : Int32) fun v2_6 =>
  bnd (0 : Int32) fun v3_7 =>
  Wo_waitingAhead_4 M d FU a1 v2_6 v3_7
theorem y_X4_waitingAhead : YV yX4_waitingAhead cX4_waitingAhead 4 (some .int) 1 := ⟨q1071, q39, q1072, q146, by decide +kernel, by decide +kernel, by decide +kernel, by decide +kernel⟩
theorem r_Wo_waitingAhead_63 {C : Cxt} {G : Geo} {M : Mem} {k : Nat} {d : Sl} (hC : Cx C cX4_waitingAhead 4 "FrameHeirs$World" (some .int) rm_X4_waitingAhead G) (hk : LWd G k) (hk2 : 2 ≤ k) (hcl : GCl G) (k4 : Int32 → Int32 → Int32 → Option Int32) (h4 : ∀ (v1 : Int32) (v2 : Int32) (v3 : Int32), Rz C 4 G (setS M k) (poP avI ((setS M k) d)) 4 [(0, .inr (k, 10)), (1, .inl (.int v1)), (2, .inl (.int v2)), (3, .inl (.int v3))] [] d (k4 v1 v2 v3)) (v1 : Int32) (v2 : Int32) (v3 : Int32) : Rz C 4 G (setS M k) (poP avI ((setS M k) d)) 63 [(0, .inr (k, 10)), (1, .inl (.int v1)), (2, .inl (.int v2)), (3, .inl (.int v3))] [] d (Wo_waitingAhead_63 k4 M d v1 v2 v3) := by
  unfold Wo_waitingAhead_63
  refine z_iinc (pc := 63) (ls1 := fun v => [(3, .inl (.int v)), (0, .inr (k, 10)), (1, .inl (.int v1)), (2, .inl (.int v2))]) hC 3 3 (by decide) (1 : Int32) rfl rfl (fun v => rfl) dX4_waitingAhead_63 (fun v3_1 => ?_)
  refine z_goto (pc := 66) hC 4 rfl dX4_waitingAhead_66 ?_
  exact z_sub [1, 2, 3, 0] rfl (h4 v1 v2 v3_1)
theorem r_Wo_waitingAhead_4 {C : Cxt} {G : Geo} {M : Mem} {k : Nat} {d : Sl} (hC : Cx C cX4_waitingAhead 4 "FrameHeirs$World" (some .int) rm_X4_waitingAhead G) (hk : LWd G k) (hk2 : 2 ≤ k) (hcl : GCl G) : ∀ (n : Nat) (v1 : Int32) (v2 : Int32) (v3 : Int32), Rz C 4 G (setS M k) (poP avI ((setS M k) d)) 4 [(0, .inr (k, 10)), (1, .inl (.int v1)), (2, .inl (.int v2)), (3, .inl (.int v3))] [] d (Wo_waitingAhead_4 M d n v1 v2 v3) := by
  intro n
  induction n with
  | zero => intros; exact z_none
  | succ n ih =>
    intro v1 v2 v3
    rw [Wo_waitingAhead_4]
    refine z_iload_n (pc := 4) hC 3 rfl 3 rfl dX4_waitingAhead_4 ?_
    refine z_aload_n (pc := 5) hC 0 rfl 0 rfl dX4_waitingAhead_5 ?_
    refine zs_getS (pc := 6) hC hcl (hk 10 rfl) f_10_0 q377 dX4_waitingAhead_6 (fun q2 hq2 gq2 => ?_)
    refine zo_geti (pc := 9) hC (Nat.ne_of_lt (Nat.lt_of_lt_of_le gq2 hk2)) (hq2 4 rfl) f_4_5 q187 dX4_waitingAhead_9 ?_
    refine z_icmp_ge (pc := 12) hC 69 rfl dX4_waitingAhead_12 ?_ ?_
    · refine z_iload_n (pc := 69) hC 2 rfl 2 rfl dX4_waitingAhead_69 ?_
      exact z_iret (pc := 70) hC rfl dX4_waitingAhead_70
    · refine z_aload_n (pc := 15) hC 0 rfl 0 rfl dX4_waitingAhead_15 ?_
      refine z_getc (pc := 16) hC (hk 10 rfl) f_10_7 q386 dX4_waitingAhead_16 ?_
      refine z_iload_n (pc := 19) hC 3 rfl 3 rfl dX4_waitingAhead_19 ?_
      refine zs_iald (pc := 20) hC (hk 14 rfl) rfl dX4_waitingAhead_20 ?_
      refine z_if_eq (pc := 21) hC 63 rfl dX4_waitingAhead_21 ?_ ?_
      · exact z_sub [0, 1, 2, 3] rfl (r_Wo_waitingAhead_63 hC hk hk2 hcl _ ih v1 v2 v3)
      · refine z_aload_n (pc := 24) hC 0 rfl 0 rfl dX4_waitingAhead_24 ?_
        refine z_getc (pc := 25) hC (hk 10 rfl) f_10_7 q386 dX4_waitingAhead_25 ?_
        refine z_iload_n (pc := 28) hC 3 rfl 3 rfl dX4_waitingAhead_28 ?_
        refine zs_iald (pc := 29) hC (hk 14 rfl) rfl dX4_waitingAhead_29 ?_
        refine z_aload_n (pc := 30) hC 0 rfl 0 rfl dX4_waitingAhead_30 ?_
        refine z_getc (pc := 31) hC (hk 10 rfl) f_10_7 q386 dX4_waitingAhead_31 ?_
        refine z_iload_n (pc := 34) hC 1 rfl 1 rfl dX4_waitingAhead_34 ?_
        refine zs_iald (pc := 35) hC (hk 14 rfl) rfl dX4_waitingAhead_35 ?_
        refine z_icmp_ge (pc := 36) hC 63 rfl dX4_waitingAhead_36 ?_ ?_
        · exact z_sub [0, 1, 2, 3] rfl (r_Wo_waitingAhead_63 hC hk hk2 hcl _ ih v1 v2 v3)
        · refine z_aload_n (pc := 39) hC 0 rfl 0 rfl dX4_waitingAhead_39 ?_
          refine zs_getS (pc := 40) hC hcl (hk 10 rfl) f_10_0 q377 dX4_waitingAhead_40 (fun q3 hq3 gq3 => ?_)
          refine z_getc (pc := 43) hC (hq3 4 rfl) f_4_1 q176 dX4_waitingAhead_43 ?_
          refine z_iload_n (pc := 46) hC 3 rfl 3 rfl dX4_waitingAhead_46 ?_
          refine zo_iald (pc := 47) hC (Nat.ne_of_lt (Nat.lt_of_lt_of_le gq3 hk2)) (hq3 6 rfl) rfl dX4_waitingAhead_47 ?_
          refine z_aload_n (pc := 48) hC 0 rfl 0 rfl dX4_waitingAhead_48 ?_
          refine zs_getS (pc := 49) hC hcl (hk 10 rfl) f_10_0 q377 dX4_waitingAhead_49 (fun q4 hq4 gq4 => ?_)
          refine z_getc (pc := 52) hC (hq4 4 rfl) f_4_1 q176 dX4_waitingAhead_52 ?_
          refine z_iload_n (pc := 55) hC 1 rfl 1 rfl dX4_waitingAhead_55 ?_
          refine zo_iald (pc := 56) hC (Nat.ne_of_lt (Nat.lt_of_lt_of_le gq4 hk2)) (hq4 6 rfl) rfl dX4_waitingAhead_56 ?_
          refine z_icmp_ne (pc := 57) hC 63 rfl dX4_waitingAhead_57 ?_ ?_
          · exact z_sub [0, 1, 2, 3] rfl (r_Wo_waitingAhead_63 hC hk hk2 hcl _ ih v1 v2 v3)
          · refine z_iinc (pc := 60) (ls1 := fun v => [(2, .inl (.int v)), (0, .inr (k, 10)), (1, .inl (.int v1)), (3, .inl (.int v3))]) hC 2 2 (by decide) (1 : Int32) rfl rfl (fun v => rfl) dX4_waitingAhead_60 (fun v2_5 => ?_)
            exact z_sub [1, 2, 0, 3] rfl (r_Wo_waitingAhead_63 hC hk hk2 hcl _ ih v1 v2_5 v3)
theorem r_Wo_waitingAhead {C : Cxt} {G : Geo} {M : Mem} {k : Nat} (hC : Cx C cX4_waitingAhead 4 "FrameHeirs$World" (some .int) rm_X4_waitingAhead G) (hk : LWd G k) (hk2 : 2 ≤ k) (hcl : GCl G) (d : Sl) (a1 : Int32) : Rz C 4 G (setS M k) (poP avI ((setS M k) d)) 0 [(0, .inr (k, 10)), (1, .inl (.int a1))] [] d (Wo_waitingAhead M d a1) := by
  unfold Wo_waitingAhead
  refine z_iconst (pc := 0) hC (0 : Int32) rfl dX4_waitingAhead_0 ?_
  refine z_istore_n (pc := 1) (ls1 := fun v => [(2, .inl (.int v)), (0, .inr (k, 10)), (1, .inl (.int a1))]) hC 2 rfl (by decide) (fun v => rfl) dX4_waitingAhead_1 (fun v2_6 => ?_)
  refine z_iconst (pc := 2) hC (0 : Int32) rfl dX4_waitingAhead_2 ?_
  refine z_istore_n (pc := 3) (ls1 := fun v => [(3, .inl (.int v)), (2, .inl (.int v2_6)), (0, .inr (k, 10)), (1, .inl (.int a1))]) hC 3 rfl (by decide) (fun v => rfl) dX4_waitingAhead_3 (fun v3_7 => ?_)
  exact z_sub [2, 3, 1, 0] rfl (r_Wo_waitingAhead_4 hC hk hk2 hcl FU a1 v2_6 v3_7)
theorem c_X4_waitingAhead {G : Geo} {M : Mem} {k : Nat} (hG : GOk G) (hk : LWd G k) (hk2 : 2 ≤ k) (hcl : GCl G) {d : Sl} {a1 : Int32} (l : Launch) (r : Int32) (h : Wo_waitingAhead M d a1 = some r) : Mt l yX4_waitingAhead cX4_waitingAhead 4 (some .int) rm_X4_waitingAhead G [.inr (k, 10), .inl (.int a1)] ((setS M k) d) (avI r) ((setS M k) d) :=
  mt_of (mem := (setS M k)) (po := poP avI ((setS M k) d)) (x0 := d) (t := r) rfl hG [.inr (k, 10), .inl (.int a1)] (Nat.le_of_ble_eq_true rfl) rfl (fun C hC => r_Wo_waitingAhead hC hk hk2 hcl d a1) h
-- FrameHeirs$World.tellWait(II)I
abbrev rm_X4_tellWait : Room := { frames := 1, cells := 0, slots := 0, locals := 23 }
theorem dX4_tellWait_0 : decode cX4_tellWait 0 = .ok (.aload_n 0, 1) := by decide +kernel
theorem dX4_tellWait_1 : decode cX4_tellWait 1 = .ok (.getfield 35, 3) := by decide +kernel
theorem dX4_tellWait_4 : decode cX4_tellWait 4 = .ok (.iload_n 1, 1) := by decide +kernel
theorem dX4_tellWait_5 : decode cX4_tellWait 5 = .ok (.iaload, 1) := by decide +kernel
theorem dX4_tellWait_6 : decode cX4_tellWait 6 = .ok (.ifCond .eq 7, 3) := by decide +kernel
theorem dX4_tellWait_9 : decode cX4_tellWait 9 = .ok (.iconst 1, 1) := by decide +kernel
theorem dX4_tellWait_10 : decode cX4_tellWait 10 = .ok (.goto 4, 3) := by decide +kernel
theorem dX4_tellWait_13 : decode cX4_tellWait 13 = .ok (.iconst 0, 1) := by decide +kernel
theorem dX4_tellWait_14 : decode cX4_tellWait 14 = .ok (.istore_n 3, 1) := by decide +kernel
theorem dX4_tellWait_15 : decode cX4_tellWait 15 = .ok (.iload_n 2, 1) := by decide +kernel
theorem dX4_tellWait_16 : decode cX4_tellWait 16 = .ok (.ifCond .ne 13, 3) := by decide +kernel
theorem dX4_tellWait_19 : decode cX4_tellWait 19 = .ok (.iload_n 3, 1) := by decide +kernel
theorem dX4_tellWait_20 : decode cX4_tellWait 20 = .ok (.ifCond .eq 7, 3) := by decide +kernel
theorem dX4_tellWait_23 : decode cX4_tellWait 23 = .ok (.iconst 1, 1) := by decide +kernel
theorem dX4_tellWait_24 : decode cX4_tellWait 24 = .ok (.goto 4, 3) := by decide +kernel
theorem dX4_tellWait_27 : decode cX4_tellWait 27 = .ok (.iconst 0, 1) := by decide +kernel
theorem dX4_tellWait_28 : decode cX4_tellWait 28 = .ok (.ireturn, 1) := by decide +kernel
theorem dX4_tellWait_29 : decode cX4_tellWait 29 = .ok (.iload_n 3, 1) := by decide +kernel
theorem dX4_tellWait_30 : decode cX4_tellWait 30 = .ok (.ifCond .ne 6, 3) := by decide +kernel
theorem dX4_tellWait_33 : decode cX4_tellWait 33 = .ok (.bipush (-2), 2) := by decide +kernel
theorem dX4_tellWait_35 : decode cX4_tellWait 35 = .ok (.ireturn, 1) := by decide +kernel
theorem dX4_tellWait_36 : decode cX4_tellWait 36 = .ok (.iload_n 2, 1) := by decide +kernel
theorem dX4_tellWait_37 : decode cX4_tellWait 37 = .ok (.iconst 1, 1) := by decide +kernel
theorem dX4_tellWait_38 : decode cX4_tellWait 38 = .ok (.if_icmp .ne 10, 3) := by decide +kernel
theorem dX4_tellWait_41 : decode cX4_tellWait 41 = .ok (.aload_n 0, 1) := by decide +kernel
theorem dX4_tellWait_42 : decode cX4_tellWait 42 = .ok (.getfield 29, 3) := by decide +kernel
theorem dX4_tellWait_45 : decode cX4_tellWait 45 = .ok (.iload_n 1, 1) := by decide +kernel
theorem dX4_tellWait_46 : decode cX4_tellWait 46 = .ok (.iaload, 1) := by decide +kernel
theorem dX4_tellWait_47 : decode cX4_tellWait 47 = .ok (.ireturn, 1) := by decide +kernel
theorem dX4_tellWait_48 : decode cX4_tellWait 48 = .ok (.iload_n 2, 1) := by decide +kernel
theorem dX4_tellWait_49 : decode cX4_tellWait 49 = .ok (.iconst 2, 1) := by decide +kernel
theorem dX4_tellWait_50 : decode cX4_tellWait 50 = .ok (.if_icmp .ne 12, 3) := by decide +kernel
theorem dX4_tellWait_53 : decode cX4_tellWait 53 = .ok (.aload_n 0, 1) := by decide +kernel
theorem dX4_tellWait_54 : decode cX4_tellWait 54 = .ok (.getfield 32, 3) := by decide +kernel
theorem dX4_tellWait_57 : decode cX4_tellWait 57 = .ok (.iload_n 1, 1) := by decide +kernel
theorem dX4_tellWait_58 : decode cX4_tellWait 58 = .ok (.iaload, 1) := by decide +kernel
theorem dX4_tellWait_59 : decode cX4_tellWait 59 = .ok (.goto 8, 3) := by decide +kernel
theorem dX4_tellWait_62 : decode cX4_tellWait 62 = .ok (.aload_n 0, 1) := by decide +kernel
theorem dX4_tellWait_63 : decode cX4_tellWait 63 = .ok (.iload_n 1, 1) := by decide +kernel
theorem dX4_tellWait_64 : decode cX4_tellWait 64 = .ok (.invokevirtual 229, 3) := by decide +kernel
theorem dX4_tellWait_67 : decode cX4_tellWait 67 = .ok (.ireturn, 1) := by decide +kernel
def Wo_tellWait_14 (M : Mem) (d : Sl) (v1 : Int32) (v2 : Int32) (s0 : Int32) : Option Int32 :=
  bnd s0 fun v3_1 =>
  if v2 = 0 then
    (if v3_1 = 0 then
      (some (0 : Int32))
    else
      (some (1 : Int32)))
  else
    (if v3_1 = 0 then
      (some (-2 : Int32))
    else
      (if v2 = (1 : Int32) then
        (if inb v1 6 then
        some (d 12 (ix v1))
        else none)
      else
        (if v2 = (2 : Int32) then
          (if inb v1 6 then
          some (d 13 (ix v1))
          else none)
        else
          (bp (Wo_waitingAhead M d v1) fun r2 =>
          some r2))))
def Wo_tellWait (M : Mem) (d : Sl) (a1 : Int32) (a2 : Int32) : Option Int32 :=
  if inb a1 6 then
  if (d 14 (ix a1)) = 0 then
    (Wo_tellWait_14 M d a1 a2 (0 : Int32))
  else
    (Wo_tellWait_14 M d a1 a2 (1 : Int32))
  else none
theorem y_X4_tellWait : YV yX4_tellWait cX4_tellWait 4 (some .int) 2 := ⟨q1066, q1067, q1068, q146, by decide +kernel, by decide +kernel, by decide +kernel, by decide +kernel⟩
theorem r_Wo_tellWait_14 {C : Cxt} {G : Geo} {M : Mem} {k : Nat} {d : Sl} (hC : Cx C cX4_tellWait 4 "FrameHeirs$World" (some .int) rm_X4_tellWait G) (hk : LWd G k) (hk2 : 2 ≤ k) (hcl : GCl G) (v1 : Int32) (v2 : Int32) (s0 : Int32) : Rz C 4 G (setS M k) (poP avI ((setS M k) d)) 14 [(0, .inr (k, 10)), (1, .inl (.int v1)), (2, .inl (.int v2))] [.inl (.int s0)] d (Wo_tellWait_14 M d v1 v2 s0) := by
  unfold Wo_tellWait_14
  refine z_istore_n (pc := 14) (ls1 := fun v => [(3, .inl (.int v)), (0, .inr (k, 10)), (1, .inl (.int v1)), (2, .inl (.int v2))]) hC 3 rfl (by decide) (fun v => rfl) dX4_tellWait_14 (fun v3_1 => ?_)
  refine z_iload_n (pc := 15) hC 2 rfl 3 rfl dX4_tellWait_15 ?_
  refine z_if_ne (pc := 16) hC 29 rfl dX4_tellWait_16 ?_ ?_
  · refine z_iload_n (pc := 29) hC 3 rfl 0 rfl dX4_tellWait_29 ?_
    refine z_if_ne (pc := 30) hC 36 rfl dX4_tellWait_30 ?_ ?_
    · refine z_iload_n (pc := 36) hC 2 rfl 3 rfl dX4_tellWait_36 ?_
      refine z_iconst (pc := 37) hC (1 : Int32) rfl dX4_tellWait_37 ?_
      refine z_icmp_ne (pc := 38) hC 48 rfl dX4_tellWait_38 ?_ ?_
      · refine z_iload_n (pc := 48) hC 2 rfl 3 rfl dX4_tellWait_48 ?_
        refine z_iconst (pc := 49) hC (2 : Int32) rfl dX4_tellWait_49 ?_
        refine z_icmp_ne (pc := 50) hC 62 rfl dX4_tellWait_50 ?_ ?_
        · refine z_aload_n (pc := 62) hC 0 rfl 1 rfl dX4_tellWait_62 ?_
          refine z_iload_n (pc := 63) hC 1 rfl 2 rfl dX4_tellWait_63 ?_
          refine z_piV (pc := 64) (st := []) hC y_X4_waitingAhead q1069 [.inl (.int v1)] rfl (hk 10 rfl) rfl rfl (c_X4_waitingAhead hC.2.2.2.2.2.2.1 hk hk2 hcl) rfl ⟨rfl, rfl, (Nat.le_of_ble_eq_true rfl), (Nat.le_of_ble_eq_true rfl)⟩ (Nat.le_of_ble_eq_true rfl) dX4_tellWait_64 (fun r2 => ?_)
          exact z_iret (pc := 67) hC rfl dX4_tellWait_67
        · refine z_aload_n (pc := 53) hC 0 rfl 1 rfl dX4_tellWait_53 ?_
          refine z_getc (pc := 54) hC (hk 10 rfl) f_10_6 q385 dX4_tellWait_54 ?_
          refine z_iload_n (pc := 57) hC 1 rfl 2 rfl dX4_tellWait_57 ?_
          refine zs_iald (pc := 58) hC (hk 13 rfl) rfl dX4_tellWait_58 ?_
          refine z_goto (pc := 59) hC 67 rfl dX4_tellWait_59 ?_
          exact z_iret (pc := 67) hC rfl dX4_tellWait_67
      · refine z_aload_n (pc := 41) hC 0 rfl 1 rfl dX4_tellWait_41 ?_
        refine z_getc (pc := 42) hC (hk 10 rfl) f_10_5 q384 dX4_tellWait_42 ?_
        refine z_iload_n (pc := 45) hC 1 rfl 2 rfl dX4_tellWait_45 ?_
        refine zs_iald (pc := 46) hC (hk 12 rfl) rfl dX4_tellWait_46 ?_
        exact z_iret (pc := 47) hC rfl dX4_tellWait_47
    · refine z_bipush (pc := 33) hC (-2 : Int32) rfl dX4_tellWait_33 ?_
      exact z_iret (pc := 35) hC rfl dX4_tellWait_35
  · refine z_iload_n (pc := 19) hC 3 rfl 0 rfl dX4_tellWait_19 ?_
    refine z_if_eq (pc := 20) hC 27 rfl dX4_tellWait_20 ?_ ?_
    · refine z_iconst (pc := 27) hC (0 : Int32) rfl dX4_tellWait_27 ?_
      exact z_iret (pc := 28) hC rfl dX4_tellWait_28
    · refine z_iconst (pc := 23) hC (1 : Int32) rfl dX4_tellWait_23 ?_
      refine z_goto (pc := 24) hC 28 rfl dX4_tellWait_24 ?_
      exact z_iret (pc := 28) hC rfl dX4_tellWait_28
theorem r_Wo_tellWait {C : Cxt} {G : Geo} {M : Mem} {k : Nat} (hC : Cx C cX4_tellWait 4 "FrameHeirs$World" (some .int) rm_X4_tellWait G) (hk : LWd G k) (hk2 : 2 ≤ k) (hcl : GCl G) (d : Sl) (a1 : Int32) (a2 : Int32) : Rz C 4 G (setS M k) (poP avI ((setS M k) d)) 0 [(0, .inr (k, 10)), (1, .inl (.int a1)), (2, .inl (.int a2))] [] d (Wo_tellWait M d a1 a2) := by
  unfold Wo_tellWait
  refine z_aload_n (pc := 0) hC 0 rfl 0 rfl dX4_tellWait_0 ?_
  refine z_getc (pc := 1) hC (hk 10 rfl) f_10_7 q386 dX4_tellWait_1 ?_
  refine z_iload_n (pc := 4) hC 1 rfl 1 rfl dX4_tellWait_4 ?_
  refine zs_iald (pc := 5) hC (hk 14 rfl) rfl dX4_tellWait_5 ?_
  refine z_if_eq (pc := 6) hC 13 rfl dX4_tellWait_6 ?_ ?_
  · refine z_iconst (pc := 13) hC (0 : Int32) rfl dX4_tellWait_13 ?_
    exact z_sub [0, 1, 2] rfl (r_Wo_tellWait_14 hC hk hk2 hcl a1 a2 (0 : Int32))
  · refine z_iconst (pc := 9) hC (1 : Int32) rfl dX4_tellWait_9 ?_
    refine z_goto (pc := 10) hC 14 rfl dX4_tellWait_10 ?_
    exact z_sub [0, 1, 2] rfl (r_Wo_tellWait_14 hC hk hk2 hcl a1 a2 (1 : Int32))
theorem c_X4_tellWait {G : Geo} {M : Mem} {k : Nat} (hG : GOk G) (hk : LWd G k) (hk2 : 2 ≤ k) (hcl : GCl G) {d : Sl} {a1 : Int32} {a2 : Int32} (l : Launch) (r : Int32) (h : Wo_tellWait M d a1 a2 = some r) : Mt l yX4_tellWait cX4_tellWait 4 (some .int) rm_X4_tellWait G [.inr (k, 10), .inl (.int a1), .inl (.int a2)] ((setS M k) d) (avI r) ((setS M k) d) :=
  mt_of (mem := (setS M k)) (po := poP avI ((setS M k) d)) (x0 := d) (t := r) rfl hG [.inr (k, 10), .inl (.int a1), .inl (.int a2)] (Nat.le_of_ble_eq_true rfl) rfl (fun C hC => r_Wo_tellWait hC hk hk2 hcl d a1 a2) h
-- FrameHeirs$World.withRight(III)I
abbrev rm_X4_withRight : Room := { frames := 1, cells := 0, slots := 0, locals := 22 }
theorem dX4_withRight_0 : decode cX4_withRight 0 = .ok (.aload_n 0, 1) := by decide +kernel
theorem dX4_withRight_1 : decode cX4_withRight 1 = .ok (.getfield 12, 3) := by decide +kernel
theorem dX4_withRight_4 : decode cX4_withRight 4 = .ok (.iload_n 1, 1) := by decide +kernel
theorem dX4_withRight_5 : decode cX4_withRight 5 = .ok (.iload_n 2, 1) := by decide +kernel
theorem dX4_withRight_6 : decode cX4_withRight 6 = .ok (.invokevirtual 106, 3) := by decide +kernel
theorem dX4_withRight_9 : decode cX4_withRight 9 = .ok (.istore 4, 2) := by decide +kernel
theorem dX4_withRight_11 : decode cX4_withRight 11 = .ok (.iload 4, 2) := by decide +kernel
theorem dX4_withRight_13 : decode cX4_withRight 13 = .ok (.ifCond .lt 23, 3) := by decide +kernel
theorem dX4_withRight_16 : decode cX4_withRight 16 = .ok (.aload_n 0, 1) := by decide +kernel
theorem dX4_withRight_17 : decode cX4_withRight 17 = .ok (.getfield 12, 3) := by decide +kernel
theorem dX4_withRight_20 : decode cX4_withRight 20 = .ok (.getfield 155, 3) := by decide +kernel
theorem dX4_withRight_23 : decode cX4_withRight 23 = .ok (.iload 4, 2) := by decide +kernel
theorem dX4_withRight_25 : decode cX4_withRight 25 = .ok (.iaload, 1) := by decide +kernel
theorem dX4_withRight_26 : decode cX4_withRight 26 = .ok (.iload_n 3, 1) := by decide +kernel
theorem dX4_withRight_27 : decode cX4_withRight 27 = .ok (.iand, 1) := by decide +kernel
theorem dX4_withRight_28 : decode cX4_withRight 28 = .ok (.ifCond .eq 8, 3) := by decide +kernel
theorem dX4_withRight_31 : decode cX4_withRight 31 = .ok (.iload 4, 2) := by decide +kernel
theorem dX4_withRight_33 : decode cX4_withRight 33 = .ok (.goto 4, 3) := by decide +kernel
theorem dX4_withRight_36 : decode cX4_withRight 36 = .ok (.iconst (-1), 1) := by decide +kernel
theorem dX4_withRight_37 : decode cX4_withRight 37 = .ok (.ireturn, 1) := by decide +kernel
def Wo_withRight (M : Mem) (d : Sl) (a1 : Int32) (a2 : Int32) (a3 : Int32) : Option Int32 :=
  bp (De_find d a1 a2) fun r1 =>
  bnd r1 fun v4_2 =>
  if v4_2 < 0 then
    (some (-1 : Int32))
  else
    (if inb v4_2 192 then
    if ((d 22 (ix v4_2)) &&& a3) = 0 then
      (some (-1 : Int32))
    else
      (some v4_2)
    else none)
theorem y_X4_withRight : YV yX4_withRight cX4_withRight 5 (some .int) 3 := ⟨q844, q33, q845, q146, by decide +kernel, by decide +kernel, by decide +kernel, by decide +kernel⟩
theorem r_Wo_withRight {C : Cxt} {G : Geo} {M : Mem} {k : Nat} (hC : Cx C cX4_withRight 5 "FrameHeirs$World" (some .int) rm_X4_withRight G) (hk : LWd G k) (hk2 : 2 ≤ k) (hcl : GCl G) (d : Sl) (a1 : Int32) (a2 : Int32) (a3 : Int32) : Rz C 5 G (setS M k) (poP avI ((setS M k) d)) 0 [(0, .inr (k, 10)), (1, .inl (.int a1)), (2, .inl (.int a2)), (3, .inl (.int a3))] [] d (Wo_withRight M d a1 a2 a3) := by
  unfold Wo_withRight
  refine z_aload_n (pc := 0) hC 0 rfl 0 rfl dX4_withRight_0 ?_
  refine z_getc (pc := 1) hC (hk 10 rfl) f_10_1 q378 dX4_withRight_1 ?_
  refine z_iload_n (pc := 4) hC 1 rfl 1 rfl dX4_withRight_4 ?_
  refine z_iload_n (pc := 5) hC 2 rfl 2 rfl dX4_withRight_5 ?_
  refine z_piV (pc := 6) (st := []) hC y_X0_find q655 [.inl (.int a1), .inl (.int a2)] rfl (hk 17 rfl) rfl rfl (c_X0_find hC.2.2.2.2.2.2.1 hk hk2) rfl ⟨rfl, rfl, (Nat.le_of_ble_eq_true rfl), (Nat.le_of_ble_eq_true rfl)⟩ (Nat.le_of_ble_eq_true rfl) dX4_withRight_6 (fun r1 => ?_)
  refine z_istore (pc := 9) (ls1 := fun v => [(4, .inl (.int v)), (0, .inr (k, 10)), (1, .inl (.int a1)), (2, .inl (.int a2)), (3, .inl (.int a3))]) hC 4 (by decide) (fun v => rfl) dX4_withRight_9 (fun v4_2 => ?_)
  refine z_iload (pc := 11) hC 4 0 rfl dX4_withRight_11 ?_
  refine z_if_lt (pc := 13) hC 36 rfl dX4_withRight_13 ?_ ?_
  · refine z_iconst (pc := 36) hC (-1 : Int32) rfl dX4_withRight_36 ?_
    exact z_iret (pc := 37) hC rfl dX4_withRight_37
  · refine z_aload_n (pc := 16) hC 0 rfl 1 rfl dX4_withRight_16 ?_
    refine z_getc (pc := 17) hC (hk 10 rfl) f_10_1 q378 dX4_withRight_17 ?_
    refine z_getc (pc := 20) hC (hk 17 rfl) f_17_4 q307 dX4_withRight_20 ?_
    refine z_iload (pc := 23) hC 4 0 rfl dX4_withRight_23 ?_
    refine zs_iald (pc := 25) hC (hk 22 rfl) rfl dX4_withRight_25 ?_
    refine z_iload_n (pc := 26) hC 3 rfl 4 rfl dX4_withRight_26 ?_
    refine z_iand (pc := 27) hC dX4_withRight_27 ?_
    refine z_if_eq (pc := 28) hC 36 rfl dX4_withRight_28 ?_ ?_
    · refine z_iconst (pc := 36) hC (-1 : Int32) rfl dX4_withRight_36 ?_
      exact z_iret (pc := 37) hC rfl dX4_withRight_37
    · refine z_iload (pc := 31) hC 4 0 rfl dX4_withRight_31 ?_
      refine z_goto (pc := 33) hC 37 rfl dX4_withRight_33 ?_
      exact z_iret (pc := 37) hC rfl dX4_withRight_37
theorem c_X4_withRight {G : Geo} {M : Mem} {k : Nat} (hG : GOk G) (hk : LWd G k) (hk2 : 2 ≤ k) (hcl : GCl G) {d : Sl} {a1 : Int32} {a2 : Int32} {a3 : Int32} (l : Launch) (r : Int32) (h : Wo_withRight M d a1 a2 a3 = some r) : Mt l yX4_withRight cX4_withRight 5 (some .int) rm_X4_withRight G [.inr (k, 10), .inl (.int a1), .inl (.int a2), .inl (.int a3)] ((setS M k) d) (avI r) ((setS M k) d) :=
  mt_of (mem := (setS M k)) (po := poP avI ((setS M k) d)) (x0 := d) (t := r) rfl hG [.inr (k, 10), .inl (.int a1), .inl (.int a2), .inl (.int a3)] (Nat.le_of_ble_eq_true rfl) rfl (fun C hC => r_Wo_withRight hC hk hk2 hcl d a1 a2 a3) h
-- FrameHeirs$World.firstFresh(III)I
abbrev rm_X4_firstFresh : Room := { frames := 2, cells := 0, slots := 0, locals := 46 }
theorem dX4_firstFresh_0 : decode cX4_firstFresh 0 = .ok (.aload_n 0, 1) := by decide +kernel
theorem dX4_firstFresh_1 : decode cX4_firstFresh 1 = .ok (.getfield 12, 3) := by decide +kernel
theorem dX4_firstFresh_4 : decode cX4_firstFresh 4 = .ok (.iload_n 1, 1) := by decide +kernel
theorem dX4_firstFresh_5 : decode cX4_firstFresh 5 = .ok (.invokestatic 259, 3) := by decide +kernel
theorem dX4_firstFresh_8 : decode cX4_firstFresh 8 = .ok (.istore 4, 2) := by decide +kernel
theorem dX4_firstFresh_10 : decode cX4_firstFresh 10 = .ok (.iconst 0, 1) := by decide +kernel
theorem dX4_firstFresh_11 : decode cX4_firstFresh 11 = .ok (.istore 5, 2) := by decide +kernel
theorem dX4_firstFresh_13 : decode cX4_firstFresh 13 = .ok (.iload 5, 2) := by decide +kernel
theorem dX4_firstFresh_15 : decode cX4_firstFresh 15 = .ok (.aload_n 0, 1) := by decide +kernel
theorem dX4_firstFresh_16 : decode cX4_firstFresh 16 = .ok (.getfield 59, 3) := by decide +kernel
theorem dX4_firstFresh_19 : decode cX4_firstFresh 19 = .ok (.getfield 72, 3) := by decide +kernel
theorem dX4_firstFresh_22 : decode cX4_firstFresh 22 = .ok (.if_icmp .ge 51, 3) := by decide +kernel
theorem dX4_firstFresh_25 : decode cX4_firstFresh 25 = .ok (.aload_n 0, 1) := by decide +kernel
theorem dX4_firstFresh_26 : decode cX4_firstFresh 26 = .ok (.iload_n 2, 1) := by decide +kernel
theorem dX4_firstFresh_27 : decode cX4_firstFresh 27 = .ok (.iload 5, 2) := by decide +kernel
theorem dX4_firstFresh_29 : decode cX4_firstFresh 29 = .ok (.aload_n 0, 1) := by decide +kernel
theorem dX4_firstFresh_30 : decode cX4_firstFresh 30 = .ok (.getfield 32, 3) := by decide +kernel
theorem dX4_firstFresh_33 : decode cX4_firstFresh 33 = .ok (.iload_n 1, 1) := by decide +kernel
theorem dX4_firstFresh_34 : decode cX4_firstFresh 34 = .ok (.iaload, 1) := by decide +kernel
theorem dX4_firstFresh_35 : decode cX4_firstFresh 35 = .ok (.invokevirtual 238, 3) := by decide +kernel
theorem dX4_firstFresh_38 : decode cX4_firstFresh 38 = .ok (.istore 6, 2) := by decide +kernel
theorem dX4_firstFresh_40 : decode cX4_firstFresh 40 = .ok (.iload 6, 2) := by decide +kernel
theorem dX4_firstFresh_42 : decode cX4_firstFresh 42 = .ok (.ifCond .lt 25, 3) := by decide +kernel
theorem dX4_firstFresh_45 : decode cX4_firstFresh 45 = .ok (.iload 4, 2) := by decide +kernel
theorem dX4_firstFresh_47 : decode cX4_firstFresh 47 = .ok (.aload_n 0, 1) := by decide +kernel
theorem dX4_firstFresh_48 : decode cX4_firstFresh 48 = .ok (.getfield 12, 3) := by decide +kernel
theorem dX4_firstFresh_51 : decode cX4_firstFresh 51 = .ok (.iload 6, 2) := by decide +kernel
theorem dX4_firstFresh_53 : decode cX4_firstFresh 53 = .ok (.iload 5, 2) := by decide +kernel
theorem dX4_firstFresh_55 : decode cX4_firstFresh 55 = .ok (.invokestatic 170, 3) := by decide +kernel
theorem dX4_firstFresh_58 : decode cX4_firstFresh 58 = .ok (.ishr, 1) := by decide +kernel
theorem dX4_firstFresh_59 : decode cX4_firstFresh 59 = .ok (.iconst 1, 1) := by decide +kernel
theorem dX4_firstFresh_60 : decode cX4_firstFresh 60 = .ok (.iand, 1) := by decide +kernel
theorem dX4_firstFresh_61 : decode cX4_firstFresh 61 = .ok (.ifCond .ne 6, 3) := by decide +kernel
theorem dX4_firstFresh_64 : decode cX4_firstFresh 64 = .ok (.iload 5, 2) := by decide +kernel
theorem dX4_firstFresh_66 : decode cX4_firstFresh 66 = .ok (.ireturn, 1) := by decide +kernel
theorem dX4_firstFresh_67 : decode cX4_firstFresh 67 = .ok (.iinc 5 1, 3) := by decide +kernel
theorem dX4_firstFresh_70 : decode cX4_firstFresh 70 = .ok (.goto (-57), 3) := by decide +kernel
theorem dX4_firstFresh_73 : decode cX4_firstFresh 73 = .ok (.iload_n 3, 1) := by decide +kernel
theorem dX4_firstFresh_74 : decode cX4_firstFresh 74 = .ok (.ireturn, 1) := by decide +kernel
def Wo_firstFresh_67 (k13 : Int32 → Int32 → Int32 → Int32 → Int32 → Option Int32) (M : Mem) (d : Sl) (v1 : Int32) (v2 : Int32) (v3 : Int32) (v4 : Int32) (v5 : Int32) : Option Int32 :=
  bnd (v5 + (1 : Int32)) fun v5_1 =>
  k13 v1 v2 v3 v4 v5_1
def Wo_firstFresh_13 (M : Mem) (d : Sl) : Nat → Int32 → Int32 → Int32 → Int32 → Int32 → Option Int32
  | 0, _, _, _, _, _ => none
  | n + 1, v1, v2, v3, v4, v5 =>
    gref (d 10 0) fun q2 =>
    if (M q2 4 6) ≤ v5 then
      (some v3)
    else
      (if inb v1 6 then
      bp (Wo_withRight M d v2 v5 (d 13 (ix v1))) fun r3 =>
      bnd r3 fun v6_4 =>
      if v6_4 < 0 then
        (Wo_firstFresh_67 (Wo_firstFresh_13 M d n) M d v1 v2 v3 v4 v5)
      else
        (bp (Qu_frameAt d v6_4 v5) fun r5 =>
        if ((v4 >>> (r5 &&& 31)) &&& (1 : Int32)) = 0 then
          (some v5)
        else
          (Wo_firstFresh_67 (Wo_firstFresh_13 M d n) M d v1 v2 v3 v4 v5))
      else none)
def Wo_firstFresh (M : Mem) (d : Sl) (a1 : Int32) (a2 : Int32) (a3 : Int32) : Option Int32 :=
  bp (Qu_framesOf d a1) fun r6 =>
  bnd r6 fun v4_7 =>
  bnd (0 : Int32) fun v5_8 =>
  Wo_firstFresh_13 M d FU a1 a2 a3 v4_7 v5_8
theorem y_X4_firstFresh : YV yX4_firstFresh cX4_firstFresh 7 (some .int) 3 := ⟨q835, q32, q836, q146, by decide +kernel, by decide +kernel, by decide +kernel, by decide +kernel⟩
theorem r_Wo_firstFresh_67 {C : Cxt} {G : Geo} {M : Mem} {k : Nat} {d : Sl} (hC : Cx C cX4_firstFresh 7 "FrameHeirs$World" (some .int) rm_X4_firstFresh G) (hk : LWd G k) (hk2 : 2 ≤ k) (hcl : GCl G) (k13 : Int32 → Int32 → Int32 → Int32 → Int32 → Option Int32) (h13 : ∀ (v1 : Int32) (v2 : Int32) (v3 : Int32) (v4 : Int32) (v5 : Int32), Rz C 7 G (setS M k) (poP avI ((setS M k) d)) 13 [(0, .inr (k, 10)), (1, .inl (.int v1)), (2, .inl (.int v2)), (3, .inl (.int v3)), (4, .inl (.int v4)), (5, .inl (.int v5))] [] d (k13 v1 v2 v3 v4 v5)) (v1 : Int32) (v2 : Int32) (v3 : Int32) (v4 : Int32) (v5 : Int32) : Rz C 7 G (setS M k) (poP avI ((setS M k) d)) 67 [(0, .inr (k, 10)), (1, .inl (.int v1)), (2, .inl (.int v2)), (3, .inl (.int v3)), (4, .inl (.int v4)), (5, .inl (.int v5))] [] d (Wo_firstFresh_67 k13 M d v1 v2 v3 v4 v5) := by
  unfold Wo_firstFresh_67
  refine z_iinc (pc := 67) (ls1 := fun v => [(5, .inl (.int v)), (0, .inr (k, 10)), (1, .inl (.int v1)), (2, .inl (.int v2)), (3, .inl (.int v3)), (4, .inl (.int v4))]) hC 5 5 (by decide) (1 : Int32) rfl rfl (fun v => rfl) dX4_firstFresh_67 (fun v5_1 => ?_)
  refine z_goto (pc := 70) hC 13 rfl dX4_firstFresh_70 ?_
  exact z_sub [1, 2, 3, 4, 5, 0] rfl (h13 v1 v2 v3 v4 v5_1)
theorem r_Wo_firstFresh_13 {C : Cxt} {G : Geo} {M : Mem} {k : Nat} {d : Sl} (hC : Cx C cX4_firstFresh 7 "FrameHeirs$World" (some .int) rm_X4_firstFresh G) (hk : LWd G k) (hk2 : 2 ≤ k) (hcl : GCl G) : ∀ (n : Nat) (v1 : Int32) (v2 : Int32) (v3 : Int32) (v4 : Int32) (v5 : Int32), Rz C 7 G (setS M k) (poP avI ((setS M k) d)) 13 [(0, .inr (k, 10)), (1, .inl (.int v1)), (2, .inl (.int v2)), (3, .inl (.int v3)), (4, .inl (.int v4)), (5, .inl (.int v5))] [] d (Wo_firstFresh_13 M d n v1 v2 v3 v4 v5) := by
  intro n
  induction n with
  | zero => intros; exact z_none
  | succ n ih =>
    intro v1 v2 v3 v4 v5
    rw [Wo_firstFresh_13]
    refine z_iload (pc := 13) hC 5 5 rfl dX4_firstFresh_13 ?_
    refine z_aload_n (pc := 15) hC 0 rfl 0 rfl dX4_firstFresh_15 ?_
    refine zs_getS (pc := 16) hC hcl (hk 10 rfl) f_10_0 q377 dX4_firstFresh_16 (fun q2 hq2 gq2 => ?_)
    refine zo_geti (pc := 19) hC (Nat.ne_of_lt (Nat.lt_of_lt_of_le gq2 hk2)) (hq2 4 rfl) f_4_6 q191 dX4_firstFresh_19 ?_
    refine z_icmp_ge (pc := 22) hC 73 rfl dX4_firstFresh_22 ?_ ?_
    · refine z_iload_n (pc := 73) hC 3 rfl 3 rfl dX4_firstFresh_73 ?_
      exact z_iret (pc := 74) hC rfl dX4_firstFresh_74
    · refine z_aload_n (pc := 25) hC 0 rfl 0 rfl dX4_firstFresh_25 ?_
      refine z_iload_n (pc := 26) hC 2 rfl 2 rfl dX4_firstFresh_26 ?_
      refine z_iload (pc := 27) hC 5 5 rfl dX4_firstFresh_27 ?_
      refine z_aload_n (pc := 29) hC 0 rfl 0 rfl dX4_firstFresh_29 ?_
      refine z_getc (pc := 30) hC (hk 10 rfl) f_10_6 q385 dX4_firstFresh_30 ?_
      refine z_iload_n (pc := 33) hC 1 rfl 1 rfl dX4_firstFresh_33 ?_
      refine zs_iald (pc := 34) hC (hk 13 rfl) rfl dX4_firstFresh_34 ?_
      refine z_piV (pc := 35) (st := []) hC y_X4_withRight q842 [.inl (.int v2), .inl (.int v5), .inl (.int (d 13 (ix v1)))] rfl (hk 10 rfl) rfl rfl (c_X4_withRight hC.2.2.2.2.2.2.1 hk hk2 hcl) rfl ⟨rfl, rfl, (Nat.le_of_ble_eq_true rfl), (Nat.le_of_ble_eq_true rfl)⟩ (Nat.le_of_ble_eq_true rfl) dX4_firstFresh_35 (fun r3 => ?_)
      refine z_istore (pc := 38) (ls1 := fun v => [(6, .inl (.int v)), (0, .inr (k, 10)), (1, .inl (.int v1)), (2, .inl (.int v2)), (3, .inl (.int v3)), (4, .inl (.int v4)), (5, .inl (.int v5))]) hC 6 (by decide) (fun v => rfl) dX4_firstFresh_38 (fun v6_4 => ?_)
      refine z_iload (pc := 40) hC 6 0 rfl dX4_firstFresh_40 ?_
      refine z_if_lt (pc := 42) hC 67 rfl dX4_firstFresh_42 ?_ ?_
      · exact z_sub [1, 2, 3, 4, 5, 6] rfl (r_Wo_firstFresh_67 hC hk hk2 hcl _ ih v1 v2 v3 v4 v5)
      · refine z_iload (pc := 45) hC 4 5 rfl dX4_firstFresh_45 ?_
        refine z_aload_n (pc := 47) hC 0 rfl 1 rfl dX4_firstFresh_47 ?_
        refine z_getc (pc := 48) hC (hk 10 rfl) f_10_1 q378 dX4_firstFresh_48 ?_
        refine z_iload (pc := 51) hC 6 0 rfl dX4_firstFresh_51 ?_
        refine z_iload (pc := 53) hC 5 6 rfl dX4_firstFresh_53 ?_
        refine z_piS (pc := 55) (st := [.inl (.int v4)]) hC y_X1_frameAt q698 [.inr (k, 17), .inl (.int v6_4), .inl (.int v5)] rfl (c_X1_frameAt hC.2.2.2.2.2.2.1 hk hk2) rfl ⟨rfl, rfl, (Nat.le_of_ble_eq_true rfl), (Nat.le_of_ble_eq_true rfl)⟩ (Nat.le_of_ble_eq_true rfl) dX4_firstFresh_55 (fun r5 => ?_)
        refine z_ishr (pc := 58) hC dX4_firstFresh_58 ?_
        refine z_iconst (pc := 59) hC (1 : Int32) rfl dX4_firstFresh_59 ?_
        refine z_iand (pc := 60) hC dX4_firstFresh_60 ?_
        refine z_if_ne (pc := 61) hC 67 rfl dX4_firstFresh_61 ?_ ?_
        · exact z_sub [1, 2, 3, 4, 5, 6] rfl (r_Wo_firstFresh_67 hC hk hk2 hcl _ ih v1 v2 v3 v4 v5)
        · refine z_iload (pc := 64) hC 5 6 rfl dX4_firstFresh_64 ?_
          exact z_iret (pc := 66) hC rfl dX4_firstFresh_66
theorem r_Wo_firstFresh {C : Cxt} {G : Geo} {M : Mem} {k : Nat} (hC : Cx C cX4_firstFresh 7 "FrameHeirs$World" (some .int) rm_X4_firstFresh G) (hk : LWd G k) (hk2 : 2 ≤ k) (hcl : GCl G) (d : Sl) (a1 : Int32) (a2 : Int32) (a3 : Int32) : Rz C 7 G (setS M k) (poP avI ((setS M k) d)) 0 [(0, .inr (k, 10)), (1, .inl (.int a1)), (2, .inl (.int a2)), (3, .inl (.int a3))] [] d (Wo_firstFresh M d a1 a2 a3) := by
  unfold Wo_firstFresh
  refine z_aload_n (pc := 0) hC 0 rfl 0 rfl dX4_firstFresh_0 ?_
  refine z_getc (pc := 1) hC (hk 10 rfl) f_10_1 q378 dX4_firstFresh_1 ?_
  refine z_iload_n (pc := 4) hC 1 rfl 1 rfl dX4_firstFresh_4 ?_
  refine z_piS (pc := 5) (st := []) hC y_X1_framesOf q837 [.inr (k, 17), .inl (.int a1)] rfl (c_X1_framesOf hC.2.2.2.2.2.2.1 hk hk2) rfl ⟨rfl, rfl, (Nat.le_of_ble_eq_true rfl), (Nat.le_of_ble_eq_true rfl)⟩ (Nat.le_of_ble_eq_true rfl) dX4_firstFresh_5 (fun r6 => ?_)
  refine z_istore (pc := 8) (ls1 := fun v => [(4, .inl (.int v)), (0, .inr (k, 10)), (1, .inl (.int a1)), (2, .inl (.int a2)), (3, .inl (.int a3))]) hC 4 (by decide) (fun v => rfl) dX4_firstFresh_8 (fun v4_7 => ?_)
  refine z_iconst (pc := 10) hC (0 : Int32) rfl dX4_firstFresh_10 ?_
  refine z_istore (pc := 11) (ls1 := fun v => [(5, .inl (.int v)), (4, .inl (.int v4_7)), (0, .inr (k, 10)), (1, .inl (.int a1)), (2, .inl (.int a2)), (3, .inl (.int a3))]) hC 5 (by decide) (fun v => rfl) dX4_firstFresh_11 (fun v5_8 => ?_)
  exact z_sub [2, 3, 4, 5, 1, 0] rfl (r_Wo_firstFresh_13 hC hk hk2 hcl FU a1 a2 a3 v4_7 v5_8)
theorem c_X4_firstFresh {G : Geo} {M : Mem} {k : Nat} (hG : GOk G) (hk : LWd G k) (hk2 : 2 ≤ k) (hcl : GCl G) {d : Sl} {a1 : Int32} {a2 : Int32} {a3 : Int32} (l : Launch) (r : Int32) (h : Wo_firstFresh M d a1 a2 a3 = some r) : Mt l yX4_firstFresh cX4_firstFresh 7 (some .int) rm_X4_firstFresh G [.inr (k, 10), .inl (.int a1), .inl (.int a2), .inl (.int a3)] ((setS M k) d) (avI r) ((setS M k) d) :=
  mt_of (mem := (setS M k)) (po := poP avI ((setS M k) d)) (x0 := d) (t := r) rfl hG [.inr (k, 10), .inl (.int a1), .inl (.int a2), .inl (.int a3)] (Nat.le_of_ble_eq_true rfl) rfl (fun C hC => r_Wo_firstFresh hC hk hk2 hcl d a1 a2 a3) h
-- FrameHeirs$World.sourceFor(II)I
abbrev rm_X4_sourceFor : Room := { frames := 3, cells := 0, slots := 0, locals := 72 }
theorem dX4_sourceFor_0 : decode cX4_sourceFor 0 = .ok (.aload_n 0, 1) := by decide +kernel
theorem dX4_sourceFor_1 : decode cX4_sourceFor 1 = .ok (.getfield 29, 3) := by decide +kernel
theorem dX4_sourceFor_4 : decode cX4_sourceFor 4 = .ok (.iload_n 1, 1) := by decide +kernel
theorem dX4_sourceFor_5 : decode cX4_sourceFor 5 = .ok (.iaload, 1) := by decide +kernel
theorem dX4_sourceFor_6 : decode cX4_sourceFor 6 = .ok (.istore_n 3, 1) := by decide +kernel
theorem dX4_sourceFor_7 : decode cX4_sourceFor 7 = .ok (.aload_n 0, 1) := by decide +kernel
theorem dX4_sourceFor_8 : decode cX4_sourceFor 8 = .ok (.getfield 59, 3) := by decide +kernel
theorem dX4_sourceFor_11 : decode cX4_sourceFor 11 = .ok (.getfield 72, 3) := by decide +kernel
theorem dX4_sourceFor_14 : decode cX4_sourceFor 14 = .ok (.istore 4, 2) := by decide +kernel
theorem dX4_sourceFor_16 : decode cX4_sourceFor 16 = .ok (.aload_n 0, 1) := by decide +kernel
theorem dX4_sourceFor_17 : decode cX4_sourceFor 17 = .ok (.getfield 59, 3) := by decide +kernel
theorem dX4_sourceFor_20 : decode cX4_sourceFor 20 = .ok (.getfield 253, 3) := by decide +kernel
theorem dX4_sourceFor_23 : decode cX4_sourceFor 23 = .ok (.iload_n 1, 1) := by decide +kernel
theorem dX4_sourceFor_24 : decode cX4_sourceFor 24 = .ok (.iaload, 1) := by decide +kernel
theorem dX4_sourceFor_25 : decode cX4_sourceFor 25 = .ok (.tableswitch 69 1 3 #[27, 54, 61], 27) := by decide +kernel
theorem dX4_sourceFor_52 : decode cX4_sourceFor 52 = .ok (.iload_n 3, 1) := by decide +kernel
theorem dX4_sourceFor_53 : decode cX4_sourceFor 53 = .ok (.iload 4, 2) := by decide +kernel
theorem dX4_sourceFor_55 : decode cX4_sourceFor 55 = .ok (.iconst 2, 1) := by decide +kernel
theorem dX4_sourceFor_56 : decode cX4_sourceFor 56 = .ok (.idiv, 1) := by decide +kernel
theorem dX4_sourceFor_57 : decode cX4_sourceFor 57 = .ok (.iadd, 1) := by decide +kernel
theorem dX4_sourceFor_58 : decode cX4_sourceFor 58 = .ok (.iload 4, 2) := by decide +kernel
theorem dX4_sourceFor_60 : decode cX4_sourceFor 60 = .ok (.if_icmp .ge 12, 3) := by decide +kernel
theorem dX4_sourceFor_63 : decode cX4_sourceFor 63 = .ok (.iload_n 3, 1) := by decide +kernel
theorem dX4_sourceFor_64 : decode cX4_sourceFor 64 = .ok (.iload 4, 2) := by decide +kernel
theorem dX4_sourceFor_66 : decode cX4_sourceFor 66 = .ok (.iconst 2, 1) := by decide +kernel
theorem dX4_sourceFor_67 : decode cX4_sourceFor 67 = .ok (.idiv, 1) := by decide +kernel
theorem dX4_sourceFor_68 : decode cX4_sourceFor 68 = .ok (.iadd, 1) := by decide +kernel
theorem dX4_sourceFor_69 : decode cX4_sourceFor 69 = .ok (.goto 9, 3) := by decide +kernel
theorem dX4_sourceFor_72 : decode cX4_sourceFor 72 = .ok (.iload_n 3, 1) := by decide +kernel
theorem dX4_sourceFor_73 : decode cX4_sourceFor 73 = .ok (.iload 4, 2) := by decide +kernel
theorem dX4_sourceFor_75 : decode cX4_sourceFor 75 = .ok (.iconst 2, 1) := by decide +kernel
theorem dX4_sourceFor_76 : decode cX4_sourceFor 76 = .ok (.idiv, 1) := by decide +kernel
theorem dX4_sourceFor_77 : decode cX4_sourceFor 77 = .ok (.isub, 1) := by decide +kernel
theorem dX4_sourceFor_78 : decode cX4_sourceFor 78 = .ok (.ireturn, 1) := by decide +kernel
theorem dX4_sourceFor_79 : decode cX4_sourceFor 79 = .ok (.iload 4, 2) := by decide +kernel
theorem dX4_sourceFor_81 : decode cX4_sourceFor 81 = .ok (.iconst 1, 1) := by decide +kernel
theorem dX4_sourceFor_82 : decode cX4_sourceFor 82 = .ok (.isub, 1) := by decide +kernel
theorem dX4_sourceFor_83 : decode cX4_sourceFor 83 = .ok (.iload_n 3, 1) := by decide +kernel
theorem dX4_sourceFor_84 : decode cX4_sourceFor 84 = .ok (.isub, 1) := by decide +kernel
theorem dX4_sourceFor_85 : decode cX4_sourceFor 85 = .ok (.ireturn, 1) := by decide +kernel
theorem dX4_sourceFor_86 : decode cX4_sourceFor 86 = .ok (.aload_n 0, 1) := by decide +kernel
theorem dX4_sourceFor_87 : decode cX4_sourceFor 87 = .ok (.iload_n 1, 1) := by decide +kernel
theorem dX4_sourceFor_88 : decode cX4_sourceFor 88 = .ok (.iload_n 2, 1) := by decide +kernel
theorem dX4_sourceFor_89 : decode cX4_sourceFor 89 = .ok (.iload_n 3, 1) := by decide +kernel
theorem dX4_sourceFor_90 : decode cX4_sourceFor 90 = .ok (.invokevirtual 256, 3) := by decide +kernel
theorem dX4_sourceFor_93 : decode cX4_sourceFor 93 = .ok (.ireturn, 1) := by decide +kernel
theorem dX4_sourceFor_94 : decode cX4_sourceFor 94 = .ok (.iload_n 3, 1) := by decide +kernel
theorem dX4_sourceFor_95 : decode cX4_sourceFor 95 = .ok (.ireturn, 1) := by decide +kernel
def Wo_sourceFor (M : Mem) (d : Sl) (a1 : Int32) (a2 : Int32) : Option Int32 :=
  if inb a1 6 then
  bnd (d 12 (ix a1)) fun v3_1 =>
  gref (d 10 0) fun q2 =>
  bnd (M q2 4 6) fun v4_3 =>
  gref (d 10 0) fun q4 =>
  if inb a1 6 then
  if (M q4 7 (ix a1)) = (1 : Int32) then
    (if ¬ (2 : Int32) = 0 then
    if v4_3 ≤ (v3_1 + (v4_3 / (2 : Int32))) then
      (if ¬ (2 : Int32) = 0 then
      some (v3_1 - (v4_3 / (2 : Int32)))
      else none)
    else
      (if ¬ (2 : Int32) = 0 then
      some (v3_1 + (v4_3 / (2 : Int32)))
      else none)
    else none)
  else
    (if (M q4 7 (ix a1)) = (2 : Int32) then
      (some ((v4_3 - (1 : Int32)) - v3_1))
    else
      (if (M q4 7 (ix a1)) = (3 : Int32) then
        (bp (Wo_firstFresh M d a1 a2 v3_1) fun r5 =>
        some r5)
      else
        (some v3_1)))
  else none
  else none
theorem y_X4_sourceFor : YV yX4_sourceFor cX4_sourceFor 5 (some .int) 2 := ⟨q831, q31, q832, q146, by decide +kernel, by decide +kernel, by decide +kernel, by decide +kernel⟩
theorem r_Wo_sourceFor {C : Cxt} {G : Geo} {M : Mem} {k : Nat} (hC : Cx C cX4_sourceFor 5 "FrameHeirs$World" (some .int) rm_X4_sourceFor G) (hk : LWd G k) (hk2 : 2 ≤ k) (hcl : GCl G) (d : Sl) (a1 : Int32) (a2 : Int32) : Rz C 5 G (setS M k) (poP avI ((setS M k) d)) 0 [(0, .inr (k, 10)), (1, .inl (.int a1)), (2, .inl (.int a2))] [] d (Wo_sourceFor M d a1 a2) := by
  unfold Wo_sourceFor
  refine z_aload_n (pc := 0) hC 0 rfl 0 rfl dX4_sourceFor_0 ?_
  refine z_getc (pc := 1) hC (hk 10 rfl) f_10_5 q384 dX4_sourceFor_1 ?_
  refine z_iload_n (pc := 4) hC 1 rfl 1 rfl dX4_sourceFor_4 ?_
  refine zs_iald (pc := 5) hC (hk 12 rfl) rfl dX4_sourceFor_5 ?_
  refine z_istore_n (pc := 6) (ls1 := fun v => [(3, .inl (.int v)), (0, .inr (k, 10)), (1, .inl (.int a1)), (2, .inl (.int a2))]) hC 3 rfl (by decide) (fun v => rfl) dX4_sourceFor_6 (fun v3_1 => ?_)
  refine z_aload_n (pc := 7) hC 0 rfl 1 rfl dX4_sourceFor_7 ?_
  refine zs_getS (pc := 8) hC hcl (hk 10 rfl) f_10_0 q377 dX4_sourceFor_8 (fun q2 hq2 gq2 => ?_)
  refine zo_geti (pc := 11) hC (Nat.ne_of_lt (Nat.lt_of_lt_of_le gq2 hk2)) (hq2 4 rfl) f_4_6 q191 dX4_sourceFor_11 ?_
  refine z_istore (pc := 14) (ls1 := fun v => [(4, .inl (.int v)), (3, .inl (.int v3_1)), (0, .inr (k, 10)), (1, .inl (.int a1)), (2, .inl (.int a2))]) hC 4 (by decide) (fun v => rfl) dX4_sourceFor_14 (fun v4_3 => ?_)
  refine z_aload_n (pc := 16) hC 0 rfl 2 rfl dX4_sourceFor_16 ?_
  refine zs_getS (pc := 17) hC hcl (hk 10 rfl) f_10_0 q377 dX4_sourceFor_17 (fun q4 hq4 gq4 => ?_)
  refine z_getc (pc := 20) hC (hq4 4 rfl) f_4_2 q179 dX4_sourceFor_20 ?_
  refine z_iload_n (pc := 23) hC 1 rfl 3 rfl dX4_sourceFor_23 ?_
  refine zo_iald (pc := 24) hC (Nat.ne_of_lt (Nat.lt_of_lt_of_le gq4 hk2)) (hq4 7 rfl) rfl dX4_sourceFor_24 ?_
  refine z_ite (fun e => ?_) (fun e0 => ?_)
  · refine z_tswIn (pc := 25) hC 1 52 (by rw [e]; rfl) (by decide) (by decide) rfl rfl dX4_sourceFor_25 ?_
    refine z_iload_n (pc := 52) hC 3 rfl 1 rfl dX4_sourceFor_52 ?_
    refine z_iload (pc := 53) hC 4 0 rfl dX4_sourceFor_53 ?_
    refine z_iconst (pc := 55) hC (2 : Int32) rfl dX4_sourceFor_55 ?_
    refine z_idiv (pc := 56) hC dX4_sourceFor_56 ?_
    refine z_iadd (pc := 57) hC dX4_sourceFor_57 ?_
    refine z_iload (pc := 58) hC 4 0 rfl dX4_sourceFor_58 ?_
    refine z_icmp_ge (pc := 60) hC 72 rfl dX4_sourceFor_60 ?_ ?_
    · refine z_iload_n (pc := 72) hC 3 rfl 1 rfl dX4_sourceFor_72 ?_
      refine z_iload (pc := 73) hC 4 0 rfl dX4_sourceFor_73 ?_
      refine z_iconst (pc := 75) hC (2 : Int32) rfl dX4_sourceFor_75 ?_
      refine z_idiv (pc := 76) hC dX4_sourceFor_76 ?_
      refine z_isub (pc := 77) hC dX4_sourceFor_77 ?_
      exact z_iret (pc := 78) hC rfl dX4_sourceFor_78
    · refine z_iload_n (pc := 63) hC 3 rfl 1 rfl dX4_sourceFor_63 ?_
      refine z_iload (pc := 64) hC 4 0 rfl dX4_sourceFor_64 ?_
      refine z_iconst (pc := 66) hC (2 : Int32) rfl dX4_sourceFor_66 ?_
      refine z_idiv (pc := 67) hC dX4_sourceFor_67 ?_
      refine z_iadd (pc := 68) hC dX4_sourceFor_68 ?_
      refine z_goto (pc := 69) hC 78 rfl dX4_sourceFor_69 ?_
      exact z_iret (pc := 78) hC rfl dX4_sourceFor_78
  · refine z_ite (fun e => ?_) (fun e1 => ?_)
    · refine z_tswIn (pc := 25) hC 2 79 (by rw [e]; rfl) (by decide) (by decide) rfl rfl dX4_sourceFor_25 ?_
      refine z_iload (pc := 79) hC 4 0 rfl dX4_sourceFor_79 ?_
      refine z_iconst (pc := 81) hC (1 : Int32) rfl dX4_sourceFor_81 ?_
      refine z_isub (pc := 82) hC dX4_sourceFor_82 ?_
      refine z_iload_n (pc := 83) hC 3 rfl 1 rfl dX4_sourceFor_83 ?_
      refine z_isub (pc := 84) hC dX4_sourceFor_84 ?_
      exact z_iret (pc := 85) hC rfl dX4_sourceFor_85
    · refine z_ite (fun e => ?_) (fun e2 => ?_)
      · refine z_tswIn (pc := 25) hC 3 86 (by rw [e]; rfl) (by decide) (by decide) rfl rfl dX4_sourceFor_25 ?_
        refine z_aload_n (pc := 86) hC 0 rfl 2 rfl dX4_sourceFor_86 ?_
        refine z_iload_n (pc := 87) hC 1 rfl 3 rfl dX4_sourceFor_87 ?_
        refine z_iload_n (pc := 88) hC 2 rfl 4 rfl dX4_sourceFor_88 ?_
        refine z_iload_n (pc := 89) hC 3 rfl 1 rfl dX4_sourceFor_89 ?_
        refine z_piV (pc := 90) (st := []) hC y_X4_firstFresh q833 [.inl (.int a1), .inl (.int a2), .inl (.int v3_1)] rfl (hk 10 rfl) rfl rfl (c_X4_firstFresh hC.2.2.2.2.2.2.1 hk hk2 hcl) rfl ⟨rfl, rfl, (Nat.le_of_ble_eq_true rfl), (Nat.le_of_ble_eq_true rfl)⟩ (Nat.le_of_ble_eq_true rfl) dX4_sourceFor_90 (fun r5 => ?_)
        exact z_iret (pc := 93) hC rfl dX4_sourceFor_93
      · have e0_ : ((M q4 7 (ix a1))).toInt ≠ 1 := fun h => e0 (Int32.toInt_inj.mp (by rw [h]; rfl))
        have e1_ : ((M q4 7 (ix a1))).toInt ≠ 2 := fun h => e1 (Int32.toInt_inj.mp (by rw [h]; rfl))
        have e2_ : ((M q4 7 (ix a1))).toInt ≠ 3 := fun h => e2 (Int32.toInt_inj.mp (by rw [h]; rfl))
        refine z_tswOut (pc := 25) hC 94 (by omega) rfl dX4_sourceFor_25 ?_
        refine z_iload_n (pc := 94) hC 3 rfl 1 rfl dX4_sourceFor_94 ?_
        exact z_iret (pc := 95) hC rfl dX4_sourceFor_95
theorem c_X4_sourceFor {G : Geo} {M : Mem} {k : Nat} (hG : GOk G) (hk : LWd G k) (hk2 : 2 ≤ k) (hcl : GCl G) {d : Sl} {a1 : Int32} {a2 : Int32} (l : Launch) (r : Int32) (h : Wo_sourceFor M d a1 a2 = some r) : Mt l yX4_sourceFor cX4_sourceFor 5 (some .int) rm_X4_sourceFor G [.inr (k, 10), .inl (.int a1), .inl (.int a2)] ((setS M k) d) (avI r) ((setS M k) d) :=
  mt_of (mem := (setS M k)) (po := poP avI ((setS M k) d)) (x0 := d) (t := r) rfl hG [.inr (k, 10), .inl (.int a1), .inl (.int a2)] (Nat.le_of_ble_eq_true rfl) rfl (fun C hC => r_Wo_sourceFor hC hk hk2 hcl d a1 a2) h
-- FrameHeirs$World.refuse(I)I
abbrev rm_X4_refuse : Room := { frames := 0, cells := 0, slots := 0, locals := 0 }
theorem dX4_refuse_0 : decode cX4_refuse 0 = .ok (.aload_n 0, 1) := by decide +kernel
theorem dX4_refuse_1 : decode cX4_refuse 1 = .ok (.getfield 35, 3) := by decide +kernel
theorem dX4_refuse_4 : decode cX4_refuse 4 = .ok (.iload_n 1, 1) := by decide +kernel
theorem dX4_refuse_5 : decode cX4_refuse 5 = .ok (.iconst 0, 1) := by decide +kernel
theorem dX4_refuse_6 : decode cX4_refuse 6 = .ok (.iastore, 1) := by decide +kernel
theorem dX4_refuse_7 : decode cX4_refuse 7 = .ok (.aload_n 0, 1) := by decide +kernel
theorem dX4_refuse_8 : decode cX4_refuse 8 = .ok (.dup, 1) := by decide +kernel
theorem dX4_refuse_9 : decode cX4_refuse 9 = .ok (.getfield 53, 3) := by decide +kernel
theorem dX4_refuse_12 : decode cX4_refuse 12 = .ok (.iconst 1, 1) := by decide +kernel
theorem dX4_refuse_13 : decode cX4_refuse 13 = .ok (.iadd, 1) := by decide +kernel
theorem dX4_refuse_14 : decode cX4_refuse 14 = .ok (.putfield 53, 3) := by decide +kernel
theorem dX4_refuse_17 : decode cX4_refuse 17 = .ok (.bipush (-5), 2) := by decide +kernel
theorem dX4_refuse_19 : decode cX4_refuse 19 = .ok (.ireturn, 1) := by decide +kernel
def Wo_refuse (M : Mem) (d : Sl) (a1 : Int32) : Option (Int32 × Sl) :=
  if inb a1 6 then
  bnd (wr d 14 (ix a1) (0 : Int32)) fun d1 =>
  bnd (wr d1 10 13 ((d1 10 13) + (1 : Int32))) fun d2 =>
  some ((-5 : Int32), d2)
  else none
theorem y_X4_refuse : YV yX4_refuse cX4_refuse 2 (some .int) 1 := ⟨q852, q35, q853, q146, by decide +kernel, by decide +kernel, by decide +kernel, by decide +kernel⟩
theorem r_Wo_refuse {C : Cxt} {G : Geo} {M : Mem} {k : Nat} (hC : Cx C cX4_refuse 2 "FrameHeirs$World" (some .int) rm_X4_refuse G) (hk : LWd G k) (hk2 : 2 ≤ k) (hcl : GCl G) (d : Sl) (a1 : Int32) : Rz C 2 G (setS M k) (poM avI (setS M k)) 0 [(0, .inr (k, 10)), (1, .inl (.int a1))] [] d (Wo_refuse M d a1) := by
  unfold Wo_refuse
  refine z_aload_n (pc := 0) hC 0 rfl 0 rfl dX4_refuse_0 ?_
  refine z_getc (pc := 1) hC (hk 10 rfl) f_10_7 q386 dX4_refuse_1 ?_
  refine z_iload_n (pc := 4) hC 1 rfl 1 rfl dX4_refuse_4 ?_
  refine z_iconst (pc := 5) hC (0 : Int32) rfl dX4_refuse_5 ?_
  refine zs_iast (pc := 6) hC (hk 14 rfl) (by decide) rfl dX4_refuse_6 (fun d1 => ?_)
  refine z_aload_n (pc := 7) hC 0 rfl 0 rfl dX4_refuse_7 ?_
  refine z_dup (pc := 8) hC rfl dX4_refuse_8 ?_
  refine zs_geti (pc := 9) hC (hk 10 rfl) f_10_13 q395 dX4_refuse_9 ?_
  refine z_iconst (pc := 12) hC (1 : Int32) rfl dX4_refuse_12 ?_
  refine z_iadd (pc := 13) hC dX4_refuse_13 ?_
  refine zs_puti (pc := 14) hC (hk 10 rfl) f_10_13 q395 dX4_refuse_14 (fun d2 => ?_)
  refine z_bipush (pc := 17) hC (-5 : Int32) rfl dX4_refuse_17 ?_
  exact z_iret (pc := 19) hC rfl dX4_refuse_19
theorem c_X4_refuse {G : Geo} {M : Mem} {k : Nat} (hG : GOk G) (hk : LWd G k) (hk2 : 2 ≤ k) (hcl : GCl G) {d : Sl} {a1 : Int32} (l : Launch) (r : Int32) (d1 : Sl) (h : Wo_refuse M d a1 = some (r, d1)) : Mt l yX4_refuse cX4_refuse 2 (some .int) rm_X4_refuse G [.inr (k, 10), .inl (.int a1)] ((setS M k) d) (avI r) ((setS M k) d1) :=
  mt_of (mem := (setS M k)) (po := poM avI (setS M k)) (x0 := d) (t := (r, d1)) rfl hG [.inr (k, 10), .inl (.int a1)] (Nat.le_of_ble_eq_true rfl) rfl (fun C hC => r_Wo_refuse hC hk hk2 hcl d a1) h
-- FrameHeirs$World.passOn(IIII)I
abbrev rm_X4_passOn : Room := { frames := 1, cells := 0, slots := 0, locals := 23 }
theorem dX4_passOn_0 : decode cX4_passOn 0 = .ok (.aload_n 0, 1) := by decide +kernel
theorem dX4_passOn_1 : decode cX4_passOn 1 = .ok (.getfield 35, 3) := by decide +kernel
theorem dX4_passOn_4 : decode cX4_passOn 4 = .ok (.iload_n 2, 1) := by decide +kernel
theorem dX4_passOn_5 : decode cX4_passOn 5 = .ok (.iaload, 1) := by decide +kernel
theorem dX4_passOn_6 : decode cX4_passOn 6 = .ok (.ifCond .eq 6, 3) := by decide +kernel
theorem dX4_passOn_9 : decode cX4_passOn 9 = .ok (.bipush (-4), 2) := by decide +kernel
theorem dX4_passOn_11 : decode cX4_passOn 11 = .ok (.ireturn, 1) := by decide +kernel
theorem dX4_passOn_12 : decode cX4_passOn 12 = .ok (.aload_n 0, 1) := by decide +kernel
theorem dX4_passOn_13 : decode cX4_passOn 13 = .ok (.getfield 59, 3) := by decide +kernel
theorem dX4_passOn_16 : decode cX4_passOn 16 = .ok (.getfield 223, 3) := by decide +kernel
theorem dX4_passOn_19 : decode cX4_passOn 19 = .ok (.iload_n 2, 1) := by decide +kernel
theorem dX4_passOn_20 : decode cX4_passOn 20 = .ok (.iaload, 1) := by decide +kernel
theorem dX4_passOn_21 : decode cX4_passOn 21 = .ok (.ifCond .ge 9, 3) := by decide +kernel
theorem dX4_passOn_24 : decode cX4_passOn 24 = .ok (.aload_n 0, 1) := by decide +kernel
theorem dX4_passOn_25 : decode cX4_passOn 25 = .ok (.iload_n 1, 1) := by decide +kernel
theorem dX4_passOn_26 : decode cX4_passOn 26 = .ok (.invokevirtual 244, 3) := by decide +kernel
theorem dX4_passOn_29 : decode cX4_passOn 29 = .ok (.ireturn, 1) := by decide +kernel
theorem dX4_passOn_30 : decode cX4_passOn 30 = .ok (.aload_n 0, 1) := by decide +kernel
theorem dX4_passOn_31 : decode cX4_passOn 31 = .ok (.iload_n 2, 1) := by decide +kernel
theorem dX4_passOn_32 : decode cX4_passOn 32 = .ok (.iload_n 3, 1) := by decide +kernel
theorem dX4_passOn_33 : decode cX4_passOn 33 = .ok (.iload 4, 2) := by decide +kernel
theorem dX4_passOn_35 : decode cX4_passOn 35 = .ok (.invokevirtual 226, 3) := by decide +kernel
theorem dX4_passOn_38 : decode cX4_passOn 38 = .ok (.bipush (-6), 2) := by decide +kernel
theorem dX4_passOn_40 : decode cX4_passOn 40 = .ok (.ireturn, 1) := by decide +kernel
def Wo_passOn (M : Mem) (d : Sl) (a1 : Int32) (a2 : Int32) (a3 : Int32) (a4 : Int32) : Option (Int32 × Sl) :=
  if inb a2 6 then
  if (d 14 (ix a2)) = 0 then
    (gref (d 10 0) fun q1 =>
    if inb a2 6 then
    if 0 ≤ (M q1 6 (ix a2)) then
      (bd (Wo_startWait M d a2 a3 a4) fun r2 d3 =>
      some ((-6 : Int32), d3))
    else
      (bd (Wo_refuse M d a1) fun r4 d5 =>
      some (r4, d5))
    else none)
  else
    (some ((-4 : Int32), d))
  else none
theorem y_X4_passOn : YV yX4_passOn cX4_passOn 5 (some .int) 4 := ⟨q848, q34, q849, q146, by decide +kernel, by decide +kernel, by decide +kernel, by decide +kernel⟩
theorem r_Wo_passOn {C : Cxt} {G : Geo} {M : Mem} {k : Nat} (hC : Cx C cX4_passOn 5 "FrameHeirs$World" (some .int) rm_X4_passOn G) (hk : LWd G k) (hk2 : 2 ≤ k) (hcl : GCl G) (d : Sl) (a1 : Int32) (a2 : Int32) (a3 : Int32) (a4 : Int32) : Rz C 5 G (setS M k) (poM avI (setS M k)) 0 [(0, .inr (k, 10)), (1, .inl (.int a1)), (2, .inl (.int a2)), (3, .inl (.int a3)), (4, .inl (.int a4))] [] d (Wo_passOn M d a1 a2 a3 a4) := by
  unfold Wo_passOn
  refine z_aload_n (pc := 0) hC 0 rfl 0 rfl dX4_passOn_0 ?_
  refine z_getc (pc := 1) hC (hk 10 rfl) f_10_7 q386 dX4_passOn_1 ?_
  refine z_iload_n (pc := 4) hC 2 rfl 2 rfl dX4_passOn_4 ?_
  refine zs_iald (pc := 5) hC (hk 14 rfl) rfl dX4_passOn_5 ?_
  refine z_if_eq (pc := 6) hC 12 rfl dX4_passOn_6 ?_ ?_
  · refine z_aload_n (pc := 12) hC 0 rfl 0 rfl dX4_passOn_12 ?_
    refine zs_getS (pc := 13) hC hcl (hk 10 rfl) f_10_0 q377 dX4_passOn_13 (fun q1 hq1 gq1 => ?_)
    refine z_getc (pc := 16) hC (hq1 4 rfl) f_4_1 q176 dX4_passOn_16 ?_
    refine z_iload_n (pc := 19) hC 2 rfl 2 rfl dX4_passOn_19 ?_
    refine zo_iald (pc := 20) hC (Nat.ne_of_lt (Nat.lt_of_lt_of_le gq1 hk2)) (hq1 6 rfl) rfl dX4_passOn_20 ?_
    refine z_if_ge (pc := 21) hC 30 rfl dX4_passOn_21 ?_ ?_
    · refine z_aload_n (pc := 30) hC 0 rfl 0 rfl dX4_passOn_30 ?_
      refine z_iload_n (pc := 31) hC 2 rfl 2 rfl dX4_passOn_31 ?_
      refine z_iload_n (pc := 32) hC 3 rfl 3 rfl dX4_passOn_32 ?_
      refine z_iload (pc := 33) hC 4 4 rfl dX4_passOn_33 ?_
      refine z_cvV (pc := 35) (st := []) hC y_X4_startWait q813 [.inl (.int a2), .inl (.int a3), .inl (.int a4)] rfl (hk 10 rfl) rfl rfl (c_X4_startWait hC.2.2.2.2.2.2.1 hk hk2 hcl) rfl ⟨rfl, rfl, (Nat.le_of_ble_eq_true rfl), (Nat.le_of_ble_eq_true rfl)⟩ (Nat.le_of_ble_eq_true rfl) dX4_passOn_35 (fun r2 d3 => ?_)
      refine z_bipush (pc := 38) hC (-6 : Int32) rfl dX4_passOn_38 ?_
      exact z_iret (pc := 40) hC rfl dX4_passOn_40
    · refine z_aload_n (pc := 24) hC 0 rfl 0 rfl dX4_passOn_24 ?_
      refine z_iload_n (pc := 25) hC 1 rfl 1 rfl dX4_passOn_25 ?_
      refine z_ciV (pc := 26) (st := []) hC y_X4_refuse q850 [.inl (.int a1)] rfl (hk 10 rfl) rfl rfl (c_X4_refuse hC.2.2.2.2.2.2.1 hk hk2 hcl) rfl ⟨rfl, rfl, (Nat.le_of_ble_eq_true rfl), (Nat.le_of_ble_eq_true rfl)⟩ (Nat.le_of_ble_eq_true rfl) dX4_passOn_26 (fun r4 d5 => ?_)
      exact z_iret (pc := 29) hC rfl dX4_passOn_29
  · refine z_bipush (pc := 9) hC (-4 : Int32) rfl dX4_passOn_9 ?_
    exact z_iret (pc := 11) hC rfl dX4_passOn_11
theorem c_X4_passOn {G : Geo} {M : Mem} {k : Nat} (hG : GOk G) (hk : LWd G k) (hk2 : 2 ≤ k) (hcl : GCl G) {d : Sl} {a1 : Int32} {a2 : Int32} {a3 : Int32} {a4 : Int32} (l : Launch) (r : Int32) (d1 : Sl) (h : Wo_passOn M d a1 a2 a3 a4 = some (r, d1)) : Mt l yX4_passOn cX4_passOn 5 (some .int) rm_X4_passOn G [.inr (k, 10), .inl (.int a1), .inl (.int a2), .inl (.int a3), .inl (.int a4)] ((setS M k) d) (avI r) ((setS M k) d1) :=
  mt_of (mem := (setS M k)) (po := poM avI (setS M k)) (x0 := d) (t := (r, d1)) rfl hG [.inr (k, 10), .inl (.int a1), .inl (.int a2), .inl (.int a3), .inl (.int a4)] (Nat.le_of_ble_eq_true rfl) rfl (fun C hC => r_Wo_passOn hC hk hk2 hcl d a1 a2 a3 a4) h
-- FrameHeirs$World.makeRoom(I)Z
abbrev rm_X4_makeRoom : Room := { frames := 3, cells := 0, slots := 0, locals := 71 }
theorem dX4_makeRoom_0 : decode cX4_makeRoom 0 = .ok (.iconst 0, 1) := by decide +kernel
theorem dX4_makeRoom_1 : decode cX4_makeRoom 1 = .ok (.istore_n 2, 1) := by decide +kernel
theorem dX4_makeRoom_2 : decode cX4_makeRoom 2 = .ok (.iload_n 2, 1) := by decide +kernel
theorem dX4_makeRoom_3 : decode cX4_makeRoom 3 = .ok (.bipush 32, 2) := by decide +kernel
theorem dX4_makeRoom_5 : decode cX4_makeRoom 5 = .ok (.if_icmp .ge 42, 3) := by decide +kernel
theorem dX4_makeRoom_8 : decode cX4_makeRoom 8 = .ok (.aload_n 0, 1) := by decide +kernel
theorem dX4_makeRoom_9 : decode cX4_makeRoom 9 = .ok (.iload_n 1, 1) := by decide +kernel
theorem dX4_makeRoom_10 : decode cX4_makeRoom 10 = .ok (.iconst 1, 1) := by decide +kernel
theorem dX4_makeRoom_11 : decode cX4_makeRoom 11 = .ok (.invokevirtual 149, 3) := by decide +kernel
theorem dX4_makeRoom_14 : decode cX4_makeRoom 14 = .ok (.ifCond .eq 33, 3) := by decide +kernel
theorem dX4_makeRoom_17 : decode cX4_makeRoom 17 = .ok (.aload_n 0, 1) := by decide +kernel
theorem dX4_makeRoom_18 : decode cX4_makeRoom 18 = .ok (.getfield 12, 3) := by decide +kernel
theorem dX4_makeRoom_21 : decode cX4_makeRoom 21 = .ok (.iload_n 1, 1) := by decide +kernel
theorem dX4_makeRoom_22 : decode cX4_makeRoom 22 = .ok (.iconst 1, 1) := by decide +kernel
theorem dX4_makeRoom_23 : decode cX4_makeRoom 23 = .ok (.invokevirtual 263, 3) := by decide +kernel
theorem dX4_makeRoom_26 : decode cX4_makeRoom 26 = .ok (.istore_n 3, 1) := by decide +kernel
theorem dX4_makeRoom_27 : decode cX4_makeRoom 27 = .ok (.iload_n 3, 1) := by decide +kernel
theorem dX4_makeRoom_28 : decode cX4_makeRoom 28 = .ok (.ifCond .ge 5, 3) := by decide +kernel
theorem dX4_makeRoom_31 : decode cX4_makeRoom 31 = .ok (.iconst 0, 1) := by decide +kernel
theorem dX4_makeRoom_32 : decode cX4_makeRoom 32 = .ok (.ireturn, 1) := by decide +kernel
theorem dX4_makeRoom_33 : decode cX4_makeRoom 33 = .ok (.aload_n 0, 1) := by decide +kernel
theorem dX4_makeRoom_34 : decode cX4_makeRoom 34 = .ok (.getfield 12, 3) := by decide +kernel
theorem dX4_makeRoom_37 : decode cX4_makeRoom 37 = .ok (.iload_n 3, 1) := by decide +kernel
theorem dX4_makeRoom_38 : decode cX4_makeRoom 38 = .ok (.invokevirtual 210, 3) := by decide +kernel
theorem dX4_makeRoom_41 : decode cX4_makeRoom 41 = .ok (.iinc 2 1, 3) := by decide +kernel
theorem dX4_makeRoom_44 : decode cX4_makeRoom 44 = .ok (.goto (-42), 3) := by decide +kernel
theorem dX4_makeRoom_47 : decode cX4_makeRoom 47 = .ok (.iconst 1, 1) := by decide +kernel
theorem dX4_makeRoom_48 : decode cX4_makeRoom 48 = .ok (.ireturn, 1) := by decide +kernel
def Wo_makeRoom_2 (M : Mem) : Nat → Int32 → Int32 → Sl → Option (Int32 × Sl)
  | 0, _, _, _ => none
  | n + 1, v1, v2, d =>
    if (32 : Int32) ≤ v2 then
      (some ((1 : Int32), d))
    else
      (bp (Wo_exceedsQuota M d v1 (1 : Int32)) fun r1 =>
      if r1 = 0 then
        (some ((1 : Int32), d))
      else
        (bp (De_coldestOf d v1 (1 : Int32)) fun r2 =>
        bnd r2 fun v3_3 =>
        if 0 ≤ v3_3 then
          (bd (De_remove d v3_3) fun r4 d5 =>
          bnd (v2 + (1 : Int32)) fun v2_6 =>
          Wo_makeRoom_2 M n v1 v2_6 d5)
        else
          (some ((0 : Int32), d))))
def Wo_makeRoom (M : Mem) (d : Sl) (a1 : Int32) : Option (Int32 × Sl) :=
  bnd (0 : Int32) fun v2_7 =>
  Wo_makeRoom_2 M FU a1 v2_7 d
theorem y_X4_makeRoom : YV yX4_makeRoom cX4_makeRoom 4 (some .boolean) 1 := ⟨q856, q36, q857, q146, by decide +kernel, by decide +kernel, by decide +kernel, by decide +kernel⟩
theorem r_Wo_makeRoom_2 {C : Cxt} {G : Geo} {M : Mem} {k : Nat} (hC : Cx C cX4_makeRoom 4 "FrameHeirs$World" (some .boolean) rm_X4_makeRoom G) (hk : LWd G k) (hk2 : 2 ≤ k) (hcl : GCl G) : ∀ (n : Nat) (v1 : Int32) (v2 : Int32) (d : Sl), Rz C 4 G (setS M k) (poM avI (setS M k)) 2 [(0, .inr (k, 10)), (1, .inl (.int v1)), (2, .inl (.int v2))] [] d (Wo_makeRoom_2 M n v1 v2 d) := by
  intro n
  induction n with
  | zero => intros; exact z_none
  | succ n ih =>
    intro v1 v2 d
    rw [Wo_makeRoom_2]
    refine z_iload_n (pc := 2) hC 2 rfl 2 rfl dX4_makeRoom_2 ?_
    refine z_bipush (pc := 3) hC (32 : Int32) rfl dX4_makeRoom_3 ?_
    refine z_icmp_ge (pc := 5) hC 47 rfl dX4_makeRoom_5 ?_ ?_
    · refine z_iconst (pc := 47) hC (1 : Int32) rfl dX4_makeRoom_47 ?_
      exact z_zret (pc := 48) hC rfl rfl dX4_makeRoom_48
    · refine z_aload_n (pc := 8) hC 0 rfl 0 rfl dX4_makeRoom_8 ?_
      refine z_iload_n (pc := 9) hC 1 rfl 1 rfl dX4_makeRoom_9 ?_
      refine z_iconst (pc := 10) hC (1 : Int32) rfl dX4_makeRoom_10 ?_
      refine z_piV (pc := 11) (st := []) hC y_X4_exceedsQuota q680 [.inl (.int v1), .inl (.int (1 : Int32))] rfl (hk 10 rfl) rfl rfl (c_X4_exceedsQuota hC.2.2.2.2.2.2.1 hk hk2 hcl) rfl ⟨rfl, rfl, (Nat.le_of_ble_eq_true rfl), (Nat.le_of_ble_eq_true rfl)⟩ (Nat.le_of_ble_eq_true rfl) dX4_makeRoom_11 (fun r1 => ?_)
      refine z_if_eq (pc := 14) hC 47 rfl dX4_makeRoom_14 ?_ ?_
      · refine z_iconst (pc := 47) hC (1 : Int32) rfl dX4_makeRoom_47 ?_
        exact z_zret (pc := 48) hC rfl rfl dX4_makeRoom_48
      · refine z_aload_n (pc := 17) hC 0 rfl 0 rfl dX4_makeRoom_17 ?_
        refine z_getc (pc := 18) hC (hk 10 rfl) f_10_1 q378 dX4_makeRoom_18 ?_
        refine z_iload_n (pc := 21) hC 1 rfl 1 rfl dX4_makeRoom_21 ?_
        refine z_iconst (pc := 22) hC (1 : Int32) rfl dX4_makeRoom_22 ?_
        refine z_piV (pc := 23) (st := []) hC y_X0_coldestOf q858 [.inl (.int v1), .inl (.int (1 : Int32))] rfl (hk 17 rfl) rfl rfl (c_X0_coldestOf hC.2.2.2.2.2.2.1 hk hk2) rfl ⟨rfl, rfl, (Nat.le_of_ble_eq_true rfl), (Nat.le_of_ble_eq_true rfl)⟩ (Nat.le_of_ble_eq_true rfl) dX4_makeRoom_23 (fun r2 => ?_)
        refine z_istore_n (pc := 26) (ls1 := fun v => [(3, .inl (.int v)), (0, .inr (k, 10)), (1, .inl (.int v1)), (2, .inl (.int v2))]) hC 3 rfl (by decide) (fun v => rfl) dX4_makeRoom_26 (fun v3_3 => ?_)
        refine z_iload_n (pc := 27) hC 3 rfl 0 rfl dX4_makeRoom_27 ?_
        refine z_if_ge (pc := 28) hC 33 rfl dX4_makeRoom_28 ?_ ?_
        · refine z_aload_n (pc := 33) hC 0 rfl 1 rfl dX4_makeRoom_33 ?_
          refine z_getc (pc := 34) hC (hk 10 rfl) f_10_1 q378 dX4_makeRoom_34 ?_
          refine z_iload_n (pc := 37) hC 3 rfl 0 rfl dX4_makeRoom_37 ?_
          refine z_cvV (pc := 38) (st := []) hC y_X0_remove q793 [.inl (.int v3_3)] rfl (hk 17 rfl) rfl rfl (c_X0_remove hC.2.2.2.2.2.2.1 hk hk2) rfl ⟨rfl, rfl, (Nat.le_of_ble_eq_true rfl), (Nat.le_of_ble_eq_true rfl)⟩ (Nat.le_of_ble_eq_true rfl) dX4_makeRoom_38 (fun r4 d5 => ?_)
          refine z_iinc (pc := 41) (ls1 := fun v => [(2, .inl (.int v)), (3, .inl (.int v3_3)), (0, .inr (k, 10)), (1, .inl (.int v1))]) hC 2 3 (by decide) (1 : Int32) rfl rfl (fun v => rfl) dX4_makeRoom_41 (fun v2_6 => ?_)
          refine z_goto (pc := 44) hC 2 rfl dX4_makeRoom_44 ?_
          exact z_sub [2, 3, 0] rfl (ih v1 v2_6 d5)
        · refine z_iconst (pc := 31) hC (0 : Int32) rfl dX4_makeRoom_31 ?_
          exact z_zret (pc := 32) hC rfl rfl dX4_makeRoom_32
theorem r_Wo_makeRoom {C : Cxt} {G : Geo} {M : Mem} {k : Nat} (hC : Cx C cX4_makeRoom 4 "FrameHeirs$World" (some .boolean) rm_X4_makeRoom G) (hk : LWd G k) (hk2 : 2 ≤ k) (hcl : GCl G) (d : Sl) (a1 : Int32) : Rz C 4 G (setS M k) (poM avI (setS M k)) 0 [(0, .inr (k, 10)), (1, .inl (.int a1))] [] d (Wo_makeRoom M d a1) := by
  unfold Wo_makeRoom
  refine z_iconst (pc := 0) hC (0 : Int32) rfl dX4_makeRoom_0 ?_
  refine z_istore_n (pc := 1) (ls1 := fun v => [(2, .inl (.int v)), (0, .inr (k, 10)), (1, .inl (.int a1))]) hC 2 rfl (by decide) (fun v => rfl) dX4_makeRoom_1 (fun v2_7 => ?_)
  exact z_sub [1, 2, 0] rfl (r_Wo_makeRoom_2 hC hk hk2 hcl FU a1 v2_7 d)
theorem c_X4_makeRoom {G : Geo} {M : Mem} {k : Nat} (hG : GOk G) (hk : LWd G k) (hk2 : 2 ≤ k) (hcl : GCl G) {d : Sl} {a1 : Int32} (l : Launch) (r : Int32) (d1 : Sl) (h : Wo_makeRoom M d a1 = some (r, d1)) : Mt l yX4_makeRoom cX4_makeRoom 4 (some .boolean) rm_X4_makeRoom G [.inr (k, 10), .inl (.int a1)] ((setS M k) d) (avI r) ((setS M k) d1) :=
  mt_of (mem := (setS M k)) (po := poM avI (setS M k)) (x0 := d) (t := (r, d1)) rfl hG [.inr (k, 10), .inl (.int a1)] (Nat.le_of_ble_eq_true rfl) rfl (fun C hC => r_Wo_makeRoom hC hk hk2 hcl d a1) h
-- FrameHeirs$World.serveFirst(I)I
abbrev rm_X4_serveFirst : Room := { frames := 4, cells := 0, slots := 0, locals := 103 }
theorem dX4_serveFirst_0 : decode cX4_serveFirst 0 = .ok (.aload_n 0, 1) := by decide +kernel
theorem dX4_serveFirst_1 : decode cX4_serveFirst 1 = .ok (.iload_n 1, 1) := by decide +kernel
theorem dX4_serveFirst_2 : decode cX4_serveFirst 2 = .ok (.invokevirtual 98, 3) := by decide +kernel
theorem dX4_serveFirst_5 : decode cX4_serveFirst 5 = .ok (.ifCond .ne 5, 3) := by decide +kernel
theorem dX4_serveFirst_8 : decode cX4_serveFirst 8 = .ok (.iconst (-1), 1) := by decide +kernel
theorem dX4_serveFirst_9 : decode cX4_serveFirst 9 = .ok (.ireturn, 1) := by decide +kernel
theorem dX4_serveFirst_10 : decode cX4_serveFirst 10 = .ok (.aload_n 0, 1) := by decide +kernel
theorem dX4_serveFirst_11 : decode cX4_serveFirst 11 = .ok (.iload_n 1, 1) := by decide +kernel
theorem dX4_serveFirst_12 : decode cX4_serveFirst 12 = .ok (.invokevirtual 232, 3) := by decide +kernel
theorem dX4_serveFirst_15 : decode cX4_serveFirst 15 = .ok (.istore_n 2, 1) := by decide +kernel
theorem dX4_serveFirst_16 : decode cX4_serveFirst 16 = .ok (.iload_n 2, 1) := by decide +kernel
theorem dX4_serveFirst_17 : decode cX4_serveFirst 17 = .ok (.ifCond .ge 6, 3) := by decide +kernel
theorem dX4_serveFirst_20 : decode cX4_serveFirst 20 = .ok (.bipush (-2), 2) := by decide +kernel
theorem dX4_serveFirst_22 : decode cX4_serveFirst 22 = .ok (.ireturn, 1) := by decide +kernel
theorem dX4_serveFirst_23 : decode cX4_serveFirst 23 = .ok (.aload_n 0, 1) := by decide +kernel
theorem dX4_serveFirst_24 : decode cX4_serveFirst 24 = .ok (.getfield 29, 3) := by decide +kernel
theorem dX4_serveFirst_27 : decode cX4_serveFirst 27 = .ok (.iload_n 2, 1) := by decide +kernel
theorem dX4_serveFirst_28 : decode cX4_serveFirst 28 = .ok (.iaload, 1) := by decide +kernel
theorem dX4_serveFirst_29 : decode cX4_serveFirst 29 = .ok (.istore_n 3, 1) := by decide +kernel
theorem dX4_serveFirst_30 : decode cX4_serveFirst 30 = .ok (.aload_n 0, 1) := by decide +kernel
theorem dX4_serveFirst_31 : decode cX4_serveFirst 31 = .ok (.getfield 32, 3) := by decide +kernel
theorem dX4_serveFirst_34 : decode cX4_serveFirst 34 = .ok (.iload_n 2, 1) := by decide +kernel
theorem dX4_serveFirst_35 : decode cX4_serveFirst 35 = .ok (.iaload, 1) := by decide +kernel
theorem dX4_serveFirst_36 : decode cX4_serveFirst 36 = .ok (.istore 4, 2) := by decide +kernel
theorem dX4_serveFirst_38 : decode cX4_serveFirst 38 = .ok (.aload_n 0, 1) := by decide +kernel
theorem dX4_serveFirst_39 : decode cX4_serveFirst 39 = .ok (.iload_n 2, 1) := by decide +kernel
theorem dX4_serveFirst_40 : decode cX4_serveFirst 40 = .ok (.iload_n 1, 1) := by decide +kernel
theorem dX4_serveFirst_41 : decode cX4_serveFirst 41 = .ok (.invokevirtual 235, 3) := by decide +kernel
theorem dX4_serveFirst_44 : decode cX4_serveFirst 44 = .ok (.istore 5, 2) := by decide +kernel
theorem dX4_serveFirst_46 : decode cX4_serveFirst 46 = .ok (.aload_n 0, 1) := by decide +kernel
theorem dX4_serveFirst_47 : decode cX4_serveFirst 47 = .ok (.iload_n 1, 1) := by decide +kernel
theorem dX4_serveFirst_48 : decode cX4_serveFirst 48 = .ok (.iload 5, 2) := by decide +kernel
theorem dX4_serveFirst_50 : decode cX4_serveFirst 50 = .ok (.iload 4, 2) := by decide +kernel
theorem dX4_serveFirst_52 : decode cX4_serveFirst 52 = .ok (.invokevirtual 238, 3) := by decide +kernel
theorem dX4_serveFirst_55 : decode cX4_serveFirst 55 = .ok (.istore 6, 2) := by decide +kernel
theorem dX4_serveFirst_57 : decode cX4_serveFirst 57 = .ok (.iload 6, 2) := by decide +kernel
theorem dX4_serveFirst_59 : decode cX4_serveFirst 59 = .ok (.ifCond .ge 14, 3) := by decide +kernel
theorem dX4_serveFirst_62 : decode cX4_serveFirst 62 = .ok (.aload_n 0, 1) := by decide +kernel
theorem dX4_serveFirst_63 : decode cX4_serveFirst 63 = .ok (.iload_n 2, 1) := by decide +kernel
theorem dX4_serveFirst_64 : decode cX4_serveFirst 64 = .ok (.iload_n 1, 1) := by decide +kernel
theorem dX4_serveFirst_65 : decode cX4_serveFirst 65 = .ok (.iload 5, 2) := by decide +kernel
theorem dX4_serveFirst_67 : decode cX4_serveFirst 67 = .ok (.iload 4, 2) := by decide +kernel
theorem dX4_serveFirst_69 : decode cX4_serveFirst 69 = .ok (.invokevirtual 241, 3) := by decide +kernel
theorem dX4_serveFirst_72 : decode cX4_serveFirst 72 = .ok (.ireturn, 1) := by decide +kernel
theorem dX4_serveFirst_73 : decode cX4_serveFirst 73 = .ok (.aload_n 0, 1) := by decide +kernel
theorem dX4_serveFirst_74 : decode cX4_serveFirst 74 = .ok (.getfield 12, 3) := by decide +kernel
theorem dX4_serveFirst_77 : decode cX4_serveFirst 77 = .ok (.iload_n 2, 1) := by decide +kernel
theorem dX4_serveFirst_78 : decode cX4_serveFirst 78 = .ok (.iload_n 3, 1) := by decide +kernel
theorem dX4_serveFirst_79 : decode cX4_serveFirst 79 = .ok (.invokevirtual 106, 3) := by decide +kernel
theorem dX4_serveFirst_82 : decode cX4_serveFirst 82 = .ok (.istore 7, 2) := by decide +kernel
theorem dX4_serveFirst_84 : decode cX4_serveFirst 84 = .ok (.aload_n 0, 1) := by decide +kernel
theorem dX4_serveFirst_85 : decode cX4_serveFirst 85 = .ok (.getfield 12, 3) := by decide +kernel
theorem dX4_serveFirst_88 : decode cX4_serveFirst 88 = .ok (.iload 6, 2) := by decide +kernel
theorem dX4_serveFirst_90 : decode cX4_serveFirst 90 = .ok (.invokevirtual 113, 3) := by decide +kernel
theorem dX4_serveFirst_93 : decode cX4_serveFirst 93 = .ok (.ifCond .ne 20, 3) := by decide +kernel
theorem dX4_serveFirst_96 : decode cX4_serveFirst 96 = .ok (.iload 7, 2) := by decide +kernel
theorem dX4_serveFirst_98 : decode cX4_serveFirst 98 = .ok (.ifCond .lt 18, 3) := by decide +kernel
theorem dX4_serveFirst_101 : decode cX4_serveFirst 101 = .ok (.aload_n 0, 1) := by decide +kernel
theorem dX4_serveFirst_102 : decode cX4_serveFirst 102 = .ok (.getfield 12, 3) := by decide +kernel
theorem dX4_serveFirst_105 : decode cX4_serveFirst 105 = .ok (.iload 7, 2) := by decide +kernel
theorem dX4_serveFirst_107 : decode cX4_serveFirst 107 = .ok (.invokevirtual 116, 3) := by decide +kernel
theorem dX4_serveFirst_110 : decode cX4_serveFirst 110 = .ok (.ifCond .eq 6, 3) := by decide +kernel
theorem dX4_serveFirst_113 : decode cX4_serveFirst 113 = .ok (.bipush (-3), 2) := by decide +kernel
theorem dX4_serveFirst_115 : decode cX4_serveFirst 115 = .ok (.ireturn, 1) := by decide +kernel
theorem dX4_serveFirst_116 : decode cX4_serveFirst 116 = .ok (.iload 7, 2) := by decide +kernel
theorem dX4_serveFirst_118 : decode cX4_serveFirst 118 = .ok (.ifCond .lt 48, 3) := by decide +kernel
theorem dX4_serveFirst_121 : decode cX4_serveFirst 121 = .ok (.aload_n 0, 1) := by decide +kernel
theorem dX4_serveFirst_122 : decode cX4_serveFirst 122 = .ok (.getfield 12, 3) := by decide +kernel
theorem dX4_serveFirst_125 : decode cX4_serveFirst 125 = .ok (.getfield 119, 3) := by decide +kernel
theorem dX4_serveFirst_128 : decode cX4_serveFirst 128 = .ok (.iload 7, 2) := by decide +kernel
theorem dX4_serveFirst_130 : decode cX4_serveFirst 130 = .ok (.iaload, 1) := by decide +kernel
theorem dX4_serveFirst_131 : decode cX4_serveFirst 131 = .ok (.ifCond .ge 9, 3) := by decide +kernel
theorem dX4_serveFirst_134 : decode cX4_serveFirst 134 = .ok (.aload_n 0, 1) := by decide +kernel
theorem dX4_serveFirst_135 : decode cX4_serveFirst 135 = .ok (.iload_n 2, 1) := by decide +kernel
theorem dX4_serveFirst_136 : decode cX4_serveFirst 136 = .ok (.invokevirtual 244, 3) := by decide +kernel
theorem dX4_serveFirst_139 : decode cX4_serveFirst 139 = .ok (.ireturn, 1) := by decide +kernel
theorem dX4_serveFirst_140 : decode cX4_serveFirst 140 = .ok (.aload_n 0, 1) := by decide +kernel
theorem dX4_serveFirst_141 : decode cX4_serveFirst 141 = .ok (.getfield 12, 3) := by decide +kernel
theorem dX4_serveFirst_144 : decode cX4_serveFirst 144 = .ok (.iload_n 2, 1) := by decide +kernel
theorem dX4_serveFirst_145 : decode cX4_serveFirst 145 = .ok (.iload_n 3, 1) := by decide +kernel
theorem dX4_serveFirst_146 : decode cX4_serveFirst 146 = .ok (.iconst 0, 1) := by decide +kernel
theorem dX4_serveFirst_147 : decode cX4_serveFirst 147 = .ok (.invokevirtual 180, 3) := by decide +kernel
theorem dX4_serveFirst_150 : decode cX4_serveFirst 150 = .ok (.aload_n 0, 1) := by decide +kernel
theorem dX4_serveFirst_151 : decode cX4_serveFirst 151 = .ok (.getfield 12, 3) := by decide +kernel
theorem dX4_serveFirst_154 : decode cX4_serveFirst 154 = .ok (.aload_n 0, 1) := by decide +kernel
theorem dX4_serveFirst_155 : decode cX4_serveFirst 155 = .ok (.getfield 12, 3) := by decide +kernel
theorem dX4_serveFirst_158 : decode cX4_serveFirst 158 = .ok (.iload_n 2, 1) := by decide +kernel
theorem dX4_serveFirst_159 : decode cX4_serveFirst 159 = .ok (.iload_n 3, 1) := by decide +kernel
theorem dX4_serveFirst_160 : decode cX4_serveFirst 160 = .ok (.invokevirtual 106, 3) := by decide +kernel
theorem dX4_serveFirst_163 : decode cX4_serveFirst 163 = .ok (.invokevirtual 210, 3) := by decide +kernel
theorem dX4_serveFirst_166 : decode cX4_serveFirst 166 = .ok (.aload_n 0, 1) := by decide +kernel
theorem dX4_serveFirst_167 : decode cX4_serveFirst 167 = .ok (.iload_n 2, 1) := by decide +kernel
theorem dX4_serveFirst_168 : decode cX4_serveFirst 168 = .ok (.invokevirtual 247, 3) := by decide +kernel
theorem dX4_serveFirst_171 : decode cX4_serveFirst 171 = .ok (.ifCond .ne 9, 3) := by decide +kernel
theorem dX4_serveFirst_174 : decode cX4_serveFirst 174 = .ok (.aload_n 0, 1) := by decide +kernel
theorem dX4_serveFirst_175 : decode cX4_serveFirst 175 = .ok (.iload_n 2, 1) := by decide +kernel
theorem dX4_serveFirst_176 : decode cX4_serveFirst 176 = .ok (.invokevirtual 244, 3) := by decide +kernel
theorem dX4_serveFirst_179 : decode cX4_serveFirst 179 = .ok (.ireturn, 1) := by decide +kernel
theorem dX4_serveFirst_180 : decode cX4_serveFirst 180 = .ok (.aload_n 0, 1) := by decide +kernel
theorem dX4_serveFirst_181 : decode cX4_serveFirst 181 = .ok (.iload_n 1, 1) := by decide +kernel
theorem dX4_serveFirst_182 : decode cX4_serveFirst 182 = .ok (.iload 5, 2) := by decide +kernel
theorem dX4_serveFirst_184 : decode cX4_serveFirst 184 = .ok (.iload 4, 2) := by decide +kernel
theorem dX4_serveFirst_186 : decode cX4_serveFirst 186 = .ok (.invokevirtual 238, 3) := by decide +kernel
theorem dX4_serveFirst_189 : decode cX4_serveFirst 189 = .ok (.istore 6, 2) := by decide +kernel
theorem dX4_serveFirst_191 : decode cX4_serveFirst 191 = .ok (.iload 6, 2) := by decide +kernel
theorem dX4_serveFirst_193 : decode cX4_serveFirst 193 = .ok (.ifCond .ge 9, 3) := by decide +kernel
theorem dX4_serveFirst_196 : decode cX4_serveFirst 196 = .ok (.aload_n 0, 1) := by decide +kernel
theorem dX4_serveFirst_197 : decode cX4_serveFirst 197 = .ok (.iload_n 2, 1) := by decide +kernel
theorem dX4_serveFirst_198 : decode cX4_serveFirst 198 = .ok (.invokevirtual 244, 3) := by decide +kernel
theorem dX4_serveFirst_201 : decode cX4_serveFirst 201 = .ok (.ireturn, 1) := by decide +kernel
theorem dX4_serveFirst_202 : decode cX4_serveFirst 202 = .ok (.aload_n 0, 1) := by decide +kernel
theorem dX4_serveFirst_203 : decode cX4_serveFirst 203 = .ok (.iload 6, 2) := by decide +kernel
theorem dX4_serveFirst_205 : decode cX4_serveFirst 205 = .ok (.iload 5, 2) := by decide +kernel
theorem dX4_serveFirst_207 : decode cX4_serveFirst 207 = .ok (.iload_n 2, 1) := by decide +kernel
theorem dX4_serveFirst_208 : decode cX4_serveFirst 208 = .ok (.iload_n 3, 1) := by decide +kernel
theorem dX4_serveFirst_209 : decode cX4_serveFirst 209 = .ok (.iconst 0, 1) := by decide +kernel
theorem dX4_serveFirst_210 : decode cX4_serveFirst 210 = .ok (.aload_n 0, 1) := by decide +kernel
theorem dX4_serveFirst_211 : decode cX4_serveFirst 211 = .ok (.getfield 12, 3) := by decide +kernel
theorem dX4_serveFirst_214 : decode cX4_serveFirst 214 = .ok (.getfield 155, 3) := by decide +kernel
theorem dX4_serveFirst_217 : decode cX4_serveFirst 217 = .ok (.iload 6, 2) := by decide +kernel
theorem dX4_serveFirst_219 : decode cX4_serveFirst 219 = .ok (.iaload, 1) := by decide +kernel
theorem dX4_serveFirst_220 : decode cX4_serveFirst 220 = .ok (.iload 4, 2) := by decide +kernel
theorem dX4_serveFirst_222 : decode cX4_serveFirst 222 = .ok (.iconst 1, 1) := by decide +kernel
theorem dX4_serveFirst_223 : decode cX4_serveFirst 223 = .ok (.ior, 1) := by decide +kernel
theorem dX4_serveFirst_224 : decode cX4_serveFirst 224 = .ok (.iand, 1) := by decide +kernel
theorem dX4_serveFirst_225 : decode cX4_serveFirst 225 = .ok (.invokevirtual 166, 3) := by decide +kernel
theorem dX4_serveFirst_228 : decode cX4_serveFirst 228 = .ok (.istore 8, 2) := by decide +kernel
theorem dX4_serveFirst_230 : decode cX4_serveFirst 230 = .ok (.iload 8, 2) := by decide +kernel
theorem dX4_serveFirst_232 : decode cX4_serveFirst 232 = .ok (.ifCond .ge 9, 3) := by decide +kernel
theorem dX4_serveFirst_235 : decode cX4_serveFirst 235 = .ok (.aload_n 0, 1) := by decide +kernel
theorem dX4_serveFirst_236 : decode cX4_serveFirst 236 = .ok (.iload_n 2, 1) := by decide +kernel
theorem dX4_serveFirst_237 : decode cX4_serveFirst 237 = .ok (.invokevirtual 244, 3) := by decide +kernel
theorem dX4_serveFirst_240 : decode cX4_serveFirst 240 = .ok (.ireturn, 1) := by decide +kernel
theorem dX4_serveFirst_241 : decode cX4_serveFirst 241 = .ok (.aload_n 0, 1) := by decide +kernel
theorem dX4_serveFirst_242 : decode cX4_serveFirst 242 = .ok (.getfield 12, 3) := by decide +kernel
theorem dX4_serveFirst_245 : decode cX4_serveFirst 245 = .ok (.getfield 219, 3) := by decide +kernel
theorem dX4_serveFirst_248 : decode cX4_serveFirst 248 = .ok (.iload 8, 2) := by decide +kernel
theorem dX4_serveFirst_250 : decode cX4_serveFirst 250 = .ok (.fconst 1, 1) := by decide +kernel
theorem dX4_serveFirst_251 : decode cX4_serveFirst 251 = .ok (.fastore, 1) := by decide +kernel
theorem dX4_serveFirst_252 : decode cX4_serveFirst 252 = .ok (.aload_n 0, 1) := by decide +kernel
theorem dX4_serveFirst_253 : decode cX4_serveFirst 253 = .ok (.getfield 35, 3) := by decide +kernel
theorem dX4_serveFirst_256 : decode cX4_serveFirst 256 = .ok (.iload_n 2, 1) := by decide +kernel
theorem dX4_serveFirst_257 : decode cX4_serveFirst 257 = .ok (.iconst 0, 1) := by decide +kernel
theorem dX4_serveFirst_258 : decode cX4_serveFirst 258 = .ok (.iastore, 1) := by decide +kernel
theorem dX4_serveFirst_259 : decode cX4_serveFirst 259 = .ok (.aload_n 0, 1) := by decide +kernel
theorem dX4_serveFirst_260 : decode cX4_serveFirst 260 = .ok (.getfield 12, 3) := by decide +kernel
theorem dX4_serveFirst_263 : decode cX4_serveFirst 263 = .ok (.getfield 250, 3) := by decide +kernel
theorem dX4_serveFirst_266 : decode cX4_serveFirst 266 = .ok (.iload 8, 2) := by decide +kernel
theorem dX4_serveFirst_268 : decode cX4_serveFirst 268 = .ok (.iaload, 1) := by decide +kernel
theorem dX4_serveFirst_269 : decode cX4_serveFirst 269 = .ok (.ireturn, 1) := by decide +kernel
def Wo_serveFirst_166 (M : Mem) (v1 : Int32) (v2 : Int32) (v3 : Int32) (v4 : Int32) (v5 : Int32) (d : Sl) : Option (Int32 × Sl) :=
  bd (Wo_makeRoom M d v2) fun r1 d2 =>
  if r1 = 0 then
    (bd (Wo_refuse M d2 v2) fun r14 d15 =>
    some (r14, d15))
  else
    (bp (Wo_withRight M d2 v1 v5 v4) fun r3 =>
    bnd r3 fun v6_4 =>
    if 0 ≤ v6_4 then
      (if inb v6_4 192 then
      bd (Wo_addHeir M d2 v6_4 v5 v2 v3 (0 : Int32) ((d2 22 (ix v6_4)) &&& (v4 ||| (1 : Int32)))) fun r5 d6 =>
      bnd r5 fun v8_7 =>
      if 0 ≤ v8_7 then
        (if inb v8_7 192 then
        bnd (wr d6 31 (ix v8_7) (FP.fconst1).toInt32) fun d8 =>
        if inb v2 6 then
        bnd (wr d8 14 (ix v2) (0 : Int32)) fun d9 =>
        if inb v8_7 192 then
        some ((d9 20 (ix v8_7)), d9)
        else none
        else none
        else none)
      else
        (bd (Wo_refuse M d6 v2) fun r10 d11 =>
        some (r10, d11))
      else none)
    else
      (bd (Wo_refuse M d2 v2) fun r12 d13 =>
      some (r12, d13)))
def Wo_serveFirst_116 (M : Mem) (v1 : Int32) (v2 : Int32) (v3 : Int32) (v4 : Int32) (v5 : Int32) (v7 : Int32) (d : Sl) : Option (Int32 × Sl) :=
  if v7 < 0 then
    (Wo_serveFirst_166 M v1 v2 v3 v4 v5 d)
  else
    (if inb v7 192 then
    if 0 ≤ (d 23 (ix v7)) then
      (bd (De_cut d v2 v3 (0 : Int32)) fun r16 d17 =>
      bp (De_find d17 v2 v3) fun r18 =>
      bd (De_remove d17 r18) fun r19 d20 =>
      Wo_serveFirst_166 M v1 v2 v3 v4 v5 d20)
    else
      (bd (Wo_refuse M d v2) fun r21 d22 =>
      some (r21, d22))
    else none)
def Wo_serveFirst (M : Mem) (d : Sl) (a1 : Int32) : Option (Int32 × Sl) :=
  bp (Wo_isSpace M d a1) fun r23 =>
  if r23 = 0 then
    (some ((-1 : Int32), d))
  else
    (bp (Wo_firstWaiting M d a1) fun r24 =>
    bnd r24 fun v2_25 =>
    if 0 ≤ v2_25 then
      (if inb v2_25 6 then
      bnd (d 12 (ix v2_25)) fun v3_26 =>
      if inb v2_25 6 then
      bnd (d 13 (ix v2_25)) fun v4_27 =>
      bp (Wo_sourceFor M d v2_25 a1) fun r28 =>
      bnd r28 fun v5_29 =>
      bp (Wo_withRight M d a1 v5_29 v4_27) fun r30 =>
      bnd r30 fun v6_31 =>
      if 0 ≤ v6_31 then
        (bp (De_find d v2_25 v3_26) fun r32 =>
        bnd r32 fun v7_33 =>
        bp (De_isBusy d v6_31) fun r34 =>
        if r34 = 0 then
          (if v7_33 < 0 then
            (Wo_serveFirst_116 M a1 v2_25 v3_26 v4_27 v5_29 v7_33 d)
          else
            (bp (De_isTied d v7_33) fun r35 =>
            if r35 = 0 then
              (Wo_serveFirst_116 M a1 v2_25 v3_26 v4_27 v5_29 v7_33 d)
            else
              (some ((-3 : Int32), d))))
        else
          (some ((-3 : Int32), d)))
      else
        (bd (Wo_passOn M d v2_25 a1 v5_29 v4_27) fun r36 d37 =>
        some (r36, d37))
      else none
      else none)
    else
      (some ((-2 : Int32), d)))
theorem y_X4_serveFirst : YV yX4_serveFirst cX4_serveFirst 9 (some .int) 1 := ⟨q822, q823, q824, q146, by decide +kernel, by decide +kernel, by decide +kernel, by decide +kernel⟩
theorem r_Wo_serveFirst_166 {C : Cxt} {G : Geo} {M : Mem} {k : Nat} (hC : Cx C cX4_serveFirst 9 "FrameHeirs$World" (some .int) rm_X4_serveFirst G) (hk : LWd G k) (hk2 : 2 ≤ k) (hcl : GCl G) (v1 : Int32) (v2 : Int32) (v3 : Int32) (v4 : Int32) (v5 : Int32) (d : Sl) : Rz C 9 G (setS M k) (poM avI (setS M k)) 166 [(0, .inr (k, 10)), (1, .inl (.int v1)), (2, .inl (.int v2)), (3, .inl (.int v3)), (4, .inl (.int v4)), (5, .inl (.int v5))] [] d (Wo_serveFirst_166 M v1 v2 v3 v4 v5 d) := by
  unfold Wo_serveFirst_166
  refine z_aload_n (pc := 166) hC 0 rfl 0 rfl dX4_serveFirst_166 ?_
  refine z_iload_n (pc := 167) hC 2 rfl 2 rfl dX4_serveFirst_167 ?_
  refine z_ciV (pc := 168) (st := []) hC y_X4_makeRoom q854 [.inl (.int v2)] rfl (hk 10 rfl) rfl rfl (c_X4_makeRoom hC.2.2.2.2.2.2.1 hk hk2 hcl) rfl ⟨rfl, rfl, (Nat.le_of_ble_eq_true rfl), (Nat.le_of_ble_eq_true rfl)⟩ (Nat.le_of_ble_eq_true rfl) dX4_serveFirst_168 (fun r1 d2 => ?_)
  refine z_if_ne (pc := 171) hC 180 rfl dX4_serveFirst_171 ?_ ?_
  · refine z_aload_n (pc := 180) hC 0 rfl 0 rfl dX4_serveFirst_180 ?_
    refine z_iload_n (pc := 181) hC 1 rfl 1 rfl dX4_serveFirst_181 ?_
    refine z_iload (pc := 182) hC 5 5 rfl dX4_serveFirst_182 ?_
    refine z_iload (pc := 184) hC 4 4 rfl dX4_serveFirst_184 ?_
    refine z_piV (pc := 186) (st := []) hC y_X4_withRight q842 [.inl (.int v1), .inl (.int v5), .inl (.int v4)] rfl (hk 10 rfl) rfl rfl (c_X4_withRight hC.2.2.2.2.2.2.1 hk hk2 hcl) rfl ⟨rfl, rfl, (Nat.le_of_ble_eq_true rfl), (Nat.le_of_ble_eq_true rfl)⟩ (Nat.le_of_ble_eq_true rfl) dX4_serveFirst_186 (fun r3 => ?_)
    refine z_istore (pc := 189) (ls1 := fun v => [(6, .inl (.int v)), (0, .inr (k, 10)), (1, .inl (.int v1)), (2, .inl (.int v2)), (3, .inl (.int v3)), (4, .inl (.int v4)), (5, .inl (.int v5))]) hC 6 (by decide) (fun v => rfl) dX4_serveFirst_189 (fun v6_4 => ?_)
    refine z_iload (pc := 191) hC 6 0 rfl dX4_serveFirst_191 ?_
    refine z_if_ge (pc := 193) hC 202 rfl dX4_serveFirst_193 ?_ ?_
    · refine z_aload_n (pc := 202) hC 0 rfl 1 rfl dX4_serveFirst_202 ?_
      refine z_iload (pc := 203) hC 6 0 rfl dX4_serveFirst_203 ?_
      refine z_iload (pc := 205) hC 5 6 rfl dX4_serveFirst_205 ?_
      refine z_iload_n (pc := 207) hC 2 rfl 3 rfl dX4_serveFirst_207 ?_
      refine z_iload_n (pc := 208) hC 3 rfl 4 rfl dX4_serveFirst_208 ?_
      refine z_iconst (pc := 209) hC (0 : Int32) rfl dX4_serveFirst_209 ?_
      refine z_aload_n (pc := 210) hC 0 rfl 1 rfl dX4_serveFirst_210 ?_
      refine z_getc (pc := 211) hC (hk 10 rfl) f_10_1 q378 dX4_serveFirst_211 ?_
      refine z_getc (pc := 214) hC (hk 17 rfl) f_17_4 q307 dX4_serveFirst_214 ?_
      refine z_iload (pc := 217) hC 6 0 rfl dX4_serveFirst_217 ?_
      refine zs_iald (pc := 219) hC (hk 22 rfl) rfl dX4_serveFirst_219 ?_
      refine z_iload (pc := 220) hC 4 5 rfl dX4_serveFirst_220 ?_
      refine z_iconst (pc := 222) hC (1 : Int32) rfl dX4_serveFirst_222 ?_
      refine z_ior (pc := 223) hC dX4_serveFirst_223 ?_
      refine z_iand (pc := 224) hC dX4_serveFirst_224 ?_
      refine z_ciV (pc := 225) (st := []) hC y_X4_addHeir q694 [.inl (.int v6_4), .inl (.int v5), .inl (.int v2), .inl (.int v3), .inl (.int (0 : Int32)), .inl (.int ((d2 22 (ix v6_4)) &&& (v4 ||| (1 : Int32))))] rfl (hk 10 rfl) rfl rfl (c_X4_addHeir hC.2.2.2.2.2.2.1 hk hk2 hcl) rfl ⟨rfl, rfl, (Nat.le_of_ble_eq_true rfl), (Nat.le_of_ble_eq_true rfl)⟩ (Nat.le_of_ble_eq_true rfl) dX4_serveFirst_225 (fun r5 d6 => ?_)
      refine z_istore (pc := 228) (ls1 := fun v => [(8, .inl (.int v)), (6, .inl (.int v6_4)), (0, .inr (k, 10)), (1, .inl (.int v1)), (2, .inl (.int v2)), (3, .inl (.int v3)), (4, .inl (.int v4)), (5, .inl (.int v5))]) hC 8 (by decide) (fun v => rfl) dX4_serveFirst_228 (fun v8_7 => ?_)
      refine z_iload (pc := 230) hC 8 0 rfl dX4_serveFirst_230 ?_
      refine z_if_ge (pc := 232) hC 241 rfl dX4_serveFirst_232 ?_ ?_
      · refine z_aload_n (pc := 241) hC 0 rfl 2 rfl dX4_serveFirst_241 ?_
        refine z_getc (pc := 242) hC (hk 10 rfl) f_10_1 q378 dX4_serveFirst_242 ?_
        refine z_getc (pc := 245) hC (hk 17 rfl) f_17_13 q322 dX4_serveFirst_245 ?_
        refine z_iload (pc := 248) hC 8 0 rfl dX4_serveFirst_248 ?_
        refine z_fconst1 (pc := 250) hC dX4_serveFirst_250 ?_
        refine zs_fast (pc := 251) hC (hk 31 rfl) (by decide) rfl dX4_serveFirst_251 (fun d8 => ?_)
        refine z_aload_n (pc := 252) hC 0 rfl 2 rfl dX4_serveFirst_252 ?_
        refine z_getc (pc := 253) hC (hk 10 rfl) f_10_7 q386 dX4_serveFirst_253 ?_
        refine z_iload_n (pc := 256) hC 2 rfl 4 rfl dX4_serveFirst_256 ?_
        refine z_iconst (pc := 257) hC (0 : Int32) rfl dX4_serveFirst_257 ?_
        refine zs_iast (pc := 258) hC (hk 14 rfl) (by decide) rfl dX4_serveFirst_258 (fun d9 => ?_)
        refine z_aload_n (pc := 259) hC 0 rfl 2 rfl dX4_serveFirst_259 ?_
        refine z_getc (pc := 260) hC (hk 10 rfl) f_10_1 q378 dX4_serveFirst_260 ?_
        refine z_getc (pc := 263) hC (hk 17 rfl) f_17_2 q301 dX4_serveFirst_263 ?_
        refine z_iload (pc := 266) hC 8 0 rfl dX4_serveFirst_266 ?_
        refine zs_iald (pc := 268) hC (hk 20 rfl) rfl dX4_serveFirst_268 ?_
        exact z_iret (pc := 269) hC rfl dX4_serveFirst_269
      · refine z_aload_n (pc := 235) hC 0 rfl 2 rfl dX4_serveFirst_235 ?_
        refine z_iload_n (pc := 236) hC 2 rfl 4 rfl dX4_serveFirst_236 ?_
        refine z_ciV (pc := 237) (st := []) hC y_X4_refuse q850 [.inl (.int v2)] rfl (hk 10 rfl) rfl rfl (c_X4_refuse hC.2.2.2.2.2.2.1 hk hk2 hcl) rfl ⟨rfl, rfl, (Nat.le_of_ble_eq_true rfl), (Nat.le_of_ble_eq_true rfl)⟩ (Nat.le_of_ble_eq_true rfl) dX4_serveFirst_237 (fun r10 d11 => ?_)
        exact z_iret (pc := 240) hC rfl dX4_serveFirst_240
    · refine z_aload_n (pc := 196) hC 0 rfl 1 rfl dX4_serveFirst_196 ?_
      refine z_iload_n (pc := 197) hC 2 rfl 3 rfl dX4_serveFirst_197 ?_
      refine z_ciV (pc := 198) (st := []) hC y_X4_refuse q850 [.inl (.int v2)] rfl (hk 10 rfl) rfl rfl (c_X4_refuse hC.2.2.2.2.2.2.1 hk hk2 hcl) rfl ⟨rfl, rfl, (Nat.le_of_ble_eq_true rfl), (Nat.le_of_ble_eq_true rfl)⟩ (Nat.le_of_ble_eq_true rfl) dX4_serveFirst_198 (fun r12 d13 => ?_)
      exact z_iret (pc := 201) hC rfl dX4_serveFirst_201
  · refine z_aload_n (pc := 174) hC 0 rfl 0 rfl dX4_serveFirst_174 ?_
    refine z_iload_n (pc := 175) hC 2 rfl 2 rfl dX4_serveFirst_175 ?_
    refine z_ciV (pc := 176) (st := []) hC y_X4_refuse q850 [.inl (.int v2)] rfl (hk 10 rfl) rfl rfl (c_X4_refuse hC.2.2.2.2.2.2.1 hk hk2 hcl) rfl ⟨rfl, rfl, (Nat.le_of_ble_eq_true rfl), (Nat.le_of_ble_eq_true rfl)⟩ (Nat.le_of_ble_eq_true rfl) dX4_serveFirst_176 (fun r14 d15 => ?_)
    exact z_iret (pc := 179) hC rfl dX4_serveFirst_179
theorem r_Wo_serveFirst_116 {C : Cxt} {G : Geo} {M : Mem} {k : Nat} (hC : Cx C cX4_serveFirst 9 "FrameHeirs$World" (some .int) rm_X4_serveFirst G) (hk : LWd G k) (hk2 : 2 ≤ k) (hcl : GCl G) (v1 : Int32) (v2 : Int32) (v3 : Int32) (v4 : Int32) (v5 : Int32) (v7 : Int32) (d : Sl) : Rz C 9 G (setS M k) (poM avI (setS M k)) 116 [(0, .inr (k, 10)), (1, .inl (.int v1)), (2, .inl (.int v2)), (3, .inl (.int v3)), (4, .inl (.int v4)), (5, .inl (.int v5)), (7, .inl (.int v7))] [] d (Wo_serveFirst_116 M v1 v2 v3 v4 v5 v7 d) := by
  unfold Wo_serveFirst_116
  refine z_iload (pc := 116) hC 7 6 rfl dX4_serveFirst_116 ?_
  refine z_if_lt (pc := 118) hC 166 rfl dX4_serveFirst_118 ?_ ?_
  · exact z_sub [0, 1, 2, 3, 4, 5] rfl (r_Wo_serveFirst_166 hC hk hk2 hcl v1 v2 v3 v4 v5 d)
  · refine z_aload_n (pc := 121) hC 0 rfl 0 rfl dX4_serveFirst_121 ?_
    refine z_getc (pc := 122) hC (hk 10 rfl) f_10_1 q378 dX4_serveFirst_122 ?_
    refine z_getc (pc := 125) hC (hk 17 rfl) f_17_5 q310 dX4_serveFirst_125 ?_
    refine z_iload (pc := 128) hC 7 6 rfl dX4_serveFirst_128 ?_
    refine zs_iald (pc := 130) hC (hk 23 rfl) rfl dX4_serveFirst_130 ?_
    refine z_if_ge (pc := 131) hC 140 rfl dX4_serveFirst_131 ?_ ?_
    · refine z_aload_n (pc := 140) hC 0 rfl 0 rfl dX4_serveFirst_140 ?_
      refine z_getc (pc := 141) hC (hk 10 rfl) f_10_1 q378 dX4_serveFirst_141 ?_
      refine z_iload_n (pc := 144) hC 2 rfl 2 rfl dX4_serveFirst_144 ?_
      refine z_iload_n (pc := 145) hC 3 rfl 3 rfl dX4_serveFirst_145 ?_
      refine z_iconst (pc := 146) hC (0 : Int32) rfl dX4_serveFirst_146 ?_
      refine z_cvV (pc := 147) (st := []) hC y_X0_cut q718 [.inl (.int v2), .inl (.int v3), .inl (.int (0 : Int32))] rfl (hk 17 rfl) rfl rfl (c_X0_cut hC.2.2.2.2.2.2.1 hk hk2) rfl ⟨rfl, rfl, (Nat.le_of_ble_eq_true rfl), (Nat.le_of_ble_eq_true rfl)⟩ (Nat.le_of_ble_eq_true rfl) dX4_serveFirst_147 (fun r16 d17 => ?_)
      refine z_aload_n (pc := 150) hC 0 rfl 0 rfl dX4_serveFirst_150 ?_
      refine z_getc (pc := 151) hC (hk 10 rfl) f_10_1 q378 dX4_serveFirst_151 ?_
      refine z_aload_n (pc := 154) hC 0 rfl 0 rfl dX4_serveFirst_154 ?_
      refine z_getc (pc := 155) hC (hk 10 rfl) f_10_1 q378 dX4_serveFirst_155 ?_
      refine z_iload_n (pc := 158) hC 2 rfl 2 rfl dX4_serveFirst_158 ?_
      refine z_iload_n (pc := 159) hC 3 rfl 3 rfl dX4_serveFirst_159 ?_
      refine z_piV (pc := 160) (st := [.inr (k, 17)]) hC y_X0_find q655 [.inl (.int v2), .inl (.int v3)] rfl (hk 17 rfl) rfl rfl (c_X0_find hC.2.2.2.2.2.2.1 hk hk2) rfl ⟨rfl, rfl, (Nat.le_of_ble_eq_true rfl), (Nat.le_of_ble_eq_true rfl)⟩ (Nat.le_of_ble_eq_true rfl) dX4_serveFirst_160 (fun r18 => ?_)
      refine z_cvV (pc := 163) (st := []) hC y_X0_remove q793 [.inl (.int r18)] rfl (hk 17 rfl) rfl rfl (c_X0_remove hC.2.2.2.2.2.2.1 hk hk2) rfl ⟨rfl, rfl, (Nat.le_of_ble_eq_true rfl), (Nat.le_of_ble_eq_true rfl)⟩ (Nat.le_of_ble_eq_true rfl) dX4_serveFirst_163 (fun r19 d20 => ?_)
      exact z_sub [0, 1, 2, 3, 4, 5] rfl (r_Wo_serveFirst_166 hC hk hk2 hcl v1 v2 v3 v4 v5 d20)
    · refine z_aload_n (pc := 134) hC 0 rfl 0 rfl dX4_serveFirst_134 ?_
      refine z_iload_n (pc := 135) hC 2 rfl 2 rfl dX4_serveFirst_135 ?_
      refine z_ciV (pc := 136) (st := []) hC y_X4_refuse q850 [.inl (.int v2)] rfl (hk 10 rfl) rfl rfl (c_X4_refuse hC.2.2.2.2.2.2.1 hk hk2 hcl) rfl ⟨rfl, rfl, (Nat.le_of_ble_eq_true rfl), (Nat.le_of_ble_eq_true rfl)⟩ (Nat.le_of_ble_eq_true rfl) dX4_serveFirst_136 (fun r21 d22 => ?_)
      exact z_iret (pc := 139) hC rfl dX4_serveFirst_139
theorem r_Wo_serveFirst {C : Cxt} {G : Geo} {M : Mem} {k : Nat} (hC : Cx C cX4_serveFirst 9 "FrameHeirs$World" (some .int) rm_X4_serveFirst G) (hk : LWd G k) (hk2 : 2 ≤ k) (hcl : GCl G) (d : Sl) (a1 : Int32) : Rz C 9 G (setS M k) (poM avI (setS M k)) 0 [(0, .inr (k, 10)), (1, .inl (.int a1))] [] d (Wo_serveFirst M d a1) := by
  unfold Wo_serveFirst
  refine z_aload_n (pc := 0) hC 0 rfl 0 rfl dX4_serveFirst_0 ?_
  refine z_iload_n (pc := 1) hC 1 rfl 1 rfl dX4_serveFirst_1 ?_
  refine z_piV (pc := 2) (st := []) hC y_X4_isSpace q636 [.inl (.int a1)] rfl (hk 10 rfl) rfl rfl (c_X4_isSpace hC.2.2.2.2.2.2.1 hk hk2 hcl) rfl ⟨rfl, rfl, (Nat.le_of_ble_eq_true rfl), (Nat.le_of_ble_eq_true rfl)⟩ (Nat.le_of_ble_eq_true rfl) dX4_serveFirst_2 (fun r23 => ?_)
  refine z_if_ne (pc := 5) hC 10 rfl dX4_serveFirst_5 ?_ ?_
  · refine z_aload_n (pc := 10) hC 0 rfl 0 rfl dX4_serveFirst_10 ?_
    refine z_iload_n (pc := 11) hC 1 rfl 1 rfl dX4_serveFirst_11 ?_
    refine z_piV (pc := 12) (st := []) hC y_X4_firstWaiting q825 [.inl (.int a1)] rfl (hk 10 rfl) rfl rfl (c_X4_firstWaiting hC.2.2.2.2.2.2.1 hk hk2 hcl) rfl ⟨rfl, rfl, (Nat.le_of_ble_eq_true rfl), (Nat.le_of_ble_eq_true rfl)⟩ (Nat.le_of_ble_eq_true rfl) dX4_serveFirst_12 (fun r24 => ?_)
    refine z_istore_n (pc := 15) (ls1 := fun v => [(2, .inl (.int v)), (0, .inr (k, 10)), (1, .inl (.int a1))]) hC 2 rfl (by decide) (fun v => rfl) dX4_serveFirst_15 (fun v2_25 => ?_)
    refine z_iload_n (pc := 16) hC 2 rfl 0 rfl dX4_serveFirst_16 ?_
    refine z_if_ge (pc := 17) hC 23 rfl dX4_serveFirst_17 ?_ ?_
    · refine z_aload_n (pc := 23) hC 0 rfl 1 rfl dX4_serveFirst_23 ?_
      refine z_getc (pc := 24) hC (hk 10 rfl) f_10_5 q384 dX4_serveFirst_24 ?_
      refine z_iload_n (pc := 27) hC 2 rfl 0 rfl dX4_serveFirst_27 ?_
      refine zs_iald (pc := 28) hC (hk 12 rfl) rfl dX4_serveFirst_28 ?_
      refine z_istore_n (pc := 29) (ls1 := fun v => [(3, .inl (.int v)), (2, .inl (.int v2_25)), (0, .inr (k, 10)), (1, .inl (.int a1))]) hC 3 rfl (by decide) (fun v => rfl) dX4_serveFirst_29 (fun v3_26 => ?_)
      refine z_aload_n (pc := 30) hC 0 rfl 2 rfl dX4_serveFirst_30 ?_
      refine z_getc (pc := 31) hC (hk 10 rfl) f_10_6 q385 dX4_serveFirst_31 ?_
      refine z_iload_n (pc := 34) hC 2 rfl 1 rfl dX4_serveFirst_34 ?_
      refine zs_iald (pc := 35) hC (hk 13 rfl) rfl dX4_serveFirst_35 ?_
      refine z_istore (pc := 36) (ls1 := fun v => [(4, .inl (.int v)), (3, .inl (.int v3_26)), (2, .inl (.int v2_25)), (0, .inr (k, 10)), (1, .inl (.int a1))]) hC 4 (by decide) (fun v => rfl) dX4_serveFirst_36 (fun v4_27 => ?_)
      refine z_aload_n (pc := 38) hC 0 rfl 3 rfl dX4_serveFirst_38 ?_
      refine z_iload_n (pc := 39) hC 2 rfl 2 rfl dX4_serveFirst_39 ?_
      refine z_iload_n (pc := 40) hC 1 rfl 4 rfl dX4_serveFirst_40 ?_
      refine z_piV (pc := 41) (st := []) hC y_X4_sourceFor q829 [.inl (.int v2_25), .inl (.int a1)] rfl (hk 10 rfl) rfl rfl (c_X4_sourceFor hC.2.2.2.2.2.2.1 hk hk2 hcl) rfl ⟨rfl, rfl, (Nat.le_of_ble_eq_true rfl), (Nat.le_of_ble_eq_true rfl)⟩ (Nat.le_of_ble_eq_true rfl) dX4_serveFirst_41 (fun r28 => ?_)
      refine z_istore (pc := 44) (ls1 := fun v => [(5, .inl (.int v)), (4, .inl (.int v4_27)), (3, .inl (.int v3_26)), (2, .inl (.int v2_25)), (0, .inr (k, 10)), (1, .inl (.int a1))]) hC 5 (by decide) (fun v => rfl) dX4_serveFirst_44 (fun v5_29 => ?_)
      refine z_aload_n (pc := 46) hC 0 rfl 4 rfl dX4_serveFirst_46 ?_
      refine z_iload_n (pc := 47) hC 1 rfl 5 rfl dX4_serveFirst_47 ?_
      refine z_iload (pc := 48) hC 5 0 rfl dX4_serveFirst_48 ?_
      refine z_iload (pc := 50) hC 4 1 rfl dX4_serveFirst_50 ?_
      refine z_piV (pc := 52) (st := []) hC y_X4_withRight q842 [.inl (.int a1), .inl (.int v5_29), .inl (.int v4_27)] rfl (hk 10 rfl) rfl rfl (c_X4_withRight hC.2.2.2.2.2.2.1 hk hk2 hcl) rfl ⟨rfl, rfl, (Nat.le_of_ble_eq_true rfl), (Nat.le_of_ble_eq_true rfl)⟩ (Nat.le_of_ble_eq_true rfl) dX4_serveFirst_52 (fun r30 => ?_)
      refine z_istore (pc := 55) (ls1 := fun v => [(6, .inl (.int v)), (5, .inl (.int v5_29)), (4, .inl (.int v4_27)), (3, .inl (.int v3_26)), (2, .inl (.int v2_25)), (0, .inr (k, 10)), (1, .inl (.int a1))]) hC 6 (by decide) (fun v => rfl) dX4_serveFirst_55 (fun v6_31 => ?_)
      refine z_iload (pc := 57) hC 6 0 rfl dX4_serveFirst_57 ?_
      refine z_if_ge (pc := 59) hC 73 rfl dX4_serveFirst_59 ?_ ?_
      · refine z_aload_n (pc := 73) hC 0 rfl 5 rfl dX4_serveFirst_73 ?_
        refine z_getc (pc := 74) hC (hk 10 rfl) f_10_1 q378 dX4_serveFirst_74 ?_
        refine z_iload_n (pc := 77) hC 2 rfl 4 rfl dX4_serveFirst_77 ?_
        refine z_iload_n (pc := 78) hC 3 rfl 3 rfl dX4_serveFirst_78 ?_
        refine z_piV (pc := 79) (st := []) hC y_X0_find q655 [.inl (.int v2_25), .inl (.int v3_26)] rfl (hk 17 rfl) rfl rfl (c_X0_find hC.2.2.2.2.2.2.1 hk hk2) rfl ⟨rfl, rfl, (Nat.le_of_ble_eq_true rfl), (Nat.le_of_ble_eq_true rfl)⟩ (Nat.le_of_ble_eq_true rfl) dX4_serveFirst_79 (fun r32 => ?_)
        refine z_istore (pc := 82) (ls1 := fun v => [(7, .inl (.int v)), (6, .inl (.int v6_31)), (5, .inl (.int v5_29)), (4, .inl (.int v4_27)), (3, .inl (.int v3_26)), (2, .inl (.int v2_25)), (0, .inr (k, 10)), (1, .inl (.int a1))]) hC 7 (by decide) (fun v => rfl) dX4_serveFirst_82 (fun v7_33 => ?_)
        refine z_aload_n (pc := 84) hC 0 rfl 6 rfl dX4_serveFirst_84 ?_
        refine z_getc (pc := 85) hC (hk 10 rfl) f_10_1 q378 dX4_serveFirst_85 ?_
        refine z_iload (pc := 88) hC 6 1 rfl dX4_serveFirst_88 ?_
        refine z_piV (pc := 90) (st := []) hC y_X0_isBusy q659 [.inl (.int v6_31)] rfl (hk 17 rfl) rfl rfl (c_X0_isBusy hC.2.2.2.2.2.2.1 hk hk2) rfl ⟨rfl, rfl, (Nat.le_of_ble_eq_true rfl), (Nat.le_of_ble_eq_true rfl)⟩ (Nat.le_of_ble_eq_true rfl) dX4_serveFirst_90 (fun r34 => ?_)
        refine z_if_ne (pc := 93) hC 113 rfl dX4_serveFirst_93 ?_ ?_
        · refine z_bipush (pc := 113) hC (-3 : Int32) rfl dX4_serveFirst_113 ?_
          exact z_iret (pc := 115) hC rfl dX4_serveFirst_115
        · refine z_iload (pc := 96) hC 7 0 rfl dX4_serveFirst_96 ?_
          refine z_if_lt (pc := 98) hC 116 rfl dX4_serveFirst_98 ?_ ?_
          · exact z_sub [6, 7, 5, 4, 3, 2, 0] rfl (r_Wo_serveFirst_116 hC hk hk2 hcl a1 v2_25 v3_26 v4_27 v5_29 v7_33 d)
          · refine z_aload_n (pc := 101) hC 0 rfl 6 rfl dX4_serveFirst_101 ?_
            refine z_getc (pc := 102) hC (hk 10 rfl) f_10_1 q378 dX4_serveFirst_102 ?_
            refine z_iload (pc := 105) hC 7 0 rfl dX4_serveFirst_105 ?_
            refine z_piV (pc := 107) (st := []) hC y_X0_isTied q663 [.inl (.int v7_33)] rfl (hk 17 rfl) rfl rfl (c_X0_isTied hC.2.2.2.2.2.2.1 hk hk2) rfl ⟨rfl, rfl, (Nat.le_of_ble_eq_true rfl), (Nat.le_of_ble_eq_true rfl)⟩ (Nat.le_of_ble_eq_true rfl) dX4_serveFirst_107 (fun r35 => ?_)
            refine z_if_eq (pc := 110) hC 116 rfl dX4_serveFirst_110 ?_ ?_
            · exact z_sub [6, 7, 5, 4, 3, 2, 0] rfl (r_Wo_serveFirst_116 hC hk hk2 hcl a1 v2_25 v3_26 v4_27 v5_29 v7_33 d)
            · refine z_bipush (pc := 113) hC (-3 : Int32) rfl dX4_serveFirst_113 ?_
              exact z_iret (pc := 115) hC rfl dX4_serveFirst_115
      · refine z_aload_n (pc := 62) hC 0 rfl 5 rfl dX4_serveFirst_62 ?_
        refine z_iload_n (pc := 63) hC 2 rfl 4 rfl dX4_serveFirst_63 ?_
        refine z_iload_n (pc := 64) hC 1 rfl 6 rfl dX4_serveFirst_64 ?_
        refine z_iload (pc := 65) hC 5 1 rfl dX4_serveFirst_65 ?_
        refine z_iload (pc := 67) hC 4 2 rfl dX4_serveFirst_67 ?_
        refine z_ciV (pc := 69) (st := []) hC y_X4_passOn q846 [.inl (.int v2_25), .inl (.int a1), .inl (.int v5_29), .inl (.int v4_27)] rfl (hk 10 rfl) rfl rfl (c_X4_passOn hC.2.2.2.2.2.2.1 hk hk2 hcl) rfl ⟨rfl, rfl, (Nat.le_of_ble_eq_true rfl), (Nat.le_of_ble_eq_true rfl)⟩ (Nat.le_of_ble_eq_true rfl) dX4_serveFirst_69 (fun r36 d37 => ?_)
        exact z_iret (pc := 72) hC rfl dX4_serveFirst_72
    · refine z_bipush (pc := 20) hC (-2 : Int32) rfl dX4_serveFirst_20 ?_
      exact z_iret (pc := 22) hC rfl dX4_serveFirst_22
  · refine z_iconst (pc := 8) hC (-1 : Int32) rfl dX4_serveFirst_8 ?_
    exact z_iret (pc := 9) hC rfl dX4_serveFirst_9
theorem c_X4_serveFirst {G : Geo} {M : Mem} {k : Nat} (hG : GOk G) (hk : LWd G k) (hk2 : 2 ≤ k) (hcl : GCl G) {d : Sl} {a1 : Int32} (l : Launch) (r : Int32) (d1 : Sl) (h : Wo_serveFirst M d a1 = some (r, d1)) : Mt l yX4_serveFirst cX4_serveFirst 9 (some .int) rm_X4_serveFirst G [.inr (k, 10), .inl (.int a1)] ((setS M k) d) (avI r) ((setS M k) d1) :=
  mt_of (mem := (setS M k)) (po := poM avI (setS M k)) (x0 := d) (t := (r, d1)) rfl hG [.inr (k, 10), .inl (.int a1)] (Nat.le_of_ble_eq_true rfl) rfl (fun C hC => r_Wo_serveFirst hC hk hk2 hcl d a1) h
