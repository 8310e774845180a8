-- FrameHeirsModel.plain()V
abbrev rm_X6_plain : Room := { frames := 0, cells := 0, slots := 0, locals := 0 }
theorem dX6_plain_0 : decode cX6_plain 0 = .ok (.aload_n 0, 1) := by decide +kernel
theorem dX6_plain_1 : decode cX6_plain 1 = .ok (.iconst 0, 1) := by decide +kernel
theorem dX6_plain_2 : decode cX6_plain 2 = .ok (.putfield 100, 3) := by decide +kernel
theorem dX6_plain_5 : decode cX6_plain 5 = .ok (.aload_n 0, 1) := by decide +kernel
theorem dX6_plain_6 : decode cX6_plain 6 = .ok (.iconst 0, 1) := by decide +kernel
theorem dX6_plain_7 : decode cX6_plain 7 = .ok (.putfield 103, 3) := by decide +kernel
theorem dX6_plain_10 : decode cX6_plain 10 = .ok (.aload_n 0, 1) := by decide +kernel
theorem dX6_plain_11 : decode cX6_plain 11 = .ok (.getfield 32, 3) := by decide +kernel
theorem dX6_plain_14 : decode cX6_plain 14 = .ok (.bipush 10, 2) := by decide +kernel
theorem dX6_plain_16 : decode cX6_plain 16 = .ok (.bipush 16, 2) := by decide +kernel
theorem dX6_plain_18 : decode cX6_plain 18 = .ok (.iastore, 1) := by decide +kernel
theorem dX6_plain_19 : decode cX6_plain 19 = .ok (.aload_n 0, 1) := by decide +kernel
theorem dX6_plain_20 : decode cX6_plain 20 = .ok (.getfield 32, 3) := by decide +kernel
theorem dX6_plain_23 : decode cX6_plain 23 = .ok (.bipush 11, 2) := by decide +kernel
theorem dX6_plain_25 : decode cX6_plain 25 = .ok (.iconst 2, 1) := by decide +kernel
theorem dX6_plain_26 : decode cX6_plain 26 = .ok (.iastore, 1) := by decide +kernel
theorem dX6_plain_27 : decode cX6_plain 27 = .ok (.aload_n 0, 1) := by decide +kernel
theorem dX6_plain_28 : decode cX6_plain 28 = .ok (.getfield 32, 3) := by decide +kernel
theorem dX6_plain_31 : decode cX6_plain 31 = .ok (.bipush 12, 2) := by decide +kernel
theorem dX6_plain_33 : decode cX6_plain 33 = .ok (.iconst 5, 1) := by decide +kernel
theorem dX6_plain_34 : decode cX6_plain 34 = .ok (.iastore, 1) := by decide +kernel
theorem dX6_plain_35 : decode cX6_plain 35 = .ok (.aload_n 0, 1) := by decide +kernel
theorem dX6_plain_36 : decode cX6_plain 36 = .ok (.getfield 32, 3) := by decide +kernel
theorem dX6_plain_39 : decode cX6_plain 39 = .ok (.bipush 13, 2) := by decide +kernel
theorem dX6_plain_41 : decode cX6_plain 41 = .ok (.iconst 0, 1) := by decide +kernel
theorem dX6_plain_42 : decode cX6_plain 42 = .ok (.iastore, 1) := by decide +kernel
theorem dX6_plain_43 : decode cX6_plain 43 = .ok (.iconst 0, 1) := by decide +kernel
theorem dX6_plain_44 : decode cX6_plain 44 = .ok (.istore_n 1, 1) := by decide +kernel
theorem dX6_plain_45 : decode cX6_plain 45 = .ok (.iload_n 1, 1) := by decide +kernel
theorem dX6_plain_46 : decode cX6_plain 46 = .ok (.bipush 7, 2) := by decide +kernel
theorem dX6_plain_48 : decode cX6_plain 48 = .ok (.if_icmp .ge 16, 3) := by decide +kernel
theorem dX6_plain_51 : decode cX6_plain 51 = .ok (.aload_n 0, 1) := by decide +kernel
theorem dX6_plain_52 : decode cX6_plain 52 = .ok (.getfield 35, 3) := by decide +kernel
theorem dX6_plain_55 : decode cX6_plain 55 = .ok (.iload_n 1, 1) := by decide +kernel
theorem dX6_plain_56 : decode cX6_plain 56 = .ok (.iconst 0, 1) := by decide +kernel
theorem dX6_plain_57 : decode cX6_plain 57 = .ok (.bastore, 1) := by decide +kernel
theorem dX6_plain_58 : decode cX6_plain 58 = .ok (.iinc 1 1, 3) := by decide +kernel
theorem dX6_plain_61 : decode cX6_plain 61 = .ok (.goto (-16), 3) := by decide +kernel
theorem dX6_plain_64 : decode cX6_plain 64 = .ok (.return_, 1) := by decide +kernel
def Mo_plain_45 : Nat → Int32 → Sl → Option (Unit × Sl)
  | 0, _, _ => none
  | n + 1, v1, d =>
    if (7 : Int32) ≤ v1 then
      (some ((), d))
    else
      (if inb v1 7 then
      bnd (wr d 42 (ix v1) (0 : Int32)) fun d1 =>
      bnd (v1 + (1 : Int32)) fun v1_2 =>
      Mo_plain_45 n v1_2 d1
      else none)
def Mo_plain (d : Sl) : Option (Unit × Sl) :=
  bnd (wr d 34 12 (0 : Int32)) fun d3 =>
  bnd (wr d3 34 14 (0 : Int32)) fun d4 =>
  if inb (10 : Int32) 14 then
  bnd (wr d4 41 (ix (10 : Int32)) (16 : Int32)) fun d5 =>
  if inb (11 : Int32) 14 then
  bnd (wr d5 41 (ix (11 : Int32)) (2 : Int32)) fun d6 =>
  if inb (12 : Int32) 14 then
  bnd (wr d6 41 (ix (12 : Int32)) (5 : Int32)) fun d7 =>
  if inb (13 : Int32) 14 then
  bnd (wr d7 41 (ix (13 : Int32)) (0 : Int32)) fun d8 =>
  bnd (0 : Int32) fun v1_9 =>
  Mo_plain_45 FU v1_9 d8
  else none
  else none
  else none
  else none
theorem y_X6_plain : YV yX6_plain cX6_plain 2 none 0 := ⟨q1237, q41, q1238, q149, by decide +kernel, by decide +kernel, by decide +kernel, by decide +kernel⟩
theorem r_Mo_plain_45 {C : Cxt} {G : Geo} {M : Mem} {k : Nat} (hC : Cx C cX6_plain 2 "FrameHeirsModel" none rm_X6_plain G) (hk : LMo G k) : ∀ (n : Nat) (v1 : Int32) (d : Sl), Rz C 2 G (setS M k) (poM avV (setS M k)) 45 [(0, .inr (k, 34)), (1, .inl (.int v1))] [] d (Mo_plain_45 n v1 d) := by
  intro n
  induction n with
  | zero => intros; exact z_none
  | succ n ih =>
    intro v1 d
    rw [Mo_plain_45]
    refine z_iload_n (pc := 45) hC 1 rfl 1 rfl dX6_plain_45 ?_
    refine z_bipush (pc := 46) hC (7 : Int32) rfl dX6_plain_46 ?_
    refine z_icmp_ge (pc := 48) hC 64 rfl dX6_plain_48 ?_ ?_
    · exact z_vret (pc := 64) hC rfl dX6_plain_64
    · refine z_aload_n (pc := 51) hC 0 rfl 0 rfl dX6_plain_51 ?_
      refine z_getc (pc := 52) hC (hk 34 rfl) f_34_20 q1290 dX6_plain_52 ?_
      refine z_iload_n (pc := 55) hC 1 rfl 1 rfl dX6_plain_55 ?_
      refine z_iconst (pc := 56) hC (0 : Int32) rfl dX6_plain_56 ?_
      refine zs_zast (pc := 57) hC (hk 42 rfl) (by decide) rfl rfl dX6_plain_57 (fun d1 => ?_)
      refine z_iinc (pc := 58) (ls1 := fun v => [(1, .inl (.int v)), (0, .inr (k, 34))]) hC 1 1 (by decide) (1 : Int32) rfl rfl (fun v => rfl) dX6_plain_58 (fun v1_2 => ?_)
      refine z_goto (pc := 61) hC 45 rfl dX6_plain_61 ?_
      exact z_sub [1, 0] rfl (ih v1_2 d1)
theorem r_Mo_plain {C : Cxt} {G : Geo} {M : Mem} {k : Nat} (hC : Cx C cX6_plain 2 "FrameHeirsModel" none rm_X6_plain G) (hk : LMo G k) (d : Sl) : Rz C 2 G (setS M k) (poM avV (setS M k)) 0 [(0, .inr (k, 34))] [] d (Mo_plain d) := by
  unfold Mo_plain
  refine z_aload_n (pc := 0) hC 0 rfl 0 rfl dX6_plain_0 ?_
  refine z_iconst (pc := 1) hC (0 : Int32) rfl dX6_plain_1 ?_
  refine zs_puti (pc := 2) hC (hk 34 rfl) f_34_12 q1282 dX6_plain_2 (fun d3 => ?_)
  refine z_aload_n (pc := 5) hC 0 rfl 0 rfl dX6_plain_5 ?_
  refine z_iconst (pc := 6) hC (0 : Int32) rfl dX6_plain_6 ?_
  refine zs_puti (pc := 7) hC (hk 34 rfl) f_34_14 q1284 dX6_plain_7 (fun d4 => ?_)
  refine z_aload_n (pc := 10) hC 0 rfl 0 rfl dX6_plain_10 ?_
  refine z_getc (pc := 11) hC (hk 34 rfl) f_34_19 q1289 dX6_plain_11 ?_
  refine z_bipush (pc := 14) hC (10 : Int32) rfl dX6_plain_14 ?_
  refine z_bipush (pc := 16) hC (16 : Int32) rfl dX6_plain_16 ?_
  refine zs_iast (pc := 18) hC (hk 41 rfl) (by decide) rfl dX6_plain_18 (fun d5 => ?_)
  refine z_aload_n (pc := 19) hC 0 rfl 0 rfl dX6_plain_19 ?_
  refine z_getc (pc := 20) hC (hk 34 rfl) f_34_19 q1289 dX6_plain_20 ?_
  refine z_bipush (pc := 23) hC (11 : Int32) rfl dX6_plain_23 ?_
  refine z_iconst (pc := 25) hC (2 : Int32) rfl dX6_plain_25 ?_
  refine zs_iast (pc := 26) hC (hk 41 rfl) (by decide) rfl dX6_plain_26 (fun d6 => ?_)
  refine z_aload_n (pc := 27) hC 0 rfl 0 rfl dX6_plain_27 ?_
  refine z_getc (pc := 28) hC (hk 34 rfl) f_34_19 q1289 dX6_plain_28 ?_
  refine z_bipush (pc := 31) hC (12 : Int32) rfl dX6_plain_31 ?_
  refine z_iconst (pc := 33) hC (5 : Int32) rfl dX6_plain_33 ?_
  refine zs_iast (pc := 34) hC (hk 41 rfl) (by decide) rfl dX6_plain_34 (fun d7 => ?_)
  refine z_aload_n (pc := 35) hC 0 rfl 0 rfl dX6_plain_35 ?_
  refine z_getc (pc := 36) hC (hk 34 rfl) f_34_19 q1289 dX6_plain_36 ?_
  refine z_bipush (pc := 39) hC (13 : Int32) rfl dX6_plain_39 ?_
  refine z_iconst (pc := 41) hC (0 : Int32) rfl dX6_plain_41 ?_
  refine zs_iast (pc := 42) hC (hk 41 rfl) (by decide) rfl dX6_plain_42 (fun d8 => ?_)
  refine z_iconst (pc := 43) hC (0 : Int32) rfl dX6_plain_43 ?_
  refine z_istore_n (pc := 44) (ls1 := fun v => [(1, .inl (.int v)), (0, .inr (k, 34))]) hC 1 rfl (by decide) (fun v => rfl) dX6_plain_44 (fun v1_9 => ?_)
  exact z_sub [1, 0] rfl (r_Mo_plain_45 hC hk FU v1_9 d8)
theorem c_X6_plain {G : Geo} {M : Mem} {k : Nat} (hG : GOk G) (hk : LMo G k) {d : Sl} (l : Launch) (r : Unit) (d1 : Sl) (h : Mo_plain d = some (r, d1)) : Mt l yX6_plain cX6_plain 2 none rm_X6_plain G [.inr (k, 34)] ((setS M k) d) (avV r) ((setS M k) d1) :=
  mt_of (mem := (setS M k)) (po := poM avV (setS M k)) (x0 := d) (t := (r, d1)) rfl hG [.inr (k, 34)] (Nat.le_of_ble_eq_true rfl) rfl (fun C hC => r_Mo_plain hC hk d) h
-- FrameHeirsModel.lay(II)V
abbrev rm_X6_lay : Room := { frames := 0, cells := 0, slots := 0, locals := 0 }
theorem dX6_lay_0 : decode cX6_lay 0 = .ok (.aload_n 0, 1) := by decide +kernel
theorem dX6_lay_1 : decode cX6_lay 1 = .ok (.getfield 46, 3) := by decide +kernel
theorem dX6_lay_4 : decode cX6_lay 4 = .ok (.sipush 2227, 3) := by decide +kernel
theorem dX6_lay_7 : decode cX6_lay 7 = .ok (.aload_n 0, 1) := by decide +kernel
theorem dX6_lay_8 : decode cX6_lay 8 = .ok (.getfield 116, 3) := by decide +kernel
theorem dX6_lay_11 : decode cX6_lay 11 = .ok (.imul, 1) := by decide +kernel
theorem dX6_lay_12 : decode cX6_lay 12 = .ok (.iload_n 1, 1) := by decide +kernel
theorem dX6_lay_13 : decode cX6_lay 13 = .ok (.iadd, 1) := by decide +kernel
theorem dX6_lay_14 : decode cX6_lay 14 = .ok (.iload_n 2, 1) := by decide +kernel
theorem dX6_lay_15 : decode cX6_lay 15 = .ok (.iastore, 1) := by decide +kernel
theorem dX6_lay_16 : decode cX6_lay 16 = .ok (.return_, 1) := by decide +kernel
def Mo_lay (d : Sl) (a1 : Int32) (a2 : Int32) : Option (Unit × Sl) :=
  if inb (((2227 : Int32) * (d 34 25)) + a1) 48994 then
  bnd (wr d 45 (ix (((2227 : Int32) * (d 34 25)) + a1)) a2) fun d1 =>
  some ((), d1)
  else none
theorem y_X6_lay : YV yX6_lay cX6_lay 3 none 2 := ⟨q1248, q43, q1249, q149, by decide +kernel, by decide +kernel, by decide +kernel, by decide +kernel⟩
theorem r_Mo_lay {C : Cxt} {G : Geo} {M : Mem} {k : Nat} (hC : Cx C cX6_lay 3 "FrameHeirsModel" none rm_X6_lay G) (hk : LMo G k) (d : Sl) (a1 : Int32) (a2 : Int32) : Rz C 3 G (setS M k) (poM avV (setS M k)) 0 [(0, .inr (k, 34)), (1, .inl (.int a1)), (2, .inl (.int a2))] [] d (Mo_lay d a1 a2) := by
  unfold Mo_lay
  refine z_aload_n (pc := 0) hC 0 rfl 0 rfl dX6_lay_0 ?_
  refine z_getc (pc := 1) hC (hk 34 rfl) f_34_24 q1294 dX6_lay_1 ?_
  refine z_sipush (pc := 4) hC (2227 : Int32) rfl dX6_lay_4 ?_
  refine z_aload_n (pc := 7) hC 0 rfl 0 rfl dX6_lay_7 ?_
  refine zs_geti (pc := 8) hC (hk 34 rfl) f_34_25 q1295 dX6_lay_8 ?_
  refine z_imul (pc := 11) hC dX6_lay_11 ?_
  refine z_iload_n (pc := 12) hC 1 rfl 1 rfl dX6_lay_12 ?_
  refine z_iadd (pc := 13) hC dX6_lay_13 ?_
  refine z_iload_n (pc := 14) hC 2 rfl 2 rfl dX6_lay_14 ?_
  refine zs_iast (pc := 15) hC (hk 45 rfl) (by decide) rfl dX6_lay_15 (fun d1 => ?_)
  exact z_vret (pc := 16) hC rfl dX6_lay_16
theorem c_X6_lay {G : Geo} {M : Mem} {k : Nat} (hG : GOk G) (hk : LMo G k) {d : Sl} {a1 : Int32} {a2 : Int32} (l : Launch) (r : Unit) (d1 : Sl) (h : Mo_lay d a1 a2 = some (r, d1)) : Mt l yX6_lay cX6_lay 3 none rm_X6_lay G [.inr (k, 34), .inl (.int a1), .inl (.int a2)] ((setS M k) d) (avV r) ((setS M k) d1) :=
  mt_of (mem := (setS M k)) (po := poM avV (setS M k)) (x0 := d) (t := (r, d1)) rfl hG [.inr (k, 34), .inl (.int a1), .inl (.int a2)] (Nat.le_of_ble_eq_true rfl) rfl (fun C hC => r_Mo_lay hC hk d a1 a2) h
-- FrameHeirsModel.size()I
abbrev rm_X6_size : Room := { frames := 0, cells := 0, slots := 0, locals := 0 }
theorem dX6_size_0 : decode cX6_size 0 = .ok (.aload_n 0, 1) := by decide +kernel
theorem dX6_size_1 : decode cX6_size 1 = .ok (.getfield 32, 3) := by decide +kernel
theorem dX6_size_4 : decode cX6_size 4 = .ok (.iconst 3, 1) := by decide +kernel
theorem dX6_size_5 : decode cX6_size 5 = .ok (.iaload, 1) := by decide +kernel
theorem dX6_size_6 : decode cX6_size 6 = .ok (.ireturn, 1) := by decide +kernel
def Mo_size (d : Sl) : Option Int32 :=
  if inb (3 : Int32) 14 then
  some (d 41 (ix (3 : Int32)))
  else none
theorem y_X6_size : YV yX6_size cX6_size 1 (some .int) 0 := ⟨q1252, q44, q1253, q149, by decide +kernel, by decide +kernel, by decide +kernel, by decide +kernel⟩
theorem r_Mo_size {C : Cxt} {G : Geo} {M : Mem} {k : Nat} (hC : Cx C cX6_size 1 "FrameHeirsModel" (some .int) rm_X6_size G) (hk : LMo G k) (d : Sl) : Rz C 1 G (setS M k) (poP avI ((setS M k) d)) 0 [(0, .inr (k, 34))] [] d (Mo_size d) := by
  unfold Mo_size
  refine z_aload_n (pc := 0) hC 0 rfl 0 rfl dX6_size_0 ?_
  refine z_getc (pc := 1) hC (hk 34 rfl) f_34_19 q1289 dX6_size_1 ?_
  refine z_iconst (pc := 4) hC (3 : Int32) rfl dX6_size_4 ?_
  refine zs_iald (pc := 5) hC (hk 41 rfl) rfl dX6_size_5 ?_
  exact z_iret (pc := 6) hC rfl dX6_size_6
theorem c_X6_size {G : Geo} {M : Mem} {k : Nat} (hG : GOk G) (hk : LMo G k) {d : Sl} (l : Launch) (r : Int32) (h : Mo_size d = some r) : Mt l yX6_size cX6_size 1 (some .int) rm_X6_size G [.inr (k, 34)] ((setS M k) d) (avI r) ((setS M k) d) :=
  mt_of (mem := (setS M k)) (po := poP avI ((setS M k) d)) (x0 := d) (t := r) rfl hG [.inr (k, 34)] (Nat.le_of_ble_eq_true rfl) rfl (fun C hC => r_Mo_size hC hk d) h
-- FrameHeirsModel.of(I)I
abbrev rm_X6_of : Room := { frames := 0, cells := 0, slots := 0, locals := 0 }
theorem dX6_of_0 : decode cX6_of 0 = .ok (.aload_n 0, 1) := by decide +kernel
theorem dX6_of_1 : decode cX6_of 1 = .ok (.getfield 46, 3) := by decide +kernel
theorem dX6_of_4 : decode cX6_of 4 = .ok (.sipush 2227, 3) := by decide +kernel
theorem dX6_of_7 : decode cX6_of 7 = .ok (.aload_n 0, 1) := by decide +kernel
theorem dX6_of_8 : decode cX6_of 8 = .ok (.getfield 116, 3) := by decide +kernel
theorem dX6_of_11 : decode cX6_of 11 = .ok (.imul, 1) := by decide +kernel
theorem dX6_of_12 : decode cX6_of 12 = .ok (.iload_n 1, 1) := by decide +kernel
theorem dX6_of_13 : decode cX6_of 13 = .ok (.iadd, 1) := by decide +kernel
theorem dX6_of_14 : decode cX6_of 14 = .ok (.iaload, 1) := by decide +kernel
theorem dX6_of_15 : decode cX6_of 15 = .ok (.ireturn, 1) := by decide +kernel
def Mo_of (d : Sl) (a1 : Int32) : Option Int32 :=
  if inb (((2227 : Int32) * (d 34 25)) + a1) 48994 then
  some (d 45 (ix (((2227 : Int32) * (d 34 25)) + a1)))
  else none
theorem y_X6_of : YV yX6_of cX6_of 2 (some .int) 1 := ⟨q1264, q47, q1265, q149, by decide +kernel, by decide +kernel, by decide +kernel, by decide +kernel⟩
theorem r_Mo_of {C : Cxt} {G : Geo} {M : Mem} {k : Nat} (hC : Cx C cX6_of 2 "FrameHeirsModel" (some .int) rm_X6_of G) (hk : LMo G k) (d : Sl) (a1 : Int32) : Rz C 2 G (setS M k) (poP avI ((setS M k) d)) 0 [(0, .inr (k, 34)), (1, .inl (.int a1))] [] d (Mo_of d a1) := by
  unfold Mo_of
  refine z_aload_n (pc := 0) hC 0 rfl 0 rfl dX6_of_0 ?_
  refine z_getc (pc := 1) hC (hk 34 rfl) f_34_24 q1294 dX6_of_1 ?_
  refine z_sipush (pc := 4) hC (2227 : Int32) rfl dX6_of_4 ?_
  refine z_aload_n (pc := 7) hC 0 rfl 0 rfl dX6_of_7 ?_
  refine zs_geti (pc := 8) hC (hk 34 rfl) f_34_25 q1295 dX6_of_8 ?_
  refine z_imul (pc := 11) hC dX6_of_11 ?_
  refine z_iload_n (pc := 12) hC 1 rfl 1 rfl dX6_of_12 ?_
  refine z_iadd (pc := 13) hC dX6_of_13 ?_
  refine zs_iald (pc := 14) hC (hk 45 rfl) rfl dX6_of_14 ?_
  exact z_iret (pc := 15) hC rfl dX6_of_15
theorem c_X6_of {G : Geo} {M : Mem} {k : Nat} (hG : GOk G) (hk : LMo G k) {d : Sl} {a1 : Int32} (l : Launch) (r : Int32) (h : Mo_of d a1 = some r) : Mt l yX6_of cX6_of 2 (some .int) rm_X6_of G [.inr (k, 34), .inl (.int a1)] ((setS M k) d) (avI r) ((setS M k) d) :=
  mt_of (mem := (setS M k)) (po := poP avI ((setS M k) d)) (x0 := d) (t := r) rfl hG [.inr (k, 34), .inl (.int a1)] (Nat.le_of_ble_eq_true rfl) rfl (fun C hC => r_Mo_of hC hk d a1) h
-- FrameHeirsModel.widens(I)V
abbrev rm_X6_widens : Room := { frames := 1, cells := 0, slots := 0, locals := 22 }
theorem dX6_widens_0 : decode cX6_widens 0 = .ok (.aload_n 0, 1) := by decide +kernel
theorem dX6_widens_1 : decode cX6_widens 1 = .ok (.iconst 0, 1) := by decide +kernel
theorem dX6_widens_2 : decode cX6_widens 2 = .ok (.iload_n 1, 1) := by decide +kernel
theorem dX6_widens_3 : decode cX6_widens 3 = .ok (.iadd, 1) := by decide +kernel
theorem dX6_widens_4 : decode cX6_widens 4 = .ok (.invokevirtual 189, 3) := by decide +kernel
theorem dX6_widens_7 : decode cX6_widens 7 = .ok (.iconst 1, 1) := by decide +kernel
theorem dX6_widens_8 : decode cX6_widens 8 = .ok (.if_icmp .le 26, 3) := by decide +kernel
theorem dX6_widens_11 : decode cX6_widens 11 = .ok (.aload_n 0, 1) := by decide +kernel
theorem dX6_widens_12 : decode cX6_widens 12 = .ok (.sipush 1920, 3) := by decide +kernel
theorem dX6_widens_15 : decode cX6_widens 15 = .ok (.iconst 4, 1) := by decide +kernel
theorem dX6_widens_16 : decode cX6_widens 16 = .ok (.iload_n 1, 1) := by decide +kernel
theorem dX6_widens_17 : decode cX6_widens 17 = .ok (.bipush 32, 2) := by decide +kernel
theorem dX6_widens_19 : decode cX6_widens 19 = .ok (.idiv, 1) := by decide +kernel
theorem dX6_widens_20 : decode cX6_widens 20 = .ok (.imul, 1) := by decide +kernel
theorem dX6_widens_21 : decode cX6_widens 21 = .ok (.iadd, 1) := by decide +kernel
theorem dX6_widens_22 : decode cX6_widens 22 = .ok (.iload_n 1, 1) := by decide +kernel
theorem dX6_widens_23 : decode cX6_widens 23 = .ok (.bipush 32, 2) := by decide +kernel
theorem dX6_widens_25 : decode cX6_widens 25 = .ok (.irem, 1) := by decide +kernel
theorem dX6_widens_26 : decode cX6_widens 26 = .ok (.bipush 8, 2) := by decide +kernel
theorem dX6_widens_28 : decode cX6_widens 28 = .ok (.idiv, 1) := by decide +kernel
theorem dX6_widens_29 : decode cX6_widens 29 = .ok (.iadd, 1) := by decide +kernel
theorem dX6_widens_30 : decode cX6_widens 30 = .ok (.iconst 1, 1) := by decide +kernel
theorem dX6_widens_31 : decode cX6_widens 31 = .ok (.invokevirtual 122, 3) := by decide +kernel
theorem dX6_widens_34 : decode cX6_widens 34 = .ok (.return_, 1) := by decide +kernel
def Mo_widens (d : Sl) (a1 : Int32) : Option (Unit × Sl) :=
  bp (Mo_of d ((0 : Int32) + a1)) fun r1 =>
  if r1 ≤ (1 : Int32) then
    (some ((), d))
  else
    (if ¬ (32 : Int32) = 0 then
    if ¬ (32 : Int32) = 0 then
    if ¬ (8 : Int32) = 0 then
    bd (Mo_lay d (((1920 : Int32) + ((4 : Int32) * (a1 / (32 : Int32)))) + ((a1 - a1 / (32 : Int32) * (32 : Int32)) / (8 : Int32))) (1 : Int32)) fun r2 d3 =>
    some ((), d3)
    else none
    else none
    else none)
theorem y_X6_widens : YV yX6_widens cX6_widens 2 none 1 := ⟨q1260, q46, q1261, q149, by decide +kernel, by decide +kernel, by decide +kernel, by decide +kernel⟩
theorem r_Mo_widens {C : Cxt} {G : Geo} {M : Mem} {k : Nat} (hC : Cx C cX6_widens 2 "FrameHeirsModel" none rm_X6_widens G) (hk : LMo G k) (d : Sl) (a1 : Int32) : Rz C 2 G (setS M k) (poM avV (setS M k)) 0 [(0, .inr (k, 34)), (1, .inl (.int a1))] [] d (Mo_widens d a1) := by
  unfold Mo_widens
  refine z_aload_n (pc := 0) hC 0 rfl 0 rfl dX6_widens_0 ?_
  refine z_iconst (pc := 1) hC (0 : Int32) rfl dX6_widens_1 ?_
  refine z_iload_n (pc := 2) hC 1 rfl 1 rfl dX6_widens_2 ?_
  refine z_iadd (pc := 3) hC dX6_widens_3 ?_
  refine z_piV (pc := 4) (st := []) hC y_X6_of q1262 [.inl (.int ((0 : Int32) + a1))] rfl (hk 34 rfl) rfl rfl (c_X6_of hC.2.2.2.2.2.2.1 hk) rfl ⟨rfl, rfl, (Nat.le_of_ble_eq_true rfl), (Nat.le_of_ble_eq_true rfl)⟩ (Nat.le_of_ble_eq_true rfl) dX6_widens_4 (fun r1 => ?_)
  refine z_iconst (pc := 7) hC (1 : Int32) rfl dX6_widens_7 ?_
  refine z_icmp_le (pc := 8) hC 34 rfl dX6_widens_8 ?_ ?_
  · exact z_vret (pc := 34) hC rfl dX6_widens_34
  · refine z_aload_n (pc := 11) hC 0 rfl 0 rfl dX6_widens_11 ?_
    refine z_sipush (pc := 12) hC (1920 : Int32) rfl dX6_widens_12 ?_
    refine z_iconst (pc := 15) hC (4 : Int32) rfl dX6_widens_15 ?_
    refine z_iload_n (pc := 16) hC 1 rfl 1 rfl dX6_widens_16 ?_
    refine z_bipush (pc := 17) hC (32 : Int32) rfl dX6_widens_17 ?_
    refine z_idiv (pc := 19) hC dX6_widens_19 ?_
    refine z_imul (pc := 20) hC dX6_widens_20 ?_
    refine z_iadd (pc := 21) hC dX6_widens_21 ?_
    refine z_iload_n (pc := 22) hC 1 rfl 1 rfl dX6_widens_22 ?_
    refine z_bipush (pc := 23) hC (32 : Int32) rfl dX6_widens_23 ?_
    refine z_irem (pc := 25) hC dX6_widens_25 ?_
    refine z_bipush (pc := 26) hC (8 : Int32) rfl dX6_widens_26 ?_
    refine z_idiv (pc := 28) hC dX6_widens_28 ?_
    refine z_iadd (pc := 29) hC dX6_widens_29 ?_
    refine z_iconst (pc := 30) hC (1 : Int32) rfl dX6_widens_30 ?_
    refine z_cvV (pc := 31) (st := []) hC y_X6_lay q1246 [.inl (.int (((1920 : Int32) + ((4 : Int32) * (a1 / (32 : Int32)))) + ((a1 - a1 / (32 : Int32) * (32 : Int32)) / (8 : Int32)))), .inl (.int (1 : Int32))] rfl (hk 34 rfl) rfl rfl (c_X6_lay hC.2.2.2.2.2.2.1 hk) rfl ⟨rfl, rfl, (Nat.le_of_ble_eq_true rfl), (Nat.le_of_ble_eq_true rfl)⟩ (Nat.le_of_ble_eq_true rfl) dX6_widens_31 (fun r2 d3 => ?_)
    exact z_vret (pc := 34) hC rfl dX6_widens_34
theorem c_X6_widens {G : Geo} {M : Mem} {k : Nat} (hG : GOk G) (hk : LMo G k) {d : Sl} {a1 : Int32} (l : Launch) (r : Unit) (d1 : Sl) (h : Mo_widens d a1 = some (r, d1)) : Mt l yX6_widens cX6_widens 2 none rm_X6_widens G [.inr (k, 34), .inl (.int a1)] ((setS M k) d) (avV r) ((setS M k) d1) :=
  mt_of (mem := (setS M k)) (po := poM avV (setS M k)) (x0 := d) (t := (r, d1)) rfl hG [.inr (k, 34), .inl (.int a1)] (Nat.le_of_ble_eq_true rfl) rfl (fun C hC => r_Mo_widens hC hk d a1) h
-- FrameHeirsModel.linked(III)V
abbrev rm_X6_linked : Room := { frames := 1, cells := 0, slots := 0, locals := 22 }
theorem dX6_linked_0 : decode cX6_linked 0 = .ok (.iload_n 1, 1) := by decide +kernel
theorem dX6_linked_1 : decode cX6_linked 1 = .ok (.ifCond .lt 18, 3) := by decide +kernel
theorem dX6_linked_4 : decode cX6_linked 4 = .ok (.aload_n 0, 1) := by decide +kernel
theorem dX6_linked_5 : decode cX6_linked 5 = .ok (.sipush 1344, 3) := by decide +kernel
theorem dX6_linked_8 : decode cX6_linked 8 = .ok (.iload_n 1, 1) := by decide +kernel
theorem dX6_linked_9 : decode cX6_linked 9 = .ok (.iadd, 1) := by decide +kernel
theorem dX6_linked_10 : decode cX6_linked 10 = .ok (.iload_n 2, 1) := by decide +kernel
theorem dX6_linked_11 : decode cX6_linked 11 = .ok (.iconst 1, 1) := by decide +kernel
theorem dX6_linked_12 : decode cX6_linked 12 = .ok (.iadd, 1) := by decide +kernel
theorem dX6_linked_13 : decode cX6_linked 13 = .ok (.invokevirtual 122, 3) := by decide +kernel
theorem dX6_linked_16 : decode cX6_linked 16 = .ok (.goto 19, 3) := by decide +kernel
theorem dX6_linked_19 : decode cX6_linked 19 = .ok (.iload_n 3, 1) := by decide +kernel
theorem dX6_linked_20 : decode cX6_linked 20 = .ok (.ifCond .lt 15, 3) := by decide +kernel
theorem dX6_linked_23 : decode cX6_linked 23 = .ok (.aload_n 0, 1) := by decide +kernel
theorem dX6_linked_24 : decode cX6_linked 24 = .ok (.sipush 768, 3) := by decide +kernel
theorem dX6_linked_27 : decode cX6_linked 27 = .ok (.iload_n 3, 1) := by decide +kernel
theorem dX6_linked_28 : decode cX6_linked 28 = .ok (.iadd, 1) := by decide +kernel
theorem dX6_linked_29 : decode cX6_linked 29 = .ok (.iload_n 2, 1) := by decide +kernel
theorem dX6_linked_30 : decode cX6_linked 30 = .ok (.iconst 1, 1) := by decide +kernel
theorem dX6_linked_31 : decode cX6_linked 31 = .ok (.iadd, 1) := by decide +kernel
theorem dX6_linked_32 : decode cX6_linked 32 = .ok (.invokevirtual 122, 3) := by decide +kernel
theorem dX6_linked_35 : decode cX6_linked 35 = .ok (.iload_n 2, 1) := by decide +kernel
theorem dX6_linked_36 : decode cX6_linked 36 = .ok (.ifCond .lt 18, 3) := by decide +kernel
theorem dX6_linked_39 : decode cX6_linked 39 = .ok (.aload_n 0, 1) := by decide +kernel
theorem dX6_linked_40 : decode cX6_linked 40 = .ok (.sipush 1152, 3) := by decide +kernel
theorem dX6_linked_43 : decode cX6_linked 43 = .ok (.iload_n 2, 1) := by decide +kernel
theorem dX6_linked_44 : decode cX6_linked 44 = .ok (.iadd, 1) := by decide +kernel
theorem dX6_linked_45 : decode cX6_linked 45 = .ok (.iload_n 1, 1) := by decide +kernel
theorem dX6_linked_46 : decode cX6_linked 46 = .ok (.iconst 1, 1) := by decide +kernel
theorem dX6_linked_47 : decode cX6_linked 47 = .ok (.iadd, 1) := by decide +kernel
theorem dX6_linked_48 : decode cX6_linked 48 = .ok (.invokevirtual 122, 3) := by decide +kernel
theorem dX6_linked_51 : decode cX6_linked 51 = .ok (.goto 19, 3) := by decide +kernel
theorem dX6_linked_54 : decode cX6_linked 54 = .ok (.iload_n 3, 1) := by decide +kernel
theorem dX6_linked_55 : decode cX6_linked 55 = .ok (.ifCond .lt 15, 3) := by decide +kernel
theorem dX6_linked_58 : decode cX6_linked 58 = .ok (.aload_n 0, 1) := by decide +kernel
theorem dX6_linked_59 : decode cX6_linked 59 = .ok (.sipush 960, 3) := by decide +kernel
theorem dX6_linked_62 : decode cX6_linked 62 = .ok (.iload_n 3, 1) := by decide +kernel
theorem dX6_linked_63 : decode cX6_linked 63 = .ok (.iadd, 1) := by decide +kernel
theorem dX6_linked_64 : decode cX6_linked 64 = .ok (.iload_n 1, 1) := by decide +kernel
theorem dX6_linked_65 : decode cX6_linked 65 = .ok (.iconst 1, 1) := by decide +kernel
theorem dX6_linked_66 : decode cX6_linked 66 = .ok (.iadd, 1) := by decide +kernel
theorem dX6_linked_67 : decode cX6_linked 67 = .ok (.invokevirtual 122, 3) := by decide +kernel
theorem dX6_linked_70 : decode cX6_linked 70 = .ok (.return_, 1) := by decide +kernel
def Mo_linked_35 (v1 : Int32) (v2 : Int32) (v3 : Int32) (d : Sl) : Option (Unit × Sl) :=
  if v2 < 0 then
    (if v3 < 0 then
      (some ((), d))
    else
      (bd (Mo_lay d ((960 : Int32) + v3) (v1 + (1 : Int32))) fun r1 d2 =>
      some ((), d2)))
  else
    (bd (Mo_lay d ((1152 : Int32) + v2) (v1 + (1 : Int32))) fun r3 d4 =>
    some ((), d4))
def Mo_linked (d : Sl) (a1 : Int32) (a2 : Int32) (a3 : Int32) : Option (Unit × Sl) :=
  if a1 < 0 then
    (if a3 < 0 then
      (Mo_linked_35 a1 a2 a3 d)
    else
      (bd (Mo_lay d ((768 : Int32) + a3) (a2 + (1 : Int32))) fun r5 d6 =>
      Mo_linked_35 a1 a2 a3 d6))
  else
    (bd (Mo_lay d ((1344 : Int32) + a1) (a2 + (1 : Int32))) fun r7 d8 =>
    Mo_linked_35 a1 a2 a3 d8)
theorem y_X6_linked : YV yX6_linked cX6_linked 4 none 3 := ⟨q1268, q48, q1269, q149, by decide +kernel, by decide +kernel, by decide +kernel, by decide +kernel⟩
theorem r_Mo_linked_35 {C : Cxt} {G : Geo} {M : Mem} {k : Nat} (hC : Cx C cX6_linked 4 "FrameHeirsModel" none rm_X6_linked G) (hk : LMo G k) (v1 : Int32) (v2 : Int32) (v3 : Int32) (d : Sl) : Rz C 4 G (setS M k) (poM avV (setS M k)) 35 [(0, .inr (k, 34)), (1, .inl (.int v1)), (2, .inl (.int v2)), (3, .inl (.int v3))] [] d (Mo_linked_35 v1 v2 v3 d) := by
  unfold Mo_linked_35
  refine z_iload_n (pc := 35) hC 2 rfl 2 rfl dX6_linked_35 ?_
  refine z_if_lt (pc := 36) hC 54 rfl dX6_linked_36 ?_ ?_
  · refine z_iload_n (pc := 54) hC 3 rfl 3 rfl dX6_linked_54 ?_
    refine z_if_lt (pc := 55) hC 70 rfl dX6_linked_55 ?_ ?_
    · exact z_vret (pc := 70) hC rfl dX6_linked_70
    · refine z_aload_n (pc := 58) hC 0 rfl 0 rfl dX6_linked_58 ?_
      refine z_sipush (pc := 59) hC (960 : Int32) rfl dX6_linked_59 ?_
      refine z_iload_n (pc := 62) hC 3 rfl 3 rfl dX6_linked_62 ?_
      refine z_iadd (pc := 63) hC dX6_linked_63 ?_
      refine z_iload_n (pc := 64) hC 1 rfl 1 rfl dX6_linked_64 ?_
      refine z_iconst (pc := 65) hC (1 : Int32) rfl dX6_linked_65 ?_
      refine z_iadd (pc := 66) hC dX6_linked_66 ?_
      refine z_cvV (pc := 67) (st := []) hC y_X6_lay q1246 [.inl (.int ((960 : Int32) + v3)), .inl (.int (v1 + (1 : Int32)))] rfl (hk 34 rfl) rfl rfl (c_X6_lay hC.2.2.2.2.2.2.1 hk) rfl ⟨rfl, rfl, (Nat.le_of_ble_eq_true rfl), (Nat.le_of_ble_eq_true rfl)⟩ (Nat.le_of_ble_eq_true rfl) dX6_linked_67 (fun r1 d2 => ?_)
      exact z_vret (pc := 70) hC rfl dX6_linked_70
  · refine z_aload_n (pc := 39) hC 0 rfl 0 rfl dX6_linked_39 ?_
    refine z_sipush (pc := 40) hC (1152 : Int32) rfl dX6_linked_40 ?_
    refine z_iload_n (pc := 43) hC 2 rfl 2 rfl dX6_linked_43 ?_
    refine z_iadd (pc := 44) hC dX6_linked_44 ?_
    refine z_iload_n (pc := 45) hC 1 rfl 1 rfl dX6_linked_45 ?_
    refine z_iconst (pc := 46) hC (1 : Int32) rfl dX6_linked_46 ?_
    refine z_iadd (pc := 47) hC dX6_linked_47 ?_
    refine z_cvV (pc := 48) (st := []) hC y_X6_lay q1246 [.inl (.int ((1152 : Int32) + v2)), .inl (.int (v1 + (1 : Int32)))] rfl (hk 34 rfl) rfl rfl (c_X6_lay hC.2.2.2.2.2.2.1 hk) rfl ⟨rfl, rfl, (Nat.le_of_ble_eq_true rfl), (Nat.le_of_ble_eq_true rfl)⟩ (Nat.le_of_ble_eq_true rfl) dX6_linked_48 (fun r3 d4 => ?_)
    refine z_goto (pc := 51) hC 70 rfl dX6_linked_51 ?_
    exact z_vret (pc := 70) hC rfl dX6_linked_70
theorem r_Mo_linked {C : Cxt} {G : Geo} {M : Mem} {k : Nat} (hC : Cx C cX6_linked 4 "FrameHeirsModel" none rm_X6_linked G) (hk : LMo G k) (d : Sl) (a1 : Int32) (a2 : Int32) (a3 : Int32) : Rz C 4 G (setS M k) (poM avV (setS M k)) 0 [(0, .inr (k, 34)), (1, .inl (.int a1)), (2, .inl (.int a2)), (3, .inl (.int a3))] [] d (Mo_linked d a1 a2 a3) := by
  unfold Mo_linked
  refine z_iload_n (pc := 0) hC 1 rfl 1 rfl dX6_linked_0 ?_
  refine z_if_lt (pc := 1) hC 19 rfl dX6_linked_1 ?_ ?_
  · refine z_iload_n (pc := 19) hC 3 rfl 3 rfl dX6_linked_19 ?_
    refine z_if_lt (pc := 20) hC 35 rfl dX6_linked_20 ?_ ?_
    · exact z_sub [0, 1, 2, 3] rfl (r_Mo_linked_35 hC hk a1 a2 a3 d)
    · refine z_aload_n (pc := 23) hC 0 rfl 0 rfl dX6_linked_23 ?_
      refine z_sipush (pc := 24) hC (768 : Int32) rfl dX6_linked_24 ?_
      refine z_iload_n (pc := 27) hC 3 rfl 3 rfl dX6_linked_27 ?_
      refine z_iadd (pc := 28) hC dX6_linked_28 ?_
      refine z_iload_n (pc := 29) hC 2 rfl 2 rfl dX6_linked_29 ?_
      refine z_iconst (pc := 30) hC (1 : Int32) rfl dX6_linked_30 ?_
      refine z_iadd (pc := 31) hC dX6_linked_31 ?_
      refine z_cvV (pc := 32) (st := []) hC y_X6_lay q1246 [.inl (.int ((768 : Int32) + a3)), .inl (.int (a2 + (1 : Int32)))] rfl (hk 34 rfl) rfl rfl (c_X6_lay hC.2.2.2.2.2.2.1 hk) rfl ⟨rfl, rfl, (Nat.le_of_ble_eq_true rfl), (Nat.le_of_ble_eq_true rfl)⟩ (Nat.le_of_ble_eq_true rfl) dX6_linked_32 (fun r5 d6 => ?_)
      exact z_sub [0, 1, 2, 3] rfl (r_Mo_linked_35 hC hk a1 a2 a3 d6)
  · refine z_aload_n (pc := 4) hC 0 rfl 0 rfl dX6_linked_4 ?_
    refine z_sipush (pc := 5) hC (1344 : Int32) rfl dX6_linked_5 ?_
    refine z_iload_n (pc := 8) hC 1 rfl 1 rfl dX6_linked_8 ?_
    refine z_iadd (pc := 9) hC dX6_linked_9 ?_
    refine z_iload_n (pc := 10) hC 2 rfl 2 rfl dX6_linked_10 ?_
    refine z_iconst (pc := 11) hC (1 : Int32) rfl dX6_linked_11 ?_
    refine z_iadd (pc := 12) hC dX6_linked_12 ?_
    refine z_cvV (pc := 13) (st := []) hC y_X6_lay q1246 [.inl (.int ((1344 : Int32) + a1)), .inl (.int (a2 + (1 : Int32)))] rfl (hk 34 rfl) rfl rfl (c_X6_lay hC.2.2.2.2.2.2.1 hk) rfl ⟨rfl, rfl, (Nat.le_of_ble_eq_true rfl), (Nat.le_of_ble_eq_true rfl)⟩ (Nat.le_of_ble_eq_true rfl) dX6_linked_13 (fun r7 d8 => ?_)
    refine z_goto (pc := 16) hC 35 rfl dX6_linked_16 ?_
    exact z_sub [0, 1, 2, 3] rfl (r_Mo_linked_35 hC hk a1 a2 a3 d8)
theorem c_X6_linked {G : Geo} {M : Mem} {k : Nat} (hG : GOk G) (hk : LMo G k) {d : Sl} {a1 : Int32} {a2 : Int32} {a3 : Int32} (l : Launch) (r : Unit) (d1 : Sl) (h : Mo_linked d a1 a2 a3 = some (r, d1)) : Mt l yX6_linked cX6_linked 4 none rm_X6_linked G [.inr (k, 34), .inl (.int a1), .inl (.int a2), .inl (.int a3)] ((setS M k) d) (avV r) ((setS M k) d1) :=
  mt_of (mem := (setS M k)) (po := poM avV (setS M k)) (x0 := d) (t := (r, d1)) rfl hG [.inr (k, 34), .inl (.int a1), .inl (.int a2), .inl (.int a3)] (Nat.le_of_ble_eq_true rfl) rfl (fun C hC => r_Mo_linked hC hk d a1 a2 a3) h
-- FrameHeirsModel.comes(IIIIII)V
abbrev rm_X6_comes : Room := { frames := 2, cells := 0, slots := 0, locals := 45 }
theorem dX6_comes_0 : decode cX6_comes 0 = .ok (.aload_n 0, 1) := by decide +kernel
theorem dX6_comes_1 : decode cX6_comes 1 = .ok (.iconst 0, 1) := by decide +kernel
theorem dX6_comes_2 : decode cX6_comes 2 = .ok (.iload_n 1, 1) := by decide +kernel
theorem dX6_comes_3 : decode cX6_comes 3 = .ok (.iadd, 1) := by decide +kernel
theorem dX6_comes_4 : decode cX6_comes 4 = .ok (.iload_n 2, 1) := by decide +kernel
theorem dX6_comes_5 : decode cX6_comes 5 = .ok (.iconst 1, 1) := by decide +kernel
theorem dX6_comes_6 : decode cX6_comes 6 = .ok (.iadd, 1) := by decide +kernel
theorem dX6_comes_7 : decode cX6_comes 7 = .ok (.invokevirtual 122, 3) := by decide +kernel
theorem dX6_comes_10 : decode cX6_comes 10 = .ok (.aload_n 0, 1) := by decide +kernel
theorem dX6_comes_11 : decode cX6_comes 11 = .ok (.sipush 192, 3) := by decide +kernel
theorem dX6_comes_14 : decode cX6_comes 14 = .ok (.iload_n 1, 1) := by decide +kernel
theorem dX6_comes_15 : decode cX6_comes 15 = .ok (.iadd, 1) := by decide +kernel
theorem dX6_comes_16 : decode cX6_comes 16 = .ok (.iload_n 3, 1) := by decide +kernel
theorem dX6_comes_17 : decode cX6_comes 17 = .ok (.invokevirtual 122, 3) := by decide +kernel
theorem dX6_comes_20 : decode cX6_comes 20 = .ok (.aload_n 0, 1) := by decide +kernel
theorem dX6_comes_21 : decode cX6_comes 21 = .ok (.sipush 384, 3) := by decide +kernel
theorem dX6_comes_24 : decode cX6_comes 24 = .ok (.iload_n 1, 1) := by decide +kernel
theorem dX6_comes_25 : decode cX6_comes 25 = .ok (.iadd, 1) := by decide +kernel
theorem dX6_comes_26 : decode cX6_comes 26 = .ok (.iload 4, 2) := by decide +kernel
theorem dX6_comes_28 : decode cX6_comes 28 = .ok (.invokevirtual 122, 3) := by decide +kernel
theorem dX6_comes_31 : decode cX6_comes 31 = .ok (.aload_n 0, 1) := by decide +kernel
theorem dX6_comes_32 : decode cX6_comes 32 = .ok (.sipush 576, 3) := by decide +kernel
theorem dX6_comes_35 : decode cX6_comes 35 = .ok (.iload_n 1, 1) := by decide +kernel
theorem dX6_comes_36 : decode cX6_comes 36 = .ok (.iadd, 1) := by decide +kernel
theorem dX6_comes_37 : decode cX6_comes 37 = .ok (.iload 5, 2) := by decide +kernel
theorem dX6_comes_39 : decode cX6_comes 39 = .ok (.iconst 1, 1) := by decide +kernel
theorem dX6_comes_40 : decode cX6_comes 40 = .ok (.iadd, 1) := by decide +kernel
theorem dX6_comes_41 : decode cX6_comes 41 = .ok (.invokevirtual 122, 3) := by decide +kernel
theorem dX6_comes_44 : decode cX6_comes 44 = .ok (.aload_n 0, 1) := by decide +kernel
theorem dX6_comes_45 : decode cX6_comes 45 = .ok (.sipush 768, 3) := by decide +kernel
theorem dX6_comes_48 : decode cX6_comes 48 = .ok (.iload_n 1, 1) := by decide +kernel
theorem dX6_comes_49 : decode cX6_comes 49 = .ok (.iadd, 1) := by decide +kernel
theorem dX6_comes_50 : decode cX6_comes 50 = .ok (.iconst 0, 1) := by decide +kernel
theorem dX6_comes_51 : decode cX6_comes 51 = .ok (.invokevirtual 122, 3) := by decide +kernel
theorem dX6_comes_54 : decode cX6_comes 54 = .ok (.aload_n 0, 1) := by decide +kernel
theorem dX6_comes_55 : decode cX6_comes 55 = .ok (.sipush 960, 3) := by decide +kernel
theorem dX6_comes_58 : decode cX6_comes 58 = .ok (.iload_n 1, 1) := by decide +kernel
theorem dX6_comes_59 : decode cX6_comes 59 = .ok (.iadd, 1) := by decide +kernel
theorem dX6_comes_60 : decode cX6_comes 60 = .ok (.iconst 0, 1) := by decide +kernel
theorem dX6_comes_61 : decode cX6_comes 61 = .ok (.invokevirtual 122, 3) := by decide +kernel
theorem dX6_comes_64 : decode cX6_comes 64 = .ok (.aload_n 0, 1) := by decide +kernel
theorem dX6_comes_65 : decode cX6_comes 65 = .ok (.sipush 1152, 3) := by decide +kernel
theorem dX6_comes_68 : decode cX6_comes 68 = .ok (.iload_n 1, 1) := by decide +kernel
theorem dX6_comes_69 : decode cX6_comes 69 = .ok (.iadd, 1) := by decide +kernel
theorem dX6_comes_70 : decode cX6_comes 70 = .ok (.iconst 0, 1) := by decide +kernel
theorem dX6_comes_71 : decode cX6_comes 71 = .ok (.invokevirtual 122, 3) := by decide +kernel
theorem dX6_comes_74 : decode cX6_comes 74 = .ok (.aload_n 0, 1) := by decide +kernel
theorem dX6_comes_75 : decode cX6_comes 75 = .ok (.sipush 1344, 3) := by decide +kernel
theorem dX6_comes_78 : decode cX6_comes 78 = .ok (.iload_n 1, 1) := by decide +kernel
theorem dX6_comes_79 : decode cX6_comes 79 = .ok (.iadd, 1) := by decide +kernel
theorem dX6_comes_80 : decode cX6_comes 80 = .ok (.iconst 0, 1) := by decide +kernel
theorem dX6_comes_81 : decode cX6_comes 81 = .ok (.invokevirtual 122, 3) := by decide +kernel
theorem dX6_comes_84 : decode cX6_comes 84 = .ok (.aload_n 0, 1) := by decide +kernel
theorem dX6_comes_85 : decode cX6_comes 85 = .ok (.sipush 1536, 3) := by decide +kernel
theorem dX6_comes_88 : decode cX6_comes 88 = .ok (.iload_n 1, 1) := by decide +kernel
theorem dX6_comes_89 : decode cX6_comes 89 = .ok (.iadd, 1) := by decide +kernel
theorem dX6_comes_90 : decode cX6_comes 90 = .ok (.iload 6, 2) := by decide +kernel
theorem dX6_comes_92 : decode cX6_comes 92 = .ok (.invokevirtual 122, 3) := by decide +kernel
theorem dX6_comes_95 : decode cX6_comes 95 = .ok (.aload_n 0, 1) := by decide +kernel
theorem dX6_comes_96 : decode cX6_comes 96 = .ok (.sipush 1728, 3) := by decide +kernel
theorem dX6_comes_99 : decode cX6_comes 99 = .ok (.iload_n 1, 1) := by decide +kernel
theorem dX6_comes_100 : decode cX6_comes 100 = .ok (.iadd, 1) := by decide +kernel
theorem dX6_comes_101 : decode cX6_comes 101 = .ok (.iconst 0, 1) := by decide +kernel
theorem dX6_comes_102 : decode cX6_comes 102 = .ok (.invokevirtual 122, 3) := by decide +kernel
theorem dX6_comes_105 : decode cX6_comes 105 = .ok (.aload_n 0, 1) := by decide +kernel
theorem dX6_comes_106 : decode cX6_comes 106 = .ok (.iload_n 1, 1) := by decide +kernel
theorem dX6_comes_107 : decode cX6_comes 107 = .ok (.invokevirtual 202, 3) := by decide +kernel
theorem dX6_comes_110 : decode cX6_comes 110 = .ok (.iload 5, 2) := by decide +kernel
theorem dX6_comes_112 : decode cX6_comes 112 = .ok (.ifCond .ge 4, 3) := by decide +kernel
theorem dX6_comes_115 : decode cX6_comes 115 = .ok (.return_, 1) := by decide +kernel
theorem dX6_comes_116 : decode cX6_comes 116 = .ok (.aload_n 0, 1) := by decide +kernel
theorem dX6_comes_117 : decode cX6_comes 117 = .ok (.sipush 960, 3) := by decide +kernel
theorem dX6_comes_120 : decode cX6_comes 120 = .ok (.iload 5, 2) := by decide +kernel
theorem dX6_comes_122 : decode cX6_comes 122 = .ok (.iadd, 1) := by decide +kernel
theorem dX6_comes_123 : decode cX6_comes 123 = .ok (.invokevirtual 189, 3) := by decide +kernel
theorem dX6_comes_126 : decode cX6_comes 126 = .ok (.iconst 1, 1) := by decide +kernel
theorem dX6_comes_127 : decode cX6_comes 127 = .ok (.isub, 1) := by decide +kernel
theorem dX6_comes_128 : decode cX6_comes 128 = .ok (.istore 7, 2) := by decide +kernel
theorem dX6_comes_130 : decode cX6_comes 130 = .ok (.aload_n 0, 1) := by decide +kernel
theorem dX6_comes_131 : decode cX6_comes 131 = .ok (.iload 7, 2) := by decide +kernel
theorem dX6_comes_133 : decode cX6_comes 133 = .ok (.iload_n 1, 1) := by decide +kernel
theorem dX6_comes_134 : decode cX6_comes 134 = .ok (.iload 5, 2) := by decide +kernel
theorem dX6_comes_136 : decode cX6_comes 136 = .ok (.invokevirtual 206, 3) := by decide +kernel
theorem dX6_comes_139 : decode cX6_comes 139 = .ok (.aload_n 0, 1) := by decide +kernel
theorem dX6_comes_140 : decode cX6_comes 140 = .ok (.iload_n 1, 1) := by decide +kernel
theorem dX6_comes_141 : decode cX6_comes 141 = .ok (.iconst (-1), 1) := by decide +kernel
theorem dX6_comes_142 : decode cX6_comes 142 = .ok (.iload 5, 2) := by decide +kernel
theorem dX6_comes_144 : decode cX6_comes 144 = .ok (.invokevirtual 206, 3) := by decide +kernel
theorem dX6_comes_147 : decode cX6_comes 147 = .ok (.return_, 1) := by decide +kernel
def Mo_comes (d : Sl) (a1 : Int32) (a2 : Int32) (a3 : Int32) (a4 : Int32) (a5 : Int32) (a6 : Int32) : Option (Unit × Sl) :=
  bd (Mo_lay d ((0 : Int32) + a1) (a2 + (1 : Int32))) fun r1 d2 =>
  bd (Mo_lay d2 ((192 : Int32) + a1) a3) fun r3 d4 =>
  bd (Mo_lay d4 ((384 : Int32) + a1) a4) fun r5 d6 =>
  bd (Mo_lay d6 ((576 : Int32) + a1) (a5 + (1 : Int32))) fun r7 d8 =>
  bd (Mo_lay d8 ((768 : Int32) + a1) (0 : Int32)) fun r9 d10 =>
  bd (Mo_lay d10 ((960 : Int32) + a1) (0 : Int32)) fun r11 d12 =>
  bd (Mo_lay d12 ((1152 : Int32) + a1) (0 : Int32)) fun r13 d14 =>
  bd (Mo_lay d14 ((1344 : Int32) + a1) (0 : Int32)) fun r15 d16 =>
  bd (Mo_lay d16 ((1536 : Int32) + a1) a6) fun r17 d18 =>
  bd (Mo_lay d18 ((1728 : Int32) + a1) (0 : Int32)) fun r19 d20 =>
  bd (Mo_widens d20 a1) fun r21 d22 =>
  if 0 ≤ a5 then
    (bp (Mo_of d22 ((960 : Int32) + a5)) fun r23 =>
    bnd (r23 - (1 : Int32)) fun v7_24 =>
    bd (Mo_linked d22 v7_24 a1 a5) fun r25 d26 =>
    bd (Mo_linked d26 a1 (-1 : Int32) a5) fun r27 d28 =>
    some ((), d28))
  else
    (some ((), d22))
theorem y_X6_comes : YV yX6_comes cX6_comes 8 none 6 := ⟨q1256, q45, q1257, q149, by decide +kernel, by decide +kernel, by decide +kernel, by decide +kernel⟩
theorem r_Mo_comes {C : Cxt} {G : Geo} {M : Mem} {k : Nat} (hC : Cx C cX6_comes 8 "FrameHeirsModel" none rm_X6_comes G) (hk : LMo G k) (d : Sl) (a1 : Int32) (a2 : Int32) (a3 : Int32) (a4 : Int32) (a5 : Int32) (a6 : Int32) : Rz C 8 G (setS M k) (poM avV (setS M k)) 0 [(0, .inr (k, 34)), (1, .inl (.int a1)), (2, .inl (.int a2)), (3, .inl (.int a3)), (4, .inl (.int a4)), (5, .inl (.int a5)), (6, .inl (.int a6))] [] d (Mo_comes d a1 a2 a3 a4 a5 a6) := by
  unfold Mo_comes
  refine z_aload_n (pc := 0) hC 0 rfl 0 rfl dX6_comes_0 ?_
  refine z_iconst (pc := 1) hC (0 : Int32) rfl dX6_comes_1 ?_
  refine z_iload_n (pc := 2) hC 1 rfl 1 rfl dX6_comes_2 ?_
  refine z_iadd (pc := 3) hC dX6_comes_3 ?_
  refine z_iload_n (pc := 4) hC 2 rfl 2 rfl dX6_comes_4 ?_
  refine z_iconst (pc := 5) hC (1 : Int32) rfl dX6_comes_5 ?_
  refine z_iadd (pc := 6) hC dX6_comes_6 ?_
  refine z_cvV (pc := 7) (st := []) hC y_X6_lay q1246 [.inl (.int ((0 : Int32) + a1)), .inl (.int (a2 + (1 : Int32)))] rfl (hk 34 rfl) rfl rfl (c_X6_lay hC.2.2.2.2.2.2.1 hk) rfl ⟨rfl, rfl, (Nat.le_of_ble_eq_true rfl), (Nat.le_of_ble_eq_true rfl)⟩ (Nat.le_of_ble_eq_true rfl) dX6_comes_7 (fun r1 d2 => ?_)
  refine z_aload_n (pc := 10) hC 0 rfl 0 rfl dX6_comes_10 ?_
  refine z_sipush (pc := 11) hC (192 : Int32) rfl dX6_comes_11 ?_
  refine z_iload_n (pc := 14) hC 1 rfl 1 rfl dX6_comes_14 ?_
  refine z_iadd (pc := 15) hC dX6_comes_15 ?_
  refine z_iload_n (pc := 16) hC 3 rfl 3 rfl dX6_comes_16 ?_
  refine z_cvV (pc := 17) (st := []) hC y_X6_lay q1246 [.inl (.int ((192 : Int32) + a1)), .inl (.int a3)] rfl (hk 34 rfl) rfl rfl (c_X6_lay hC.2.2.2.2.2.2.1 hk) rfl ⟨rfl, rfl, (Nat.le_of_ble_eq_true rfl), (Nat.le_of_ble_eq_true rfl)⟩ (Nat.le_of_ble_eq_true rfl) dX6_comes_17 (fun r3 d4 => ?_)
  refine z_aload_n (pc := 20) hC 0 rfl 0 rfl dX6_comes_20 ?_
  refine z_sipush (pc := 21) hC (384 : Int32) rfl dX6_comes_21 ?_
  refine z_iload_n (pc := 24) hC 1 rfl 1 rfl dX6_comes_24 ?_
  refine z_iadd (pc := 25) hC dX6_comes_25 ?_
  refine z_iload (pc := 26) hC 4 4 rfl dX6_comes_26 ?_
  refine z_cvV (pc := 28) (st := []) hC y_X6_lay q1246 [.inl (.int ((384 : Int32) + a1)), .inl (.int a4)] rfl (hk 34 rfl) rfl rfl (c_X6_lay hC.2.2.2.2.2.2.1 hk) rfl ⟨rfl, rfl, (Nat.le_of_ble_eq_true rfl), (Nat.le_of_ble_eq_true rfl)⟩ (Nat.le_of_ble_eq_true rfl) dX6_comes_28 (fun r5 d6 => ?_)
  refine z_aload_n (pc := 31) hC 0 rfl 0 rfl dX6_comes_31 ?_
  refine z_sipush (pc := 32) hC (576 : Int32) rfl dX6_comes_32 ?_
  refine z_iload_n (pc := 35) hC 1 rfl 1 rfl dX6_comes_35 ?_
  refine z_iadd (pc := 36) hC dX6_comes_36 ?_
  refine z_iload (pc := 37) hC 5 5 rfl dX6_comes_37 ?_
  refine z_iconst (pc := 39) hC (1 : Int32) rfl dX6_comes_39 ?_
  refine z_iadd (pc := 40) hC dX6_comes_40 ?_
  refine z_cvV (pc := 41) (st := []) hC y_X6_lay q1246 [.inl (.int ((576 : Int32) + a1)), .inl (.int (a5 + (1 : Int32)))] rfl (hk 34 rfl) rfl rfl (c_X6_lay hC.2.2.2.2.2.2.1 hk) rfl ⟨rfl, rfl, (Nat.le_of_ble_eq_true rfl), (Nat.le_of_ble_eq_true rfl)⟩ (Nat.le_of_ble_eq_true rfl) dX6_comes_41 (fun r7 d8 => ?_)
  refine z_aload_n (pc := 44) hC 0 rfl 0 rfl dX6_comes_44 ?_
  refine z_sipush (pc := 45) hC (768 : Int32) rfl dX6_comes_45 ?_
  refine z_iload_n (pc := 48) hC 1 rfl 1 rfl dX6_comes_48 ?_
  refine z_iadd (pc := 49) hC dX6_comes_49 ?_
  refine z_iconst (pc := 50) hC (0 : Int32) rfl dX6_comes_50 ?_
  refine z_cvV (pc := 51) (st := []) hC y_X6_lay q1246 [.inl (.int ((768 : Int32) + a1)), .inl (.int (0 : Int32))] rfl (hk 34 rfl) rfl rfl (c_X6_lay hC.2.2.2.2.2.2.1 hk) rfl ⟨rfl, rfl, (Nat.le_of_ble_eq_true rfl), (Nat.le_of_ble_eq_true rfl)⟩ (Nat.le_of_ble_eq_true rfl) dX6_comes_51 (fun r9 d10 => ?_)
  refine z_aload_n (pc := 54) hC 0 rfl 0 rfl dX6_comes_54 ?_
  refine z_sipush (pc := 55) hC (960 : Int32) rfl dX6_comes_55 ?_
  refine z_iload_n (pc := 58) hC 1 rfl 1 rfl dX6_comes_58 ?_
  refine z_iadd (pc := 59) hC dX6_comes_59 ?_
  refine z_iconst (pc := 60) hC (0 : Int32) rfl dX6_comes_60 ?_
  refine z_cvV (pc := 61) (st := []) hC y_X6_lay q1246 [.inl (.int ((960 : Int32) + a1)), .inl (.int (0 : Int32))] rfl (hk 34 rfl) rfl rfl (c_X6_lay hC.2.2.2.2.2.2.1 hk) rfl ⟨rfl, rfl, (Nat.le_of_ble_eq_true rfl), (Nat.le_of_ble_eq_true rfl)⟩ (Nat.le_of_ble_eq_true rfl) dX6_comes_61 (fun r11 d12 => ?_)
  refine z_aload_n (pc := 64) hC 0 rfl 0 rfl dX6_comes_64 ?_
  refine z_sipush (pc := 65) hC (1152 : Int32) rfl dX6_comes_65 ?_
  refine z_iload_n (pc := 68) hC 1 rfl 1 rfl dX6_comes_68 ?_
  refine z_iadd (pc := 69) hC dX6_comes_69 ?_
  refine z_iconst (pc := 70) hC (0 : Int32) rfl dX6_comes_70 ?_
  refine z_cvV (pc := 71) (st := []) hC y_X6_lay q1246 [.inl (.int ((1152 : Int32) + a1)), .inl (.int (0 : Int32))] rfl (hk 34 rfl) rfl rfl (c_X6_lay hC.2.2.2.2.2.2.1 hk) rfl ⟨rfl, rfl, (Nat.le_of_ble_eq_true rfl), (Nat.le_of_ble_eq_true rfl)⟩ (Nat.le_of_ble_eq_true rfl) dX6_comes_71 (fun r13 d14 => ?_)
  refine z_aload_n (pc := 74) hC 0 rfl 0 rfl dX6_comes_74 ?_
  refine z_sipush (pc := 75) hC (1344 : Int32) rfl dX6_comes_75 ?_
  refine z_iload_n (pc := 78) hC 1 rfl 1 rfl dX6_comes_78 ?_
  refine z_iadd (pc := 79) hC dX6_comes_79 ?_
  refine z_iconst (pc := 80) hC (0 : Int32) rfl dX6_comes_80 ?_
  refine z_cvV (pc := 81) (st := []) hC y_X6_lay q1246 [.inl (.int ((1344 : Int32) + a1)), .inl (.int (0 : Int32))] rfl (hk 34 rfl) rfl rfl (c_X6_lay hC.2.2.2.2.2.2.1 hk) rfl ⟨rfl, rfl, (Nat.le_of_ble_eq_true rfl), (Nat.le_of_ble_eq_true rfl)⟩ (Nat.le_of_ble_eq_true rfl) dX6_comes_81 (fun r15 d16 => ?_)
  refine z_aload_n (pc := 84) hC 0 rfl 0 rfl dX6_comes_84 ?_
  refine z_sipush (pc := 85) hC (1536 : Int32) rfl dX6_comes_85 ?_
  refine z_iload_n (pc := 88) hC 1 rfl 1 rfl dX6_comes_88 ?_
  refine z_iadd (pc := 89) hC dX6_comes_89 ?_
  refine z_iload (pc := 90) hC 6 6 rfl dX6_comes_90 ?_
  refine z_cvV (pc := 92) (st := []) hC y_X6_lay q1246 [.inl (.int ((1536 : Int32) + a1)), .inl (.int a6)] rfl (hk 34 rfl) rfl rfl (c_X6_lay hC.2.2.2.2.2.2.1 hk) rfl ⟨rfl, rfl, (Nat.le_of_ble_eq_true rfl), (Nat.le_of_ble_eq_true rfl)⟩ (Nat.le_of_ble_eq_true rfl) dX6_comes_92 (fun r17 d18 => ?_)
  refine z_aload_n (pc := 95) hC 0 rfl 0 rfl dX6_comes_95 ?_
  refine z_sipush (pc := 96) hC (1728 : Int32) rfl dX6_comes_96 ?_
  refine z_iload_n (pc := 99) hC 1 rfl 1 rfl dX6_comes_99 ?_
  refine z_iadd (pc := 100) hC dX6_comes_100 ?_
  refine z_iconst (pc := 101) hC (0 : Int32) rfl dX6_comes_101 ?_
  refine z_cvV (pc := 102) (st := []) hC y_X6_lay q1246 [.inl (.int ((1728 : Int32) + a1)), .inl (.int (0 : Int32))] rfl (hk 34 rfl) rfl rfl (c_X6_lay hC.2.2.2.2.2.2.1 hk) rfl ⟨rfl, rfl, (Nat.le_of_ble_eq_true rfl), (Nat.le_of_ble_eq_true rfl)⟩ (Nat.le_of_ble_eq_true rfl) dX6_comes_102 (fun r19 d20 => ?_)
  refine z_aload_n (pc := 105) hC 0 rfl 0 rfl dX6_comes_105 ?_
  refine z_iload_n (pc := 106) hC 1 rfl 1 rfl dX6_comes_106 ?_
  refine z_cvV (pc := 107) (st := []) hC y_X6_widens q1258 [.inl (.int a1)] rfl (hk 34 rfl) rfl rfl (c_X6_widens hC.2.2.2.2.2.2.1 hk) rfl ⟨rfl, rfl, (Nat.le_of_ble_eq_true rfl), (Nat.le_of_ble_eq_true rfl)⟩ (Nat.le_of_ble_eq_true rfl) dX6_comes_107 (fun r21 d22 => ?_)
  refine z_iload (pc := 110) hC 5 5 rfl dX6_comes_110 ?_
  refine z_if_ge (pc := 112) hC 116 rfl dX6_comes_112 ?_ ?_
  · refine z_aload_n (pc := 116) hC 0 rfl 0 rfl dX6_comes_116 ?_
    refine z_sipush (pc := 117) hC (960 : Int32) rfl dX6_comes_117 ?_
    refine z_iload (pc := 120) hC 5 5 rfl dX6_comes_120 ?_
    refine z_iadd (pc := 122) hC dX6_comes_122 ?_
    refine z_piV (pc := 123) (st := []) hC y_X6_of q1262 [.inl (.int ((960 : Int32) + a5))] rfl (hk 34 rfl) rfl rfl (c_X6_of hC.2.2.2.2.2.2.1 hk) rfl ⟨rfl, rfl, (Nat.le_of_ble_eq_true rfl), (Nat.le_of_ble_eq_true rfl)⟩ (Nat.le_of_ble_eq_true rfl) dX6_comes_123 (fun r23 => ?_)
    refine z_iconst (pc := 126) hC (1 : Int32) rfl dX6_comes_126 ?_
    refine z_isub (pc := 127) hC dX6_comes_127 ?_
    refine z_istore (pc := 128) (ls1 := fun v => [(7, .inl (.int v)), (0, .inr (k, 34)), (1, .inl (.int a1)), (2, .inl (.int a2)), (3, .inl (.int a3)), (4, .inl (.int a4)), (5, .inl (.int a5)), (6, .inl (.int a6))]) hC 7 (by decide) (fun v => rfl) dX6_comes_128 (fun v7_24 => ?_)
    refine z_aload_n (pc := 130) hC 0 rfl 1 rfl dX6_comes_130 ?_
    refine z_iload (pc := 131) hC 7 0 rfl dX6_comes_131 ?_
    refine z_iload_n (pc := 133) hC 1 rfl 2 rfl dX6_comes_133 ?_
    refine z_iload (pc := 134) hC 5 6 rfl dX6_comes_134 ?_
    refine z_cvV (pc := 136) (st := []) hC y_X6_linked q1266 [.inl (.int v7_24), .inl (.int a1), .inl (.int a5)] rfl (hk 34 rfl) rfl rfl (c_X6_linked hC.2.2.2.2.2.2.1 hk) rfl ⟨rfl, rfl, (Nat.le_of_ble_eq_true rfl), (Nat.le_of_ble_eq_true rfl)⟩ (Nat.le_of_ble_eq_true rfl) dX6_comes_136 (fun r25 d26 => ?_)
    refine z_aload_n (pc := 139) hC 0 rfl 1 rfl dX6_comes_139 ?_
    refine z_iload_n (pc := 140) hC 1 rfl 2 rfl dX6_comes_140 ?_
    refine z_iconst (pc := 141) hC (-1 : Int32) rfl dX6_comes_141 ?_
    refine z_iload (pc := 142) hC 5 6 rfl dX6_comes_142 ?_
    refine z_cvV (pc := 144) (st := []) hC y_X6_linked q1266 [.inl (.int a1), .inl (.int (-1 : Int32)), .inl (.int a5)] rfl (hk 34 rfl) rfl rfl (c_X6_linked hC.2.2.2.2.2.2.1 hk) rfl ⟨rfl, rfl, (Nat.le_of_ble_eq_true rfl), (Nat.le_of_ble_eq_true rfl)⟩ (Nat.le_of_ble_eq_true rfl) dX6_comes_144 (fun r27 d28 => ?_)
    exact z_vret (pc := 147) hC rfl dX6_comes_147
  · exact z_vret (pc := 115) hC rfl dX6_comes_115
theorem c_X6_comes {G : Geo} {M : Mem} {k : Nat} (hG : GOk G) (hk : LMo G k) {d : Sl} {a1 : Int32} {a2 : Int32} {a3 : Int32} {a4 : Int32} {a5 : Int32} {a6 : Int32} (l : Launch) (r : Unit) (d1 : Sl) (h : Mo_comes d a1 a2 a3 a4 a5 a6 = some (r, d1)) : Mt l yX6_comes cX6_comes 8 none rm_X6_comes G [.inr (k, 34), .inl (.int a1), .inl (.int a2), .inl (.int a3), .inl (.int a4), .inl (.int a5), .inl (.int a6)] ((setS M k) d) (avV r) ((setS M k) d1) :=
  mt_of (mem := (setS M k)) (po := poM avV (setS M k)) (x0 := d) (t := (r, d1)) rfl hG [.inr (k, 34), .inl (.int a1), .inl (.int a2), .inl (.int a3), .inl (.int a4), .inl (.int a5), .inl (.int a6)] (Nat.le_of_ble_eq_true rfl) rfl (fun C hC => r_Mo_comes hC hk d a1 a2 a3 a4 a5 a6) h
-- FrameHeirsModel.keepText()V
abbrev rm_X6_keepText : Room := { frames := 3, cells := 0, slots := 0, locals := 72 }
theorem dX6_keepText_0 : decode cX6_keepText 0 = .ok (.aload_n 0, 1) := by decide +kernel
theorem dX6_keepText_1 : decode cX6_keepText 1 = .ok (.aload_n 0, 1) := by decide +kernel
theorem dX6_keepText_2 : decode cX6_keepText 2 = .ok (.getfield 100, 3) := by decide +kernel
theorem dX6_keepText_5 : decode cX6_keepText 5 = .ok (.putfield 106, 3) := by decide +kernel
theorem dX6_keepText_8 : decode cX6_keepText 8 = .ok (.aload_n 0, 1) := by decide +kernel
theorem dX6_keepText_9 : decode cX6_keepText 9 = .ok (.aload_n 0, 1) := by decide +kernel
theorem dX6_keepText_10 : decode cX6_keepText 10 = .ok (.getfield 103, 3) := by decide +kernel
theorem dX6_keepText_13 : decode cX6_keepText 13 = .ok (.putfield 109, 3) := by decide +kernel
theorem dX6_keepText_16 : decode cX6_keepText 16 = .ok (.aload_n 0, 1) := by decide +kernel
theorem dX6_keepText_17 : decode cX6_keepText 17 = .ok (.getfield 20, 3) := by decide +kernel
theorem dX6_keepText_20 : decode cX6_keepText 20 = .ok (.bipush 6, 2) := by decide +kernel
theorem dX6_keepText_22 : decode cX6_keepText 22 = .ok (.invokestatic 112, 3) := by decide +kernel
theorem dX6_keepText_25 : decode cX6_keepText 25 = .ok (.aload_n 0, 1) := by decide +kernel
theorem dX6_keepText_26 : decode cX6_keepText 26 = .ok (.getfield 23, 3) := by decide +kernel
theorem dX6_keepText_29 : decode cX6_keepText 29 = .ok (.bipush 6, 2) := by decide +kernel
theorem dX6_keepText_31 : decode cX6_keepText 31 = .ok (.invokestatic 112, 3) := by decide +kernel
theorem dX6_keepText_34 : decode cX6_keepText 34 = .ok (.aload_n 0, 1) := by decide +kernel
theorem dX6_keepText_35 : decode cX6_keepText 35 = .ok (.getfield 26, 3) := by decide +kernel
theorem dX6_keepText_38 : decode cX6_keepText 38 = .ok (.bipush 6, 2) := by decide +kernel
theorem dX6_keepText_40 : decode cX6_keepText 40 = .ok (.invokestatic 112, 3) := by decide +kernel
theorem dX6_keepText_43 : decode cX6_keepText 43 = .ok (.aload_n 0, 1) := by decide +kernel
theorem dX6_keepText_44 : decode cX6_keepText 44 = .ok (.getfield 29, 3) := by decide +kernel
theorem dX6_keepText_47 : decode cX6_keepText 47 = .ok (.bipush 6, 2) := by decide +kernel
theorem dX6_keepText_49 : decode cX6_keepText 49 = .ok (.invokestatic 112, 3) := by decide +kernel
theorem dX6_keepText_52 : decode cX6_keepText 52 = .ok (.aload_n 0, 1) := by decide +kernel
theorem dX6_keepText_53 : decode cX6_keepText 53 = .ok (.getfield 32, 3) := by decide +kernel
theorem dX6_keepText_56 : decode cX6_keepText 56 = .ok (.bipush 7, 2) := by decide +kernel
theorem dX6_keepText_58 : decode cX6_keepText 58 = .ok (.invokestatic 112, 3) := by decide +kernel
theorem dX6_keepText_61 : decode cX6_keepText 61 = .ok (.aload_n 0, 1) := by decide +kernel
theorem dX6_keepText_62 : decode cX6_keepText 62 = .ok (.getfield 39, 3) := by decide +kernel
theorem dX6_keepText_65 : decode cX6_keepText 65 = .ok (.bipush 24, 2) := by decide +kernel
theorem dX6_keepText_67 : decode cX6_keepText 67 = .ok (.invokestatic 112, 3) := by decide +kernel
theorem dX6_keepText_70 : decode cX6_keepText 70 = .ok (.aload_n 0, 1) := by decide +kernel
theorem dX6_keepText_71 : decode cX6_keepText 71 = .ok (.getfield 42, 3) := by decide +kernel
theorem dX6_keepText_74 : decode cX6_keepText 74 = .ok (.sipush 144, 3) := by decide +kernel
theorem dX6_keepText_77 : decode cX6_keepText 77 = .ok (.invokestatic 112, 3) := by decide +kernel
theorem dX6_keepText_80 : decode cX6_keepText 80 = .ok (.aload_n 0, 1) := by decide +kernel
theorem dX6_keepText_81 : decode cX6_keepText 81 = .ok (.iconst 0, 1) := by decide +kernel
theorem dX6_keepText_82 : decode cX6_keepText 82 = .ok (.putfield 116, 3) := by decide +kernel
theorem dX6_keepText_85 : decode cX6_keepText 85 = .ok (.aload_n 0, 1) := by decide +kernel
theorem dX6_keepText_86 : decode cX6_keepText 86 = .ok (.iconst 0, 1) := by decide +kernel
theorem dX6_keepText_87 : decode cX6_keepText 87 = .ok (.putfield 119, 3) := by decide +kernel
theorem dX6_keepText_90 : decode cX6_keepText 90 = .ok (.iconst 0, 1) := by decide +kernel
theorem dX6_keepText_91 : decode cX6_keepText 91 = .ok (.istore_n 1, 1) := by decide +kernel
theorem dX6_keepText_92 : decode cX6_keepText 92 = .ok (.iload_n 1, 1) := by decide +kernel
theorem dX6_keepText_93 : decode cX6_keepText 93 = .ok (.sipush 2227, 3) := by decide +kernel
theorem dX6_keepText_96 : decode cX6_keepText 96 = .ok (.if_icmp .ge 15, 3) := by decide +kernel
theorem dX6_keepText_99 : decode cX6_keepText 99 = .ok (.aload_n 0, 1) := by decide +kernel
theorem dX6_keepText_100 : decode cX6_keepText 100 = .ok (.iload_n 1, 1) := by decide +kernel
theorem dX6_keepText_101 : decode cX6_keepText 101 = .ok (.iconst 0, 1) := by decide +kernel
theorem dX6_keepText_102 : decode cX6_keepText 102 = .ok (.invokevirtual 122, 3) := by decide +kernel
theorem dX6_keepText_105 : decode cX6_keepText 105 = .ok (.iinc 1 1, 3) := by decide +kernel
theorem dX6_keepText_108 : decode cX6_keepText 108 = .ok (.goto (-16), 3) := by decide +kernel
theorem dX6_keepText_111 : decode cX6_keepText 111 = .ok (.iconst 0, 1) := by decide +kernel
theorem dX6_keepText_112 : decode cX6_keepText 112 = .ok (.istore_n 1, 1) := by decide +kernel
theorem dX6_keepText_113 : decode cX6_keepText 113 = .ok (.iload_n 1, 1) := by decide +kernel
theorem dX6_keepText_114 : decode cX6_keepText 114 = .ok (.bipush 24, 2) := by decide +kernel
theorem dX6_keepText_116 : decode cX6_keepText 116 = .ok (.if_icmp .ge 20, 3) := by decide +kernel
theorem dX6_keepText_119 : decode cX6_keepText 119 = .ok (.aload_n 0, 1) := by decide +kernel
theorem dX6_keepText_120 : decode cX6_keepText 120 = .ok (.sipush 2203, 3) := by decide +kernel
theorem dX6_keepText_123 : decode cX6_keepText 123 = .ok (.iload_n 1, 1) := by decide +kernel
theorem dX6_keepText_124 : decode cX6_keepText 124 = .ok (.iadd, 1) := by decide +kernel
theorem dX6_keepText_125 : decode cX6_keepText 125 = .ok (.bipush (-9), 2) := by decide +kernel
theorem dX6_keepText_127 : decode cX6_keepText 127 = .ok (.invokevirtual 122, 3) := by decide +kernel
theorem dX6_keepText_130 : decode cX6_keepText 130 = .ok (.iinc 1 1, 3) := by decide +kernel
theorem dX6_keepText_133 : decode cX6_keepText 133 = .ok (.goto (-20), 3) := by decide +kernel
theorem dX6_keepText_136 : decode cX6_keepText 136 = .ok (.iconst 0, 1) := by decide +kernel
theorem dX6_keepText_137 : decode cX6_keepText 137 = .ok (.istore_n 1, 1) := by decide +kernel
theorem dX6_keepText_138 : decode cX6_keepText 138 = .ok (.iload_n 1, 1) := by decide +kernel
theorem dX6_keepText_139 : decode cX6_keepText 139 = .ok (.aload_n 0, 1) := by decide +kernel
theorem dX6_keepText_140 : decode cX6_keepText 140 = .ok (.invokevirtual 126, 3) := by decide +kernel
theorem dX6_keepText_143 : decode cX6_keepText 143 = .ok (.if_icmp .ge 27, 3) := by decide +kernel
theorem dX6_keepText_146 : decode cX6_keepText 146 = .ok (.aload_n 0, 1) := by decide +kernel
theorem dX6_keepText_147 : decode cX6_keepText 147 = .ok (.getfield 106, 3) := by decide +kernel
theorem dX6_keepText_150 : decode cX6_keepText 150 = .ok (.ifCond .le 20, 3) := by decide +kernel
theorem dX6_keepText_153 : decode cX6_keepText 153 = .ok (.aload_n 0, 1) := by decide +kernel
theorem dX6_keepText_154 : decode cX6_keepText 154 = .ok (.iload_n 1, 1) := by decide +kernel
theorem dX6_keepText_155 : decode cX6_keepText 155 = .ok (.iconst 3, 1) := by decide +kernel
theorem dX6_keepText_156 : decode cX6_keepText 156 = .ok (.iload_n 1, 1) := by decide +kernel
theorem dX6_keepText_157 : decode cX6_keepText 157 = .ok (.bipush 7, 2) := by decide +kernel
theorem dX6_keepText_159 : decode cX6_keepText 159 = .ok (.iconst (-1), 1) := by decide +kernel
theorem dX6_keepText_160 : decode cX6_keepText 160 = .ok (.iconst 0, 1) := by decide +kernel
theorem dX6_keepText_161 : decode cX6_keepText 161 = .ok (.invokevirtual 130, 3) := by decide +kernel
theorem dX6_keepText_164 : decode cX6_keepText 164 = .ok (.iinc 1 8, 3) := by decide +kernel
theorem dX6_keepText_167 : decode cX6_keepText 167 = .ok (.goto (-29), 3) := by decide +kernel
theorem dX6_keepText_170 : decode cX6_keepText 170 = .ok (.return_, 1) := by decide +kernel
def Mo_keepText_138 : Nat → Int32 → Sl → Option (Unit × Sl)
  | 0, _, _ => none
  | n + 1, v1, d =>
    bp (Mo_size d) fun r1 =>
    if r1 ≤ v1 then
      (some ((), d))
    else
      (if (d 34 11) ≤ 0 then
        (some ((), d))
      else
        (bd (Mo_comes d v1 (3 : Int32) v1 (7 : Int32) (-1 : Int32) (0 : Int32)) fun r2 d3 =>
        bnd (v1 + (8 : Int32)) fun v1_4 =>
        Mo_keepText_138 n v1_4 d3))
def Mo_keepText_113 : Nat → Int32 → Sl → Option (Unit × Sl)
  | 0, _, _ => none
  | n + 1, v1, d =>
    if (24 : Int32) ≤ v1 then
      (bnd (0 : Int32) fun v1_5 =>
      Mo_keepText_138 FU v1_5 d)
    else
      (bd (Mo_lay d ((2203 : Int32) + v1) (-9 : Int32)) fun r6 d7 =>
      bnd (v1 + (1 : Int32)) fun v1_8 =>
      Mo_keepText_113 n v1_8 d7)
def Mo_keepText_92 : Nat → Int32 → Sl → Option (Unit × Sl)
  | 0, _, _ => none
  | n + 1, v1, d =>
    if (2227 : Int32) ≤ v1 then
      (bnd (0 : Int32) fun v1_9 =>
      Mo_keepText_113 FU v1_9 d)
    else
      (bd (Mo_lay d v1 (0 : Int32)) fun r10 d11 =>
      bnd (v1 + (1 : Int32)) fun v1_12 =>
      Mo_keepText_92 n v1_12 d11)
def Mo_keepText (d : Sl) : Option (Unit × Sl) :=
  bnd (wr d 34 11 (d 34 12)) fun d13 =>
  bnd (wr d13 34 13 (d13 34 14)) fun d14 =>
  bd (Mo_copies 37 12 d14 (6 : Int32)) fun r15 d16 =>
  bd (Mo_copies 38 12 d16 (6 : Int32)) fun r17 d18 =>
  bd (Mo_copies 39 12 d18 (6 : Int32)) fun r19 d20 =>
  bd (Mo_copies 40 12 d20 (6 : Int32)) fun r21 d22 =>
  bd (Mo_copies 41 14 d22 (7 : Int32)) fun r23 d24 =>
  bd (Mo_copies 43 48 d24 (24 : Int32)) fun r25 d26 =>
  bd (Mo_copies 44 288 d26 (144 : Int32)) fun r27 d28 =>
  bnd (wr d28 34 25 (0 : Int32)) fun d29 =>
  bnd (wr d29 34 26 (0 : Int32)) fun d30 =>
  bnd (0 : Int32) fun v1_31 =>
  Mo_keepText_92 FU v1_31 d30
theorem y_X6_keepText : YV yX6_keepText cX6_keepText 2 none 0 := ⟨q1241, q42, q1242, q149, by decide +kernel, by decide +kernel, by decide +kernel, by decide +kernel⟩
theorem r_Mo_keepText_138 {C : Cxt} {G : Geo} {M : Mem} {k : Nat} (hC : Cx C cX6_keepText 2 "FrameHeirsModel" none rm_X6_keepText G) (hk : LMo G k) : ∀ (n : Nat) (v1 : Int32) (d : Sl), Rz C 2 G (setS M k) (poM avV (setS M k)) 138 [(0, .inr (k, 34)), (1, .inl (.int v1))] [] d (Mo_keepText_138 n v1 d) := by
  intro n
  induction n with
  | zero => intros; exact z_none
  | succ n ih =>
    intro v1 d
    rw [Mo_keepText_138]
    refine z_iload_n (pc := 138) hC 1 rfl 1 rfl dX6_keepText_138 ?_
    refine z_aload_n (pc := 139) hC 0 rfl 0 rfl dX6_keepText_139 ?_
    refine z_piV (pc := 140) (st := [.inl (.int v1)]) hC y_X6_size q1250 [] rfl (hk 34 rfl) rfl rfl (c_X6_size hC.2.2.2.2.2.2.1 hk) rfl ⟨rfl, rfl, (Nat.le_of_ble_eq_true rfl), (Nat.le_of_ble_eq_true rfl)⟩ (Nat.le_of_ble_eq_true rfl) dX6_keepText_140 (fun r1 => ?_)
    refine z_icmp_ge (pc := 143) hC 170 rfl dX6_keepText_143 ?_ ?_
    · exact z_vret (pc := 170) hC rfl dX6_keepText_170
    · refine z_aload_n (pc := 146) hC 0 rfl 0 rfl dX6_keepText_146 ?_
      refine zs_geti (pc := 147) hC (hk 34 rfl) f_34_11 q1281 dX6_keepText_147 ?_
      refine z_if_le (pc := 150) hC 170 rfl dX6_keepText_150 ?_ ?_
      · exact z_vret (pc := 170) hC rfl dX6_keepText_170
      · refine z_aload_n (pc := 153) hC 0 rfl 0 rfl dX6_keepText_153 ?_
        refine z_iload_n (pc := 154) hC 1 rfl 1 rfl dX6_keepText_154 ?_
        refine z_iconst (pc := 155) hC (3 : Int32) rfl dX6_keepText_155 ?_
        refine z_iload_n (pc := 156) hC 1 rfl 1 rfl dX6_keepText_156 ?_
        refine z_bipush (pc := 157) hC (7 : Int32) rfl dX6_keepText_157 ?_
        refine z_iconst (pc := 159) hC (-1 : Int32) rfl dX6_keepText_159 ?_
        refine z_iconst (pc := 160) hC (0 : Int32) rfl dX6_keepText_160 ?_
        refine z_cvV (pc := 161) (st := []) hC y_X6_comes q1254 [.inl (.int v1), .inl (.int (3 : Int32)), .inl (.int v1), .inl (.int (7 : Int32)), .inl (.int (-1 : Int32)), .inl (.int (0 : Int32))] rfl (hk 34 rfl) rfl rfl (c_X6_comes hC.2.2.2.2.2.2.1 hk) rfl ⟨rfl, rfl, (Nat.le_of_ble_eq_true rfl), (Nat.le_of_ble_eq_true rfl)⟩ (Nat.le_of_ble_eq_true rfl) dX6_keepText_161 (fun r2 d3 => ?_)
        refine z_iinc (pc := 164) (ls1 := fun v => [(1, .inl (.int v)), (0, .inr (k, 34))]) hC 1 1 (by decide) (8 : Int32) rfl rfl (fun v => rfl) dX6_keepText_164 (fun v1_4 => ?_)
        refine z_goto (pc := 167) hC 138 rfl dX6_keepText_167 ?_
        exact z_sub [1, 0] rfl (ih v1_4 d3)
theorem r_Mo_keepText_113 {C : Cxt} {G : Geo} {M : Mem} {k : Nat} (hC : Cx C cX6_keepText 2 "FrameHeirsModel" none rm_X6_keepText G) (hk : LMo G k) : ∀ (n : Nat) (v1 : Int32) (d : Sl), Rz C 2 G (setS M k) (poM avV (setS M k)) 113 [(0, .inr (k, 34)), (1, .inl (.int v1))] [] d (Mo_keepText_113 n v1 d) := by
  intro n
  induction n with
  | zero => intros; exact z_none
  | succ n ih =>
    intro v1 d
    rw [Mo_keepText_113]
    refine z_iload_n (pc := 113) hC 1 rfl 1 rfl dX6_keepText_113 ?_
    refine z_bipush (pc := 114) hC (24 : Int32) rfl dX6_keepText_114 ?_
    refine z_icmp_ge (pc := 116) hC 136 rfl dX6_keepText_116 ?_ ?_
    · refine z_iconst (pc := 136) hC (0 : Int32) rfl dX6_keepText_136 ?_
      refine z_istore_n (pc := 137) (ls1 := fun v => [(1, .inl (.int v)), (0, .inr (k, 34))]) hC 1 rfl (by decide) (fun v => rfl) dX6_keepText_137 (fun v1_5 => ?_)
      exact z_sub [1, 0] rfl (r_Mo_keepText_138 hC hk FU v1_5 d)
    · refine z_aload_n (pc := 119) hC 0 rfl 0 rfl dX6_keepText_119 ?_
      refine z_sipush (pc := 120) hC (2203 : Int32) rfl dX6_keepText_120 ?_
      refine z_iload_n (pc := 123) hC 1 rfl 1 rfl dX6_keepText_123 ?_
      refine z_iadd (pc := 124) hC dX6_keepText_124 ?_
      refine z_bipush (pc := 125) hC (-9 : Int32) rfl dX6_keepText_125 ?_
      refine z_cvV (pc := 127) (st := []) hC y_X6_lay q1246 [.inl (.int ((2203 : Int32) + v1)), .inl (.int (-9 : Int32))] rfl (hk 34 rfl) rfl rfl (c_X6_lay hC.2.2.2.2.2.2.1 hk) rfl ⟨rfl, rfl, (Nat.le_of_ble_eq_true rfl), (Nat.le_of_ble_eq_true rfl)⟩ (Nat.le_of_ble_eq_true rfl) dX6_keepText_127 (fun r6 d7 => ?_)
      refine z_iinc (pc := 130) (ls1 := fun v => [(1, .inl (.int v)), (0, .inr (k, 34))]) hC 1 1 (by decide) (1 : Int32) rfl rfl (fun v => rfl) dX6_keepText_130 (fun v1_8 => ?_)
      refine z_goto (pc := 133) hC 113 rfl dX6_keepText_133 ?_
      exact z_sub [1, 0] rfl (ih v1_8 d7)
theorem r_Mo_keepText_92 {C : Cxt} {G : Geo} {M : Mem} {k : Nat} (hC : Cx C cX6_keepText 2 "FrameHeirsModel" none rm_X6_keepText G) (hk : LMo G k) : ∀ (n : Nat) (v1 : Int32) (d : Sl), Rz C 2 G (setS M k) (poM avV (setS M k)) 92 [(0, .inr (k, 34)), (1, .inl (.int v1))] [] d (Mo_keepText_92 n v1 d) := by
  intro n
  induction n with
  | zero => intros; exact z_none
  | succ n ih =>
    intro v1 d
    rw [Mo_keepText_92]
    refine z_iload_n (pc := 92) hC 1 rfl 1 rfl dX6_keepText_92 ?_
    refine z_sipush (pc := 93) hC (2227 : Int32) rfl dX6_keepText_93 ?_
    refine z_icmp_ge (pc := 96) hC 111 rfl dX6_keepText_96 ?_ ?_
    · refine z_iconst (pc := 111) hC (0 : Int32) rfl dX6_keepText_111 ?_
      refine z_istore_n (pc := 112) (ls1 := fun v => [(1, .inl (.int v)), (0, .inr (k, 34))]) hC 1 rfl (by decide) (fun v => rfl) dX6_keepText_112 (fun v1_9 => ?_)
      exact z_sub [1, 0] rfl (r_Mo_keepText_113 hC hk FU v1_9 d)
    · refine z_aload_n (pc := 99) hC 0 rfl 0 rfl dX6_keepText_99 ?_
      refine z_iload_n (pc := 100) hC 1 rfl 1 rfl dX6_keepText_100 ?_
      refine z_iconst (pc := 101) hC (0 : Int32) rfl dX6_keepText_101 ?_
      refine z_cvV (pc := 102) (st := []) hC y_X6_lay q1246 [.inl (.int v1), .inl (.int (0 : Int32))] rfl (hk 34 rfl) rfl rfl (c_X6_lay hC.2.2.2.2.2.2.1 hk) rfl ⟨rfl, rfl, (Nat.le_of_ble_eq_true rfl), (Nat.le_of_ble_eq_true rfl)⟩ (Nat.le_of_ble_eq_true rfl) dX6_keepText_102 (fun r10 d11 => ?_)
      refine z_iinc (pc := 105) (ls1 := fun v => [(1, .inl (.int v)), (0, .inr (k, 34))]) hC 1 1 (by decide) (1 : Int32) rfl rfl (fun v => rfl) dX6_keepText_105 (fun v1_12 => ?_)
      refine z_goto (pc := 108) hC 92 rfl dX6_keepText_108 ?_
      exact z_sub [1, 0] rfl (ih v1_12 d11)
theorem r_Mo_keepText {C : Cxt} {G : Geo} {M : Mem} {k : Nat} (hC : Cx C cX6_keepText 2 "FrameHeirsModel" none rm_X6_keepText G) (hk : LMo G k) (d : Sl) : Rz C 2 G (setS M k) (poM avV (setS M k)) 0 [(0, .inr (k, 34))] [] d (Mo_keepText d) := by
  unfold Mo_keepText
  refine z_aload_n (pc := 0) hC 0 rfl 0 rfl dX6_keepText_0 ?_
  refine z_aload_n (pc := 1) hC 0 rfl 0 rfl dX6_keepText_1 ?_
  refine zs_geti (pc := 2) hC (hk 34 rfl) f_34_12 q1282 dX6_keepText_2 ?_
  refine zs_puti (pc := 5) hC (hk 34 rfl) f_34_11 q1281 dX6_keepText_5 (fun d13 => ?_)
  refine z_aload_n (pc := 8) hC 0 rfl 0 rfl dX6_keepText_8 ?_
  refine z_aload_n (pc := 9) hC 0 rfl 0 rfl dX6_keepText_9 ?_
  refine zs_geti (pc := 10) hC (hk 34 rfl) f_34_14 q1284 dX6_keepText_10 ?_
  refine zs_puti (pc := 13) hC (hk 34 rfl) f_34_13 q1283 dX6_keepText_13 (fun d14 => ?_)
  refine z_aload_n (pc := 16) hC 0 rfl 0 rfl dX6_keepText_16 ?_
  refine z_getc (pc := 17) hC (hk 34 rfl) f_34_15 q1285 dX6_keepText_17 ?_
  refine z_bipush (pc := 20) hC (6 : Int32) rfl dX6_keepText_20 ?_
  refine z_cvS (pc := 22) (st := []) hC y_X6_copies q1243 [.inr (k, 37), .inl (.int (6 : Int32))] rfl (c_X6_copies (Nb0 := 12) hC.2.2.2.2.2.2.1 (hk 37 rfl) (by decide) rfl) rfl ⟨rfl, rfl, (Nat.le_of_ble_eq_true rfl), (Nat.le_of_ble_eq_true rfl)⟩ (Nat.le_of_ble_eq_true rfl) dX6_keepText_22 (fun r15 d16 => ?_)
  refine z_aload_n (pc := 25) hC 0 rfl 0 rfl dX6_keepText_25 ?_
  refine z_getc (pc := 26) hC (hk 34 rfl) f_34_16 q1286 dX6_keepText_26 ?_
  refine z_bipush (pc := 29) hC (6 : Int32) rfl dX6_keepText_29 ?_
  refine z_cvS (pc := 31) (st := []) hC y_X6_copies q1243 [.inr (k, 38), .inl (.int (6 : Int32))] rfl (c_X6_copies (Nb0 := 12) hC.2.2.2.2.2.2.1 (hk 38 rfl) (by decide) rfl) rfl ⟨rfl, rfl, (Nat.le_of_ble_eq_true rfl), (Nat.le_of_ble_eq_true rfl)⟩ (Nat.le_of_ble_eq_true rfl) dX6_keepText_31 (fun r17 d18 => ?_)
  refine z_aload_n (pc := 34) hC 0 rfl 0 rfl dX6_keepText_34 ?_
  refine z_getc (pc := 35) hC (hk 34 rfl) f_34_17 q1287 dX6_keepText_35 ?_
  refine z_bipush (pc := 38) hC (6 : Int32) rfl dX6_keepText_38 ?_
  refine z_cvS (pc := 40) (st := []) hC y_X6_copies q1243 [.inr (k, 39), .inl (.int (6 : Int32))] rfl (c_X6_copies (Nb0 := 12) hC.2.2.2.2.2.2.1 (hk 39 rfl) (by decide) rfl) rfl ⟨rfl, rfl, (Nat.le_of_ble_eq_true rfl), (Nat.le_of_ble_eq_true rfl)⟩ (Nat.le_of_ble_eq_true rfl) dX6_keepText_40 (fun r19 d20 => ?_)
  refine z_aload_n (pc := 43) hC 0 rfl 0 rfl dX6_keepText_43 ?_
  refine z_getc (pc := 44) hC (hk 34 rfl) f_34_18 q1288 dX6_keepText_44 ?_
  refine z_bipush (pc := 47) hC (6 : Int32) rfl dX6_keepText_47 ?_
  refine z_cvS (pc := 49) (st := []) hC y_X6_copies q1243 [.inr (k, 40), .inl (.int (6 : Int32))] rfl (c_X6_copies (Nb0 := 12) hC.2.2.2.2.2.2.1 (hk 40 rfl) (by decide) rfl) rfl ⟨rfl, rfl, (Nat.le_of_ble_eq_true rfl), (Nat.le_of_ble_eq_true rfl)⟩ (Nat.le_of_ble_eq_true rfl) dX6_keepText_49 (fun r21 d22 => ?_)
  refine z_aload_n (pc := 52) hC 0 rfl 0 rfl dX6_keepText_52 ?_
  refine z_getc (pc := 53) hC (hk 34 rfl) f_34_19 q1289 dX6_keepText_53 ?_
  refine z_bipush (pc := 56) hC (7 : Int32) rfl dX6_keepText_56 ?_
  refine z_cvS (pc := 58) (st := []) hC y_X6_copies q1243 [.inr (k, 41), .inl (.int (7 : Int32))] rfl (c_X6_copies (Nb0 := 14) hC.2.2.2.2.2.2.1 (hk 41 rfl) (by decide) rfl) rfl ⟨rfl, rfl, (Nat.le_of_ble_eq_true rfl), (Nat.le_of_ble_eq_true rfl)⟩ (Nat.le_of_ble_eq_true rfl) dX6_keepText_58 (fun r23 d24 => ?_)
  refine z_aload_n (pc := 61) hC 0 rfl 0 rfl dX6_keepText_61 ?_
  refine z_getc (pc := 62) hC (hk 34 rfl) f_34_21 q1291 dX6_keepText_62 ?_
  refine z_bipush (pc := 65) hC (24 : Int32) rfl dX6_keepText_65 ?_
  refine z_cvS (pc := 67) (st := []) hC y_X6_copies q1243 [.inr (k, 43), .inl (.int (24 : Int32))] rfl (c_X6_copies (Nb0 := 48) hC.2.2.2.2.2.2.1 (hk 43 rfl) (by decide) rfl) rfl ⟨rfl, rfl, (Nat.le_of_ble_eq_true rfl), (Nat.le_of_ble_eq_true rfl)⟩ (Nat.le_of_ble_eq_true rfl) dX6_keepText_67 (fun r25 d26 => ?_)
  refine z_aload_n (pc := 70) hC 0 rfl 0 rfl dX6_keepText_70 ?_
  refine z_getc (pc := 71) hC (hk 34 rfl) f_34_22 q1292 dX6_keepText_71 ?_
  refine z_sipush (pc := 74) hC (144 : Int32) rfl dX6_keepText_74 ?_
  refine z_cvS (pc := 77) (st := []) hC y_X6_copies q1243 [.inr (k, 44), .inl (.int (144 : Int32))] rfl (c_X6_copies (Nb0 := 288) hC.2.2.2.2.2.2.1 (hk 44 rfl) (by decide) rfl) rfl ⟨rfl, rfl, (Nat.le_of_ble_eq_true rfl), (Nat.le_of_ble_eq_true rfl)⟩ (Nat.le_of_ble_eq_true rfl) dX6_keepText_77 (fun r27 d28 => ?_)
  refine z_aload_n (pc := 80) hC 0 rfl 0 rfl dX6_keepText_80 ?_
  refine z_iconst (pc := 81) hC (0 : Int32) rfl dX6_keepText_81 ?_
  refine zs_puti (pc := 82) hC (hk 34 rfl) f_34_25 q1295 dX6_keepText_82 (fun d29 => ?_)
  refine z_aload_n (pc := 85) hC 0 rfl 0 rfl dX6_keepText_85 ?_
  refine z_iconst (pc := 86) hC (0 : Int32) rfl dX6_keepText_86 ?_
  refine zs_puti (pc := 87) hC (hk 34 rfl) f_34_26 q1296 dX6_keepText_87 (fun d30 => ?_)
  refine z_iconst (pc := 90) hC (0 : Int32) rfl dX6_keepText_90 ?_
  refine z_istore_n (pc := 91) (ls1 := fun v => [(1, .inl (.int v)), (0, .inr (k, 34))]) hC 1 rfl (by decide) (fun v => rfl) dX6_keepText_91 (fun v1_31 => ?_)
  exact z_sub [1, 0] rfl (r_Mo_keepText_92 hC hk FU v1_31 d30)
theorem c_X6_keepText {G : Geo} {M : Mem} {k : Nat} (hG : GOk G) (hk : LMo G k) {d : Sl} (l : Launch) (r : Unit) (d1 : Sl) (h : Mo_keepText d = some (r, d1)) : Mt l yX6_keepText cX6_keepText 2 none rm_X6_keepText G [.inr (k, 34)] ((setS M k) d) (avV r) ((setS M k) d1) :=
  mt_of (mem := (setS M k)) (po := poM avV (setS M k)) (x0 := d) (t := (r, d1)) rfl hG [.inr (k, 34)] (Nat.le_of_ble_eq_true rfl) rfl (fun C hC => r_Mo_keepText hC hk d) h
-- FrameHeirsModel.thrown()I
abbrev rm_X6_thrown : Room := { frames := 0, cells := 0, slots := 0, locals := 0 }
theorem dX6_thrown_0 : decode cX6_thrown 0 = .ok (.aload_n 0, 1) := by decide +kernel
theorem dX6_thrown_1 : decode cX6_thrown 1 = .ok (.getfield 61, 3) := by decide +kernel
theorem dX6_thrown_4 : decode cX6_thrown 4 = .ok (.ireturn, 1) := by decide +kernel
def Mo_thrown (d : Sl) : Option Int32 :=
  some (d 34 2)
theorem y_X6_thrown : YV yX6_thrown cX6_thrown 1 (some .int) 0 := ⟨q1369, q1370, q1371, q149, by decide +kernel, by decide +kernel, by decide +kernel, by decide +kernel⟩
theorem r_Mo_thrown {C : Cxt} {G : Geo} {M : Mem} {k : Nat} (hC : Cx C cX6_thrown 1 "FrameHeirsModel" (some .int) rm_X6_thrown G) (hk : LMo G k) (d : Sl) : Rz C 1 G (setS M k) (poP avI ((setS M k) d)) 0 [(0, .inr (k, 34))] [] d (Mo_thrown d) := by
  unfold Mo_thrown
  refine z_aload_n (pc := 0) hC 0 rfl 0 rfl dX6_thrown_0 ?_
  refine zs_geti (pc := 1) hC (hk 34 rfl) f_34_2 q1272 dX6_thrown_1 ?_
  exact z_iret (pc := 4) hC rfl dX6_thrown_4
theorem c_X6_thrown {G : Geo} {M : Mem} {k : Nat} (hG : GOk G) (hk : LMo G k) {d : Sl} (l : Launch) (r : Int32) (h : Mo_thrown d = some r) : Mt l yX6_thrown cX6_thrown 1 (some .int) rm_X6_thrown G [.inr (k, 34)] ((setS M k) d) (avI r) ((setS M k) d) :=
  mt_of (mem := (setS M k)) (po := poP avI ((setS M k) d)) (x0 := d) (t := r) rfl hG [.inr (k, 34)] (Nat.le_of_ble_eq_true rfl) rfl (fun C hC => r_Mo_thrown hC hk d) h
-- FrameHeirsModel.feed(IIIII)I
abbrev rm_X6_feed : Room := { frames := 0, cells := 0, slots := 0, locals := 0 }
theorem dX6_feed_0 : decode cX6_feed 0 = .ok (.aload_n 0, 1) := by decide +kernel
theorem dX6_feed_1 : decode cX6_feed 1 = .ok (.iconst 0, 1) := by decide +kernel
theorem dX6_feed_2 : decode cX6_feed 2 = .ok (.putfield 61, 3) := by decide +kernel
theorem dX6_feed_5 : decode cX6_feed 5 = .ok (.aload_n 0, 1) := by decide +kernel
theorem dX6_feed_6 : decode cX6_feed 6 = .ok (.getfield 64, 3) := by decide +kernel
theorem dX6_feed_9 : decode cX6_feed 9 = .ok (.bipush 20, 2) := by decide +kernel
theorem dX6_feed_11 : decode cX6_feed 11 = .ok (.iadd, 1) := by decide +kernel
theorem dX6_feed_12 : decode cX6_feed 12 = .ok (.sipush 700, 3) := by decide +kernel
theorem dX6_feed_15 : decode cX6_feed 15 = .ok (.if_icmp .le 5, 3) := by decide +kernel
theorem dX6_feed_18 : decode cX6_feed 18 = .ok (.iconst (-1), 1) := by decide +kernel
theorem dX6_feed_19 : decode cX6_feed 19 = .ok (.ireturn, 1) := by decide +kernel
theorem dX6_feed_20 : decode cX6_feed 20 = .ok (.iconst 0, 1) := by decide +kernel
theorem dX6_feed_21 : decode cX6_feed 21 = .ok (.istore 6, 2) := by decide +kernel
theorem dX6_feed_23 : decode cX6_feed 23 = .ok (.iload 6, 2) := by decide +kernel
theorem dX6_feed_25 : decode cX6_feed 25 = .ok (.bipush 20, 2) := by decide +kernel
theorem dX6_feed_27 : decode cX6_feed 27 = .ok (.if_icmp .ge 86, 3) := by decide +kernel
theorem dX6_feed_30 : decode cX6_feed 30 = .ok (.iload 6, 2) := by decide +kernel
theorem dX6_feed_32 : decode cX6_feed 32 = .ok (.iconst 4, 1) := by decide +kernel
theorem dX6_feed_33 : decode cX6_feed 33 = .ok (.if_icmp .ge 7, 3) := by decide +kernel
theorem dX6_feed_36 : decode cX6_feed 36 = .ok (.iload_n 1, 1) := by decide +kernel
theorem dX6_feed_37 : decode cX6_feed 37 = .ok (.goto 39, 3) := by decide +kernel
theorem dX6_feed_40 : decode cX6_feed 40 = .ok (.iload 6, 2) := by decide +kernel
theorem dX6_feed_42 : decode cX6_feed 42 = .ok (.bipush 8, 2) := by decide +kernel
theorem dX6_feed_44 : decode cX6_feed 44 = .ok (.if_icmp .ge 7, 3) := by decide +kernel
theorem dX6_feed_47 : decode cX6_feed 47 = .ok (.iload_n 2, 1) := by decide +kernel
theorem dX6_feed_48 : decode cX6_feed 48 = .ok (.goto 28, 3) := by decide +kernel
theorem dX6_feed_51 : decode cX6_feed 51 = .ok (.iload 6, 2) := by decide +kernel
theorem dX6_feed_53 : decode cX6_feed 53 = .ok (.bipush 12, 2) := by decide +kernel
theorem dX6_feed_55 : decode cX6_feed 55 = .ok (.if_icmp .ge 7, 3) := by decide +kernel
theorem dX6_feed_58 : decode cX6_feed 58 = .ok (.iload_n 3, 1) := by decide +kernel
theorem dX6_feed_59 : decode cX6_feed 59 = .ok (.goto 17, 3) := by decide +kernel
theorem dX6_feed_62 : decode cX6_feed 62 = .ok (.iload 6, 2) := by decide +kernel
theorem dX6_feed_64 : decode cX6_feed 64 = .ok (.bipush 16, 2) := by decide +kernel
theorem dX6_feed_66 : decode cX6_feed 66 = .ok (.if_icmp .ge 8, 3) := by decide +kernel
theorem dX6_feed_69 : decode cX6_feed 69 = .ok (.iload 4, 2) := by decide +kernel
theorem dX6_feed_71 : decode cX6_feed 71 = .ok (.goto 5, 3) := by decide +kernel
theorem dX6_feed_74 : decode cX6_feed 74 = .ok (.iload 5, 2) := by decide +kernel
theorem dX6_feed_76 : decode cX6_feed 76 = .ok (.istore 7, 2) := by decide +kernel
theorem dX6_feed_78 : decode cX6_feed 78 = .ok (.aload_n 0, 1) := by decide +kernel
theorem dX6_feed_79 : decode cX6_feed 79 = .ok (.getfield 7, 3) := by decide +kernel
theorem dX6_feed_82 : decode cX6_feed 82 = .ok (.aload_n 0, 1) := by decide +kernel
theorem dX6_feed_83 : decode cX6_feed 83 = .ok (.getfield 64, 3) := by decide +kernel
theorem dX6_feed_86 : decode cX6_feed 86 = .ok (.iload 6, 2) := by decide +kernel
theorem dX6_feed_88 : decode cX6_feed 88 = .ok (.iadd, 1) := by decide +kernel
theorem dX6_feed_89 : decode cX6_feed 89 = .ok (.iload 7, 2) := by decide +kernel
theorem dX6_feed_91 : decode cX6_feed 91 = .ok (.bipush 24, 2) := by decide +kernel
theorem dX6_feed_93 : decode cX6_feed 93 = .ok (.bipush 8, 2) := by decide +kernel
theorem dX6_feed_95 : decode cX6_feed 95 = .ok (.iload 6, 2) := by decide +kernel
theorem dX6_feed_97 : decode cX6_feed 97 = .ok (.iconst 4, 1) := by decide +kernel
theorem dX6_feed_98 : decode cX6_feed 98 = .ok (.irem, 1) := by decide +kernel
theorem dX6_feed_99 : decode cX6_feed 99 = .ok (.imul, 1) := by decide +kernel
theorem dX6_feed_100 : decode cX6_feed 100 = .ok (.isub, 1) := by decide +kernel
theorem dX6_feed_101 : decode cX6_feed 101 = .ok (.ishr, 1) := by decide +kernel
theorem dX6_feed_102 : decode cX6_feed 102 = .ok (.sipush 255, 3) := by decide +kernel
theorem dX6_feed_105 : decode cX6_feed 105 = .ok (.iand, 1) := by decide +kernel
theorem dX6_feed_106 : decode cX6_feed 106 = .ok (.iastore, 1) := by decide +kernel
theorem dX6_feed_107 : decode cX6_feed 107 = .ok (.iinc 6 1, 3) := by decide +kernel
theorem dX6_feed_110 : decode cX6_feed 110 = .ok (.goto (-87), 3) := by decide +kernel
theorem dX6_feed_113 : decode cX6_feed 113 = .ok (.aload_n 0, 1) := by decide +kernel
theorem dX6_feed_114 : decode cX6_feed 114 = .ok (.dup, 1) := by decide +kernel
theorem dX6_feed_115 : decode cX6_feed 115 = .ok (.getfield 64, 3) := by decide +kernel
theorem dX6_feed_118 : decode cX6_feed 118 = .ok (.bipush 20, 2) := by decide +kernel
theorem dX6_feed_120 : decode cX6_feed 120 = .ok (.iadd, 1) := by decide +kernel
theorem dX6_feed_121 : decode cX6_feed 121 = .ok (.putfield 64, 3) := by decide +kernel
theorem dX6_feed_124 : decode cX6_feed 124 = .ok (.aload_n 0, 1) := by decide +kernel
theorem dX6_feed_125 : decode cX6_feed 125 = .ok (.getfield 64, 3) := by decide +kernel
theorem dX6_feed_128 : decode cX6_feed 128 = .ok (.ireturn, 1) := by decide +kernel
def Mo_feed_76 (k23 : Int32 → Int32 → Int32 → Int32 → Int32 → Int32 → Sl → Option (Int32 × Sl)) (v1 : Int32) (v2 : Int32) (v3 : Int32) (v4 : Int32) (v5 : Int32) (v6 : Int32) (s0 : Int32) (d : Sl) : Option (Int32 × Sl) :=
  bnd s0 fun v7_1 =>
  if ¬ (4 : Int32) = 0 then
  if inb ((d 34 1) + v6) 700 then
  bnd (wr d 35 (ix ((d 34 1) + v6)) ((v7_1 >>> (((24 : Int32) - ((8 : Int32) * (v6 - v6 / (4 : Int32) * (4 : Int32)))) &&& 31)) &&& (255 : Int32))) fun d2 =>
  bnd (v6 + (1 : Int32)) fun v6_3 =>
  k23 v1 v2 v3 v4 v5 v6_3 d2
  else none
  else none
def Mo_feed_23 : Nat → Int32 → Int32 → Int32 → Int32 → Int32 → Int32 → Sl → Option (Int32 × Sl)
  | 0, _, _, _, _, _, _, _ => none
  | n + 1, v1, v2, v3, v4, v5, v6, d =>
    if (20 : Int32) ≤ v6 then
      (bnd (wr d 34 1 ((d 34 1) + (20 : Int32))) fun d4 =>
      some ((d4 34 1), d4))
    else
      (if (4 : Int32) ≤ v6 then
        (if (8 : Int32) ≤ v6 then
          (if (12 : Int32) ≤ v6 then
            (if (16 : Int32) ≤ v6 then
              (Mo_feed_76 (Mo_feed_23 n) v1 v2 v3 v4 v5 v6 v5 d)
            else
              (Mo_feed_76 (Mo_feed_23 n) v1 v2 v3 v4 v5 v6 v4 d))
          else
            (Mo_feed_76 (Mo_feed_23 n) v1 v2 v3 v4 v5 v6 v3 d))
        else
          (Mo_feed_76 (Mo_feed_23 n) v1 v2 v3 v4 v5 v6 v2 d))
      else
        (Mo_feed_76 (Mo_feed_23 n) v1 v2 v3 v4 v5 v6 v1 d))
def Mo_feed (d : Sl) (a1 : Int32) (a2 : Int32) (a3 : Int32) (a4 : Int32) (a5 : Int32) : Option (Int32 × Sl) :=
  bnd (wr d 34 2 (0 : Int32)) fun d5 =>
  if ((d5 34 1) + (20 : Int32)) ≤ (700 : Int32) then
    (bnd (0 : Int32) fun v6_6 =>
    Mo_feed_23 FU a1 a2 a3 a4 a5 v6_6 d5)
  else
    (some ((-1 : Int32), d5))
theorem y_X6_feed : YV yX6_feed cX6_feed 8 (some .int) 5 := ⟨q1373, q1374, q1375, q149, by decide +kernel, by decide +kernel, by decide +kernel, by decide +kernel⟩
theorem r_Mo_feed_76 {C : Cxt} {G : Geo} {M : Mem} {k : Nat} (hC : Cx C cX6_feed 8 "FrameHeirsModel" (some .int) rm_X6_feed G) (hk : LMo G k) (k23 : Int32 → Int32 → Int32 → Int32 → Int32 → Int32 → Sl → Option (Int32 × Sl)) (h23 : ∀ (v1 : Int32) (v2 : Int32) (v3 : Int32) (v4 : Int32) (v5 : Int32) (v6 : Int32) (d : Sl), Rz C 8 G (setS M k) (poM avI (setS M k)) 23 [(0, .inr (k, 34)), (1, .inl (.int v1)), (2, .inl (.int v2)), (3, .inl (.int v3)), (4, .inl (.int v4)), (5, .inl (.int v5)), (6, .inl (.int v6))] [] d (k23 v1 v2 v3 v4 v5 v6 d)) (v1 : Int32) (v2 : Int32) (v3 : Int32) (v4 : Int32) (v5 : Int32) (v6 : Int32) (s0 : Int32) (d : Sl) : Rz C 8 G (setS M k) (poM avI (setS M k)) 76 [(0, .inr (k, 34)), (1, .inl (.int v1)), (2, .inl (.int v2)), (3, .inl (.int v3)), (4, .inl (.int v4)), (5, .inl (.int v5)), (6, .inl (.int v6))] [.inl (.int s0)] d (Mo_feed_76 k23 v1 v2 v3 v4 v5 v6 s0 d) := by
  unfold Mo_feed_76
  refine z_istore (pc := 76) (ls1 := fun v => [(7, .inl (.int v)), (0, .inr (k, 34)), (1, .inl (.int v1)), (2, .inl (.int v2)), (3, .inl (.int v3)), (4, .inl (.int v4)), (5, .inl (.int v5)), (6, .inl (.int v6))]) hC 7 (by decide) (fun v => rfl) dX6_feed_76 (fun v7_1 => ?_)
  refine z_aload_n (pc := 78) hC 0 rfl 1 rfl dX6_feed_78 ?_
  refine z_getc (pc := 79) hC (hk 34 rfl) f_34_0 q1270 dX6_feed_79 ?_
  refine z_aload_n (pc := 82) hC 0 rfl 1 rfl dX6_feed_82 ?_
  refine zs_geti (pc := 83) hC (hk 34 rfl) f_34_1 q1271 dX6_feed_83 ?_
  refine z_iload (pc := 86) hC 6 7 rfl dX6_feed_86 ?_
  refine z_iadd (pc := 88) hC dX6_feed_88 ?_
  refine z_iload (pc := 89) hC 7 0 rfl dX6_feed_89 ?_
  refine z_bipush (pc := 91) hC (24 : Int32) rfl dX6_feed_91 ?_
  refine z_bipush (pc := 93) hC (8 : Int32) rfl dX6_feed_93 ?_
  refine z_iload (pc := 95) hC 6 7 rfl dX6_feed_95 ?_
  refine z_iconst (pc := 97) hC (4 : Int32) rfl dX6_feed_97 ?_
  refine z_irem (pc := 98) hC dX6_feed_98 ?_
  refine z_imul (pc := 99) hC dX6_feed_99 ?_
  refine z_isub (pc := 100) hC dX6_feed_100 ?_
  refine z_ishr (pc := 101) hC dX6_feed_101 ?_
  refine z_sipush (pc := 102) hC (255 : Int32) rfl dX6_feed_102 ?_
  refine z_iand (pc := 105) hC dX6_feed_105 ?_
  refine zs_iast (pc := 106) hC (hk 35 rfl) (by decide) rfl dX6_feed_106 (fun d2 => ?_)
  refine z_iinc (pc := 107) (ls1 := fun v => [(6, .inl (.int v)), (7, .inl (.int v7_1)), (0, .inr (k, 34)), (1, .inl (.int v1)), (2, .inl (.int v2)), (3, .inl (.int v3)), (4, .inl (.int v4)), (5, .inl (.int v5))]) hC 6 7 (by decide) (1 : Int32) rfl rfl (fun v => rfl) dX6_feed_107 (fun v6_3 => ?_)
  refine z_goto (pc := 110) hC 23 rfl dX6_feed_110 ?_
  exact z_sub [2, 3, 4, 5, 6, 7, 0] rfl (h23 v1 v2 v3 v4 v5 v6_3 d2)
theorem r_Mo_feed_23 {C : Cxt} {G : Geo} {M : Mem} {k : Nat} (hC : Cx C cX6_feed 8 "FrameHeirsModel" (some .int) rm_X6_feed G) (hk : LMo G k) : ∀ (n : Nat) (v1 : Int32) (v2 : Int32) (v3 : Int32) (v4 : Int32) (v5 : Int32) (v6 : Int32) (d : Sl), Rz C 8 G (setS M k) (poM avI (setS M k)) 23 [(0, .inr (k, 34)), (1, .inl (.int v1)), (2, .inl (.int v2)), (3, .inl (.int v3)), (4, .inl (.int v4)), (5, .inl (.int v5)), (6, .inl (.int v6))] [] d (Mo_feed_23 n v1 v2 v3 v4 v5 v6 d) := by
  intro n
  induction n with
  | zero => intros; exact z_none
  | succ n ih =>
    intro v1 v2 v3 v4 v5 v6 d
    rw [Mo_feed_23]
    refine z_iload (pc := 23) hC 6 6 rfl dX6_feed_23 ?_
    refine z_bipush (pc := 25) hC (20 : Int32) rfl dX6_feed_25 ?_
    refine z_icmp_ge (pc := 27) hC 113 rfl dX6_feed_27 ?_ ?_
    · refine z_aload_n (pc := 113) hC 0 rfl 0 rfl dX6_feed_113 ?_
      refine z_dup (pc := 114) hC rfl dX6_feed_114 ?_
      refine zs_geti (pc := 115) hC (hk 34 rfl) f_34_1 q1271 dX6_feed_115 ?_
      refine z_bipush (pc := 118) hC (20 : Int32) rfl dX6_feed_118 ?_
      refine z_iadd (pc := 120) hC dX6_feed_120 ?_
      refine zs_puti (pc := 121) hC (hk 34 rfl) f_34_1 q1271 dX6_feed_121 (fun d4 => ?_)
      refine z_aload_n (pc := 124) hC 0 rfl 0 rfl dX6_feed_124 ?_
      refine zs_geti (pc := 125) hC (hk 34 rfl) f_34_1 q1271 dX6_feed_125 ?_
      exact z_iret (pc := 128) hC rfl dX6_feed_128
    · refine z_iload (pc := 30) hC 6 6 rfl dX6_feed_30 ?_
      refine z_iconst (pc := 32) hC (4 : Int32) rfl dX6_feed_32 ?_
      refine z_icmp_ge (pc := 33) hC 40 rfl dX6_feed_33 ?_ ?_
      · refine z_iload (pc := 40) hC 6 6 rfl dX6_feed_40 ?_
        refine z_bipush (pc := 42) hC (8 : Int32) rfl dX6_feed_42 ?_
        refine z_icmp_ge (pc := 44) hC 51 rfl dX6_feed_44 ?_ ?_
        · refine z_iload (pc := 51) hC 6 6 rfl dX6_feed_51 ?_
          refine z_bipush (pc := 53) hC (12 : Int32) rfl dX6_feed_53 ?_
          refine z_icmp_ge (pc := 55) hC 62 rfl dX6_feed_55 ?_ ?_
          · refine z_iload (pc := 62) hC 6 6 rfl dX6_feed_62 ?_
            refine z_bipush (pc := 64) hC (16 : Int32) rfl dX6_feed_64 ?_
            refine z_icmp_ge (pc := 66) hC 74 rfl dX6_feed_66 ?_ ?_
            · refine z_iload (pc := 74) hC 5 5 rfl dX6_feed_74 ?_
              exact z_sub [0, 1, 2, 3, 4, 5, 6] rfl (r_Mo_feed_76 hC hk _ ih v1 v2 v3 v4 v5 v6 v5 d)
            · refine z_iload (pc := 69) hC 4 4 rfl dX6_feed_69 ?_
              refine z_goto (pc := 71) hC 76 rfl dX6_feed_71 ?_
              exact z_sub [0, 1, 2, 3, 4, 5, 6] rfl (r_Mo_feed_76 hC hk _ ih v1 v2 v3 v4 v5 v6 v4 d)
          · refine z_iload_n (pc := 58) hC 3 rfl 3 rfl dX6_feed_58 ?_
            refine z_goto (pc := 59) hC 76 rfl dX6_feed_59 ?_
            exact z_sub [0, 1, 2, 3, 4, 5, 6] rfl (r_Mo_feed_76 hC hk _ ih v1 v2 v3 v4 v5 v6 v3 d)
        · refine z_iload_n (pc := 47) hC 2 rfl 2 rfl dX6_feed_47 ?_
          refine z_goto (pc := 48) hC 76 rfl dX6_feed_48 ?_
          exact z_sub [0, 1, 2, 3, 4, 5, 6] rfl (r_Mo_feed_76 hC hk _ ih v1 v2 v3 v4 v5 v6 v2 d)
      · refine z_iload_n (pc := 36) hC 1 rfl 1 rfl dX6_feed_36 ?_
        refine z_goto (pc := 37) hC 76 rfl dX6_feed_37 ?_
        exact z_sub [0, 1, 2, 3, 4, 5, 6] rfl (r_Mo_feed_76 hC hk _ ih v1 v2 v3 v4 v5 v6 v1 d)
theorem r_Mo_feed {C : Cxt} {G : Geo} {M : Mem} {k : Nat} (hC : Cx C cX6_feed 8 "FrameHeirsModel" (some .int) rm_X6_feed G) (hk : LMo G k) (d : Sl) (a1 : Int32) (a2 : Int32) (a3 : Int32) (a4 : Int32) (a5 : Int32) : Rz C 8 G (setS M k) (poM avI (setS M k)) 0 [(0, .inr (k, 34)), (1, .inl (.int a1)), (2, .inl (.int a2)), (3, .inl (.int a3)), (4, .inl (.int a4)), (5, .inl (.int a5))] [] d (Mo_feed d a1 a2 a3 a4 a5) := by
  unfold Mo_feed
  refine z_aload_n (pc := 0) hC 0 rfl 0 rfl dX6_feed_0 ?_
  refine z_iconst (pc := 1) hC (0 : Int32) rfl dX6_feed_1 ?_
  refine zs_puti (pc := 2) hC (hk 34 rfl) f_34_2 q1272 dX6_feed_2 (fun d5 => ?_)
  refine z_aload_n (pc := 5) hC 0 rfl 0 rfl dX6_feed_5 ?_
  refine zs_geti (pc := 6) hC (hk 34 rfl) f_34_1 q1271 dX6_feed_6 ?_
  refine z_bipush (pc := 9) hC (20 : Int32) rfl dX6_feed_9 ?_
  refine z_iadd (pc := 11) hC dX6_feed_11 ?_
  refine z_sipush (pc := 12) hC (700 : Int32) rfl dX6_feed_12 ?_
  refine z_icmp_le (pc := 15) hC 20 rfl dX6_feed_15 ?_ ?_
  · refine z_iconst (pc := 20) hC (0 : Int32) rfl dX6_feed_20 ?_
    refine z_istore (pc := 21) (ls1 := fun v => [(6, .inl (.int v)), (0, .inr (k, 34)), (1, .inl (.int a1)), (2, .inl (.int a2)), (3, .inl (.int a3)), (4, .inl (.int a4)), (5, .inl (.int a5))]) hC 6 (by decide) (fun v => rfl) dX6_feed_21 (fun v6_6 => ?_)
    exact z_sub [1, 2, 3, 4, 5, 6, 0] rfl (r_Mo_feed_23 hC hk FU a1 a2 a3 a4 a5 v6_6 d5)
  · refine z_iconst (pc := 18) hC (-1 : Int32) rfl dX6_feed_18 ?_
    exact z_iret (pc := 19) hC rfl dX6_feed_19
theorem c_X6_feed {G : Geo} {M : Mem} {k : Nat} (hG : GOk G) (hk : LMo G k) {d : Sl} {a1 : Int32} {a2 : Int32} {a3 : Int32} {a4 : Int32} {a5 : Int32} (l : Launch) (r : Int32) (d1 : Sl) (h : Mo_feed d a1 a2 a3 a4 a5 = some (r, d1)) : Mt l yX6_feed cX6_feed 8 (some .int) rm_X6_feed G [.inr (k, 34), .inl (.int a1), .inl (.int a2), .inl (.int a3), .inl (.int a4), .inl (.int a5)] ((setS M k) d) (avI r) ((setS M k) d1) :=
  mt_of (mem := (setS M k)) (po := poM avI (setS M k)) (x0 := d) (t := (r, d1)) rfl hG [.inr (k, 34), .inl (.int a1), .inl (.int a2), .inl (.int a3), .inl (.int a4), .inl (.int a5)] (Nat.le_of_ble_eq_true rfl) rfl (fun C hC => r_Mo_feed hC hk d a1 a2 a3 a4 a5) h
-- FrameHeirsModel.wrong(I)Z
abbrev rm_X6_wrong : Room := { frames := 0, cells := 0, slots := 0, locals := 0 }
theorem dX6_wrong_0 : decode cX6_wrong 0 = .ok (.aload_n 0, 1) := by decide +kernel
theorem dX6_wrong_1 : decode cX6_wrong 1 = .ok (.iload_n 1, 1) := by decide +kernel
theorem dX6_wrong_2 : decode cX6_wrong 2 = .ok (.putfield 67, 3) := by decide +kernel
theorem dX6_wrong_5 : decode cX6_wrong 5 = .ok (.aload_n 0, 1) := by decide +kernel
theorem dX6_wrong_6 : decode cX6_wrong 6 = .ok (.aload_n 0, 1) := by decide +kernel
theorem dX6_wrong_7 : decode cX6_wrong 7 = .ok (.getfield 70, 3) := by decide +kernel
theorem dX6_wrong_10 : decode cX6_wrong 10 = .ok (.putfield 16, 3) := by decide +kernel
theorem dX6_wrong_13 : decode cX6_wrong 13 = .ok (.iconst 0, 1) := by decide +kernel
theorem dX6_wrong_14 : decode cX6_wrong 14 = .ok (.ireturn, 1) := by decide +kernel
def Mo_wrong (d : Sl) (a1 : Int32) : Option (Int32 × Sl) :=
  bnd (wr d 34 4 a1) fun d1 =>
  bnd (wr d1 34 5 (d1 34 10)) fun d2 =>
  some ((0 : Int32), d2)
theorem y_X6_wrong : YV yX6_wrong cX6_wrong 2 (some .boolean) 1 := ⟨q1407, q55, q1408, q149, by decide +kernel, by decide +kernel, by decide +kernel, by decide +kernel⟩
theorem r_Mo_wrong {C : Cxt} {G : Geo} {M : Mem} {k : Nat} (hC : Cx C cX6_wrong 2 "FrameHeirsModel" (some .boolean) rm_X6_wrong G) (hk : LMo G k) (d : Sl) (a1 : Int32) : Rz C 2 G (setS M k) (poM avI (setS M k)) 0 [(0, .inr (k, 34)), (1, .inl (.int a1))] [] d (Mo_wrong d a1) := by
  unfold Mo_wrong
  refine z_aload_n (pc := 0) hC 0 rfl 0 rfl dX6_wrong_0 ?_
  refine z_iload_n (pc := 1) hC 1 rfl 1 rfl dX6_wrong_1 ?_
  refine zs_puti (pc := 2) hC (hk 34 rfl) f_34_4 q1274 dX6_wrong_2 (fun d1 => ?_)
  refine z_aload_n (pc := 5) hC 0 rfl 0 rfl dX6_wrong_5 ?_
  refine z_aload_n (pc := 6) hC 0 rfl 0 rfl dX6_wrong_6 ?_
  refine zs_geti (pc := 7) hC (hk 34 rfl) f_34_10 q1280 dX6_wrong_7 ?_
  refine zs_puti (pc := 10) hC (hk 34 rfl) f_34_5 q1275 dX6_wrong_10 (fun d2 => ?_)
  refine z_iconst (pc := 13) hC (0 : Int32) rfl dX6_wrong_13 ?_
  exact z_zret (pc := 14) hC rfl rfl dX6_wrong_14
theorem c_X6_wrong {G : Geo} {M : Mem} {k : Nat} (hG : GOk G) (hk : LMo G k) {d : Sl} {a1 : Int32} (l : Launch) (r : Int32) (d1 : Sl) (h : Mo_wrong d a1 = some (r, d1)) : Mt l yX6_wrong cX6_wrong 2 (some .boolean) rm_X6_wrong G [.inr (k, 34), .inl (.int a1)] ((setS M k) d) (avI r) ((setS M k) d1) :=
  mt_of (mem := (setS M k)) (po := poM avI (setS M k)) (x0 := d) (t := (r, d1)) rfl hG [.inr (k, 34), .inl (.int a1)] (Nat.le_of_ble_eq_true rfl) rfl (fun C hC => r_Mo_wrong hC hk d a1) h
-- FrameHeirsModel.wordAt(II)I
abbrev rm_X6_wordAt : Room := { frames := 0, cells := 0, slots := 0, locals := 0 }
theorem dX6_wordAt_0 : decode cX6_wordAt 0 = .ok (.iconst 0, 1) := by decide +kernel
theorem dX6_wordAt_1 : decode cX6_wordAt 1 = .ok (.istore_n 3, 1) := by decide +kernel
theorem dX6_wordAt_2 : decode cX6_wordAt 2 = .ok (.iconst 0, 1) := by decide +kernel
theorem dX6_wordAt_3 : decode cX6_wordAt 3 = .ok (.istore 4, 2) := by decide +kernel
theorem dX6_wordAt_5 : decode cX6_wordAt 5 = .ok (.iload 4, 2) := by decide +kernel
theorem dX6_wordAt_7 : decode cX6_wordAt 7 = .ok (.aload_n 0, 1) := by decide +kernel
theorem dX6_wordAt_8 : decode cX6_wordAt 8 = .ok (.getfield 13, 3) := by decide +kernel
theorem dX6_wordAt_11 : decode cX6_wordAt 11 = .ok (.arraylength, 1) := by decide +kernel
theorem dX6_wordAt_12 : decode cX6_wordAt 12 = .ok (.if_icmp .ge 114, 3) := by decide +kernel
theorem dX6_wordAt_15 : decode cX6_wordAt 15 = .ok (.iconst 0, 1) := by decide +kernel
theorem dX6_wordAt_16 : decode cX6_wordAt 16 = .ok (.istore 5, 2) := by decide +kernel
theorem dX6_wordAt_18 : decode cX6_wordAt 18 = .ok (.aload_n 0, 1) := by decide +kernel
theorem dX6_wordAt_19 : decode cX6_wordAt 19 = .ok (.getfield 13, 3) := by decide +kernel
theorem dX6_wordAt_22 : decode cX6_wordAt 22 = .ok (.iload 4, 2) := by decide +kernel
theorem dX6_wordAt_24 : decode cX6_wordAt 24 = .ok (.iload 5, 2) := by decide +kernel
theorem dX6_wordAt_26 : decode cX6_wordAt 26 = .ok (.iadd, 1) := by decide +kernel
theorem dX6_wordAt_27 : decode cX6_wordAt 27 = .ok (.iaload, 1) := by decide +kernel
theorem dX6_wordAt_28 : decode cX6_wordAt 28 = .ok (.bipush 32, 2) := by decide +kernel
theorem dX6_wordAt_30 : decode cX6_wordAt 30 = .ok (.if_icmp .eq 9, 3) := by decide +kernel
theorem dX6_wordAt_33 : decode cX6_wordAt 33 = .ok (.iinc 5 1, 3) := by decide +kernel
theorem dX6_wordAt_36 : decode cX6_wordAt 36 = .ok (.goto (-18), 3) := by decide +kernel
theorem dX6_wordAt_39 : decode cX6_wordAt 39 = .ok (.iload 5, 2) := by decide +kernel
theorem dX6_wordAt_41 : decode cX6_wordAt 41 = .ok (.iload_n 2, 1) := by decide +kernel
theorem dX6_wordAt_42 : decode cX6_wordAt 42 = .ok (.iload_n 1, 1) := by decide +kernel
theorem dX6_wordAt_43 : decode cX6_wordAt 43 = .ok (.isub, 1) := by decide +kernel
theorem dX6_wordAt_44 : decode cX6_wordAt 44 = .ok (.if_icmp .ne 7, 3) := by decide +kernel
theorem dX6_wordAt_47 : decode cX6_wordAt 47 = .ok (.iconst 1, 1) := by decide +kernel
theorem dX6_wordAt_48 : decode cX6_wordAt 48 = .ok (.goto 4, 3) := by decide +kernel
theorem dX6_wordAt_51 : decode cX6_wordAt 51 = .ok (.iconst 0, 1) := by decide +kernel
theorem dX6_wordAt_52 : decode cX6_wordAt 52 = .ok (.istore 6, 2) := by decide +kernel
theorem dX6_wordAt_54 : decode cX6_wordAt 54 = .ok (.iconst 0, 1) := by decide +kernel
theorem dX6_wordAt_55 : decode cX6_wordAt 55 = .ok (.istore 7, 2) := by decide +kernel
theorem dX6_wordAt_57 : decode cX6_wordAt 57 = .ok (.iload 7, 2) := by decide +kernel
theorem dX6_wordAt_59 : decode cX6_wordAt 59 = .ok (.iload 5, 2) := by decide +kernel
theorem dX6_wordAt_61 : decode cX6_wordAt 61 = .ok (.if_icmp .ge 43, 3) := by decide +kernel
theorem dX6_wordAt_64 : decode cX6_wordAt 64 = .ok (.iload 6, 2) := by decide +kernel
theorem dX6_wordAt_66 : decode cX6_wordAt 66 = .ok (.ifCond .eq 38, 3) := by decide +kernel
theorem dX6_wordAt_69 : decode cX6_wordAt 69 = .ok (.aload_n 0, 1) := by decide +kernel
theorem dX6_wordAt_70 : decode cX6_wordAt 70 = .ok (.getfield 13, 3) := by decide +kernel
theorem dX6_wordAt_73 : decode cX6_wordAt 73 = .ok (.iload 4, 2) := by decide +kernel
theorem dX6_wordAt_75 : decode cX6_wordAt 75 = .ok (.iload 7, 2) := by decide +kernel
theorem dX6_wordAt_77 : decode cX6_wordAt 77 = .ok (.iadd, 1) := by decide +kernel
theorem dX6_wordAt_78 : decode cX6_wordAt 78 = .ok (.iaload, 1) := by decide +kernel
theorem dX6_wordAt_79 : decode cX6_wordAt 79 = .ok (.aload_n 0, 1) := by decide +kernel
theorem dX6_wordAt_80 : decode cX6_wordAt 80 = .ok (.getfield 7, 3) := by decide +kernel
theorem dX6_wordAt_83 : decode cX6_wordAt 83 = .ok (.iload_n 1, 1) := by decide +kernel
theorem dX6_wordAt_84 : decode cX6_wordAt 84 = .ok (.iload 7, 2) := by decide +kernel
theorem dX6_wordAt_86 : decode cX6_wordAt 86 = .ok (.iadd, 1) := by decide +kernel
theorem dX6_wordAt_87 : decode cX6_wordAt 87 = .ok (.iaload, 1) := by decide +kernel
theorem dX6_wordAt_88 : decode cX6_wordAt 88 = .ok (.if_icmp .ne 7, 3) := by decide +kernel
theorem dX6_wordAt_91 : decode cX6_wordAt 91 = .ok (.iconst 1, 1) := by decide +kernel
theorem dX6_wordAt_92 : decode cX6_wordAt 92 = .ok (.goto 4, 3) := by decide +kernel
theorem dX6_wordAt_95 : decode cX6_wordAt 95 = .ok (.iconst 0, 1) := by decide +kernel
theorem dX6_wordAt_96 : decode cX6_wordAt 96 = .ok (.istore 6, 2) := by decide +kernel
theorem dX6_wordAt_98 : decode cX6_wordAt 98 = .ok (.iinc 7 1, 3) := by decide +kernel
theorem dX6_wordAt_101 : decode cX6_wordAt 101 = .ok (.goto (-44), 3) := by decide +kernel
theorem dX6_wordAt_104 : decode cX6_wordAt 104 = .ok (.iload 6, 2) := by decide +kernel
theorem dX6_wordAt_106 : decode cX6_wordAt 106 = .ok (.ifCond .eq 5, 3) := by decide +kernel
theorem dX6_wordAt_109 : decode cX6_wordAt 109 = .ok (.iload_n 3, 1) := by decide +kernel
theorem dX6_wordAt_110 : decode cX6_wordAt 110 = .ok (.ireturn, 1) := by decide +kernel
theorem dX6_wordAt_111 : decode cX6_wordAt 111 = .ok (.iload 4, 2) := by decide +kernel
theorem dX6_wordAt_113 : decode cX6_wordAt 113 = .ok (.iload 5, 2) := by decide +kernel
theorem dX6_wordAt_115 : decode cX6_wordAt 115 = .ok (.iconst 1, 1) := by decide +kernel
theorem dX6_wordAt_116 : decode cX6_wordAt 116 = .ok (.iadd, 1) := by decide +kernel
theorem dX6_wordAt_117 : decode cX6_wordAt 117 = .ok (.iadd, 1) := by decide +kernel
theorem dX6_wordAt_118 : decode cX6_wordAt 118 = .ok (.istore 4, 2) := by decide +kernel
theorem dX6_wordAt_120 : decode cX6_wordAt 120 = .ok (.iinc 3 1, 3) := by decide +kernel
theorem dX6_wordAt_123 : decode cX6_wordAt 123 = .ok (.goto (-118), 3) := by decide +kernel
theorem dX6_wordAt_126 : decode cX6_wordAt 126 = .ok (.iconst (-1), 1) := by decide +kernel
theorem dX6_wordAt_127 : decode cX6_wordAt 127 = .ok (.ireturn, 1) := by decide +kernel
def Mo_wordAt_104 (k5 : Int32 → Int32 → Int32 → Int32 → Option Int32) (d : Sl) (v1 : Int32) (v2 : Int32) (v3 : Int32) (v4 : Int32) (v5 : Int32) (v6 : Int32) : Option Int32 :=
  if v6 = 0 then
    (bnd (v4 + (v5 + (1 : Int32))) fun v4_1 =>
    bnd (v3 + (1 : Int32)) fun v3_2 =>
    k5 v1 v2 v3_2 v4_1)
  else
    (some v3)
def Mo_wordAt_96 (k5 : Int32 → Int32 → Int32 → Int32 → Option Int32) (k57 : Int32 → Int32 → Int32 → Int32 → Int32 → Int32 → Int32 → Option Int32) (d : Sl) (v1 : Int32) (v2 : Int32) (v3 : Int32) (v4 : Int32) (v5 : Int32) (v7 : Int32) (s0 : Int32) : Option Int32 :=
  bnd s0 fun v6_3 =>
  bnd (v7 + (1 : Int32)) fun v7_4 =>
  k57 v1 v2 v3 v4 v5 v6_3 v7_4
def Mo_wordAt_57 (k5 : Int32 → Int32 → Int32 → Int32 → Option Int32) (d : Sl) : Nat → Int32 → Int32 → Int32 → Int32 → Int32 → Int32 → Int32 → Option Int32
  | 0, _, _, _, _, _, _, _ => none
  | n + 1, v1, v2, v3, v4, v5, v6, v7 =>
    if v5 ≤ v7 then
      (Mo_wordAt_104 k5 d v1 v2 v3 v4 v5 v6)
    else
      (if v6 = 0 then
        (Mo_wordAt_104 k5 d v1 v2 v3 v4 v5 v6)
      else
        (if inb (v4 + v7) 69 then
        if inb (v1 + v7) 700 then
        if (d 36 (ix (v4 + v7))) = (d 35 (ix (v1 + v7))) then
          (Mo_wordAt_96 k5 (Mo_wordAt_57 k5 d n) d v1 v2 v3 v4 v5 v7 (1 : Int32))
        else
          (Mo_wordAt_96 k5 (Mo_wordAt_57 k5 d n) d v1 v2 v3 v4 v5 v7 (0 : Int32))
        else none
        else none))
def Mo_wordAt_52 (k5 : Int32 → Int32 → Int32 → Int32 → Option Int32) (d : Sl) (v1 : Int32) (v2 : Int32) (v3 : Int32) (v4 : Int32) (v5 : Int32) (s0 : Int32) : Option Int32 :=
  bnd s0 fun v6_5 =>
  bnd (0 : Int32) fun v7_6 =>
  Mo_wordAt_57 k5 d FU v1 v2 v3 v4 v5 v6_5 v7_6
def Mo_wordAt_18 (k5 : Int32 → Int32 → Int32 → Int32 → Option Int32) (d : Sl) : Nat → Int32 → Int32 → Int32 → Int32 → Int32 → Option Int32
  | 0, _, _, _, _, _ => none
  | n + 1, v1, v2, v3, v4, v5 =>
    if inb (v4 + v5) 69 then
    if (d 36 (ix (v4 + v5))) = (32 : Int32) then
      (if v5 = (v2 - v1) then
        (Mo_wordAt_52 k5 d v1 v2 v3 v4 v5 (1 : Int32))
      else
        (Mo_wordAt_52 k5 d v1 v2 v3 v4 v5 (0 : Int32)))
    else
      (bnd (v5 + (1 : Int32)) fun v5_7 =>
      Mo_wordAt_18 k5 d n v1 v2 v3 v4 v5_7)
    else none
def Mo_wordAt_5 (d : Sl) : Nat → Int32 → Int32 → Int32 → Int32 → Option Int32
  | 0, _, _, _, _ => none
  | n + 1, v1, v2, v3, v4 =>
    if (69 : Int32) ≤ v4 then
      (some (-1 : Int32))
    else
      (bnd (0 : Int32) fun v5_8 =>
      Mo_wordAt_18 (Mo_wordAt_5 d n) d FU v1 v2 v3 v4 v5_8)
def Mo_wordAt (d : Sl) (a1 : Int32) (a2 : Int32) : Option Int32 :=
  bnd (0 : Int32) fun v3_9 =>
  bnd (0 : Int32) fun v4_10 =>
  Mo_wordAt_5 d FU a1 a2 v3_9 v4_10
theorem y_X6_wordAt : YV yX6_wordAt cX6_wordAt 8 (some .int) 2 := ⟨q1390, q51, q1391, q149, by decide +kernel, by decide +kernel, by decide +kernel, by decide +kernel⟩
theorem r_Mo_wordAt_104 {C : Cxt} {G : Geo} {M : Mem} {k : Nat} {d : Sl} (hC : Cx C cX6_wordAt 8 "FrameHeirsModel" (some .int) rm_X6_wordAt G) (hk : LMo G k) (k5 : Int32 → Int32 → Int32 → Int32 → Option Int32) (h5 : ∀ (v1 : Int32) (v2 : Int32) (v3 : Int32) (v4 : Int32), Rz C 8 G (setS M k) (poP avI ((setS M k) d)) 5 [(0, .inr (k, 34)), (1, .inl (.int v1)), (2, .inl (.int v2)), (3, .inl (.int v3)), (4, .inl (.int v4))] [] d (k5 v1 v2 v3 v4)) (v1 : Int32) (v2 : Int32) (v3 : Int32) (v4 : Int32) (v5 : Int32) (v6 : Int32) : Rz C 8 G (setS M k) (poP avI ((setS M k) d)) 104 [(0, .inr (k, 34)), (1, .inl (.int v1)), (2, .inl (.int v2)), (3, .inl (.int v3)), (4, .inl (.int v4)), (5, .inl (.int v5)), (6, .inl (.int v6))] [] d (Mo_wordAt_104 k5 d v1 v2 v3 v4 v5 v6) := by
  unfold Mo_wordAt_104
  refine z_iload (pc := 104) hC 6 6 rfl dX6_wordAt_104 ?_
  refine z_if_eq (pc := 106) hC 111 rfl dX6_wordAt_106 ?_ ?_
  · refine z_iload (pc := 111) hC 4 4 rfl dX6_wordAt_111 ?_
    refine z_iload (pc := 113) hC 5 5 rfl dX6_wordAt_113 ?_
    refine z_iconst (pc := 115) hC (1 : Int32) rfl dX6_wordAt_115 ?_
    refine z_iadd (pc := 116) hC dX6_wordAt_116 ?_
    refine z_iadd (pc := 117) hC dX6_wordAt_117 ?_
    refine z_istore (pc := 118) (ls1 := fun v => [(4, .inl (.int v)), (0, .inr (k, 34)), (1, .inl (.int v1)), (2, .inl (.int v2)), (3, .inl (.int v3)), (5, .inl (.int v5)), (6, .inl (.int v6))]) hC 4 (by decide) (fun v => rfl) dX6_wordAt_118 (fun v4_1 => ?_)
    refine z_iinc (pc := 120) (ls1 := fun v => [(3, .inl (.int v)), (4, .inl (.int v4_1)), (0, .inr (k, 34)), (1, .inl (.int v1)), (2, .inl (.int v2)), (5, .inl (.int v5)), (6, .inl (.int v6))]) hC 3 4 (by decide) (1 : Int32) rfl rfl (fun v => rfl) dX6_wordAt_120 (fun v3_2 => ?_)
    refine z_goto (pc := 123) hC 5 rfl dX6_wordAt_123 ?_
    exact z_sub [2, 3, 4, 0, 1] rfl (h5 v1 v2 v3_2 v4_1)
  · refine z_iload_n (pc := 109) hC 3 rfl 3 rfl dX6_wordAt_109 ?_
    exact z_iret (pc := 110) hC rfl dX6_wordAt_110
theorem r_Mo_wordAt_96 {C : Cxt} {G : Geo} {M : Mem} {k : Nat} {d : Sl} (hC : Cx C cX6_wordAt 8 "FrameHeirsModel" (some .int) rm_X6_wordAt G) (hk : LMo G k) (k5 : Int32 → Int32 → Int32 → Int32 → Option Int32) (h5 : ∀ (v1 : Int32) (v2 : Int32) (v3 : Int32) (v4 : Int32), Rz C 8 G (setS M k) (poP avI ((setS M k) d)) 5 [(0, .inr (k, 34)), (1, .inl (.int v1)), (2, .inl (.int v2)), (3, .inl (.int v3)), (4, .inl (.int v4))] [] d (k5 v1 v2 v3 v4)) (k57 : Int32 → Int32 → Int32 → Int32 → Int32 → Int32 → Int32 → Option Int32) (h57 : ∀ (v1 : Int32) (v2 : Int32) (v3 : Int32) (v4 : Int32) (v5 : Int32) (v6 : Int32) (v7 : Int32), Rz C 8 G (setS M k) (poP avI ((setS M k) d)) 57 [(0, .inr (k, 34)), (1, .inl (.int v1)), (2, .inl (.int v2)), (3, .inl (.int v3)), (4, .inl (.int v4)), (5, .inl (.int v5)), (6, .inl (.int v6)), (7, .inl (.int v7))] [] d (k57 v1 v2 v3 v4 v5 v6 v7)) (v1 : Int32) (v2 : Int32) (v3 : Int32) (v4 : Int32) (v5 : Int32) (v7 : Int32) (s0 : Int32) : Rz C 8 G (setS M k) (poP avI ((setS M k) d)) 96 [(0, .inr (k, 34)), (1, .inl (.int v1)), (2, .inl (.int v2)), (3, .inl (.int v3)), (4, .inl (.int v4)), (5, .inl (.int v5)), (7, .inl (.int v7))] [.inl (.int s0)] d (Mo_wordAt_96 k5 k57 d v1 v2 v3 v4 v5 v7 s0) := by
  unfold Mo_wordAt_96
  refine z_istore (pc := 96) (ls1 := fun v => [(6, .inl (.int v)), (0, .inr (k, 34)), (1, .inl (.int v1)), (2, .inl (.int v2)), (3, .inl (.int v3)), (4, .inl (.int v4)), (5, .inl (.int v5)), (7, .inl (.int v7))]) hC 6 (by decide) (fun v => rfl) dX6_wordAt_96 (fun v6_3 => ?_)
  refine z_iinc (pc := 98) (ls1 := fun v => [(7, .inl (.int v)), (6, .inl (.int v6_3)), (0, .inr (k, 34)), (1, .inl (.int v1)), (2, .inl (.int v2)), (3, .inl (.int v3)), (4, .inl (.int v4)), (5, .inl (.int v5))]) hC 7 7 (by decide) (1 : Int32) rfl rfl (fun v => rfl) dX6_wordAt_98 (fun v7_4 => ?_)
  refine z_goto (pc := 101) hC 57 rfl dX6_wordAt_101 ?_
  exact z_sub [2, 3, 4, 5, 6, 7, 1, 0] rfl (h57 v1 v2 v3 v4 v5 v6_3 v7_4)
theorem r_Mo_wordAt_57 {C : Cxt} {G : Geo} {M : Mem} {k : Nat} {d : Sl} (hC : Cx C cX6_wordAt 8 "FrameHeirsModel" (some .int) rm_X6_wordAt G) (hk : LMo G k) (k5 : Int32 → Int32 → Int32 → Int32 → Option Int32) (h5 : ∀ (v1 : Int32) (v2 : Int32) (v3 : Int32) (v4 : Int32), Rz C 8 G (setS M k) (poP avI ((setS M k) d)) 5 [(0, .inr (k, 34)), (1, .inl (.int v1)), (2, .inl (.int v2)), (3, .inl (.int v3)), (4, .inl (.int v4))] [] d (k5 v1 v2 v3 v4)) : ∀ (n : Nat) (v1 : Int32) (v2 : Int32) (v3 : Int32) (v4 : Int32) (v5 : Int32) (v6 : Int32) (v7 : Int32), Rz C 8 G (setS M k) (poP avI ((setS M k) d)) 57 [(0, .inr (k, 34)), (1, .inl (.int v1)), (2, .inl (.int v2)), (3, .inl (.int v3)), (4, .inl (.int v4)), (5, .inl (.int v5)), (6, .inl (.int v6)), (7, .inl (.int v7))] [] d (Mo_wordAt_57 k5 d n v1 v2 v3 v4 v5 v6 v7) := by
  intro n
  induction n with
  | zero => intros; exact z_none
  | succ n ih =>
    intro v1 v2 v3 v4 v5 v6 v7
    rw [Mo_wordAt_57]
    refine z_iload (pc := 57) hC 7 7 rfl dX6_wordAt_57 ?_
    refine z_iload (pc := 59) hC 5 5 rfl dX6_wordAt_59 ?_
    refine z_icmp_ge (pc := 61) hC 104 rfl dX6_wordAt_61 ?_ ?_
    · exact z_sub [0, 1, 2, 3, 4, 5, 6] rfl (r_Mo_wordAt_104 hC hk k5 h5 v1 v2 v3 v4 v5 v6)
    · refine z_iload (pc := 64) hC 6 6 rfl dX6_wordAt_64 ?_
      refine z_if_eq (pc := 66) hC 104 rfl dX6_wordAt_66 ?_ ?_
      · exact z_sub [0, 1, 2, 3, 4, 5, 6] rfl (r_Mo_wordAt_104 hC hk k5 h5 v1 v2 v3 v4 v5 v6)
      · refine z_aload_n (pc := 69) hC 0 rfl 0 rfl dX6_wordAt_69 ?_
        refine z_getc (pc := 70) hC (hk 34 rfl) f_34_3 q1273 dX6_wordAt_70 ?_
        refine z_iload (pc := 73) hC 4 4 rfl dX6_wordAt_73 ?_
        refine z_iload (pc := 75) hC 7 7 rfl dX6_wordAt_75 ?_
        refine z_iadd (pc := 77) hC dX6_wordAt_77 ?_
        refine zs_iald (pc := 78) hC (hk 36 rfl) rfl dX6_wordAt_78 ?_
        refine z_aload_n (pc := 79) hC 0 rfl 0 rfl dX6_wordAt_79 ?_
        refine z_getc (pc := 80) hC (hk 34 rfl) f_34_0 q1270 dX6_wordAt_80 ?_
        refine z_iload_n (pc := 83) hC 1 rfl 1 rfl dX6_wordAt_83 ?_
        refine z_iload (pc := 84) hC 7 7 rfl dX6_wordAt_84 ?_
        refine z_iadd (pc := 86) hC dX6_wordAt_86 ?_
        refine zs_iald (pc := 87) hC (hk 35 rfl) rfl dX6_wordAt_87 ?_
        refine z_icmp_ne (pc := 88) hC 95 rfl dX6_wordAt_88 ?_ ?_
        · refine z_iconst (pc := 95) hC (0 : Int32) rfl dX6_wordAt_95 ?_
          exact z_sub [0, 1, 2, 3, 4, 5, 7] rfl (r_Mo_wordAt_96 hC hk k5 h5 _ ih v1 v2 v3 v4 v5 v7 (0 : Int32))
        · refine z_iconst (pc := 91) hC (1 : Int32) rfl dX6_wordAt_91 ?_
          refine z_goto (pc := 92) hC 96 rfl dX6_wordAt_92 ?_
          exact z_sub [0, 1, 2, 3, 4, 5, 7] rfl (r_Mo_wordAt_96 hC hk k5 h5 _ ih v1 v2 v3 v4 v5 v7 (1 : Int32))
theorem r_Mo_wordAt_52 {C : Cxt} {G : Geo} {M : Mem} {k : Nat} {d : Sl} (hC : Cx C cX6_wordAt 8 "FrameHeirsModel" (some .int) rm_X6_wordAt G) (hk : LMo G k) (k5 : Int32 → Int32 → Int32 → Int32 → Option Int32) (h5 : ∀ (v1 : Int32) (v2 : Int32) (v3 : Int32) (v4 : Int32), Rz C 8 G (setS M k) (poP avI ((setS M k) d)) 5 [(0, .inr (k, 34)), (1, .inl (.int v1)), (2, .inl (.int v2)), (3, .inl (.int v3)), (4, .inl (.int v4))] [] d (k5 v1 v2 v3 v4)) (v1 : Int32) (v2 : Int32) (v3 : Int32) (v4 : Int32) (v5 : Int32) (s0 : Int32) : Rz C 8 G (setS M k) (poP avI ((setS M k) d)) 52 [(0, .inr (k, 34)), (1, .inl (.int v1)), (2, .inl (.int v2)), (3, .inl (.int v3)), (4, .inl (.int v4)), (5, .inl (.int v5))] [.inl (.int s0)] d (Mo_wordAt_52 k5 d v1 v2 v3 v4 v5 s0) := by
  unfold Mo_wordAt_52
  refine z_istore (pc := 52) (ls1 := fun v => [(6, .inl (.int v)), (0, .inr (k, 34)), (1, .inl (.int v1)), (2, .inl (.int v2)), (3, .inl (.int v3)), (4, .inl (.int v4)), (5, .inl (.int v5))]) hC 6 (by decide) (fun v => rfl) dX6_wordAt_52 (fun v6_5 => ?_)
  refine z_iconst (pc := 54) hC (0 : Int32) rfl dX6_wordAt_54 ?_
  refine z_istore (pc := 55) (ls1 := fun v => [(7, .inl (.int v)), (6, .inl (.int v6_5)), (0, .inr (k, 34)), (1, .inl (.int v1)), (2, .inl (.int v2)), (3, .inl (.int v3)), (4, .inl (.int v4)), (5, .inl (.int v5))]) hC 7 (by decide) (fun v => rfl) dX6_wordAt_55 (fun v7_6 => ?_)
  exact z_sub [2, 3, 4, 5, 6, 7, 1, 0] rfl (r_Mo_wordAt_57 hC hk k5 h5 FU v1 v2 v3 v4 v5 v6_5 v7_6)
theorem r_Mo_wordAt_18 {C : Cxt} {G : Geo} {M : Mem} {k : Nat} {d : Sl} (hC : Cx C cX6_wordAt 8 "FrameHeirsModel" (some .int) rm_X6_wordAt G) (hk : LMo G k) (k5 : Int32 → Int32 → Int32 → Int32 → Option Int32) (h5 : ∀ (v1 : Int32) (v2 : Int32) (v3 : Int32) (v4 : Int32), Rz C 8 G (setS M k) (poP avI ((setS M k) d)) 5 [(0, .inr (k, 34)), (1, .inl (.int v1)), (2, .inl (.int v2)), (3, .inl (.int v3)), (4, .inl (.int v4))] [] d (k5 v1 v2 v3 v4)) : ∀ (n : Nat) (v1 : Int32) (v2 : Int32) (v3 : Int32) (v4 : Int32) (v5 : Int32), Rz C 8 G (setS M k) (poP avI ((setS M k) d)) 18 [(0, .inr (k, 34)), (1, .inl (.int v1)), (2, .inl (.int v2)), (3, .inl (.int v3)), (4, .inl (.int v4)), (5, .inl (.int v5))] [] d (Mo_wordAt_18 k5 d n v1 v2 v3 v4 v5) := by
  intro n
  induction n with
  | zero => intros; exact z_none
  | succ n ih =>
    intro v1 v2 v3 v4 v5
    rw [Mo_wordAt_18]
    refine z_aload_n (pc := 18) hC 0 rfl 0 rfl dX6_wordAt_18 ?_
    refine z_getc (pc := 19) hC (hk 34 rfl) f_34_3 q1273 dX6_wordAt_19 ?_
    refine z_iload (pc := 22) hC 4 4 rfl dX6_wordAt_22 ?_
    refine z_iload (pc := 24) hC 5 5 rfl dX6_wordAt_24 ?_
    refine z_iadd (pc := 26) hC dX6_wordAt_26 ?_
    refine zs_iald (pc := 27) hC (hk 36 rfl) rfl dX6_wordAt_27 ?_
    refine z_bipush (pc := 28) hC (32 : Int32) rfl dX6_wordAt_28 ?_
    refine z_icmp_eq (pc := 30) hC 39 rfl dX6_wordAt_30 ?_ ?_
    · refine z_iload (pc := 39) hC 5 5 rfl dX6_wordAt_39 ?_
      refine z_iload_n (pc := 41) hC 2 rfl 2 rfl dX6_wordAt_41 ?_
      refine z_iload_n (pc := 42) hC 1 rfl 1 rfl dX6_wordAt_42 ?_
      refine z_isub (pc := 43) hC dX6_wordAt_43 ?_
      refine z_icmp_ne (pc := 44) hC 51 rfl dX6_wordAt_44 ?_ ?_
      · refine z_iconst (pc := 51) hC (0 : Int32) rfl dX6_wordAt_51 ?_
        exact z_sub [0, 1, 2, 3, 4, 5] rfl (r_Mo_wordAt_52 hC hk k5 h5 v1 v2 v3 v4 v5 (0 : Int32))
      · refine z_iconst (pc := 47) hC (1 : Int32) rfl dX6_wordAt_47 ?_
        refine z_goto (pc := 48) hC 52 rfl dX6_wordAt_48 ?_
        exact z_sub [0, 1, 2, 3, 4, 5] rfl (r_Mo_wordAt_52 hC hk k5 h5 v1 v2 v3 v4 v5 (1 : Int32))
    · refine z_iinc (pc := 33) (ls1 := fun v => [(5, .inl (.int v)), (0, .inr (k, 34)), (1, .inl (.int v1)), (2, .inl (.int v2)), (3, .inl (.int v3)), (4, .inl (.int v4))]) hC 5 5 (by decide) (1 : Int32) rfl rfl (fun v => rfl) dX6_wordAt_33 (fun v5_7 => ?_)
      refine z_goto (pc := 36) hC 18 rfl dX6_wordAt_36 ?_
      exact z_sub [1, 2, 3, 4, 5, 0] rfl (ih v1 v2 v3 v4 v5_7)
theorem r_Mo_wordAt_5 {C : Cxt} {G : Geo} {M : Mem} {k : Nat} {d : Sl} (hC : Cx C cX6_wordAt 8 "FrameHeirsModel" (some .int) rm_X6_wordAt G) (hk : LMo G k) : ∀ (n : Nat) (v1 : Int32) (v2 : Int32) (v3 : Int32) (v4 : Int32), Rz C 8 G (setS M k) (poP avI ((setS M k) d)) 5 [(0, .inr (k, 34)), (1, .inl (.int v1)), (2, .inl (.int v2)), (3, .inl (.int v3)), (4, .inl (.int v4))] [] d (Mo_wordAt_5 d n v1 v2 v3 v4) := by
  intro n
  induction n with
  | zero => intros; exact z_none
  | succ n ih =>
    intro v1 v2 v3 v4
    rw [Mo_wordAt_5]
    refine z_iload (pc := 5) hC 4 4 rfl dX6_wordAt_5 ?_
    refine z_aload_n (pc := 7) hC 0 rfl 0 rfl dX6_wordAt_7 ?_
    refine z_getc (pc := 8) hC (hk 34 rfl) f_34_3 q1273 dX6_wordAt_8 ?_
    refine z_alen (pc := 11) (n := 69) hC (hk 36 rfl) rfl (69 : Int32) rfl dX6_wordAt_11 ?_
    refine z_icmp_ge (pc := 12) hC 126 rfl dX6_wordAt_12 ?_ ?_
    · refine z_iconst (pc := 126) hC (-1 : Int32) rfl dX6_wordAt_126 ?_
      exact z_iret (pc := 127) hC rfl dX6_wordAt_127
    · refine z_iconst (pc := 15) hC (0 : Int32) rfl dX6_wordAt_15 ?_
      refine z_istore (pc := 16) (ls1 := fun v => [(5, .inl (.int v)), (0, .inr (k, 34)), (1, .inl (.int v1)), (2, .inl (.int v2)), (3, .inl (.int v3)), (4, .inl (.int v4))]) hC 5 (by decide) (fun v => rfl) dX6_wordAt_16 (fun v5_8 => ?_)
      exact z_sub [1, 2, 3, 4, 5, 0] rfl (r_Mo_wordAt_18 hC hk _ ih FU v1 v2 v3 v4 v5_8)
theorem r_Mo_wordAt {C : Cxt} {G : Geo} {M : Mem} {k : Nat} (hC : Cx C cX6_wordAt 8 "FrameHeirsModel" (some .int) rm_X6_wordAt G) (hk : LMo G k) (d : Sl) (a1 : Int32) (a2 : Int32) : Rz C 8 G (setS M k) (poP avI ((setS M k) d)) 0 [(0, .inr (k, 34)), (1, .inl (.int a1)), (2, .inl (.int a2))] [] d (Mo_wordAt d a1 a2) := by
  unfold Mo_wordAt
  refine z_iconst (pc := 0) hC (0 : Int32) rfl dX6_wordAt_0 ?_
  refine z_istore_n (pc := 1) (ls1 := fun v => [(3, .inl (.int v)), (0, .inr (k, 34)), (1, .inl (.int a1)), (2, .inl (.int a2))]) hC 3 rfl (by decide) (fun v => rfl) dX6_wordAt_1 (fun v3_9 => ?_)
  refine z_iconst (pc := 2) hC (0 : Int32) rfl dX6_wordAt_2 ?_
  refine z_istore (pc := 3) (ls1 := fun v => [(4, .inl (.int v)), (3, .inl (.int v3_9)), (0, .inr (k, 34)), (1, .inl (.int a1)), (2, .inl (.int a2))]) hC 4 (by decide) (fun v => rfl) dX6_wordAt_3 (fun v4_10 => ?_)
  exact z_sub [2, 3, 4, 1, 0] rfl (r_Mo_wordAt_5 hC hk FU a1 a2 v3_9 v4_10)
theorem c_X6_wordAt {G : Geo} {M : Mem} {k : Nat} (hG : GOk G) (hk : LMo G k) {d : Sl} {a1 : Int32} {a2 : Int32} (l : Launch) (r : Int32) (h : Mo_wordAt d a1 a2 = some r) : Mt l yX6_wordAt cX6_wordAt 8 (some .int) rm_X6_wordAt G [.inr (k, 34), .inl (.int a1), .inl (.int a2)] ((setS M k) d) (avI r) ((setS M k) d) :=
  mt_of (mem := (setS M k)) (po := poP avI ((setS M k) d)) (x0 := d) (t := r) rfl hG [.inr (k, 34), .inl (.int a1), .inl (.int a2)] (Nat.le_of_ble_eq_true rfl) rfl (fun C hC => r_Mo_wordAt hC hk d a1 a2) h
-- FrameHeirsModel.isSmall(I)Z
abbrev rm_X6_isSmall : Room := { frames := 0, cells := 0, slots := 0, locals := 0 }
theorem dX6_isSmall_0 : decode cX6_isSmall 0 = .ok (.iload_n 1, 1) := by decide +kernel
theorem dX6_isSmall_1 : decode cX6_isSmall 1 = .ok (.aload_n 0, 1) := by decide +kernel
theorem dX6_isSmall_2 : decode cX6_isSmall 2 = .ok (.getfield 73, 3) := by decide +kernel
theorem dX6_isSmall_5 : decode cX6_isSmall 5 = .ok (.if_icmp .ge 29, 3) := by decide +kernel
theorem dX6_isSmall_8 : decode cX6_isSmall 8 = .ok (.aload_n 0, 1) := by decide +kernel
theorem dX6_isSmall_9 : decode cX6_isSmall 9 = .ok (.getfield 7, 3) := by decide +kernel
theorem dX6_isSmall_12 : decode cX6_isSmall 12 = .ok (.iload_n 1, 1) := by decide +kernel
theorem dX6_isSmall_13 : decode cX6_isSmall 13 = .ok (.iaload, 1) := by decide +kernel
theorem dX6_isSmall_14 : decode cX6_isSmall 14 = .ok (.bipush 97, 2) := by decide +kernel
theorem dX6_isSmall_16 : decode cX6_isSmall 16 = .ok (.if_icmp .lt 18, 3) := by decide +kernel
theorem dX6_isSmall_19 : decode cX6_isSmall 19 = .ok (.aload_n 0, 1) := by decide +kernel
theorem dX6_isSmall_20 : decode cX6_isSmall 20 = .ok (.getfield 7, 3) := by decide +kernel
theorem dX6_isSmall_23 : decode cX6_isSmall 23 = .ok (.iload_n 1, 1) := by decide +kernel
theorem dX6_isSmall_24 : decode cX6_isSmall 24 = .ok (.iaload, 1) := by decide +kernel
theorem dX6_isSmall_25 : decode cX6_isSmall 25 = .ok (.bipush 122, 2) := by decide +kernel
theorem dX6_isSmall_27 : decode cX6_isSmall 27 = .ok (.if_icmp .gt 7, 3) := by decide +kernel
theorem dX6_isSmall_30 : decode cX6_isSmall 30 = .ok (.iconst 1, 1) := by decide +kernel
theorem dX6_isSmall_31 : decode cX6_isSmall 31 = .ok (.goto 4, 3) := by decide +kernel
theorem dX6_isSmall_34 : decode cX6_isSmall 34 = .ok (.iconst 0, 1) := by decide +kernel
theorem dX6_isSmall_35 : decode cX6_isSmall 35 = .ok (.ireturn, 1) := by decide +kernel
def Mo_isSmall (d : Sl) (a1 : Int32) : Option Int32 :=
  if (d 34 6) ≤ a1 then
    (some (0 : Int32))
  else
    (if inb a1 700 then
    if (d 35 (ix a1)) < (97 : Int32) then
      (some (0 : Int32))
    else
      (if inb a1 700 then
      if (122 : Int32) < (d 35 (ix a1)) then
        (some (0 : Int32))
      else
        (some (1 : Int32))
      else none)
    else none)
theorem y_X6_isSmall : YV yX6_isSmall cX6_isSmall 2 (some .boolean) 1 := ⟨q1386, q50, q1387, q149, by decide +kernel, by decide +kernel, by decide +kernel, by decide +kernel⟩
theorem r_Mo_isSmall {C : Cxt} {G : Geo} {M : Mem} {k : Nat} (hC : Cx C cX6_isSmall 2 "FrameHeirsModel" (some .boolean) rm_X6_isSmall G) (hk : LMo G k) (d : Sl) (a1 : Int32) : Rz C 2 G (setS M k) (poP avI ((setS M k) d)) 0 [(0, .inr (k, 34)), (1, .inl (.int a1))] [] d (Mo_isSmall d a1) := by
  unfold Mo_isSmall
  refine z_iload_n (pc := 0) hC 1 rfl 1 rfl dX6_isSmall_0 ?_
  refine z_aload_n (pc := 1) hC 0 rfl 0 rfl dX6_isSmall_1 ?_
  refine zs_geti (pc := 2) hC (hk 34 rfl) f_34_6 q1276 dX6_isSmall_2 ?_
  refine z_icmp_ge (pc := 5) hC 34 rfl dX6_isSmall_5 ?_ ?_
  · refine z_iconst (pc := 34) hC (0 : Int32) rfl dX6_isSmall_34 ?_
    exact z_zret (pc := 35) hC rfl rfl dX6_isSmall_35
  · refine z_aload_n (pc := 8) hC 0 rfl 0 rfl dX6_isSmall_8 ?_
    refine z_getc (pc := 9) hC (hk 34 rfl) f_34_0 q1270 dX6_isSmall_9 ?_
    refine z_iload_n (pc := 12) hC 1 rfl 1 rfl dX6_isSmall_12 ?_
    refine zs_iald (pc := 13) hC (hk 35 rfl) rfl dX6_isSmall_13 ?_
    refine z_bipush (pc := 14) hC (97 : Int32) rfl dX6_isSmall_14 ?_
    refine z_icmp_lt (pc := 16) hC 34 rfl dX6_isSmall_16 ?_ ?_
    · refine z_iconst (pc := 34) hC (0 : Int32) rfl dX6_isSmall_34 ?_
      exact z_zret (pc := 35) hC rfl rfl dX6_isSmall_35
    · refine z_aload_n (pc := 19) hC 0 rfl 0 rfl dX6_isSmall_19 ?_
      refine z_getc (pc := 20) hC (hk 34 rfl) f_34_0 q1270 dX6_isSmall_20 ?_
      refine z_iload_n (pc := 23) hC 1 rfl 1 rfl dX6_isSmall_23 ?_
      refine zs_iald (pc := 24) hC (hk 35 rfl) rfl dX6_isSmall_24 ?_
      refine z_bipush (pc := 25) hC (122 : Int32) rfl dX6_isSmall_25 ?_
      refine z_icmp_gt (pc := 27) hC 34 rfl dX6_isSmall_27 ?_ ?_
      · refine z_iconst (pc := 34) hC (0 : Int32) rfl dX6_isSmall_34 ?_
        exact z_zret (pc := 35) hC rfl rfl dX6_isSmall_35
      · refine z_iconst (pc := 30) hC (1 : Int32) rfl dX6_isSmall_30 ?_
        refine z_goto (pc := 31) hC 35 rfl dX6_isSmall_31 ?_
        exact z_zret (pc := 35) hC rfl rfl dX6_isSmall_35
theorem c_X6_isSmall {G : Geo} {M : Mem} {k : Nat} (hG : GOk G) (hk : LMo G k) {d : Sl} {a1 : Int32} (l : Launch) (r : Int32) (h : Mo_isSmall d a1 = some r) : Mt l yX6_isSmall cX6_isSmall 2 (some .boolean) rm_X6_isSmall G [.inr (k, 34), .inl (.int a1)] ((setS M k) d) (avI r) ((setS M k) d) :=
  mt_of (mem := (setS M k)) (po := poP avI ((setS M k) d)) (x0 := d) (t := r) rfl hG [.inr (k, 34), .inl (.int a1)] (Nat.le_of_ble_eq_true rfl) rfl (fun C hC => r_Mo_isSmall hC hk d a1) h
-- FrameHeirsModel.isDigit(I)Z
abbrev rm_X6_isDigit : Room := { frames := 0, cells := 0, slots := 0, locals := 0 }
theorem dX6_isDigit_0 : decode cX6_isDigit 0 = .ok (.iload_n 1, 1) := by decide +kernel
theorem dX6_isDigit_1 : decode cX6_isDigit 1 = .ok (.aload_n 0, 1) := by decide +kernel
theorem dX6_isDigit_2 : decode cX6_isDigit 2 = .ok (.getfield 73, 3) := by decide +kernel
theorem dX6_isDigit_5 : decode cX6_isDigit 5 = .ok (.if_icmp .ge 29, 3) := by decide +kernel
theorem dX6_isDigit_8 : decode cX6_isDigit 8 = .ok (.aload_n 0, 1) := by decide +kernel
theorem dX6_isDigit_9 : decode cX6_isDigit 9 = .ok (.getfield 7, 3) := by decide +kernel
theorem dX6_isDigit_12 : decode cX6_isDigit 12 = .ok (.iload_n 1, 1) := by decide +kernel
theorem dX6_isDigit_13 : decode cX6_isDigit 13 = .ok (.iaload, 1) := by decide +kernel
theorem dX6_isDigit_14 : decode cX6_isDigit 14 = .ok (.bipush 48, 2) := by decide +kernel
theorem dX6_isDigit_16 : decode cX6_isDigit 16 = .ok (.if_icmp .lt 18, 3) := by decide +kernel
theorem dX6_isDigit_19 : decode cX6_isDigit 19 = .ok (.aload_n 0, 1) := by decide +kernel
theorem dX6_isDigit_20 : decode cX6_isDigit 20 = .ok (.getfield 7, 3) := by decide +kernel
theorem dX6_isDigit_23 : decode cX6_isDigit 23 = .ok (.iload_n 1, 1) := by decide +kernel
theorem dX6_isDigit_24 : decode cX6_isDigit 24 = .ok (.iaload, 1) := by decide +kernel
theorem dX6_isDigit_25 : decode cX6_isDigit 25 = .ok (.bipush 57, 2) := by decide +kernel
theorem dX6_isDigit_27 : decode cX6_isDigit 27 = .ok (.if_icmp .gt 7, 3) := by decide +kernel
theorem dX6_isDigit_30 : decode cX6_isDigit 30 = .ok (.iconst 1, 1) := by decide +kernel
theorem dX6_isDigit_31 : decode cX6_isDigit 31 = .ok (.goto 4, 3) := by decide +kernel
theorem dX6_isDigit_34 : decode cX6_isDigit 34 = .ok (.iconst 0, 1) := by decide +kernel
theorem dX6_isDigit_35 : decode cX6_isDigit 35 = .ok (.ireturn, 1) := by decide +kernel
def Mo_isDigit (d : Sl) (a1 : Int32) : Option Int32 :=
  if (d 34 6) ≤ a1 then
    (some (0 : Int32))
  else
    (if inb a1 700 then
    if (d 35 (ix a1)) < (48 : Int32) then
      (some (0 : Int32))
    else
      (if inb a1 700 then
      if (57 : Int32) < (d 35 (ix a1)) then
        (some (0 : Int32))
      else
        (some (1 : Int32))
      else none)
    else none)
theorem y_X6_isDigit : YV yX6_isDigit cX6_isDigit 2 (some .boolean) 1 := ⟨q1398, q53, q1399, q149, by decide +kernel, by decide +kernel, by decide +kernel, by decide +kernel⟩
theorem r_Mo_isDigit {C : Cxt} {G : Geo} {M : Mem} {k : Nat} (hC : Cx C cX6_isDigit 2 "FrameHeirsModel" (some .boolean) rm_X6_isDigit G) (hk : LMo G k) (d : Sl) (a1 : Int32) : Rz C 2 G (setS M k) (poP avI ((setS M k) d)) 0 [(0, .inr (k, 34)), (1, .inl (.int a1))] [] d (Mo_isDigit d a1) := by
  unfold Mo_isDigit
  refine z_iload_n (pc := 0) hC 1 rfl 1 rfl dX6_isDigit_0 ?_
  refine z_aload_n (pc := 1) hC 0 rfl 0 rfl dX6_isDigit_1 ?_
  refine zs_geti (pc := 2) hC (hk 34 rfl) f_34_6 q1276 dX6_isDigit_2 ?_
  refine z_icmp_ge (pc := 5) hC 34 rfl dX6_isDigit_5 ?_ ?_
  · refine z_iconst (pc := 34) hC (0 : Int32) rfl dX6_isDigit_34 ?_
    exact z_zret (pc := 35) hC rfl rfl dX6_isDigit_35
  · refine z_aload_n (pc := 8) hC 0 rfl 0 rfl dX6_isDigit_8 ?_
    refine z_getc (pc := 9) hC (hk 34 rfl) f_34_0 q1270 dX6_isDigit_9 ?_
    refine z_iload_n (pc := 12) hC 1 rfl 1 rfl dX6_isDigit_12 ?_
    refine zs_iald (pc := 13) hC (hk 35 rfl) rfl dX6_isDigit_13 ?_
    refine z_bipush (pc := 14) hC (48 : Int32) rfl dX6_isDigit_14 ?_
    refine z_icmp_lt (pc := 16) hC 34 rfl dX6_isDigit_16 ?_ ?_
    · refine z_iconst (pc := 34) hC (0 : Int32) rfl dX6_isDigit_34 ?_
      exact z_zret (pc := 35) hC rfl rfl dX6_isDigit_35
    · refine z_aload_n (pc := 19) hC 0 rfl 0 rfl dX6_isDigit_19 ?_
      refine z_getc (pc := 20) hC (hk 34 rfl) f_34_0 q1270 dX6_isDigit_20 ?_
      refine z_iload_n (pc := 23) hC 1 rfl 1 rfl dX6_isDigit_23 ?_
      refine zs_iald (pc := 24) hC (hk 35 rfl) rfl dX6_isDigit_24 ?_
      refine z_bipush (pc := 25) hC (57 : Int32) rfl dX6_isDigit_25 ?_
      refine z_icmp_gt (pc := 27) hC 34 rfl dX6_isDigit_27 ?_ ?_
      · refine z_iconst (pc := 34) hC (0 : Int32) rfl dX6_isDigit_34 ?_
        exact z_zret (pc := 35) hC rfl rfl dX6_isDigit_35
      · refine z_iconst (pc := 30) hC (1 : Int32) rfl dX6_isDigit_30 ?_
        refine z_goto (pc := 31) hC 35 rfl dX6_isDigit_31 ?_
        exact z_zret (pc := 35) hC rfl rfl dX6_isDigit_35
theorem c_X6_isDigit {G : Geo} {M : Mem} {k : Nat} (hG : GOk G) (hk : LMo G k) {d : Sl} {a1 : Int32} (l : Launch) (r : Int32) (h : Mo_isDigit d a1 = some r) : Mt l yX6_isDigit cX6_isDigit 2 (some .boolean) rm_X6_isDigit G [.inr (k, 34), .inl (.int a1)] ((setS M k) d) (avI r) ((setS M k) d) :=
  mt_of (mem := (setS M k)) (po := poP avI ((setS M k) d)) (x0 := d) (t := r) rfl hG [.inr (k, 34), .inl (.int a1)] (Nat.le_of_ble_eq_true rfl) rfl (fun C hC => r_Mo_isDigit hC hk d a1) h
-- FrameHeirsModel.packed(II)I
abbrev rm_X6_packed : Room := { frames := 0, cells := 0, slots := 0, locals := 0 }
theorem dX6_packed_0 : decode cX6_packed 0 = .ok (.iconst 0, 1) := by decide +kernel
theorem dX6_packed_1 : decode cX6_packed 1 = .ok (.istore_n 3, 1) := by decide +kernel
theorem dX6_packed_2 : decode cX6_packed 2 = .ok (.iload_n 1, 1) := by decide +kernel
theorem dX6_packed_3 : decode cX6_packed 3 = .ok (.istore 4, 2) := by decide +kernel
theorem dX6_packed_5 : decode cX6_packed 5 = .ok (.iload 4, 2) := by decide +kernel
theorem dX6_packed_7 : decode cX6_packed 7 = .ok (.iload_n 1, 1) := by decide +kernel
theorem dX6_packed_8 : decode cX6_packed 8 = .ok (.bipush 6, 2) := by decide +kernel
theorem dX6_packed_10 : decode cX6_packed 10 = .ok (.iadd, 1) := by decide +kernel
theorem dX6_packed_11 : decode cX6_packed 11 = .ok (.if_icmp .ge 34, 3) := by decide +kernel
theorem dX6_packed_14 : decode cX6_packed 14 = .ok (.iload_n 3, 1) := by decide +kernel
theorem dX6_packed_15 : decode cX6_packed 15 = .ok (.iconst 5, 1) := by decide +kernel
theorem dX6_packed_16 : decode cX6_packed 16 = .ok (.ishl, 1) := by decide +kernel
theorem dX6_packed_17 : decode cX6_packed 17 = .ok (.iload 4, 2) := by decide +kernel
theorem dX6_packed_19 : decode cX6_packed 19 = .ok (.iload_n 2, 1) := by decide +kernel
theorem dX6_packed_20 : decode cX6_packed 20 = .ok (.if_icmp .ge 16, 3) := by decide +kernel
theorem dX6_packed_23 : decode cX6_packed 23 = .ok (.aload_n 0, 1) := by decide +kernel
theorem dX6_packed_24 : decode cX6_packed 24 = .ok (.getfield 7, 3) := by decide +kernel
theorem dX6_packed_27 : decode cX6_packed 27 = .ok (.iload 4, 2) := by decide +kernel
theorem dX6_packed_29 : decode cX6_packed 29 = .ok (.iaload, 1) := by decide +kernel
theorem dX6_packed_30 : decode cX6_packed 30 = .ok (.bipush 96, 2) := by decide +kernel
theorem dX6_packed_32 : decode cX6_packed 32 = .ok (.isub, 1) := by decide +kernel
theorem dX6_packed_33 : decode cX6_packed 33 = .ok (.goto 4, 3) := by decide +kernel
theorem dX6_packed_36 : decode cX6_packed 36 = .ok (.iconst 0, 1) := by decide +kernel
theorem dX6_packed_37 : decode cX6_packed 37 = .ok (.ior, 1) := by decide +kernel
theorem dX6_packed_38 : decode cX6_packed 38 = .ok (.istore_n 3, 1) := by decide +kernel
theorem dX6_packed_39 : decode cX6_packed 39 = .ok (.iinc 4 1, 3) := by decide +kernel
theorem dX6_packed_42 : decode cX6_packed 42 = .ok (.goto (-37), 3) := by decide +kernel
theorem dX6_packed_45 : decode cX6_packed 45 = .ok (.iload_n 3, 1) := by decide +kernel
theorem dX6_packed_46 : decode cX6_packed 46 = .ok (.ireturn, 1) := by decide +kernel
def Mo_packed_37 (k5 : Int32 → Int32 → Int32 → Int32 → Option Int32) (d : Sl) (v1 : Int32) (v2 : Int32) (v4 : Int32) (s0 : Int32) (s1 : Int32) : Option Int32 :=
  bnd (s1 ||| s0) fun v3_1 =>
  bnd (v4 + (1 : Int32)) fun v4_2 =>
  k5 v1 v2 v3_1 v4_2
def Mo_packed_5 (d : Sl) : Nat → Int32 → Int32 → Int32 → Int32 → Option Int32
  | 0, _, _, _, _ => none
  | n + 1, v1, v2, v3, v4 =>
    if (v1 + (6 : Int32)) ≤ v4 then
      (some v3)
    else
      (if v2 ≤ v4 then
        (Mo_packed_37 (Mo_packed_5 d n) d v1 v2 v4 (0 : Int32) (v3 <<< ((5 : Int32) &&& 31)))
      else
        (if inb v4 700 then
        Mo_packed_37 (Mo_packed_5 d n) d v1 v2 v4 ((d 35 (ix v4)) - (96 : Int32)) (v3 <<< ((5 : Int32) &&& 31))
        else none))
def Mo_packed (d : Sl) (a1 : Int32) (a2 : Int32) : Option Int32 :=
  bnd (0 : Int32) fun v3_3 =>
  bnd a1 fun v4_4 =>
  Mo_packed_5 d FU a1 a2 v3_3 v4_4
theorem y_X6_packed : YV yX6_packed cX6_packed 5 (some .int) 2 := ⟨q1394, q52, q1395, q149, by decide +kernel, by decide +kernel, by decide +kernel, by decide +kernel⟩
theorem r_Mo_packed_37 {C : Cxt} {G : Geo} {M : Mem} {k : Nat} {d : Sl} (hC : Cx C cX6_packed 5 "FrameHeirsModel" (some .int) rm_X6_packed G) (hk : LMo G k) (k5 : Int32 → Int32 → Int32 → Int32 → Option Int32) (h5 : ∀ (v1 : Int32) (v2 : Int32) (v3 : Int32) (v4 : Int32), Rz C 5 G (setS M k) (poP avI ((setS M k) d)) 5 [(0, .inr (k, 34)), (1, .inl (.int v1)), (2, .inl (.int v2)), (3, .inl (.int v3)), (4, .inl (.int v4))] [] d (k5 v1 v2 v3 v4)) (v1 : Int32) (v2 : Int32) (v4 : Int32) (s0 : Int32) (s1 : Int32) : Rz C 5 G (setS M k) (poP avI ((setS M k) d)) 37 [(0, .inr (k, 34)), (1, .inl (.int v1)), (2, .inl (.int v2)), (4, .inl (.int v4))] [.inl (.int s0), .inl (.int s1)] d (Mo_packed_37 k5 d v1 v2 v4 s0 s1) := by
  unfold Mo_packed_37
  refine z_ior (pc := 37) hC dX6_packed_37 ?_
  refine z_istore_n (pc := 38) (ls1 := fun v => [(3, .inl (.int v)), (0, .inr (k, 34)), (1, .inl (.int v1)), (2, .inl (.int v2)), (4, .inl (.int v4))]) hC 3 rfl (by decide) (fun v => rfl) dX6_packed_38 (fun v3_1 => ?_)
  refine z_iinc (pc := 39) (ls1 := fun v => [(4, .inl (.int v)), (3, .inl (.int v3_1)), (0, .inr (k, 34)), (1, .inl (.int v1)), (2, .inl (.int v2))]) hC 4 4 (by decide) (1 : Int32) rfl rfl (fun v => rfl) dX6_packed_39 (fun v4_2 => ?_)
  refine z_goto (pc := 42) hC 5 rfl dX6_packed_42 ?_
  exact z_sub [2, 3, 4, 1, 0] rfl (h5 v1 v2 v3_1 v4_2)
theorem r_Mo_packed_5 {C : Cxt} {G : Geo} {M : Mem} {k : Nat} {d : Sl} (hC : Cx C cX6_packed 5 "FrameHeirsModel" (some .int) rm_X6_packed G) (hk : LMo G k) : ∀ (n : Nat) (v1 : Int32) (v2 : Int32) (v3 : Int32) (v4 : Int32), Rz C 5 G (setS M k) (poP avI ((setS M k) d)) 5 [(0, .inr (k, 34)), (1, .inl (.int v1)), (2, .inl (.int v2)), (3, .inl (.int v3)), (4, .inl (.int v4))] [] d (Mo_packed_5 d n v1 v2 v3 v4) := by
  intro n
  induction n with
  | zero => intros; exact z_none
  | succ n ih =>
    intro v1 v2 v3 v4
    rw [Mo_packed_5]
    refine z_iload (pc := 5) hC 4 4 rfl dX6_packed_5 ?_
    refine z_iload_n (pc := 7) hC 1 rfl 1 rfl dX6_packed_7 ?_
    refine z_bipush (pc := 8) hC (6 : Int32) rfl dX6_packed_8 ?_
    refine z_iadd (pc := 10) hC dX6_packed_10 ?_
    refine z_icmp_ge (pc := 11) hC 45 rfl dX6_packed_11 ?_ ?_
    · refine z_iload_n (pc := 45) hC 3 rfl 3 rfl dX6_packed_45 ?_
      exact z_iret (pc := 46) hC rfl dX6_packed_46
    · refine z_iload_n (pc := 14) hC 3 rfl 3 rfl dX6_packed_14 ?_
      refine z_iconst (pc := 15) hC (5 : Int32) rfl dX6_packed_15 ?_
      refine z_ishl (pc := 16) hC dX6_packed_16 ?_
      refine z_iload (pc := 17) hC 4 4 rfl dX6_packed_17 ?_
      refine z_iload_n (pc := 19) hC 2 rfl 2 rfl dX6_packed_19 ?_
      refine z_icmp_ge (pc := 20) hC 36 rfl dX6_packed_20 ?_ ?_
      · refine z_iconst (pc := 36) hC (0 : Int32) rfl dX6_packed_36 ?_
        exact z_sub [0, 1, 2, 4] rfl (r_Mo_packed_37 hC hk _ ih v1 v2 v4 (0 : Int32) (v3 <<< ((5 : Int32) &&& 31)))
      · refine z_aload_n (pc := 23) hC 0 rfl 0 rfl dX6_packed_23 ?_
        refine z_getc (pc := 24) hC (hk 34 rfl) f_34_0 q1270 dX6_packed_24 ?_
        refine z_iload (pc := 27) hC 4 4 rfl dX6_packed_27 ?_
        refine zs_iald (pc := 29) hC (hk 35 rfl) rfl dX6_packed_29 ?_
        refine z_bipush (pc := 30) hC (96 : Int32) rfl dX6_packed_30 ?_
        refine z_isub (pc := 32) hC dX6_packed_32 ?_
        refine z_goto (pc := 33) hC 37 rfl dX6_packed_33 ?_
        exact z_sub [0, 1, 2, 4] rfl (r_Mo_packed_37 hC hk _ ih v1 v2 v4 ((d 35 (ix v4)) - (96 : Int32)) (v3 <<< ((5 : Int32) &&& 31)))
theorem r_Mo_packed {C : Cxt} {G : Geo} {M : Mem} {k : Nat} (hC : Cx C cX6_packed 5 "FrameHeirsModel" (some .int) rm_X6_packed G) (hk : LMo G k) (d : Sl) (a1 : Int32) (a2 : Int32) : Rz C 5 G (setS M k) (poP avI ((setS M k) d)) 0 [(0, .inr (k, 34)), (1, .inl (.int a1)), (2, .inl (.int a2))] [] d (Mo_packed d a1 a2) := by
  unfold Mo_packed
  refine z_iconst (pc := 0) hC (0 : Int32) rfl dX6_packed_0 ?_
  refine z_istore_n (pc := 1) (ls1 := fun v => [(3, .inl (.int v)), (0, .inr (k, 34)), (1, .inl (.int a1)), (2, .inl (.int a2))]) hC 3 rfl (by decide) (fun v => rfl) dX6_packed_1 (fun v3_3 => ?_)
  refine z_iload_n (pc := 2) hC 1 rfl 2 rfl dX6_packed_2 ?_
  refine z_istore (pc := 3) (ls1 := fun v => [(4, .inl (.int v)), (3, .inl (.int v3_3)), (0, .inr (k, 34)), (1, .inl (.int a1)), (2, .inl (.int a2))]) hC 4 (by decide) (fun v => rfl) dX6_packed_3 (fun v4_4 => ?_)
  exact z_sub [2, 3, 4, 1, 0] rfl (r_Mo_packed_5 hC hk FU a1 a2 v3_3 v4_4)
theorem c_X6_packed {G : Geo} {M : Mem} {k : Nat} (hG : GOk G) (hk : LMo G k) {d : Sl} {a1 : Int32} {a2 : Int32} (l : Launch) (r : Int32) (h : Mo_packed d a1 a2 = some r) : Mt l yX6_packed cX6_packed 5 (some .int) rm_X6_packed G [.inr (k, 34), .inl (.int a1), .inl (.int a2)] ((setS M k) d) (avI r) ((setS M k) d) :=
  mt_of (mem := (setS M k)) (po := poP avI ((setS M k) d)) (x0 := d) (t := r) rfl hG [.inr (k, 34), .inl (.int a1), .inl (.int a2)] (Nat.le_of_ble_eq_true rfl) rfl (fun C hC => r_Mo_packed hC hk d a1 a2) h
-- FrameHeirsModel.token()V
abbrev rm_X6_token : Room := { frames := 1, cells := 0, slots := 0, locals := 27 }
theorem dX6_token_0 : decode cX6_token 0 = .ok (.aload_n 0, 1) := by decide +kernel
theorem dX6_token_1 : decode cX6_token 1 = .ok (.getfield 76, 3) := by decide +kernel
theorem dX6_token_4 : decode cX6_token 4 = .ok (.aload_n 0, 1) := by decide +kernel
theorem dX6_token_5 : decode cX6_token 5 = .ok (.getfield 73, 3) := by decide +kernel
theorem dX6_token_8 : decode cX6_token 8 = .ok (.if_icmp .ge 44, 3) := by decide +kernel
theorem dX6_token_11 : decode cX6_token 11 = .ok (.aload_n 0, 1) := by decide +kernel
theorem dX6_token_12 : decode cX6_token 12 = .ok (.getfield 7, 3) := by decide +kernel
theorem dX6_token_15 : decode cX6_token 15 = .ok (.aload_n 0, 1) := by decide +kernel
theorem dX6_token_16 : decode cX6_token 16 = .ok (.getfield 76, 3) := by decide +kernel
theorem dX6_token_19 : decode cX6_token 19 = .ok (.iaload, 1) := by decide +kernel
theorem dX6_token_20 : decode cX6_token 20 = .ok (.bipush 10, 2) := by decide +kernel
theorem dX6_token_22 : decode cX6_token 22 = .ok (.if_icmp .eq 17, 3) := by decide +kernel
theorem dX6_token_25 : decode cX6_token 25 = .ok (.aload_n 0, 1) := by decide +kernel
theorem dX6_token_26 : decode cX6_token 26 = .ok (.getfield 7, 3) := by decide +kernel
theorem dX6_token_29 : decode cX6_token 29 = .ok (.aload_n 0, 1) := by decide +kernel
theorem dX6_token_30 : decode cX6_token 30 = .ok (.getfield 76, 3) := by decide +kernel
theorem dX6_token_33 : decode cX6_token 33 = .ok (.iaload, 1) := by decide +kernel
theorem dX6_token_34 : decode cX6_token 34 = .ok (.bipush 32, 2) := by decide +kernel
theorem dX6_token_36 : decode cX6_token 36 = .ok (.if_icmp .ne 16, 3) := by decide +kernel
theorem dX6_token_39 : decode cX6_token 39 = .ok (.aload_n 0, 1) := by decide +kernel
theorem dX6_token_40 : decode cX6_token 40 = .ok (.dup, 1) := by decide +kernel
theorem dX6_token_41 : decode cX6_token 41 = .ok (.getfield 76, 3) := by decide +kernel
theorem dX6_token_44 : decode cX6_token 44 = .ok (.iconst 1, 1) := by decide +kernel
theorem dX6_token_45 : decode cX6_token 45 = .ok (.iadd, 1) := by decide +kernel
theorem dX6_token_46 : decode cX6_token 46 = .ok (.putfield 76, 3) := by decide +kernel
theorem dX6_token_49 : decode cX6_token 49 = .ok (.goto (-49), 3) := by decide +kernel
theorem dX6_token_52 : decode cX6_token 52 = .ok (.aload_n 0, 1) := by decide +kernel
theorem dX6_token_53 : decode cX6_token 53 = .ok (.aload_n 0, 1) := by decide +kernel
theorem dX6_token_54 : decode cX6_token 54 = .ok (.getfield 76, 3) := by decide +kernel
theorem dX6_token_57 : decode cX6_token 57 = .ok (.putfield 70, 3) := by decide +kernel
theorem dX6_token_60 : decode cX6_token 60 = .ok (.aload_n 0, 1) := by decide +kernel
theorem dX6_token_61 : decode cX6_token 61 = .ok (.getfield 76, 3) := by decide +kernel
theorem dX6_token_64 : decode cX6_token 64 = .ok (.aload_n 0, 1) := by decide +kernel
theorem dX6_token_65 : decode cX6_token 65 = .ok (.getfield 73, 3) := by decide +kernel
theorem dX6_token_68 : decode cX6_token 68 = .ok (.if_icmp .ne 11, 3) := by decide +kernel
theorem dX6_token_71 : decode cX6_token 71 = .ok (.aload_n 0, 1) := by decide +kernel
theorem dX6_token_72 : decode cX6_token 72 = .ok (.iconst 0, 1) := by decide +kernel
theorem dX6_token_73 : decode cX6_token 73 = .ok (.putfield 79, 3) := by decide +kernel
theorem dX6_token_76 : decode cX6_token 76 = .ok (.goto 233, 3) := by decide +kernel
theorem dX6_token_79 : decode cX6_token 79 = .ok (.aload_n 0, 1) := by decide +kernel
theorem dX6_token_80 : decode cX6_token 80 = .ok (.aload_n 0, 1) := by decide +kernel
theorem dX6_token_81 : decode cX6_token 81 = .ok (.getfield 76, 3) := by decide +kernel
theorem dX6_token_84 : decode cX6_token 84 = .ok (.invokevirtual 82, 3) := by decide +kernel
theorem dX6_token_87 : decode cX6_token 87 = .ok (.ifCond .eq 104, 3) := by decide +kernel
theorem dX6_token_90 : decode cX6_token 90 = .ok (.aload_n 0, 1) := by decide +kernel
theorem dX6_token_91 : decode cX6_token 91 = .ok (.aload_n 0, 1) := by decide +kernel
theorem dX6_token_92 : decode cX6_token 92 = .ok (.getfield 76, 3) := by decide +kernel
theorem dX6_token_95 : decode cX6_token 95 = .ok (.invokevirtual 82, 3) := by decide +kernel
theorem dX6_token_98 : decode cX6_token 98 = .ok (.ifCond .eq 16, 3) := by decide +kernel
theorem dX6_token_101 : decode cX6_token 101 = .ok (.aload_n 0, 1) := by decide +kernel
theorem dX6_token_102 : decode cX6_token 102 = .ok (.dup, 1) := by decide +kernel
theorem dX6_token_103 : decode cX6_token 103 = .ok (.getfield 76, 3) := by decide +kernel
theorem dX6_token_106 : decode cX6_token 106 = .ok (.iconst 1, 1) := by decide +kernel
theorem dX6_token_107 : decode cX6_token 107 = .ok (.iadd, 1) := by decide +kernel
theorem dX6_token_108 : decode cX6_token 108 = .ok (.putfield 76, 3) := by decide +kernel
theorem dX6_token_111 : decode cX6_token 111 = .ok (.goto (-21), 3) := by decide +kernel
theorem dX6_token_114 : decode cX6_token 114 = .ok (.aload_n 0, 1) := by decide +kernel
theorem dX6_token_115 : decode cX6_token 115 = .ok (.aload_n 0, 1) := by decide +kernel
theorem dX6_token_116 : decode cX6_token 116 = .ok (.aload_n 0, 1) := by decide +kernel
theorem dX6_token_117 : decode cX6_token 117 = .ok (.getfield 70, 3) := by decide +kernel
theorem dX6_token_120 : decode cX6_token 120 = .ok (.aload_n 0, 1) := by decide +kernel
theorem dX6_token_121 : decode cX6_token 121 = .ok (.getfield 76, 3) := by decide +kernel
theorem dX6_token_124 : decode cX6_token 124 = .ok (.invokevirtual 86, 3) := by decide +kernel
theorem dX6_token_127 : decode cX6_token 127 = .ok (.putfield 90, 3) := by decide +kernel
theorem dX6_token_130 : decode cX6_token 130 = .ok (.aload_n 0, 1) := by decide +kernel
theorem dX6_token_131 : decode cX6_token 131 = .ok (.aload_n 0, 1) := by decide +kernel
theorem dX6_token_132 : decode cX6_token 132 = .ok (.getfield 90, 3) := by decide +kernel
theorem dX6_token_135 : decode cX6_token 135 = .ok (.ifCond .lt 7, 3) := by decide +kernel
theorem dX6_token_138 : decode cX6_token 138 = .ok (.iconst 1, 1) := by decide +kernel
theorem dX6_token_139 : decode cX6_token 139 = .ok (.goto 22, 3) := by decide +kernel
theorem dX6_token_142 : decode cX6_token 142 = .ok (.aload_n 0, 1) := by decide +kernel
theorem dX6_token_143 : decode cX6_token 143 = .ok (.getfield 76, 3) := by decide +kernel
theorem dX6_token_146 : decode cX6_token 146 = .ok (.aload_n 0, 1) := by decide +kernel
theorem dX6_token_147 : decode cX6_token 147 = .ok (.getfield 70, 3) := by decide +kernel
theorem dX6_token_150 : decode cX6_token 150 = .ok (.isub, 1) := by decide +kernel
theorem dX6_token_151 : decode cX6_token 151 = .ok (.bipush 6, 2) := by decide +kernel
theorem dX6_token_153 : decode cX6_token 153 = .ok (.if_icmp .le 7, 3) := by decide +kernel
theorem dX6_token_156 : decode cX6_token 156 = .ok (.iconst 5, 1) := by decide +kernel
theorem dX6_token_157 : decode cX6_token 157 = .ok (.goto 4, 3) := by decide +kernel
theorem dX6_token_160 : decode cX6_token 160 = .ok (.iconst 2, 1) := by decide +kernel
theorem dX6_token_161 : decode cX6_token 161 = .ok (.putfield 79, 3) := by decide +kernel
theorem dX6_token_164 : decode cX6_token 164 = .ok (.aload_n 0, 1) := by decide +kernel
theorem dX6_token_165 : decode cX6_token 165 = .ok (.getfield 79, 3) := by decide +kernel
theorem dX6_token_168 : decode cX6_token 168 = .ok (.iconst 2, 1) := by decide +kernel
theorem dX6_token_169 : decode cX6_token 169 = .ok (.if_icmp .ne 140, 3) := by decide +kernel
theorem dX6_token_172 : decode cX6_token 172 = .ok (.aload_n 0, 1) := by decide +kernel
theorem dX6_token_173 : decode cX6_token 173 = .ok (.aload_n 0, 1) := by decide +kernel
theorem dX6_token_174 : decode cX6_token 174 = .ok (.aload_n 0, 1) := by decide +kernel
theorem dX6_token_175 : decode cX6_token 175 = .ok (.getfield 70, 3) := by decide +kernel
theorem dX6_token_178 : decode cX6_token 178 = .ok (.aload_n 0, 1) := by decide +kernel
theorem dX6_token_179 : decode cX6_token 179 = .ok (.getfield 76, 3) := by decide +kernel
theorem dX6_token_182 : decode cX6_token 182 = .ok (.invokevirtual 93, 3) := by decide +kernel
theorem dX6_token_185 : decode cX6_token 185 = .ok (.putfield 90, 3) := by decide +kernel
theorem dX6_token_188 : decode cX6_token 188 = .ok (.goto 121, 3) := by decide +kernel
theorem dX6_token_191 : decode cX6_token 191 = .ok (.aload_n 0, 1) := by decide +kernel
theorem dX6_token_192 : decode cX6_token 192 = .ok (.aload_n 0, 1) := by decide +kernel
theorem dX6_token_193 : decode cX6_token 193 = .ok (.getfield 76, 3) := by decide +kernel
theorem dX6_token_196 : decode cX6_token 196 = .ok (.invokevirtual 96, 3) := by decide +kernel
theorem dX6_token_199 : decode cX6_token 199 = .ok (.ifCond .eq 77, 3) := by decide +kernel
theorem dX6_token_202 : decode cX6_token 202 = .ok (.aload_n 0, 1) := by decide +kernel
theorem dX6_token_203 : decode cX6_token 203 = .ok (.iconst 3, 1) := by decide +kernel
theorem dX6_token_204 : decode cX6_token 204 = .ok (.putfield 79, 3) := by decide +kernel
theorem dX6_token_207 : decode cX6_token 207 = .ok (.aload_n 0, 1) := by decide +kernel
theorem dX6_token_208 : decode cX6_token 208 = .ok (.iconst 0, 1) := by decide +kernel
theorem dX6_token_209 : decode cX6_token 209 = .ok (.putfield 90, 3) := by decide +kernel
theorem dX6_token_212 : decode cX6_token 212 = .ok (.aload_n 0, 1) := by decide +kernel
theorem dX6_token_213 : decode cX6_token 213 = .ok (.aload_n 0, 1) := by decide +kernel
theorem dX6_token_214 : decode cX6_token 214 = .ok (.getfield 76, 3) := by decide +kernel
theorem dX6_token_217 : decode cX6_token 217 = .ok (.invokevirtual 96, 3) := by decide +kernel
theorem dX6_token_220 : decode cX6_token 220 = .ok (.ifCond .eq 89, 3) := by decide +kernel
theorem dX6_token_223 : decode cX6_token 223 = .ok (.aload_n 0, 1) := by decide +kernel
theorem dX6_token_224 : decode cX6_token 224 = .ok (.aload_n 0, 1) := by decide +kernel
theorem dX6_token_225 : decode cX6_token 225 = .ok (.getfield 90, 3) := by decide +kernel
theorem dX6_token_228 : decode cX6_token 228 = .ok (.ldc 99, 2) := by decide +kernel
theorem dX6_token_230 : decode cX6_token 230 = .ok (.if_icmp .le 10, 3) := by decide +kernel
theorem dX6_token_233 : decode cX6_token 233 = .ok (.aload_n 0, 1) := by decide +kernel
theorem dX6_token_234 : decode cX6_token 234 = .ok (.getfield 90, 3) := by decide +kernel
theorem dX6_token_237 : decode cX6_token 237 = .ok (.goto 23, 3) := by decide +kernel
theorem dX6_token_240 : decode cX6_token 240 = .ok (.bipush 10, 2) := by decide +kernel
theorem dX6_token_242 : decode cX6_token 242 = .ok (.aload_n 0, 1) := by decide +kernel
theorem dX6_token_243 : decode cX6_token 243 = .ok (.getfield 90, 3) := by decide +kernel
theorem dX6_token_246 : decode cX6_token 246 = .ok (.imul, 1) := by decide +kernel
theorem dX6_token_247 : decode cX6_token 247 = .ok (.aload_n 0, 1) := by decide +kernel
theorem dX6_token_248 : decode cX6_token 248 = .ok (.getfield 7, 3) := by decide +kernel
theorem dX6_token_251 : decode cX6_token 251 = .ok (.aload_n 0, 1) := by decide +kernel
theorem dX6_token_252 : decode cX6_token 252 = .ok (.getfield 76, 3) := by decide +kernel
theorem dX6_token_255 : decode cX6_token 255 = .ok (.iaload, 1) := by decide +kernel
theorem dX6_token_256 : decode cX6_token 256 = .ok (.iadd, 1) := by decide +kernel
theorem dX6_token_257 : decode cX6_token 257 = .ok (.bipush 48, 2) := by decide +kernel
theorem dX6_token_259 : decode cX6_token 259 = .ok (.isub, 1) := by decide +kernel
theorem dX6_token_260 : decode cX6_token 260 = .ok (.putfield 90, 3) := by decide +kernel
theorem dX6_token_263 : decode cX6_token 263 = .ok (.aload_n 0, 1) := by decide +kernel
theorem dX6_token_264 : decode cX6_token 264 = .ok (.dup, 1) := by decide +kernel
theorem dX6_token_265 : decode cX6_token 265 = .ok (.getfield 76, 3) := by decide +kernel
theorem dX6_token_268 : decode cX6_token 268 = .ok (.iconst 1, 1) := by decide +kernel
theorem dX6_token_269 : decode cX6_token 269 = .ok (.iadd, 1) := by decide +kernel
theorem dX6_token_270 : decode cX6_token 270 = .ok (.putfield 76, 3) := by decide +kernel
theorem dX6_token_273 : decode cX6_token 273 = .ok (.goto (-61), 3) := by decide +kernel
theorem dX6_token_276 : decode cX6_token 276 = .ok (.aload_n 0, 1) := by decide +kernel
theorem dX6_token_277 : decode cX6_token 277 = .ok (.aload_n 0, 1) := by decide +kernel
theorem dX6_token_278 : decode cX6_token 278 = .ok (.getfield 7, 3) := by decide +kernel
theorem dX6_token_281 : decode cX6_token 281 = .ok (.aload_n 0, 1) := by decide +kernel
theorem dX6_token_282 : decode cX6_token 282 = .ok (.getfield 76, 3) := by decide +kernel
theorem dX6_token_285 : decode cX6_token 285 = .ok (.iaload, 1) := by decide +kernel
theorem dX6_token_286 : decode cX6_token 286 = .ok (.bipush 59, 2) := by decide +kernel
theorem dX6_token_288 : decode cX6_token 288 = .ok (.if_icmp .ne 7, 3) := by decide +kernel
theorem dX6_token_291 : decode cX6_token 291 = .ok (.iconst 4, 1) := by decide +kernel
theorem dX6_token_292 : decode cX6_token 292 = .ok (.goto 4, 3) := by decide +kernel
theorem dX6_token_295 : decode cX6_token 295 = .ok (.iconst 5, 1) := by decide +kernel
theorem dX6_token_296 : decode cX6_token 296 = .ok (.putfield 79, 3) := by decide +kernel
theorem dX6_token_299 : decode cX6_token 299 = .ok (.aload_n 0, 1) := by decide +kernel
theorem dX6_token_300 : decode cX6_token 300 = .ok (.dup, 1) := by decide +kernel
theorem dX6_token_301 : decode cX6_token 301 = .ok (.getfield 76, 3) := by decide +kernel
theorem dX6_token_304 : decode cX6_token 304 = .ok (.iconst 1, 1) := by decide +kernel
theorem dX6_token_305 : decode cX6_token 305 = .ok (.iadd, 1) := by decide +kernel
theorem dX6_token_306 : decode cX6_token 306 = .ok (.putfield 76, 3) := by decide +kernel
theorem dX6_token_309 : decode cX6_token 309 = .ok (.return_, 1) := by decide +kernel
def Mo_token_296 (s0 : Int32) (d : Sl) : Option (Unit × Sl) :=
  bnd (wr d 34 8 s0) fun d1 =>
  bnd (wr d1 34 7 ((d1 34 7) + (1 : Int32))) fun d2 =>
  some ((), d2)
def Mo_token_260 (k212 : Sl → Option (Unit × Sl)) (s0 : Int32) (d : Sl) : Option (Unit × Sl) :=
  bnd (wr d 34 9 s0) fun d3 =>
  bnd (wr d3 34 7 ((d3 34 7) + (1 : Int32))) fun d4 =>
  k212 d4
def Mo_token_212 : Nat → Sl → Option (Unit × Sl)
  | 0, _ => none
  | n + 1, d =>
    bp (Mo_isDigit d (d 34 7)) fun r5 =>
    if r5 = 0 then
      (some ((), d))
    else
      (if (d 34 9) ≤ (99999 : Int32) then
        (if inb (d 34 7) 700 then
        Mo_token_260 (Mo_token_212 n) ((((10 : Int32) * (d 34 9)) + (d 35 (ix (d 34 7)))) - (48 : Int32)) d
        else none)
      else
        (Mo_token_260 (Mo_token_212 n) (d 34 9) d))
def Mo_token_161 (s0 : Int32) (d : Sl) : Option (Unit × Sl) :=
  bnd (wr d 34 8 s0) fun d6 =>
  if (d6 34 8) = (2 : Int32) then
    (bp (Mo_packed d6 (d6 34 10) (d6 34 7)) fun r7 =>
    bnd (wr d6 34 9 r7) fun d8 =>
    some ((), d8))
  else
    (some ((), d6))
def Mo_token_90 : Nat → Sl → Option (Unit × Sl)
  | 0, _ => none
  | n + 1, d =>
    bp (Mo_isSmall d (d 34 7)) fun r9 =>
    if r9 = 0 then
      (bp (Mo_wordAt d (d 34 10) (d 34 7)) fun r10 =>
      bnd (wr d 34 9 r10) fun d11 =>
      if (d11 34 9) < 0 then
        (if ((d11 34 7) - (d11 34 10)) ≤ (6 : Int32) then
          (Mo_token_161 (2 : Int32) d11)
        else
          (Mo_token_161 (5 : Int32) d11))
      else
        (Mo_token_161 (1 : Int32) d11))
    else
      (bnd (wr d 34 7 ((d 34 7) + (1 : Int32))) fun d12 =>
      Mo_token_90 n d12)
def Mo_token_52 (d : Sl) : Option (Unit × Sl) :=
  bnd (wr d 34 10 (d 34 7)) fun d13 =>
  if (d13 34 7) = (d13 34 6) then
    (bnd (wr d13 34 8 (0 : Int32)) fun d18 =>
    some ((), d18))
  else
    (bp (Mo_isSmall d13 (d13 34 7)) fun r14 =>
    if r14 = 0 then
      (bp (Mo_isDigit d13 (d13 34 7)) fun r15 =>
      if r15 = 0 then
        (if inb (d13 34 7) 700 then
        if (d13 35 (ix (d13 34 7))) = (59 : Int32) then
          (Mo_token_296 (4 : Int32) d13)
        else
          (Mo_token_296 (5 : Int32) d13)
        else none)
      else
        (bnd (wr d13 34 8 (3 : Int32)) fun d16 =>
        bnd (wr d16 34 9 (0 : Int32)) fun d17 =>
        Mo_token_212 FU d17))
    else
      (Mo_token_90 FU d13))
def Mo_token_39 (k0 : Sl → Option (Unit × Sl)) (d : Sl) : Option (Unit × Sl) :=
  bnd (wr d 34 7 ((d 34 7) + (1 : Int32))) fun d19 =>
  k0 d19
def Mo_token_0 : Nat → Sl → Option (Unit × Sl)
  | 0, _ => none
  | n + 1, d =>
    if (d 34 6) ≤ (d 34 7) then
      (Mo_token_52 d)
    else
      (if inb (d 34 7) 700 then
      if (d 35 (ix (d 34 7))) = (10 : Int32) then
        (Mo_token_39 (Mo_token_0 n) d)
      else
        (if inb (d 34 7) 700 then
        if (d 35 (ix (d 34 7))) = (32 : Int32) then
          (Mo_token_39 (Mo_token_0 n) d)
        else
          (Mo_token_52 d)
        else none)
      else none)
def Mo_token (d : Sl) : Option (Unit × Sl) :=
  Mo_token_0 FU d
theorem y_X6_token : YV yX6_token cX6_token 1 none 0 := ⟨q1382, q49, q1383, q149, by decide +kernel, by decide +kernel, by decide +kernel, by decide +kernel⟩
theorem r_Mo_token_296 {C : Cxt} {G : Geo} {M : Mem} {k : Nat} (hC : Cx C cX6_token 1 "FrameHeirsModel" none rm_X6_token G) (hk : LMo G k) (s0 : Int32) (d : Sl) : Rz C 1 G (setS M k) (poM avV (setS M k)) 296 [(0, .inr (k, 34))] [.inl (.int s0), .inr (k, 34)] d (Mo_token_296 s0 d) := by
  unfold Mo_token_296
  refine zs_puti (pc := 296) hC (hk 34 rfl) f_34_8 q1278 dX6_token_296 (fun d1 => ?_)
  refine z_aload_n (pc := 299) hC 0 rfl 0 rfl dX6_token_299 ?_
  refine z_dup (pc := 300) hC rfl dX6_token_300 ?_
  refine zs_geti (pc := 301) hC (hk 34 rfl) f_34_7 q1277 dX6_token_301 ?_
  refine z_iconst (pc := 304) hC (1 : Int32) rfl dX6_token_304 ?_
  refine z_iadd (pc := 305) hC dX6_token_305 ?_
  refine zs_puti (pc := 306) hC (hk 34 rfl) f_34_7 q1277 dX6_token_306 (fun d2 => ?_)
  exact z_vret (pc := 309) hC rfl dX6_token_309
theorem r_Mo_token_260 {C : Cxt} {G : Geo} {M : Mem} {k : Nat} (hC : Cx C cX6_token 1 "FrameHeirsModel" none rm_X6_token G) (hk : LMo G k) (k212 : Sl → Option (Unit × Sl)) (h212 : ∀ (d : Sl), Rz C 1 G (setS M k) (poM avV (setS M k)) 212 [(0, .inr (k, 34))] [] d (k212 d)) (s0 : Int32) (d : Sl) : Rz C 1 G (setS M k) (poM avV (setS M k)) 260 [(0, .inr (k, 34))] [.inl (.int s0), .inr (k, 34)] d (Mo_token_260 k212 s0 d) := by
  unfold Mo_token_260
  refine zs_puti (pc := 260) hC (hk 34 rfl) f_34_9 q1279 dX6_token_260 (fun d3 => ?_)
  refine z_aload_n (pc := 263) hC 0 rfl 0 rfl dX6_token_263 ?_
  refine z_dup (pc := 264) hC rfl dX6_token_264 ?_
  refine zs_geti (pc := 265) hC (hk 34 rfl) f_34_7 q1277 dX6_token_265 ?_
  refine z_iconst (pc := 268) hC (1 : Int32) rfl dX6_token_268 ?_
  refine z_iadd (pc := 269) hC dX6_token_269 ?_
  refine zs_puti (pc := 270) hC (hk 34 rfl) f_34_7 q1277 dX6_token_270 (fun d4 => ?_)
  refine z_goto (pc := 273) hC 212 rfl dX6_token_273 ?_
  exact z_sub [0] rfl (h212 d4)
theorem r_Mo_token_212 {C : Cxt} {G : Geo} {M : Mem} {k : Nat} (hC : Cx C cX6_token 1 "FrameHeirsModel" none rm_X6_token G) (hk : LMo G k) : ∀ (n : Nat) (d : Sl), Rz C 1 G (setS M k) (poM avV (setS M k)) 212 [(0, .inr (k, 34))] [] d (Mo_token_212 n d) := by
  intro n
  induction n with
  | zero => intros; exact z_none
  | succ n ih =>
    intro d
    rw [Mo_token_212]
    refine z_aload_n (pc := 212) hC 0 rfl 0 rfl dX6_token_212 ?_
    refine z_aload_n (pc := 213) hC 0 rfl 0 rfl dX6_token_213 ?_
    refine zs_geti (pc := 214) hC (hk 34 rfl) f_34_7 q1277 dX6_token_214 ?_
    refine z_piV (pc := 217) (st := []) hC y_X6_isDigit q1396 [.inl (.int (d 34 7))] rfl (hk 34 rfl) rfl rfl (c_X6_isDigit hC.2.2.2.2.2.2.1 hk) rfl ⟨rfl, rfl, (Nat.le_of_ble_eq_true rfl), (Nat.le_of_ble_eq_true rfl)⟩ (Nat.le_of_ble_eq_true rfl) dX6_token_217 (fun r5 => ?_)
    refine z_if_eq (pc := 220) hC 309 rfl dX6_token_220 ?_ ?_
    · exact z_vret (pc := 309) hC rfl dX6_token_309
    · refine z_aload_n (pc := 223) hC 0 rfl 0 rfl dX6_token_223 ?_
      refine z_aload_n (pc := 224) hC 0 rfl 0 rfl dX6_token_224 ?_
      refine zs_geti (pc := 225) hC (hk 34 rfl) f_34_9 q1279 dX6_token_225 ?_
      refine z_ldc (pc := 228) hC (99999 : Int32) q1400 dX6_token_228 ?_
      refine z_icmp_le (pc := 230) hC 240 rfl dX6_token_230 ?_ ?_
      · refine z_bipush (pc := 240) hC (10 : Int32) rfl dX6_token_240 ?_
        refine z_aload_n (pc := 242) hC 0 rfl 0 rfl dX6_token_242 ?_
        refine zs_geti (pc := 243) hC (hk 34 rfl) f_34_9 q1279 dX6_token_243 ?_
        refine z_imul (pc := 246) hC dX6_token_246 ?_
        refine z_aload_n (pc := 247) hC 0 rfl 0 rfl dX6_token_247 ?_
        refine z_getc (pc := 248) hC (hk 34 rfl) f_34_0 q1270 dX6_token_248 ?_
        refine z_aload_n (pc := 251) hC 0 rfl 0 rfl dX6_token_251 ?_
        refine zs_geti (pc := 252) hC (hk 34 rfl) f_34_7 q1277 dX6_token_252 ?_
        refine zs_iald (pc := 255) hC (hk 35 rfl) rfl dX6_token_255 ?_
        refine z_iadd (pc := 256) hC dX6_token_256 ?_
        refine z_bipush (pc := 257) hC (48 : Int32) rfl dX6_token_257 ?_
        refine z_isub (pc := 259) hC dX6_token_259 ?_
        exact z_sub [0] rfl (r_Mo_token_260 hC hk _ ih ((((10 : Int32) * (d 34 9)) + (d 35 (ix (d 34 7)))) - (48 : Int32)) d)
      · refine z_aload_n (pc := 233) hC 0 rfl 0 rfl dX6_token_233 ?_
        refine zs_geti (pc := 234) hC (hk 34 rfl) f_34_9 q1279 dX6_token_234 ?_
        refine z_goto (pc := 237) hC 260 rfl dX6_token_237 ?_
        exact z_sub [0] rfl (r_Mo_token_260 hC hk _ ih (d 34 9) d)
theorem r_Mo_token_161 {C : Cxt} {G : Geo} {M : Mem} {k : Nat} (hC : Cx C cX6_token 1 "FrameHeirsModel" none rm_X6_token G) (hk : LMo G k) (s0 : Int32) (d : Sl) : Rz C 1 G (setS M k) (poM avV (setS M k)) 161 [(0, .inr (k, 34))] [.inl (.int s0), .inr (k, 34)] d (Mo_token_161 s0 d) := by
  unfold Mo_token_161
  refine zs_puti (pc := 161) hC (hk 34 rfl) f_34_8 q1278 dX6_token_161 (fun d6 => ?_)
  refine z_aload_n (pc := 164) hC 0 rfl 0 rfl dX6_token_164 ?_
  refine zs_geti (pc := 165) hC (hk 34 rfl) f_34_8 q1278 dX6_token_165 ?_
  refine z_iconst (pc := 168) hC (2 : Int32) rfl dX6_token_168 ?_
  refine z_icmp_ne (pc := 169) hC 309 rfl dX6_token_169 ?_ ?_
  · exact z_vret (pc := 309) hC rfl dX6_token_309
  · refine z_aload_n (pc := 172) hC 0 rfl 0 rfl dX6_token_172 ?_
    refine z_aload_n (pc := 173) hC 0 rfl 0 rfl dX6_token_173 ?_
    refine z_aload_n (pc := 174) hC 0 rfl 0 rfl dX6_token_174 ?_
    refine zs_geti (pc := 175) hC (hk 34 rfl) f_34_10 q1280 dX6_token_175 ?_
    refine z_aload_n (pc := 178) hC 0 rfl 0 rfl dX6_token_178 ?_
    refine zs_geti (pc := 179) hC (hk 34 rfl) f_34_7 q1277 dX6_token_179 ?_
    refine z_piV (pc := 182) (st := [.inr (k, 34)]) hC y_X6_packed q1392 [.inl (.int (d6 34 10)), .inl (.int (d6 34 7))] rfl (hk 34 rfl) rfl rfl (c_X6_packed hC.2.2.2.2.2.2.1 hk) rfl ⟨rfl, rfl, (Nat.le_of_ble_eq_true rfl), (Nat.le_of_ble_eq_true rfl)⟩ (Nat.le_of_ble_eq_true rfl) dX6_token_182 (fun r7 => ?_)
    refine zs_puti (pc := 185) hC (hk 34 rfl) f_34_9 q1279 dX6_token_185 (fun d8 => ?_)
    refine z_goto (pc := 188) hC 309 rfl dX6_token_188 ?_
    exact z_vret (pc := 309) hC rfl dX6_token_309
theorem r_Mo_token_90 {C : Cxt} {G : Geo} {M : Mem} {k : Nat} (hC : Cx C cX6_token 1 "FrameHeirsModel" none rm_X6_token G) (hk : LMo G k) : ∀ (n : Nat) (d : Sl), Rz C 1 G (setS M k) (poM avV (setS M k)) 90 [(0, .inr (k, 34))] [] d (Mo_token_90 n d) := by
  intro n
  induction n with
  | zero => intros; exact z_none
  | succ n ih =>
    intro d
    rw [Mo_token_90]
    refine z_aload_n (pc := 90) hC 0 rfl 0 rfl dX6_token_90 ?_
    refine z_aload_n (pc := 91) hC 0 rfl 0 rfl dX6_token_91 ?_
    refine zs_geti (pc := 92) hC (hk 34 rfl) f_34_7 q1277 dX6_token_92 ?_
    refine z_piV (pc := 95) (st := []) hC y_X6_isSmall q1384 [.inl (.int (d 34 7))] rfl (hk 34 rfl) rfl rfl (c_X6_isSmall hC.2.2.2.2.2.2.1 hk) rfl ⟨rfl, rfl, (Nat.le_of_ble_eq_true rfl), (Nat.le_of_ble_eq_true rfl)⟩ (Nat.le_of_ble_eq_true rfl) dX6_token_95 (fun r9 => ?_)
    refine z_if_eq (pc := 98) hC 114 rfl dX6_token_98 ?_ ?_
    · refine z_aload_n (pc := 114) hC 0 rfl 0 rfl dX6_token_114 ?_
      refine z_aload_n (pc := 115) hC 0 rfl 0 rfl dX6_token_115 ?_
      refine z_aload_n (pc := 116) hC 0 rfl 0 rfl dX6_token_116 ?_
      refine zs_geti (pc := 117) hC (hk 34 rfl) f_34_10 q1280 dX6_token_117 ?_
      refine z_aload_n (pc := 120) hC 0 rfl 0 rfl dX6_token_120 ?_
      refine zs_geti (pc := 121) hC (hk 34 rfl) f_34_7 q1277 dX6_token_121 ?_
      refine z_piV (pc := 124) (st := [.inr (k, 34)]) hC y_X6_wordAt q1388 [.inl (.int (d 34 10)), .inl (.int (d 34 7))] rfl (hk 34 rfl) rfl rfl (c_X6_wordAt hC.2.2.2.2.2.2.1 hk) rfl ⟨rfl, rfl, (Nat.le_of_ble_eq_true rfl), (Nat.le_of_ble_eq_true rfl)⟩ (Nat.le_of_ble_eq_true rfl) dX6_token_124 (fun r10 => ?_)
      refine zs_puti (pc := 127) hC (hk 34 rfl) f_34_9 q1279 dX6_token_127 (fun d11 => ?_)
      refine z_aload_n (pc := 130) hC 0 rfl 0 rfl dX6_token_130 ?_
      refine z_aload_n (pc := 131) hC 0 rfl 0 rfl dX6_token_131 ?_
      refine zs_geti (pc := 132) hC (hk 34 rfl) f_34_9 q1279 dX6_token_132 ?_
      refine z_if_lt (pc := 135) hC 142 rfl dX6_token_135 ?_ ?_
      · refine z_aload_n (pc := 142) hC 0 rfl 0 rfl dX6_token_142 ?_
        refine zs_geti (pc := 143) hC (hk 34 rfl) f_34_7 q1277 dX6_token_143 ?_
        refine z_aload_n (pc := 146) hC 0 rfl 0 rfl dX6_token_146 ?_
        refine zs_geti (pc := 147) hC (hk 34 rfl) f_34_10 q1280 dX6_token_147 ?_
        refine z_isub (pc := 150) hC dX6_token_150 ?_
        refine z_bipush (pc := 151) hC (6 : Int32) rfl dX6_token_151 ?_
        refine z_icmp_le (pc := 153) hC 160 rfl dX6_token_153 ?_ ?_
        · refine z_iconst (pc := 160) hC (2 : Int32) rfl dX6_token_160 ?_
          exact z_sub [0] rfl (r_Mo_token_161 hC hk (2 : Int32) d11)
        · refine z_iconst (pc := 156) hC (5 : Int32) rfl dX6_token_156 ?_
          refine z_goto (pc := 157) hC 161 rfl dX6_token_157 ?_
          exact z_sub [0] rfl (r_Mo_token_161 hC hk (5 : Int32) d11)
      · refine z_iconst (pc := 138) hC (1 : Int32) rfl dX6_token_138 ?_
        refine z_goto (pc := 139) hC 161 rfl dX6_token_139 ?_
        exact z_sub [0] rfl (r_Mo_token_161 hC hk (1 : Int32) d11)
    · refine z_aload_n (pc := 101) hC 0 rfl 0 rfl dX6_token_101 ?_
      refine z_dup (pc := 102) hC rfl dX6_token_102 ?_
      refine zs_geti (pc := 103) hC (hk 34 rfl) f_34_7 q1277 dX6_token_103 ?_
      refine z_iconst (pc := 106) hC (1 : Int32) rfl dX6_token_106 ?_
      refine z_iadd (pc := 107) hC dX6_token_107 ?_
      refine zs_puti (pc := 108) hC (hk 34 rfl) f_34_7 q1277 dX6_token_108 (fun d12 => ?_)
      refine z_goto (pc := 111) hC 90 rfl dX6_token_111 ?_
      exact z_sub [0] rfl (ih d12)
theorem r_Mo_token_52 {C : Cxt} {G : Geo} {M : Mem} {k : Nat} (hC : Cx C cX6_token 1 "FrameHeirsModel" none rm_X6_token G) (hk : LMo G k) (d : Sl) : Rz C 1 G (setS M k) (poM avV (setS M k)) 52 [(0, .inr (k, 34))] [] d (Mo_token_52 d) := by
  unfold Mo_token_52
  refine z_aload_n (pc := 52) hC 0 rfl 0 rfl dX6_token_52 ?_
  refine z_aload_n (pc := 53) hC 0 rfl 0 rfl dX6_token_53 ?_
  refine zs_geti (pc := 54) hC (hk 34 rfl) f_34_7 q1277 dX6_token_54 ?_
  refine zs_puti (pc := 57) hC (hk 34 rfl) f_34_10 q1280 dX6_token_57 (fun d13 => ?_)
  refine z_aload_n (pc := 60) hC 0 rfl 0 rfl dX6_token_60 ?_
  refine zs_geti (pc := 61) hC (hk 34 rfl) f_34_7 q1277 dX6_token_61 ?_
  refine z_aload_n (pc := 64) hC 0 rfl 0 rfl dX6_token_64 ?_
  refine zs_geti (pc := 65) hC (hk 34 rfl) f_34_6 q1276 dX6_token_65 ?_
  refine z_icmp_ne (pc := 68) hC 79 rfl dX6_token_68 ?_ ?_
  · refine z_aload_n (pc := 79) hC 0 rfl 0 rfl dX6_token_79 ?_
    refine z_aload_n (pc := 80) hC 0 rfl 0 rfl dX6_token_80 ?_
    refine zs_geti (pc := 81) hC (hk 34 rfl) f_34_7 q1277 dX6_token_81 ?_
    refine z_piV (pc := 84) (st := []) hC y_X6_isSmall q1384 [.inl (.int (d13 34 7))] rfl (hk 34 rfl) rfl rfl (c_X6_isSmall hC.2.2.2.2.2.2.1 hk) rfl ⟨rfl, rfl, (Nat.le_of_ble_eq_true rfl), (Nat.le_of_ble_eq_true rfl)⟩ (Nat.le_of_ble_eq_true rfl) dX6_token_84 (fun r14 => ?_)
    refine z_if_eq (pc := 87) hC 191 rfl dX6_token_87 ?_ ?_
    · refine z_aload_n (pc := 191) hC 0 rfl 0 rfl dX6_token_191 ?_
      refine z_aload_n (pc := 192) hC 0 rfl 0 rfl dX6_token_192 ?_
      refine zs_geti (pc := 193) hC (hk 34 rfl) f_34_7 q1277 dX6_token_193 ?_
      refine z_piV (pc := 196) (st := []) hC y_X6_isDigit q1396 [.inl (.int (d13 34 7))] rfl (hk 34 rfl) rfl rfl (c_X6_isDigit hC.2.2.2.2.2.2.1 hk) rfl ⟨rfl, rfl, (Nat.le_of_ble_eq_true rfl), (Nat.le_of_ble_eq_true rfl)⟩ (Nat.le_of_ble_eq_true rfl) dX6_token_196 (fun r15 => ?_)
      refine z_if_eq (pc := 199) hC 276 rfl dX6_token_199 ?_ ?_
      · refine z_aload_n (pc := 276) hC 0 rfl 0 rfl dX6_token_276 ?_
        refine z_aload_n (pc := 277) hC 0 rfl 0 rfl dX6_token_277 ?_
        refine z_getc (pc := 278) hC (hk 34 rfl) f_34_0 q1270 dX6_token_278 ?_
        refine z_aload_n (pc := 281) hC 0 rfl 0 rfl dX6_token_281 ?_
        refine zs_geti (pc := 282) hC (hk 34 rfl) f_34_7 q1277 dX6_token_282 ?_
        refine zs_iald (pc := 285) hC (hk 35 rfl) rfl dX6_token_285 ?_
        refine z_bipush (pc := 286) hC (59 : Int32) rfl dX6_token_286 ?_
        refine z_icmp_ne (pc := 288) hC 295 rfl dX6_token_288 ?_ ?_
        · refine z_iconst (pc := 295) hC (5 : Int32) rfl dX6_token_295 ?_
          exact z_sub [0] rfl (r_Mo_token_296 hC hk (5 : Int32) d13)
        · refine z_iconst (pc := 291) hC (4 : Int32) rfl dX6_token_291 ?_
          refine z_goto (pc := 292) hC 296 rfl dX6_token_292 ?_
          exact z_sub [0] rfl (r_Mo_token_296 hC hk (4 : Int32) d13)
      · refine z_aload_n (pc := 202) hC 0 rfl 0 rfl dX6_token_202 ?_
        refine z_iconst (pc := 203) hC (3 : Int32) rfl dX6_token_203 ?_
        refine zs_puti (pc := 204) hC (hk 34 rfl) f_34_8 q1278 dX6_token_204 (fun d16 => ?_)
        refine z_aload_n (pc := 207) hC 0 rfl 0 rfl dX6_token_207 ?_
        refine z_iconst (pc := 208) hC (0 : Int32) rfl dX6_token_208 ?_
        refine zs_puti (pc := 209) hC (hk 34 rfl) f_34_9 q1279 dX6_token_209 (fun d17 => ?_)
        exact z_sub [0] rfl (r_Mo_token_212 hC hk FU d17)
    · exact z_sub [0] rfl (r_Mo_token_90 hC hk FU d13)
  · refine z_aload_n (pc := 71) hC 0 rfl 0 rfl dX6_token_71 ?_
    refine z_iconst (pc := 72) hC (0 : Int32) rfl dX6_token_72 ?_
    refine zs_puti (pc := 73) hC (hk 34 rfl) f_34_8 q1278 dX6_token_73 (fun d18 => ?_)
    refine z_goto (pc := 76) hC 309 rfl dX6_token_76 ?_
    exact z_vret (pc := 309) hC rfl dX6_token_309
theorem r_Mo_token_39 {C : Cxt} {G : Geo} {M : Mem} {k : Nat} (hC : Cx C cX6_token 1 "FrameHeirsModel" none rm_X6_token G) (hk : LMo G k) (k0 : Sl → Option (Unit × Sl)) (h0 : ∀ (d : Sl), Rz C 1 G (setS M k) (poM avV (setS M k)) 0 [(0, .inr (k, 34))] [] d (k0 d)) (d : Sl) : Rz C 1 G (setS M k) (poM avV (setS M k)) 39 [(0, .inr (k, 34))] [] d (Mo_token_39 k0 d) := by
  unfold Mo_token_39
  refine z_aload_n (pc := 39) hC 0 rfl 0 rfl dX6_token_39 ?_
  refine z_dup (pc := 40) hC rfl dX6_token_40 ?_
  refine zs_geti (pc := 41) hC (hk 34 rfl) f_34_7 q1277 dX6_token_41 ?_
  refine z_iconst (pc := 44) hC (1 : Int32) rfl dX6_token_44 ?_
  refine z_iadd (pc := 45) hC dX6_token_45 ?_
  refine zs_puti (pc := 46) hC (hk 34 rfl) f_34_7 q1277 dX6_token_46 (fun d19 => ?_)
  refine z_goto (pc := 49) hC 0 rfl dX6_token_49 ?_
  exact z_sub [0] rfl (h0 d19)
theorem r_Mo_token_0 {C : Cxt} {G : Geo} {M : Mem} {k : Nat} (hC : Cx C cX6_token 1 "FrameHeirsModel" none rm_X6_token G) (hk : LMo G k) : ∀ (n : Nat) (d : Sl), Rz C 1 G (setS M k) (poM avV (setS M k)) 0 [(0, .inr (k, 34))] [] d (Mo_token_0 n d) := by
  intro n
  induction n with
  | zero => intros; exact z_none
  | succ n ih =>
    intro d
    rw [Mo_token_0]
    refine z_aload_n (pc := 0) hC 0 rfl 0 rfl dX6_token_0 ?_
    refine zs_geti (pc := 1) hC (hk 34 rfl) f_34_7 q1277 dX6_token_1 ?_
    refine z_aload_n (pc := 4) hC 0 rfl 0 rfl dX6_token_4 ?_
    refine zs_geti (pc := 5) hC (hk 34 rfl) f_34_6 q1276 dX6_token_5 ?_
    refine z_icmp_ge (pc := 8) hC 52 rfl dX6_token_8 ?_ ?_
    · exact z_sub [0] rfl (r_Mo_token_52 hC hk d)
    · refine z_aload_n (pc := 11) hC 0 rfl 0 rfl dX6_token_11 ?_
      refine z_getc (pc := 12) hC (hk 34 rfl) f_34_0 q1270 dX6_token_12 ?_
      refine z_aload_n (pc := 15) hC 0 rfl 0 rfl dX6_token_15 ?_
      refine zs_geti (pc := 16) hC (hk 34 rfl) f_34_7 q1277 dX6_token_16 ?_
      refine zs_iald (pc := 19) hC (hk 35 rfl) rfl dX6_token_19 ?_
      refine z_bipush (pc := 20) hC (10 : Int32) rfl dX6_token_20 ?_
      refine z_icmp_eq (pc := 22) hC 39 rfl dX6_token_22 ?_ ?_
      · exact z_sub [0] rfl (r_Mo_token_39 hC hk _ ih d)
      · refine z_aload_n (pc := 25) hC 0 rfl 0 rfl dX6_token_25 ?_
        refine z_getc (pc := 26) hC (hk 34 rfl) f_34_0 q1270 dX6_token_26 ?_
        refine z_aload_n (pc := 29) hC 0 rfl 0 rfl dX6_token_29 ?_
        refine zs_geti (pc := 30) hC (hk 34 rfl) f_34_7 q1277 dX6_token_30 ?_
        refine zs_iald (pc := 33) hC (hk 35 rfl) rfl dX6_token_33 ?_
        refine z_bipush (pc := 34) hC (32 : Int32) rfl dX6_token_34 ?_
        refine z_icmp_ne (pc := 36) hC 52 rfl dX6_token_36 ?_ ?_
        · exact z_sub [0] rfl (r_Mo_token_52 hC hk d)
        · exact z_sub [0] rfl (r_Mo_token_39 hC hk _ ih d)
theorem r_Mo_token {C : Cxt} {G : Geo} {M : Mem} {k : Nat} (hC : Cx C cX6_token 1 "FrameHeirsModel" none rm_X6_token G) (hk : LMo G k) (d : Sl) : Rz C 1 G (setS M k) (poM avV (setS M k)) 0 [(0, .inr (k, 34))] [] d (Mo_token d) := by
  unfold Mo_token
  exact z_sub [0] rfl (r_Mo_token_0 hC hk FU d)
theorem c_X6_token {G : Geo} {M : Mem} {k : Nat} (hG : GOk G) (hk : LMo G k) {d : Sl} (l : Launch) (r : Unit) (d1 : Sl) (h : Mo_token d = some (r, d1)) : Mt l yX6_token cX6_token 1 none rm_X6_token G [.inr (k, 34)] ((setS M k) d) (avV r) ((setS M k) d1) :=
  mt_of (mem := (setS M k)) (po := poM avV (setS M k)) (x0 := d) (t := (r, d1)) rfl hG [.inr (k, 34)] (Nat.le_of_ble_eq_true rfl) rfl (fun C hC => r_Mo_token hC hk d) h
-- FrameHeirsModel.find(III)I
abbrev rm_X6_find : Room := { frames := 0, cells := 0, slots := 0, locals := 0 }
theorem dX6_find_0 : decode cX6_find 0 = .ok (.iconst 0, 1) := by decide +kernel
theorem dX6_find_1 : decode cX6_find 1 = .ok (.istore 4, 2) := by decide +kernel
theorem dX6_find_3 : decode cX6_find 3 = .ok (.iload 4, 2) := by decide +kernel
theorem dX6_find_5 : decode cX6_find 5 = .ok (.iload_n 2, 1) := by decide +kernel
theorem dX6_find_6 : decode cX6_find 6 = .ok (.if_icmp .ge 25, 3) := by decide +kernel
theorem dX6_find_9 : decode cX6_find 9 = .ok (.aload_n 0, 1) := by decide +kernel
theorem dX6_find_10 : decode cX6_find 10 = .ok (.getfield 20, 3) := by decide +kernel
theorem dX6_find_13 : decode cX6_find 13 = .ok (.iload_n 1, 1) := by decide +kernel
theorem dX6_find_14 : decode cX6_find 14 = .ok (.iload 4, 2) := by decide +kernel
theorem dX6_find_16 : decode cX6_find 16 = .ok (.iadd, 1) := by decide +kernel
theorem dX6_find_17 : decode cX6_find 17 = .ok (.iaload, 1) := by decide +kernel
theorem dX6_find_18 : decode cX6_find 18 = .ok (.iload_n 3, 1) := by decide +kernel
theorem dX6_find_19 : decode cX6_find 19 = .ok (.if_icmp .ne 6, 3) := by decide +kernel
theorem dX6_find_22 : decode cX6_find 22 = .ok (.iload 4, 2) := by decide +kernel
theorem dX6_find_24 : decode cX6_find 24 = .ok (.ireturn, 1) := by decide +kernel
theorem dX6_find_25 : decode cX6_find 25 = .ok (.iinc 4 1, 3) := by decide +kernel
theorem dX6_find_28 : decode cX6_find 28 = .ok (.goto (-25), 3) := by decide +kernel
theorem dX6_find_31 : decode cX6_find 31 = .ok (.iconst (-1), 1) := by decide +kernel
theorem dX6_find_32 : decode cX6_find 32 = .ok (.ireturn, 1) := by decide +kernel
def Mo_find_3 (d : Sl) : Nat → Int32 → Int32 → Int32 → Int32 → Option Int32
  | 0, _, _, _, _ => none
  | n + 1, v1, v2, v3, v4 =>
    if v2 ≤ v4 then
      (some (-1 : Int32))
    else
      (if inb (v1 + v4) 12 then
      if (d 37 (ix (v1 + v4))) = v3 then
        (some v4)
      else
        (bnd (v4 + (1 : Int32)) fun v4_1 =>
        Mo_find_3 d n v1 v2 v3 v4_1)
      else none)
def Mo_find (d : Sl) (a1 : Int32) (a2 : Int32) (a3 : Int32) : Option Int32 :=
  bnd (0 : Int32) fun v4_2 =>
  Mo_find_3 d FU a1 a2 a3 v4_2
theorem y_X6_find : YV yX6_find cX6_find 5 (some .int) 3 := ⟨q1415, q57, q1416, q149, by decide +kernel, by decide +kernel, by decide +kernel, by decide +kernel⟩
theorem r_Mo_find_3 {C : Cxt} {G : Geo} {M : Mem} {k : Nat} {d : Sl} (hC : Cx C cX6_find 5 "FrameHeirsModel" (some .int) rm_X6_find G) (hk : LMo G k) : ∀ (n : Nat) (v1 : Int32) (v2 : Int32) (v3 : Int32) (v4 : Int32), Rz C 5 G (setS M k) (poP avI ((setS M k) d)) 3 [(0, .inr (k, 34)), (1, .inl (.int v1)), (2, .inl (.int v2)), (3, .inl (.int v3)), (4, .inl (.int v4))] [] d (Mo_find_3 d n v1 v2 v3 v4) := by
  intro n
  induction n with
  | zero => intros; exact z_none
  | succ n ih =>
    intro v1 v2 v3 v4
    rw [Mo_find_3]
    refine z_iload (pc := 3) hC 4 4 rfl dX6_find_3 ?_
    refine z_iload_n (pc := 5) hC 2 rfl 2 rfl dX6_find_5 ?_
    refine z_icmp_ge (pc := 6) hC 31 rfl dX6_find_6 ?_ ?_
    · refine z_iconst (pc := 31) hC (-1 : Int32) rfl dX6_find_31 ?_
      exact z_iret (pc := 32) hC rfl dX6_find_32
    · refine z_aload_n (pc := 9) hC 0 rfl 0 rfl dX6_find_9 ?_
      refine z_getc (pc := 10) hC (hk 34 rfl) f_34_15 q1285 dX6_find_10 ?_
      refine z_iload_n (pc := 13) hC 1 rfl 1 rfl dX6_find_13 ?_
      refine z_iload (pc := 14) hC 4 4 rfl dX6_find_14 ?_
      refine z_iadd (pc := 16) hC dX6_find_16 ?_
      refine zs_iald (pc := 17) hC (hk 37 rfl) rfl dX6_find_17 ?_
      refine z_iload_n (pc := 18) hC 3 rfl 3 rfl dX6_find_18 ?_
      refine z_icmp_ne (pc := 19) hC 25 rfl dX6_find_19 ?_ ?_
      · refine z_iinc (pc := 25) (ls1 := fun v => [(4, .inl (.int v)), (0, .inr (k, 34)), (1, .inl (.int v1)), (2, .inl (.int v2)), (3, .inl (.int v3))]) hC 4 4 (by decide) (1 : Int32) rfl rfl (fun v => rfl) dX6_find_25 (fun v4_1 => ?_)
        refine z_goto (pc := 28) hC 3 rfl dX6_find_28 ?_
        exact z_sub [1, 2, 3, 4, 0] rfl (ih v1 v2 v3 v4_1)
      · refine z_iload (pc := 22) hC 4 4 rfl dX6_find_22 ?_
        exact z_iret (pc := 24) hC rfl dX6_find_24
theorem r_Mo_find {C : Cxt} {G : Geo} {M : Mem} {k : Nat} (hC : Cx C cX6_find 5 "FrameHeirsModel" (some .int) rm_X6_find G) (hk : LMo G k) (d : Sl) (a1 : Int32) (a2 : Int32) (a3 : Int32) : Rz C 5 G (setS M k) (poP avI ((setS M k) d)) 0 [(0, .inr (k, 34)), (1, .inl (.int a1)), (2, .inl (.int a2)), (3, .inl (.int a3))] [] d (Mo_find d a1 a2 a3) := by
  unfold Mo_find
  refine z_iconst (pc := 0) hC (0 : Int32) rfl dX6_find_0 ?_
  refine z_istore (pc := 1) (ls1 := fun v => [(4, .inl (.int v)), (0, .inr (k, 34)), (1, .inl (.int a1)), (2, .inl (.int a2)), (3, .inl (.int a3))]) hC 4 (by decide) (fun v => rfl) dX6_find_1 (fun v4_2 => ?_)
  exact z_sub [1, 2, 3, 4, 0] rfl (r_Mo_find_3 hC hk FU a1 a2 a3 v4_2)
theorem c_X6_find {G : Geo} {M : Mem} {k : Nat} (hG : GOk G) (hk : LMo G k) {d : Sl} {a1 : Int32} {a2 : Int32} {a3 : Int32} (l : Launch) (r : Int32) (h : Mo_find d a1 a2 a3 = some r) : Mt l yX6_find cX6_find 5 (some .int) rm_X6_find G [.inr (k, 34), .inl (.int a1), .inl (.int a2), .inl (.int a3)] ((setS M k) d) (avI r) ((setS M k) d) :=
  mt_of (mem := (setS M k)) (po := poP avI ((setS M k) d)) (x0 := d) (t := r) rfl hG [.inr (k, 34), .inl (.int a1), .inl (.int a2), .inl (.int a3)] (Nat.le_of_ble_eq_true rfl) rfl (fun C hC => r_Mo_find hC hk d a1 a2 a3) h
-- FrameHeirsModel.number(II)Z
abbrev rm_X6_number : Room := { frames := 2, cells := 0, slots := 0, locals := 47 }
theorem dX6_number_0 : decode cX6_number 0 = .ok (.aload_n 0, 1) := by decide +kernel
theorem dX6_number_1 : decode cX6_number 1 = .ok (.getfield 79, 3) := by decide +kernel
theorem dX6_number_4 : decode cX6_number 4 = .ok (.iconst 3, 1) := by decide +kernel
theorem dX6_number_5 : decode cX6_number 5 = .ok (.if_icmp .eq 9, 3) := by decide +kernel
theorem dX6_number_8 : decode cX6_number 8 = .ok (.aload_n 0, 1) := by decide +kernel
theorem dX6_number_9 : decode cX6_number 9 = .ok (.iconst 1, 1) := by decide +kernel
theorem dX6_number_10 : decode cX6_number 10 = .ok (.invokevirtual 134, 3) := by decide +kernel
theorem dX6_number_13 : decode cX6_number 13 = .ok (.ireturn, 1) := by decide +kernel
theorem dX6_number_14 : decode cX6_number 14 = .ok (.aload_n 0, 1) := by decide +kernel
theorem dX6_number_15 : decode cX6_number 15 = .ok (.getfield 90, 3) := by decide +kernel
theorem dX6_number_18 : decode cX6_number 18 = .ok (.iload_n 1, 1) := by decide +kernel
theorem dX6_number_19 : decode cX6_number 19 = .ok (.iload_n 2, 1) := by decide +kernel
theorem dX6_number_20 : decode cX6_number 20 = .ok (.invokestatic 137, 3) := by decide +kernel
theorem dX6_number_23 : decode cX6_number 23 = .ok (.ifCond .ne 9, 3) := by decide +kernel
theorem dX6_number_26 : decode cX6_number 26 = .ok (.aload_n 0, 1) := by decide +kernel
theorem dX6_number_27 : decode cX6_number 27 = .ok (.iconst 2, 1) := by decide +kernel
theorem dX6_number_28 : decode cX6_number 28 = .ok (.invokevirtual 134, 3) := by decide +kernel
theorem dX6_number_31 : decode cX6_number 31 = .ok (.ireturn, 1) := by decide +kernel
theorem dX6_number_32 : decode cX6_number 32 = .ok (.aload_n 0, 1) := by decide +kernel
theorem dX6_number_33 : decode cX6_number 33 = .ok (.aload_n 0, 1) := by decide +kernel
theorem dX6_number_34 : decode cX6_number 34 = .ok (.getfield 90, 3) := by decide +kernel
theorem dX6_number_37 : decode cX6_number 37 = .ok (.putfield 141, 3) := by decide +kernel
theorem dX6_number_40 : decode cX6_number 40 = .ok (.aload_n 0, 1) := by decide +kernel
theorem dX6_number_41 : decode cX6_number 41 = .ok (.invokevirtual 144, 3) := by decide +kernel
theorem dX6_number_44 : decode cX6_number 44 = .ok (.iconst 1, 1) := by decide +kernel
theorem dX6_number_45 : decode cX6_number 45 = .ok (.ireturn, 1) := by decide +kernel
def Mo_number (d : Sl) (a1 : Int32) (a2 : Int32) : Option (Int32 × Sl) :=
  if (d 34 8) = (3 : Int32) then
    (bp (Mo_isIn (d 34 9) a1 a2) fun r1 =>
    if r1 = 0 then
      (bd (Mo_wrong d (2 : Int32)) fun r5 d6 =>
      if r5 = 0 ∨ r5 = 1 then some (r5, d6) else none)
    else
      (bnd (wr d 34 23 (d 34 9)) fun d2 =>
      bd (Mo_token d2) fun r3 d4 =>
      some ((1 : Int32), d4)))
  else
    (bd (Mo_wrong d (1 : Int32)) fun r7 d8 =>
    if r7 = 0 ∨ r7 = 1 then some (r7, d8) else none)
theorem y_X6_number : YV yX6_number cX6_number 3 (some .boolean) 2 := ⟨q1427, q60, q1428, q149, by decide +kernel, by decide +kernel, by decide +kernel, by decide +kernel⟩
theorem r_Mo_number {C : Cxt} {G : Geo} {M : Mem} {k : Nat} (hC : Cx C cX6_number 3 "FrameHeirsModel" (some .boolean) rm_X6_number G) (hk : LMo G k) (d : Sl) (a1 : Int32) (a2 : Int32) : Rz C 3 G (setS M k) (poM avI (setS M k)) 0 [(0, .inr (k, 34)), (1, .inl (.int a1)), (2, .inl (.int a2))] [] d (Mo_number d a1 a2) := by
  unfold Mo_number
  refine z_aload_n (pc := 0) hC 0 rfl 0 rfl dX6_number_0 ?_
  refine zs_geti (pc := 1) hC (hk 34 rfl) f_34_8 q1278 dX6_number_1 ?_
  refine z_iconst (pc := 4) hC (3 : Int32) rfl dX6_number_4 ?_
  refine z_icmp_eq (pc := 5) hC 14 rfl dX6_number_5 ?_ ?_
  · refine z_aload_n (pc := 14) hC 0 rfl 0 rfl dX6_number_14 ?_
    refine zs_geti (pc := 15) hC (hk 34 rfl) f_34_9 q1279 dX6_number_15 ?_
    refine z_iload_n (pc := 18) hC 1 rfl 1 rfl dX6_number_18 ?_
    refine z_iload_n (pc := 19) hC 2 rfl 2 rfl dX6_number_19 ?_
    refine z_piS (pc := 20) (st := []) hC y_X6_isIn q1429 [.inl (.int (d 34 9)), .inl (.int a1), .inl (.int a2)] rfl (c_X6_isIn hC.2.2.2.2.2.2.1) rfl ⟨rfl, rfl, (Nat.le_of_ble_eq_true rfl), (Nat.le_of_ble_eq_true rfl)⟩ (Nat.le_of_ble_eq_true rfl) dX6_number_20 (fun r1 => ?_)
    refine z_if_ne (pc := 23) hC 32 rfl dX6_number_23 ?_ ?_
    · refine z_aload_n (pc := 32) hC 0 rfl 0 rfl dX6_number_32 ?_
      refine z_aload_n (pc := 33) hC 0 rfl 0 rfl dX6_number_33 ?_
      refine zs_geti (pc := 34) hC (hk 34 rfl) f_34_9 q1279 dX6_number_34 ?_
      refine zs_puti (pc := 37) hC (hk 34 rfl) f_34_23 q1293 dX6_number_37 (fun d2 => ?_)
      refine z_aload_n (pc := 40) hC 0 rfl 0 rfl dX6_number_40 ?_
      refine z_cvV (pc := 41) (st := []) hC y_X6_token q1380 [] rfl (hk 34 rfl) rfl rfl (c_X6_token hC.2.2.2.2.2.2.1 hk) rfl ⟨rfl, rfl, (Nat.le_of_ble_eq_true rfl), (Nat.le_of_ble_eq_true rfl)⟩ (Nat.le_of_ble_eq_true rfl) dX6_number_41 (fun r3 d4 => ?_)
      refine z_iconst (pc := 44) hC (1 : Int32) rfl dX6_number_44 ?_
      exact z_zret (pc := 45) hC rfl rfl dX6_number_45
    · refine z_aload_n (pc := 26) hC 0 rfl 0 rfl dX6_number_26 ?_
      refine z_iconst (pc := 27) hC (2 : Int32) rfl dX6_number_27 ?_
      refine z_ciV (pc := 28) (st := []) hC y_X6_wrong q1405 [.inl (.int (2 : Int32))] rfl (hk 34 rfl) rfl rfl (c_X6_wrong hC.2.2.2.2.2.2.1 hk) rfl ⟨rfl, rfl, (Nat.le_of_ble_eq_true rfl), (Nat.le_of_ble_eq_true rfl)⟩ (Nat.le_of_ble_eq_true rfl) dX6_number_28 (fun r5 d6 => ?_)
      exact z_zretG (pc := 31) hC rfl dX6_number_31
  · refine z_aload_n (pc := 8) hC 0 rfl 0 rfl dX6_number_8 ?_
    refine z_iconst (pc := 9) hC (1 : Int32) rfl dX6_number_9 ?_
    refine z_ciV (pc := 10) (st := []) hC y_X6_wrong q1405 [.inl (.int (1 : Int32))] rfl (hk 34 rfl) rfl rfl (c_X6_wrong hC.2.2.2.2.2.2.1 hk) rfl ⟨rfl, rfl, (Nat.le_of_ble_eq_true rfl), (Nat.le_of_ble_eq_true rfl)⟩ (Nat.le_of_ble_eq_true rfl) dX6_number_10 (fun r7 d8 => ?_)
    exact z_zretG (pc := 13) hC rfl dX6_number_13
theorem c_X6_number {G : Geo} {M : Mem} {k : Nat} (hG : GOk G) (hk : LMo G k) {d : Sl} {a1 : Int32} {a2 : Int32} (l : Launch) (r : Int32) (d1 : Sl) (h : Mo_number d a1 a2 = some (r, d1)) : Mt l yX6_number cX6_number 3 (some .boolean) rm_X6_number G [.inr (k, 34), .inl (.int a1), .inl (.int a2)] ((setS M k) d) (avI r) ((setS M k) d1) :=
  mt_of (mem := (setS M k)) (po := poM avI (setS M k)) (x0 := d) (t := (r, d1)) rfl hG [.inr (k, 34), .inl (.int a1), .inl (.int a2)] (Nat.le_of_ble_eq_true rfl) rfl (fun C hC => r_Mo_number hC hk d a1 a2) h
-- FrameHeirsModel.spaceRead()Z
abbrev rm_X6_spaceRead : Room := { frames := 1, cells := 0, slots := 0, locals := 24 }
theorem dX6_spaceRead_0 : decode cX6_spaceRead 0 = .ok (.aload_n 0, 1) := by decide +kernel
theorem dX6_spaceRead_1 : decode cX6_spaceRead 1 = .ok (.getfield 79, 3) := by decide +kernel
theorem dX6_spaceRead_4 : decode cX6_spaceRead 4 = .ok (.iconst 2, 1) := by decide +kernel
theorem dX6_spaceRead_5 : decode cX6_spaceRead 5 = .ok (.if_icmp .eq 9, 3) := by decide +kernel
theorem dX6_spaceRead_8 : decode cX6_spaceRead 8 = .ok (.aload_n 0, 1) := by decide +kernel
theorem dX6_spaceRead_9 : decode cX6_spaceRead 9 = .ok (.iconst 1, 1) := by decide +kernel
theorem dX6_spaceRead_10 : decode cX6_spaceRead 10 = .ok (.invokevirtual 134, 3) := by decide +kernel
theorem dX6_spaceRead_13 : decode cX6_spaceRead 13 = .ok (.ireturn, 1) := by decide +kernel
theorem dX6_spaceRead_14 : decode cX6_spaceRead 14 = .ok (.aload_n 0, 1) := by decide +kernel
theorem dX6_spaceRead_15 : decode cX6_spaceRead 15 = .ok (.aload_n 0, 1) := by decide +kernel
theorem dX6_spaceRead_16 : decode cX6_spaceRead 16 = .ok (.bipush 6, 2) := by decide +kernel
theorem dX6_spaceRead_18 : decode cX6_spaceRead 18 = .ok (.aload_n 0, 1) := by decide +kernel
theorem dX6_spaceRead_19 : decode cX6_spaceRead 19 = .ok (.getfield 100, 3) := by decide +kernel
theorem dX6_spaceRead_22 : decode cX6_spaceRead 22 = .ok (.aload_n 0, 1) := by decide +kernel
theorem dX6_spaceRead_23 : decode cX6_spaceRead 23 = .ok (.getfield 90, 3) := by decide +kernel
theorem dX6_spaceRead_26 : decode cX6_spaceRead 26 = .ok (.invokevirtual 147, 3) := by decide +kernel
theorem dX6_spaceRead_29 : decode cX6_spaceRead 29 = .ok (.putfield 141, 3) := by decide +kernel
theorem dX6_spaceRead_32 : decode cX6_spaceRead 32 = .ok (.aload_n 0, 1) := by decide +kernel
theorem dX6_spaceRead_33 : decode cX6_spaceRead 33 = .ok (.getfield 141, 3) := by decide +kernel
theorem dX6_spaceRead_36 : decode cX6_spaceRead 36 = .ok (.ifCond .ge 11, 3) := by decide +kernel
theorem dX6_spaceRead_39 : decode cX6_spaceRead 39 = .ok (.aload_n 0, 1) := by decide +kernel
theorem dX6_spaceRead_40 : decode cX6_spaceRead 40 = .ok (.iconst 4, 1) := by decide +kernel
theorem dX6_spaceRead_41 : decode cX6_spaceRead 41 = .ok (.invokevirtual 134, 3) := by decide +kernel
theorem dX6_spaceRead_44 : decode cX6_spaceRead 44 = .ok (.ifCond .eq 7, 3) := by decide +kernel
theorem dX6_spaceRead_47 : decode cX6_spaceRead 47 = .ok (.iconst 1, 1) := by decide +kernel
theorem dX6_spaceRead_48 : decode cX6_spaceRead 48 = .ok (.goto 4, 3) := by decide +kernel
theorem dX6_spaceRead_51 : decode cX6_spaceRead 51 = .ok (.iconst 0, 1) := by decide +kernel
theorem dX6_spaceRead_52 : decode cX6_spaceRead 52 = .ok (.ireturn, 1) := by decide +kernel
def Mo_spaceRead (d : Sl) : Option (Int32 × Sl) :=
  if (d 34 8) = (2 : Int32) then
    (bp (Mo_find d (6 : Int32) (d 34 12) (d 34 9)) fun r1 =>
    bnd (wr d 34 23 r1) fun d2 =>
    if 0 ≤ (d2 34 23) then
      (some ((1 : Int32), d2))
    else
      (bd (Mo_wrong d2 (4 : Int32)) fun r3 d4 =>
      if r3 = 0 then
        (some ((0 : Int32), d4))
      else
        (some ((1 : Int32), d4))))
  else
    (bd (Mo_wrong d (1 : Int32)) fun r5 d6 =>
    if r5 = 0 ∨ r5 = 1 then some (r5, d6) else none)
theorem y_X6_spaceRead : YV yX6_spaceRead cX6_spaceRead 1 (some .boolean) 0 := ⟨q1423, q59, q1424, q149, by decide +kernel, by decide +kernel, by decide +kernel, by decide +kernel⟩
theorem r_Mo_spaceRead {C : Cxt} {G : Geo} {M : Mem} {k : Nat} (hC : Cx C cX6_spaceRead 1 "FrameHeirsModel" (some .boolean) rm_X6_spaceRead G) (hk : LMo G k) (d : Sl) : Rz C 1 G (setS M k) (poM avI (setS M k)) 0 [(0, .inr (k, 34))] [] d (Mo_spaceRead d) := by
  unfold Mo_spaceRead
  refine z_aload_n (pc := 0) hC 0 rfl 0 rfl dX6_spaceRead_0 ?_
  refine zs_geti (pc := 1) hC (hk 34 rfl) f_34_8 q1278 dX6_spaceRead_1 ?_
  refine z_iconst (pc := 4) hC (2 : Int32) rfl dX6_spaceRead_4 ?_
  refine z_icmp_eq (pc := 5) hC 14 rfl dX6_spaceRead_5 ?_ ?_
  · refine z_aload_n (pc := 14) hC 0 rfl 0 rfl dX6_spaceRead_14 ?_
    refine z_aload_n (pc := 15) hC 0 rfl 0 rfl dX6_spaceRead_15 ?_
    refine z_bipush (pc := 16) hC (6 : Int32) rfl dX6_spaceRead_16 ?_
    refine z_aload_n (pc := 18) hC 0 rfl 0 rfl dX6_spaceRead_18 ?_
    refine zs_geti (pc := 19) hC (hk 34 rfl) f_34_12 q1282 dX6_spaceRead_19 ?_
    refine z_aload_n (pc := 22) hC 0 rfl 0 rfl dX6_spaceRead_22 ?_
    refine zs_geti (pc := 23) hC (hk 34 rfl) f_34_9 q1279 dX6_spaceRead_23 ?_
    refine z_piV (pc := 26) (st := [.inr (k, 34)]) hC y_X6_find q1413 [.inl (.int (6 : Int32)), .inl (.int (d 34 12)), .inl (.int (d 34 9))] rfl (hk 34 rfl) rfl rfl (c_X6_find hC.2.2.2.2.2.2.1 hk) rfl ⟨rfl, rfl, (Nat.le_of_ble_eq_true rfl), (Nat.le_of_ble_eq_true rfl)⟩ (Nat.le_of_ble_eq_true rfl) dX6_spaceRead_26 (fun r1 => ?_)
    refine zs_puti (pc := 29) hC (hk 34 rfl) f_34_23 q1293 dX6_spaceRead_29 (fun d2 => ?_)
    refine z_aload_n (pc := 32) hC 0 rfl 0 rfl dX6_spaceRead_32 ?_
    refine zs_geti (pc := 33) hC (hk 34 rfl) f_34_23 q1293 dX6_spaceRead_33 ?_
    refine z_if_ge (pc := 36) hC 47 rfl dX6_spaceRead_36 ?_ ?_
    · refine z_iconst (pc := 47) hC (1 : Int32) rfl dX6_spaceRead_47 ?_
      refine z_goto (pc := 48) hC 52 rfl dX6_spaceRead_48 ?_
      exact z_zret (pc := 52) hC rfl rfl dX6_spaceRead_52
    · refine z_aload_n (pc := 39) hC 0 rfl 0 rfl dX6_spaceRead_39 ?_
      refine z_iconst (pc := 40) hC (4 : Int32) rfl dX6_spaceRead_40 ?_
      refine z_ciV (pc := 41) (st := []) hC y_X6_wrong q1405 [.inl (.int (4 : Int32))] rfl (hk 34 rfl) rfl rfl (c_X6_wrong hC.2.2.2.2.2.2.1 hk) rfl ⟨rfl, rfl, (Nat.le_of_ble_eq_true rfl), (Nat.le_of_ble_eq_true rfl)⟩ (Nat.le_of_ble_eq_true rfl) dX6_spaceRead_41 (fun r3 d4 => ?_)
      refine z_if_eq (pc := 44) hC 51 rfl dX6_spaceRead_44 ?_ ?_
      · refine z_iconst (pc := 51) hC (0 : Int32) rfl dX6_spaceRead_51 ?_
        exact z_zret (pc := 52) hC rfl rfl dX6_spaceRead_52
      · refine z_iconst (pc := 47) hC (1 : Int32) rfl dX6_spaceRead_47 ?_
        refine z_goto (pc := 48) hC 52 rfl dX6_spaceRead_48 ?_
        exact z_zret (pc := 52) hC rfl rfl dX6_spaceRead_52
  · refine z_aload_n (pc := 8) hC 0 rfl 0 rfl dX6_spaceRead_8 ?_
    refine z_iconst (pc := 9) hC (1 : Int32) rfl dX6_spaceRead_9 ?_
    refine z_ciV (pc := 10) (st := []) hC y_X6_wrong q1405 [.inl (.int (1 : Int32))] rfl (hk 34 rfl) rfl rfl (c_X6_wrong hC.2.2.2.2.2.2.1 hk) rfl ⟨rfl, rfl, (Nat.le_of_ble_eq_true rfl), (Nat.le_of_ble_eq_true rfl)⟩ (Nat.le_of_ble_eq_true rfl) dX6_spaceRead_10 (fun r5 d6 => ?_)
    exact z_zretG (pc := 13) hC rfl dX6_spaceRead_13
theorem c_X6_spaceRead {G : Geo} {M : Mem} {k : Nat} (hG : GOk G) (hk : LMo G k) {d : Sl} (l : Launch) (r : Int32) (d1 : Sl) (h : Mo_spaceRead d = some (r, d1)) : Mt l yX6_spaceRead cX6_spaceRead 1 (some .boolean) rm_X6_spaceRead G [.inr (k, 34)] ((setS M k) d) (avI r) ((setS M k) d1) :=
  mt_of (mem := (setS M k)) (po := poM avI (setS M k)) (x0 := d) (t := (r, d1)) rfl hG [.inr (k, 34)] (Nat.le_of_ble_eq_true rfl) rfl (fun C hC => r_Mo_spaceRead hC hk d) h
-- FrameHeirsModel.spaceLine()Z
abbrev rm_X6_spaceLine : Room := { frames := 2, cells := 0, slots := 0, locals := 47 }
theorem dX6_spaceLine_0 : decode cX6_spaceLine 0 = .ok (.aload_n 0, 1) := by decide +kernel
theorem dX6_spaceLine_1 : decode cX6_spaceLine 1 = .ok (.getfield 100, 3) := by decide +kernel
theorem dX6_spaceLine_4 : decode cX6_spaceLine 4 = .ok (.bipush 6, 2) := by decide +kernel
theorem dX6_spaceLine_6 : decode cX6_spaceLine 6 = .ok (.if_icmp .ne 9, 3) := by decide +kernel
theorem dX6_spaceLine_9 : decode cX6_spaceLine 9 = .ok (.aload_n 0, 1) := by decide +kernel
theorem dX6_spaceLine_10 : decode cX6_spaceLine 10 = .ok (.iconst 2, 1) := by decide +kernel
theorem dX6_spaceLine_11 : decode cX6_spaceLine 11 = .ok (.invokevirtual 134, 3) := by decide +kernel
theorem dX6_spaceLine_14 : decode cX6_spaceLine 14 = .ok (.ireturn, 1) := by decide +kernel
theorem dX6_spaceLine_15 : decode cX6_spaceLine 15 = .ok (.aload_n 0, 1) := by decide +kernel
theorem dX6_spaceLine_16 : decode cX6_spaceLine 16 = .ok (.invokevirtual 144, 3) := by decide +kernel
theorem dX6_spaceLine_19 : decode cX6_spaceLine 19 = .ok (.aload_n 0, 1) := by decide +kernel
theorem dX6_spaceLine_20 : decode cX6_spaceLine 20 = .ok (.getfield 79, 3) := by decide +kernel
theorem dX6_spaceLine_23 : decode cX6_spaceLine 23 = .ok (.iconst 2, 1) := by decide +kernel
theorem dX6_spaceLine_24 : decode cX6_spaceLine 24 = .ok (.if_icmp .eq 9, 3) := by decide +kernel
theorem dX6_spaceLine_27 : decode cX6_spaceLine 27 = .ok (.aload_n 0, 1) := by decide +kernel
theorem dX6_spaceLine_28 : decode cX6_spaceLine 28 = .ok (.iconst 1, 1) := by decide +kernel
theorem dX6_spaceLine_29 : decode cX6_spaceLine 29 = .ok (.invokevirtual 134, 3) := by decide +kernel
theorem dX6_spaceLine_32 : decode cX6_spaceLine 32 = .ok (.ireturn, 1) := by decide +kernel
theorem dX6_spaceLine_33 : decode cX6_spaceLine 33 = .ok (.aload_n 0, 1) := by decide +kernel
theorem dX6_spaceLine_34 : decode cX6_spaceLine 34 = .ok (.bipush 6, 2) := by decide +kernel
theorem dX6_spaceLine_36 : decode cX6_spaceLine 36 = .ok (.aload_n 0, 1) := by decide +kernel
theorem dX6_spaceLine_37 : decode cX6_spaceLine 37 = .ok (.getfield 100, 3) := by decide +kernel
theorem dX6_spaceLine_40 : decode cX6_spaceLine 40 = .ok (.aload_n 0, 1) := by decide +kernel
theorem dX6_spaceLine_41 : decode cX6_spaceLine 41 = .ok (.getfield 90, 3) := by decide +kernel
theorem dX6_spaceLine_44 : decode cX6_spaceLine 44 = .ok (.invokevirtual 147, 3) := by decide +kernel
theorem dX6_spaceLine_47 : decode cX6_spaceLine 47 = .ok (.ifCond .lt 9, 3) := by decide +kernel
theorem dX6_spaceLine_50 : decode cX6_spaceLine 50 = .ok (.aload_n 0, 1) := by decide +kernel
theorem dX6_spaceLine_51 : decode cX6_spaceLine 51 = .ok (.iconst 3, 1) := by decide +kernel
theorem dX6_spaceLine_52 : decode cX6_spaceLine 52 = .ok (.invokevirtual 134, 3) := by decide +kernel
theorem dX6_spaceLine_55 : decode cX6_spaceLine 55 = .ok (.ireturn, 1) := by decide +kernel
theorem dX6_spaceLine_56 : decode cX6_spaceLine 56 = .ok (.aload_n 0, 1) := by decide +kernel
theorem dX6_spaceLine_57 : decode cX6_spaceLine 57 = .ok (.getfield 20, 3) := by decide +kernel
theorem dX6_spaceLine_60 : decode cX6_spaceLine 60 = .ok (.bipush 6, 2) := by decide +kernel
theorem dX6_spaceLine_62 : decode cX6_spaceLine 62 = .ok (.aload_n 0, 1) := by decide +kernel
theorem dX6_spaceLine_63 : decode cX6_spaceLine 63 = .ok (.getfield 100, 3) := by decide +kernel
theorem dX6_spaceLine_66 : decode cX6_spaceLine 66 = .ok (.iadd, 1) := by decide +kernel
theorem dX6_spaceLine_67 : decode cX6_spaceLine 67 = .ok (.aload_n 0, 1) := by decide +kernel
theorem dX6_spaceLine_68 : decode cX6_spaceLine 68 = .ok (.getfield 90, 3) := by decide +kernel
theorem dX6_spaceLine_71 : decode cX6_spaceLine 71 = .ok (.iastore, 1) := by decide +kernel
theorem dX6_spaceLine_72 : decode cX6_spaceLine 72 = .ok (.aload_n 0, 1) := by decide +kernel
theorem dX6_spaceLine_73 : decode cX6_spaceLine 73 = .ok (.getfield 23, 3) := by decide +kernel
theorem dX6_spaceLine_76 : decode cX6_spaceLine 76 = .ok (.bipush 6, 2) := by decide +kernel
theorem dX6_spaceLine_78 : decode cX6_spaceLine 78 = .ok (.aload_n 0, 1) := by decide +kernel
theorem dX6_spaceLine_79 : decode cX6_spaceLine 79 = .ok (.getfield 100, 3) := by decide +kernel
theorem dX6_spaceLine_82 : decode cX6_spaceLine 82 = .ok (.iadd, 1) := by decide +kernel
theorem dX6_spaceLine_83 : decode cX6_spaceLine 83 = .ok (.iconst (-1), 1) := by decide +kernel
theorem dX6_spaceLine_84 : decode cX6_spaceLine 84 = .ok (.iastore, 1) := by decide +kernel
theorem dX6_spaceLine_85 : decode cX6_spaceLine 85 = .ok (.aload_n 0, 1) := by decide +kernel
theorem dX6_spaceLine_86 : decode cX6_spaceLine 86 = .ok (.getfield 26, 3) := by decide +kernel
theorem dX6_spaceLine_89 : decode cX6_spaceLine 89 = .ok (.bipush 6, 2) := by decide +kernel
theorem dX6_spaceLine_91 : decode cX6_spaceLine 91 = .ok (.aload_n 0, 1) := by decide +kernel
theorem dX6_spaceLine_92 : decode cX6_spaceLine 92 = .ok (.getfield 100, 3) := by decide +kernel
theorem dX6_spaceLine_95 : decode cX6_spaceLine 95 = .ok (.iadd, 1) := by decide +kernel
theorem dX6_spaceLine_96 : decode cX6_spaceLine 96 = .ok (.iconst 0, 1) := by decide +kernel
theorem dX6_spaceLine_97 : decode cX6_spaceLine 97 = .ok (.iastore, 1) := by decide +kernel
theorem dX6_spaceLine_98 : decode cX6_spaceLine 98 = .ok (.aload_n 0, 1) := by decide +kernel
theorem dX6_spaceLine_99 : decode cX6_spaceLine 99 = .ok (.getfield 29, 3) := by decide +kernel
theorem dX6_spaceLine_102 : decode cX6_spaceLine 102 = .ok (.bipush 6, 2) := by decide +kernel
theorem dX6_spaceLine_104 : decode cX6_spaceLine 104 = .ok (.aload_n 0, 1) := by decide +kernel
theorem dX6_spaceLine_105 : decode cX6_spaceLine 105 = .ok (.getfield 100, 3) := by decide +kernel
theorem dX6_spaceLine_108 : decode cX6_spaceLine 108 = .ok (.iadd, 1) := by decide +kernel
theorem dX6_spaceLine_109 : decode cX6_spaceLine 109 = .ok (.iconst 0, 1) := by decide +kernel
theorem dX6_spaceLine_110 : decode cX6_spaceLine 110 = .ok (.iastore, 1) := by decide +kernel
theorem dX6_spaceLine_111 : decode cX6_spaceLine 111 = .ok (.aload_n 0, 1) := by decide +kernel
theorem dX6_spaceLine_112 : decode cX6_spaceLine 112 = .ok (.dup, 1) := by decide +kernel
theorem dX6_spaceLine_113 : decode cX6_spaceLine 113 = .ok (.getfield 100, 3) := by decide +kernel
theorem dX6_spaceLine_116 : decode cX6_spaceLine 116 = .ok (.iconst 1, 1) := by decide +kernel
theorem dX6_spaceLine_117 : decode cX6_spaceLine 117 = .ok (.iadd, 1) := by decide +kernel
theorem dX6_spaceLine_118 : decode cX6_spaceLine 118 = .ok (.putfield 100, 3) := by decide +kernel
theorem dX6_spaceLine_121 : decode cX6_spaceLine 121 = .ok (.aload_n 0, 1) := by decide +kernel
theorem dX6_spaceLine_122 : decode cX6_spaceLine 122 = .ok (.invokevirtual 144, 3) := by decide +kernel
theorem dX6_spaceLine_125 : decode cX6_spaceLine 125 = .ok (.iconst 1, 1) := by decide +kernel
theorem dX6_spaceLine_126 : decode cX6_spaceLine 126 = .ok (.ireturn, 1) := by decide +kernel
def Mo_spaceLine (d : Sl) : Option (Int32 × Sl) :=
  if (d 34 12) = (6 : Int32) then
    (bd (Mo_wrong d (2 : Int32)) fun r15 d16 =>
    if r15 = 0 ∨ r15 = 1 then some (r15, d16) else none)
  else
    (bd (Mo_token d) fun r1 d2 =>
    if (d2 34 8) = (2 : Int32) then
      (bp (Mo_find d2 (6 : Int32) (d2 34 12) (d2 34 9)) fun r3 =>
      if r3 < 0 then
        (if inb ((6 : Int32) + (d2 34 12)) 12 then
        bnd (wr d2 37 (ix ((6 : Int32) + (d2 34 12))) (d2 34 9)) fun d4 =>
        if inb ((6 : Int32) + (d4 34 12)) 12 then
        bnd (wr d4 38 (ix ((6 : Int32) + (d4 34 12))) (-1 : Int32)) fun d5 =>
        if inb ((6 : Int32) + (d5 34 12)) 12 then
        bnd (wr d5 39 (ix ((6 : Int32) + (d5 34 12))) (0 : Int32)) fun d6 =>
        if inb ((6 : Int32) + (d6 34 12)) 12 then
        bnd (wr d6 40 (ix ((6 : Int32) + (d6 34 12))) (0 : Int32)) fun d7 =>
        bnd (wr d7 34 12 ((d7 34 12) + (1 : Int32))) fun d8 =>
        bd (Mo_token d8) fun r9 d10 =>
        some ((1 : Int32), d10)
        else none
        else none
        else none
        else none)
      else
        (bd (Mo_wrong d2 (3 : Int32)) fun r11 d12 =>
        if r11 = 0 ∨ r11 = 1 then some (r11, d12) else none))
    else
      (bd (Mo_wrong d2 (1 : Int32)) fun r13 d14 =>
      if r13 = 0 ∨ r13 = 1 then some (r13, d14) else none))
theorem y_X6_spaceLine : YV yX6_spaceLine cX6_spaceLine 1 (some .boolean) 0 := ⟨q1411, q56, q1412, q149, by decide +kernel, by decide +kernel, by decide +kernel, by decide +kernel⟩
theorem r_Mo_spaceLine {C : Cxt} {G : Geo} {M : Mem} {k : Nat} (hC : Cx C cX6_spaceLine 1 "FrameHeirsModel" (some .boolean) rm_X6_spaceLine G) (hk : LMo G k) (d : Sl) : Rz C 1 G (setS M k) (poM avI (setS M k)) 0 [(0, .inr (k, 34))] [] d (Mo_spaceLine d) := by
  unfold Mo_spaceLine
  refine z_aload_n (pc := 0) hC 0 rfl 0 rfl dX6_spaceLine_0 ?_
  refine zs_geti (pc := 1) hC (hk 34 rfl) f_34_12 q1282 dX6_spaceLine_1 ?_
  refine z_bipush (pc := 4) hC (6 : Int32) rfl dX6_spaceLine_4 ?_
  refine z_icmp_ne (pc := 6) hC 15 rfl dX6_spaceLine_6 ?_ ?_
  · refine z_aload_n (pc := 15) hC 0 rfl 0 rfl dX6_spaceLine_15 ?_
    refine z_cvV (pc := 16) (st := []) hC y_X6_token q1380 [] rfl (hk 34 rfl) rfl rfl (c_X6_token hC.2.2.2.2.2.2.1 hk) rfl ⟨rfl, rfl, (Nat.le_of_ble_eq_true rfl), (Nat.le_of_ble_eq_true rfl)⟩ (Nat.le_of_ble_eq_true rfl) dX6_spaceLine_16 (fun r1 d2 => ?_)
    refine z_aload_n (pc := 19) hC 0 rfl 0 rfl dX6_spaceLine_19 ?_
    refine zs_geti (pc := 20) hC (hk 34 rfl) f_34_8 q1278 dX6_spaceLine_20 ?_
    refine z_iconst (pc := 23) hC (2 : Int32) rfl dX6_spaceLine_23 ?_
    refine z_icmp_eq (pc := 24) hC 33 rfl dX6_spaceLine_24 ?_ ?_
    · refine z_aload_n (pc := 33) hC 0 rfl 0 rfl dX6_spaceLine_33 ?_
      refine z_bipush (pc := 34) hC (6 : Int32) rfl dX6_spaceLine_34 ?_
      refine z_aload_n (pc := 36) hC 0 rfl 0 rfl dX6_spaceLine_36 ?_
      refine zs_geti (pc := 37) hC (hk 34 rfl) f_34_12 q1282 dX6_spaceLine_37 ?_
      refine z_aload_n (pc := 40) hC 0 rfl 0 rfl dX6_spaceLine_40 ?_
      refine zs_geti (pc := 41) hC (hk 34 rfl) f_34_9 q1279 dX6_spaceLine_41 ?_
      refine z_piV (pc := 44) (st := []) hC y_X6_find q1413 [.inl (.int (6 : Int32)), .inl (.int (d2 34 12)), .inl (.int (d2 34 9))] rfl (hk 34 rfl) rfl rfl (c_X6_find hC.2.2.2.2.2.2.1 hk) rfl ⟨rfl, rfl, (Nat.le_of_ble_eq_true rfl), (Nat.le_of_ble_eq_true rfl)⟩ (Nat.le_of_ble_eq_true rfl) dX6_spaceLine_44 (fun r3 => ?_)
      refine z_if_lt (pc := 47) hC 56 rfl dX6_spaceLine_47 ?_ ?_
      · refine z_aload_n (pc := 56) hC 0 rfl 0 rfl dX6_spaceLine_56 ?_
        refine z_getc (pc := 57) hC (hk 34 rfl) f_34_15 q1285 dX6_spaceLine_57 ?_
        refine z_bipush (pc := 60) hC (6 : Int32) rfl dX6_spaceLine_60 ?_
        refine z_aload_n (pc := 62) hC 0 rfl 0 rfl dX6_spaceLine_62 ?_
        refine zs_geti (pc := 63) hC (hk 34 rfl) f_34_12 q1282 dX6_spaceLine_63 ?_
        refine z_iadd (pc := 66) hC dX6_spaceLine_66 ?_
        refine z_aload_n (pc := 67) hC 0 rfl 0 rfl dX6_spaceLine_67 ?_
        refine zs_geti (pc := 68) hC (hk 34 rfl) f_34_9 q1279 dX6_spaceLine_68 ?_
        refine zs_iast (pc := 71) hC (hk 37 rfl) (by decide) rfl dX6_spaceLine_71 (fun d4 => ?_)
        refine z_aload_n (pc := 72) hC 0 rfl 0 rfl dX6_spaceLine_72 ?_
        refine z_getc (pc := 73) hC (hk 34 rfl) f_34_16 q1286 dX6_spaceLine_73 ?_
        refine z_bipush (pc := 76) hC (6 : Int32) rfl dX6_spaceLine_76 ?_
        refine z_aload_n (pc := 78) hC 0 rfl 0 rfl dX6_spaceLine_78 ?_
        refine zs_geti (pc := 79) hC (hk 34 rfl) f_34_12 q1282 dX6_spaceLine_79 ?_
        refine z_iadd (pc := 82) hC dX6_spaceLine_82 ?_
        refine z_iconst (pc := 83) hC (-1 : Int32) rfl dX6_spaceLine_83 ?_
        refine zs_iast (pc := 84) hC (hk 38 rfl) (by decide) rfl dX6_spaceLine_84 (fun d5 => ?_)
        refine z_aload_n (pc := 85) hC 0 rfl 0 rfl dX6_spaceLine_85 ?_
        refine z_getc (pc := 86) hC (hk 34 rfl) f_34_17 q1287 dX6_spaceLine_86 ?_
        refine z_bipush (pc := 89) hC (6 : Int32) rfl dX6_spaceLine_89 ?_
        refine z_aload_n (pc := 91) hC 0 rfl 0 rfl dX6_spaceLine_91 ?_
        refine zs_geti (pc := 92) hC (hk 34 rfl) f_34_12 q1282 dX6_spaceLine_92 ?_
        refine z_iadd (pc := 95) hC dX6_spaceLine_95 ?_
        refine z_iconst (pc := 96) hC (0 : Int32) rfl dX6_spaceLine_96 ?_
        refine zs_iast (pc := 97) hC (hk 39 rfl) (by decide) rfl dX6_spaceLine_97 (fun d6 => ?_)
        refine z_aload_n (pc := 98) hC 0 rfl 0 rfl dX6_spaceLine_98 ?_
        refine z_getc (pc := 99) hC (hk 34 rfl) f_34_18 q1288 dX6_spaceLine_99 ?_
        refine z_bipush (pc := 102) hC (6 : Int32) rfl dX6_spaceLine_102 ?_
        refine z_aload_n (pc := 104) hC 0 rfl 0 rfl dX6_spaceLine_104 ?_
        refine zs_geti (pc := 105) hC (hk 34 rfl) f_34_12 q1282 dX6_spaceLine_105 ?_
        refine z_iadd (pc := 108) hC dX6_spaceLine_108 ?_
        refine z_iconst (pc := 109) hC (0 : Int32) rfl dX6_spaceLine_109 ?_
        refine zs_iast (pc := 110) hC (hk 40 rfl) (by decide) rfl dX6_spaceLine_110 (fun d7 => ?_)
        refine z_aload_n (pc := 111) hC 0 rfl 0 rfl dX6_spaceLine_111 ?_
        refine z_dup (pc := 112) hC rfl dX6_spaceLine_112 ?_
        refine zs_geti (pc := 113) hC (hk 34 rfl) f_34_12 q1282 dX6_spaceLine_113 ?_
        refine z_iconst (pc := 116) hC (1 : Int32) rfl dX6_spaceLine_116 ?_
        refine z_iadd (pc := 117) hC dX6_spaceLine_117 ?_
        refine zs_puti (pc := 118) hC (hk 34 rfl) f_34_12 q1282 dX6_spaceLine_118 (fun d8 => ?_)
        refine z_aload_n (pc := 121) hC 0 rfl 0 rfl dX6_spaceLine_121 ?_
        refine z_cvV (pc := 122) (st := []) hC y_X6_token q1380 [] rfl (hk 34 rfl) rfl rfl (c_X6_token hC.2.2.2.2.2.2.1 hk) rfl ⟨rfl, rfl, (Nat.le_of_ble_eq_true rfl), (Nat.le_of_ble_eq_true rfl)⟩ (Nat.le_of_ble_eq_true rfl) dX6_spaceLine_122 (fun r9 d10 => ?_)
        refine z_iconst (pc := 125) hC (1 : Int32) rfl dX6_spaceLine_125 ?_
        exact z_zret (pc := 126) hC rfl rfl dX6_spaceLine_126
      · refine z_aload_n (pc := 50) hC 0 rfl 0 rfl dX6_spaceLine_50 ?_
        refine z_iconst (pc := 51) hC (3 : Int32) rfl dX6_spaceLine_51 ?_
        refine z_ciV (pc := 52) (st := []) hC y_X6_wrong q1405 [.inl (.int (3 : Int32))] rfl (hk 34 rfl) rfl rfl (c_X6_wrong hC.2.2.2.2.2.2.1 hk) rfl ⟨rfl, rfl, (Nat.le_of_ble_eq_true rfl), (Nat.le_of_ble_eq_true rfl)⟩ (Nat.le_of_ble_eq_true rfl) dX6_spaceLine_52 (fun r11 d12 => ?_)
        exact z_zretG (pc := 55) hC rfl dX6_spaceLine_55
    · refine z_aload_n (pc := 27) hC 0 rfl 0 rfl dX6_spaceLine_27 ?_
      refine z_iconst (pc := 28) hC (1 : Int32) rfl dX6_spaceLine_28 ?_
      refine z_ciV (pc := 29) (st := []) hC y_X6_wrong q1405 [.inl (.int (1 : Int32))] rfl (hk 34 rfl) rfl rfl (c_X6_wrong hC.2.2.2.2.2.2.1 hk) rfl ⟨rfl, rfl, (Nat.le_of_ble_eq_true rfl), (Nat.le_of_ble_eq_true rfl)⟩ (Nat.le_of_ble_eq_true rfl) dX6_spaceLine_29 (fun r13 d14 => ?_)
      exact z_zretG (pc := 32) hC rfl dX6_spaceLine_32
  · refine z_aload_n (pc := 9) hC 0 rfl 0 rfl dX6_spaceLine_9 ?_
    refine z_iconst (pc := 10) hC (2 : Int32) rfl dX6_spaceLine_10 ?_
    refine z_ciV (pc := 11) (st := []) hC y_X6_wrong q1405 [.inl (.int (2 : Int32))] rfl (hk 34 rfl) rfl rfl (c_X6_wrong hC.2.2.2.2.2.2.1 hk) rfl ⟨rfl, rfl, (Nat.le_of_ble_eq_true rfl), (Nat.le_of_ble_eq_true rfl)⟩ (Nat.le_of_ble_eq_true rfl) dX6_spaceLine_11 (fun r15 d16 => ?_)
    exact z_zretG (pc := 14) hC rfl dX6_spaceLine_14
theorem c_X6_spaceLine {G : Geo} {M : Mem} {k : Nat} (hG : GOk G) (hk : LMo G k) {d : Sl} (l : Launch) (r : Int32) (d1 : Sl) (h : Mo_spaceLine d = some (r, d1)) : Mt l yX6_spaceLine cX6_spaceLine 1 (some .boolean) rm_X6_spaceLine G [.inr (k, 34)] ((setS M k) d) (avI r) ((setS M k) d1) :=
  mt_of (mem := (setS M k)) (po := poM avI (setS M k)) (x0 := d) (t := (r, d1)) rfl hG [.inr (k, 34)] (Nat.le_of_ble_eq_true rfl) rfl (fun C hC => r_Mo_spaceLine hC hk d) h
-- FrameHeirsModel.pagerLine()Z
abbrev rm_X6_pagerLine : Room := { frames := 3, cells := 0, slots := 0, locals := 69 }
theorem dX6_pagerLine_0 : decode cX6_pagerLine 0 = .ok (.aload_n 0, 1) := by decide +kernel
theorem dX6_pagerLine_1 : decode cX6_pagerLine 1 = .ok (.invokevirtual 144, 3) := by decide +kernel
theorem dX6_pagerLine_4 : decode cX6_pagerLine 4 = .ok (.aload_n 0, 1) := by decide +kernel
theorem dX6_pagerLine_5 : decode cX6_pagerLine 5 = .ok (.invokevirtual 151, 3) := by decide +kernel
theorem dX6_pagerLine_8 : decode cX6_pagerLine 8 = .ok (.ifCond .ne 5, 3) := by decide +kernel
theorem dX6_pagerLine_11 : decode cX6_pagerLine 11 = .ok (.iconst 0, 1) := by decide +kernel
theorem dX6_pagerLine_12 : decode cX6_pagerLine 12 = .ok (.ireturn, 1) := by decide +kernel
theorem dX6_pagerLine_13 : decode cX6_pagerLine 13 = .ok (.aload_n 0, 1) := by decide +kernel
theorem dX6_pagerLine_14 : decode cX6_pagerLine 14 = .ok (.getfield 141, 3) := by decide +kernel
theorem dX6_pagerLine_17 : decode cX6_pagerLine 17 = .ok (.istore_n 1, 1) := by decide +kernel
theorem dX6_pagerLine_18 : decode cX6_pagerLine 18 = .ok (.iload_n 1, 1) := by decide +kernel
theorem dX6_pagerLine_19 : decode cX6_pagerLine 19 = .ok (.ifCond .ne 9, 3) := by decide +kernel
theorem dX6_pagerLine_22 : decode cX6_pagerLine 22 = .ok (.aload_n 0, 1) := by decide +kernel
theorem dX6_pagerLine_23 : decode cX6_pagerLine 23 = .ok (.iconst 5, 1) := by decide +kernel
theorem dX6_pagerLine_24 : decode cX6_pagerLine 24 = .ok (.invokevirtual 134, 3) := by decide +kernel
theorem dX6_pagerLine_27 : decode cX6_pagerLine 27 = .ok (.ireturn, 1) := by decide +kernel
theorem dX6_pagerLine_28 : decode cX6_pagerLine 28 = .ok (.aload_n 0, 1) := by decide +kernel
theorem dX6_pagerLine_29 : decode cX6_pagerLine 29 = .ok (.getfield 23, 3) := by decide +kernel
theorem dX6_pagerLine_32 : decode cX6_pagerLine 32 = .ok (.bipush 6, 2) := by decide +kernel
theorem dX6_pagerLine_34 : decode cX6_pagerLine 34 = .ok (.iload_n 1, 1) := by decide +kernel
theorem dX6_pagerLine_35 : decode cX6_pagerLine 35 = .ok (.iadd, 1) := by decide +kernel
theorem dX6_pagerLine_36 : decode cX6_pagerLine 36 = .ok (.iaload, 1) := by decide +kernel
theorem dX6_pagerLine_37 : decode cX6_pagerLine 37 = .ok (.ifCond .lt 9, 3) := by decide +kernel
theorem dX6_pagerLine_40 : decode cX6_pagerLine 40 = .ok (.aload_n 0, 1) := by decide +kernel
theorem dX6_pagerLine_41 : decode cX6_pagerLine 41 = .ok (.iconst 3, 1) := by decide +kernel
theorem dX6_pagerLine_42 : decode cX6_pagerLine 42 = .ok (.invokevirtual 134, 3) := by decide +kernel
theorem dX6_pagerLine_45 : decode cX6_pagerLine 45 = .ok (.ireturn, 1) := by decide +kernel
theorem dX6_pagerLine_46 : decode cX6_pagerLine 46 = .ok (.aload_n 0, 1) := by decide +kernel
theorem dX6_pagerLine_47 : decode cX6_pagerLine 47 = .ok (.invokevirtual 144, 3) := by decide +kernel
theorem dX6_pagerLine_50 : decode cX6_pagerLine 50 = .ok (.aload_n 0, 1) := by decide +kernel
theorem dX6_pagerLine_51 : decode cX6_pagerLine 51 = .ok (.invokevirtual 151, 3) := by decide +kernel
theorem dX6_pagerLine_54 : decode cX6_pagerLine 54 = .ok (.ifCond .ne 5, 3) := by decide +kernel
theorem dX6_pagerLine_57 : decode cX6_pagerLine 57 = .ok (.iconst 0, 1) := by decide +kernel
theorem dX6_pagerLine_58 : decode cX6_pagerLine 58 = .ok (.ireturn, 1) := by decide +kernel
theorem dX6_pagerLine_59 : decode cX6_pagerLine 59 = .ok (.aload_n 0, 1) := by decide +kernel
theorem dX6_pagerLine_60 : decode cX6_pagerLine 60 = .ok (.getfield 141, 3) := by decide +kernel
theorem dX6_pagerLine_63 : decode cX6_pagerLine 63 = .ok (.iload_n 1, 1) := by decide +kernel
theorem dX6_pagerLine_64 : decode cX6_pagerLine 64 = .ok (.if_icmp .ne 9, 3) := by decide +kernel
theorem dX6_pagerLine_67 : decode cX6_pagerLine 67 = .ok (.aload_n 0, 1) := by decide +kernel
theorem dX6_pagerLine_68 : decode cX6_pagerLine 68 = .ok (.iconst 5, 1) := by decide +kernel
theorem dX6_pagerLine_69 : decode cX6_pagerLine 69 = .ok (.invokevirtual 134, 3) := by decide +kernel
theorem dX6_pagerLine_72 : decode cX6_pagerLine 72 = .ok (.ireturn, 1) := by decide +kernel
theorem dX6_pagerLine_73 : decode cX6_pagerLine 73 = .ok (.aload_n 0, 1) := by decide +kernel
theorem dX6_pagerLine_74 : decode cX6_pagerLine 74 = .ok (.getfield 23, 3) := by decide +kernel
theorem dX6_pagerLine_77 : decode cX6_pagerLine 77 = .ok (.bipush 6, 2) := by decide +kernel
theorem dX6_pagerLine_79 : decode cX6_pagerLine 79 = .ok (.iload_n 1, 1) := by decide +kernel
theorem dX6_pagerLine_80 : decode cX6_pagerLine 80 = .ok (.iadd, 1) := by decide +kernel
theorem dX6_pagerLine_81 : decode cX6_pagerLine 81 = .ok (.aload_n 0, 1) := by decide +kernel
theorem dX6_pagerLine_82 : decode cX6_pagerLine 82 = .ok (.getfield 141, 3) := by decide +kernel
theorem dX6_pagerLine_85 : decode cX6_pagerLine 85 = .ok (.iastore, 1) := by decide +kernel
theorem dX6_pagerLine_86 : decode cX6_pagerLine 86 = .ok (.aload_n 0, 1) := by decide +kernel
theorem dX6_pagerLine_87 : decode cX6_pagerLine 87 = .ok (.invokevirtual 144, 3) := by decide +kernel
theorem dX6_pagerLine_90 : decode cX6_pagerLine 90 = .ok (.aload_n 0, 1) := by decide +kernel
theorem dX6_pagerLine_91 : decode cX6_pagerLine 91 = .ok (.iconst 0, 1) := by decide +kernel
theorem dX6_pagerLine_92 : decode cX6_pagerLine 92 = .ok (.iconst 3, 1) := by decide +kernel
theorem dX6_pagerLine_93 : decode cX6_pagerLine 93 = .ok (.invokevirtual 155, 3) := by decide +kernel
theorem dX6_pagerLine_96 : decode cX6_pagerLine 96 = .ok (.ifCond .ne 5, 3) := by decide +kernel
theorem dX6_pagerLine_99 : decode cX6_pagerLine 99 = .ok (.iconst 0, 1) := by decide +kernel
theorem dX6_pagerLine_100 : decode cX6_pagerLine 100 = .ok (.ireturn, 1) := by decide +kernel
theorem dX6_pagerLine_101 : decode cX6_pagerLine 101 = .ok (.aload_n 0, 1) := by decide +kernel
theorem dX6_pagerLine_102 : decode cX6_pagerLine 102 = .ok (.getfield 26, 3) := by decide +kernel
theorem dX6_pagerLine_105 : decode cX6_pagerLine 105 = .ok (.bipush 6, 2) := by decide +kernel
theorem dX6_pagerLine_107 : decode cX6_pagerLine 107 = .ok (.iload_n 1, 1) := by decide +kernel
theorem dX6_pagerLine_108 : decode cX6_pagerLine 108 = .ok (.iadd, 1) := by decide +kernel
theorem dX6_pagerLine_109 : decode cX6_pagerLine 109 = .ok (.aload_n 0, 1) := by decide +kernel
theorem dX6_pagerLine_110 : decode cX6_pagerLine 110 = .ok (.getfield 141, 3) := by decide +kernel
theorem dX6_pagerLine_113 : decode cX6_pagerLine 113 = .ok (.iastore, 1) := by decide +kernel
theorem dX6_pagerLine_114 : decode cX6_pagerLine 114 = .ok (.iconst 1, 1) := by decide +kernel
theorem dX6_pagerLine_115 : decode cX6_pagerLine 115 = .ok (.ireturn, 1) := by decide +kernel
def Mo_pagerLine (d : Sl) : Option (Int32 × Sl) :=
  bd (Mo_token d) fun r1 d2 =>
  bd (Mo_spaceRead d2) fun r3 d4 =>
  if r3 = 0 then
    (some ((0 : Int32), d4))
  else
    (bnd (d4 34 23) fun v1_5 =>
    if v1_5 = 0 then
      (bd (Mo_wrong d4 (5 : Int32)) fun r20 d21 =>
      if r20 = 0 ∨ r20 = 1 then some (r20, d21) else none)
    else
      (if inb ((6 : Int32) + v1_5) 12 then
      if (d4 38 (ix ((6 : Int32) + v1_5))) < 0 then
        (bd (Mo_token d4) fun r6 d7 =>
        bd (Mo_spaceRead d7) fun r8 d9 =>
        if r8 = 0 then
          (some ((0 : Int32), d9))
        else
          (if (d9 34 23) = v1_5 then
            (bd (Mo_wrong d9 (5 : Int32)) fun r16 d17 =>
            if r16 = 0 ∨ r16 = 1 then some (r16, d17) else none)
          else
            (if inb ((6 : Int32) + v1_5) 12 then
            bnd (wr d9 38 (ix ((6 : Int32) + v1_5)) (d9 34 23)) fun d10 =>
            bd (Mo_token d10) fun r11 d12 =>
            bd (Mo_number d12 (0 : Int32) (3 : Int32)) fun r13 d14 =>
            if r13 = 0 then
              (some ((0 : Int32), d14))
            else
              (if inb ((6 : Int32) + v1_5) 12 then
              bnd (wr d14 39 (ix ((6 : Int32) + v1_5)) (d14 34 23)) fun d15 =>
              some ((1 : Int32), d15)
              else none)
            else none)))
      else
        (bd (Mo_wrong d4 (3 : Int32)) fun r18 d19 =>
        if r18 = 0 ∨ r18 = 1 then some (r18, d19) else none)
      else none))
theorem y_X6_pagerLine : YV yX6_pagerLine cX6_pagerLine 2 (some .boolean) 0 := ⟨q1419, q58, q1420, q149, by decide +kernel, by decide +kernel, by decide +kernel, by decide +kernel⟩
theorem r_Mo_pagerLine {C : Cxt} {G : Geo} {M : Mem} {k : Nat} (hC : Cx C cX6_pagerLine 2 "FrameHeirsModel" (some .boolean) rm_X6_pagerLine G) (hk : LMo G k) (d : Sl) : Rz C 2 G (setS M k) (poM avI (setS M k)) 0 [(0, .inr (k, 34))] [] d (Mo_pagerLine d) := by
  unfold Mo_pagerLine
  refine z_aload_n (pc := 0) hC 0 rfl 0 rfl dX6_pagerLine_0 ?_
  refine z_cvV (pc := 1) (st := []) hC y_X6_token q1380 [] rfl (hk 34 rfl) rfl rfl (c_X6_token hC.2.2.2.2.2.2.1 hk) rfl ⟨rfl, rfl, (Nat.le_of_ble_eq_true rfl), (Nat.le_of_ble_eq_true rfl)⟩ (Nat.le_of_ble_eq_true rfl) dX6_pagerLine_1 (fun r1 d2 => ?_)
  refine z_aload_n (pc := 4) hC 0 rfl 0 rfl dX6_pagerLine_4 ?_
  refine z_ciV (pc := 5) (st := []) hC y_X6_spaceRead q1421 [] rfl (hk 34 rfl) rfl rfl (c_X6_spaceRead hC.2.2.2.2.2.2.1 hk) rfl ⟨rfl, rfl, (Nat.le_of_ble_eq_true rfl), (Nat.le_of_ble_eq_true rfl)⟩ (Nat.le_of_ble_eq_true rfl) dX6_pagerLine_5 (fun r3 d4 => ?_)
  refine z_if_ne (pc := 8) hC 13 rfl dX6_pagerLine_8 ?_ ?_
  · refine z_aload_n (pc := 13) hC 0 rfl 0 rfl dX6_pagerLine_13 ?_
    refine zs_geti (pc := 14) hC (hk 34 rfl) f_34_23 q1293 dX6_pagerLine_14 ?_
    refine z_istore_n (pc := 17) (ls1 := fun v => [(1, .inl (.int v)), (0, .inr (k, 34))]) hC 1 rfl (by decide) (fun v => rfl) dX6_pagerLine_17 (fun v1_5 => ?_)
    refine z_iload_n (pc := 18) hC 1 rfl 0 rfl dX6_pagerLine_18 ?_
    refine z_if_ne (pc := 19) hC 28 rfl dX6_pagerLine_19 ?_ ?_
    · refine z_aload_n (pc := 28) hC 0 rfl 1 rfl dX6_pagerLine_28 ?_
      refine z_getc (pc := 29) hC (hk 34 rfl) f_34_16 q1286 dX6_pagerLine_29 ?_
      refine z_bipush (pc := 32) hC (6 : Int32) rfl dX6_pagerLine_32 ?_
      refine z_iload_n (pc := 34) hC 1 rfl 0 rfl dX6_pagerLine_34 ?_
      refine z_iadd (pc := 35) hC dX6_pagerLine_35 ?_
      refine zs_iald (pc := 36) hC (hk 38 rfl) rfl dX6_pagerLine_36 ?_
      refine z_if_lt (pc := 37) hC 46 rfl dX6_pagerLine_37 ?_ ?_
      · refine z_aload_n (pc := 46) hC 0 rfl 1 rfl dX6_pagerLine_46 ?_
        refine z_cvV (pc := 47) (st := []) hC y_X6_token q1380 [] rfl (hk 34 rfl) rfl rfl (c_X6_token hC.2.2.2.2.2.2.1 hk) rfl ⟨rfl, rfl, (Nat.le_of_ble_eq_true rfl), (Nat.le_of_ble_eq_true rfl)⟩ (Nat.le_of_ble_eq_true rfl) dX6_pagerLine_47 (fun r6 d7 => ?_)
        refine z_aload_n (pc := 50) hC 0 rfl 1 rfl dX6_pagerLine_50 ?_
        refine z_ciV (pc := 51) (st := []) hC y_X6_spaceRead q1421 [] rfl (hk 34 rfl) rfl rfl (c_X6_spaceRead hC.2.2.2.2.2.2.1 hk) rfl ⟨rfl, rfl, (Nat.le_of_ble_eq_true rfl), (Nat.le_of_ble_eq_true rfl)⟩ (Nat.le_of_ble_eq_true rfl) dX6_pagerLine_51 (fun r8 d9 => ?_)
        refine z_if_ne (pc := 54) hC 59 rfl dX6_pagerLine_54 ?_ ?_
        · refine z_aload_n (pc := 59) hC 0 rfl 1 rfl dX6_pagerLine_59 ?_
          refine zs_geti (pc := 60) hC (hk 34 rfl) f_34_23 q1293 dX6_pagerLine_60 ?_
          refine z_iload_n (pc := 63) hC 1 rfl 0 rfl dX6_pagerLine_63 ?_
          refine z_icmp_ne (pc := 64) hC 73 rfl dX6_pagerLine_64 ?_ ?_
          · refine z_aload_n (pc := 73) hC 0 rfl 1 rfl dX6_pagerLine_73 ?_
            refine z_getc (pc := 74) hC (hk 34 rfl) f_34_16 q1286 dX6_pagerLine_74 ?_
            refine z_bipush (pc := 77) hC (6 : Int32) rfl dX6_pagerLine_77 ?_
            refine z_iload_n (pc := 79) hC 1 rfl 0 rfl dX6_pagerLine_79 ?_
            refine z_iadd (pc := 80) hC dX6_pagerLine_80 ?_
            refine z_aload_n (pc := 81) hC 0 rfl 1 rfl dX6_pagerLine_81 ?_
            refine zs_geti (pc := 82) hC (hk 34 rfl) f_34_23 q1293 dX6_pagerLine_82 ?_
            refine zs_iast (pc := 85) hC (hk 38 rfl) (by decide) rfl dX6_pagerLine_85 (fun d10 => ?_)
            refine z_aload_n (pc := 86) hC 0 rfl 1 rfl dX6_pagerLine_86 ?_
            refine z_cvV (pc := 87) (st := []) hC y_X6_token q1380 [] rfl (hk 34 rfl) rfl rfl (c_X6_token hC.2.2.2.2.2.2.1 hk) rfl ⟨rfl, rfl, (Nat.le_of_ble_eq_true rfl), (Nat.le_of_ble_eq_true rfl)⟩ (Nat.le_of_ble_eq_true rfl) dX6_pagerLine_87 (fun r11 d12 => ?_)
            refine z_aload_n (pc := 90) hC 0 rfl 1 rfl dX6_pagerLine_90 ?_
            refine z_iconst (pc := 91) hC (0 : Int32) rfl dX6_pagerLine_91 ?_
            refine z_iconst (pc := 92) hC (3 : Int32) rfl dX6_pagerLine_92 ?_
            refine z_ciV (pc := 93) (st := []) hC y_X6_number q1425 [.inl (.int (0 : Int32)), .inl (.int (3 : Int32))] rfl (hk 34 rfl) rfl rfl (c_X6_number hC.2.2.2.2.2.2.1 hk) rfl ⟨rfl, rfl, (Nat.le_of_ble_eq_true rfl), (Nat.le_of_ble_eq_true rfl)⟩ (Nat.le_of_ble_eq_true rfl) dX6_pagerLine_93 (fun r13 d14 => ?_)
            refine z_if_ne (pc := 96) hC 101 rfl dX6_pagerLine_96 ?_ ?_
            · refine z_aload_n (pc := 101) hC 0 rfl 1 rfl dX6_pagerLine_101 ?_
              refine z_getc (pc := 102) hC (hk 34 rfl) f_34_17 q1287 dX6_pagerLine_102 ?_
              refine z_bipush (pc := 105) hC (6 : Int32) rfl dX6_pagerLine_105 ?_
              refine z_iload_n (pc := 107) hC 1 rfl 0 rfl dX6_pagerLine_107 ?_
              refine z_iadd (pc := 108) hC dX6_pagerLine_108 ?_
              refine z_aload_n (pc := 109) hC 0 rfl 1 rfl dX6_pagerLine_109 ?_
              refine zs_geti (pc := 110) hC (hk 34 rfl) f_34_23 q1293 dX6_pagerLine_110 ?_
              refine zs_iast (pc := 113) hC (hk 39 rfl) (by decide) rfl dX6_pagerLine_113 (fun d15 => ?_)
              refine z_iconst (pc := 114) hC (1 : Int32) rfl dX6_pagerLine_114 ?_
              exact z_zret (pc := 115) hC rfl rfl dX6_pagerLine_115
            · refine z_iconst (pc := 99) hC (0 : Int32) rfl dX6_pagerLine_99 ?_
              exact z_zret (pc := 100) hC rfl rfl dX6_pagerLine_100
          · refine z_aload_n (pc := 67) hC 0 rfl 1 rfl dX6_pagerLine_67 ?_
            refine z_iconst (pc := 68) hC (5 : Int32) rfl dX6_pagerLine_68 ?_
            refine z_ciV (pc := 69) (st := []) hC y_X6_wrong q1405 [.inl (.int (5 : Int32))] rfl (hk 34 rfl) rfl rfl (c_X6_wrong hC.2.2.2.2.2.2.1 hk) rfl ⟨rfl, rfl, (Nat.le_of_ble_eq_true rfl), (Nat.le_of_ble_eq_true rfl)⟩ (Nat.le_of_ble_eq_true rfl) dX6_pagerLine_69 (fun r16 d17 => ?_)
            exact z_zretG (pc := 72) hC rfl dX6_pagerLine_72
        · refine z_iconst (pc := 57) hC (0 : Int32) rfl dX6_pagerLine_57 ?_
          exact z_zret (pc := 58) hC rfl rfl dX6_pagerLine_58
      · refine z_aload_n (pc := 40) hC 0 rfl 1 rfl dX6_pagerLine_40 ?_
        refine z_iconst (pc := 41) hC (3 : Int32) rfl dX6_pagerLine_41 ?_
        refine z_ciV (pc := 42) (st := []) hC y_X6_wrong q1405 [.inl (.int (3 : Int32))] rfl (hk 34 rfl) rfl rfl (c_X6_wrong hC.2.2.2.2.2.2.1 hk) rfl ⟨rfl, rfl, (Nat.le_of_ble_eq_true rfl), (Nat.le_of_ble_eq_true rfl)⟩ (Nat.le_of_ble_eq_true rfl) dX6_pagerLine_42 (fun r18 d19 => ?_)
        exact z_zretG (pc := 45) hC rfl dX6_pagerLine_45
    · refine z_aload_n (pc := 22) hC 0 rfl 1 rfl dX6_pagerLine_22 ?_
      refine z_iconst (pc := 23) hC (5 : Int32) rfl dX6_pagerLine_23 ?_
      refine z_ciV (pc := 24) (st := []) hC y_X6_wrong q1405 [.inl (.int (5 : Int32))] rfl (hk 34 rfl) rfl rfl (c_X6_wrong hC.2.2.2.2.2.2.1 hk) rfl ⟨rfl, rfl, (Nat.le_of_ble_eq_true rfl), (Nat.le_of_ble_eq_true rfl)⟩ (Nat.le_of_ble_eq_true rfl) dX6_pagerLine_24 (fun r20 d21 => ?_)
      exact z_zretG (pc := 27) hC rfl dX6_pagerLine_27
  · refine z_iconst (pc := 11) hC (0 : Int32) rfl dX6_pagerLine_11 ?_
    exact z_zret (pc := 12) hC rfl rfl dX6_pagerLine_12
theorem c_X6_pagerLine {G : Geo} {M : Mem} {k : Nat} (hG : GOk G) (hk : LMo G k) {d : Sl} (l : Launch) (r : Int32) (d1 : Sl) (h : Mo_pagerLine d = some (r, d1)) : Mt l yX6_pagerLine cX6_pagerLine 2 (some .boolean) rm_X6_pagerLine G [.inr (k, 34)] ((setS M k) d) (avI r) ((setS M k) d1) :=
  mt_of (mem := (setS M k)) (po := poM avI (setS M k)) (x0 := d) (t := (r, d1)) rfl hG [.inr (k, 34)] (Nat.le_of_ble_eq_true rfl) rfl (fun C hC => r_Mo_pagerLine hC hk d) h
-- FrameHeirsModel.quotaLine()Z
abbrev rm_X6_quotaLine : Room := { frames := 3, cells := 0, slots := 0, locals := 69 }
theorem dX6_quotaLine_0 : decode cX6_quotaLine 0 = .ok (.aload_n 0, 1) := by decide +kernel
theorem dX6_quotaLine_1 : decode cX6_quotaLine 1 = .ok (.invokevirtual 144, 3) := by decide +kernel
theorem dX6_quotaLine_4 : decode cX6_quotaLine 4 = .ok (.aload_n 0, 1) := by decide +kernel
theorem dX6_quotaLine_5 : decode cX6_quotaLine 5 = .ok (.invokevirtual 151, 3) := by decide +kernel
theorem dX6_quotaLine_8 : decode cX6_quotaLine 8 = .ok (.ifCond .ne 5, 3) := by decide +kernel
theorem dX6_quotaLine_11 : decode cX6_quotaLine 11 = .ok (.iconst 0, 1) := by decide +kernel
theorem dX6_quotaLine_12 : decode cX6_quotaLine 12 = .ok (.ireturn, 1) := by decide +kernel
theorem dX6_quotaLine_13 : decode cX6_quotaLine 13 = .ok (.aload_n 0, 1) := by decide +kernel
theorem dX6_quotaLine_14 : decode cX6_quotaLine 14 = .ok (.getfield 141, 3) := by decide +kernel
theorem dX6_quotaLine_17 : decode cX6_quotaLine 17 = .ok (.istore_n 1, 1) := by decide +kernel
theorem dX6_quotaLine_18 : decode cX6_quotaLine 18 = .ok (.aload_n 0, 1) := by decide +kernel
theorem dX6_quotaLine_19 : decode cX6_quotaLine 19 = .ok (.getfield 29, 3) := by decide +kernel
theorem dX6_quotaLine_22 : decode cX6_quotaLine 22 = .ok (.bipush 6, 2) := by decide +kernel
theorem dX6_quotaLine_24 : decode cX6_quotaLine 24 = .ok (.iload_n 1, 1) := by decide +kernel
theorem dX6_quotaLine_25 : decode cX6_quotaLine 25 = .ok (.iadd, 1) := by decide +kernel
theorem dX6_quotaLine_26 : decode cX6_quotaLine 26 = .ok (.iaload, 1) := by decide +kernel
theorem dX6_quotaLine_27 : decode cX6_quotaLine 27 = .ok (.ifCond .le 9, 3) := by decide +kernel
theorem dX6_quotaLine_30 : decode cX6_quotaLine 30 = .ok (.aload_n 0, 1) := by decide +kernel
theorem dX6_quotaLine_31 : decode cX6_quotaLine 31 = .ok (.iconst 3, 1) := by decide +kernel
theorem dX6_quotaLine_32 : decode cX6_quotaLine 32 = .ok (.invokevirtual 134, 3) := by decide +kernel
theorem dX6_quotaLine_35 : decode cX6_quotaLine 35 = .ok (.ireturn, 1) := by decide +kernel
theorem dX6_quotaLine_36 : decode cX6_quotaLine 36 = .ok (.aload_n 0, 1) := by decide +kernel
theorem dX6_quotaLine_37 : decode cX6_quotaLine 37 = .ok (.invokevirtual 144, 3) := by decide +kernel
theorem dX6_quotaLine_40 : decode cX6_quotaLine 40 = .ok (.aload_n 0, 1) := by decide +kernel
theorem dX6_quotaLine_41 : decode cX6_quotaLine 41 = .ok (.iconst 1, 1) := by decide +kernel
theorem dX6_quotaLine_42 : decode cX6_quotaLine 42 = .ok (.bipush 32, 2) := by decide +kernel
theorem dX6_quotaLine_44 : decode cX6_quotaLine 44 = .ok (.invokevirtual 155, 3) := by decide +kernel
theorem dX6_quotaLine_47 : decode cX6_quotaLine 47 = .ok (.ifCond .ne 5, 3) := by decide +kernel
theorem dX6_quotaLine_50 : decode cX6_quotaLine 50 = .ok (.iconst 0, 1) := by decide +kernel
theorem dX6_quotaLine_51 : decode cX6_quotaLine 51 = .ok (.ireturn, 1) := by decide +kernel
theorem dX6_quotaLine_52 : decode cX6_quotaLine 52 = .ok (.aload_n 0, 1) := by decide +kernel
theorem dX6_quotaLine_53 : decode cX6_quotaLine 53 = .ok (.getfield 29, 3) := by decide +kernel
theorem dX6_quotaLine_56 : decode cX6_quotaLine 56 = .ok (.bipush 6, 2) := by decide +kernel
theorem dX6_quotaLine_58 : decode cX6_quotaLine 58 = .ok (.iload_n 1, 1) := by decide +kernel
theorem dX6_quotaLine_59 : decode cX6_quotaLine 59 = .ok (.iadd, 1) := by decide +kernel
theorem dX6_quotaLine_60 : decode cX6_quotaLine 60 = .ok (.aload_n 0, 1) := by decide +kernel
theorem dX6_quotaLine_61 : decode cX6_quotaLine 61 = .ok (.getfield 141, 3) := by decide +kernel
theorem dX6_quotaLine_64 : decode cX6_quotaLine 64 = .ok (.iastore, 1) := by decide +kernel
theorem dX6_quotaLine_65 : decode cX6_quotaLine 65 = .ok (.iconst 1, 1) := by decide +kernel
theorem dX6_quotaLine_66 : decode cX6_quotaLine 66 = .ok (.ireturn, 1) := by decide +kernel
def Mo_quotaLine (d : Sl) : Option (Int32 × Sl) :=
  bd (Mo_token d) fun r1 d2 =>
  bd (Mo_spaceRead d2) fun r3 d4 =>
  if r3 = 0 then
    (some ((0 : Int32), d4))
  else
    (bnd (d4 34 23) fun v1_5 =>
    if inb ((6 : Int32) + v1_5) 12 then
    if (d4 40 (ix ((6 : Int32) + v1_5))) ≤ 0 then
      (bd (Mo_token d4) fun r6 d7 =>
      bd (Mo_number d7 (1 : Int32) (32 : Int32)) fun r8 d9 =>
      if r8 = 0 then
        (some ((0 : Int32), d9))
      else
        (if inb ((6 : Int32) + v1_5) 12 then
        bnd (wr d9 40 (ix ((6 : Int32) + v1_5)) (d9 34 23)) fun d10 =>
        some ((1 : Int32), d10)
        else none))
    else
      (bd (Mo_wrong d4 (3 : Int32)) fun r11 d12 =>
      if r11 = 0 ∨ r11 = 1 then some (r11, d12) else none)
    else none)
theorem y_X6_quotaLine : YV yX6_quotaLine cX6_quotaLine 2 (some .boolean) 0 := ⟨q1434, q61, q1435, q149, by decide +kernel, by decide +kernel, by decide +kernel, by decide +kernel⟩
theorem r_Mo_quotaLine {C : Cxt} {G : Geo} {M : Mem} {k : Nat} (hC : Cx C cX6_quotaLine 2 "FrameHeirsModel" (some .boolean) rm_X6_quotaLine G) (hk : LMo G k) (d : Sl) : Rz C 2 G (setS M k) (poM avI (setS M k)) 0 [(0, .inr (k, 34))] [] d (Mo_quotaLine d) := by
  unfold Mo_quotaLine
  refine z_aload_n (pc := 0) hC 0 rfl 0 rfl dX6_quotaLine_0 ?_
  refine z_cvV (pc := 1) (st := []) hC y_X6_token q1380 [] rfl (hk 34 rfl) rfl rfl (c_X6_token hC.2.2.2.2.2.2.1 hk) rfl ⟨rfl, rfl, (Nat.le_of_ble_eq_true rfl), (Nat.le_of_ble_eq_true rfl)⟩ (Nat.le_of_ble_eq_true rfl) dX6_quotaLine_1 (fun r1 d2 => ?_)
  refine z_aload_n (pc := 4) hC 0 rfl 0 rfl dX6_quotaLine_4 ?_
  refine z_ciV (pc := 5) (st := []) hC y_X6_spaceRead q1421 [] rfl (hk 34 rfl) rfl rfl (c_X6_spaceRead hC.2.2.2.2.2.2.1 hk) rfl ⟨rfl, rfl, (Nat.le_of_ble_eq_true rfl), (Nat.le_of_ble_eq_true rfl)⟩ (Nat.le_of_ble_eq_true rfl) dX6_quotaLine_5 (fun r3 d4 => ?_)
  refine z_if_ne (pc := 8) hC 13 rfl dX6_quotaLine_8 ?_ ?_
  · refine z_aload_n (pc := 13) hC 0 rfl 0 rfl dX6_quotaLine_13 ?_
    refine zs_geti (pc := 14) hC (hk 34 rfl) f_34_23 q1293 dX6_quotaLine_14 ?_
    refine z_istore_n (pc := 17) (ls1 := fun v => [(1, .inl (.int v)), (0, .inr (k, 34))]) hC 1 rfl (by decide) (fun v => rfl) dX6_quotaLine_17 (fun v1_5 => ?_)
    refine z_aload_n (pc := 18) hC 0 rfl 1 rfl dX6_quotaLine_18 ?_
    refine z_getc (pc := 19) hC (hk 34 rfl) f_34_18 q1288 dX6_quotaLine_19 ?_
    refine z_bipush (pc := 22) hC (6 : Int32) rfl dX6_quotaLine_22 ?_
    refine z_iload_n (pc := 24) hC 1 rfl 0 rfl dX6_quotaLine_24 ?_
    refine z_iadd (pc := 25) hC dX6_quotaLine_25 ?_
    refine zs_iald (pc := 26) hC (hk 40 rfl) rfl dX6_quotaLine_26 ?_
    refine z_if_le (pc := 27) hC 36 rfl dX6_quotaLine_27 ?_ ?_
    · refine z_aload_n (pc := 36) hC 0 rfl 1 rfl dX6_quotaLine_36 ?_
      refine z_cvV (pc := 37) (st := []) hC y_X6_token q1380 [] rfl (hk 34 rfl) rfl rfl (c_X6_token hC.2.2.2.2.2.2.1 hk) rfl ⟨rfl, rfl, (Nat.le_of_ble_eq_true rfl), (Nat.le_of_ble_eq_true rfl)⟩ (Nat.le_of_ble_eq_true rfl) dX6_quotaLine_37 (fun r6 d7 => ?_)
      refine z_aload_n (pc := 40) hC 0 rfl 1 rfl dX6_quotaLine_40 ?_
      refine z_iconst (pc := 41) hC (1 : Int32) rfl dX6_quotaLine_41 ?_
      refine z_bipush (pc := 42) hC (32 : Int32) rfl dX6_quotaLine_42 ?_
      refine z_ciV (pc := 44) (st := []) hC y_X6_number q1425 [.inl (.int (1 : Int32)), .inl (.int (32 : Int32))] rfl (hk 34 rfl) rfl rfl (c_X6_number hC.2.2.2.2.2.2.1 hk) rfl ⟨rfl, rfl, (Nat.le_of_ble_eq_true rfl), (Nat.le_of_ble_eq_true rfl)⟩ (Nat.le_of_ble_eq_true rfl) dX6_quotaLine_44 (fun r8 d9 => ?_)
      refine z_if_ne (pc := 47) hC 52 rfl dX6_quotaLine_47 ?_ ?_
      · refine z_aload_n (pc := 52) hC 0 rfl 1 rfl dX6_quotaLine_52 ?_
        refine z_getc (pc := 53) hC (hk 34 rfl) f_34_18 q1288 dX6_quotaLine_53 ?_
        refine z_bipush (pc := 56) hC (6 : Int32) rfl dX6_quotaLine_56 ?_
        refine z_iload_n (pc := 58) hC 1 rfl 0 rfl dX6_quotaLine_58 ?_
        refine z_iadd (pc := 59) hC dX6_quotaLine_59 ?_
        refine z_aload_n (pc := 60) hC 0 rfl 1 rfl dX6_quotaLine_60 ?_
        refine zs_geti (pc := 61) hC (hk 34 rfl) f_34_23 q1293 dX6_quotaLine_61 ?_
        refine zs_iast (pc := 64) hC (hk 40 rfl) (by decide) rfl dX6_quotaLine_64 (fun d10 => ?_)
        refine z_iconst (pc := 65) hC (1 : Int32) rfl dX6_quotaLine_65 ?_
        exact z_zret (pc := 66) hC rfl rfl dX6_quotaLine_66
      · refine z_iconst (pc := 50) hC (0 : Int32) rfl dX6_quotaLine_50 ?_
        exact z_zret (pc := 51) hC rfl rfl dX6_quotaLine_51
    · refine z_aload_n (pc := 30) hC 0 rfl 1 rfl dX6_quotaLine_30 ?_
      refine z_iconst (pc := 31) hC (3 : Int32) rfl dX6_quotaLine_31 ?_
      refine z_ciV (pc := 32) (st := []) hC y_X6_wrong q1405 [.inl (.int (3 : Int32))] rfl (hk 34 rfl) rfl rfl (c_X6_wrong hC.2.2.2.2.2.2.1 hk) rfl ⟨rfl, rfl, (Nat.le_of_ble_eq_true rfl), (Nat.le_of_ble_eq_true rfl)⟩ (Nat.le_of_ble_eq_true rfl) dX6_quotaLine_32 (fun r11 d12 => ?_)
      exact z_zretG (pc := 35) hC rfl dX6_quotaLine_35
  · refine z_iconst (pc := 11) hC (0 : Int32) rfl dX6_quotaLine_11 ?_
    exact z_zret (pc := 12) hC rfl rfl dX6_quotaLine_12
theorem c_X6_quotaLine {G : Geo} {M : Mem} {k : Nat} (hG : GOk G) (hk : LMo G k) {d : Sl} (l : Launch) (r : Int32) (d1 : Sl) (h : Mo_quotaLine d = some (r, d1)) : Mt l yX6_quotaLine cX6_quotaLine 2 (some .boolean) rm_X6_quotaLine G [.inr (k, 34)] ((setS M k) d) (avI r) ((setS M k) d1) :=
  mt_of (mem := (setS M k)) (po := poM avI (setS M k)) (x0 := d) (t := (r, d1)) rfl hG [.inr (k, 34)] (Nat.le_of_ble_eq_true rfl) rfl (fun C hC => r_Mo_quotaLine hC hk d) h
-- FrameHeirsModel.wordLine()Z
abbrev rm_X6_wordLine : Room := { frames := 3, cells := 0, slots := 0, locals := 69 }
theorem dX6_wordLine_0 : decode cX6_wordLine 0 = .ok (.aload_n 0, 1) := by decide +kernel
theorem dX6_wordLine_1 : decode cX6_wordLine 1 = .ok (.getfield 90, 3) := by decide +kernel
theorem dX6_wordLine_4 : decode cX6_wordLine 4 = .ok (.istore_n 1, 1) := by decide +kernel
theorem dX6_wordLine_5 : decode cX6_wordLine 5 = .ok (.aload_n 0, 1) := by decide +kernel
theorem dX6_wordLine_6 : decode cX6_wordLine 6 = .ok (.getfield 35, 3) := by decide +kernel
theorem dX6_wordLine_9 : decode cX6_wordLine 9 = .ok (.iload_n 1, 1) := by decide +kernel
theorem dX6_wordLine_10 : decode cX6_wordLine 10 = .ok (.baload, 1) := by decide +kernel
theorem dX6_wordLine_11 : decode cX6_wordLine 11 = .ok (.ifCond .eq 9, 3) := by decide +kernel
theorem dX6_wordLine_14 : decode cX6_wordLine 14 = .ok (.aload_n 0, 1) := by decide +kernel
theorem dX6_wordLine_15 : decode cX6_wordLine 15 = .ok (.iconst 3, 1) := by decide +kernel
theorem dX6_wordLine_16 : decode cX6_wordLine 16 = .ok (.invokevirtual 134, 3) := by decide +kernel
theorem dX6_wordLine_19 : decode cX6_wordLine 19 = .ok (.ireturn, 1) := by decide +kernel
theorem dX6_wordLine_20 : decode cX6_wordLine 20 = .ok (.aload_n 0, 1) := by decide +kernel
theorem dX6_wordLine_21 : decode cX6_wordLine 21 = .ok (.getfield 35, 3) := by decide +kernel
theorem dX6_wordLine_24 : decode cX6_wordLine 24 = .ok (.iload_n 1, 1) := by decide +kernel
theorem dX6_wordLine_25 : decode cX6_wordLine 25 = .ok (.iconst 1, 1) := by decide +kernel
theorem dX6_wordLine_26 : decode cX6_wordLine 26 = .ok (.bastore, 1) := by decide +kernel
theorem dX6_wordLine_27 : decode cX6_wordLine 27 = .ok (.aload_n 0, 1) := by decide +kernel
theorem dX6_wordLine_28 : decode cX6_wordLine 28 = .ok (.invokevirtual 144, 3) := by decide +kernel
theorem dX6_wordLine_31 : decode cX6_wordLine 31 = .ok (.iload_n 1, 1) := by decide +kernel
theorem dX6_wordLine_32 : decode cX6_wordLine 32 = .ok (.iconst 4, 1) := by decide +kernel
theorem dX6_wordLine_33 : decode cX6_wordLine 33 = .ok (.if_icmp .ne 13, 3) := by decide +kernel
theorem dX6_wordLine_36 : decode cX6_wordLine 36 = .ok (.aload_n 0, 1) := by decide +kernel
theorem dX6_wordLine_37 : decode cX6_wordLine 37 = .ok (.iconst 0, 1) := by decide +kernel
theorem dX6_wordLine_38 : decode cX6_wordLine 38 = .ok (.bipush 9, 2) := by decide +kernel
theorem dX6_wordLine_40 : decode cX6_wordLine 40 = .ok (.invokevirtual 155, 3) := by decide +kernel
theorem dX6_wordLine_43 : decode cX6_wordLine 43 = .ok (.goto 25, 3) := by decide +kernel
theorem dX6_wordLine_46 : decode cX6_wordLine 46 = .ok (.iload_n 1, 1) := by decide +kernel
theorem dX6_wordLine_47 : decode cX6_wordLine 47 = .ok (.iconst 5, 1) := by decide +kernel
theorem dX6_wordLine_48 : decode cX6_wordLine 48 = .ok (.if_icmp .ne 13, 3) := by decide +kernel
theorem dX6_wordLine_51 : decode cX6_wordLine 51 = .ok (.aload_n 0, 1) := by decide +kernel
theorem dX6_wordLine_52 : decode cX6_wordLine 52 = .ok (.iconst 1, 1) := by decide +kernel
theorem dX6_wordLine_53 : decode cX6_wordLine 53 = .ok (.bipush 9, 2) := by decide +kernel
theorem dX6_wordLine_55 : decode cX6_wordLine 55 = .ok (.invokevirtual 155, 3) := by decide +kernel
theorem dX6_wordLine_58 : decode cX6_wordLine 58 = .ok (.goto 10, 3) := by decide +kernel
theorem dX6_wordLine_61 : decode cX6_wordLine 61 = .ok (.aload_n 0, 1) := by decide +kernel
theorem dX6_wordLine_62 : decode cX6_wordLine 62 = .ok (.iconst 0, 1) := by decide +kernel
theorem dX6_wordLine_63 : decode cX6_wordLine 63 = .ok (.ldc 99, 2) := by decide +kernel
theorem dX6_wordLine_65 : decode cX6_wordLine 65 = .ok (.invokevirtual 155, 3) := by decide +kernel
theorem dX6_wordLine_68 : decode cX6_wordLine 68 = .ok (.istore_n 2, 1) := by decide +kernel
theorem dX6_wordLine_69 : decode cX6_wordLine 69 = .ok (.iload_n 2, 1) := by decide +kernel
theorem dX6_wordLine_70 : decode cX6_wordLine 70 = .ok (.ifCond .ne 5, 3) := by decide +kernel
theorem dX6_wordLine_73 : decode cX6_wordLine 73 = .ok (.iconst 0, 1) := by decide +kernel
theorem dX6_wordLine_74 : decode cX6_wordLine 74 = .ok (.ireturn, 1) := by decide +kernel
theorem dX6_wordLine_75 : decode cX6_wordLine 75 = .ok (.aload_n 0, 1) := by decide +kernel
theorem dX6_wordLine_76 : decode cX6_wordLine 76 = .ok (.getfield 32, 3) := by decide +kernel
theorem dX6_wordLine_79 : decode cX6_wordLine 79 = .ok (.bipush 7, 2) := by decide +kernel
theorem dX6_wordLine_81 : decode cX6_wordLine 81 = .ok (.iload_n 1, 1) := by decide +kernel
theorem dX6_wordLine_82 : decode cX6_wordLine 82 = .ok (.iadd, 1) := by decide +kernel
theorem dX6_wordLine_83 : decode cX6_wordLine 83 = .ok (.aload_n 0, 1) := by decide +kernel
theorem dX6_wordLine_84 : decode cX6_wordLine 84 = .ok (.getfield 141, 3) := by decide +kernel
theorem dX6_wordLine_87 : decode cX6_wordLine 87 = .ok (.iastore, 1) := by decide +kernel
theorem dX6_wordLine_88 : decode cX6_wordLine 88 = .ok (.iconst 1, 1) := by decide +kernel
theorem dX6_wordLine_89 : decode cX6_wordLine 89 = .ok (.ireturn, 1) := by decide +kernel
def Mo_wordLine_68 (v1 : Int32) (s0 : Int32) (d : Sl) : Option (Int32 × Sl) :=
  bnd s0 fun v2_1 =>
  if v2_1 = 0 then
    (some ((0 : Int32), d))
  else
    (if inb ((7 : Int32) + v1) 14 then
    bnd (wr d 41 (ix ((7 : Int32) + v1)) (d 34 23)) fun d2 =>
    some ((1 : Int32), d2)
    else none)
def Mo_wordLine (d : Sl) : Option (Int32 × Sl) :=
  bnd (d 34 9) fun v1_3 =>
  if inb v1_3 7 then
  if (d 42 (ix v1_3)) = 0 then
    (if inb v1_3 7 then
    bnd (wr d 42 (ix v1_3) (1 : Int32)) fun d4 =>
    bd (Mo_token d4) fun r5 d6 =>
    if v1_3 = (4 : Int32) then
      (bd (Mo_number d6 (0 : Int32) (9 : Int32)) fun r11 d12 =>
      Mo_wordLine_68 v1_3 r11 d12)
    else
      (if v1_3 = (5 : Int32) then
        (bd (Mo_number d6 (1 : Int32) (9 : Int32)) fun r9 d10 =>
        Mo_wordLine_68 v1_3 r9 d10)
      else
        (bd (Mo_number d6 (0 : Int32) (99999 : Int32)) fun r7 d8 =>
        Mo_wordLine_68 v1_3 r7 d8))
    else none)
  else
    (bd (Mo_wrong d (3 : Int32)) fun r13 d14 =>
    if r13 = 0 ∨ r13 = 1 then some (r13, d14) else none)
  else none
theorem y_X6_wordLine : YV yX6_wordLine cX6_wordLine 3 (some .boolean) 0 := ⟨q1442, q63, q1443, q149, by decide +kernel, by decide +kernel, by decide +kernel, by decide +kernel⟩
theorem r_Mo_wordLine_68 {C : Cxt} {G : Geo} {M : Mem} {k : Nat} (hC : Cx C cX6_wordLine 3 "FrameHeirsModel" (some .boolean) rm_X6_wordLine G) (hk : LMo G k) (v1 : Int32) (s0 : Int32) (d : Sl) : Rz C 3 G (setS M k) (poM avI (setS M k)) 68 [(0, .inr (k, 34)), (1, .inl (.int v1))] [.inl (.int s0)] d (Mo_wordLine_68 v1 s0 d) := by
  unfold Mo_wordLine_68
  refine z_istore_n (pc := 68) (ls1 := fun v => [(2, .inl (.int v)), (0, .inr (k, 34)), (1, .inl (.int v1))]) hC 2 rfl (by decide) (fun v => rfl) dX6_wordLine_68 (fun v2_1 => ?_)
  refine z_iload_n (pc := 69) hC 2 rfl 0 rfl dX6_wordLine_69 ?_
  refine z_if_ne (pc := 70) hC 75 rfl dX6_wordLine_70 ?_ ?_
  · refine z_aload_n (pc := 75) hC 0 rfl 1 rfl dX6_wordLine_75 ?_
    refine z_getc (pc := 76) hC (hk 34 rfl) f_34_19 q1289 dX6_wordLine_76 ?_
    refine z_bipush (pc := 79) hC (7 : Int32) rfl dX6_wordLine_79 ?_
    refine z_iload_n (pc := 81) hC 1 rfl 2 rfl dX6_wordLine_81 ?_
    refine z_iadd (pc := 82) hC dX6_wordLine_82 ?_
    refine z_aload_n (pc := 83) hC 0 rfl 1 rfl dX6_wordLine_83 ?_
    refine zs_geti (pc := 84) hC (hk 34 rfl) f_34_23 q1293 dX6_wordLine_84 ?_
    refine zs_iast (pc := 87) hC (hk 41 rfl) (by decide) rfl dX6_wordLine_87 (fun d2 => ?_)
    refine z_iconst (pc := 88) hC (1 : Int32) rfl dX6_wordLine_88 ?_
    exact z_zret (pc := 89) hC rfl rfl dX6_wordLine_89
  · refine z_iconst (pc := 73) hC (0 : Int32) rfl dX6_wordLine_73 ?_
    exact z_zret (pc := 74) hC rfl rfl dX6_wordLine_74
theorem r_Mo_wordLine {C : Cxt} {G : Geo} {M : Mem} {k : Nat} (hC : Cx C cX6_wordLine 3 "FrameHeirsModel" (some .boolean) rm_X6_wordLine G) (hk : LMo G k) (d : Sl) : Rz C 3 G (setS M k) (poM avI (setS M k)) 0 [(0, .inr (k, 34))] [] d (Mo_wordLine d) := by
  unfold Mo_wordLine
  refine z_aload_n (pc := 0) hC 0 rfl 0 rfl dX6_wordLine_0 ?_
  refine zs_geti (pc := 1) hC (hk 34 rfl) f_34_9 q1279 dX6_wordLine_1 ?_
  refine z_istore_n (pc := 4) (ls1 := fun v => [(1, .inl (.int v)), (0, .inr (k, 34))]) hC 1 rfl (by decide) (fun v => rfl) dX6_wordLine_4 (fun v1_3 => ?_)
  refine z_aload_n (pc := 5) hC 0 rfl 1 rfl dX6_wordLine_5 ?_
  refine z_getc (pc := 6) hC (hk 34 rfl) f_34_20 q1290 dX6_wordLine_6 ?_
  refine z_iload_n (pc := 9) hC 1 rfl 0 rfl dX6_wordLine_9 ?_
  refine zs_zald (pc := 10) hC (hk 42 rfl) rfl dX6_wordLine_10 ?_
  refine z_if_eq (pc := 11) hC 20 rfl dX6_wordLine_11 ?_ ?_
  · refine z_aload_n (pc := 20) hC 0 rfl 1 rfl dX6_wordLine_20 ?_
    refine z_getc (pc := 21) hC (hk 34 rfl) f_34_20 q1290 dX6_wordLine_21 ?_
    refine z_iload_n (pc := 24) hC 1 rfl 0 rfl dX6_wordLine_24 ?_
    refine z_iconst (pc := 25) hC (1 : Int32) rfl dX6_wordLine_25 ?_
    refine zs_zast (pc := 26) hC (hk 42 rfl) (by decide) rfl rfl dX6_wordLine_26 (fun d4 => ?_)
    refine z_aload_n (pc := 27) hC 0 rfl 1 rfl dX6_wordLine_27 ?_
    refine z_cvV (pc := 28) (st := []) hC y_X6_token q1380 [] rfl (hk 34 rfl) rfl rfl (c_X6_token hC.2.2.2.2.2.2.1 hk) rfl ⟨rfl, rfl, (Nat.le_of_ble_eq_true rfl), (Nat.le_of_ble_eq_true rfl)⟩ (Nat.le_of_ble_eq_true rfl) dX6_wordLine_28 (fun r5 d6 => ?_)
    refine z_iload_n (pc := 31) hC 1 rfl 0 rfl dX6_wordLine_31 ?_
    refine z_iconst (pc := 32) hC (4 : Int32) rfl dX6_wordLine_32 ?_
    refine z_icmp_ne (pc := 33) hC 46 rfl dX6_wordLine_33 ?_ ?_
    · refine z_iload_n (pc := 46) hC 1 rfl 0 rfl dX6_wordLine_46 ?_
      refine z_iconst (pc := 47) hC (5 : Int32) rfl dX6_wordLine_47 ?_
      refine z_icmp_ne (pc := 48) hC 61 rfl dX6_wordLine_48 ?_ ?_
      · refine z_aload_n (pc := 61) hC 0 rfl 1 rfl dX6_wordLine_61 ?_
        refine z_iconst (pc := 62) hC (0 : Int32) rfl dX6_wordLine_62 ?_
        refine z_ldc (pc := 63) hC (99999 : Int32) q1400 dX6_wordLine_63 ?_
        refine z_ciV (pc := 65) (st := []) hC y_X6_number q1425 [.inl (.int (0 : Int32)), .inl (.int (99999 : Int32))] rfl (hk 34 rfl) rfl rfl (c_X6_number hC.2.2.2.2.2.2.1 hk) rfl ⟨rfl, rfl, (Nat.le_of_ble_eq_true rfl), (Nat.le_of_ble_eq_true rfl)⟩ (Nat.le_of_ble_eq_true rfl) dX6_wordLine_65 (fun r7 d8 => ?_)
        exact z_sub [1, 0] rfl (r_Mo_wordLine_68 hC hk v1_3 r7 d8)
      · refine z_aload_n (pc := 51) hC 0 rfl 1 rfl dX6_wordLine_51 ?_
        refine z_iconst (pc := 52) hC (1 : Int32) rfl dX6_wordLine_52 ?_
        refine z_bipush (pc := 53) hC (9 : Int32) rfl dX6_wordLine_53 ?_
        refine z_ciV (pc := 55) (st := []) hC y_X6_number q1425 [.inl (.int (1 : Int32)), .inl (.int (9 : Int32))] rfl (hk 34 rfl) rfl rfl (c_X6_number hC.2.2.2.2.2.2.1 hk) rfl ⟨rfl, rfl, (Nat.le_of_ble_eq_true rfl), (Nat.le_of_ble_eq_true rfl)⟩ (Nat.le_of_ble_eq_true rfl) dX6_wordLine_55 (fun r9 d10 => ?_)
        refine z_goto (pc := 58) hC 68 rfl dX6_wordLine_58 ?_
        exact z_sub [1, 0] rfl (r_Mo_wordLine_68 hC hk v1_3 r9 d10)
    · refine z_aload_n (pc := 36) hC 0 rfl 1 rfl dX6_wordLine_36 ?_
      refine z_iconst (pc := 37) hC (0 : Int32) rfl dX6_wordLine_37 ?_
      refine z_bipush (pc := 38) hC (9 : Int32) rfl dX6_wordLine_38 ?_
      refine z_ciV (pc := 40) (st := []) hC y_X6_number q1425 [.inl (.int (0 : Int32)), .inl (.int (9 : Int32))] rfl (hk 34 rfl) rfl rfl (c_X6_number hC.2.2.2.2.2.2.1 hk) rfl ⟨rfl, rfl, (Nat.le_of_ble_eq_true rfl), (Nat.le_of_ble_eq_true rfl)⟩ (Nat.le_of_ble_eq_true rfl) dX6_wordLine_40 (fun r11 d12 => ?_)
      refine z_goto (pc := 43) hC 68 rfl dX6_wordLine_43 ?_
      exact z_sub [1, 0] rfl (r_Mo_wordLine_68 hC hk v1_3 r11 d12)
  · refine z_aload_n (pc := 14) hC 0 rfl 1 rfl dX6_wordLine_14 ?_
    refine z_iconst (pc := 15) hC (3 : Int32) rfl dX6_wordLine_15 ?_
    refine z_ciV (pc := 16) (st := []) hC y_X6_wrong q1405 [.inl (.int (3 : Int32))] rfl (hk 34 rfl) rfl rfl (c_X6_wrong hC.2.2.2.2.2.2.1 hk) rfl ⟨rfl, rfl, (Nat.le_of_ble_eq_true rfl), (Nat.le_of_ble_eq_true rfl)⟩ (Nat.le_of_ble_eq_true rfl) dX6_wordLine_16 (fun r13 d14 => ?_)
    exact z_zretG (pc := 19) hC rfl dX6_wordLine_19
theorem c_X6_wordLine {G : Geo} {M : Mem} {k : Nat} (hG : GOk G) (hk : LMo G k) {d : Sl} (l : Launch) (r : Int32) (d1 : Sl) (h : Mo_wordLine d = some (r, d1)) : Mt l yX6_wordLine cX6_wordLine 3 (some .boolean) rm_X6_wordLine G [.inr (k, 34)] ((setS M k) d) (avI r) ((setS M k) d1) :=
  mt_of (mem := (setS M k)) (po := poM avI (setS M k)) (x0 := d) (t := (r, d1)) rfl hG [.inr (k, 34)] (Nat.le_of_ble_eq_true rfl) rfl (fun C hC => r_Mo_wordLine hC hk d) h
-- FrameHeirsModel.sizeLine()Z
abbrev rm_X6_sizeLine : Room := { frames := 2, cells := 0, slots := 0, locals := 47 }
theorem dX6_sizeLine_0 : decode cX6_sizeLine 0 = .ok (.aload_n 0, 1) := by decide +kernel
theorem dX6_sizeLine_1 : decode cX6_sizeLine 1 = .ok (.getfield 90, 3) := by decide +kernel
theorem dX6_sizeLine_4 : decode cX6_sizeLine 4 = .ok (.istore_n 1, 1) := by decide +kernel
theorem dX6_sizeLine_5 : decode cX6_sizeLine 5 = .ok (.aload_n 0, 1) := by decide +kernel
theorem dX6_sizeLine_6 : decode cX6_sizeLine 6 = .ok (.getfield 103, 3) := by decide +kernel
theorem dX6_sizeLine_9 : decode cX6_sizeLine 9 = .ok (.ifCond .le 9, 3) := by decide +kernel
theorem dX6_sizeLine_12 : decode cX6_sizeLine 12 = .ok (.aload_n 0, 1) := by decide +kernel
theorem dX6_sizeLine_13 : decode cX6_sizeLine 13 = .ok (.iconst 1, 1) := by decide +kernel
theorem dX6_sizeLine_14 : decode cX6_sizeLine 14 = .ok (.invokevirtual 134, 3) := by decide +kernel
theorem dX6_sizeLine_17 : decode cX6_sizeLine 17 = .ok (.ireturn, 1) := by decide +kernel
theorem dX6_sizeLine_18 : decode cX6_sizeLine 18 = .ok (.aload_n 0, 1) := by decide +kernel
theorem dX6_sizeLine_19 : decode cX6_sizeLine 19 = .ok (.getfield 35, 3) := by decide +kernel
theorem dX6_sizeLine_22 : decode cX6_sizeLine 22 = .ok (.iload_n 1, 1) := by decide +kernel
theorem dX6_sizeLine_23 : decode cX6_sizeLine 23 = .ok (.baload, 1) := by decide +kernel
theorem dX6_sizeLine_24 : decode cX6_sizeLine 24 = .ok (.ifCond .eq 9, 3) := by decide +kernel
theorem dX6_sizeLine_27 : decode cX6_sizeLine 27 = .ok (.aload_n 0, 1) := by decide +kernel
theorem dX6_sizeLine_28 : decode cX6_sizeLine 28 = .ok (.iconst 3, 1) := by decide +kernel
theorem dX6_sizeLine_29 : decode cX6_sizeLine 29 = .ok (.invokevirtual 134, 3) := by decide +kernel
theorem dX6_sizeLine_32 : decode cX6_sizeLine 32 = .ok (.ireturn, 1) := by decide +kernel
theorem dX6_sizeLine_33 : decode cX6_sizeLine 33 = .ok (.aload_n 0, 1) := by decide +kernel
theorem dX6_sizeLine_34 : decode cX6_sizeLine 34 = .ok (.getfield 35, 3) := by decide +kernel
theorem dX6_sizeLine_37 : decode cX6_sizeLine 37 = .ok (.iload_n 1, 1) := by decide +kernel
theorem dX6_sizeLine_38 : decode cX6_sizeLine 38 = .ok (.iconst 1, 1) := by decide +kernel
theorem dX6_sizeLine_39 : decode cX6_sizeLine 39 = .ok (.bastore, 1) := by decide +kernel
theorem dX6_sizeLine_40 : decode cX6_sizeLine 40 = .ok (.aload_n 0, 1) := by decide +kernel
theorem dX6_sizeLine_41 : decode cX6_sizeLine 41 = .ok (.invokevirtual 144, 3) := by decide +kernel
theorem dX6_sizeLine_44 : decode cX6_sizeLine 44 = .ok (.aload_n 0, 1) := by decide +kernel
theorem dX6_sizeLine_45 : decode cX6_sizeLine 45 = .ok (.getfield 79, 3) := by decide +kernel
theorem dX6_sizeLine_48 : decode cX6_sizeLine 48 = .ok (.iconst 3, 1) := by decide +kernel
theorem dX6_sizeLine_49 : decode cX6_sizeLine 49 = .ok (.if_icmp .eq 9, 3) := by decide +kernel
theorem dX6_sizeLine_52 : decode cX6_sizeLine 52 = .ok (.aload_n 0, 1) := by decide +kernel
theorem dX6_sizeLine_53 : decode cX6_sizeLine 53 = .ok (.iconst 1, 1) := by decide +kernel
theorem dX6_sizeLine_54 : decode cX6_sizeLine 54 = .ok (.invokevirtual 134, 3) := by decide +kernel
theorem dX6_sizeLine_57 : decode cX6_sizeLine 57 = .ok (.ireturn, 1) := by decide +kernel
theorem dX6_sizeLine_58 : decode cX6_sizeLine 58 = .ok (.aload_n 0, 1) := by decide +kernel
theorem dX6_sizeLine_59 : decode cX6_sizeLine 59 = .ok (.getfield 90, 3) := by decide +kernel
theorem dX6_sizeLine_62 : decode cX6_sizeLine 62 = .ok (.bipush 8, 2) := by decide +kernel
theorem dX6_sizeLine_64 : decode cX6_sizeLine 64 = .ok (.if_icmp .eq 27, 3) := by decide +kernel
theorem dX6_sizeLine_67 : decode cX6_sizeLine 67 = .ok (.aload_n 0, 1) := by decide +kernel
theorem dX6_sizeLine_68 : decode cX6_sizeLine 68 = .ok (.getfield 90, 3) := by decide +kernel
theorem dX6_sizeLine_71 : decode cX6_sizeLine 71 = .ok (.bipush 16, 2) := by decide +kernel
theorem dX6_sizeLine_73 : decode cX6_sizeLine 73 = .ok (.if_icmp .eq 18, 3) := by decide +kernel
theorem dX6_sizeLine_76 : decode cX6_sizeLine 76 = .ok (.aload_n 0, 1) := by decide +kernel
theorem dX6_sizeLine_77 : decode cX6_sizeLine 77 = .ok (.getfield 90, 3) := by decide +kernel
theorem dX6_sizeLine_80 : decode cX6_sizeLine 80 = .ok (.bipush 32, 2) := by decide +kernel
theorem dX6_sizeLine_82 : decode cX6_sizeLine 82 = .ok (.if_icmp .eq 9, 3) := by decide +kernel
theorem dX6_sizeLine_85 : decode cX6_sizeLine 85 = .ok (.aload_n 0, 1) := by decide +kernel
theorem dX6_sizeLine_86 : decode cX6_sizeLine 86 = .ok (.iconst 2, 1) := by decide +kernel
theorem dX6_sizeLine_87 : decode cX6_sizeLine 87 = .ok (.invokevirtual 134, 3) := by decide +kernel
theorem dX6_sizeLine_90 : decode cX6_sizeLine 90 = .ok (.ireturn, 1) := by decide +kernel
theorem dX6_sizeLine_91 : decode cX6_sizeLine 91 = .ok (.aload_n 0, 1) := by decide +kernel
theorem dX6_sizeLine_92 : decode cX6_sizeLine 92 = .ok (.getfield 32, 3) := by decide +kernel
theorem dX6_sizeLine_95 : decode cX6_sizeLine 95 = .ok (.bipush 10, 2) := by decide +kernel
theorem dX6_sizeLine_97 : decode cX6_sizeLine 97 = .ok (.aload_n 0, 1) := by decide +kernel
theorem dX6_sizeLine_98 : decode cX6_sizeLine 98 = .ok (.getfield 90, 3) := by decide +kernel
theorem dX6_sizeLine_101 : decode cX6_sizeLine 101 = .ok (.iastore, 1) := by decide +kernel
theorem dX6_sizeLine_102 : decode cX6_sizeLine 102 = .ok (.aload_n 0, 1) := by decide +kernel
theorem dX6_sizeLine_103 : decode cX6_sizeLine 103 = .ok (.invokevirtual 144, 3) := by decide +kernel
theorem dX6_sizeLine_106 : decode cX6_sizeLine 106 = .ok (.iconst 1, 1) := by decide +kernel
theorem dX6_sizeLine_107 : decode cX6_sizeLine 107 = .ok (.ireturn, 1) := by decide +kernel
def Mo_sizeLine_91 (d : Sl) : Option (Int32 × Sl) :=
  if inb (10 : Int32) 14 then
  bnd (wr d 41 (ix (10 : Int32)) (d 34 9)) fun d1 =>
  bd (Mo_token d1) fun r2 d3 =>
  some ((1 : Int32), d3)
  else none
def Mo_sizeLine (d : Sl) : Option (Int32 × Sl) :=
  bnd (d 34 9) fun v1_4 =>
  if (d 34 14) ≤ 0 then
    (if inb v1_4 7 then
    if (d 42 (ix v1_4)) = 0 then
      (if inb v1_4 7 then
      bnd (wr d 42 (ix v1_4) (1 : Int32)) fun d5 =>
      bd (Mo_token d5) fun r6 d7 =>
      if (d7 34 8) = (3 : Int32) then
        (if (d7 34 9) = (8 : Int32) then
          (Mo_sizeLine_91 d7)
        else
          (if (d7 34 9) = (16 : Int32) then
            (Mo_sizeLine_91 d7)
          else
            (if (d7 34 9) = (32 : Int32) then
              (Mo_sizeLine_91 d7)
            else
              (bd (Mo_wrong d7 (2 : Int32)) fun r8 d9 =>
              if r8 = 0 ∨ r8 = 1 then some (r8, d9) else none))))
      else
        (bd (Mo_wrong d7 (1 : Int32)) fun r10 d11 =>
        if r10 = 0 ∨ r10 = 1 then some (r10, d11) else none)
      else none)
    else
      (bd (Mo_wrong d (3 : Int32)) fun r12 d13 =>
      if r12 = 0 ∨ r12 = 1 then some (r12, d13) else none)
    else none)
  else
    (bd (Mo_wrong d (1 : Int32)) fun r14 d15 =>
    if r14 = 0 ∨ r14 = 1 then some (r14, d15) else none)
theorem y_X6_sizeLine : YV yX6_sizeLine cX6_sizeLine 2 (some .boolean) 0 := ⟨q1438, q62, q1439, q149, by decide +kernel, by decide +kernel, by decide +kernel, by decide +kernel⟩
theorem r_Mo_sizeLine_91 {C : Cxt} {G : Geo} {M : Mem} {k : Nat} (hC : Cx C cX6_sizeLine 2 "FrameHeirsModel" (some .boolean) rm_X6_sizeLine G) (hk : LMo G k) (d : Sl) : Rz C 2 G (setS M k) (poM avI (setS M k)) 91 [(0, .inr (k, 34))] [] d (Mo_sizeLine_91 d) := by
  unfold Mo_sizeLine_91
  refine z_aload_n (pc := 91) hC 0 rfl 0 rfl dX6_sizeLine_91 ?_
  refine z_getc (pc := 92) hC (hk 34 rfl) f_34_19 q1289 dX6_sizeLine_92 ?_
  refine z_bipush (pc := 95) hC (10 : Int32) rfl dX6_sizeLine_95 ?_
  refine z_aload_n (pc := 97) hC 0 rfl 0 rfl dX6_sizeLine_97 ?_
  refine zs_geti (pc := 98) hC (hk 34 rfl) f_34_9 q1279 dX6_sizeLine_98 ?_
  refine zs_iast (pc := 101) hC (hk 41 rfl) (by decide) rfl dX6_sizeLine_101 (fun d1 => ?_)
  refine z_aload_n (pc := 102) hC 0 rfl 0 rfl dX6_sizeLine_102 ?_
  refine z_cvV (pc := 103) (st := []) hC y_X6_token q1380 [] rfl (hk 34 rfl) rfl rfl (c_X6_token hC.2.2.2.2.2.2.1 hk) rfl ⟨rfl, rfl, (Nat.le_of_ble_eq_true rfl), (Nat.le_of_ble_eq_true rfl)⟩ (Nat.le_of_ble_eq_true rfl) dX6_sizeLine_103 (fun r2 d3 => ?_)
  refine z_iconst (pc := 106) hC (1 : Int32) rfl dX6_sizeLine_106 ?_
  exact z_zret (pc := 107) hC rfl rfl dX6_sizeLine_107
theorem r_Mo_sizeLine {C : Cxt} {G : Geo} {M : Mem} {k : Nat} (hC : Cx C cX6_sizeLine 2 "FrameHeirsModel" (some .boolean) rm_X6_sizeLine G) (hk : LMo G k) (d : Sl) : Rz C 2 G (setS M k) (poM avI (setS M k)) 0 [(0, .inr (k, 34))] [] d (Mo_sizeLine d) := by
  unfold Mo_sizeLine
  refine z_aload_n (pc := 0) hC 0 rfl 0 rfl dX6_sizeLine_0 ?_
  refine zs_geti (pc := 1) hC (hk 34 rfl) f_34_9 q1279 dX6_sizeLine_1 ?_
  refine z_istore_n (pc := 4) (ls1 := fun v => [(1, .inl (.int v)), (0, .inr (k, 34))]) hC 1 rfl (by decide) (fun v => rfl) dX6_sizeLine_4 (fun v1_4 => ?_)
  refine z_aload_n (pc := 5) hC 0 rfl 1 rfl dX6_sizeLine_5 ?_
  refine zs_geti (pc := 6) hC (hk 34 rfl) f_34_14 q1284 dX6_sizeLine_6 ?_
  refine z_if_le (pc := 9) hC 18 rfl dX6_sizeLine_9 ?_ ?_
  · refine z_aload_n (pc := 18) hC 0 rfl 1 rfl dX6_sizeLine_18 ?_
    refine z_getc (pc := 19) hC (hk 34 rfl) f_34_20 q1290 dX6_sizeLine_19 ?_
    refine z_iload_n (pc := 22) hC 1 rfl 0 rfl dX6_sizeLine_22 ?_
    refine zs_zald (pc := 23) hC (hk 42 rfl) rfl dX6_sizeLine_23 ?_
    refine z_if_eq (pc := 24) hC 33 rfl dX6_sizeLine_24 ?_ ?_
    · refine z_aload_n (pc := 33) hC 0 rfl 1 rfl dX6_sizeLine_33 ?_
      refine z_getc (pc := 34) hC (hk 34 rfl) f_34_20 q1290 dX6_sizeLine_34 ?_
      refine z_iload_n (pc := 37) hC 1 rfl 0 rfl dX6_sizeLine_37 ?_
      refine z_iconst (pc := 38) hC (1 : Int32) rfl dX6_sizeLine_38 ?_
      refine zs_zast (pc := 39) hC (hk 42 rfl) (by decide) rfl rfl dX6_sizeLine_39 (fun d5 => ?_)
      refine z_aload_n (pc := 40) hC 0 rfl 1 rfl dX6_sizeLine_40 ?_
      refine z_cvV (pc := 41) (st := []) hC y_X6_token q1380 [] rfl (hk 34 rfl) rfl rfl (c_X6_token hC.2.2.2.2.2.2.1 hk) rfl ⟨rfl, rfl, (Nat.le_of_ble_eq_true rfl), (Nat.le_of_ble_eq_true rfl)⟩ (Nat.le_of_ble_eq_true rfl) dX6_sizeLine_41 (fun r6 d7 => ?_)
      refine z_aload_n (pc := 44) hC 0 rfl 1 rfl dX6_sizeLine_44 ?_
      refine zs_geti (pc := 45) hC (hk 34 rfl) f_34_8 q1278 dX6_sizeLine_45 ?_
      refine z_iconst (pc := 48) hC (3 : Int32) rfl dX6_sizeLine_48 ?_
      refine z_icmp_eq (pc := 49) hC 58 rfl dX6_sizeLine_49 ?_ ?_
      · refine z_aload_n (pc := 58) hC 0 rfl 1 rfl dX6_sizeLine_58 ?_
        refine zs_geti (pc := 59) hC (hk 34 rfl) f_34_9 q1279 dX6_sizeLine_59 ?_
        refine z_bipush (pc := 62) hC (8 : Int32) rfl dX6_sizeLine_62 ?_
        refine z_icmp_eq (pc := 64) hC 91 rfl dX6_sizeLine_64 ?_ ?_
        · exact z_sub [1] rfl (r_Mo_sizeLine_91 hC hk d7)
        · refine z_aload_n (pc := 67) hC 0 rfl 1 rfl dX6_sizeLine_67 ?_
          refine zs_geti (pc := 68) hC (hk 34 rfl) f_34_9 q1279 dX6_sizeLine_68 ?_
          refine z_bipush (pc := 71) hC (16 : Int32) rfl dX6_sizeLine_71 ?_
          refine z_icmp_eq (pc := 73) hC 91 rfl dX6_sizeLine_73 ?_ ?_
          · exact z_sub [1] rfl (r_Mo_sizeLine_91 hC hk d7)
          · refine z_aload_n (pc := 76) hC 0 rfl 1 rfl dX6_sizeLine_76 ?_
            refine zs_geti (pc := 77) hC (hk 34 rfl) f_34_9 q1279 dX6_sizeLine_77 ?_
            refine z_bipush (pc := 80) hC (32 : Int32) rfl dX6_sizeLine_80 ?_
            refine z_icmp_eq (pc := 82) hC 91 rfl dX6_sizeLine_82 ?_ ?_
            · exact z_sub [1] rfl (r_Mo_sizeLine_91 hC hk d7)
            · refine z_aload_n (pc := 85) hC 0 rfl 1 rfl dX6_sizeLine_85 ?_
              refine z_iconst (pc := 86) hC (2 : Int32) rfl dX6_sizeLine_86 ?_
              refine z_ciV (pc := 87) (st := []) hC y_X6_wrong q1405 [.inl (.int (2 : Int32))] rfl (hk 34 rfl) rfl rfl (c_X6_wrong hC.2.2.2.2.2.2.1 hk) rfl ⟨rfl, rfl, (Nat.le_of_ble_eq_true rfl), (Nat.le_of_ble_eq_true rfl)⟩ (Nat.le_of_ble_eq_true rfl) dX6_sizeLine_87 (fun r8 d9 => ?_)
              exact z_zretG (pc := 90) hC rfl dX6_sizeLine_90
      · refine z_aload_n (pc := 52) hC 0 rfl 1 rfl dX6_sizeLine_52 ?_
        refine z_iconst (pc := 53) hC (1 : Int32) rfl dX6_sizeLine_53 ?_
        refine z_ciV (pc := 54) (st := []) hC y_X6_wrong q1405 [.inl (.int (1 : Int32))] rfl (hk 34 rfl) rfl rfl (c_X6_wrong hC.2.2.2.2.2.2.1 hk) rfl ⟨rfl, rfl, (Nat.le_of_ble_eq_true rfl), (Nat.le_of_ble_eq_true rfl)⟩ (Nat.le_of_ble_eq_true rfl) dX6_sizeLine_54 (fun r10 d11 => ?_)
        exact z_zretG (pc := 57) hC rfl dX6_sizeLine_57
    · refine z_aload_n (pc := 27) hC 0 rfl 1 rfl dX6_sizeLine_27 ?_
      refine z_iconst (pc := 28) hC (3 : Int32) rfl dX6_sizeLine_28 ?_
      refine z_ciV (pc := 29) (st := []) hC y_X6_wrong q1405 [.inl (.int (3 : Int32))] rfl (hk 34 rfl) rfl rfl (c_X6_wrong hC.2.2.2.2.2.2.1 hk) rfl ⟨rfl, rfl, (Nat.le_of_ble_eq_true rfl), (Nat.le_of_ble_eq_true rfl)⟩ (Nat.le_of_ble_eq_true rfl) dX6_sizeLine_29 (fun r12 d13 => ?_)
      exact z_zretG (pc := 32) hC rfl dX6_sizeLine_32
  · refine z_aload_n (pc := 12) hC 0 rfl 1 rfl dX6_sizeLine_12 ?_
    refine z_iconst (pc := 13) hC (1 : Int32) rfl dX6_sizeLine_13 ?_
    refine z_ciV (pc := 14) (st := []) hC y_X6_wrong q1405 [.inl (.int (1 : Int32))] rfl (hk 34 rfl) rfl rfl (c_X6_wrong hC.2.2.2.2.2.2.1 hk) rfl ⟨rfl, rfl, (Nat.le_of_ble_eq_true rfl), (Nat.le_of_ble_eq_true rfl)⟩ (Nat.le_of_ble_eq_true rfl) dX6_sizeLine_14 (fun r14 d15 => ?_)
    exact z_zretG (pc := 17) hC rfl dX6_sizeLine_17
theorem c_X6_sizeLine {G : Geo} {M : Mem} {k : Nat} (hG : GOk G) (hk : LMo G k) {d : Sl} (l : Launch) (r : Int32) (d1 : Sl) (h : Mo_sizeLine d = some (r, d1)) : Mt l yX6_sizeLine cX6_sizeLine 2 (some .boolean) rm_X6_sizeLine G [.inr (k, 34)] ((setS M k) d) (avI r) ((setS M k) d1) :=
  mt_of (mem := (setS M k)) (po := poM avI (setS M k)) (x0 := d) (t := (r, d1)) rfl hG [.inr (k, 34)] (Nat.le_of_ble_eq_true rfl) rfl (fun C hC => r_Mo_sizeLine hC hk d) h
-- FrameHeirsModel.stepNumber(III)Z
abbrev rm_X6_stepNumber : Room := { frames := 3, cells := 0, slots := 0, locals := 69 }
theorem dX6_stepNumber_0 : decode cX6_stepNumber 0 = .ok (.aload_n 0, 1) := by decide +kernel
theorem dX6_stepNumber_1 : decode cX6_stepNumber 1 = .ok (.iload_n 2, 1) := by decide +kernel
theorem dX6_stepNumber_2 : decode cX6_stepNumber 2 = .ok (.iload_n 3, 1) := by decide +kernel
theorem dX6_stepNumber_3 : decode cX6_stepNumber 3 = .ok (.invokevirtual 155, 3) := by decide +kernel
theorem dX6_stepNumber_6 : decode cX6_stepNumber 6 = .ok (.ifCond .ne 5, 3) := by decide +kernel
theorem dX6_stepNumber_9 : decode cX6_stepNumber 9 = .ok (.iconst 0, 1) := by decide +kernel
theorem dX6_stepNumber_10 : decode cX6_stepNumber 10 = .ok (.ireturn, 1) := by decide +kernel
theorem dX6_stepNumber_11 : decode cX6_stepNumber 11 = .ok (.aload_n 0, 1) := by decide +kernel
theorem dX6_stepNumber_12 : decode cX6_stepNumber 12 = .ok (.getfield 42, 3) := by decide +kernel
theorem dX6_stepNumber_15 : decode cX6_stepNumber 15 = .ok (.sipush 144, 3) := by decide +kernel
theorem dX6_stepNumber_18 : decode cX6_stepNumber 18 = .ok (.bipush 6, 2) := by decide +kernel
theorem dX6_stepNumber_20 : decode cX6_stepNumber 20 = .ok (.aload_n 0, 1) := by decide +kernel
theorem dX6_stepNumber_21 : decode cX6_stepNumber 21 = .ok (.getfield 103, 3) := by decide +kernel
theorem dX6_stepNumber_24 : decode cX6_stepNumber 24 = .ok (.imul, 1) := by decide +kernel
theorem dX6_stepNumber_25 : decode cX6_stepNumber 25 = .ok (.iadd, 1) := by decide +kernel
theorem dX6_stepNumber_26 : decode cX6_stepNumber 26 = .ok (.iload_n 1, 1) := by decide +kernel
theorem dX6_stepNumber_27 : decode cX6_stepNumber 27 = .ok (.iadd, 1) := by decide +kernel
theorem dX6_stepNumber_28 : decode cX6_stepNumber 28 = .ok (.aload_n 0, 1) := by decide +kernel
theorem dX6_stepNumber_29 : decode cX6_stepNumber 29 = .ok (.getfield 141, 3) := by decide +kernel
theorem dX6_stepNumber_32 : decode cX6_stepNumber 32 = .ok (.iastore, 1) := by decide +kernel
theorem dX6_stepNumber_33 : decode cX6_stepNumber 33 = .ok (.iconst 1, 1) := by decide +kernel
theorem dX6_stepNumber_34 : decode cX6_stepNumber 34 = .ok (.ireturn, 1) := by decide +kernel
def Mo_stepNumber (d : Sl) (a1 : Int32) (a2 : Int32) (a3 : Int32) : Option (Int32 × Sl) :=
  bd (Mo_number d a2 a3) fun r1 d2 =>
  if r1 = 0 then
    (some ((0 : Int32), d2))
  else
    (if inb (((144 : Int32) + ((6 : Int32) * (d2 34 14))) + a1) 288 then
    bnd (wr d2 44 (ix (((144 : Int32) + ((6 : Int32) * (d2 34 14))) + a1)) (d2 34 23)) fun d3 =>
    some ((1 : Int32), d3)
    else none)
theorem y_X6_stepNumber : YV yX6_stepNumber cX6_stepNumber 4 (some .boolean) 3 := ⟨q1458, q67, q1459, q149, by decide +kernel, by decide +kernel, by decide +kernel, by decide +kernel⟩
theorem r_Mo_stepNumber {C : Cxt} {G : Geo} {M : Mem} {k : Nat} (hC : Cx C cX6_stepNumber 4 "FrameHeirsModel" (some .boolean) rm_X6_stepNumber G) (hk : LMo G k) (d : Sl) (a1 : Int32) (a2 : Int32) (a3 : Int32) : Rz C 4 G (setS M k) (poM avI (setS M k)) 0 [(0, .inr (k, 34)), (1, .inl (.int a1)), (2, .inl (.int a2)), (3, .inl (.int a3))] [] d (Mo_stepNumber d a1 a2 a3) := by
  unfold Mo_stepNumber
  refine z_aload_n (pc := 0) hC 0 rfl 0 rfl dX6_stepNumber_0 ?_
  refine z_iload_n (pc := 1) hC 2 rfl 2 rfl dX6_stepNumber_1 ?_
  refine z_iload_n (pc := 2) hC 3 rfl 3 rfl dX6_stepNumber_2 ?_
  refine z_ciV (pc := 3) (st := []) hC y_X6_number q1425 [.inl (.int a2), .inl (.int a3)] rfl (hk 34 rfl) rfl rfl (c_X6_number hC.2.2.2.2.2.2.1 hk) rfl ⟨rfl, rfl, (Nat.le_of_ble_eq_true rfl), (Nat.le_of_ble_eq_true rfl)⟩ (Nat.le_of_ble_eq_true rfl) dX6_stepNumber_3 (fun r1 d2 => ?_)
  refine z_if_ne (pc := 6) hC 11 rfl dX6_stepNumber_6 ?_ ?_
  · refine z_aload_n (pc := 11) hC 0 rfl 0 rfl dX6_stepNumber_11 ?_
    refine z_getc (pc := 12) hC (hk 34 rfl) f_34_22 q1292 dX6_stepNumber_12 ?_
    refine z_sipush (pc := 15) hC (144 : Int32) rfl dX6_stepNumber_15 ?_
    refine z_bipush (pc := 18) hC (6 : Int32) rfl dX6_stepNumber_18 ?_
    refine z_aload_n (pc := 20) hC 0 rfl 0 rfl dX6_stepNumber_20 ?_
    refine zs_geti (pc := 21) hC (hk 34 rfl) f_34_14 q1284 dX6_stepNumber_21 ?_
    refine z_imul (pc := 24) hC dX6_stepNumber_24 ?_
    refine z_iadd (pc := 25) hC dX6_stepNumber_25 ?_
    refine z_iload_n (pc := 26) hC 1 rfl 1 rfl dX6_stepNumber_26 ?_
    refine z_iadd (pc := 27) hC dX6_stepNumber_27 ?_
    refine z_aload_n (pc := 28) hC 0 rfl 0 rfl dX6_stepNumber_28 ?_
    refine zs_geti (pc := 29) hC (hk 34 rfl) f_34_23 q1293 dX6_stepNumber_29 ?_
    refine zs_iast (pc := 32) hC (hk 44 rfl) (by decide) rfl dX6_stepNumber_32 (fun d3 => ?_)
    refine z_iconst (pc := 33) hC (1 : Int32) rfl dX6_stepNumber_33 ?_
    exact z_zret (pc := 34) hC rfl rfl dX6_stepNumber_34
  · refine z_iconst (pc := 9) hC (0 : Int32) rfl dX6_stepNumber_9 ?_
    exact z_zret (pc := 10) hC rfl rfl dX6_stepNumber_10
theorem c_X6_stepNumber {G : Geo} {M : Mem} {k : Nat} (hG : GOk G) (hk : LMo G k) {d : Sl} {a1 : Int32} {a2 : Int32} {a3 : Int32} (l : Launch) (r : Int32) (d1 : Sl) (h : Mo_stepNumber d a1 a2 a3 = some (r, d1)) : Mt l yX6_stepNumber cX6_stepNumber 4 (some .boolean) rm_X6_stepNumber G [.inr (k, 34), .inl (.int a1), .inl (.int a2), .inl (.int a3)] ((setS M k) d) (avI r) ((setS M k) d1) :=
  mt_of (mem := (setS M k)) (po := poM avI (setS M k)) (x0 := d) (t := (r, d1)) rfl hG [.inr (k, 34), .inl (.int a1), .inl (.int a2), .inl (.int a3)] (Nat.le_of_ble_eq_true rfl) rfl (fun C hC => r_Mo_stepNumber hC hk d a1 a2 a3) h
-- FrameHeirsModel.stepSpace(I)Z
abbrev rm_X6_stepSpace : Room := { frames := 2, cells := 0, slots := 0, locals := 47 }
theorem dX6_stepSpace_0 : decode cX6_stepSpace 0 = .ok (.aload_n 0, 1) := by decide +kernel
theorem dX6_stepSpace_1 : decode cX6_stepSpace 1 = .ok (.invokevirtual 151, 3) := by decide +kernel
theorem dX6_stepSpace_4 : decode cX6_stepSpace 4 = .ok (.ifCond .ne 5, 3) := by decide +kernel
theorem dX6_stepSpace_7 : decode cX6_stepSpace 7 = .ok (.iconst 0, 1) := by decide +kernel
theorem dX6_stepSpace_8 : decode cX6_stepSpace 8 = .ok (.ireturn, 1) := by decide +kernel
theorem dX6_stepSpace_9 : decode cX6_stepSpace 9 = .ok (.aload_n 0, 1) := by decide +kernel
theorem dX6_stepSpace_10 : decode cX6_stepSpace 10 = .ok (.getfield 42, 3) := by decide +kernel
theorem dX6_stepSpace_13 : decode cX6_stepSpace 13 = .ok (.sipush 144, 3) := by decide +kernel
theorem dX6_stepSpace_16 : decode cX6_stepSpace 16 = .ok (.bipush 6, 2) := by decide +kernel
theorem dX6_stepSpace_18 : decode cX6_stepSpace 18 = .ok (.aload_n 0, 1) := by decide +kernel
theorem dX6_stepSpace_19 : decode cX6_stepSpace 19 = .ok (.getfield 103, 3) := by decide +kernel
theorem dX6_stepSpace_22 : decode cX6_stepSpace 22 = .ok (.imul, 1) := by decide +kernel
theorem dX6_stepSpace_23 : decode cX6_stepSpace 23 = .ok (.iadd, 1) := by decide +kernel
theorem dX6_stepSpace_24 : decode cX6_stepSpace 24 = .ok (.iload_n 1, 1) := by decide +kernel
theorem dX6_stepSpace_25 : decode cX6_stepSpace 25 = .ok (.iadd, 1) := by decide +kernel
theorem dX6_stepSpace_26 : decode cX6_stepSpace 26 = .ok (.aload_n 0, 1) := by decide +kernel
theorem dX6_stepSpace_27 : decode cX6_stepSpace 27 = .ok (.getfield 141, 3) := by decide +kernel
theorem dX6_stepSpace_30 : decode cX6_stepSpace 30 = .ok (.iastore, 1) := by decide +kernel
theorem dX6_stepSpace_31 : decode cX6_stepSpace 31 = .ok (.aload_n 0, 1) := by decide +kernel
theorem dX6_stepSpace_32 : decode cX6_stepSpace 32 = .ok (.invokevirtual 144, 3) := by decide +kernel
theorem dX6_stepSpace_35 : decode cX6_stepSpace 35 = .ok (.iconst 1, 1) := by decide +kernel
theorem dX6_stepSpace_36 : decode cX6_stepSpace 36 = .ok (.ireturn, 1) := by decide +kernel
def Mo_stepSpace (d : Sl) (a1 : Int32) : Option (Int32 × Sl) :=
  bd (Mo_spaceRead d) fun r1 d2 =>
  if r1 = 0 then
    (some ((0 : Int32), d2))
  else
    (if inb (((144 : Int32) + ((6 : Int32) * (d2 34 14))) + a1) 288 then
    bnd (wr d2 44 (ix (((144 : Int32) + ((6 : Int32) * (d2 34 14))) + a1)) (d2 34 23)) fun d3 =>
    bd (Mo_token d3) fun r4 d5 =>
    some ((1 : Int32), d5)
    else none)
theorem y_X6_stepSpace : YV yX6_stepSpace cX6_stepSpace 2 (some .boolean) 1 := ⟨q1450, q65, q1451, q149, by decide +kernel, by decide +kernel, by decide +kernel, by decide +kernel⟩
theorem r_Mo_stepSpace {C : Cxt} {G : Geo} {M : Mem} {k : Nat} (hC : Cx C cX6_stepSpace 2 "FrameHeirsModel" (some .boolean) rm_X6_stepSpace G) (hk : LMo G k) (d : Sl) (a1 : Int32) : Rz C 2 G (setS M k) (poM avI (setS M k)) 0 [(0, .inr (k, 34)), (1, .inl (.int a1))] [] d (Mo_stepSpace d a1) := by
  unfold Mo_stepSpace
  refine z_aload_n (pc := 0) hC 0 rfl 0 rfl dX6_stepSpace_0 ?_
  refine z_ciV (pc := 1) (st := []) hC y_X6_spaceRead q1421 [] rfl (hk 34 rfl) rfl rfl (c_X6_spaceRead hC.2.2.2.2.2.2.1 hk) rfl ⟨rfl, rfl, (Nat.le_of_ble_eq_true rfl), (Nat.le_of_ble_eq_true rfl)⟩ (Nat.le_of_ble_eq_true rfl) dX6_stepSpace_1 (fun r1 d2 => ?_)
  refine z_if_ne (pc := 4) hC 9 rfl dX6_stepSpace_4 ?_ ?_
  · refine z_aload_n (pc := 9) hC 0 rfl 0 rfl dX6_stepSpace_9 ?_
    refine z_getc (pc := 10) hC (hk 34 rfl) f_34_22 q1292 dX6_stepSpace_10 ?_
    refine z_sipush (pc := 13) hC (144 : Int32) rfl dX6_stepSpace_13 ?_
    refine z_bipush (pc := 16) hC (6 : Int32) rfl dX6_stepSpace_16 ?_
    refine z_aload_n (pc := 18) hC 0 rfl 0 rfl dX6_stepSpace_18 ?_
    refine zs_geti (pc := 19) hC (hk 34 rfl) f_34_14 q1284 dX6_stepSpace_19 ?_
    refine z_imul (pc := 22) hC dX6_stepSpace_22 ?_
    refine z_iadd (pc := 23) hC dX6_stepSpace_23 ?_
    refine z_iload_n (pc := 24) hC 1 rfl 1 rfl dX6_stepSpace_24 ?_
    refine z_iadd (pc := 25) hC dX6_stepSpace_25 ?_
    refine z_aload_n (pc := 26) hC 0 rfl 0 rfl dX6_stepSpace_26 ?_
    refine zs_geti (pc := 27) hC (hk 34 rfl) f_34_23 q1293 dX6_stepSpace_27 ?_
    refine zs_iast (pc := 30) hC (hk 44 rfl) (by decide) rfl dX6_stepSpace_30 (fun d3 => ?_)
    refine z_aload_n (pc := 31) hC 0 rfl 0 rfl dX6_stepSpace_31 ?_
    refine z_cvV (pc := 32) (st := []) hC y_X6_token q1380 [] rfl (hk 34 rfl) rfl rfl (c_X6_token hC.2.2.2.2.2.2.1 hk) rfl ⟨rfl, rfl, (Nat.le_of_ble_eq_true rfl), (Nat.le_of_ble_eq_true rfl)⟩ (Nat.le_of_ble_eq_true rfl) dX6_stepSpace_32 (fun r4 d5 => ?_)
    refine z_iconst (pc := 35) hC (1 : Int32) rfl dX6_stepSpace_35 ?_
    exact z_zret (pc := 36) hC rfl rfl dX6_stepSpace_36
  · refine z_iconst (pc := 7) hC (0 : Int32) rfl dX6_stepSpace_7 ?_
    exact z_zret (pc := 8) hC rfl rfl dX6_stepSpace_8
theorem c_X6_stepSpace {G : Geo} {M : Mem} {k : Nat} (hG : GOk G) (hk : LMo G k) {d : Sl} {a1 : Int32} (l : Launch) (r : Int32) (d1 : Sl) (h : Mo_stepSpace d a1 = some (r, d1)) : Mt l yX6_stepSpace cX6_stepSpace 2 (some .boolean) rm_X6_stepSpace G [.inr (k, 34), .inl (.int a1)] ((setS M k) d) (avI r) ((setS M k) d1) :=
  mt_of (mem := (setS M k)) (po := poM avI (setS M k)) (x0 := d) (t := (r, d1)) rfl hG [.inr (k, 34), .inl (.int a1)] (Nat.le_of_ble_eq_true rfl) rfl (fun C hC => r_Mo_stepSpace hC hk d a1) h
-- FrameHeirsModel.passing(I)Z
abbrev rm_X6_passing : Room := { frames := 4, cells := 0, slots := 0, locals := 92 }
theorem dX6_passing_0 : decode cX6_passing 0 = .ok (.aload_n 0, 1) := by decide +kernel
theorem dX6_passing_1 : decode cX6_passing 1 = .ok (.iconst 1, 1) := by decide +kernel
theorem dX6_passing_2 : decode cX6_passing 2 = .ok (.iconst 0, 1) := by decide +kernel
theorem dX6_passing_3 : decode cX6_passing 3 = .ok (.bipush 31, 2) := by decide +kernel
theorem dX6_passing_5 : decode cX6_passing 5 = .ok (.invokevirtual 159, 3) := by decide +kernel
theorem dX6_passing_8 : decode cX6_passing 8 = .ok (.ifCond .eq 32, 3) := by decide +kernel
theorem dX6_passing_11 : decode cX6_passing 11 = .ok (.aload_n 0, 1) := by decide +kernel
theorem dX6_passing_12 : decode cX6_passing 12 = .ok (.iconst 2, 1) := by decide +kernel
theorem dX6_passing_13 : decode cX6_passing 13 = .ok (.invokevirtual 162, 3) := by decide +kernel
theorem dX6_passing_16 : decode cX6_passing 16 = .ok (.ifCond .eq 24, 3) := by decide +kernel
theorem dX6_passing_19 : decode cX6_passing 19 = .ok (.aload_n 0, 1) := by decide +kernel
theorem dX6_passing_20 : decode cX6_passing 20 = .ok (.iconst 3, 1) := by decide +kernel
theorem dX6_passing_21 : decode cX6_passing 21 = .ok (.iconst 0, 1) := by decide +kernel
theorem dX6_passing_22 : decode cX6_passing 22 = .ok (.bipush 31, 2) := by decide +kernel
theorem dX6_passing_24 : decode cX6_passing 24 = .ok (.invokevirtual 159, 3) := by decide +kernel
theorem dX6_passing_27 : decode cX6_passing 27 = .ok (.ifCond .eq 13, 3) := by decide +kernel
theorem dX6_passing_30 : decode cX6_passing 30 = .ok (.aload_n 0, 1) := by decide +kernel
theorem dX6_passing_31 : decode cX6_passing 31 = .ok (.iconst 4, 1) := by decide +kernel
theorem dX6_passing_32 : decode cX6_passing 32 = .ok (.iconst 0, 1) := by decide +kernel
theorem dX6_passing_33 : decode cX6_passing 33 = .ok (.iconst 3, 1) := by decide +kernel
theorem dX6_passing_34 : decode cX6_passing 34 = .ok (.invokevirtual 159, 3) := by decide +kernel
theorem dX6_passing_37 : decode cX6_passing 37 = .ok (.ifCond .ne 5, 3) := by decide +kernel
theorem dX6_passing_40 : decode cX6_passing 40 = .ok (.iconst 0, 1) := by decide +kernel
theorem dX6_passing_41 : decode cX6_passing 41 = .ok (.ireturn, 1) := by decide +kernel
theorem dX6_passing_42 : decode cX6_passing 42 = .ok (.iload_n 1, 1) := by decide +kernel
theorem dX6_passing_43 : decode cX6_passing 43 = .ok (.bipush 8, 2) := by decide +kernel
theorem dX6_passing_45 : decode cX6_passing 45 = .ok (.if_icmp .eq 14, 3) := by decide +kernel
theorem dX6_passing_48 : decode cX6_passing 48 = .ok (.aload_n 0, 1) := by decide +kernel
theorem dX6_passing_49 : decode cX6_passing 49 = .ok (.iconst 5, 1) := by decide +kernel
theorem dX6_passing_50 : decode cX6_passing 50 = .ok (.iconst 1, 1) := by decide +kernel
theorem dX6_passing_51 : decode cX6_passing 51 = .ok (.bipush 7, 2) := by decide +kernel
theorem dX6_passing_53 : decode cX6_passing 53 = .ok (.invokevirtual 159, 3) := by decide +kernel
theorem dX6_passing_56 : decode cX6_passing 56 = .ok (.ifCond .eq 7, 3) := by decide +kernel
theorem dX6_passing_59 : decode cX6_passing 59 = .ok (.iconst 1, 1) := by decide +kernel
theorem dX6_passing_60 : decode cX6_passing 60 = .ok (.goto 4, 3) := by decide +kernel
theorem dX6_passing_63 : decode cX6_passing 63 = .ok (.iconst 0, 1) := by decide +kernel
theorem dX6_passing_64 : decode cX6_passing 64 = .ok (.ireturn, 1) := by decide +kernel
def Mo_passing (d : Sl) (a1 : Int32) : Option (Int32 × Sl) :=
  bd (Mo_stepNumber d (1 : Int32) (0 : Int32) (31 : Int32)) fun r1 d2 =>
  if r1 = 0 then
    (some ((0 : Int32), d2))
  else
    (bd (Mo_stepSpace d2 (2 : Int32)) fun r3 d4 =>
    if r3 = 0 then
      (some ((0 : Int32), d4))
    else
      (bd (Mo_stepNumber d4 (3 : Int32) (0 : Int32) (31 : Int32)) fun r5 d6 =>
      if r5 = 0 then
        (some ((0 : Int32), d6))
      else
        (bd (Mo_stepNumber d6 (4 : Int32) (0 : Int32) (3 : Int32)) fun r7 d8 =>
        if r7 = 0 then
          (some ((0 : Int32), d8))
        else
          (if a1 = (8 : Int32) then
            (some ((1 : Int32), d8))
          else
            (bd (Mo_stepNumber d8 (5 : Int32) (1 : Int32) (7 : Int32)) fun r9 d10 =>
            if r9 = 0 then
              (some ((0 : Int32), d10))
            else
              (some ((1 : Int32), d10)))))))
theorem y_X6_passing : YV yX6_passing cX6_passing 2 (some .boolean) 1 := ⟨q1454, q66, q1455, q149, by decide +kernel, by decide +kernel, by decide +kernel, by decide +kernel⟩
theorem r_Mo_passing {C : Cxt} {G : Geo} {M : Mem} {k : Nat} (hC : Cx C cX6_passing 2 "FrameHeirsModel" (some .boolean) rm_X6_passing G) (hk : LMo G k) (d : Sl) (a1 : Int32) : Rz C 2 G (setS M k) (poM avI (setS M k)) 0 [(0, .inr (k, 34)), (1, .inl (.int a1))] [] d (Mo_passing d a1) := by
  unfold Mo_passing
  refine z_aload_n (pc := 0) hC 0 rfl 0 rfl dX6_passing_0 ?_
  refine z_iconst (pc := 1) hC (1 : Int32) rfl dX6_passing_1 ?_
  refine z_iconst (pc := 2) hC (0 : Int32) rfl dX6_passing_2 ?_
  refine z_bipush (pc := 3) hC (31 : Int32) rfl dX6_passing_3 ?_
  refine z_ciV (pc := 5) (st := []) hC y_X6_stepNumber q1456 [.inl (.int (1 : Int32)), .inl (.int (0 : Int32)), .inl (.int (31 : Int32))] rfl (hk 34 rfl) rfl rfl (c_X6_stepNumber hC.2.2.2.2.2.2.1 hk) rfl ⟨rfl, rfl, (Nat.le_of_ble_eq_true rfl), (Nat.le_of_ble_eq_true rfl)⟩ (Nat.le_of_ble_eq_true rfl) dX6_passing_5 (fun r1 d2 => ?_)
  refine z_if_eq (pc := 8) hC 40 rfl dX6_passing_8 ?_ ?_
  · refine z_iconst (pc := 40) hC (0 : Int32) rfl dX6_passing_40 ?_
    exact z_zret (pc := 41) hC rfl rfl dX6_passing_41
  · refine z_aload_n (pc := 11) hC 0 rfl 0 rfl dX6_passing_11 ?_
    refine z_iconst (pc := 12) hC (2 : Int32) rfl dX6_passing_12 ?_
    refine z_ciV (pc := 13) (st := []) hC y_X6_stepSpace q1448 [.inl (.int (2 : Int32))] rfl (hk 34 rfl) rfl rfl (c_X6_stepSpace hC.2.2.2.2.2.2.1 hk) rfl ⟨rfl, rfl, (Nat.le_of_ble_eq_true rfl), (Nat.le_of_ble_eq_true rfl)⟩ (Nat.le_of_ble_eq_true rfl) dX6_passing_13 (fun r3 d4 => ?_)
    refine z_if_eq (pc := 16) hC 40 rfl dX6_passing_16 ?_ ?_
    · refine z_iconst (pc := 40) hC (0 : Int32) rfl dX6_passing_40 ?_
      exact z_zret (pc := 41) hC rfl rfl dX6_passing_41
    · refine z_aload_n (pc := 19) hC 0 rfl 0 rfl dX6_passing_19 ?_
      refine z_iconst (pc := 20) hC (3 : Int32) rfl dX6_passing_20 ?_
      refine z_iconst (pc := 21) hC (0 : Int32) rfl dX6_passing_21 ?_
      refine z_bipush (pc := 22) hC (31 : Int32) rfl dX6_passing_22 ?_
      refine z_ciV (pc := 24) (st := []) hC y_X6_stepNumber q1456 [.inl (.int (3 : Int32)), .inl (.int (0 : Int32)), .inl (.int (31 : Int32))] rfl (hk 34 rfl) rfl rfl (c_X6_stepNumber hC.2.2.2.2.2.2.1 hk) rfl ⟨rfl, rfl, (Nat.le_of_ble_eq_true rfl), (Nat.le_of_ble_eq_true rfl)⟩ (Nat.le_of_ble_eq_true rfl) dX6_passing_24 (fun r5 d6 => ?_)
      refine z_if_eq (pc := 27) hC 40 rfl dX6_passing_27 ?_ ?_
      · refine z_iconst (pc := 40) hC (0 : Int32) rfl dX6_passing_40 ?_
        exact z_zret (pc := 41) hC rfl rfl dX6_passing_41
      · refine z_aload_n (pc := 30) hC 0 rfl 0 rfl dX6_passing_30 ?_
        refine z_iconst (pc := 31) hC (4 : Int32) rfl dX6_passing_31 ?_
        refine z_iconst (pc := 32) hC (0 : Int32) rfl dX6_passing_32 ?_
        refine z_iconst (pc := 33) hC (3 : Int32) rfl dX6_passing_33 ?_
        refine z_ciV (pc := 34) (st := []) hC y_X6_stepNumber q1456 [.inl (.int (4 : Int32)), .inl (.int (0 : Int32)), .inl (.int (3 : Int32))] rfl (hk 34 rfl) rfl rfl (c_X6_stepNumber hC.2.2.2.2.2.2.1 hk) rfl ⟨rfl, rfl, (Nat.le_of_ble_eq_true rfl), (Nat.le_of_ble_eq_true rfl)⟩ (Nat.le_of_ble_eq_true rfl) dX6_passing_34 (fun r7 d8 => ?_)
        refine z_if_ne (pc := 37) hC 42 rfl dX6_passing_37 ?_ ?_
        · refine z_iload_n (pc := 42) hC 1 rfl 1 rfl dX6_passing_42 ?_
          refine z_bipush (pc := 43) hC (8 : Int32) rfl dX6_passing_43 ?_
          refine z_icmp_eq (pc := 45) hC 59 rfl dX6_passing_45 ?_ ?_
          · refine z_iconst (pc := 59) hC (1 : Int32) rfl dX6_passing_59 ?_
            refine z_goto (pc := 60) hC 64 rfl dX6_passing_60 ?_
            exact z_zret (pc := 64) hC rfl rfl dX6_passing_64
          · refine z_aload_n (pc := 48) hC 0 rfl 0 rfl dX6_passing_48 ?_
            refine z_iconst (pc := 49) hC (5 : Int32) rfl dX6_passing_49 ?_
            refine z_iconst (pc := 50) hC (1 : Int32) rfl dX6_passing_50 ?_
            refine z_bipush (pc := 51) hC (7 : Int32) rfl dX6_passing_51 ?_
            refine z_ciV (pc := 53) (st := []) hC y_X6_stepNumber q1456 [.inl (.int (5 : Int32)), .inl (.int (1 : Int32)), .inl (.int (7 : Int32))] rfl (hk 34 rfl) rfl rfl (c_X6_stepNumber hC.2.2.2.2.2.2.1 hk) rfl ⟨rfl, rfl, (Nat.le_of_ble_eq_true rfl), (Nat.le_of_ble_eq_true rfl)⟩ (Nat.le_of_ble_eq_true rfl) dX6_passing_53 (fun r9 d10 => ?_)
            refine z_if_eq (pc := 56) hC 63 rfl dX6_passing_56 ?_ ?_
            · refine z_iconst (pc := 63) hC (0 : Int32) rfl dX6_passing_63 ?_
              exact z_zret (pc := 64) hC rfl rfl dX6_passing_64
            · refine z_iconst (pc := 59) hC (1 : Int32) rfl dX6_passing_59 ?_
              refine z_goto (pc := 60) hC 64 rfl dX6_passing_60 ?_
              exact z_zret (pc := 64) hC rfl rfl dX6_passing_64
        · refine z_iconst (pc := 40) hC (0 : Int32) rfl dX6_passing_40 ?_
          exact z_zret (pc := 41) hC rfl rfl dX6_passing_41
theorem c_X6_passing {G : Geo} {M : Mem} {k : Nat} (hG : GOk G) (hk : LMo G k) {d : Sl} {a1 : Int32} (l : Launch) (r : Int32) (d1 : Sl) (h : Mo_passing d a1 = some (r, d1)) : Mt l yX6_passing cX6_passing 2 (some .boolean) rm_X6_passing G [.inr (k, 34), .inl (.int a1)] ((setS M k) d) (avI r) ((setS M k) d1) :=
  mt_of (mem := (setS M k)) (po := poM avI (setS M k)) (x0 := d) (t := (r, d1)) rfl hG [.inr (k, 34), .inl (.int a1)] (Nat.le_of_ble_eq_true rfl) rfl (fun C hC => r_Mo_passing hC hk d a1) h
-- FrameHeirsModel.stepLine()Z
abbrev rm_X6_stepLine : Room := { frames := 5, cells := 0, slots := 0, locals := 113 }
theorem dX6_stepLine_0 : decode cX6_stepLine 0 = .ok (.aload_n 0, 1) := by decide +kernel
theorem dX6_stepLine_1 : decode cX6_stepLine 1 = .ok (.getfield 103, 3) := by decide +kernel
theorem dX6_stepLine_4 : decode cX6_stepLine 4 = .ok (.bipush 24, 2) := by decide +kernel
theorem dX6_stepLine_6 : decode cX6_stepLine 6 = .ok (.if_icmp .ne 9, 3) := by decide +kernel
theorem dX6_stepLine_9 : decode cX6_stepLine 9 = .ok (.aload_n 0, 1) := by decide +kernel
theorem dX6_stepLine_10 : decode cX6_stepLine 10 = .ok (.iconst 2, 1) := by decide +kernel
theorem dX6_stepLine_11 : decode cX6_stepLine 11 = .ok (.invokevirtual 134, 3) := by decide +kernel
theorem dX6_stepLine_14 : decode cX6_stepLine 14 = .ok (.ireturn, 1) := by decide +kernel
theorem dX6_stepLine_15 : decode cX6_stepLine 15 = .ok (.aload_n 0, 1) := by decide +kernel
theorem dX6_stepLine_16 : decode cX6_stepLine 16 = .ok (.getfield 90, 3) := by decide +kernel
theorem dX6_stepLine_19 : decode cX6_stepLine 19 = .ok (.istore_n 1, 1) := by decide +kernel
theorem dX6_stepLine_20 : decode cX6_stepLine 20 = .ok (.aload_n 0, 1) := by decide +kernel
theorem dX6_stepLine_21 : decode cX6_stepLine 21 = .ok (.getfield 39, 3) := by decide +kernel
theorem dX6_stepLine_24 : decode cX6_stepLine 24 = .ok (.bipush 24, 2) := by decide +kernel
theorem dX6_stepLine_26 : decode cX6_stepLine 26 = .ok (.aload_n 0, 1) := by decide +kernel
theorem dX6_stepLine_27 : decode cX6_stepLine 27 = .ok (.getfield 103, 3) := by decide +kernel
theorem dX6_stepLine_30 : decode cX6_stepLine 30 = .ok (.iadd, 1) := by decide +kernel
theorem dX6_stepLine_31 : decode cX6_stepLine 31 = .ok (.iload_n 1, 1) := by decide +kernel
theorem dX6_stepLine_32 : decode cX6_stepLine 32 = .ok (.iastore, 1) := by decide +kernel
theorem dX6_stepLine_33 : decode cX6_stepLine 33 = .ok (.aload_n 0, 1) := by decide +kernel
theorem dX6_stepLine_34 : decode cX6_stepLine 34 = .ok (.invokevirtual 144, 3) := by decide +kernel
theorem dX6_stepLine_37 : decode cX6_stepLine 37 = .ok (.aload_n 0, 1) := by decide +kernel
theorem dX6_stepLine_38 : decode cX6_stepLine 38 = .ok (.iconst 0, 1) := by decide +kernel
theorem dX6_stepLine_39 : decode cX6_stepLine 39 = .ok (.invokevirtual 162, 3) := by decide +kernel
theorem dX6_stepLine_42 : decode cX6_stepLine 42 = .ok (.ifCond .ne 5, 3) := by decide +kernel
theorem dX6_stepLine_45 : decode cX6_stepLine 45 = .ok (.iconst 0, 1) := by decide +kernel
theorem dX6_stepLine_46 : decode cX6_stepLine 46 = .ok (.ireturn, 1) := by decide +kernel
theorem dX6_stepLine_47 : decode cX6_stepLine 47 = .ok (.iconst 1, 1) := by decide +kernel
theorem dX6_stepLine_48 : decode cX6_stepLine 48 = .ok (.istore_n 2, 1) := by decide +kernel
theorem dX6_stepLine_49 : decode cX6_stepLine 49 = .ok (.iload_n 1, 1) := by decide +kernel
theorem dX6_stepLine_50 : decode cX6_stepLine 50 = .ok (.bipush 7, 2) := by decide +kernel
theorem dX6_stepLine_52 : decode cX6_stepLine 52 = .ok (.if_icmp .eq 9, 3) := by decide +kernel
theorem dX6_stepLine_55 : decode cX6_stepLine 55 = .ok (.iload_n 1, 1) := by decide +kernel
theorem dX6_stepLine_56 : decode cX6_stepLine 56 = .ok (.bipush 8, 2) := by decide +kernel
theorem dX6_stepLine_58 : decode cX6_stepLine 58 = .ok (.if_icmp .ne 9, 3) := by decide +kernel
theorem dX6_stepLine_61 : decode cX6_stepLine 61 = .ok (.aload_n 0, 1) := by decide +kernel
theorem dX6_stepLine_62 : decode cX6_stepLine 62 = .ok (.iload_n 1, 1) := by decide +kernel
theorem dX6_stepLine_63 : decode cX6_stepLine 63 = .ok (.invokevirtual 165, 3) := by decide +kernel
theorem dX6_stepLine_66 : decode cX6_stepLine 66 = .ok (.istore_n 2, 1) := by decide +kernel
theorem dX6_stepLine_67 : decode cX6_stepLine 67 = .ok (.iload_n 1, 1) := by decide +kernel
theorem dX6_stepLine_68 : decode cX6_stepLine 68 = .ok (.bipush 9, 2) := by decide +kernel
theorem dX6_stepLine_70 : decode cX6_stepLine 70 = .ok (.if_icmp .ne 51, 3) := by decide +kernel
theorem dX6_stepLine_73 : decode cX6_stepLine 73 = .ok (.aload_n 0, 1) := by decide +kernel
theorem dX6_stepLine_74 : decode cX6_stepLine 74 = .ok (.iconst 1, 1) := by decide +kernel
theorem dX6_stepLine_75 : decode cX6_stepLine 75 = .ok (.iconst 0, 1) := by decide +kernel
theorem dX6_stepLine_76 : decode cX6_stepLine 76 = .ok (.bipush 31, 2) := by decide +kernel
theorem dX6_stepLine_78 : decode cX6_stepLine 78 = .ok (.invokevirtual 159, 3) := by decide +kernel
theorem dX6_stepLine_81 : decode cX6_stepLine 81 = .ok (.ifCond .eq 38, 3) := by decide +kernel
theorem dX6_stepLine_84 : decode cX6_stepLine 84 = .ok (.aload_n 0, 1) := by decide +kernel
theorem dX6_stepLine_85 : decode cX6_stepLine 85 = .ok (.iconst 2, 1) := by decide +kernel
theorem dX6_stepLine_86 : decode cX6_stepLine 86 = .ok (.iconst 0, 1) := by decide +kernel
theorem dX6_stepLine_87 : decode cX6_stepLine 87 = .ok (.iconst 3, 1) := by decide +kernel
theorem dX6_stepLine_88 : decode cX6_stepLine 88 = .ok (.invokevirtual 159, 3) := by decide +kernel
theorem dX6_stepLine_91 : decode cX6_stepLine 91 = .ok (.ifCond .eq 28, 3) := by decide +kernel
theorem dX6_stepLine_94 : decode cX6_stepLine 94 = .ok (.aload_n 0, 1) := by decide +kernel
theorem dX6_stepLine_95 : decode cX6_stepLine 95 = .ok (.iconst 3, 1) := by decide +kernel
theorem dX6_stepLine_96 : decode cX6_stepLine 96 = .ok (.iconst 1, 1) := by decide +kernel
theorem dX6_stepLine_97 : decode cX6_stepLine 97 = .ok (.bipush 7, 2) := by decide +kernel
theorem dX6_stepLine_99 : decode cX6_stepLine 99 = .ok (.invokevirtual 159, 3) := by decide +kernel
theorem dX6_stepLine_102 : decode cX6_stepLine 102 = .ok (.ifCond .eq 17, 3) := by decide +kernel
theorem dX6_stepLine_105 : decode cX6_stepLine 105 = .ok (.aload_n 0, 1) := by decide +kernel
theorem dX6_stepLine_106 : decode cX6_stepLine 106 = .ok (.iconst 4, 1) := by decide +kernel
theorem dX6_stepLine_107 : decode cX6_stepLine 107 = .ok (.iconst 0, 1) := by decide +kernel
theorem dX6_stepLine_108 : decode cX6_stepLine 108 = .ok (.iconst 1, 1) := by decide +kernel
theorem dX6_stepLine_109 : decode cX6_stepLine 109 = .ok (.invokevirtual 159, 3) := by decide +kernel
theorem dX6_stepLine_112 : decode cX6_stepLine 112 = .ok (.ifCond .eq 7, 3) := by decide +kernel
theorem dX6_stepLine_115 : decode cX6_stepLine 115 = .ok (.iconst 1, 1) := by decide +kernel
theorem dX6_stepLine_116 : decode cX6_stepLine 116 = .ok (.goto 4, 3) := by decide +kernel
theorem dX6_stepLine_119 : decode cX6_stepLine 119 = .ok (.iconst 0, 1) := by decide +kernel
theorem dX6_stepLine_120 : decode cX6_stepLine 120 = .ok (.istore_n 2, 1) := by decide +kernel
theorem dX6_stepLine_121 : decode cX6_stepLine 121 = .ok (.iload_n 1, 1) := by decide +kernel
theorem dX6_stepLine_122 : decode cX6_stepLine 122 = .ok (.bipush 10, 2) := by decide +kernel
theorem dX6_stepLine_124 : decode cX6_stepLine 124 = .ok (.if_icmp .ne 30, 3) := by decide +kernel
theorem dX6_stepLine_127 : decode cX6_stepLine 127 = .ok (.aload_n 0, 1) := by decide +kernel
theorem dX6_stepLine_128 : decode cX6_stepLine 128 = .ok (.iconst 1, 1) := by decide +kernel
theorem dX6_stepLine_129 : decode cX6_stepLine 129 = .ok (.iconst 0, 1) := by decide +kernel
theorem dX6_stepLine_130 : decode cX6_stepLine 130 = .ok (.bipush 31, 2) := by decide +kernel
theorem dX6_stepLine_132 : decode cX6_stepLine 132 = .ok (.invokevirtual 159, 3) := by decide +kernel
theorem dX6_stepLine_135 : decode cX6_stepLine 135 = .ok (.ifCond .eq 17, 3) := by decide +kernel
theorem dX6_stepLine_138 : decode cX6_stepLine 138 = .ok (.aload_n 0, 1) := by decide +kernel
theorem dX6_stepLine_139 : decode cX6_stepLine 139 = .ok (.iconst 2, 1) := by decide +kernel
theorem dX6_stepLine_140 : decode cX6_stepLine 140 = .ok (.iconst 1, 1) := by decide +kernel
theorem dX6_stepLine_141 : decode cX6_stepLine 141 = .ok (.iconst 4, 1) := by decide +kernel
theorem dX6_stepLine_142 : decode cX6_stepLine 142 = .ok (.invokevirtual 159, 3) := by decide +kernel
theorem dX6_stepLine_145 : decode cX6_stepLine 145 = .ok (.ifCond .eq 7, 3) := by decide +kernel
theorem dX6_stepLine_148 : decode cX6_stepLine 148 = .ok (.iconst 1, 1) := by decide +kernel
theorem dX6_stepLine_149 : decode cX6_stepLine 149 = .ok (.goto 4, 3) := by decide +kernel
theorem dX6_stepLine_152 : decode cX6_stepLine 152 = .ok (.iconst 0, 1) := by decide +kernel
theorem dX6_stepLine_153 : decode cX6_stepLine 153 = .ok (.istore_n 2, 1) := by decide +kernel
theorem dX6_stepLine_154 : decode cX6_stepLine 154 = .ok (.iload_n 2, 1) := by decide +kernel
theorem dX6_stepLine_155 : decode cX6_stepLine 155 = .ok (.ifCond .ne 5, 3) := by decide +kernel
theorem dX6_stepLine_158 : decode cX6_stepLine 158 = .ok (.iconst 0, 1) := by decide +kernel
theorem dX6_stepLine_159 : decode cX6_stepLine 159 = .ok (.ireturn, 1) := by decide +kernel
theorem dX6_stepLine_160 : decode cX6_stepLine 160 = .ok (.aload_n 0, 1) := by decide +kernel
theorem dX6_stepLine_161 : decode cX6_stepLine 161 = .ok (.dup, 1) := by decide +kernel
theorem dX6_stepLine_162 : decode cX6_stepLine 162 = .ok (.getfield 103, 3) := by decide +kernel
theorem dX6_stepLine_165 : decode cX6_stepLine 165 = .ok (.iconst 1, 1) := by decide +kernel
theorem dX6_stepLine_166 : decode cX6_stepLine 166 = .ok (.iadd, 1) := by decide +kernel
theorem dX6_stepLine_167 : decode cX6_stepLine 167 = .ok (.putfield 103, 3) := by decide +kernel
theorem dX6_stepLine_170 : decode cX6_stepLine 170 = .ok (.iconst 1, 1) := by decide +kernel
theorem dX6_stepLine_171 : decode cX6_stepLine 171 = .ok (.ireturn, 1) := by decide +kernel
def Mo_stepLine_154 (v2 : Int32) (d : Sl) : Option (Int32 × Sl) :=
  if v2 = 0 then
    (some ((0 : Int32), d))
  else
    (bnd (wr d 34 14 ((d 34 14) + (1 : Int32))) fun d1 =>
    some ((1 : Int32), d1))
def Mo_stepLine_153 (s0 : Int32) (d : Sl) : Option (Int32 × Sl) :=
  bnd s0 fun v2_2 =>
  Mo_stepLine_154 v2_2 d
def Mo_stepLine_152 (d : Sl) : Option (Int32 × Sl) :=
  Mo_stepLine_153 (0 : Int32) d
def Mo_stepLine_121 (v1 : Int32) (v2 : Int32) (d : Sl) : Option (Int32 × Sl) :=
  if v1 = (10 : Int32) then
    (bd (Mo_stepNumber d (1 : Int32) (0 : Int32) (31 : Int32)) fun r3 d4 =>
    if r3 = 0 then
      (Mo_stepLine_152 d4)
    else
      (bd (Mo_stepNumber d4 (2 : Int32) (1 : Int32) (4 : Int32)) fun r5 d6 =>
      if r5 = 0 then
        (Mo_stepLine_152 d6)
      else
        (Mo_stepLine_153 (1 : Int32) d6)))
  else
    (Mo_stepLine_154 v2 d)
def Mo_stepLine_120 (v1 : Int32) (s0 : Int32) (d : Sl) : Option (Int32 × Sl) :=
  bnd s0 fun v2_7 =>
  Mo_stepLine_121 v1 v2_7 d
def Mo_stepLine_119 (v1 : Int32) (d : Sl) : Option (Int32 × Sl) :=
  Mo_stepLine_120 v1 (0 : Int32) d
def Mo_stepLine_67 (v1 : Int32) (v2 : Int32) (d : Sl) : Option (Int32 × Sl) :=
  if v1 = (9 : Int32) then
    (bd (Mo_stepNumber d (1 : Int32) (0 : Int32) (31 : Int32)) fun r8 d9 =>
    if r8 = 0 then
      (Mo_stepLine_119 v1 d9)
    else
      (bd (Mo_stepNumber d9 (2 : Int32) (0 : Int32) (3 : Int32)) fun r10 d11 =>
      if r10 = 0 then
        (Mo_stepLine_119 v1 d11)
      else
        (bd (Mo_stepNumber d11 (3 : Int32) (1 : Int32) (7 : Int32)) fun r12 d13 =>
        if r12 = 0 then
          (Mo_stepLine_119 v1 d13)
        else
          (bd (Mo_stepNumber d13 (4 : Int32) (0 : Int32) (1 : Int32)) fun r14 d15 =>
          if r14 = 0 then
            (Mo_stepLine_119 v1 d15)
          else
            (Mo_stepLine_120 v1 (1 : Int32) d15)))))
  else
    (Mo_stepLine_121 v1 v2 d)
def Mo_stepLine_61 (v1 : Int32) (d : Sl) : Option (Int32 × Sl) :=
  bd (Mo_passing d v1) fun r16 d17 =>
  bnd r16 fun v2_18 =>
  Mo_stepLine_67 v1 v2_18 d17
def Mo_stepLine (d : Sl) : Option (Int32 × Sl) :=
  if (d 34 14) = (24 : Int32) then
    (bd (Mo_wrong d (2 : Int32)) fun r26 d27 =>
    if r26 = 0 ∨ r26 = 1 then some (r26, d27) else none)
  else
    (bnd (d 34 9) fun v1_19 =>
    if inb ((24 : Int32) + (d 34 14)) 48 then
    bnd (wr d 43 (ix ((24 : Int32) + (d 34 14))) v1_19) fun d20 =>
    bd (Mo_token d20) fun r21 d22 =>
    bd (Mo_stepSpace d22 (0 : Int32)) fun r23 d24 =>
    if r23 = 0 then
      (some ((0 : Int32), d24))
    else
      (bnd (1 : Int32) fun v2_25 =>
      if v1_19 = (7 : Int32) then
        (Mo_stepLine_61 v1_19 d24)
      else
        (if v1_19 = (8 : Int32) then
          (Mo_stepLine_61 v1_19 d24)
        else
          (Mo_stepLine_67 v1_19 v2_25 d24)))
    else none)
theorem y_X6_stepLine : YV yX6_stepLine cX6_stepLine 3 (some .boolean) 0 := ⟨q1446, q64, q1447, q149, by decide +kernel, by decide +kernel, by decide +kernel, by decide +kernel⟩
theorem r_Mo_stepLine_154 {C : Cxt} {G : Geo} {M : Mem} {k : Nat} (hC : Cx C cX6_stepLine 3 "FrameHeirsModel" (some .boolean) rm_X6_stepLine G) (hk : LMo G k) (v2 : Int32) (d : Sl) : Rz C 3 G (setS M k) (poM avI (setS M k)) 154 [(0, .inr (k, 34)), (2, .inl (.int v2))] [] d (Mo_stepLine_154 v2 d) := by
  unfold Mo_stepLine_154
  refine z_iload_n (pc := 154) hC 2 rfl 1 rfl dX6_stepLine_154 ?_
  refine z_if_ne (pc := 155) hC 160 rfl dX6_stepLine_155 ?_ ?_
  · refine z_aload_n (pc := 160) hC 0 rfl 0 rfl dX6_stepLine_160 ?_
    refine z_dup (pc := 161) hC rfl dX6_stepLine_161 ?_
    refine zs_geti (pc := 162) hC (hk 34 rfl) f_34_14 q1284 dX6_stepLine_162 ?_
    refine z_iconst (pc := 165) hC (1 : Int32) rfl dX6_stepLine_165 ?_
    refine z_iadd (pc := 166) hC dX6_stepLine_166 ?_
    refine zs_puti (pc := 167) hC (hk 34 rfl) f_34_14 q1284 dX6_stepLine_167 (fun d1 => ?_)
    refine z_iconst (pc := 170) hC (1 : Int32) rfl dX6_stepLine_170 ?_
    exact z_zret (pc := 171) hC rfl rfl dX6_stepLine_171
  · refine z_iconst (pc := 158) hC (0 : Int32) rfl dX6_stepLine_158 ?_
    exact z_zret (pc := 159) hC rfl rfl dX6_stepLine_159
theorem r_Mo_stepLine_153 {C : Cxt} {G : Geo} {M : Mem} {k : Nat} (hC : Cx C cX6_stepLine 3 "FrameHeirsModel" (some .boolean) rm_X6_stepLine G) (hk : LMo G k) (s0 : Int32) (d : Sl) : Rz C 3 G (setS M k) (poM avI (setS M k)) 153 [(0, .inr (k, 34))] [.inl (.int s0)] d (Mo_stepLine_153 s0 d) := by
  unfold Mo_stepLine_153
  refine z_istore_n (pc := 153) (ls1 := fun v => [(2, .inl (.int v)), (0, .inr (k, 34))]) hC 2 rfl (by decide) (fun v => rfl) dX6_stepLine_153 (fun v2_2 => ?_)
  exact z_sub [1, 0] rfl (r_Mo_stepLine_154 hC hk v2_2 d)
theorem r_Mo_stepLine_152 {C : Cxt} {G : Geo} {M : Mem} {k : Nat} (hC : Cx C cX6_stepLine 3 "FrameHeirsModel" (some .boolean) rm_X6_stepLine G) (hk : LMo G k) (d : Sl) : Rz C 3 G (setS M k) (poM avI (setS M k)) 152 [(0, .inr (k, 34))] [] d (Mo_stepLine_152 d) := by
  unfold Mo_stepLine_152
  refine z_iconst (pc := 152) hC (0 : Int32) rfl dX6_stepLine_152 ?_
  exact z_sub [0] rfl (r_Mo_stepLine_153 hC hk (0 : Int32) d)
theorem r_Mo_stepLine_121 {C : Cxt} {G : Geo} {M : Mem} {k : Nat} (hC : Cx C cX6_stepLine 3 "FrameHeirsModel" (some .boolean) rm_X6_stepLine G) (hk : LMo G k) (v1 : Int32) (v2 : Int32) (d : Sl) : Rz C 3 G (setS M k) (poM avI (setS M k)) 121 [(0, .inr (k, 34)), (1, .inl (.int v1)), (2, .inl (.int v2))] [] d (Mo_stepLine_121 v1 v2 d) := by
  unfold Mo_stepLine_121
  refine z_iload_n (pc := 121) hC 1 rfl 1 rfl dX6_stepLine_121 ?_
  refine z_bipush (pc := 122) hC (10 : Int32) rfl dX6_stepLine_122 ?_
  refine z_icmp_ne (pc := 124) hC 154 rfl dX6_stepLine_124 ?_ ?_
  · exact z_sub [0, 2] rfl (r_Mo_stepLine_154 hC hk v2 d)
  · refine z_aload_n (pc := 127) hC 0 rfl 0 rfl dX6_stepLine_127 ?_
    refine z_iconst (pc := 128) hC (1 : Int32) rfl dX6_stepLine_128 ?_
    refine z_iconst (pc := 129) hC (0 : Int32) rfl dX6_stepLine_129 ?_
    refine z_bipush (pc := 130) hC (31 : Int32) rfl dX6_stepLine_130 ?_
    refine z_ciV (pc := 132) (st := []) hC y_X6_stepNumber q1456 [.inl (.int (1 : Int32)), .inl (.int (0 : Int32)), .inl (.int (31 : Int32))] rfl (hk 34 rfl) rfl rfl (c_X6_stepNumber hC.2.2.2.2.2.2.1 hk) rfl ⟨rfl, rfl, (Nat.le_of_ble_eq_true rfl), (Nat.le_of_ble_eq_true rfl)⟩ (Nat.le_of_ble_eq_true rfl) dX6_stepLine_132 (fun r3 d4 => ?_)
    refine z_if_eq (pc := 135) hC 152 rfl dX6_stepLine_135 ?_ ?_
    · exact z_sub [0] rfl (r_Mo_stepLine_152 hC hk d4)
    · refine z_aload_n (pc := 138) hC 0 rfl 0 rfl dX6_stepLine_138 ?_
      refine z_iconst (pc := 139) hC (2 : Int32) rfl dX6_stepLine_139 ?_
      refine z_iconst (pc := 140) hC (1 : Int32) rfl dX6_stepLine_140 ?_
      refine z_iconst (pc := 141) hC (4 : Int32) rfl dX6_stepLine_141 ?_
      refine z_ciV (pc := 142) (st := []) hC y_X6_stepNumber q1456 [.inl (.int (2 : Int32)), .inl (.int (1 : Int32)), .inl (.int (4 : Int32))] rfl (hk 34 rfl) rfl rfl (c_X6_stepNumber hC.2.2.2.2.2.2.1 hk) rfl ⟨rfl, rfl, (Nat.le_of_ble_eq_true rfl), (Nat.le_of_ble_eq_true rfl)⟩ (Nat.le_of_ble_eq_true rfl) dX6_stepLine_142 (fun r5 d6 => ?_)
      refine z_if_eq (pc := 145) hC 152 rfl dX6_stepLine_145 ?_ ?_
      · exact z_sub [0] rfl (r_Mo_stepLine_152 hC hk d6)
      · refine z_iconst (pc := 148) hC (1 : Int32) rfl dX6_stepLine_148 ?_
        refine z_goto (pc := 149) hC 153 rfl dX6_stepLine_149 ?_
        exact z_sub [0] rfl (r_Mo_stepLine_153 hC hk (1 : Int32) d6)
theorem r_Mo_stepLine_120 {C : Cxt} {G : Geo} {M : Mem} {k : Nat} (hC : Cx C cX6_stepLine 3 "FrameHeirsModel" (some .boolean) rm_X6_stepLine G) (hk : LMo G k) (v1 : Int32) (s0 : Int32) (d : Sl) : Rz C 3 G (setS M k) (poM avI (setS M k)) 120 [(0, .inr (k, 34)), (1, .inl (.int v1))] [.inl (.int s0)] d (Mo_stepLine_120 v1 s0 d) := by
  unfold Mo_stepLine_120
  refine z_istore_n (pc := 120) (ls1 := fun v => [(2, .inl (.int v)), (0, .inr (k, 34)), (1, .inl (.int v1))]) hC 2 rfl (by decide) (fun v => rfl) dX6_stepLine_120 (fun v2_7 => ?_)
  exact z_sub [1, 2, 0] rfl (r_Mo_stepLine_121 hC hk v1 v2_7 d)
theorem r_Mo_stepLine_119 {C : Cxt} {G : Geo} {M : Mem} {k : Nat} (hC : Cx C cX6_stepLine 3 "FrameHeirsModel" (some .boolean) rm_X6_stepLine G) (hk : LMo G k) (v1 : Int32) (d : Sl) : Rz C 3 G (setS M k) (poM avI (setS M k)) 119 [(0, .inr (k, 34)), (1, .inl (.int v1))] [] d (Mo_stepLine_119 v1 d) := by
  unfold Mo_stepLine_119
  refine z_iconst (pc := 119) hC (0 : Int32) rfl dX6_stepLine_119 ?_
  exact z_sub [0, 1] rfl (r_Mo_stepLine_120 hC hk v1 (0 : Int32) d)
theorem r_Mo_stepLine_67 {C : Cxt} {G : Geo} {M : Mem} {k : Nat} (hC : Cx C cX6_stepLine 3 "FrameHeirsModel" (some .boolean) rm_X6_stepLine G) (hk : LMo G k) (v1 : Int32) (v2 : Int32) (d : Sl) : Rz C 3 G (setS M k) (poM avI (setS M k)) 67 [(0, .inr (k, 34)), (1, .inl (.int v1)), (2, .inl (.int v2))] [] d (Mo_stepLine_67 v1 v2 d) := by
  unfold Mo_stepLine_67
  refine z_iload_n (pc := 67) hC 1 rfl 1 rfl dX6_stepLine_67 ?_
  refine z_bipush (pc := 68) hC (9 : Int32) rfl dX6_stepLine_68 ?_
  refine z_icmp_ne (pc := 70) hC 121 rfl dX6_stepLine_70 ?_ ?_
  · exact z_sub [0, 1, 2] rfl (r_Mo_stepLine_121 hC hk v1 v2 d)
  · refine z_aload_n (pc := 73) hC 0 rfl 0 rfl dX6_stepLine_73 ?_
    refine z_iconst (pc := 74) hC (1 : Int32) rfl dX6_stepLine_74 ?_
    refine z_iconst (pc := 75) hC (0 : Int32) rfl dX6_stepLine_75 ?_
    refine z_bipush (pc := 76) hC (31 : Int32) rfl dX6_stepLine_76 ?_
    refine z_ciV (pc := 78) (st := []) hC y_X6_stepNumber q1456 [.inl (.int (1 : Int32)), .inl (.int (0 : Int32)), .inl (.int (31 : Int32))] rfl (hk 34 rfl) rfl rfl (c_X6_stepNumber hC.2.2.2.2.2.2.1 hk) rfl ⟨rfl, rfl, (Nat.le_of_ble_eq_true rfl), (Nat.le_of_ble_eq_true rfl)⟩ (Nat.le_of_ble_eq_true rfl) dX6_stepLine_78 (fun r8 d9 => ?_)
    refine z_if_eq (pc := 81) hC 119 rfl dX6_stepLine_81 ?_ ?_
    · exact z_sub [0, 1] rfl (r_Mo_stepLine_119 hC hk v1 d9)
    · refine z_aload_n (pc := 84) hC 0 rfl 0 rfl dX6_stepLine_84 ?_
      refine z_iconst (pc := 85) hC (2 : Int32) rfl dX6_stepLine_85 ?_
      refine z_iconst (pc := 86) hC (0 : Int32) rfl dX6_stepLine_86 ?_
      refine z_iconst (pc := 87) hC (3 : Int32) rfl dX6_stepLine_87 ?_
      refine z_ciV (pc := 88) (st := []) hC y_X6_stepNumber q1456 [.inl (.int (2 : Int32)), .inl (.int (0 : Int32)), .inl (.int (3 : Int32))] rfl (hk 34 rfl) rfl rfl (c_X6_stepNumber hC.2.2.2.2.2.2.1 hk) rfl ⟨rfl, rfl, (Nat.le_of_ble_eq_true rfl), (Nat.le_of_ble_eq_true rfl)⟩ (Nat.le_of_ble_eq_true rfl) dX6_stepLine_88 (fun r10 d11 => ?_)
      refine z_if_eq (pc := 91) hC 119 rfl dX6_stepLine_91 ?_ ?_
      · exact z_sub [0, 1] rfl (r_Mo_stepLine_119 hC hk v1 d11)
      · refine z_aload_n (pc := 94) hC 0 rfl 0 rfl dX6_stepLine_94 ?_
        refine z_iconst (pc := 95) hC (3 : Int32) rfl dX6_stepLine_95 ?_
        refine z_iconst (pc := 96) hC (1 : Int32) rfl dX6_stepLine_96 ?_
        refine z_bipush (pc := 97) hC (7 : Int32) rfl dX6_stepLine_97 ?_
        refine z_ciV (pc := 99) (st := []) hC y_X6_stepNumber q1456 [.inl (.int (3 : Int32)), .inl (.int (1 : Int32)), .inl (.int (7 : Int32))] rfl (hk 34 rfl) rfl rfl (c_X6_stepNumber hC.2.2.2.2.2.2.1 hk) rfl ⟨rfl, rfl, (Nat.le_of_ble_eq_true rfl), (Nat.le_of_ble_eq_true rfl)⟩ (Nat.le_of_ble_eq_true rfl) dX6_stepLine_99 (fun r12 d13 => ?_)
        refine z_if_eq (pc := 102) hC 119 rfl dX6_stepLine_102 ?_ ?_
        · exact z_sub [0, 1] rfl (r_Mo_stepLine_119 hC hk v1 d13)
        · refine z_aload_n (pc := 105) hC 0 rfl 0 rfl dX6_stepLine_105 ?_
          refine z_iconst (pc := 106) hC (4 : Int32) rfl dX6_stepLine_106 ?_
          refine z_iconst (pc := 107) hC (0 : Int32) rfl dX6_stepLine_107 ?_
          refine z_iconst (pc := 108) hC (1 : Int32) rfl dX6_stepLine_108 ?_
          refine z_ciV (pc := 109) (st := []) hC y_X6_stepNumber q1456 [.inl (.int (4 : Int32)), .inl (.int (0 : Int32)), .inl (.int (1 : Int32))] rfl (hk 34 rfl) rfl rfl (c_X6_stepNumber hC.2.2.2.2.2.2.1 hk) rfl ⟨rfl, rfl, (Nat.le_of_ble_eq_true rfl), (Nat.le_of_ble_eq_true rfl)⟩ (Nat.le_of_ble_eq_true rfl) dX6_stepLine_109 (fun r14 d15 => ?_)
          refine z_if_eq (pc := 112) hC 119 rfl dX6_stepLine_112 ?_ ?_
          · exact z_sub [0, 1] rfl (r_Mo_stepLine_119 hC hk v1 d15)
          · refine z_iconst (pc := 115) hC (1 : Int32) rfl dX6_stepLine_115 ?_
            refine z_goto (pc := 116) hC 120 rfl dX6_stepLine_116 ?_
            exact z_sub [0, 1] rfl (r_Mo_stepLine_120 hC hk v1 (1 : Int32) d15)
theorem r_Mo_stepLine_61 {C : Cxt} {G : Geo} {M : Mem} {k : Nat} (hC : Cx C cX6_stepLine 3 "FrameHeirsModel" (some .boolean) rm_X6_stepLine G) (hk : LMo G k) (v1 : Int32) (d : Sl) : Rz C 3 G (setS M k) (poM avI (setS M k)) 61 [(0, .inr (k, 34)), (1, .inl (.int v1))] [] d (Mo_stepLine_61 v1 d) := by
  unfold Mo_stepLine_61
  refine z_aload_n (pc := 61) hC 0 rfl 0 rfl dX6_stepLine_61 ?_
  refine z_iload_n (pc := 62) hC 1 rfl 1 rfl dX6_stepLine_62 ?_
  refine z_ciV (pc := 63) (st := []) hC y_X6_passing q1452 [.inl (.int v1)] rfl (hk 34 rfl) rfl rfl (c_X6_passing hC.2.2.2.2.2.2.1 hk) rfl ⟨rfl, rfl, (Nat.le_of_ble_eq_true rfl), (Nat.le_of_ble_eq_true rfl)⟩ (Nat.le_of_ble_eq_true rfl) dX6_stepLine_63 (fun r16 d17 => ?_)
  refine z_istore_n (pc := 66) (ls1 := fun v => [(2, .inl (.int v)), (0, .inr (k, 34)), (1, .inl (.int v1))]) hC 2 rfl (by decide) (fun v => rfl) dX6_stepLine_66 (fun v2_18 => ?_)
  exact z_sub [1, 2, 0] rfl (r_Mo_stepLine_67 hC hk v1 v2_18 d17)
theorem r_Mo_stepLine {C : Cxt} {G : Geo} {M : Mem} {k : Nat} (hC : Cx C cX6_stepLine 3 "FrameHeirsModel" (some .boolean) rm_X6_stepLine G) (hk : LMo G k) (d : Sl) : Rz C 3 G (setS M k) (poM avI (setS M k)) 0 [(0, .inr (k, 34))] [] d (Mo_stepLine d) := by
  unfold Mo_stepLine
  refine z_aload_n (pc := 0) hC 0 rfl 0 rfl dX6_stepLine_0 ?_
  refine zs_geti (pc := 1) hC (hk 34 rfl) f_34_14 q1284 dX6_stepLine_1 ?_
  refine z_bipush (pc := 4) hC (24 : Int32) rfl dX6_stepLine_4 ?_
  refine z_icmp_ne (pc := 6) hC 15 rfl dX6_stepLine_6 ?_ ?_
  · refine z_aload_n (pc := 15) hC 0 rfl 0 rfl dX6_stepLine_15 ?_
    refine zs_geti (pc := 16) hC (hk 34 rfl) f_34_9 q1279 dX6_stepLine_16 ?_
    refine z_istore_n (pc := 19) (ls1 := fun v => [(1, .inl (.int v)), (0, .inr (k, 34))]) hC 1 rfl (by decide) (fun v => rfl) dX6_stepLine_19 (fun v1_19 => ?_)
    refine z_aload_n (pc := 20) hC 0 rfl 1 rfl dX6_stepLine_20 ?_
    refine z_getc (pc := 21) hC (hk 34 rfl) f_34_21 q1291 dX6_stepLine_21 ?_
    refine z_bipush (pc := 24) hC (24 : Int32) rfl dX6_stepLine_24 ?_
    refine z_aload_n (pc := 26) hC 0 rfl 1 rfl dX6_stepLine_26 ?_
    refine zs_geti (pc := 27) hC (hk 34 rfl) f_34_14 q1284 dX6_stepLine_27 ?_
    refine z_iadd (pc := 30) hC dX6_stepLine_30 ?_
    refine z_iload_n (pc := 31) hC 1 rfl 0 rfl dX6_stepLine_31 ?_
    refine zs_iast (pc := 32) hC (hk 43 rfl) (by decide) rfl dX6_stepLine_32 (fun d20 => ?_)
    refine z_aload_n (pc := 33) hC 0 rfl 1 rfl dX6_stepLine_33 ?_
    refine z_cvV (pc := 34) (st := []) hC y_X6_token q1380 [] rfl (hk 34 rfl) rfl rfl (c_X6_token hC.2.2.2.2.2.2.1 hk) rfl ⟨rfl, rfl, (Nat.le_of_ble_eq_true rfl), (Nat.le_of_ble_eq_true rfl)⟩ (Nat.le_of_ble_eq_true rfl) dX6_stepLine_34 (fun r21 d22 => ?_)
    refine z_aload_n (pc := 37) hC 0 rfl 1 rfl dX6_stepLine_37 ?_
    refine z_iconst (pc := 38) hC (0 : Int32) rfl dX6_stepLine_38 ?_
    refine z_ciV (pc := 39) (st := []) hC y_X6_stepSpace q1448 [.inl (.int (0 : Int32))] rfl (hk 34 rfl) rfl rfl (c_X6_stepSpace hC.2.2.2.2.2.2.1 hk) rfl ⟨rfl, rfl, (Nat.le_of_ble_eq_true rfl), (Nat.le_of_ble_eq_true rfl)⟩ (Nat.le_of_ble_eq_true rfl) dX6_stepLine_39 (fun r23 d24 => ?_)
    refine z_if_ne (pc := 42) hC 47 rfl dX6_stepLine_42 ?_ ?_
    · refine z_iconst (pc := 47) hC (1 : Int32) rfl dX6_stepLine_47 ?_
      refine z_istore_n (pc := 48) (ls1 := fun v => [(2, .inl (.int v)), (1, .inl (.int v1_19)), (0, .inr (k, 34))]) hC 2 rfl (by decide) (fun v => rfl) dX6_stepLine_48 (fun v2_25 => ?_)
      refine z_iload_n (pc := 49) hC 1 rfl 1 rfl dX6_stepLine_49 ?_
      refine z_bipush (pc := 50) hC (7 : Int32) rfl dX6_stepLine_50 ?_
      refine z_icmp_eq (pc := 52) hC 61 rfl dX6_stepLine_52 ?_ ?_
      · exact z_sub [2, 1] rfl (r_Mo_stepLine_61 hC hk v1_19 d24)
      · refine z_iload_n (pc := 55) hC 1 rfl 1 rfl dX6_stepLine_55 ?_
        refine z_bipush (pc := 56) hC (8 : Int32) rfl dX6_stepLine_56 ?_
        refine z_icmp_ne (pc := 58) hC 67 rfl dX6_stepLine_58 ?_ ?_
        · exact z_sub [2, 1, 0] rfl (r_Mo_stepLine_67 hC hk v1_19 v2_25 d24)
        · exact z_sub [2, 1] rfl (r_Mo_stepLine_61 hC hk v1_19 d24)
    · refine z_iconst (pc := 45) hC (0 : Int32) rfl dX6_stepLine_45 ?_
      exact z_zret (pc := 46) hC rfl rfl dX6_stepLine_46
  · refine z_aload_n (pc := 9) hC 0 rfl 0 rfl dX6_stepLine_9 ?_
    refine z_iconst (pc := 10) hC (2 : Int32) rfl dX6_stepLine_10 ?_
    refine z_ciV (pc := 11) (st := []) hC y_X6_wrong q1405 [.inl (.int (2 : Int32))] rfl (hk 34 rfl) rfl rfl (c_X6_wrong hC.2.2.2.2.2.2.1 hk) rfl ⟨rfl, rfl, (Nat.le_of_ble_eq_true rfl), (Nat.le_of_ble_eq_true rfl)⟩ (Nat.le_of_ble_eq_true rfl) dX6_stepLine_11 (fun r26 d27 => ?_)
    exact z_zretG (pc := 14) hC rfl dX6_stepLine_14
theorem c_X6_stepLine {G : Geo} {M : Mem} {k : Nat} (hG : GOk G) (hk : LMo G k) {d : Sl} (l : Launch) (r : Int32) (d1 : Sl) (h : Mo_stepLine d = some (r, d1)) : Mt l yX6_stepLine cX6_stepLine 3 (some .boolean) rm_X6_stepLine G [.inr (k, 34)] ((setS M k) d) (avI r) ((setS M k) d1) :=
  mt_of (mem := (setS M k)) (po := poM avI (setS M k)) (x0 := d) (t := (r, d1)) rfl hG [.inr (k, 34)] (Nat.le_of_ble_eq_true rfl) rfl (fun C hC => r_Mo_stepLine hC hk d) h
-- FrameHeirsModel.lineRead()Z
abbrev rm_X6_lineRead : Room := { frames := 6, cells := 0, slots := 0, locals := 135 }
theorem dX6_lineRead_0 : decode cX6_lineRead 0 = .ok (.aload_n 0, 1) := by decide +kernel
theorem dX6_lineRead_1 : decode cX6_lineRead 1 = .ok (.getfield 79, 3) := by decide +kernel
theorem dX6_lineRead_4 : decode cX6_lineRead 4 = .ok (.iconst 1, 1) := by decide +kernel
theorem dX6_lineRead_5 : decode cX6_lineRead 5 = .ok (.if_icmp .eq 9, 3) := by decide +kernel
theorem dX6_lineRead_8 : decode cX6_lineRead 8 = .ok (.aload_n 0, 1) := by decide +kernel
theorem dX6_lineRead_9 : decode cX6_lineRead 9 = .ok (.iconst 1, 1) := by decide +kernel
theorem dX6_lineRead_10 : decode cX6_lineRead 10 = .ok (.invokevirtual 134, 3) := by decide +kernel
theorem dX6_lineRead_13 : decode cX6_lineRead 13 = .ok (.ireturn, 1) := by decide +kernel
theorem dX6_lineRead_14 : decode cX6_lineRead 14 = .ok (.aload_n 0, 1) := by decide +kernel
theorem dX6_lineRead_15 : decode cX6_lineRead 15 = .ok (.getfield 90, 3) := by decide +kernel
theorem dX6_lineRead_18 : decode cX6_lineRead 18 = .ok (.tableswitch 82 0 6 #[42, 50, 58, 66, 74, 74, 74], 42) := by decide +kernel
theorem dX6_lineRead_60 : decode cX6_lineRead 60 = .ok (.aload_n 0, 1) := by decide +kernel
theorem dX6_lineRead_61 : decode cX6_lineRead 61 = .ok (.invokevirtual 168, 3) := by decide +kernel
theorem dX6_lineRead_64 : decode cX6_lineRead 64 = .ok (.istore_n 1, 1) := by decide +kernel
theorem dX6_lineRead_65 : decode cX6_lineRead 65 = .ok (.goto 40, 3) := by decide +kernel
theorem dX6_lineRead_68 : decode cX6_lineRead 68 = .ok (.aload_n 0, 1) := by decide +kernel
theorem dX6_lineRead_69 : decode cX6_lineRead 69 = .ok (.invokevirtual 171, 3) := by decide +kernel
theorem dX6_lineRead_72 : decode cX6_lineRead 72 = .ok (.istore_n 1, 1) := by decide +kernel
theorem dX6_lineRead_73 : decode cX6_lineRead 73 = .ok (.goto 32, 3) := by decide +kernel
theorem dX6_lineRead_76 : decode cX6_lineRead 76 = .ok (.aload_n 0, 1) := by decide +kernel
theorem dX6_lineRead_77 : decode cX6_lineRead 77 = .ok (.invokevirtual 174, 3) := by decide +kernel
theorem dX6_lineRead_80 : decode cX6_lineRead 80 = .ok (.istore_n 1, 1) := by decide +kernel
theorem dX6_lineRead_81 : decode cX6_lineRead 81 = .ok (.goto 24, 3) := by decide +kernel
theorem dX6_lineRead_84 : decode cX6_lineRead 84 = .ok (.aload_n 0, 1) := by decide +kernel
theorem dX6_lineRead_85 : decode cX6_lineRead 85 = .ok (.invokevirtual 177, 3) := by decide +kernel
theorem dX6_lineRead_88 : decode cX6_lineRead 88 = .ok (.istore_n 1, 1) := by decide +kernel
theorem dX6_lineRead_89 : decode cX6_lineRead 89 = .ok (.goto 16, 3) := by decide +kernel
theorem dX6_lineRead_92 : decode cX6_lineRead 92 = .ok (.aload_n 0, 1) := by decide +kernel
theorem dX6_lineRead_93 : decode cX6_lineRead 93 = .ok (.invokevirtual 180, 3) := by decide +kernel
theorem dX6_lineRead_96 : decode cX6_lineRead 96 = .ok (.istore_n 1, 1) := by decide +kernel
theorem dX6_lineRead_97 : decode cX6_lineRead 97 = .ok (.goto 8, 3) := by decide +kernel
theorem dX6_lineRead_100 : decode cX6_lineRead 100 = .ok (.aload_n 0, 1) := by decide +kernel
theorem dX6_lineRead_101 : decode cX6_lineRead 101 = .ok (.invokevirtual 183, 3) := by decide +kernel
theorem dX6_lineRead_104 : decode cX6_lineRead 104 = .ok (.istore_n 1, 1) := by decide +kernel
theorem dX6_lineRead_105 : decode cX6_lineRead 105 = .ok (.iload_n 1, 1) := by decide +kernel
theorem dX6_lineRead_106 : decode cX6_lineRead 106 = .ok (.ifCond .ne 5, 3) := by decide +kernel
theorem dX6_lineRead_109 : decode cX6_lineRead 109 = .ok (.iconst 0, 1) := by decide +kernel
theorem dX6_lineRead_110 : decode cX6_lineRead 110 = .ok (.ireturn, 1) := by decide +kernel
theorem dX6_lineRead_111 : decode cX6_lineRead 111 = .ok (.aload_n 0, 1) := by decide +kernel
theorem dX6_lineRead_112 : decode cX6_lineRead 112 = .ok (.getfield 79, 3) := by decide +kernel
theorem dX6_lineRead_115 : decode cX6_lineRead 115 = .ok (.iconst 4, 1) := by decide +kernel
theorem dX6_lineRead_116 : decode cX6_lineRead 116 = .ok (.if_icmp .eq 9, 3) := by decide +kernel
theorem dX6_lineRead_119 : decode cX6_lineRead 119 = .ok (.aload_n 0, 1) := by decide +kernel
theorem dX6_lineRead_120 : decode cX6_lineRead 120 = .ok (.iconst 1, 1) := by decide +kernel
theorem dX6_lineRead_121 : decode cX6_lineRead 121 = .ok (.invokevirtual 134, 3) := by decide +kernel
theorem dX6_lineRead_124 : decode cX6_lineRead 124 = .ok (.ireturn, 1) := by decide +kernel
theorem dX6_lineRead_125 : decode cX6_lineRead 125 = .ok (.aload_n 0, 1) := by decide +kernel
theorem dX6_lineRead_126 : decode cX6_lineRead 126 = .ok (.invokevirtual 144, 3) := by decide +kernel
theorem dX6_lineRead_129 : decode cX6_lineRead 129 = .ok (.iconst 1, 1) := by decide +kernel
theorem dX6_lineRead_130 : decode cX6_lineRead 130 = .ok (.ireturn, 1) := by decide +kernel
def Mo_lineRead_105 (v1 : Int32) (d : Sl) : Option (Int32 × Sl) :=
  if v1 = 0 then
    (some ((0 : Int32), d))
  else
    (if (d 34 8) = (4 : Int32) then
      (bd (Mo_token d) fun r1 d2 =>
      some ((1 : Int32), d2))
    else
      (bd (Mo_wrong d (1 : Int32)) fun r3 d4 =>
      if r3 = 0 ∨ r3 = 1 then some (r3, d4) else none))
def Mo_lineRead (d : Sl) : Option (Int32 × Sl) :=
  if (d 34 8) = (1 : Int32) then
    (if (d 34 9) = (0 : Int32) then
      (bd (Mo_spaceLine d) fun r26 d27 =>
      bnd r26 fun v1_28 =>
      Mo_lineRead_105 v1_28 d27)
    else
      (if (d 34 9) = (1 : Int32) then
        (bd (Mo_pagerLine d) fun r23 d24 =>
        bnd r23 fun v1_25 =>
        Mo_lineRead_105 v1_25 d24)
      else
        (if (d 34 9) = (2 : Int32) then
          (bd (Mo_quotaLine d) fun r20 d21 =>
          bnd r20 fun v1_22 =>
          Mo_lineRead_105 v1_22 d21)
        else
          (if (d 34 9) = (3 : Int32) then
            (bd (Mo_sizeLine d) fun r17 d18 =>
            bnd r17 fun v1_19 =>
            Mo_lineRead_105 v1_19 d18)
          else
            (if (d 34 9) = (4 : Int32) then
              (bd (Mo_wordLine d) fun r14 d15 =>
              bnd r14 fun v1_16 =>
              Mo_lineRead_105 v1_16 d15)
            else
              (if (d 34 9) = (5 : Int32) then
                (bd (Mo_wordLine d) fun r11 d12 =>
                bnd r11 fun v1_13 =>
                Mo_lineRead_105 v1_13 d12)
              else
                (if (d 34 9) = (6 : Int32) then
                  (bd (Mo_wordLine d) fun r8 d9 =>
                  bnd r8 fun v1_10 =>
                  Mo_lineRead_105 v1_10 d9)
                else
                  (bd (Mo_stepLine d) fun r5 d6 =>
                  bnd r5 fun v1_7 =>
                  Mo_lineRead_105 v1_7 d6))))))))
  else
    (bd (Mo_wrong d (1 : Int32)) fun r29 d30 =>
    if r29 = 0 ∨ r29 = 1 then some (r29, d30) else none)
theorem y_X6_lineRead : YV yX6_lineRead cX6_lineRead 2 (some .boolean) 0 := ⟨q1403, q54, q1404, q149, by decide +kernel, by decide +kernel, by decide +kernel, by decide +kernel⟩
theorem r_Mo_lineRead_105 {C : Cxt} {G : Geo} {M : Mem} {k : Nat} (hC : Cx C cX6_lineRead 2 "FrameHeirsModel" (some .boolean) rm_X6_lineRead G) (hk : LMo G k) (v1 : Int32) (d : Sl) : Rz C 2 G (setS M k) (poM avI (setS M k)) 105 [(0, .inr (k, 34)), (1, .inl (.int v1))] [] d (Mo_lineRead_105 v1 d) := by
  unfold Mo_lineRead_105
  refine z_iload_n (pc := 105) hC 1 rfl 1 rfl dX6_lineRead_105 ?_
  refine z_if_ne (pc := 106) hC 111 rfl dX6_lineRead_106 ?_ ?_
  · refine z_aload_n (pc := 111) hC 0 rfl 0 rfl dX6_lineRead_111 ?_
    refine zs_geti (pc := 112) hC (hk 34 rfl) f_34_8 q1278 dX6_lineRead_112 ?_
    refine z_iconst (pc := 115) hC (4 : Int32) rfl dX6_lineRead_115 ?_
    refine z_icmp_eq (pc := 116) hC 125 rfl dX6_lineRead_116 ?_ ?_
    · refine z_aload_n (pc := 125) hC 0 rfl 0 rfl dX6_lineRead_125 ?_
      refine z_cvV (pc := 126) (st := []) hC y_X6_token q1380 [] rfl (hk 34 rfl) rfl rfl (c_X6_token hC.2.2.2.2.2.2.1 hk) rfl ⟨rfl, rfl, (Nat.le_of_ble_eq_true rfl), (Nat.le_of_ble_eq_true rfl)⟩ (Nat.le_of_ble_eq_true rfl) dX6_lineRead_126 (fun r1 d2 => ?_)
      refine z_iconst (pc := 129) hC (1 : Int32) rfl dX6_lineRead_129 ?_
      exact z_zret (pc := 130) hC rfl rfl dX6_lineRead_130
    · refine z_aload_n (pc := 119) hC 0 rfl 0 rfl dX6_lineRead_119 ?_
      refine z_iconst (pc := 120) hC (1 : Int32) rfl dX6_lineRead_120 ?_
      refine z_ciV (pc := 121) (st := []) hC y_X6_wrong q1405 [.inl (.int (1 : Int32))] rfl (hk 34 rfl) rfl rfl (c_X6_wrong hC.2.2.2.2.2.2.1 hk) rfl ⟨rfl, rfl, (Nat.le_of_ble_eq_true rfl), (Nat.le_of_ble_eq_true rfl)⟩ (Nat.le_of_ble_eq_true rfl) dX6_lineRead_121 (fun r3 d4 => ?_)
      exact z_zretG (pc := 124) hC rfl dX6_lineRead_124
  · refine z_iconst (pc := 109) hC (0 : Int32) rfl dX6_lineRead_109 ?_
    exact z_zret (pc := 110) hC rfl rfl dX6_lineRead_110
theorem r_Mo_lineRead {C : Cxt} {G : Geo} {M : Mem} {k : Nat} (hC : Cx C cX6_lineRead 2 "FrameHeirsModel" (some .boolean) rm_X6_lineRead G) (hk : LMo G k) (d : Sl) : Rz C 2 G (setS M k) (poM avI (setS M k)) 0 [(0, .inr (k, 34))] [] d (Mo_lineRead d) := by
  unfold Mo_lineRead
  refine z_aload_n (pc := 0) hC 0 rfl 0 rfl dX6_lineRead_0 ?_
  refine zs_geti (pc := 1) hC (hk 34 rfl) f_34_8 q1278 dX6_lineRead_1 ?_
  refine z_iconst (pc := 4) hC (1 : Int32) rfl dX6_lineRead_4 ?_
  refine z_icmp_eq (pc := 5) hC 14 rfl dX6_lineRead_5 ?_ ?_
  · refine z_aload_n (pc := 14) hC 0 rfl 0 rfl dX6_lineRead_14 ?_
    refine zs_geti (pc := 15) hC (hk 34 rfl) f_34_9 q1279 dX6_lineRead_15 ?_
    refine z_ite (fun e => ?_) (fun e0 => ?_)
    · refine z_tswIn (pc := 18) hC 0 60 (by rw [e]; rfl) (by decide) (by decide) rfl rfl dX6_lineRead_18 ?_
      refine z_aload_n (pc := 60) hC 0 rfl 0 rfl dX6_lineRead_60 ?_
      refine z_ciV (pc := 61) (st := []) hC y_X6_spaceLine q1409 [] rfl (hk 34 rfl) rfl rfl (c_X6_spaceLine hC.2.2.2.2.2.2.1 hk) rfl ⟨rfl, rfl, (Nat.le_of_ble_eq_true rfl), (Nat.le_of_ble_eq_true rfl)⟩ (Nat.le_of_ble_eq_true rfl) dX6_lineRead_61 (fun r26 d27 => ?_)
      refine z_istore_n (pc := 64) (ls1 := fun v => [(1, .inl (.int v)), (0, .inr (k, 34))]) hC 1 rfl (by decide) (fun v => rfl) dX6_lineRead_64 (fun v1_28 => ?_)
      refine z_goto (pc := 65) hC 105 rfl dX6_lineRead_65 ?_
      exact z_sub [1, 0] rfl (r_Mo_lineRead_105 hC hk v1_28 d27)
    · refine z_ite (fun e => ?_) (fun e1 => ?_)
      · refine z_tswIn (pc := 18) hC 1 68 (by rw [e]; rfl) (by decide) (by decide) rfl rfl dX6_lineRead_18 ?_
        refine z_aload_n (pc := 68) hC 0 rfl 0 rfl dX6_lineRead_68 ?_
        refine z_ciV (pc := 69) (st := []) hC y_X6_pagerLine q1417 [] rfl (hk 34 rfl) rfl rfl (c_X6_pagerLine hC.2.2.2.2.2.2.1 hk) rfl ⟨rfl, rfl, (Nat.le_of_ble_eq_true rfl), (Nat.le_of_ble_eq_true rfl)⟩ (Nat.le_of_ble_eq_true rfl) dX6_lineRead_69 (fun r23 d24 => ?_)
        refine z_istore_n (pc := 72) (ls1 := fun v => [(1, .inl (.int v)), (0, .inr (k, 34))]) hC 1 rfl (by decide) (fun v => rfl) dX6_lineRead_72 (fun v1_25 => ?_)
        refine z_goto (pc := 73) hC 105 rfl dX6_lineRead_73 ?_
        exact z_sub [1, 0] rfl (r_Mo_lineRead_105 hC hk v1_25 d24)
      · refine z_ite (fun e => ?_) (fun e2 => ?_)
        · refine z_tswIn (pc := 18) hC 2 76 (by rw [e]; rfl) (by decide) (by decide) rfl rfl dX6_lineRead_18 ?_
          refine z_aload_n (pc := 76) hC 0 rfl 0 rfl dX6_lineRead_76 ?_
          refine z_ciV (pc := 77) (st := []) hC y_X6_quotaLine q1432 [] rfl (hk 34 rfl) rfl rfl (c_X6_quotaLine hC.2.2.2.2.2.2.1 hk) rfl ⟨rfl, rfl, (Nat.le_of_ble_eq_true rfl), (Nat.le_of_ble_eq_true rfl)⟩ (Nat.le_of_ble_eq_true rfl) dX6_lineRead_77 (fun r20 d21 => ?_)
          refine z_istore_n (pc := 80) (ls1 := fun v => [(1, .inl (.int v)), (0, .inr (k, 34))]) hC 1 rfl (by decide) (fun v => rfl) dX6_lineRead_80 (fun v1_22 => ?_)
          refine z_goto (pc := 81) hC 105 rfl dX6_lineRead_81 ?_
          exact z_sub [1, 0] rfl (r_Mo_lineRead_105 hC hk v1_22 d21)
        · refine z_ite (fun e => ?_) (fun e3 => ?_)
          · refine z_tswIn (pc := 18) hC 3 84 (by rw [e]; rfl) (by decide) (by decide) rfl rfl dX6_lineRead_18 ?_
            refine z_aload_n (pc := 84) hC 0 rfl 0 rfl dX6_lineRead_84 ?_
            refine z_ciV (pc := 85) (st := []) hC y_X6_sizeLine q1436 [] rfl (hk 34 rfl) rfl rfl (c_X6_sizeLine hC.2.2.2.2.2.2.1 hk) rfl ⟨rfl, rfl, (Nat.le_of_ble_eq_true rfl), (Nat.le_of_ble_eq_true rfl)⟩ (Nat.le_of_ble_eq_true rfl) dX6_lineRead_85 (fun r17 d18 => ?_)
            refine z_istore_n (pc := 88) (ls1 := fun v => [(1, .inl (.int v)), (0, .inr (k, 34))]) hC 1 rfl (by decide) (fun v => rfl) dX6_lineRead_88 (fun v1_19 => ?_)
            refine z_goto (pc := 89) hC 105 rfl dX6_lineRead_89 ?_
            exact z_sub [1, 0] rfl (r_Mo_lineRead_105 hC hk v1_19 d18)
          · refine z_ite (fun e => ?_) (fun e4 => ?_)
            · refine z_tswIn (pc := 18) hC 4 92 (by rw [e]; rfl) (by decide) (by decide) rfl rfl dX6_lineRead_18 ?_
              refine z_aload_n (pc := 92) hC 0 rfl 0 rfl dX6_lineRead_92 ?_
              refine z_ciV (pc := 93) (st := []) hC y_X6_wordLine q1440 [] rfl (hk 34 rfl) rfl rfl (c_X6_wordLine hC.2.2.2.2.2.2.1 hk) rfl ⟨rfl, rfl, (Nat.le_of_ble_eq_true rfl), (Nat.le_of_ble_eq_true rfl)⟩ (Nat.le_of_ble_eq_true rfl) dX6_lineRead_93 (fun r14 d15 => ?_)
              refine z_istore_n (pc := 96) (ls1 := fun v => [(1, .inl (.int v)), (0, .inr (k, 34))]) hC 1 rfl (by decide) (fun v => rfl) dX6_lineRead_96 (fun v1_16 => ?_)
              refine z_goto (pc := 97) hC 105 rfl dX6_lineRead_97 ?_
              exact z_sub [1, 0] rfl (r_Mo_lineRead_105 hC hk v1_16 d15)
            · refine z_ite (fun e => ?_) (fun e5 => ?_)
              · refine z_tswIn (pc := 18) hC 5 92 (by rw [e]; rfl) (by decide) (by decide) rfl rfl dX6_lineRead_18 ?_
                refine z_aload_n (pc := 92) hC 0 rfl 0 rfl dX6_lineRead_92 ?_
                refine z_ciV (pc := 93) (st := []) hC y_X6_wordLine q1440 [] rfl (hk 34 rfl) rfl rfl (c_X6_wordLine hC.2.2.2.2.2.2.1 hk) rfl ⟨rfl, rfl, (Nat.le_of_ble_eq_true rfl), (Nat.le_of_ble_eq_true rfl)⟩ (Nat.le_of_ble_eq_true rfl) dX6_lineRead_93 (fun r11 d12 => ?_)
                refine z_istore_n (pc := 96) (ls1 := fun v => [(1, .inl (.int v)), (0, .inr (k, 34))]) hC 1 rfl (by decide) (fun v => rfl) dX6_lineRead_96 (fun v1_13 => ?_)
                refine z_goto (pc := 97) hC 105 rfl dX6_lineRead_97 ?_
                exact z_sub [1, 0] rfl (r_Mo_lineRead_105 hC hk v1_13 d12)
              · refine z_ite (fun e => ?_) (fun e6 => ?_)
                · refine z_tswIn (pc := 18) hC 6 92 (by rw [e]; rfl) (by decide) (by decide) rfl rfl dX6_lineRead_18 ?_
                  refine z_aload_n (pc := 92) hC 0 rfl 0 rfl dX6_lineRead_92 ?_
                  refine z_ciV (pc := 93) (st := []) hC y_X6_wordLine q1440 [] rfl (hk 34 rfl) rfl rfl (c_X6_wordLine hC.2.2.2.2.2.2.1 hk) rfl ⟨rfl, rfl, (Nat.le_of_ble_eq_true rfl), (Nat.le_of_ble_eq_true rfl)⟩ (Nat.le_of_ble_eq_true rfl) dX6_lineRead_93 (fun r8 d9 => ?_)
                  refine z_istore_n (pc := 96) (ls1 := fun v => [(1, .inl (.int v)), (0, .inr (k, 34))]) hC 1 rfl (by decide) (fun v => rfl) dX6_lineRead_96 (fun v1_10 => ?_)
                  refine z_goto (pc := 97) hC 105 rfl dX6_lineRead_97 ?_
                  exact z_sub [1, 0] rfl (r_Mo_lineRead_105 hC hk v1_10 d9)
                · have e0_ : ((d 34 9)).toInt ≠ 0 := fun h => e0 (Int32.toInt_inj.mp (by rw [h]; rfl))
                  have e1_ : ((d 34 9)).toInt ≠ 1 := fun h => e1 (Int32.toInt_inj.mp (by rw [h]; rfl))
                  have e2_ : ((d 34 9)).toInt ≠ 2 := fun h => e2 (Int32.toInt_inj.mp (by rw [h]; rfl))
                  have e3_ : ((d 34 9)).toInt ≠ 3 := fun h => e3 (Int32.toInt_inj.mp (by rw [h]; rfl))
                  have e4_ : ((d 34 9)).toInt ≠ 4 := fun h => e4 (Int32.toInt_inj.mp (by rw [h]; rfl))
                  have e5_ : ((d 34 9)).toInt ≠ 5 := fun h => e5 (Int32.toInt_inj.mp (by rw [h]; rfl))
                  have e6_ : ((d 34 9)).toInt ≠ 6 := fun h => e6 (Int32.toInt_inj.mp (by rw [h]; rfl))
                  refine z_tswOut (pc := 18) hC 100 (by omega) rfl dX6_lineRead_18 ?_
                  refine z_aload_n (pc := 100) hC 0 rfl 0 rfl dX6_lineRead_100 ?_
                  refine z_ciV (pc := 101) (st := []) hC y_X6_stepLine q1444 [] rfl (hk 34 rfl) rfl rfl (c_X6_stepLine hC.2.2.2.2.2.2.1 hk) rfl ⟨rfl, rfl, (Nat.le_of_ble_eq_true rfl), (Nat.le_of_ble_eq_true rfl)⟩ (Nat.le_of_ble_eq_true rfl) dX6_lineRead_101 (fun r5 d6 => ?_)
                  refine z_istore_n (pc := 104) (ls1 := fun v => [(1, .inl (.int v)), (0, .inr (k, 34))]) hC 1 rfl (by decide) (fun v => rfl) dX6_lineRead_104 (fun v1_7 => ?_)
                  exact z_sub [1, 0] rfl (r_Mo_lineRead_105 hC hk v1_7 d6)
  · refine z_aload_n (pc := 8) hC 0 rfl 0 rfl dX6_lineRead_8 ?_
    refine z_iconst (pc := 9) hC (1 : Int32) rfl dX6_lineRead_9 ?_
    refine z_ciV (pc := 10) (st := []) hC y_X6_wrong q1405 [.inl (.int (1 : Int32))] rfl (hk 34 rfl) rfl rfl (c_X6_wrong hC.2.2.2.2.2.2.1 hk) rfl ⟨rfl, rfl, (Nat.le_of_ble_eq_true rfl), (Nat.le_of_ble_eq_true rfl)⟩ (Nat.le_of_ble_eq_true rfl) dX6_lineRead_10 (fun r29 d30 => ?_)
    exact z_zretG (pc := 13) hC rfl dX6_lineRead_13
theorem c_X6_lineRead {G : Geo} {M : Mem} {k : Nat} (hG : GOk G) (hk : LMo G k) {d : Sl} (l : Launch) (r : Int32) (d1 : Sl) (h : Mo_lineRead d = some (r, d1)) : Mt l yX6_lineRead cX6_lineRead 2 (some .boolean) rm_X6_lineRead G [.inr (k, 34)] ((setS M k) d) (avI r) ((setS M k) d1) :=
  mt_of (mem := (setS M k)) (po := poM avI (setS M k)) (x0 := d) (t := (r, d1)) rfl hG [.inr (k, 34)] (Nat.le_of_ble_eq_true rfl) rfl (fun C hC => r_Mo_lineRead hC hk d) h
-- FrameHeirsModel.text(I)I
abbrev rm_X6_text : Room := { frames := 7, cells := 0, slots := 0, locals := 156 }
theorem dX6_text_0 : decode cX6_text 0 = .ok (.aload_n 0, 1) := by decide +kernel
theorem dX6_text_1 : decode cX6_text 1 = .ok (.iconst 0, 1) := by decide +kernel
theorem dX6_text_2 : decode cX6_text 2 = .ok (.putfield 61, 3) := by decide +kernel
theorem dX6_text_5 : decode cX6_text 5 = .ok (.iload_n 1, 1) := by decide +kernel
theorem dX6_text_6 : decode cX6_text 6 = .ok (.ifCond .lt 11, 3) := by decide +kernel
theorem dX6_text_9 : decode cX6_text 9 = .ok (.iload_n 1, 1) := by decide +kernel
theorem dX6_text_10 : decode cX6_text 10 = .ok (.aload_n 0, 1) := by decide +kernel
theorem dX6_text_11 : decode cX6_text 11 = .ok (.getfield 64, 3) := by decide +kernel
theorem dX6_text_14 : decode cX6_text 14 = .ok (.if_icmp .le 6, 3) := by decide +kernel
theorem dX6_text_17 : decode cX6_text 17 = .ok (.bipush (-2), 2) := by decide +kernel
theorem dX6_text_19 : decode cX6_text 19 = .ok (.ireturn, 1) := by decide +kernel
theorem dX6_text_20 : decode cX6_text 20 = .ok (.aload_n 0, 1) := by decide +kernel
theorem dX6_text_21 : decode cX6_text 21 = .ok (.iload_n 1, 1) := by decide +kernel
theorem dX6_text_22 : decode cX6_text 22 = .ok (.putfield 73, 3) := by decide +kernel
theorem dX6_text_25 : decode cX6_text 25 = .ok (.aload_n 0, 1) := by decide +kernel
theorem dX6_text_26 : decode cX6_text 26 = .ok (.iconst 0, 1) := by decide +kernel
theorem dX6_text_27 : decode cX6_text 27 = .ok (.putfield 64, 3) := by decide +kernel
theorem dX6_text_30 : decode cX6_text 30 = .ok (.aload_n 0, 1) := by decide +kernel
theorem dX6_text_31 : decode cX6_text 31 = .ok (.iconst 0, 1) := by decide +kernel
theorem dX6_text_32 : decode cX6_text 32 = .ok (.putfield 67, 3) := by decide +kernel
theorem dX6_text_35 : decode cX6_text 35 = .ok (.aload_n 0, 1) := by decide +kernel
theorem dX6_text_36 : decode cX6_text 36 = .ok (.iconst (-1), 1) := by decide +kernel
theorem dX6_text_37 : decode cX6_text 37 = .ok (.putfield 16, 3) := by decide +kernel
theorem dX6_text_40 : decode cX6_text 40 = .ok (.aload_n 0, 1) := by decide +kernel
theorem dX6_text_41 : decode cX6_text 41 = .ok (.iconst 0, 1) := by decide +kernel
theorem dX6_text_42 : decode cX6_text 42 = .ok (.putfield 76, 3) := by decide +kernel
theorem dX6_text_45 : decode cX6_text 45 = .ok (.aload_n 0, 1) := by decide +kernel
theorem dX6_text_46 : decode cX6_text 46 = .ok (.invokevirtual 55, 3) := by decide +kernel
theorem dX6_text_49 : decode cX6_text 49 = .ok (.aload_n 0, 1) := by decide +kernel
theorem dX6_text_50 : decode cX6_text 50 = .ok (.invokevirtual 144, 3) := by decide +kernel
theorem dX6_text_53 : decode cX6_text 53 = .ok (.iconst 0, 1) := by decide +kernel
theorem dX6_text_54 : decode cX6_text 54 = .ok (.istore_n 2, 1) := by decide +kernel
theorem dX6_text_55 : decode cX6_text 55 = .ok (.aload_n 0, 1) := by decide +kernel
theorem dX6_text_56 : decode cX6_text 56 = .ok (.getfield 79, 3) := by decide +kernel
theorem dX6_text_59 : decode cX6_text 59 = .ok (.ifCond .eq 18, 3) := by decide +kernel
theorem dX6_text_62 : decode cX6_text 62 = .ok (.aload_n 0, 1) := by decide +kernel
theorem dX6_text_63 : decode cX6_text 63 = .ok (.invokevirtual 186, 3) := by decide +kernel
theorem dX6_text_66 : decode cX6_text 66 = .ok (.ifCond .ne 5, 3) := by decide +kernel
theorem dX6_text_69 : decode cX6_text 69 = .ok (.iconst (-1), 1) := by decide +kernel
theorem dX6_text_70 : decode cX6_text 70 = .ok (.ireturn, 1) := by decide +kernel
theorem dX6_text_71 : decode cX6_text 71 = .ok (.iinc 2 1, 3) := by decide +kernel
theorem dX6_text_74 : decode cX6_text 74 = .ok (.goto (-19), 3) := by decide +kernel
theorem dX6_text_77 : decode cX6_text 77 = .ok (.aload_n 0, 1) := by decide +kernel
theorem dX6_text_78 : decode cX6_text 78 = .ok (.invokevirtual 58, 3) := by decide +kernel
theorem dX6_text_81 : decode cX6_text 81 = .ok (.iload_n 2, 1) := by decide +kernel
theorem dX6_text_82 : decode cX6_text 82 = .ok (.ireturn, 1) := by decide +kernel
def Mo_text_55 : Nat → Int32 → Sl → Option (Int32 × Sl)
  | 0, _, _ => none
  | n + 1, v2, d =>
    if (d 34 8) = 0 then
      (bd (Mo_keepText d) fun r1 d2 =>
      some (v2, d2))
    else
      (bd (Mo_lineRead d) fun r3 d4 =>
      if r3 = 0 then
        (some ((-1 : Int32), d4))
      else
        (bnd (v2 + (1 : Int32)) fun v2_5 =>
        Mo_text_55 n v2_5 d4))
def Mo_text (d : Sl) (a1 : Int32) : Option (Int32 × Sl) :=
  bnd (wr d 34 2 (0 : Int32)) fun d6 =>
  if a1 < 0 then
    (some ((-2 : Int32), d6))
  else
    (if a1 ≤ (d6 34 1) then
      (bnd (wr d6 34 6 a1) fun d7 =>
      bnd (wr d7 34 1 (0 : Int32)) fun d8 =>
      bnd (wr d8 34 4 (0 : Int32)) fun d9 =>
      bnd (wr d9 34 5 (-1 : Int32)) fun d10 =>
      bnd (wr d10 34 7 (0 : Int32)) fun d11 =>
      bd (Mo_plain d11) fun r12 d13 =>
      bd (Mo_token d13) fun r14 d15 =>
      bnd (0 : Int32) fun v2_16 =>
      Mo_text_55 FU v2_16 d15)
    else
      (some ((-2 : Int32), d6)))
theorem y_X6_text : YV yX6_text cX6_text 3 (some .int) 1 := ⟨q1377, q1378, q1379, q149, by decide +kernel, by decide +kernel, by decide +kernel, by decide +kernel⟩
theorem r_Mo_text_55 {C : Cxt} {G : Geo} {M : Mem} {k : Nat} (hC : Cx C cX6_text 3 "FrameHeirsModel" (some .int) rm_X6_text G) (hk : LMo G k) : ∀ (n : Nat) (v2 : Int32) (d : Sl), Rz C 3 G (setS M k) (poM avI (setS M k)) 55 [(0, .inr (k, 34)), (2, .inl (.int v2))] [] d (Mo_text_55 n v2 d) := by
  intro n
  induction n with
  | zero => intros; exact z_none
  | succ n ih =>
    intro v2 d
    rw [Mo_text_55]
    refine z_aload_n (pc := 55) hC 0 rfl 0 rfl dX6_text_55 ?_
    refine zs_geti (pc := 56) hC (hk 34 rfl) f_34_8 q1278 dX6_text_56 ?_
    refine z_if_eq (pc := 59) hC 77 rfl dX6_text_59 ?_ ?_
    · refine z_aload_n (pc := 77) hC 0 rfl 0 rfl dX6_text_77 ?_
      refine z_cvV (pc := 78) (st := []) hC y_X6_keepText q1239 [] rfl (hk 34 rfl) rfl rfl (c_X6_keepText hC.2.2.2.2.2.2.1 hk) rfl ⟨rfl, rfl, (Nat.le_of_ble_eq_true rfl), (Nat.le_of_ble_eq_true rfl)⟩ (Nat.le_of_ble_eq_true rfl) dX6_text_78 (fun r1 d2 => ?_)
      refine z_iload_n (pc := 81) hC 2 rfl 1 rfl dX6_text_81 ?_
      exact z_iret (pc := 82) hC rfl dX6_text_82
    · refine z_aload_n (pc := 62) hC 0 rfl 0 rfl dX6_text_62 ?_
      refine z_ciV (pc := 63) (st := []) hC y_X6_lineRead q1401 [] rfl (hk 34 rfl) rfl rfl (c_X6_lineRead hC.2.2.2.2.2.2.1 hk) rfl ⟨rfl, rfl, (Nat.le_of_ble_eq_true rfl), (Nat.le_of_ble_eq_true rfl)⟩ (Nat.le_of_ble_eq_true rfl) dX6_text_63 (fun r3 d4 => ?_)
      refine z_if_ne (pc := 66) hC 71 rfl dX6_text_66 ?_ ?_
      · refine z_iinc (pc := 71) (ls1 := fun v => [(2, .inl (.int v)), (0, .inr (k, 34))]) hC 2 1 (by decide) (1 : Int32) rfl rfl (fun v => rfl) dX6_text_71 (fun v2_5 => ?_)
        refine z_goto (pc := 74) hC 55 rfl dX6_text_74 ?_
        exact z_sub [1, 0] rfl (ih v2_5 d4)
      · refine z_iconst (pc := 69) hC (-1 : Int32) rfl dX6_text_69 ?_
        exact z_iret (pc := 70) hC rfl dX6_text_70
theorem r_Mo_text {C : Cxt} {G : Geo} {M : Mem} {k : Nat} (hC : Cx C cX6_text 3 "FrameHeirsModel" (some .int) rm_X6_text G) (hk : LMo G k) (d : Sl) (a1 : Int32) : Rz C 3 G (setS M k) (poM avI (setS M k)) 0 [(0, .inr (k, 34)), (1, .inl (.int a1))] [] d (Mo_text d a1) := by
  unfold Mo_text
  refine z_aload_n (pc := 0) hC 0 rfl 0 rfl dX6_text_0 ?_
  refine z_iconst (pc := 1) hC (0 : Int32) rfl dX6_text_1 ?_
  refine zs_puti (pc := 2) hC (hk 34 rfl) f_34_2 q1272 dX6_text_2 (fun d6 => ?_)
  refine z_iload_n (pc := 5) hC 1 rfl 1 rfl dX6_text_5 ?_
  refine z_if_lt (pc := 6) hC 17 rfl dX6_text_6 ?_ ?_
  · refine z_bipush (pc := 17) hC (-2 : Int32) rfl dX6_text_17 ?_
    exact z_iret (pc := 19) hC rfl dX6_text_19
  · refine z_iload_n (pc := 9) hC 1 rfl 1 rfl dX6_text_9 ?_
    refine z_aload_n (pc := 10) hC 0 rfl 0 rfl dX6_text_10 ?_
    refine zs_geti (pc := 11) hC (hk 34 rfl) f_34_1 q1271 dX6_text_11 ?_
    refine z_icmp_le (pc := 14) hC 20 rfl dX6_text_14 ?_ ?_
    · refine z_aload_n (pc := 20) hC 0 rfl 0 rfl dX6_text_20 ?_
      refine z_iload_n (pc := 21) hC 1 rfl 1 rfl dX6_text_21 ?_
      refine zs_puti (pc := 22) hC (hk 34 rfl) f_34_6 q1276 dX6_text_22 (fun d7 => ?_)
      refine z_aload_n (pc := 25) hC 0 rfl 0 rfl dX6_text_25 ?_
      refine z_iconst (pc := 26) hC (0 : Int32) rfl dX6_text_26 ?_
      refine zs_puti (pc := 27) hC (hk 34 rfl) f_34_1 q1271 dX6_text_27 (fun d8 => ?_)
      refine z_aload_n (pc := 30) hC 0 rfl 0 rfl dX6_text_30 ?_
      refine z_iconst (pc := 31) hC (0 : Int32) rfl dX6_text_31 ?_
      refine zs_puti (pc := 32) hC (hk 34 rfl) f_34_4 q1274 dX6_text_32 (fun d9 => ?_)
      refine z_aload_n (pc := 35) hC 0 rfl 0 rfl dX6_text_35 ?_
      refine z_iconst (pc := 36) hC (-1 : Int32) rfl dX6_text_36 ?_
      refine zs_puti (pc := 37) hC (hk 34 rfl) f_34_5 q1275 dX6_text_37 (fun d10 => ?_)
      refine z_aload_n (pc := 40) hC 0 rfl 0 rfl dX6_text_40 ?_
      refine z_iconst (pc := 41) hC (0 : Int32) rfl dX6_text_41 ?_
      refine zs_puti (pc := 42) hC (hk 34 rfl) f_34_7 q1277 dX6_text_42 (fun d11 => ?_)
      refine z_aload_n (pc := 45) hC 0 rfl 0 rfl dX6_text_45 ?_
      refine z_cvV (pc := 46) (st := []) hC y_X6_plain q1235 [] rfl (hk 34 rfl) rfl rfl (c_X6_plain hC.2.2.2.2.2.2.1 hk) rfl ⟨rfl, rfl, (Nat.le_of_ble_eq_true rfl), (Nat.le_of_ble_eq_true rfl)⟩ (Nat.le_of_ble_eq_true rfl) dX6_text_46 (fun r12 d13 => ?_)
      refine z_aload_n (pc := 49) hC 0 rfl 0 rfl dX6_text_49 ?_
      refine z_cvV (pc := 50) (st := []) hC y_X6_token q1380 [] rfl (hk 34 rfl) rfl rfl (c_X6_token hC.2.2.2.2.2.2.1 hk) rfl ⟨rfl, rfl, (Nat.le_of_ble_eq_true rfl), (Nat.le_of_ble_eq_true rfl)⟩ (Nat.le_of_ble_eq_true rfl) dX6_text_50 (fun r14 d15 => ?_)
      refine z_iconst (pc := 53) hC (0 : Int32) rfl dX6_text_53 ?_
      refine z_istore_n (pc := 54) (ls1 := fun v => [(2, .inl (.int v)), (0, .inr (k, 34)), (1, .inl (.int a1))]) hC 2 rfl (by decide) (fun v => rfl) dX6_text_54 (fun v2_16 => ?_)
      exact z_sub [1, 0] rfl (r_Mo_text_55 hC hk FU v2_16 d15)
    · refine z_bipush (pc := 17) hC (-2 : Int32) rfl dX6_text_17 ?_
      exact z_iret (pc := 19) hC rfl dX6_text_19
theorem c_X6_text {G : Geo} {M : Mem} {k : Nat} (hG : GOk G) (hk : LMo G k) {d : Sl} {a1 : Int32} (l : Launch) (r : Int32) (d1 : Sl) (h : Mo_text d a1 = some (r, d1)) : Mt l yX6_text cX6_text 3 (some .int) rm_X6_text G [.inr (k, 34), .inl (.int a1)] ((setS M k) d) (avI r) ((setS M k) d1) :=
  mt_of (mem := (setS M k)) (po := poM avI (setS M k)) (x0 := d) (t := (r, d1)) rfl hG [.inr (k, 34), .inl (.int a1)] (Nat.le_of_ble_eq_true rfl) rfl (fun C hC => r_Mo_text hC hk d a1) h
-- FrameHeirsModel.fault(I)I
abbrev rm_X6_fault : Room := { frames := 0, cells := 0, slots := 0, locals := 0 }
theorem dX6_fault_0 : decode cX6_fault 0 = .ok (.aload_n 0, 1) := by decide +kernel
theorem dX6_fault_1 : decode cX6_fault 1 = .ok (.iconst 0, 1) := by decide +kernel
theorem dX6_fault_2 : decode cX6_fault 2 = .ok (.putfield 61, 3) := by decide +kernel
theorem dX6_fault_5 : decode cX6_fault 5 = .ok (.iload_n 1, 1) := by decide +kernel
theorem dX6_fault_6 : decode cX6_fault 6 = .ok (.ifCond .ne 10, 3) := by decide +kernel
theorem dX6_fault_9 : decode cX6_fault 9 = .ok (.aload_n 0, 1) := by decide +kernel
theorem dX6_fault_10 : decode cX6_fault 10 = .ok (.getfield 67, 3) := by decide +kernel
theorem dX6_fault_13 : decode cX6_fault 13 = .ok (.goto 16, 3) := by decide +kernel
theorem dX6_fault_16 : decode cX6_fault 16 = .ok (.iload_n 1, 1) := by decide +kernel
theorem dX6_fault_17 : decode cX6_fault 17 = .ok (.iconst 1, 1) := by decide +kernel
theorem dX6_fault_18 : decode cX6_fault 18 = .ok (.if_icmp .ne 10, 3) := by decide +kernel
theorem dX6_fault_21 : decode cX6_fault 21 = .ok (.aload_n 0, 1) := by decide +kernel
theorem dX6_fault_22 : decode cX6_fault 22 = .ok (.getfield 16, 3) := by decide +kernel
theorem dX6_fault_25 : decode cX6_fault 25 = .ok (.goto 4, 3) := by decide +kernel
theorem dX6_fault_28 : decode cX6_fault 28 = .ok (.iconst (-1), 1) := by decide +kernel
theorem dX6_fault_29 : decode cX6_fault 29 = .ok (.ireturn, 1) := by decide +kernel
def Mo_fault (d : Sl) (a1 : Int32) : Option (Int32 × Sl) :=
  bnd (wr d 34 2 (0 : Int32)) fun d1 =>
  if a1 = 0 then
    (some ((d1 34 4), d1))
  else
    (if a1 = (1 : Int32) then
      (some ((d1 34 5), d1))
    else
      (some ((-1 : Int32), d1)))
theorem y_X6_fault : YV yX6_fault cX6_fault 2 (some .int) 1 := ⟨q1461, q1462, q1463, q149, by decide +kernel, by decide +kernel, by decide +kernel, by decide +kernel⟩
theorem r_Mo_fault {C : Cxt} {G : Geo} {M : Mem} {k : Nat} (hC : Cx C cX6_fault 2 "FrameHeirsModel" (some .int) rm_X6_fault G) (hk : LMo G k) (d : Sl) (a1 : Int32) : Rz C 2 G (setS M k) (poM avI (setS M k)) 0 [(0, .inr (k, 34)), (1, .inl (.int a1))] [] d (Mo_fault d a1) := by
  unfold Mo_fault
  refine z_aload_n (pc := 0) hC 0 rfl 0 rfl dX6_fault_0 ?_
  refine z_iconst (pc := 1) hC (0 : Int32) rfl dX6_fault_1 ?_
  refine zs_puti (pc := 2) hC (hk 34 rfl) f_34_2 q1272 dX6_fault_2 (fun d1 => ?_)
  refine z_iload_n (pc := 5) hC 1 rfl 1 rfl dX6_fault_5 ?_
  refine z_if_ne (pc := 6) hC 16 rfl dX6_fault_6 ?_ ?_
  · refine z_iload_n (pc := 16) hC 1 rfl 1 rfl dX6_fault_16 ?_
    refine z_iconst (pc := 17) hC (1 : Int32) rfl dX6_fault_17 ?_
    refine z_icmp_ne (pc := 18) hC 28 rfl dX6_fault_18 ?_ ?_
    · refine z_iconst (pc := 28) hC (-1 : Int32) rfl dX6_fault_28 ?_
      exact z_iret (pc := 29) hC rfl dX6_fault_29
    · refine z_aload_n (pc := 21) hC 0 rfl 0 rfl dX6_fault_21 ?_
      refine zs_geti (pc := 22) hC (hk 34 rfl) f_34_5 q1275 dX6_fault_22 ?_
      refine z_goto (pc := 25) hC 29 rfl dX6_fault_25 ?_
      exact z_iret (pc := 29) hC rfl dX6_fault_29
  · refine z_aload_n (pc := 9) hC 0 rfl 0 rfl dX6_fault_9 ?_
    refine zs_geti (pc := 10) hC (hk 34 rfl) f_34_4 q1274 dX6_fault_10 ?_
    refine z_goto (pc := 13) hC 29 rfl dX6_fault_13 ?_
    exact z_iret (pc := 29) hC rfl dX6_fault_29
theorem c_X6_fault {G : Geo} {M : Mem} {k : Nat} (hG : GOk G) (hk : LMo G k) {d : Sl} {a1 : Int32} (l : Launch) (r : Int32) (d1 : Sl) (h : Mo_fault d a1 = some (r, d1)) : Mt l yX6_fault cX6_fault 2 (some .int) rm_X6_fault G [.inr (k, 34), .inl (.int a1)] ((setS M k) d) (avI r) ((setS M k) d1) :=
  mt_of (mem := (setS M k)) (po := poM avI (setS M k)) (x0 := d) (t := (r, d1)) rfl hG [.inr (k, 34), .inl (.int a1)] (Nat.le_of_ble_eq_true rfl) rfl (fun C hC => r_Mo_fault hC hk d a1) h
-- FrameHeirsModel.named(I)I
abbrev rm_X6_named : Room := { frames := 1, cells := 0, slots := 0, locals := 24 }
theorem dX6_named_0 : decode cX6_named 0 = .ok (.aload_n 0, 1) := by decide +kernel
theorem dX6_named_1 : decode cX6_named 1 = .ok (.iconst 0, 1) := by decide +kernel
theorem dX6_named_2 : decode cX6_named 2 = .ok (.putfield 61, 3) := by decide +kernel
theorem dX6_named_5 : decode cX6_named 5 = .ok (.aload_n 0, 1) := by decide +kernel
theorem dX6_named_6 : decode cX6_named 6 = .ok (.iconst 0, 1) := by decide +kernel
theorem dX6_named_7 : decode cX6_named 7 = .ok (.aload_n 0, 1) := by decide +kernel
theorem dX6_named_8 : decode cX6_named 8 = .ok (.getfield 106, 3) := by decide +kernel
theorem dX6_named_11 : decode cX6_named 11 = .ok (.iload_n 1, 1) := by decide +kernel
theorem dX6_named_12 : decode cX6_named 12 = .ok (.invokevirtual 147, 3) := by decide +kernel
theorem dX6_named_15 : decode cX6_named 15 = .ok (.ireturn, 1) := by decide +kernel
def Mo_named (d : Sl) (a1 : Int32) : Option (Int32 × Sl) :=
  bnd (wr d 34 2 (0 : Int32)) fun d1 =>
  bp (Mo_find d1 (0 : Int32) (d1 34 11) a1) fun r2 =>
  some (r2, d1)
theorem y_X6_named : YV yX6_named cX6_named 2 (some .int) 1 := ⟨q1465, q1466, q1467, q149, by decide +kernel, by decide +kernel, by decide +kernel, by decide +kernel⟩
theorem r_Mo_named {C : Cxt} {G : Geo} {M : Mem} {k : Nat} (hC : Cx C cX6_named 2 "FrameHeirsModel" (some .int) rm_X6_named G) (hk : LMo G k) (d : Sl) (a1 : Int32) : Rz C 2 G (setS M k) (poM avI (setS M k)) 0 [(0, .inr (k, 34)), (1, .inl (.int a1))] [] d (Mo_named d a1) := by
  unfold Mo_named
  refine z_aload_n (pc := 0) hC 0 rfl 0 rfl dX6_named_0 ?_
  refine z_iconst (pc := 1) hC (0 : Int32) rfl dX6_named_1 ?_
  refine zs_puti (pc := 2) hC (hk 34 rfl) f_34_2 q1272 dX6_named_2 (fun d1 => ?_)
  refine z_aload_n (pc := 5) hC 0 rfl 0 rfl dX6_named_5 ?_
  refine z_iconst (pc := 6) hC (0 : Int32) rfl dX6_named_6 ?_
  refine z_aload_n (pc := 7) hC 0 rfl 0 rfl dX6_named_7 ?_
  refine zs_geti (pc := 8) hC (hk 34 rfl) f_34_11 q1281 dX6_named_8 ?_
  refine z_iload_n (pc := 11) hC 1 rfl 1 rfl dX6_named_11 ?_
  refine z_piV (pc := 12) (st := []) hC y_X6_find q1413 [.inl (.int (0 : Int32)), .inl (.int (d1 34 11)), .inl (.int a1)] rfl (hk 34 rfl) rfl rfl (c_X6_find hC.2.2.2.2.2.2.1 hk) rfl ⟨rfl, rfl, (Nat.le_of_ble_eq_true rfl), (Nat.le_of_ble_eq_true rfl)⟩ (Nat.le_of_ble_eq_true rfl) dX6_named_12 (fun r2 => ?_)
  exact z_iret (pc := 15) hC rfl dX6_named_15
theorem c_X6_named {G : Geo} {M : Mem} {k : Nat} (hG : GOk G) (hk : LMo G k) {d : Sl} {a1 : Int32} (l : Launch) (r : Int32) (d1 : Sl) (h : Mo_named d a1 = some (r, d1)) : Mt l yX6_named cX6_named 2 (some .int) rm_X6_named G [.inr (k, 34), .inl (.int a1)] ((setS M k) d) (avI r) ((setS M k) d1) :=
  mt_of (mem := (setS M k)) (po := poM avI (setS M k)) (x0 := d) (t := (r, d1)) rfl hG [.inr (k, 34), .inl (.int a1)] (Nat.le_of_ble_eq_true rfl) rfl (fun C hC => r_Mo_named hC hk d a1) h
-- FrameHeirsModel.more(I)V
abbrev rm_X6_more : Room := { frames := 1, cells := 0, slots := 0, locals := 22 }
theorem dX6_more_0 : decode cX6_more 0 = .ok (.aload_n 0, 1) := by decide +kernel
theorem dX6_more_1 : decode cX6_more 1 = .ok (.iload_n 1, 1) := by decide +kernel
theorem dX6_more_2 : decode cX6_more 2 = .ok (.aload_n 0, 1) := by decide +kernel
theorem dX6_more_3 : decode cX6_more 3 = .ok (.iload_n 1, 1) := by decide +kernel
theorem dX6_more_4 : decode cX6_more 4 = .ok (.invokevirtual 189, 3) := by decide +kernel
theorem dX6_more_7 : decode cX6_more 7 = .ok (.iconst 1, 1) := by decide +kernel
theorem dX6_more_8 : decode cX6_more 8 = .ok (.iadd, 1) := by decide +kernel
theorem dX6_more_9 : decode cX6_more 9 = .ok (.invokevirtual 122, 3) := by decide +kernel
theorem dX6_more_12 : decode cX6_more 12 = .ok (.return_, 1) := by decide +kernel
def Mo_more (d : Sl) (a1 : Int32) : Option (Unit × Sl) :=
  bp (Mo_of d a1) fun r1 =>
  bd (Mo_lay d a1 (r1 + (1 : Int32))) fun r2 d3 =>
  some ((), d3)
theorem y_X6_more : YV yX6_more cX6_more 2 none 1 := ⟨q1598, q97, q1599, q149, by decide +kernel, by decide +kernel, by decide +kernel, by decide +kernel⟩
theorem r_Mo_more {C : Cxt} {G : Geo} {M : Mem} {k : Nat} (hC : Cx C cX6_more 2 "FrameHeirsModel" none rm_X6_more G) (hk : LMo G k) (d : Sl) (a1 : Int32) : Rz C 2 G (setS M k) (poM avV (setS M k)) 0 [(0, .inr (k, 34)), (1, .inl (.int a1))] [] d (Mo_more d a1) := by
  unfold Mo_more
  refine z_aload_n (pc := 0) hC 0 rfl 0 rfl dX6_more_0 ?_
  refine z_iload_n (pc := 1) hC 1 rfl 1 rfl dX6_more_1 ?_
  refine z_aload_n (pc := 2) hC 0 rfl 0 rfl dX6_more_2 ?_
  refine z_iload_n (pc := 3) hC 1 rfl 1 rfl dX6_more_3 ?_
  refine z_piV (pc := 4) (st := [.inl (.int a1), .inr (k, 34)]) hC y_X6_of q1262 [.inl (.int a1)] rfl (hk 34 rfl) rfl rfl (c_X6_of hC.2.2.2.2.2.2.1 hk) rfl ⟨rfl, rfl, (Nat.le_of_ble_eq_true rfl), (Nat.le_of_ble_eq_true rfl)⟩ (Nat.le_of_ble_eq_true rfl) dX6_more_4 (fun r1 => ?_)
  refine z_iconst (pc := 7) hC (1 : Int32) rfl dX6_more_7 ?_
  refine z_iadd (pc := 8) hC dX6_more_8 ?_
  refine z_cvV (pc := 9) (st := []) hC y_X6_lay q1246 [.inl (.int a1), .inl (.int (r1 + (1 : Int32)))] rfl (hk 34 rfl) rfl rfl (c_X6_lay hC.2.2.2.2.2.2.1 hk) rfl ⟨rfl, rfl, (Nat.le_of_ble_eq_true rfl), (Nat.le_of_ble_eq_true rfl)⟩ (Nat.le_of_ble_eq_true rfl) dX6_more_9 (fun r2 d3 => ?_)
  exact z_vret (pc := 12) hC rfl dX6_more_12
theorem c_X6_more {G : Geo} {M : Mem} {k : Nat} (hG : GOk G) (hk : LMo G k) {d : Sl} {a1 : Int32} (l : Launch) (r : Unit) (d1 : Sl) (h : Mo_more d a1 = some (r, d1)) : Mt l yX6_more cX6_more 2 none rm_X6_more G [.inr (k, 34), .inl (.int a1)] ((setS M k) d) (avV r) ((setS M k) d1) :=
  mt_of (mem := (setS M k)) (po := poM avV (setS M k)) (x0 := d) (t := (r, d1)) rfl hG [.inr (k, 34), .inl (.int a1)] (Nat.le_of_ble_eq_true rfl) rfl (fun C hC => r_Mo_more hC hk d a1) h
-- FrameHeirsModel.copyBank(II)V
abbrev rm_X6_copyBank : Room := { frames := 0, cells := 0, slots := 0, locals := 0 }
theorem dX6_copyBank_0 : decode cX6_copyBank 0 = .ok (.iconst 0, 1) := by decide +kernel
theorem dX6_copyBank_1 : decode cX6_copyBank 1 = .ok (.istore_n 3, 1) := by decide +kernel
theorem dX6_copyBank_2 : decode cX6_copyBank 2 = .ok (.iload_n 3, 1) := by decide +kernel
theorem dX6_copyBank_3 : decode cX6_copyBank 3 = .ok (.sipush 2227, 3) := by decide +kernel
theorem dX6_copyBank_6 : decode cX6_copyBank 6 = .ok (.if_icmp .ge 33, 3) := by decide +kernel
theorem dX6_copyBank_9 : decode cX6_copyBank 9 = .ok (.aload_n 0, 1) := by decide +kernel
theorem dX6_copyBank_10 : decode cX6_copyBank 10 = .ok (.getfield 46, 3) := by decide +kernel
theorem dX6_copyBank_13 : decode cX6_copyBank 13 = .ok (.sipush 2227, 3) := by decide +kernel
theorem dX6_copyBank_16 : decode cX6_copyBank 16 = .ok (.iload_n 2, 1) := by decide +kernel
theorem dX6_copyBank_17 : decode cX6_copyBank 17 = .ok (.imul, 1) := by decide +kernel
theorem dX6_copyBank_18 : decode cX6_copyBank 18 = .ok (.iload_n 3, 1) := by decide +kernel
theorem dX6_copyBank_19 : decode cX6_copyBank 19 = .ok (.iadd, 1) := by decide +kernel
theorem dX6_copyBank_20 : decode cX6_copyBank 20 = .ok (.aload_n 0, 1) := by decide +kernel
theorem dX6_copyBank_21 : decode cX6_copyBank 21 = .ok (.getfield 46, 3) := by decide +kernel
theorem dX6_copyBank_24 : decode cX6_copyBank 24 = .ok (.sipush 2227, 3) := by decide +kernel
theorem dX6_copyBank_27 : decode cX6_copyBank 27 = .ok (.iload_n 1, 1) := by decide +kernel
theorem dX6_copyBank_28 : decode cX6_copyBank 28 = .ok (.imul, 1) := by decide +kernel
theorem dX6_copyBank_29 : decode cX6_copyBank 29 = .ok (.iload_n 3, 1) := by decide +kernel
theorem dX6_copyBank_30 : decode cX6_copyBank 30 = .ok (.iadd, 1) := by decide +kernel
theorem dX6_copyBank_31 : decode cX6_copyBank 31 = .ok (.iaload, 1) := by decide +kernel
theorem dX6_copyBank_32 : decode cX6_copyBank 32 = .ok (.iastore, 1) := by decide +kernel
theorem dX6_copyBank_33 : decode cX6_copyBank 33 = .ok (.iinc 3 1, 3) := by decide +kernel
theorem dX6_copyBank_36 : decode cX6_copyBank 36 = .ok (.goto (-34), 3) := by decide +kernel
theorem dX6_copyBank_39 : decode cX6_copyBank 39 = .ok (.return_, 1) := by decide +kernel
def Mo_copyBank_2 : Nat → Int32 → Int32 → Int32 → Sl → Option (Unit × Sl)
  | 0, _, _, _, _ => none
  | n + 1, v1, v2, v3, d =>
    if (2227 : Int32) ≤ v3 then
      (some ((), d))
    else
      (if inb (((2227 : Int32) * v1) + v3) 48994 then
      if inb (((2227 : Int32) * v2) + v3) 48994 then
      bnd (wr d 45 (ix (((2227 : Int32) * v2) + v3)) (d 45 (ix (((2227 : Int32) * v1) + v3)))) fun d1 =>
      bnd (v3 + (1 : Int32)) fun v3_2 =>
      Mo_copyBank_2 n v1 v2 v3_2 d1
      else none
      else none)
def Mo_copyBank (d : Sl) (a1 : Int32) (a2 : Int32) : Option (Unit × Sl) :=
  bnd (0 : Int32) fun v3_3 =>
  Mo_copyBank_2 FU a1 a2 v3_3 d
theorem y_X6_copyBank : YV yX6_copyBank cX6_copyBank 4 none 2 := ⟨q1474, q68, q1475, q149, by decide +kernel, by decide +kernel, by decide +kernel, by decide +kernel⟩
theorem r_Mo_copyBank_2 {C : Cxt} {G : Geo} {M : Mem} {k : Nat} (hC : Cx C cX6_copyBank 4 "FrameHeirsModel" none rm_X6_copyBank G) (hk : LMo G k) : ∀ (n : Nat) (v1 : Int32) (v2 : Int32) (v3 : Int32) (d : Sl), Rz C 4 G (setS M k) (poM avV (setS M k)) 2 [(0, .inr (k, 34)), (1, .inl (.int v1)), (2, .inl (.int v2)), (3, .inl (.int v3))] [] d (Mo_copyBank_2 n v1 v2 v3 d) := by
  intro n
  induction n with
  | zero => intros; exact z_none
  | succ n ih =>
    intro v1 v2 v3 d
    rw [Mo_copyBank_2]
    refine z_iload_n (pc := 2) hC 3 rfl 3 rfl dX6_copyBank_2 ?_
    refine z_sipush (pc := 3) hC (2227 : Int32) rfl dX6_copyBank_3 ?_
    refine z_icmp_ge (pc := 6) hC 39 rfl dX6_copyBank_6 ?_ ?_
    · exact z_vret (pc := 39) hC rfl dX6_copyBank_39
    · refine z_aload_n (pc := 9) hC 0 rfl 0 rfl dX6_copyBank_9 ?_
      refine z_getc (pc := 10) hC (hk 34 rfl) f_34_24 q1294 dX6_copyBank_10 ?_
      refine z_sipush (pc := 13) hC (2227 : Int32) rfl dX6_copyBank_13 ?_
      refine z_iload_n (pc := 16) hC 2 rfl 2 rfl dX6_copyBank_16 ?_
      refine z_imul (pc := 17) hC dX6_copyBank_17 ?_
      refine z_iload_n (pc := 18) hC 3 rfl 3 rfl dX6_copyBank_18 ?_
      refine z_iadd (pc := 19) hC dX6_copyBank_19 ?_
      refine z_aload_n (pc := 20) hC 0 rfl 0 rfl dX6_copyBank_20 ?_
      refine z_getc (pc := 21) hC (hk 34 rfl) f_34_24 q1294 dX6_copyBank_21 ?_
      refine z_sipush (pc := 24) hC (2227 : Int32) rfl dX6_copyBank_24 ?_
      refine z_iload_n (pc := 27) hC 1 rfl 1 rfl dX6_copyBank_27 ?_
      refine z_imul (pc := 28) hC dX6_copyBank_28 ?_
      refine z_iload_n (pc := 29) hC 3 rfl 3 rfl dX6_copyBank_29 ?_
      refine z_iadd (pc := 30) hC dX6_copyBank_30 ?_
      refine zs_iald (pc := 31) hC (hk 45 rfl) rfl dX6_copyBank_31 ?_
      refine zs_iast (pc := 32) hC (hk 45 rfl) (by decide) rfl dX6_copyBank_32 (fun d1 => ?_)
      refine z_iinc (pc := 33) (ls1 := fun v => [(3, .inl (.int v)), (0, .inr (k, 34)), (1, .inl (.int v1)), (2, .inl (.int v2))]) hC 3 3 (by decide) (1 : Int32) rfl rfl (fun v => rfl) dX6_copyBank_33 (fun v3_2 => ?_)
      refine z_goto (pc := 36) hC 2 rfl dX6_copyBank_36 ?_
      exact z_sub [1, 2, 3, 0] rfl (ih v1 v2 v3_2 d1)
theorem r_Mo_copyBank {C : Cxt} {G : Geo} {M : Mem} {k : Nat} (hC : Cx C cX6_copyBank 4 "FrameHeirsModel" none rm_X6_copyBank G) (hk : LMo G k) (d : Sl) (a1 : Int32) (a2 : Int32) : Rz C 4 G (setS M k) (poM avV (setS M k)) 0 [(0, .inr (k, 34)), (1, .inl (.int a1)), (2, .inl (.int a2))] [] d (Mo_copyBank d a1 a2) := by
  unfold Mo_copyBank
  refine z_iconst (pc := 0) hC (0 : Int32) rfl dX6_copyBank_0 ?_
  refine z_istore_n (pc := 1) (ls1 := fun v => [(3, .inl (.int v)), (0, .inr (k, 34)), (1, .inl (.int a1)), (2, .inl (.int a2))]) hC 3 rfl (by decide) (fun v => rfl) dX6_copyBank_1 (fun v3_3 => ?_)
  exact z_sub [1, 2, 3, 0] rfl (r_Mo_copyBank_2 hC hk FU a1 a2 v3_3 d)
theorem c_X6_copyBank {G : Geo} {M : Mem} {k : Nat} (hG : GOk G) (hk : LMo G k) {d : Sl} {a1 : Int32} {a2 : Int32} (l : Launch) (r : Unit) (d1 : Sl) (h : Mo_copyBank d a1 a2 = some (r, d1)) : Mt l yX6_copyBank cX6_copyBank 4 none rm_X6_copyBank G [.inr (k, 34), .inl (.int a1), .inl (.int a2)] ((setS M k) d) (avV r) ((setS M k) d1) :=
  mt_of (mem := (setS M k)) (po := poM avV (setS M k)) (x0 := d) (t := (r, d1)) rfl hG [.inr (k, 34), .inl (.int a1), .inl (.int a2)] (Nat.le_of_ble_eq_true rfl) rfl (fun C hC => r_Mo_copyBank hC hk d a1 a2) h
-- FrameHeirsModel.asNow()V
abbrev rm_X6_asNow : Room := { frames := 1, cells := 0, slots := 0, locals := 23 }
theorem dX6_asNow_0 : decode cX6_asNow 0 = .ok (.aload_n 0, 1) := by decide +kernel
theorem dX6_asNow_1 : decode cX6_asNow 1 = .ok (.iconst 0, 1) := by decide +kernel
theorem dX6_asNow_2 : decode cX6_asNow 2 = .ok (.iconst 1, 1) := by decide +kernel
theorem dX6_asNow_3 : decode cX6_asNow 3 = .ok (.invokevirtual 193, 3) := by decide +kernel
theorem dX6_asNow_6 : decode cX6_asNow 6 = .ok (.aload_n 0, 1) := by decide +kernel
theorem dX6_asNow_7 : decode cX6_asNow 7 = .ok (.iconst 1, 1) := by decide +kernel
theorem dX6_asNow_8 : decode cX6_asNow 8 = .ok (.putfield 116, 3) := by decide +kernel
theorem dX6_asNow_11 : decode cX6_asNow 11 = .ok (.return_, 1) := by decide +kernel
def Mo_asNow (d : Sl) : Option (Unit × Sl) :=
  bd (Mo_copyBank d (0 : Int32) (1 : Int32)) fun r1 d2 =>
  bnd (wr d2 34 25 (1 : Int32)) fun d3 =>
  some ((), d3)
theorem y_X6_asNow : YV yX6_asNow cX6_asNow 1 none 0 := ⟨q1892, q138, q1893, q149, by decide +kernel, by decide +kernel, by decide +kernel, by decide +kernel⟩
theorem r_Mo_asNow {C : Cxt} {G : Geo} {M : Mem} {k : Nat} (hC : Cx C cX6_asNow 1 "FrameHeirsModel" none rm_X6_asNow G) (hk : LMo G k) (d : Sl) : Rz C 1 G (setS M k) (poM avV (setS M k)) 0 [(0, .inr (k, 34))] [] d (Mo_asNow d) := by
  unfold Mo_asNow
  refine z_aload_n (pc := 0) hC 0 rfl 0 rfl dX6_asNow_0 ?_
  refine z_iconst (pc := 1) hC (0 : Int32) rfl dX6_asNow_1 ?_
  refine z_iconst (pc := 2) hC (1 : Int32) rfl dX6_asNow_2 ?_
  refine z_cvV (pc := 3) (st := []) hC y_X6_copyBank q1472 [.inl (.int (0 : Int32)), .inl (.int (1 : Int32))] rfl (hk 34 rfl) rfl rfl (c_X6_copyBank hC.2.2.2.2.2.2.1 hk) rfl ⟨rfl, rfl, (Nat.le_of_ble_eq_true rfl), (Nat.le_of_ble_eq_true rfl)⟩ (Nat.le_of_ble_eq_true rfl) dX6_asNow_3 (fun r1 d2 => ?_)
  refine z_aload_n (pc := 6) hC 0 rfl 0 rfl dX6_asNow_6 ?_
  refine z_iconst (pc := 7) hC (1 : Int32) rfl dX6_asNow_7 ?_
  refine zs_puti (pc := 8) hC (hk 34 rfl) f_34_25 q1295 dX6_asNow_8 (fun d3 => ?_)
  exact z_vret (pc := 11) hC rfl dX6_asNow_11
theorem c_X6_asNow {G : Geo} {M : Mem} {k : Nat} (hG : GOk G) (hk : LMo G k) {d : Sl} (l : Launch) (r : Unit) (d1 : Sl) (h : Mo_asNow d = some (r, d1)) : Mt l yX6_asNow cX6_asNow 1 none rm_X6_asNow G [.inr (k, 34)] ((setS M k) d) (avV r) ((setS M k) d1) :=
  mt_of (mem := (setS M k)) (po := poM avV (setS M k)) (x0 := d) (t := (r, d1)) rfl hG [.inr (k, 34)] (Nat.le_of_ble_eq_true rfl) rfl (fun C hC => r_Mo_asNow hC hk d) h
-- FrameHeirsModel.canUndo()V
abbrev rm_X6_canUndo : Room := { frames := 1, cells := 0, slots := 0, locals := 23 }
theorem dX6_canUndo_0 : decode cX6_canUndo 0 = .ok (.aload_n 0, 1) := by decide +kernel
theorem dX6_canUndo_1 : decode cX6_canUndo 1 = .ok (.getfield 119, 3) := by decide +kernel
theorem dX6_canUndo_4 : decode cX6_canUndo 4 = .ok (.bipush 20, 2) := by decide +kernel
theorem dX6_canUndo_6 : decode cX6_canUndo 6 = .ok (.if_icmp .ne 33, 3) := by decide +kernel
theorem dX6_canUndo_9 : decode cX6_canUndo 9 = .ok (.iconst 1, 1) := by decide +kernel
theorem dX6_canUndo_10 : decode cX6_canUndo 10 = .ok (.istore_n 1, 1) := by decide +kernel
theorem dX6_canUndo_11 : decode cX6_canUndo 11 = .ok (.iload_n 1, 1) := by decide +kernel
theorem dX6_canUndo_12 : decode cX6_canUndo 12 = .ok (.bipush 20, 2) := by decide +kernel
theorem dX6_canUndo_14 : decode cX6_canUndo 14 = .ok (.if_icmp .ge 19, 3) := by decide +kernel
theorem dX6_canUndo_17 : decode cX6_canUndo 17 = .ok (.aload_n 0, 1) := by decide +kernel
theorem dX6_canUndo_18 : decode cX6_canUndo 18 = .ok (.iconst 2, 1) := by decide +kernel
theorem dX6_canUndo_19 : decode cX6_canUndo 19 = .ok (.iload_n 1, 1) := by decide +kernel
theorem dX6_canUndo_20 : decode cX6_canUndo 20 = .ok (.iadd, 1) := by decide +kernel
theorem dX6_canUndo_21 : decode cX6_canUndo 21 = .ok (.iconst 1, 1) := by decide +kernel
theorem dX6_canUndo_22 : decode cX6_canUndo 22 = .ok (.iload_n 1, 1) := by decide +kernel
theorem dX6_canUndo_23 : decode cX6_canUndo 23 = .ok (.iadd, 1) := by decide +kernel
theorem dX6_canUndo_24 : decode cX6_canUndo 24 = .ok (.invokevirtual 193, 3) := by decide +kernel
theorem dX6_canUndo_27 : decode cX6_canUndo 27 = .ok (.iinc 1 1, 3) := by decide +kernel
theorem dX6_canUndo_30 : decode cX6_canUndo 30 = .ok (.goto (-19), 3) := by decide +kernel
theorem dX6_canUndo_33 : decode cX6_canUndo 33 = .ok (.aload_n 0, 1) := by decide +kernel
theorem dX6_canUndo_34 : decode cX6_canUndo 34 = .ok (.bipush 19, 2) := by decide +kernel
theorem dX6_canUndo_36 : decode cX6_canUndo 36 = .ok (.putfield 119, 3) := by decide +kernel
theorem dX6_canUndo_39 : decode cX6_canUndo 39 = .ok (.aload_n 0, 1) := by decide +kernel
theorem dX6_canUndo_40 : decode cX6_canUndo 40 = .ok (.iconst 0, 1) := by decide +kernel
theorem dX6_canUndo_41 : decode cX6_canUndo 41 = .ok (.iconst 2, 1) := by decide +kernel
theorem dX6_canUndo_42 : decode cX6_canUndo 42 = .ok (.aload_n 0, 1) := by decide +kernel
theorem dX6_canUndo_43 : decode cX6_canUndo 43 = .ok (.getfield 119, 3) := by decide +kernel
theorem dX6_canUndo_46 : decode cX6_canUndo 46 = .ok (.iadd, 1) := by decide +kernel
theorem dX6_canUndo_47 : decode cX6_canUndo 47 = .ok (.invokevirtual 193, 3) := by decide +kernel
theorem dX6_canUndo_50 : decode cX6_canUndo 50 = .ok (.aload_n 0, 1) := by decide +kernel
theorem dX6_canUndo_51 : decode cX6_canUndo 51 = .ok (.dup, 1) := by decide +kernel
theorem dX6_canUndo_52 : decode cX6_canUndo 52 = .ok (.getfield 119, 3) := by decide +kernel
theorem dX6_canUndo_55 : decode cX6_canUndo 55 = .ok (.iconst 1, 1) := by decide +kernel
theorem dX6_canUndo_56 : decode cX6_canUndo 56 = .ok (.iadd, 1) := by decide +kernel
theorem dX6_canUndo_57 : decode cX6_canUndo 57 = .ok (.putfield 119, 3) := by decide +kernel
theorem dX6_canUndo_60 : decode cX6_canUndo 60 = .ok (.return_, 1) := by decide +kernel
def Mo_canUndo_39 (d : Sl) : Option (Unit × Sl) :=
  bd (Mo_copyBank d (0 : Int32) ((2 : Int32) + (d 34 26))) fun r1 d2 =>
  bnd (wr d2 34 26 ((d2 34 26) + (1 : Int32))) fun d3 =>
  some ((), d3)
def Mo_canUndo_11 : Nat → Int32 → Sl → Option (Unit × Sl)
  | 0, _, _ => none
  | n + 1, v1, d =>
    if (20 : Int32) ≤ v1 then
      (bnd (wr d 34 26 (19 : Int32)) fun d4 =>
      Mo_canUndo_39 d4)
    else
      (bd (Mo_copyBank d ((2 : Int32) + v1) ((1 : Int32) + v1)) fun r5 d6 =>
      bnd (v1 + (1 : Int32)) fun v1_7 =>
      Mo_canUndo_11 n v1_7 d6)
def Mo_canUndo (d : Sl) : Option (Unit × Sl) :=
  if (d 34 26) = (20 : Int32) then
    (bnd (1 : Int32) fun v1_8 =>
    Mo_canUndo_11 FU v1_8 d)
  else
    (Mo_canUndo_39 d)
theorem y_X6_canUndo : YV yX6_canUndo cX6_canUndo 2 none 0 := ⟨q1502, q74, q1503, q149, by decide +kernel, by decide +kernel, by decide +kernel, by decide +kernel⟩
theorem r_Mo_canUndo_39 {C : Cxt} {G : Geo} {M : Mem} {k : Nat} (hC : Cx C cX6_canUndo 2 "FrameHeirsModel" none rm_X6_canUndo G) (hk : LMo G k) (d : Sl) : Rz C 2 G (setS M k) (poM avV (setS M k)) 39 [(0, .inr (k, 34))] [] d (Mo_canUndo_39 d) := by
  unfold Mo_canUndo_39
  refine z_aload_n (pc := 39) hC 0 rfl 0 rfl dX6_canUndo_39 ?_
  refine z_iconst (pc := 40) hC (0 : Int32) rfl dX6_canUndo_40 ?_
  refine z_iconst (pc := 41) hC (2 : Int32) rfl dX6_canUndo_41 ?_
  refine z_aload_n (pc := 42) hC 0 rfl 0 rfl dX6_canUndo_42 ?_
  refine zs_geti (pc := 43) hC (hk 34 rfl) f_34_26 q1296 dX6_canUndo_43 ?_
  refine z_iadd (pc := 46) hC dX6_canUndo_46 ?_
  refine z_cvV (pc := 47) (st := []) hC y_X6_copyBank q1472 [.inl (.int (0 : Int32)), .inl (.int ((2 : Int32) + (d 34 26)))] rfl (hk 34 rfl) rfl rfl (c_X6_copyBank hC.2.2.2.2.2.2.1 hk) rfl ⟨rfl, rfl, (Nat.le_of_ble_eq_true rfl), (Nat.le_of_ble_eq_true rfl)⟩ (Nat.le_of_ble_eq_true rfl) dX6_canUndo_47 (fun r1 d2 => ?_)
  refine z_aload_n (pc := 50) hC 0 rfl 0 rfl dX6_canUndo_50 ?_
  refine z_dup (pc := 51) hC rfl dX6_canUndo_51 ?_
  refine zs_geti (pc := 52) hC (hk 34 rfl) f_34_26 q1296 dX6_canUndo_52 ?_
  refine z_iconst (pc := 55) hC (1 : Int32) rfl dX6_canUndo_55 ?_
  refine z_iadd (pc := 56) hC dX6_canUndo_56 ?_
  refine zs_puti (pc := 57) hC (hk 34 rfl) f_34_26 q1296 dX6_canUndo_57 (fun d3 => ?_)
  exact z_vret (pc := 60) hC rfl dX6_canUndo_60
theorem r_Mo_canUndo_11 {C : Cxt} {G : Geo} {M : Mem} {k : Nat} (hC : Cx C cX6_canUndo 2 "FrameHeirsModel" none rm_X6_canUndo G) (hk : LMo G k) : ∀ (n : Nat) (v1 : Int32) (d : Sl), Rz C 2 G (setS M k) (poM avV (setS M k)) 11 [(0, .inr (k, 34)), (1, .inl (.int v1))] [] d (Mo_canUndo_11 n v1 d) := by
  intro n
  induction n with
  | zero => intros; exact z_none
  | succ n ih =>
    intro v1 d
    rw [Mo_canUndo_11]
    refine z_iload_n (pc := 11) hC 1 rfl 1 rfl dX6_canUndo_11 ?_
    refine z_bipush (pc := 12) hC (20 : Int32) rfl dX6_canUndo_12 ?_
    refine z_icmp_ge (pc := 14) hC 33 rfl dX6_canUndo_14 ?_ ?_
    · refine z_aload_n (pc := 33) hC 0 rfl 0 rfl dX6_canUndo_33 ?_
      refine z_bipush (pc := 34) hC (19 : Int32) rfl dX6_canUndo_34 ?_
      refine zs_puti (pc := 36) hC (hk 34 rfl) f_34_26 q1296 dX6_canUndo_36 (fun d4 => ?_)
      exact z_sub [0] rfl (r_Mo_canUndo_39 hC hk d4)
    · refine z_aload_n (pc := 17) hC 0 rfl 0 rfl dX6_canUndo_17 ?_
      refine z_iconst (pc := 18) hC (2 : Int32) rfl dX6_canUndo_18 ?_
      refine z_iload_n (pc := 19) hC 1 rfl 1 rfl dX6_canUndo_19 ?_
      refine z_iadd (pc := 20) hC dX6_canUndo_20 ?_
      refine z_iconst (pc := 21) hC (1 : Int32) rfl dX6_canUndo_21 ?_
      refine z_iload_n (pc := 22) hC 1 rfl 1 rfl dX6_canUndo_22 ?_
      refine z_iadd (pc := 23) hC dX6_canUndo_23 ?_
      refine z_cvV (pc := 24) (st := []) hC y_X6_copyBank q1472 [.inl (.int ((2 : Int32) + v1)), .inl (.int ((1 : Int32) + v1))] rfl (hk 34 rfl) rfl rfl (c_X6_copyBank hC.2.2.2.2.2.2.1 hk) rfl ⟨rfl, rfl, (Nat.le_of_ble_eq_true rfl), (Nat.le_of_ble_eq_true rfl)⟩ (Nat.le_of_ble_eq_true rfl) dX6_canUndo_24 (fun r5 d6 => ?_)
      refine z_iinc (pc := 27) (ls1 := fun v => [(1, .inl (.int v)), (0, .inr (k, 34))]) hC 1 1 (by decide) (1 : Int32) rfl rfl (fun v => rfl) dX6_canUndo_27 (fun v1_7 => ?_)
      refine z_goto (pc := 30) hC 11 rfl dX6_canUndo_30 ?_
      exact z_sub [1, 0] rfl (ih v1_7 d6)
theorem r_Mo_canUndo {C : Cxt} {G : Geo} {M : Mem} {k : Nat} (hC : Cx C cX6_canUndo 2 "FrameHeirsModel" none rm_X6_canUndo G) (hk : LMo G k) (d : Sl) : Rz C 2 G (setS M k) (poM avV (setS M k)) 0 [(0, .inr (k, 34))] [] d (Mo_canUndo d) := by
  unfold Mo_canUndo
  refine z_aload_n (pc := 0) hC 0 rfl 0 rfl dX6_canUndo_0 ?_
  refine zs_geti (pc := 1) hC (hk 34 rfl) f_34_26 q1296 dX6_canUndo_1 ?_
  refine z_bipush (pc := 4) hC (20 : Int32) rfl dX6_canUndo_4 ?_
  refine z_icmp_ne (pc := 6) hC 39 rfl dX6_canUndo_6 ?_ ?_
  · exact z_sub [0] rfl (r_Mo_canUndo_39 hC hk d)
  · refine z_iconst (pc := 9) hC (1 : Int32) rfl dX6_canUndo_9 ?_
    refine z_istore_n (pc := 10) (ls1 := fun v => [(1, .inl (.int v)), (0, .inr (k, 34))]) hC 1 rfl (by decide) (fun v => rfl) dX6_canUndo_10 (fun v1_8 => ?_)
    exact z_sub [1, 0] rfl (r_Mo_canUndo_11 hC hk FU v1_8 d)
theorem c_X6_canUndo {G : Geo} {M : Mem} {k : Nat} (hG : GOk G) (hk : LMo G k) {d : Sl} (l : Launch) (r : Unit) (d1 : Sl) (h : Mo_canUndo d = some (r, d1)) : Mt l yX6_canUndo cX6_canUndo 2 none rm_X6_canUndo G [.inr (k, 34)] ((setS M k) d) (avV r) ((setS M k) d1) :=
  mt_of (mem := (setS M k)) (po := poM avV (setS M k)) (x0 := d) (t := (r, d1)) rfl hG [.inr (k, 34)] (Nat.le_of_ble_eq_true rfl) rfl (fun C hC => r_Mo_canUndo hC hk d) h
-- FrameHeirsModel.undo()I
abbrev rm_X6_undo : Room := { frames := 1, cells := 0, slots := 0, locals := 23 }
theorem dX6_undo_0 : decode cX6_undo 0 = .ok (.aload_n 0, 1) := by decide +kernel
theorem dX6_undo_1 : decode cX6_undo 1 = .ok (.iconst 0, 1) := by decide +kernel
theorem dX6_undo_2 : decode cX6_undo 2 = .ok (.putfield 61, 3) := by decide +kernel
theorem dX6_undo_5 : decode cX6_undo 5 = .ok (.aload_n 0, 1) := by decide +kernel
theorem dX6_undo_6 : decode cX6_undo 6 = .ok (.getfield 119, 3) := by decide +kernel
theorem dX6_undo_9 : decode cX6_undo 9 = .ok (.ifCond .ne 5, 3) := by decide +kernel
theorem dX6_undo_12 : decode cX6_undo 12 = .ok (.iconst (-1), 1) := by decide +kernel
theorem dX6_undo_13 : decode cX6_undo 13 = .ok (.ireturn, 1) := by decide +kernel
theorem dX6_undo_14 : decode cX6_undo 14 = .ok (.aload_n 0, 1) := by decide +kernel
theorem dX6_undo_15 : decode cX6_undo 15 = .ok (.dup, 1) := by decide +kernel
theorem dX6_undo_16 : decode cX6_undo 16 = .ok (.getfield 119, 3) := by decide +kernel
theorem dX6_undo_19 : decode cX6_undo 19 = .ok (.iconst 1, 1) := by decide +kernel
theorem dX6_undo_20 : decode cX6_undo 20 = .ok (.isub, 1) := by decide +kernel
theorem dX6_undo_21 : decode cX6_undo 21 = .ok (.putfield 119, 3) := by decide +kernel
theorem dX6_undo_24 : decode cX6_undo 24 = .ok (.aload_n 0, 1) := by decide +kernel
theorem dX6_undo_25 : decode cX6_undo 25 = .ok (.iconst 2, 1) := by decide +kernel
theorem dX6_undo_26 : decode cX6_undo 26 = .ok (.aload_n 0, 1) := by decide +kernel
theorem dX6_undo_27 : decode cX6_undo 27 = .ok (.getfield 119, 3) := by decide +kernel
theorem dX6_undo_30 : decode cX6_undo 30 = .ok (.iadd, 1) := by decide +kernel
theorem dX6_undo_31 : decode cX6_undo 31 = .ok (.iconst 0, 1) := by decide +kernel
theorem dX6_undo_32 : decode cX6_undo 32 = .ok (.invokevirtual 193, 3) := by decide +kernel
theorem dX6_undo_35 : decode cX6_undo 35 = .ok (.aload_n 0, 1) := by decide +kernel
theorem dX6_undo_36 : decode cX6_undo 36 = .ok (.getfield 119, 3) := by decide +kernel
theorem dX6_undo_39 : decode cX6_undo 39 = .ok (.ireturn, 1) := by decide +kernel
def Mo_undo (d : Sl) : Option (Int32 × Sl) :=
  bnd (wr d 34 2 (0 : Int32)) fun d1 =>
  if (d1 34 26) = 0 then
    (some ((-1 : Int32), d1))
  else
    (bnd (wr d1 34 26 ((d1 34 26) - (1 : Int32))) fun d2 =>
    bd (Mo_copyBank d2 ((2 : Int32) + (d2 34 26)) (0 : Int32)) fun r3 d4 =>
    some ((d4 34 26), d4))
theorem y_X6_undo : YV yX6_undo cX6_undo 1 (some .int) 0 := ⟨q1469, q1470, q1471, q149, by decide +kernel, by decide +kernel, by decide +kernel, by decide +kernel⟩
theorem r_Mo_undo {C : Cxt} {G : Geo} {M : Mem} {k : Nat} (hC : Cx C cX6_undo 1 "FrameHeirsModel" (some .int) rm_X6_undo G) (hk : LMo G k) (d : Sl) : Rz C 1 G (setS M k) (poM avI (setS M k)) 0 [(0, .inr (k, 34))] [] d (Mo_undo d) := by
  unfold Mo_undo
  refine z_aload_n (pc := 0) hC 0 rfl 0 rfl dX6_undo_0 ?_
  refine z_iconst (pc := 1) hC (0 : Int32) rfl dX6_undo_1 ?_
  refine zs_puti (pc := 2) hC (hk 34 rfl) f_34_2 q1272 dX6_undo_2 (fun d1 => ?_)
  refine z_aload_n (pc := 5) hC 0 rfl 0 rfl dX6_undo_5 ?_
  refine zs_geti (pc := 6) hC (hk 34 rfl) f_34_26 q1296 dX6_undo_6 ?_
  refine z_if_ne (pc := 9) hC 14 rfl dX6_undo_9 ?_ ?_
  · refine z_aload_n (pc := 14) hC 0 rfl 0 rfl dX6_undo_14 ?_
    refine z_dup (pc := 15) hC rfl dX6_undo_15 ?_
    refine zs_geti (pc := 16) hC (hk 34 rfl) f_34_26 q1296 dX6_undo_16 ?_
    refine z_iconst (pc := 19) hC (1 : Int32) rfl dX6_undo_19 ?_
    refine z_isub (pc := 20) hC dX6_undo_20 ?_
    refine zs_puti (pc := 21) hC (hk 34 rfl) f_34_26 q1296 dX6_undo_21 (fun d2 => ?_)
    refine z_aload_n (pc := 24) hC 0 rfl 0 rfl dX6_undo_24 ?_
    refine z_iconst (pc := 25) hC (2 : Int32) rfl dX6_undo_25 ?_
    refine z_aload_n (pc := 26) hC 0 rfl 0 rfl dX6_undo_26 ?_
    refine zs_geti (pc := 27) hC (hk 34 rfl) f_34_26 q1296 dX6_undo_27 ?_
    refine z_iadd (pc := 30) hC dX6_undo_30 ?_
    refine z_iconst (pc := 31) hC (0 : Int32) rfl dX6_undo_31 ?_
    refine z_cvV (pc := 32) (st := []) hC y_X6_copyBank q1472 [.inl (.int ((2 : Int32) + (d2 34 26))), .inl (.int (0 : Int32))] rfl (hk 34 rfl) rfl rfl (c_X6_copyBank hC.2.2.2.2.2.2.1 hk) rfl ⟨rfl, rfl, (Nat.le_of_ble_eq_true rfl), (Nat.le_of_ble_eq_true rfl)⟩ (Nat.le_of_ble_eq_true rfl) dX6_undo_32 (fun r3 d4 => ?_)
    refine z_aload_n (pc := 35) hC 0 rfl 0 rfl dX6_undo_35 ?_
    refine zs_geti (pc := 36) hC (hk 34 rfl) f_34_26 q1296 dX6_undo_36 ?_
    exact z_iret (pc := 39) hC rfl dX6_undo_39
  · refine z_iconst (pc := 12) hC (-1 : Int32) rfl dX6_undo_12 ?_
    exact z_iret (pc := 13) hC rfl dX6_undo_13
theorem c_X6_undo {G : Geo} {M : Mem} {k : Nat} (hG : GOk G) (hk : LMo G k) {d : Sl} (l : Launch) (r : Int32) (d1 : Sl) (h : Mo_undo d = some (r, d1)) : Mt l yX6_undo cX6_undo 1 (some .int) rm_X6_undo G [.inr (k, 34)] ((setS M k) d) (avI r) ((setS M k) d1) :=
  mt_of (mem := (setS M k)) (po := poM avI (setS M k)) (x0 := d) (t := (r, d1)) rfl hG [.inr (k, 34)] (Nat.le_of_ble_eq_true rfl) rfl (fun C hC => r_Mo_undo hC hk d) h
-- FrameHeirsModel.isSpace(I)Z
abbrev rm_X6_isSpace : Room := { frames := 0, cells := 0, slots := 0, locals := 0 }
theorem dX6_isSpace_0 : decode cX6_isSpace 0 = .ok (.iload_n 1, 1) := by decide +kernel
theorem dX6_isSpace_1 : decode cX6_isSpace 1 = .ok (.ifCond .lt 15, 3) := by decide +kernel
theorem dX6_isSpace_4 : decode cX6_isSpace 4 = .ok (.iload_n 1, 1) := by decide +kernel
theorem dX6_isSpace_5 : decode cX6_isSpace 5 = .ok (.aload_n 0, 1) := by decide +kernel
theorem dX6_isSpace_6 : decode cX6_isSpace 6 = .ok (.getfield 106, 3) := by decide +kernel
theorem dX6_isSpace_9 : decode cX6_isSpace 9 = .ok (.if_icmp .ge 7, 3) := by decide +kernel
theorem dX6_isSpace_12 : decode cX6_isSpace 12 = .ok (.iconst 1, 1) := by decide +kernel
theorem dX6_isSpace_13 : decode cX6_isSpace 13 = .ok (.goto 4, 3) := by decide +kernel
theorem dX6_isSpace_16 : decode cX6_isSpace 16 = .ok (.iconst 0, 1) := by decide +kernel
theorem dX6_isSpace_17 : decode cX6_isSpace 17 = .ok (.ireturn, 1) := by decide +kernel
def Mo_isSpace (d : Sl) (a1 : Int32) : Option Int32 :=
  if a1 < 0 then
    (some (0 : Int32))
  else
    (if (d 34 11) ≤ a1 then
      (some (0 : Int32))
    else
      (some (1 : Int32)))
theorem y_X6_isSpace : YV yX6_isSpace cX6_isSpace 2 (some .boolean) 1 := ⟨q1486, q70, q1487, q149, by decide +kernel, by decide +kernel, by decide +kernel, by decide +kernel⟩
theorem r_Mo_isSpace {C : Cxt} {G : Geo} {M : Mem} {k : Nat} (hC : Cx C cX6_isSpace 2 "FrameHeirsModel" (some .boolean) rm_X6_isSpace G) (hk : LMo G k) (d : Sl) (a1 : Int32) : Rz C 2 G (setS M k) (poP avI ((setS M k) d)) 0 [(0, .inr (k, 34)), (1, .inl (.int a1))] [] d (Mo_isSpace d a1) := by
  unfold Mo_isSpace
  refine z_iload_n (pc := 0) hC 1 rfl 1 rfl dX6_isSpace_0 ?_
  refine z_if_lt (pc := 1) hC 16 rfl dX6_isSpace_1 ?_ ?_
  · refine z_iconst (pc := 16) hC (0 : Int32) rfl dX6_isSpace_16 ?_
    exact z_zret (pc := 17) hC rfl rfl dX6_isSpace_17
  · refine z_iload_n (pc := 4) hC 1 rfl 1 rfl dX6_isSpace_4 ?_
    refine z_aload_n (pc := 5) hC 0 rfl 0 rfl dX6_isSpace_5 ?_
    refine zs_geti (pc := 6) hC (hk 34 rfl) f_34_11 q1281 dX6_isSpace_6 ?_
    refine z_icmp_ge (pc := 9) hC 16 rfl dX6_isSpace_9 ?_ ?_
    · refine z_iconst (pc := 16) hC (0 : Int32) rfl dX6_isSpace_16 ?_
      exact z_zret (pc := 17) hC rfl rfl dX6_isSpace_17
    · refine z_iconst (pc := 12) hC (1 : Int32) rfl dX6_isSpace_12 ?_
      refine z_goto (pc := 13) hC 17 rfl dX6_isSpace_13 ?_
      exact z_zret (pc := 17) hC rfl rfl dX6_isSpace_17
theorem c_X6_isSpace {G : Geo} {M : Mem} {k : Nat} (hG : GOk G) (hk : LMo G k) {d : Sl} {a1 : Int32} (l : Launch) (r : Int32) (h : Mo_isSpace d a1 = some r) : Mt l yX6_isSpace cX6_isSpace 2 (some .boolean) rm_X6_isSpace G [.inr (k, 34), .inl (.int a1)] ((setS M k) d) (avI r) ((setS M k) d) :=
  mt_of (mem := (setS M k)) (po := poP avI ((setS M k) d)) (x0 := d) (t := r) rfl hG [.inr (k, 34), .inl (.int a1)] (Nat.le_of_ble_eq_true rfl) rfl (fun C hC => r_Mo_isSpace hC hk d a1) h
-- FrameHeirsModel.isPlace(I)Z
abbrev rm_X6_isPlace : Room := { frames := 1, cells := 0, slots := 0, locals := 20 }
theorem dX6_isPlace_0 : decode cX6_isPlace 0 = .ok (.iload_n 1, 1) := by decide +kernel
theorem dX6_isPlace_1 : decode cX6_isPlace 1 = .ok (.ifCond .lt 15, 3) := by decide +kernel
theorem dX6_isPlace_4 : decode cX6_isPlace 4 = .ok (.iload_n 1, 1) := by decide +kernel
theorem dX6_isPlace_5 : decode cX6_isPlace 5 = .ok (.aload_n 0, 1) := by decide +kernel
theorem dX6_isPlace_6 : decode cX6_isPlace 6 = .ok (.invokevirtual 126, 3) := by decide +kernel
theorem dX6_isPlace_9 : decode cX6_isPlace 9 = .ok (.if_icmp .ge 7, 3) := by decide +kernel
theorem dX6_isPlace_12 : decode cX6_isPlace 12 = .ok (.iconst 1, 1) := by decide +kernel
theorem dX6_isPlace_13 : decode cX6_isPlace 13 = .ok (.goto 4, 3) := by decide +kernel
theorem dX6_isPlace_16 : decode cX6_isPlace 16 = .ok (.iconst 0, 1) := by decide +kernel
theorem dX6_isPlace_17 : decode cX6_isPlace 17 = .ok (.ireturn, 1) := by decide +kernel
def Mo_isPlace (d : Sl) (a1 : Int32) : Option Int32 :=
  if a1 < 0 then
    (some (0 : Int32))
  else
    (bp (Mo_size d) fun r1 =>
    if r1 ≤ a1 then
      (some (0 : Int32))
    else
      (some (1 : Int32)))
theorem y_X6_isPlace : YV yX6_isPlace cX6_isPlace 2 (some .boolean) 1 := ⟨q1498, q73, q1499, q149, by decide +kernel, by decide +kernel, by decide +kernel, by decide +kernel⟩
theorem r_Mo_isPlace {C : Cxt} {G : Geo} {M : Mem} {k : Nat} (hC : Cx C cX6_isPlace 2 "FrameHeirsModel" (some .boolean) rm_X6_isPlace G) (hk : LMo G k) (d : Sl) (a1 : Int32) : Rz C 2 G (setS M k) (poP avI ((setS M k) d)) 0 [(0, .inr (k, 34)), (1, .inl (.int a1))] [] d (Mo_isPlace d a1) := by
  unfold Mo_isPlace
  refine z_iload_n (pc := 0) hC 1 rfl 1 rfl dX6_isPlace_0 ?_
  refine z_if_lt (pc := 1) hC 16 rfl dX6_isPlace_1 ?_ ?_
  · refine z_iconst (pc := 16) hC (0 : Int32) rfl dX6_isPlace_16 ?_
    exact z_zret (pc := 17) hC rfl rfl dX6_isPlace_17
  · refine z_iload_n (pc := 4) hC 1 rfl 1 rfl dX6_isPlace_4 ?_
    refine z_aload_n (pc := 5) hC 0 rfl 0 rfl dX6_isPlace_5 ?_
    refine z_piV (pc := 6) (st := [.inl (.int a1)]) hC y_X6_size q1250 [] rfl (hk 34 rfl) rfl rfl (c_X6_size hC.2.2.2.2.2.2.1 hk) rfl ⟨rfl, rfl, (Nat.le_of_ble_eq_true rfl), (Nat.le_of_ble_eq_true rfl)⟩ (Nat.le_of_ble_eq_true rfl) dX6_isPlace_6 (fun r1 => ?_)
    refine z_icmp_ge (pc := 9) hC 16 rfl dX6_isPlace_9 ?_ ?_
    · refine z_iconst (pc := 16) hC (0 : Int32) rfl dX6_isPlace_16 ?_
      exact z_zret (pc := 17) hC rfl rfl dX6_isPlace_17
    · refine z_iconst (pc := 12) hC (1 : Int32) rfl dX6_isPlace_12 ?_
      refine z_goto (pc := 13) hC 17 rfl dX6_isPlace_13 ?_
      exact z_zret (pc := 17) hC rfl rfl dX6_isPlace_17
theorem c_X6_isPlace {G : Geo} {M : Mem} {k : Nat} (hG : GOk G) (hk : LMo G k) {d : Sl} {a1 : Int32} (l : Launch) (r : Int32) (h : Mo_isPlace d a1 = some r) : Mt l yX6_isPlace cX6_isPlace 2 (some .boolean) rm_X6_isPlace G [.inr (k, 34), .inl (.int a1)] ((setS M k) d) (avI r) ((setS M k) d) :=
  mt_of (mem := (setS M k)) (po := poP avI ((setS M k) d)) (x0 := d) (t := r) rfl hG [.inr (k, 34), .inl (.int a1)] (Nat.le_of_ble_eq_true rfl) rfl (fun C hC => r_Mo_isPlace hC hk d a1) h
-- FrameHeirsModel.isDeed(I)Z
abbrev rm_X6_isDeed : Room := { frames := 1, cells := 0, slots := 0, locals := 21 }
theorem dX6_isDeed_0 : decode cX6_isDeed 0 = .ok (.aload_n 0, 1) := by decide +kernel
theorem dX6_isDeed_1 : decode cX6_isDeed 1 = .ok (.iconst 0, 1) := by decide +kernel
theorem dX6_isDeed_2 : decode cX6_isDeed 2 = .ok (.iload_n 1, 1) := by decide +kernel
theorem dX6_isDeed_3 : decode cX6_isDeed 3 = .ok (.iadd, 1) := by decide +kernel
theorem dX6_isDeed_4 : decode cX6_isDeed 4 = .ok (.invokevirtual 189, 3) := by decide +kernel
theorem dX6_isDeed_7 : decode cX6_isDeed 7 = .ok (.ifCond .le 7, 3) := by decide +kernel
theorem dX6_isDeed_10 : decode cX6_isDeed 10 = .ok (.iconst 1, 1) := by decide +kernel
theorem dX6_isDeed_11 : decode cX6_isDeed 11 = .ok (.goto 4, 3) := by decide +kernel
theorem dX6_isDeed_14 : decode cX6_isDeed 14 = .ok (.iconst 0, 1) := by decide +kernel
theorem dX6_isDeed_15 : decode cX6_isDeed 15 = .ok (.ireturn, 1) := by decide +kernel
def Mo_isDeed (d : Sl) (a1 : Int32) : Option Int32 :=
  bp (Mo_of d ((0 : Int32) + a1)) fun r1 =>
  if r1 ≤ 0 then
    (some (0 : Int32))
  else
    (some (1 : Int32))
theorem y_X6_isDeed : YV yX6_isDeed cX6_isDeed 2 (some .boolean) 1 := ⟨q1522, q79, q1523, q149, by decide +kernel, by decide +kernel, by decide +kernel, by decide +kernel⟩
theorem r_Mo_isDeed {C : Cxt} {G : Geo} {M : Mem} {k : Nat} (hC : Cx C cX6_isDeed 2 "FrameHeirsModel" (some .boolean) rm_X6_isDeed G) (hk : LMo G k) (d : Sl) (a1 : Int32) : Rz C 2 G (setS M k) (poP avI ((setS M k) d)) 0 [(0, .inr (k, 34)), (1, .inl (.int a1))] [] d (Mo_isDeed d a1) := by
  unfold Mo_isDeed
  refine z_aload_n (pc := 0) hC 0 rfl 0 rfl dX6_isDeed_0 ?_
  refine z_iconst (pc := 1) hC (0 : Int32) rfl dX6_isDeed_1 ?_
  refine z_iload_n (pc := 2) hC 1 rfl 1 rfl dX6_isDeed_2 ?_
  refine z_iadd (pc := 3) hC dX6_isDeed_3 ?_
  refine z_piV (pc := 4) (st := []) hC y_X6_of q1262 [.inl (.int ((0 : Int32) + a1))] rfl (hk 34 rfl) rfl rfl (c_X6_of hC.2.2.2.2.2.2.1 hk) rfl ⟨rfl, rfl, (Nat.le_of_ble_eq_true rfl), (Nat.le_of_ble_eq_true rfl)⟩ (Nat.le_of_ble_eq_true rfl) dX6_isDeed_4 (fun r1 => ?_)
  refine z_if_le (pc := 7) hC 14 rfl dX6_isDeed_7 ?_ ?_
  · refine z_iconst (pc := 14) hC (0 : Int32) rfl dX6_isDeed_14 ?_
    exact z_zret (pc := 15) hC rfl rfl dX6_isDeed_15
  · refine z_iconst (pc := 10) hC (1 : Int32) rfl dX6_isDeed_10 ?_
    refine z_goto (pc := 11) hC 15 rfl dX6_isDeed_11 ?_
    exact z_zret (pc := 15) hC rfl rfl dX6_isDeed_15
theorem c_X6_isDeed {G : Geo} {M : Mem} {k : Nat} (hG : GOk G) (hk : LMo G k) {d : Sl} {a1 : Int32} (l : Launch) (r : Int32) (h : Mo_isDeed d a1 = some r) : Mt l yX6_isDeed cX6_isDeed 2 (some .boolean) rm_X6_isDeed G [.inr (k, 34), .inl (.int a1)] ((setS M k) d) (avI r) ((setS M k) d) :=
  mt_of (mem := (setS M k)) (po := poP avI ((setS M k) d)) (x0 := d) (t := r) rfl hG [.inr (k, 34), .inl (.int a1)] (Nat.le_of_ble_eq_true rfl) rfl (fun C hC => r_Mo_isDeed hC hk d a1) h
-- FrameHeirsModel.orderOf(I)I
abbrev rm_X6_orderOf : Room := { frames := 1, cells := 0, slots := 0, locals := 21 }
theorem dX6_orderOf_0 : decode cX6_orderOf 0 = .ok (.aload_n 0, 1) := by decide +kernel
theorem dX6_orderOf_1 : decode cX6_orderOf 1 = .ok (.iconst 0, 1) := by decide +kernel
theorem dX6_orderOf_2 : decode cX6_orderOf 2 = .ok (.iload_n 1, 1) := by decide +kernel
theorem dX6_orderOf_3 : decode cX6_orderOf 3 = .ok (.iadd, 1) := by decide +kernel
theorem dX6_orderOf_4 : decode cX6_orderOf 4 = .ok (.invokevirtual 189, 3) := by decide +kernel
theorem dX6_orderOf_7 : decode cX6_orderOf 7 = .ok (.iconst 1, 1) := by decide +kernel
theorem dX6_orderOf_8 : decode cX6_orderOf 8 = .ok (.isub, 1) := by decide +kernel
theorem dX6_orderOf_9 : decode cX6_orderOf 9 = .ok (.ireturn, 1) := by decide +kernel
def Mo_orderOf (d : Sl) (a1 : Int32) : Option Int32 :=
  bp (Mo_of d ((0 : Int32) + a1)) fun r1 =>
  some (r1 - (1 : Int32))
theorem y_X6_orderOf : YV yX6_orderOf cX6_orderOf 2 (some .int) 1 := ⟨q1518, q78, q1519, q149, by decide +kernel, by decide +kernel, by decide +kernel, by decide +kernel⟩
theorem r_Mo_orderOf {C : Cxt} {G : Geo} {M : Mem} {k : Nat} (hC : Cx C cX6_orderOf 2 "FrameHeirsModel" (some .int) rm_X6_orderOf G) (hk : LMo G k) (d : Sl) (a1 : Int32) : Rz C 2 G (setS M k) (poP avI ((setS M k) d)) 0 [(0, .inr (k, 34)), (1, .inl (.int a1))] [] d (Mo_orderOf d a1) := by
  unfold Mo_orderOf
  refine z_aload_n (pc := 0) hC 0 rfl 0 rfl dX6_orderOf_0 ?_
  refine z_iconst (pc := 1) hC (0 : Int32) rfl dX6_orderOf_1 ?_
  refine z_iload_n (pc := 2) hC 1 rfl 1 rfl dX6_orderOf_2 ?_
  refine z_iadd (pc := 3) hC dX6_orderOf_3 ?_
  refine z_piV (pc := 4) (st := []) hC y_X6_of q1262 [.inl (.int ((0 : Int32) + a1))] rfl (hk 34 rfl) rfl rfl (c_X6_of hC.2.2.2.2.2.2.1 hk) rfl ⟨rfl, rfl, (Nat.le_of_ble_eq_true rfl), (Nat.le_of_ble_eq_true rfl)⟩ (Nat.le_of_ble_eq_true rfl) dX6_orderOf_4 (fun r1 => ?_)
  refine z_iconst (pc := 7) hC (1 : Int32) rfl dX6_orderOf_7 ?_
  refine z_isub (pc := 8) hC dX6_orderOf_8 ?_
  exact z_iret (pc := 9) hC rfl dX6_orderOf_9
theorem c_X6_orderOf {G : Geo} {M : Mem} {k : Nat} (hG : GOk G) (hk : LMo G k) {d : Sl} {a1 : Int32} (l : Launch) (r : Int32) (h : Mo_orderOf d a1 = some r) : Mt l yX6_orderOf cX6_orderOf 2 (some .int) rm_X6_orderOf G [.inr (k, 34), .inl (.int a1)] ((setS M k) d) (avI r) ((setS M k) d) :=
  mt_of (mem := (setS M k)) (po := poP avI ((setS M k) d)) (x0 := d) (t := r) rfl hG [.inr (k, 34), .inl (.int a1)] (Nat.le_of_ble_eq_true rfl) rfl (fun C hC => r_Mo_orderOf hC hk d a1) h
