-- java/util/Arrays.fill([II)V
abbrev rm_J7_fill_53178 : Room := { frames := 0, cells := 0, slots := 0, locals := 0 }
theorem dJ7_fill_53178_0 : decode cJ7_fill_53178 0 = .ok (.iconst 0, 1) := by decide +kernel
theorem dJ7_fill_53178_1 : decode cJ7_fill_53178 1 = .ok (.istore_n 2, 1) := by decide +kernel
theorem dJ7_fill_53178_2 : decode cJ7_fill_53178 2 = .ok (.aload_n 0, 1) := by decide +kernel
theorem dJ7_fill_53178_3 : decode cJ7_fill_53178 3 = .ok (.arraylength, 1) := by decide +kernel
theorem dJ7_fill_53178_4 : decode cJ7_fill_53178 4 = .ok (.istore_n 3, 1) := by decide +kernel
theorem dJ7_fill_53178_5 : decode cJ7_fill_53178 5 = .ok (.iload_n 2, 1) := by decide +kernel
theorem dJ7_fill_53178_6 : decode cJ7_fill_53178 6 = .ok (.iload_n 3, 1) := by decide +kernel
theorem dJ7_fill_53178_7 : decode cJ7_fill_53178 7 = .ok (.if_icmp .ge 13, 3) := by decide +kernel
theorem dJ7_fill_53178_10 : decode cJ7_fill_53178 10 = .ok (.aload_n 0, 1) := by decide +kernel
theorem dJ7_fill_53178_11 : decode cJ7_fill_53178 11 = .ok (.iload_n 2, 1) := by decide +kernel
theorem dJ7_fill_53178_12 : decode cJ7_fill_53178 12 = .ok (.iload_n 1, 1) := by decide +kernel
theorem dJ7_fill_53178_13 : decode cJ7_fill_53178 13 = .ok (.iastore, 1) := by decide +kernel
theorem dJ7_fill_53178_14 : decode cJ7_fill_53178 14 = .ok (.iinc 2 1, 3) := by decide +kernel
theorem dJ7_fill_53178_17 : decode cJ7_fill_53178 17 = .ok (.goto (-12), 3) := by decide +kernel
theorem dJ7_fill_53178_20 : decode cJ7_fill_53178 20 = .ok (.return_, 1) := by decide +kernel
def Jk_fill_53178_5 (b0 Nb0 : Nat) : Nat → Int32 → Int32 → Int32 → Sl → Option (Unit × Sl)
  | 0, _, _, _, _ => none
  | n + 1, v1, v2, v3, d =>
    if v3 ≤ v2 then
      (some ((), d))
    else
      (if inb v2 Nb0 then
      bnd (wr d b0 (ix v2) v1) fun d1 =>
      bnd (v2 + (1 : Int32)) fun v2_2 =>
      Jk_fill_53178_5 b0 Nb0 n v1 v2_2 v3 d1
      else none)
def Jk_fill_53178 (b0 Nb0 : Nat) (d : Sl) (a1 : Int32) : Option (Unit × Sl) :=
  bnd (0 : Int32) fun v2_3 =>
  bnd (Int32.ofNat Nb0) fun v3_4 =>
  Jk_fill_53178_5 b0 Nb0 FU a1 v2_3 v3_4 d
theorem y_J7_fill_53178 : YS yJ7_fill_53178 cJ7_fill_53178 4 none 2 := ⟨q291, trivial, q292, q148, by decide +kernel, by decide +kernel, by decide +kernel, by decide +kernel⟩
theorem r_Jk_fill_53178_5 {C : Cxt} {G : Geo} {M : Mem} {k : Nat} {b0 Nb0 : Nat} (hC : Cx C cJ7_fill_53178 4 "java/util/Arrays" none rm_J7_fill_53178 G) (hk : G.2.2.2 k b0) (hb : b0 < 48) (hkd : kd b0 = .inl (0, Nb0)) : ∀ (n : Nat) (v1 : Int32) (v2 : Int32) (v3 : Int32) (d : Sl), Rz C 4 G (setS M k) (poM avV (setS M k)) 5 [(0, .inr (k, b0)), (1, .inl (.int v1)), (2, .inl (.int v2)), (3, .inl (.int v3))] [] d (Jk_fill_53178_5 b0 Nb0 n v1 v2 v3 d) := by
  intro n
  induction n with
  | zero => intros; exact z_none
  | succ n ih =>
    intro v1 v2 v3 d
    rw [Jk_fill_53178_5]
    refine z_iload_n (pc := 5) hC 2 rfl 2 rfl dJ7_fill_53178_5 ?_
    refine z_iload_n (pc := 6) hC 3 rfl 3 rfl dJ7_fill_53178_6 ?_
    refine z_icmp_ge (pc := 7) hC 20 rfl dJ7_fill_53178_7 ?_ ?_
    · exact z_vret (pc := 20) hC rfl dJ7_fill_53178_20
    · refine z_aload_n (pc := 10) hC 0 rfl 0 rfl dJ7_fill_53178_10 ?_
      refine z_iload_n (pc := 11) hC 2 rfl 2 rfl dJ7_fill_53178_11 ?_
      refine z_iload_n (pc := 12) hC 1 rfl 1 rfl dJ7_fill_53178_12 ?_
      refine zs_iast (pc := 13) hC hk hb hkd dJ7_fill_53178_13 (fun d1 => ?_)
      refine z_iinc (pc := 14) (ls1 := fun v => [(2, .inl (.int v)), (0, .inr (k, b0)), (1, .inl (.int v1)), (3, .inl (.int v3))]) hC 2 2 (by decide) (1 : Int32) rfl rfl (fun v => rfl) dJ7_fill_53178_14 (fun v2_2 => ?_)
      refine z_goto (pc := 17) hC 5 rfl dJ7_fill_53178_17 ?_
      exact z_sub [1, 2, 0, 3] rfl (ih v1 v2_2 v3 d1)
theorem r_Jk_fill_53178 {C : Cxt} {G : Geo} {M : Mem} {k : Nat} {b0 Nb0 : Nat} (hC : Cx C cJ7_fill_53178 4 "java/util/Arrays" none rm_J7_fill_53178 G) (hk : G.2.2.2 k b0) (hb : b0 < 48) (hkd : kd b0 = .inl (0, Nb0)) (d : Sl) (a1 : Int32) : Rz C 4 G (setS M k) (poM avV (setS M k)) 0 [(0, .inr (k, b0)), (1, .inl (.int a1))] [] d (Jk_fill_53178 b0 Nb0 d a1) := by
  unfold Jk_fill_53178
  refine z_iconst (pc := 0) hC (0 : Int32) rfl dJ7_fill_53178_0 ?_
  refine z_istore_n (pc := 1) (ls1 := fun v => [(2, .inl (.int v)), (0, .inr (k, b0)), (1, .inl (.int a1))]) hC 2 rfl (by decide) (fun v => rfl) dJ7_fill_53178_1 (fun v2_3 => ?_)
  refine z_aload_n (pc := 2) hC 0 rfl 1 rfl dJ7_fill_53178_2 ?_
  refine z_alen (pc := 3) hC hk hkd (Int32.ofNat Nb0) rfl dJ7_fill_53178_3 ?_
  refine z_istore_n (pc := 4) (ls1 := fun v => [(3, .inl (.int v)), (2, .inl (.int v2_3)), (0, .inr (k, b0)), (1, .inl (.int a1))]) hC 3 rfl (by decide) (fun v => rfl) dJ7_fill_53178_4 (fun v3_4 => ?_)
  exact z_sub [2, 3, 1, 0] rfl (r_Jk_fill_53178_5 hC hk hb hkd FU a1 v2_3 v3_4 d)
theorem c_J7_fill_53178 {G : Geo} {M : Mem} {k : Nat} {b0 Nb0 : Nat} (hG : GOk G) (hk : G.2.2.2 k b0) (hb : b0 < 48) (hkd : kd b0 = .inl (0, Nb0)) {d : Sl} {a1 : Int32} (l : Launch) (r : Unit) (d1 : Sl) (h : Jk_fill_53178 b0 Nb0 d a1 = some (r, d1)) : Mt l yJ7_fill_53178 cJ7_fill_53178 4 none rm_J7_fill_53178 G [.inr (k, b0), .inl (.int a1)] ((setS M k) d) (avV r) ((setS M k) d1) :=
  mt_of (mem := (setS M k)) (po := poM avV (setS M k)) (x0 := d) (t := (r, d1)) rfl hG [.inr (k, b0), .inl (.int a1)] (Nat.le_of_ble_eq_true rfl) rfl (fun C hC => r_Jk_fill_53178 hC hk hb hkd d a1) h
-- java/lang/Integer.bitCount(I)I
abbrev rm_J6_bitCount_0f7a4 : Room := { frames := 0, cells := 0, slots := 0, locals := 0 }
theorem dJ6_bitCount_0f7a4_0 : decode cJ6_bitCount_0f7a4 0 = .ok (.iload_n 0, 1) := by decide +kernel
theorem dJ6_bitCount_0f7a4_1 : decode cJ6_bitCount_0f7a4 1 = .ok (.iload_n 0, 1) := by decide +kernel
theorem dJ6_bitCount_0f7a4_2 : decode cJ6_bitCount_0f7a4 2 = .ok (.iconst 1, 1) := by decide +kernel
theorem dJ6_bitCount_0f7a4_3 : decode cJ6_bitCount_0f7a4 3 = .ok (.iushr, 1) := by decide +kernel
theorem dJ6_bitCount_0f7a4_4 : decode cJ6_bitCount_0f7a4 4 = .ok (.ldc_w 265, 3) := by decide +kernel
theorem dJ6_bitCount_0f7a4_7 : decode cJ6_bitCount_0f7a4 7 = .ok (.iand, 1) := by decide +kernel
theorem dJ6_bitCount_0f7a4_8 : decode cJ6_bitCount_0f7a4 8 = .ok (.isub, 1) := by decide +kernel
theorem dJ6_bitCount_0f7a4_9 : decode cJ6_bitCount_0f7a4 9 = .ok (.istore_n 0, 1) := by decide +kernel
theorem dJ6_bitCount_0f7a4_10 : decode cJ6_bitCount_0f7a4 10 = .ok (.iload_n 0, 1) := by decide +kernel
theorem dJ6_bitCount_0f7a4_11 : decode cJ6_bitCount_0f7a4 11 = .ok (.ldc_w 266, 3) := by decide +kernel
theorem dJ6_bitCount_0f7a4_14 : decode cJ6_bitCount_0f7a4 14 = .ok (.iand, 1) := by decide +kernel
theorem dJ6_bitCount_0f7a4_15 : decode cJ6_bitCount_0f7a4 15 = .ok (.iload_n 0, 1) := by decide +kernel
theorem dJ6_bitCount_0f7a4_16 : decode cJ6_bitCount_0f7a4 16 = .ok (.iconst 2, 1) := by decide +kernel
theorem dJ6_bitCount_0f7a4_17 : decode cJ6_bitCount_0f7a4 17 = .ok (.iushr, 1) := by decide +kernel
theorem dJ6_bitCount_0f7a4_18 : decode cJ6_bitCount_0f7a4 18 = .ok (.ldc_w 266, 3) := by decide +kernel
theorem dJ6_bitCount_0f7a4_21 : decode cJ6_bitCount_0f7a4 21 = .ok (.iand, 1) := by decide +kernel
theorem dJ6_bitCount_0f7a4_22 : decode cJ6_bitCount_0f7a4 22 = .ok (.iadd, 1) := by decide +kernel
theorem dJ6_bitCount_0f7a4_23 : decode cJ6_bitCount_0f7a4 23 = .ok (.istore_n 0, 1) := by decide +kernel
theorem dJ6_bitCount_0f7a4_24 : decode cJ6_bitCount_0f7a4 24 = .ok (.iload_n 0, 1) := by decide +kernel
theorem dJ6_bitCount_0f7a4_25 : decode cJ6_bitCount_0f7a4 25 = .ok (.iload_n 0, 1) := by decide +kernel
theorem dJ6_bitCount_0f7a4_26 : decode cJ6_bitCount_0f7a4 26 = .ok (.iconst 4, 1) := by decide +kernel
theorem dJ6_bitCount_0f7a4_27 : decode cJ6_bitCount_0f7a4 27 = .ok (.iushr, 1) := by decide +kernel
theorem dJ6_bitCount_0f7a4_28 : decode cJ6_bitCount_0f7a4 28 = .ok (.iadd, 1) := by decide +kernel
theorem dJ6_bitCount_0f7a4_29 : decode cJ6_bitCount_0f7a4 29 = .ok (.ldc_w 267, 3) := by decide +kernel
theorem dJ6_bitCount_0f7a4_32 : decode cJ6_bitCount_0f7a4 32 = .ok (.iand, 1) := by decide +kernel
theorem dJ6_bitCount_0f7a4_33 : decode cJ6_bitCount_0f7a4 33 = .ok (.istore_n 0, 1) := by decide +kernel
theorem dJ6_bitCount_0f7a4_34 : decode cJ6_bitCount_0f7a4 34 = .ok (.iload_n 0, 1) := by decide +kernel
theorem dJ6_bitCount_0f7a4_35 : decode cJ6_bitCount_0f7a4 35 = .ok (.iload_n 0, 1) := by decide +kernel
theorem dJ6_bitCount_0f7a4_36 : decode cJ6_bitCount_0f7a4 36 = .ok (.bipush 8, 2) := by decide +kernel
theorem dJ6_bitCount_0f7a4_38 : decode cJ6_bitCount_0f7a4 38 = .ok (.iushr, 1) := by decide +kernel
theorem dJ6_bitCount_0f7a4_39 : decode cJ6_bitCount_0f7a4 39 = .ok (.iadd, 1) := by decide +kernel
theorem dJ6_bitCount_0f7a4_40 : decode cJ6_bitCount_0f7a4 40 = .ok (.istore_n 0, 1) := by decide +kernel
theorem dJ6_bitCount_0f7a4_41 : decode cJ6_bitCount_0f7a4 41 = .ok (.iload_n 0, 1) := by decide +kernel
theorem dJ6_bitCount_0f7a4_42 : decode cJ6_bitCount_0f7a4 42 = .ok (.iload_n 0, 1) := by decide +kernel
theorem dJ6_bitCount_0f7a4_43 : decode cJ6_bitCount_0f7a4 43 = .ok (.bipush 16, 2) := by decide +kernel
theorem dJ6_bitCount_0f7a4_45 : decode cJ6_bitCount_0f7a4 45 = .ok (.iushr, 1) := by decide +kernel
theorem dJ6_bitCount_0f7a4_46 : decode cJ6_bitCount_0f7a4 46 = .ok (.iadd, 1) := by decide +kernel
theorem dJ6_bitCount_0f7a4_47 : decode cJ6_bitCount_0f7a4 47 = .ok (.istore_n 0, 1) := by decide +kernel
theorem dJ6_bitCount_0f7a4_48 : decode cJ6_bitCount_0f7a4 48 = .ok (.iload_n 0, 1) := by decide +kernel
theorem dJ6_bitCount_0f7a4_49 : decode cJ6_bitCount_0f7a4 49 = .ok (.bipush 63, 2) := by decide +kernel
theorem dJ6_bitCount_0f7a4_51 : decode cJ6_bitCount_0f7a4 51 = .ok (.iand, 1) := by decide +kernel
theorem dJ6_bitCount_0f7a4_52 : decode cJ6_bitCount_0f7a4 52 = .ok (.ireturn, 1) := by decide +kernel
def Jk_bitCount_0f7a4 (a0 : Int32) : Option Int32 :=
  bnd (a0 - (((Int32.toUInt32 a0 >>> (Int32.toUInt32 (1 : Int32) &&& Int32.toUInt32 31)).toInt32) &&& (1431655765 : Int32))) fun v0_1 =>
  bnd ((v0_1 &&& (858993459 : Int32)) + (((Int32.toUInt32 v0_1 >>> (Int32.toUInt32 (2 : Int32) &&& Int32.toUInt32 31)).toInt32) &&& (858993459 : Int32))) fun v0_2 =>
  bnd ((v0_2 + ((Int32.toUInt32 v0_2 >>> (Int32.toUInt32 (4 : Int32) &&& Int32.toUInt32 31)).toInt32)) &&& (252645135 : Int32)) fun v0_3 =>
  bnd (v0_3 + ((Int32.toUInt32 v0_3 >>> (Int32.toUInt32 (8 : Int32) &&& Int32.toUInt32 31)).toInt32)) fun v0_4 =>
  bnd (v0_4 + ((Int32.toUInt32 v0_4 >>> (Int32.toUInt32 (16 : Int32) &&& Int32.toUInt32 31)).toInt32)) fun v0_5 =>
  some (v0_5 &&& (63 : Int32))
theorem y_J6_bitCount_0f7a4 : YS yJ6_bitCount_0f7a4 cJ6_bitCount_0f7a4 1 (some .int) 1 := ⟨q971, trivial, q972, q158, by decide +kernel, by decide +kernel, by decide +kernel, by decide +kernel⟩
theorem r_Jk_bitCount_0f7a4 {C : Cxt} {G : Geo} {Mm : Mem} (hC : Cx C cJ6_bitCount_0f7a4 1 "java/lang/Integer" (some .int) rm_J6_bitCount_0f7a4 G) (a0 : Int32) : Rz C 1 G (fun _ : Unit => Mm) (poP avI Mm) 0 [(0, .inl (.int a0))] [] () (Jk_bitCount_0f7a4 a0) := by
  unfold Jk_bitCount_0f7a4
  refine z_iload_n (pc := 0) hC 0 rfl 0 rfl dJ6_bitCount_0f7a4_0 ?_
  refine z_iload_n (pc := 1) hC 0 rfl 0 rfl dJ6_bitCount_0f7a4_1 ?_
  refine z_iconst (pc := 2) hC (1 : Int32) rfl dJ6_bitCount_0f7a4_2 ?_
  refine z_iushr (pc := 3) hC dJ6_bitCount_0f7a4_3 ?_
  refine z_ldcw (pc := 4) hC (1431655765 : Int32) q973 dJ6_bitCount_0f7a4_4 ?_
  refine z_iand (pc := 7) hC dJ6_bitCount_0f7a4_7 ?_
  refine z_isub (pc := 8) hC dJ6_bitCount_0f7a4_8 ?_
  refine z_istore_n (pc := 9) (ls1 := fun v => [(0, .inl (.int v))]) hC 0 rfl (by decide) (fun v => rfl) dJ6_bitCount_0f7a4_9 (fun v0_1 => ?_)
  refine z_iload_n (pc := 10) hC 0 rfl 0 rfl dJ6_bitCount_0f7a4_10 ?_
  refine z_ldcw (pc := 11) hC (858993459 : Int32) q974 dJ6_bitCount_0f7a4_11 ?_
  refine z_iand (pc := 14) hC dJ6_bitCount_0f7a4_14 ?_
  refine z_iload_n (pc := 15) hC 0 rfl 0 rfl dJ6_bitCount_0f7a4_15 ?_
  refine z_iconst (pc := 16) hC (2 : Int32) rfl dJ6_bitCount_0f7a4_16 ?_
  refine z_iushr (pc := 17) hC dJ6_bitCount_0f7a4_17 ?_
  refine z_ldcw (pc := 18) hC (858993459 : Int32) q974 dJ6_bitCount_0f7a4_18 ?_
  refine z_iand (pc := 21) hC dJ6_bitCount_0f7a4_21 ?_
  refine z_iadd (pc := 22) hC dJ6_bitCount_0f7a4_22 ?_
  refine z_istore_n (pc := 23) (ls1 := fun v => [(0, .inl (.int v))]) hC 0 rfl (by decide) (fun v => rfl) dJ6_bitCount_0f7a4_23 (fun v0_2 => ?_)
  refine z_iload_n (pc := 24) hC 0 rfl 0 rfl dJ6_bitCount_0f7a4_24 ?_
  refine z_iload_n (pc := 25) hC 0 rfl 0 rfl dJ6_bitCount_0f7a4_25 ?_
  refine z_iconst (pc := 26) hC (4 : Int32) rfl dJ6_bitCount_0f7a4_26 ?_
  refine z_iushr (pc := 27) hC dJ6_bitCount_0f7a4_27 ?_
  refine z_iadd (pc := 28) hC dJ6_bitCount_0f7a4_28 ?_
  refine z_ldcw (pc := 29) hC (252645135 : Int32) q975 dJ6_bitCount_0f7a4_29 ?_
  refine z_iand (pc := 32) hC dJ6_bitCount_0f7a4_32 ?_
  refine z_istore_n (pc := 33) (ls1 := fun v => [(0, .inl (.int v))]) hC 0 rfl (by decide) (fun v => rfl) dJ6_bitCount_0f7a4_33 (fun v0_3 => ?_)
  refine z_iload_n (pc := 34) hC 0 rfl 0 rfl dJ6_bitCount_0f7a4_34 ?_
  refine z_iload_n (pc := 35) hC 0 rfl 0 rfl dJ6_bitCount_0f7a4_35 ?_
  refine z_bipush (pc := 36) hC (8 : Int32) rfl dJ6_bitCount_0f7a4_36 ?_
  refine z_iushr (pc := 38) hC dJ6_bitCount_0f7a4_38 ?_
  refine z_iadd (pc := 39) hC dJ6_bitCount_0f7a4_39 ?_
  refine z_istore_n (pc := 40) (ls1 := fun v => [(0, .inl (.int v))]) hC 0 rfl (by decide) (fun v => rfl) dJ6_bitCount_0f7a4_40 (fun v0_4 => ?_)
  refine z_iload_n (pc := 41) hC 0 rfl 0 rfl dJ6_bitCount_0f7a4_41 ?_
  refine z_iload_n (pc := 42) hC 0 rfl 0 rfl dJ6_bitCount_0f7a4_42 ?_
  refine z_bipush (pc := 43) hC (16 : Int32) rfl dJ6_bitCount_0f7a4_43 ?_
  refine z_iushr (pc := 45) hC dJ6_bitCount_0f7a4_45 ?_
  refine z_iadd (pc := 46) hC dJ6_bitCount_0f7a4_46 ?_
  refine z_istore_n (pc := 47) (ls1 := fun v => [(0, .inl (.int v))]) hC 0 rfl (by decide) (fun v => rfl) dJ6_bitCount_0f7a4_47 (fun v0_5 => ?_)
  refine z_iload_n (pc := 48) hC 0 rfl 0 rfl dJ6_bitCount_0f7a4_48 ?_
  refine z_bipush (pc := 49) hC (63 : Int32) rfl dJ6_bitCount_0f7a4_49 ?_
  refine z_iand (pc := 51) hC dJ6_bitCount_0f7a4_51 ?_
  exact z_iret (pc := 52) hC rfl dJ6_bitCount_0f7a4_52
theorem c_J6_bitCount_0f7a4 {G : Geo} {Mm : Mem} (hG : GOk G) {a0 : Int32} (l : Launch) (r : Int32) (h : Jk_bitCount_0f7a4 a0 = some r) : Mt l yJ6_bitCount_0f7a4 cJ6_bitCount_0f7a4 1 (some .int) rm_J6_bitCount_0f7a4 G [.inl (.int a0)] (Mm) (avI r) (Mm) :=
  mt_of (mem := (fun _ : Unit => Mm)) (po := poP avI Mm) (x0 := ()) (t := r) rfl hG [.inl (.int a0)] (Nat.le_of_ble_eq_true rfl) rfl (fun C hC => r_Jk_bitCount_0f7a4 hC a0) h
-- FrameHeirs$Reader.isBlank(I)Z
abbrev rm_X2_isBlank : Room := { frames := 0, cells := 0, slots := 0, locals := 0 }
theorem dX2_isBlank_0 : decode cX2_isBlank 0 = .ok (.iload_n 0, 1) := by decide +kernel
theorem dX2_isBlank_1 : decode cX2_isBlank 1 = .ok (.bipush 10, 2) := by decide +kernel
theorem dX2_isBlank_3 : decode cX2_isBlank 3 = .ok (.if_icmp .eq 9, 3) := by decide +kernel
theorem dX2_isBlank_6 : decode cX2_isBlank 6 = .ok (.iload_n 0, 1) := by decide +kernel
theorem dX2_isBlank_7 : decode cX2_isBlank 7 = .ok (.bipush 32, 2) := by decide +kernel
theorem dX2_isBlank_9 : decode cX2_isBlank 9 = .ok (.if_icmp .ne 7, 3) := by decide +kernel
theorem dX2_isBlank_12 : decode cX2_isBlank 12 = .ok (.iconst 1, 1) := by decide +kernel
theorem dX2_isBlank_13 : decode cX2_isBlank 13 = .ok (.goto 4, 3) := by decide +kernel
theorem dX2_isBlank_16 : decode cX2_isBlank 16 = .ok (.iconst 0, 1) := by decide +kernel
theorem dX2_isBlank_17 : decode cX2_isBlank 17 = .ok (.ireturn, 1) := by decide +kernel
def Re_isBlank (a0 : Int32) : Option Int32 :=
  if a0 = (10 : Int32) then
    (some (1 : Int32))
  else
    (if a0 = (32 : Int32) then
      (some (1 : Int32))
    else
      (some (0 : Int32)))
theorem y_X2_isBlank : YS yX2_isBlank cX2_isBlank 1 (some .boolean) 1 := ⟨q494, trivial, q495, q145, by decide +kernel, by decide +kernel, by decide +kernel, by decide +kernel⟩
theorem r_Re_isBlank {C : Cxt} {G : Geo} {Mm : Mem} (hC : Cx C cX2_isBlank 1 "FrameHeirs$Reader" (some .boolean) rm_X2_isBlank G) (a0 : Int32) : Rz C 1 G (fun _ : Unit => Mm) (poP avI Mm) 0 [(0, .inl (.int a0))] [] () (Re_isBlank a0) := by
  unfold Re_isBlank
  refine z_iload_n (pc := 0) hC 0 rfl 0 rfl dX2_isBlank_0 ?_
  refine z_bipush (pc := 1) hC (10 : Int32) rfl dX2_isBlank_1 ?_
  refine z_icmp_eq (pc := 3) hC 12 rfl dX2_isBlank_3 ?_ ?_
  · refine z_iconst (pc := 12) hC (1 : Int32) rfl dX2_isBlank_12 ?_
    refine z_goto (pc := 13) hC 17 rfl dX2_isBlank_13 ?_
    exact z_zret (pc := 17) hC rfl rfl dX2_isBlank_17
  · refine z_iload_n (pc := 6) hC 0 rfl 0 rfl dX2_isBlank_6 ?_
    refine z_bipush (pc := 7) hC (32 : Int32) rfl dX2_isBlank_7 ?_
    refine z_icmp_ne (pc := 9) hC 16 rfl dX2_isBlank_9 ?_ ?_
    · refine z_iconst (pc := 16) hC (0 : Int32) rfl dX2_isBlank_16 ?_
      exact z_zret (pc := 17) hC rfl rfl dX2_isBlank_17
    · refine z_iconst (pc := 12) hC (1 : Int32) rfl dX2_isBlank_12 ?_
      refine z_goto (pc := 13) hC 17 rfl dX2_isBlank_13 ?_
      exact z_zret (pc := 17) hC rfl rfl dX2_isBlank_17
theorem c_X2_isBlank {G : Geo} {Mm : Mem} (hG : GOk G) {a0 : Int32} (l : Launch) (r : Int32) (h : Re_isBlank a0 = some r) : Mt l yX2_isBlank cX2_isBlank 1 (some .boolean) rm_X2_isBlank G [.inl (.int a0)] (Mm) (avI r) (Mm) :=
  mt_of (mem := (fun _ : Unit => Mm)) (po := poP avI Mm) (x0 := ()) (t := r) rfl hG [.inl (.int a0)] (Nat.le_of_ble_eq_true rfl) rfl (fun C hC => r_Re_isBlank hC a0) h
-- FrameHeirs$Reader.isLetter(I)Z
abbrev rm_X2_isLetter : Room := { frames := 0, cells := 0, slots := 0, locals := 0 }
theorem dX2_isLetter_0 : decode cX2_isLetter 0 = .ok (.iload_n 0, 1) := by decide +kernel
theorem dX2_isLetter_1 : decode cX2_isLetter 1 = .ok (.bipush 97, 2) := by decide +kernel
theorem dX2_isLetter_3 : decode cX2_isLetter 3 = .ok (.if_icmp .lt 13, 3) := by decide +kernel
theorem dX2_isLetter_6 : decode cX2_isLetter 6 = .ok (.iload_n 0, 1) := by decide +kernel
theorem dX2_isLetter_7 : decode cX2_isLetter 7 = .ok (.bipush 122, 2) := by decide +kernel
theorem dX2_isLetter_9 : decode cX2_isLetter 9 = .ok (.if_icmp .gt 7, 3) := by decide +kernel
theorem dX2_isLetter_12 : decode cX2_isLetter 12 = .ok (.iconst 1, 1) := by decide +kernel
theorem dX2_isLetter_13 : decode cX2_isLetter 13 = .ok (.goto 4, 3) := by decide +kernel
theorem dX2_isLetter_16 : decode cX2_isLetter 16 = .ok (.iconst 0, 1) := by decide +kernel
theorem dX2_isLetter_17 : decode cX2_isLetter 17 = .ok (.ireturn, 1) := by decide +kernel
def Re_isLetter (a0 : Int32) : Option Int32 :=
  if a0 < (97 : Int32) then
    (some (0 : Int32))
  else
    (if (122 : Int32) < a0 then
      (some (0 : Int32))
    else
      (some (1 : Int32)))
theorem y_X2_isLetter : YS yX2_isLetter cX2_isLetter 1 (some .boolean) 1 := ⟨q497, trivial, q498, q145, by decide +kernel, by decide +kernel, by decide +kernel, by decide +kernel⟩
theorem r_Re_isLetter {C : Cxt} {G : Geo} {Mm : Mem} (hC : Cx C cX2_isLetter 1 "FrameHeirs$Reader" (some .boolean) rm_X2_isLetter G) (a0 : Int32) : Rz C 1 G (fun _ : Unit => Mm) (poP avI Mm) 0 [(0, .inl (.int a0))] [] () (Re_isLetter a0) := by
  unfold Re_isLetter
  refine z_iload_n (pc := 0) hC 0 rfl 0 rfl dX2_isLetter_0 ?_
  refine z_bipush (pc := 1) hC (97 : Int32) rfl dX2_isLetter_1 ?_
  refine z_icmp_lt (pc := 3) hC 16 rfl dX2_isLetter_3 ?_ ?_
  · refine z_iconst (pc := 16) hC (0 : Int32) rfl dX2_isLetter_16 ?_
    exact z_zret (pc := 17) hC rfl rfl dX2_isLetter_17
  · refine z_iload_n (pc := 6) hC 0 rfl 0 rfl dX2_isLetter_6 ?_
    refine z_bipush (pc := 7) hC (122 : Int32) rfl dX2_isLetter_7 ?_
    refine z_icmp_gt (pc := 9) hC 16 rfl dX2_isLetter_9 ?_ ?_
    · refine z_iconst (pc := 16) hC (0 : Int32) rfl dX2_isLetter_16 ?_
      exact z_zret (pc := 17) hC rfl rfl dX2_isLetter_17
    · refine z_iconst (pc := 12) hC (1 : Int32) rfl dX2_isLetter_12 ?_
      refine z_goto (pc := 13) hC 17 rfl dX2_isLetter_13 ?_
      exact z_zret (pc := 17) hC rfl rfl dX2_isLetter_17
theorem c_X2_isLetter {G : Geo} {Mm : Mem} (hG : GOk G) {a0 : Int32} (l : Launch) (r : Int32) (h : Re_isLetter a0 = some r) : Mt l yX2_isLetter cX2_isLetter 1 (some .boolean) rm_X2_isLetter G [.inl (.int a0)] (Mm) (avI r) (Mm) :=
  mt_of (mem := (fun _ : Unit => Mm)) (po := poP avI Mm) (x0 := ()) (t := r) rfl hG [.inl (.int a0)] (Nat.le_of_ble_eq_true rfl) rfl (fun C hC => r_Re_isLetter hC a0) h
-- FrameHeirs$Reader.isDigit(I)Z
abbrev rm_X2_isDigit : Room := { frames := 0, cells := 0, slots := 0, locals := 0 }
theorem dX2_isDigit_0 : decode cX2_isDigit 0 = .ok (.iload_n 0, 1) := by decide +kernel
theorem dX2_isDigit_1 : decode cX2_isDigit 1 = .ok (.bipush 48, 2) := by decide +kernel
theorem dX2_isDigit_3 : decode cX2_isDigit 3 = .ok (.if_icmp .lt 13, 3) := by decide +kernel
theorem dX2_isDigit_6 : decode cX2_isDigit 6 = .ok (.iload_n 0, 1) := by decide +kernel
theorem dX2_isDigit_7 : decode cX2_isDigit 7 = .ok (.bipush 57, 2) := by decide +kernel
theorem dX2_isDigit_9 : decode cX2_isDigit 9 = .ok (.if_icmp .gt 7, 3) := by decide +kernel
theorem dX2_isDigit_12 : decode cX2_isDigit 12 = .ok (.iconst 1, 1) := by decide +kernel
theorem dX2_isDigit_13 : decode cX2_isDigit 13 = .ok (.goto 4, 3) := by decide +kernel
theorem dX2_isDigit_16 : decode cX2_isDigit 16 = .ok (.iconst 0, 1) := by decide +kernel
theorem dX2_isDigit_17 : decode cX2_isDigit 17 = .ok (.ireturn, 1) := by decide +kernel
def Re_isDigit (a0 : Int32) : Option Int32 :=
  if a0 < (48 : Int32) then
    (some (0 : Int32))
  else
    (if (57 : Int32) < a0 then
      (some (0 : Int32))
    else
      (some (1 : Int32)))
theorem y_X2_isDigit : YS yX2_isDigit cX2_isDigit 1 (some .boolean) 1 := ⟨q506, trivial, q507, q145, by decide +kernel, by decide +kernel, by decide +kernel, by decide +kernel⟩
theorem r_Re_isDigit {C : Cxt} {G : Geo} {Mm : Mem} (hC : Cx C cX2_isDigit 1 "FrameHeirs$Reader" (some .boolean) rm_X2_isDigit G) (a0 : Int32) : Rz C 1 G (fun _ : Unit => Mm) (poP avI Mm) 0 [(0, .inl (.int a0))] [] () (Re_isDigit a0) := by
  unfold Re_isDigit
  refine z_iload_n (pc := 0) hC 0 rfl 0 rfl dX2_isDigit_0 ?_
  refine z_bipush (pc := 1) hC (48 : Int32) rfl dX2_isDigit_1 ?_
  refine z_icmp_lt (pc := 3) hC 16 rfl dX2_isDigit_3 ?_ ?_
  · refine z_iconst (pc := 16) hC (0 : Int32) rfl dX2_isDigit_16 ?_
    exact z_zret (pc := 17) hC rfl rfl dX2_isDigit_17
  · refine z_iload_n (pc := 6) hC 0 rfl 0 rfl dX2_isDigit_6 ?_
    refine z_bipush (pc := 7) hC (57 : Int32) rfl dX2_isDigit_7 ?_
    refine z_icmp_gt (pc := 9) hC 16 rfl dX2_isDigit_9 ?_ ?_
    · refine z_iconst (pc := 16) hC (0 : Int32) rfl dX2_isDigit_16 ?_
      exact z_zret (pc := 17) hC rfl rfl dX2_isDigit_17
    · refine z_iconst (pc := 12) hC (1 : Int32) rfl dX2_isDigit_12 ?_
      refine z_goto (pc := 13) hC 17 rfl dX2_isDigit_13 ?_
      exact z_zret (pc := 17) hC rfl rfl dX2_isDigit_17
theorem c_X2_isDigit {G : Geo} {Mm : Mem} (hG : GOk G) {a0 : Int32} (l : Launch) (r : Int32) (h : Re_isDigit a0 = some r) : Mt l yX2_isDigit cX2_isDigit 1 (some .boolean) rm_X2_isDigit G [.inl (.int a0)] (Mm) (avI r) (Mm) :=
  mt_of (mem := (fun _ : Unit => Mm)) (po := poP avI Mm) (x0 := ()) (t := r) rfl hG [.inl (.int a0)] (Nat.le_of_ble_eq_true rfl) rfl (fun C hC => r_Re_isDigit hC a0) h
-- FrameHeirs$Reader.formOf(I)[I
abbrev rm_X2_formOf : Room := { frames := 0, cells := 0, slots := 0, locals := 0 }
theorem dX2_formOf_0 : decode cX2_formOf 0 = .ok (.iload_n 0, 1) := by decide +kernel
theorem dX2_formOf_1 : decode cX2_formOf 1 = .ok (.tableswitch 47 7 10 #[31, 35, 39, 43], 31) := by decide +kernel
theorem dX2_formOf_32 : decode cX2_formOf 32 = .ok (.getstatic 140, 3) := by decide +kernel
theorem dX2_formOf_35 : decode cX2_formOf 35 = .ok (.areturn, 1) := by decide +kernel
theorem dX2_formOf_36 : decode cX2_formOf 36 = .ok (.getstatic 143, 3) := by decide +kernel
theorem dX2_formOf_39 : decode cX2_formOf 39 = .ok (.areturn, 1) := by decide +kernel
theorem dX2_formOf_40 : decode cX2_formOf 40 = .ok (.getstatic 146, 3) := by decide +kernel
theorem dX2_formOf_43 : decode cX2_formOf 43 = .ok (.areturn, 1) := by decide +kernel
theorem dX2_formOf_44 : decode cX2_formOf 44 = .ok (.getstatic 149, 3) := by decide +kernel
theorem dX2_formOf_47 : decode cX2_formOf 47 = .ok (.areturn, 1) := by decide +kernel
theorem dX2_formOf_48 : decode cX2_formOf 48 = .ok (.getstatic 152, 3) := by decide +kernel
theorem dX2_formOf_51 : decode cX2_formOf 51 = .ok (.areturn, 1) := by decide +kernel
def Re_formOf (a0 : Int32) : Option (Nat × Nat) :=
  if a0 = (7 : Int32) then
    (some (51, 6))
  else
    (if a0 = (8 : Int32) then
      (some (52, 5))
    else
      (if a0 = (9 : Int32) then
        (some (53, 5))
      else
        (if a0 = (10 : Int32) then
          (some (54, 3))
        else
          (some (55, 1)))))
theorem y_X2_formOf : YS yX2_formOf cX2_formOf 1 (some (.array .int)) 1 := ⟨q559, trivial, q560, q145, by decide +kernel, by decide +kernel, by decide +kernel, by decide +kernel⟩
theorem r_Re_formOf {C : Cxt} {G : Geo} {Mm : Mem} (hC : Cx C cX2_formOf 1 "FrameHeirs$Reader" (some (.array .int)) rm_X2_formOf G) (hT : LSt G) (a0 : Int32) : Rz C 1 G (fun _ : Unit => Mm) (poP avR Mm) 0 [(0, .inl (.int a0))] [] () (Re_formOf a0) := by
  unfold Re_formOf
  refine z_iload_n (pc := 0) hC 0 rfl 0 rfl dX2_formOf_0 ?_
  refine z_ite (fun e => ?_) (fun e0 => ?_)
  · refine z_tswIn (pc := 1) hC 7 32 (by rw [e]; rfl) (by decide) (by decide) rfl rfl dX2_formOf_1 ?_
    refine z_gets (pc := 32) hC (hT 51 rfl) (by decide) (by decide) q561 dX2_formOf_32 ?_
    exact z_aret (pc := 35) hC rfl rfl dX2_formOf_35
  · refine z_ite (fun e => ?_) (fun e1 => ?_)
    · refine z_tswIn (pc := 1) hC 8 36 (by rw [e]; rfl) (by decide) (by decide) rfl rfl dX2_formOf_1 ?_
      refine z_gets (pc := 36) hC (hT 52 rfl) (by decide) (by decide) q563 dX2_formOf_36 ?_
      exact z_aret (pc := 39) hC rfl rfl dX2_formOf_39
    · refine z_ite (fun e => ?_) (fun e2 => ?_)
      · refine z_tswIn (pc := 1) hC 9 40 (by rw [e]; rfl) (by decide) (by decide) rfl rfl dX2_formOf_1 ?_
        refine z_gets (pc := 40) hC (hT 53 rfl) (by decide) (by decide) q565 dX2_formOf_40 ?_
        exact z_aret (pc := 43) hC rfl rfl dX2_formOf_43
      · refine z_ite (fun e => ?_) (fun e3 => ?_)
        · refine z_tswIn (pc := 1) hC 10 44 (by rw [e]; rfl) (by decide) (by decide) rfl rfl dX2_formOf_1 ?_
          refine z_gets (pc := 44) hC (hT 54 rfl) (by decide) (by decide) q567 dX2_formOf_44 ?_
          exact z_aret (pc := 47) hC rfl rfl dX2_formOf_47
        · have e0_ : (a0).toInt ≠ 7 := fun h => e0 (Int32.toInt_inj.mp (by rw [h]; rfl))
          have e1_ : (a0).toInt ≠ 8 := fun h => e1 (Int32.toInt_inj.mp (by rw [h]; rfl))
          have e2_ : (a0).toInt ≠ 9 := fun h => e2 (Int32.toInt_inj.mp (by rw [h]; rfl))
          have e3_ : (a0).toInt ≠ 10 := fun h => e3 (Int32.toInt_inj.mp (by rw [h]; rfl))
          refine z_tswOut (pc := 1) hC 48 (by omega) rfl dX2_formOf_1 ?_
          refine z_gets (pc := 48) hC (hT 55 rfl) (by decide) (by decide) q569 dX2_formOf_48 ?_
          exact z_aret (pc := 51) hC rfl rfl dX2_formOf_51
theorem c_X2_formOf {G : Geo} {Mm : Mem} (hG : GOk G) (hT : LSt G) {a0 : Int32} (l : Launch) (r : (Nat × Nat)) (h : Re_formOf a0 = some r) : Mt l yX2_formOf cX2_formOf 1 (some (.array .int)) rm_X2_formOf G [.inl (.int a0)] (Mm) (avR r) (Mm) :=
  mt_of (mem := (fun _ : Unit => Mm)) (po := poP avR Mm) (x0 := ()) (t := r) rfl hG [.inl (.int a0)] (Nat.le_of_ble_eq_true rfl) rfl (fun C hC => r_Re_formOf hC hT a0) h
theorem fo_ok {G : Geo} (hT : LSt G) {w : Int32} : ∀ r, Re_formOf w = some r → FOk G r := by
  intro r h
  unfold Re_formOf at h
  repeat
    first
    | (split at h)
    | (cases h; exact ⟨hT _ rfl, rfl⟩)
-- FrameHeirs.areRights(I)Z
abbrev rm_X5_areRights : Room := { frames := 0, cells := 0, slots := 0, locals := 0 }
theorem dX5_areRights_0 : decode cX5_areRights 0 = .ok (.iload_n 0, 1) := by decide +kernel
theorem dX5_areRights_1 : decode cX5_areRights 1 = .ok (.iconst 1, 1) := by decide +kernel
theorem dX5_areRights_2 : decode cX5_areRights 2 = .ok (.if_icmp .lt 13, 3) := by decide +kernel
theorem dX5_areRights_5 : decode cX5_areRights 5 = .ok (.iload_n 0, 1) := by decide +kernel
theorem dX5_areRights_6 : decode cX5_areRights 6 = .ok (.bipush 7, 2) := by decide +kernel
theorem dX5_areRights_8 : decode cX5_areRights 8 = .ok (.if_icmp .gt 7, 3) := by decide +kernel
theorem dX5_areRights_11 : decode cX5_areRights 11 = .ok (.iconst 1, 1) := by decide +kernel
theorem dX5_areRights_12 : decode cX5_areRights 12 = .ok (.goto 4, 3) := by decide +kernel
theorem dX5_areRights_15 : decode cX5_areRights 15 = .ok (.iconst 0, 1) := by decide +kernel
theorem dX5_areRights_16 : decode cX5_areRights 16 = .ok (.ireturn, 1) := by decide +kernel
def Fh_areRights (a0 : Int32) : Option Int32 :=
  if a0 < (1 : Int32) then
    (some (0 : Int32))
  else
    (if (7 : Int32) < a0 then
      (some (0 : Int32))
    else
      (some (1 : Int32)))
theorem y_X5_areRights : YS yX5_areRights cX5_areRights 1 (some .boolean) 1 := ⟨q649, trivial, q650, q143, by decide +kernel, by decide +kernel, by decide +kernel, by decide +kernel⟩
theorem r_Fh_areRights {C : Cxt} {G : Geo} {Mm : Mem} (hC : Cx C cX5_areRights 1 "FrameHeirs" (some .boolean) rm_X5_areRights G) (a0 : Int32) : Rz C 1 G (fun _ : Unit => Mm) (poP avI Mm) 0 [(0, .inl (.int a0))] [] () (Fh_areRights a0) := by
  unfold Fh_areRights
  refine z_iload_n (pc := 0) hC 0 rfl 0 rfl dX5_areRights_0 ?_
  refine z_iconst (pc := 1) hC (1 : Int32) rfl dX5_areRights_1 ?_
  refine z_icmp_lt (pc := 2) hC 15 rfl dX5_areRights_2 ?_ ?_
  · refine z_iconst (pc := 15) hC (0 : Int32) rfl dX5_areRights_15 ?_
    exact z_zret (pc := 16) hC rfl rfl dX5_areRights_16
  · refine z_iload_n (pc := 5) hC 0 rfl 0 rfl dX5_areRights_5 ?_
    refine z_bipush (pc := 6) hC (7 : Int32) rfl dX5_areRights_6 ?_
    refine z_icmp_gt (pc := 8) hC 15 rfl dX5_areRights_8 ?_ ?_
    · refine z_iconst (pc := 15) hC (0 : Int32) rfl dX5_areRights_15 ?_
      exact z_zret (pc := 16) hC rfl rfl dX5_areRights_16
    · refine z_iconst (pc := 11) hC (1 : Int32) rfl dX5_areRights_11 ?_
      refine z_goto (pc := 12) hC 16 rfl dX5_areRights_12 ?_
      exact z_zret (pc := 16) hC rfl rfl dX5_areRights_16
theorem c_X5_areRights {G : Geo} {Mm : Mem} (hG : GOk G) {a0 : Int32} (l : Launch) (r : Int32) (h : Fh_areRights a0 = some r) : Mt l yX5_areRights cX5_areRights 1 (some .boolean) rm_X5_areRights G [.inl (.int a0)] (Mm) (avI r) (Mm) :=
  mt_of (mem := (fun _ : Unit => Mm)) (po := poP avI Mm) (x0 := ()) (t := r) rfl hG [.inl (.int a0)] (Nat.le_of_ble_eq_true rfl) rfl (fun C hC => r_Fh_areRights hC a0) h
-- FrameHeirs.bitsOf(F)I
abbrev rm_X5_bitsOf : Room := { frames := 0, cells := 0, slots := 0, locals := 0 }
theorem dX5_bitsOf_0 : decode cX5_bitsOf 0 = .ok (.fload_n 0, 1) := by decide +kernel
theorem dX5_bitsOf_1 : decode cX5_bitsOf 1 = .ok (.fconst 0, 1) := by decide +kernel
theorem dX5_bitsOf_2 : decode cX5_bitsOf 2 = .ok (.fcmp .l, 1) := by decide +kernel
theorem dX5_bitsOf_3 : decode cX5_bitsOf 3 = .ok (.ifCond .gt 5, 3) := by decide +kernel
theorem dX5_bitsOf_6 : decode cX5_bitsOf 6 = .ok (.iconst 0, 1) := by decide +kernel
theorem dX5_bitsOf_7 : decode cX5_bitsOf 7 = .ok (.ireturn, 1) := by decide +kernel
theorem dX5_bitsOf_8 : decode cX5_bitsOf 8 = .ok (.fload_n 0, 1) := by decide +kernel
theorem dX5_bitsOf_9 : decode cX5_bitsOf 9 = .ok (.ldc_w 313, 3) := by decide +kernel
theorem dX5_bitsOf_12 : decode cX5_bitsOf 12 = .ok (.fcmp .l, 1) := by decide +kernel
theorem dX5_bitsOf_13 : decode cX5_bitsOf 13 = .ok (.ifCond .le 7, 3) := by decide +kernel
theorem dX5_bitsOf_16 : decode cX5_bitsOf 16 = .ok (.ldc_w 314, 3) := by decide +kernel
theorem dX5_bitsOf_19 : decode cX5_bitsOf 19 = .ok (.ireturn, 1) := by decide +kernel
theorem dX5_bitsOf_20 : decode cX5_bitsOf 20 = .ok (.fload_n 0, 1) := by decide +kernel
theorem dX5_bitsOf_21 : decode cX5_bitsOf 21 = .ok (.f2d, 1) := by decide +kernel
theorem dX5_bitsOf_22 : decode cX5_bitsOf 22 = .ok (.dstore_n 1, 1) := by decide +kernel
theorem dX5_bitsOf_23 : decode cX5_bitsOf 23 = .ok (.iconst 0, 1) := by decide +kernel
theorem dX5_bitsOf_24 : decode cX5_bitsOf 24 = .ok (.istore_n 3, 1) := by decide +kernel
theorem dX5_bitsOf_25 : decode cX5_bitsOf 25 = .ok (.dload_n 1, 1) := by decide +kernel
theorem dX5_bitsOf_26 : decode cX5_bitsOf 26 = .ok (.ldc2_w 315, 3) := by decide +kernel
theorem dX5_bitsOf_29 : decode cX5_bitsOf 29 = .ok (.dcmp .l, 1) := by decide +kernel
theorem dX5_bitsOf_30 : decode cX5_bitsOf 30 = .ok (.ifCond .lt 21, 3) := by decide +kernel
theorem dX5_bitsOf_33 : decode cX5_bitsOf 33 = .ok (.iload_n 3, 1) := by decide +kernel
theorem dX5_bitsOf_34 : decode cX5_bitsOf 34 = .ok (.bipush 127, 2) := by decide +kernel
theorem dX5_bitsOf_36 : decode cX5_bitsOf 36 = .ok (.if_icmp .ge 15, 3) := by decide +kernel
theorem dX5_bitsOf_39 : decode cX5_bitsOf 39 = .ok (.dload_n 1, 1) := by decide +kernel
theorem dX5_bitsOf_40 : decode cX5_bitsOf 40 = .ok (.ldc2_w 315, 3) := by decide +kernel
theorem dX5_bitsOf_43 : decode cX5_bitsOf 43 = .ok (.ddiv, 1) := by decide +kernel
theorem dX5_bitsOf_44 : decode cX5_bitsOf 44 = .ok (.dstore_n 1, 1) := by decide +kernel
theorem dX5_bitsOf_45 : decode cX5_bitsOf 45 = .ok (.iinc 3 1, 3) := by decide +kernel
theorem dX5_bitsOf_48 : decode cX5_bitsOf 48 = .ok (.goto (-23), 3) := by decide +kernel
theorem dX5_bitsOf_51 : decode cX5_bitsOf 51 = .ok (.dload_n 1, 1) := by decide +kernel
theorem dX5_bitsOf_52 : decode cX5_bitsOf 52 = .ok (.dconst 1, 1) := by decide +kernel
theorem dX5_bitsOf_53 : decode cX5_bitsOf 53 = .ok (.dcmp .g, 1) := by decide +kernel
theorem dX5_bitsOf_54 : decode cX5_bitsOf 54 = .ok (.ifCond .ge 21, 3) := by decide +kernel
theorem dX5_bitsOf_57 : decode cX5_bitsOf 57 = .ok (.iload_n 3, 1) := by decide +kernel
theorem dX5_bitsOf_58 : decode cX5_bitsOf 58 = .ok (.bipush (-126), 2) := by decide +kernel
theorem dX5_bitsOf_60 : decode cX5_bitsOf 60 = .ok (.if_icmp .le 15, 3) := by decide +kernel
theorem dX5_bitsOf_63 : decode cX5_bitsOf 63 = .ok (.dload_n 1, 1) := by decide +kernel
theorem dX5_bitsOf_64 : decode cX5_bitsOf 64 = .ok (.ldc2_w 315, 3) := by decide +kernel
theorem dX5_bitsOf_67 : decode cX5_bitsOf 67 = .ok (.dmul, 1) := by decide +kernel
theorem dX5_bitsOf_68 : decode cX5_bitsOf 68 = .ok (.dstore_n 1, 1) := by decide +kernel
theorem dX5_bitsOf_69 : decode cX5_bitsOf 69 = .ok (.iinc 3 (-1), 3) := by decide +kernel
theorem dX5_bitsOf_72 : decode cX5_bitsOf 72 = .ok (.goto (-21), 3) := by decide +kernel
theorem dX5_bitsOf_75 : decode cX5_bitsOf 75 = .ok (.dload_n 1, 1) := by decide +kernel
theorem dX5_bitsOf_76 : decode cX5_bitsOf 76 = .ok (.ldc2_w 317, 3) := by decide +kernel
theorem dX5_bitsOf_79 : decode cX5_bitsOf 79 = .ok (.dmul, 1) := by decide +kernel
theorem dX5_bitsOf_80 : decode cX5_bitsOf 80 = .ok (.d2i, 1) := by decide +kernel
theorem dX5_bitsOf_81 : decode cX5_bitsOf 81 = .ok (.istore 4, 2) := by decide +kernel
theorem dX5_bitsOf_83 : decode cX5_bitsOf 83 = .ok (.dload_n 1, 1) := by decide +kernel
theorem dX5_bitsOf_84 : decode cX5_bitsOf 84 = .ok (.dconst 1, 1) := by decide +kernel
theorem dX5_bitsOf_85 : decode cX5_bitsOf 85 = .ok (.dcmp .g, 1) := by decide +kernel
theorem dX5_bitsOf_86 : decode cX5_bitsOf 86 = .ok (.ifCond .ge 8, 3) := by decide +kernel
theorem dX5_bitsOf_89 : decode cX5_bitsOf 89 = .ok (.iload 4, 2) := by decide +kernel
theorem dX5_bitsOf_91 : decode cX5_bitsOf 91 = .ok (.goto 13, 3) := by decide +kernel
theorem dX5_bitsOf_94 : decode cX5_bitsOf 94 = .ok (.iload_n 3, 1) := by decide +kernel
theorem dX5_bitsOf_95 : decode cX5_bitsOf 95 = .ok (.bipush 126, 2) := by decide +kernel
theorem dX5_bitsOf_97 : decode cX5_bitsOf 97 = .ok (.iadd, 1) := by decide +kernel
theorem dX5_bitsOf_98 : decode cX5_bitsOf 98 = .ok (.bipush 23, 2) := by decide +kernel
theorem dX5_bitsOf_100 : decode cX5_bitsOf 100 = .ok (.ishl, 1) := by decide +kernel
theorem dX5_bitsOf_101 : decode cX5_bitsOf 101 = .ok (.iload 4, 2) := by decide +kernel
theorem dX5_bitsOf_103 : decode cX5_bitsOf 103 = .ok (.iadd, 1) := by decide +kernel
theorem dX5_bitsOf_104 : decode cX5_bitsOf 104 = .ok (.ireturn, 1) := by decide +kernel
def Fh_bitsOf_75 (v1 : UInt64) (v3 : Int32) : Option Int32 :=
  if nn64 (FP.dmul v1 (4710765210229538816 : UInt64)) then
  bnd (FP.d2i (FP.dmul v1 (4710765210229538816 : UInt64))) fun v4_1 =>
  if 0 ≤ (Op.cmpValue (FP.dcmp v1 FP.dconst1) .g) then
    (some (((v3 + (126 : Int32)) <<< ((23 : Int32) &&& 31)) + v4_1))
  else
    (some v4_1)
  else none
def Fh_bitsOf_51 : Nat → UInt64 → Int32 → Option Int32
  | 0, _, _ => none
  | n + 1, v1, v3 =>
    if 0 ≤ (Op.cmpValue (FP.dcmp v1 FP.dconst1) .g) then
      (Fh_bitsOf_75 v1 v3)
    else
      (if v3 ≤ (-126 : Int32) then
        (Fh_bitsOf_75 v1 v3)
      else
        (if nn64 (FP.dmul v1 (4611686018427387904 : UInt64)) then
        bnd (FP.dmul v1 (4611686018427387904 : UInt64)) fun v1_2 =>
        bnd (v3 + (-1 : Int32)) fun v3_3 =>
        Fh_bitsOf_51 n v1_2 v3_3
        else none))
def Fh_bitsOf_25 : Nat → UInt64 → Int32 → Option Int32
  | 0, _, _ => none
  | n + 1, v1, v3 =>
    if (Op.cmpValue (FP.dcmp v1 (4611686018427387904 : UInt64)) .l) < 0 then
      (Fh_bitsOf_51 FU v1 v3)
    else
      (if (127 : Int32) ≤ v3 then
        (Fh_bitsOf_51 FU v1 v3)
      else
        (if nn64 (FP.ddiv v1 (4611686018427387904 : UInt64)) then
        bnd (FP.ddiv v1 (4611686018427387904 : UInt64)) fun v1_4 =>
        bnd (v3 + (1 : Int32)) fun v3_5 =>
        Fh_bitsOf_25 n v1_4 v3_5
        else none))
def Fh_bitsOf (a0 : UInt32) : Option Int32 :=
  if 0 < (Op.cmpValue (FP.fcmp a0 FP.fconst0) .l) then
    (if (Op.cmpValue (FP.fcmp a0 (2139095039 : UInt32)) .l) ≤ 0 then
      (if nn64 (FP.f2d a0) then
      bnd (FP.f2d a0) fun v1_6 =>
      bnd (0 : Int32) fun v3_7 =>
      Fh_bitsOf_25 FU v1_6 v3_7
      else none)
    else
      (some (2139095040 : Int32)))
  else
    (some (0 : Int32))
theorem y_X5_bitsOf : YS yX5_bitsOf cX5_bitsOf 5 (some .int) 1 := ⟨q1016, trivial, q1017, q143, by decide +kernel, by decide +kernel, by decide +kernel, by decide +kernel⟩
theorem r_Fh_bitsOf_75 {C : Cxt} {G : Geo} {Mm : Mem} (hC : Cx C cX5_bitsOf 5 "FrameHeirs" (some .int) rm_X5_bitsOf G) (v1 : UInt64) (v3 : Int32) : Rz C 5 G (fun _ : Unit => Mm) (poP avI Mm) 75 [(1, .inl (.double v1)), (3, .inl (.int v3))] [] () (Fh_bitsOf_75 v1 v3) := by
  unfold Fh_bitsOf_75
  refine z_dload_n (pc := 75) hC 1 rfl 0 rfl dX5_bitsOf_75 ?_
  refine z_ldc2d (pc := 76) hC (4710765210229538816 : UInt64) q1021 dX5_bitsOf_76 ?_
  refine z_dmul (pc := 79) hC dX5_bitsOf_79 ?_
  refine z_d2i (pc := 80) hC dX5_bitsOf_80 ?_
  refine z_istore (pc := 81) (ls1 := fun v => [(4, .inl (.int v)), (1, .inl (.double v1)), (3, .inl (.int v3))]) hC 4 (by decide) (fun v => rfl) dX5_bitsOf_81 (fun v4_1 => ?_)
  refine z_dload_n (pc := 83) hC 1 rfl 1 rfl dX5_bitsOf_83 ?_
  refine z_dconst1 (pc := 84) hC dX5_bitsOf_84 ?_
  refine z_dcmp (pc := 85) hC dX5_bitsOf_85 ?_
  refine z_if_ge (pc := 86) hC 94 rfl dX5_bitsOf_86 ?_ ?_
  · refine z_iload_n (pc := 94) hC 3 rfl 2 rfl dX5_bitsOf_94 ?_
    refine z_bipush (pc := 95) hC (126 : Int32) rfl dX5_bitsOf_95 ?_
    refine z_iadd (pc := 97) hC dX5_bitsOf_97 ?_
    refine z_bipush (pc := 98) hC (23 : Int32) rfl dX5_bitsOf_98 ?_
    refine z_ishl (pc := 100) hC dX5_bitsOf_100 ?_
    refine z_iload (pc := 101) hC 4 0 rfl dX5_bitsOf_101 ?_
    refine z_iadd (pc := 103) hC dX5_bitsOf_103 ?_
    exact z_iret (pc := 104) hC rfl dX5_bitsOf_104
  · refine z_iload (pc := 89) hC 4 0 rfl dX5_bitsOf_89 ?_
    refine z_goto (pc := 91) hC 104 rfl dX5_bitsOf_91 ?_
    exact z_iret (pc := 104) hC rfl dX5_bitsOf_104
theorem r_Fh_bitsOf_51 {C : Cxt} {G : Geo} {Mm : Mem} (hC : Cx C cX5_bitsOf 5 "FrameHeirs" (some .int) rm_X5_bitsOf G) : ∀ (n : Nat) (v1 : UInt64) (v3 : Int32), Rz C 5 G (fun _ : Unit => Mm) (poP avI Mm) 51 [(1, .inl (.double v1)), (3, .inl (.int v3))] [] () (Fh_bitsOf_51 n v1 v3) := by
  intro n
  induction n with
  | zero => intros; exact z_none
  | succ n ih =>
    intro v1 v3
    rw [Fh_bitsOf_51]
    refine z_dload_n (pc := 51) hC 1 rfl 0 rfl dX5_bitsOf_51 ?_
    refine z_dconst1 (pc := 52) hC dX5_bitsOf_52 ?_
    refine z_dcmp (pc := 53) hC dX5_bitsOf_53 ?_
    refine z_if_ge (pc := 54) hC 75 rfl dX5_bitsOf_54 ?_ ?_
    · exact z_sub [0, 1] rfl (r_Fh_bitsOf_75 hC v1 v3)
    · refine z_iload_n (pc := 57) hC 3 rfl 1 rfl dX5_bitsOf_57 ?_
      refine z_bipush (pc := 58) hC (-126 : Int32) rfl dX5_bitsOf_58 ?_
      refine z_icmp_le (pc := 60) hC 75 rfl dX5_bitsOf_60 ?_ ?_
      · exact z_sub [0, 1] rfl (r_Fh_bitsOf_75 hC v1 v3)
      · refine z_dload_n (pc := 63) hC 1 rfl 0 rfl dX5_bitsOf_63 ?_
        refine z_ldc2d (pc := 64) hC (4611686018427387904 : UInt64) q1020 dX5_bitsOf_64 ?_
        refine z_dmul (pc := 67) hC dX5_bitsOf_67 ?_
        refine z_dstore_n (pc := 68) (ls1 := fun v => [(1, .inl (.double v)), (3, .inl (.int v3))]) hC 1 rfl (by decide) (fun v => rfl) dX5_bitsOf_68 (fun v1_2 => ?_)
        refine z_iinc (pc := 69) (ls1 := fun v => [(3, .inl (.int v)), (1, .inl (.double v1_2))]) hC 3 1 (by decide) (-1 : Int32) rfl rfl (fun v => rfl) dX5_bitsOf_69 (fun v3_3 => ?_)
        refine z_goto (pc := 72) hC 51 rfl dX5_bitsOf_72 ?_
        exact z_sub [1, 0] rfl (ih v1_2 v3_3)
theorem r_Fh_bitsOf_25 {C : Cxt} {G : Geo} {Mm : Mem} (hC : Cx C cX5_bitsOf 5 "FrameHeirs" (some .int) rm_X5_bitsOf G) : ∀ (n : Nat) (v1 : UInt64) (v3 : Int32), Rz C 5 G (fun _ : Unit => Mm) (poP avI Mm) 25 [(1, .inl (.double v1)), (3, .inl (.int v3))] [] () (Fh_bitsOf_25 n v1 v3) := by
  intro n
  induction n with
  | zero => intros; exact z_none
  | succ n ih =>
    intro v1 v3
    rw [Fh_bitsOf_25]
    refine z_dload_n (pc := 25) hC 1 rfl 0 rfl dX5_bitsOf_25 ?_
    refine z_ldc2d (pc := 26) hC (4611686018427387904 : UInt64) q1020 dX5_bitsOf_26 ?_
    refine z_dcmp (pc := 29) hC dX5_bitsOf_29 ?_
    refine z_if_lt (pc := 30) hC 51 rfl dX5_bitsOf_30 ?_ ?_
    · exact z_sub [0, 1] rfl (r_Fh_bitsOf_51 hC FU v1 v3)
    · refine z_iload_n (pc := 33) hC 3 rfl 1 rfl dX5_bitsOf_33 ?_
      refine z_bipush (pc := 34) hC (127 : Int32) rfl dX5_bitsOf_34 ?_
      refine z_icmp_ge (pc := 36) hC 51 rfl dX5_bitsOf_36 ?_ ?_
      · exact z_sub [0, 1] rfl (r_Fh_bitsOf_51 hC FU v1 v3)
      · refine z_dload_n (pc := 39) hC 1 rfl 0 rfl dX5_bitsOf_39 ?_
        refine z_ldc2d (pc := 40) hC (4611686018427387904 : UInt64) q1020 dX5_bitsOf_40 ?_
        refine z_ddiv (pc := 43) hC dX5_bitsOf_43 ?_
        refine z_dstore_n (pc := 44) (ls1 := fun v => [(1, .inl (.double v)), (3, .inl (.int v3))]) hC 1 rfl (by decide) (fun v => rfl) dX5_bitsOf_44 (fun v1_4 => ?_)
        refine z_iinc (pc := 45) (ls1 := fun v => [(3, .inl (.int v)), (1, .inl (.double v1_4))]) hC 3 1 (by decide) (1 : Int32) rfl rfl (fun v => rfl) dX5_bitsOf_45 (fun v3_5 => ?_)
        refine z_goto (pc := 48) hC 25 rfl dX5_bitsOf_48 ?_
        exact z_sub [1, 0] rfl (ih v1_4 v3_5)
theorem r_Fh_bitsOf {C : Cxt} {G : Geo} {Mm : Mem} (hC : Cx C cX5_bitsOf 5 "FrameHeirs" (some .int) rm_X5_bitsOf G) (a0 : UInt32) : Rz C 5 G (fun _ : Unit => Mm) (poP avI Mm) 0 [(0, .inl (.float a0))] [] () (Fh_bitsOf a0) := by
  unfold Fh_bitsOf
  refine z_fload_n (pc := 0) hC 0 rfl 0 rfl dX5_bitsOf_0 ?_
  refine z_fconst0 (pc := 1) hC dX5_bitsOf_1 ?_
  refine z_fcmp (pc := 2) hC dX5_bitsOf_2 ?_
  refine z_if_gt (pc := 3) hC 8 rfl dX5_bitsOf_3 ?_ ?_
  · refine z_fload_n (pc := 8) hC 0 rfl 0 rfl dX5_bitsOf_8 ?_
    refine z_ldcwf (pc := 9) hC (2139095039 : UInt32) q1018 dX5_bitsOf_9 ?_
    refine z_fcmp (pc := 12) hC dX5_bitsOf_12 ?_
    refine z_if_le (pc := 13) hC 20 rfl dX5_bitsOf_13 ?_ ?_
    · refine z_fload_n (pc := 20) hC 0 rfl 0 rfl dX5_bitsOf_20 ?_
      refine z_f2d (pc := 21) hC dX5_bitsOf_21 ?_
      refine z_dstore_n (pc := 22) (ls1 := fun v => [(1, .inl (.double v)), (0, .inl (.float a0))]) hC 1 rfl (by decide) (fun v => rfl) dX5_bitsOf_22 (fun v1_6 => ?_)
      refine z_iconst (pc := 23) hC (0 : Int32) rfl dX5_bitsOf_23 ?_
      refine z_istore_n (pc := 24) (ls1 := fun v => [(3, .inl (.int v)), (1, .inl (.double v1_6)), (0, .inl (.float a0))]) hC 3 rfl (by decide) (fun v => rfl) dX5_bitsOf_24 (fun v3_7 => ?_)
      exact z_sub [1, 0] rfl (r_Fh_bitsOf_25 hC FU v1_6 v3_7)
    · refine z_ldcw (pc := 16) hC (2139095040 : Int32) q1019 dX5_bitsOf_16 ?_
      exact z_iret (pc := 19) hC rfl dX5_bitsOf_19
  · refine z_iconst (pc := 6) hC (0 : Int32) rfl dX5_bitsOf_6 ?_
    exact z_iret (pc := 7) hC rfl dX5_bitsOf_7
theorem c_X5_bitsOf {G : Geo} {Mm : Mem} (hG : GOk G) {a0 : UInt32} (l : Launch) (r : Int32) (h : Fh_bitsOf a0 = some r) : Mt l yX5_bitsOf cX5_bitsOf 5 (some .int) rm_X5_bitsOf G [.inl (.float a0)] (Mm) (avI r) (Mm) :=
  mt_of (mem := (fun _ : Unit => Mm)) (po := poP avI Mm) (x0 := ()) (t := r) rfl hG [.inl (.float a0)] (Nat.le_of_ble_eq_true rfl) rfl (fun C hC => r_Fh_bitsOf hC a0) h
-- FrameHeirs.drawnAfter(I)I
abbrev rm_X5_drawnAfter : Room := { frames := 0, cells := 0, slots := 0, locals := 0 }
theorem dX5_drawnAfter_0 : decode cX5_drawnAfter 0 = .ok (.iload_n 0, 1) := by decide +kernel
theorem dX5_drawnAfter_1 : decode cX5_drawnAfter 1 = .ok (.ldc_w 312, 3) := by decide +kernel
theorem dX5_drawnAfter_4 : decode cX5_drawnAfter 4 = .ok (.imul, 1) := by decide +kernel
theorem dX5_drawnAfter_5 : decode cX5_drawnAfter 5 = .ok (.sipush 12345, 3) := by decide +kernel
theorem dX5_drawnAfter_8 : decode cX5_drawnAfter 8 = .ok (.iadd, 1) := by decide +kernel
theorem dX5_drawnAfter_9 : decode cX5_drawnAfter 9 = .ok (.ldc 250, 2) := by decide +kernel
theorem dX5_drawnAfter_11 : decode cX5_drawnAfter 11 = .ok (.iand, 1) := by decide +kernel
theorem dX5_drawnAfter_12 : decode cX5_drawnAfter 12 = .ok (.ireturn, 1) := by decide +kernel
def Fh_drawnAfter (a0 : Int32) : Option Int32 :=
  some (((a0 * (1103515245 : Int32)) + (12345 : Int32)) &&& (2147483647 : Int32))
theorem y_X5_drawnAfter : YS yX5_drawnAfter cX5_drawnAfter 1 (some .int) 1 := ⟨q1106, trivial, q1107, q143, by decide +kernel, by decide +kernel, by decide +kernel, by decide +kernel⟩
theorem r_Fh_drawnAfter {C : Cxt} {G : Geo} {Mm : Mem} (hC : Cx C cX5_drawnAfter 1 "FrameHeirs" (some .int) rm_X5_drawnAfter G) (a0 : Int32) : Rz C 1 G (fun _ : Unit => Mm) (poP avI Mm) 0 [(0, .inl (.int a0))] [] () (Fh_drawnAfter a0) := by
  unfold Fh_drawnAfter
  refine z_iload_n (pc := 0) hC 0 rfl 0 rfl dX5_drawnAfter_0 ?_
  refine z_ldcw (pc := 1) hC (1103515245 : Int32) q1108 dX5_drawnAfter_1 ?_
  refine z_imul (pc := 4) hC dX5_drawnAfter_4 ?_
  refine z_sipush (pc := 5) hC (12345 : Int32) rfl dX5_drawnAfter_5 ?_
  refine z_iadd (pc := 8) hC dX5_drawnAfter_8 ?_
  refine z_ldc (pc := 9) hC (2147483647 : Int32) q1036 dX5_drawnAfter_9 ?_
  refine z_iand (pc := 11) hC dX5_drawnAfter_11 ?_
  exact z_iret (pc := 12) hC rfl dX5_drawnAfter_12
theorem c_X5_drawnAfter {G : Geo} {Mm : Mem} (hG : GOk G) {a0 : Int32} (l : Launch) (r : Int32) (h : Fh_drawnAfter a0 = some r) : Mt l yX5_drawnAfter cX5_drawnAfter 1 (some .int) rm_X5_drawnAfter G [.inl (.int a0)] (Mm) (avI r) (Mm) :=
  mt_of (mem := (fun _ : Unit => Mm)) (po := poP avI Mm) (x0 := ()) (t := r) rfl hG [.inl (.int a0)] (Nat.le_of_ble_eq_true rfl) rfl (fun C hC => r_Fh_drawnAfter hC a0) h
-- FrameHeirsModel.copies([II)V
abbrev rm_X6_copies : Room := { frames := 0, cells := 0, slots := 0, locals := 0 }
theorem dX6_copies_0 : decode cX6_copies 0 = .ok (.iconst 0, 1) := by decide +kernel
theorem dX6_copies_1 : decode cX6_copies 1 = .ok (.istore_n 2, 1) := by decide +kernel
theorem dX6_copies_2 : decode cX6_copies 2 = .ok (.iload_n 2, 1) := by decide +kernel
theorem dX6_copies_3 : decode cX6_copies 3 = .ok (.iload_n 1, 1) := by decide +kernel
theorem dX6_copies_4 : decode cX6_copies 4 = .ok (.if_icmp .ge 17, 3) := by decide +kernel
theorem dX6_copies_7 : decode cX6_copies 7 = .ok (.aload_n 0, 1) := by decide +kernel
theorem dX6_copies_8 : decode cX6_copies 8 = .ok (.iload_n 2, 1) := by decide +kernel
theorem dX6_copies_9 : decode cX6_copies 9 = .ok (.aload_n 0, 1) := by decide +kernel
theorem dX6_copies_10 : decode cX6_copies 10 = .ok (.iload_n 1, 1) := by decide +kernel
theorem dX6_copies_11 : decode cX6_copies 11 = .ok (.iload_n 2, 1) := by decide +kernel
theorem dX6_copies_12 : decode cX6_copies 12 = .ok (.iadd, 1) := by decide +kernel
theorem dX6_copies_13 : decode cX6_copies 13 = .ok (.iaload, 1) := by decide +kernel
theorem dX6_copies_14 : decode cX6_copies 14 = .ok (.iastore, 1) := by decide +kernel
theorem dX6_copies_15 : decode cX6_copies 15 = .ok (.iinc 2 1, 3) := by decide +kernel
theorem dX6_copies_18 : decode cX6_copies 18 = .ok (.goto (-16), 3) := by decide +kernel
theorem dX6_copies_21 : decode cX6_copies 21 = .ok (.return_, 1) := by decide +kernel
def Mo_copies_2 (b0 Nb0 : Nat) : Nat → Int32 → Int32 → Sl → Option (Unit × Sl)
  | 0, _, _, _ => none
  | n + 1, v1, v2, d =>
    if v1 ≤ v2 then
      (some ((), d))
    else
      (if inb (v1 + v2) Nb0 then
      if inb v2 Nb0 then
      bnd (wr d b0 (ix v2) (d b0 (ix (v1 + v2)))) fun d1 =>
      bnd (v2 + (1 : Int32)) fun v2_2 =>
      Mo_copies_2 b0 Nb0 n v1 v2_2 d1
      else none
      else none)
def Mo_copies (b0 Nb0 : Nat) (d : Sl) (a1 : Int32) : Option (Unit × Sl) :=
  bnd (0 : Int32) fun v2_3 =>
  Mo_copies_2 b0 Nb0 FU a1 v2_3 d
theorem y_X6_copies : YS yX6_copies cX6_copies 3 none 2 := ⟨q1244, trivial, q1245, q149, by decide +kernel, by decide +kernel, by decide +kernel, by decide +kernel⟩
theorem r_Mo_copies_2 {C : Cxt} {G : Geo} {M : Mem} {k : Nat} {b0 Nb0 : Nat} (hC : Cx C cX6_copies 3 "FrameHeirsModel" none rm_X6_copies G) (hk : G.2.2.2 k b0) (hb : b0 < 48) (hkd : kd b0 = .inl (0, Nb0)) : ∀ (n : Nat) (v1 : Int32) (v2 : Int32) (d : Sl), Rz C 3 G (setS M k) (poM avV (setS M k)) 2 [(0, .inr (k, b0)), (1, .inl (.int v1)), (2, .inl (.int v2))] [] d (Mo_copies_2 b0 Nb0 n v1 v2 d) := by
  intro n
  induction n with
  | zero => intros; exact z_none
  | succ n ih =>
    intro v1 v2 d
    rw [Mo_copies_2]
    refine z_iload_n (pc := 2) hC 2 rfl 2 rfl dX6_copies_2 ?_
    refine z_iload_n (pc := 3) hC 1 rfl 1 rfl dX6_copies_3 ?_
    refine z_icmp_ge (pc := 4) hC 21 rfl dX6_copies_4 ?_ ?_
    · exact z_vret (pc := 21) hC rfl dX6_copies_21
    · refine z_aload_n (pc := 7) hC 0 rfl 0 rfl dX6_copies_7 ?_
      refine z_iload_n (pc := 8) hC 2 rfl 2 rfl dX6_copies_8 ?_
      refine z_aload_n (pc := 9) hC 0 rfl 0 rfl dX6_copies_9 ?_
      refine z_iload_n (pc := 10) hC 1 rfl 1 rfl dX6_copies_10 ?_
      refine z_iload_n (pc := 11) hC 2 rfl 2 rfl dX6_copies_11 ?_
      refine z_iadd (pc := 12) hC dX6_copies_12 ?_
      refine zs_iald (pc := 13) hC hk hkd dX6_copies_13 ?_
      refine zs_iast (pc := 14) hC hk hb hkd dX6_copies_14 (fun d1 => ?_)
      refine z_iinc (pc := 15) (ls1 := fun v => [(2, .inl (.int v)), (0, .inr (k, b0)), (1, .inl (.int v1))]) hC 2 2 (by decide) (1 : Int32) rfl rfl (fun v => rfl) dX6_copies_15 (fun v2_2 => ?_)
      refine z_goto (pc := 18) hC 2 rfl dX6_copies_18 ?_
      exact z_sub [1, 2, 0] rfl (ih v1 v2_2 d1)
theorem r_Mo_copies {C : Cxt} {G : Geo} {M : Mem} {k : Nat} {b0 Nb0 : Nat} (hC : Cx C cX6_copies 3 "FrameHeirsModel" none rm_X6_copies G) (hk : G.2.2.2 k b0) (hb : b0 < 48) (hkd : kd b0 = .inl (0, Nb0)) (d : Sl) (a1 : Int32) : Rz C 3 G (setS M k) (poM avV (setS M k)) 0 [(0, .inr (k, b0)), (1, .inl (.int a1))] [] d (Mo_copies b0 Nb0 d a1) := by
  unfold Mo_copies
  refine z_iconst (pc := 0) hC (0 : Int32) rfl dX6_copies_0 ?_
  refine z_istore_n (pc := 1) (ls1 := fun v => [(2, .inl (.int v)), (0, .inr (k, b0)), (1, .inl (.int a1))]) hC 2 rfl (by decide) (fun v => rfl) dX6_copies_1 (fun v2_3 => ?_)
  exact z_sub [1, 2, 0] rfl (r_Mo_copies_2 hC hk hb hkd FU a1 v2_3 d)
theorem c_X6_copies {G : Geo} {M : Mem} {k : Nat} {b0 Nb0 : Nat} (hG : GOk G) (hk : G.2.2.2 k b0) (hb : b0 < 48) (hkd : kd b0 = .inl (0, Nb0)) {d : Sl} {a1 : Int32} (l : Launch) (r : Unit) (d1 : Sl) (h : Mo_copies b0 Nb0 d a1 = some (r, d1)) : Mt l yX6_copies cX6_copies 3 none rm_X6_copies G [.inr (k, b0), .inl (.int a1)] ((setS M k) d) (avV r) ((setS M k) d1) :=
  mt_of (mem := (setS M k)) (po := poM avV (setS M k)) (x0 := d) (t := (r, d1)) rfl hG [.inr (k, b0), .inl (.int a1)] (Nat.le_of_ble_eq_true rfl) rfl (fun C hC => r_Mo_copies hC hk hb hkd d a1) h
-- FrameHeirsModel.isIn(III)Z
abbrev rm_X6_isIn : Room := { frames := 0, cells := 0, slots := 0, locals := 0 }
theorem dX6_isIn_0 : decode cX6_isIn 0 = .ok (.iload_n 0, 1) := by decide +kernel
theorem dX6_isIn_1 : decode cX6_isIn 1 = .ok (.iload_n 1, 1) := by decide +kernel
theorem dX6_isIn_2 : decode cX6_isIn 2 = .ok (.if_icmp .lt 12, 3) := by decide +kernel
theorem dX6_isIn_5 : decode cX6_isIn 5 = .ok (.iload_n 0, 1) := by decide +kernel
theorem dX6_isIn_6 : decode cX6_isIn 6 = .ok (.iload_n 2, 1) := by decide +kernel
theorem dX6_isIn_7 : decode cX6_isIn 7 = .ok (.if_icmp .gt 7, 3) := by decide +kernel
theorem dX6_isIn_10 : decode cX6_isIn 10 = .ok (.iconst 1, 1) := by decide +kernel
theorem dX6_isIn_11 : decode cX6_isIn 11 = .ok (.goto 4, 3) := by decide +kernel
theorem dX6_isIn_14 : decode cX6_isIn 14 = .ok (.iconst 0, 1) := by decide +kernel
theorem dX6_isIn_15 : decode cX6_isIn 15 = .ok (.ireturn, 1) := by decide +kernel
def Mo_isIn (a0 : Int32) (a1 : Int32) (a2 : Int32) : Option Int32 :=
  if a0 < a1 then
    (some (0 : Int32))
  else
    (if a2 < a0 then
      (some (0 : Int32))
    else
      (some (1 : Int32)))
theorem y_X6_isIn : YS yX6_isIn cX6_isIn 3 (some .boolean) 3 := ⟨q1430, trivial, q1431, q149, by decide +kernel, by decide +kernel, by decide +kernel, by decide +kernel⟩
theorem r_Mo_isIn {C : Cxt} {G : Geo} {Mm : Mem} (hC : Cx C cX6_isIn 3 "FrameHeirsModel" (some .boolean) rm_X6_isIn G) (a0 : Int32) (a1 : Int32) (a2 : Int32) : Rz C 3 G (fun _ : Unit => Mm) (poP avI Mm) 0 [(0, .inl (.int a0)), (1, .inl (.int a1)), (2, .inl (.int a2))] [] () (Mo_isIn a0 a1 a2) := by
  unfold Mo_isIn
  refine z_iload_n (pc := 0) hC 0 rfl 0 rfl dX6_isIn_0 ?_
  refine z_iload_n (pc := 1) hC 1 rfl 1 rfl dX6_isIn_1 ?_
  refine z_icmp_lt (pc := 2) hC 14 rfl dX6_isIn_2 ?_ ?_
  · refine z_iconst (pc := 14) hC (0 : Int32) rfl dX6_isIn_14 ?_
    exact z_zret (pc := 15) hC rfl rfl dX6_isIn_15
  · refine z_iload_n (pc := 5) hC 0 rfl 0 rfl dX6_isIn_5 ?_
    refine z_iload_n (pc := 6) hC 2 rfl 2 rfl dX6_isIn_6 ?_
    refine z_icmp_gt (pc := 7) hC 14 rfl dX6_isIn_7 ?_ ?_
    · refine z_iconst (pc := 14) hC (0 : Int32) rfl dX6_isIn_14 ?_
      exact z_zret (pc := 15) hC rfl rfl dX6_isIn_15
    · refine z_iconst (pc := 10) hC (1 : Int32) rfl dX6_isIn_10 ?_
      refine z_goto (pc := 11) hC 15 rfl dX6_isIn_11 ?_
      exact z_zret (pc := 15) hC rfl rfl dX6_isIn_15
theorem c_X6_isIn {G : Geo} {Mm : Mem} (hG : GOk G) {a0 : Int32} {a1 : Int32} {a2 : Int32} (l : Launch) (r : Int32) (h : Mo_isIn a0 a1 a2 = some r) : Mt l yX6_isIn cX6_isIn 3 (some .boolean) rm_X6_isIn G [.inl (.int a0), .inl (.int a1), .inl (.int a2)] (Mm) (avI r) (Mm) :=
  mt_of (mem := (fun _ : Unit => Mm)) (po := poP avI Mm) (x0 := ()) (t := r) rfl hG [.inl (.int a0), .inl (.int a1), .inl (.int a2)] (Nat.le_of_ble_eq_true rfl) rfl (fun C hC => r_Mo_isIn hC a0 a1 a2) h
-- FrameHeirsModel.packedFloat(JI)I
abbrev rm_X6_packedFloat : Room := { frames := 0, cells := 0, slots := 0, locals := 0 }
theorem dX6_packedFloat_0 : decode cX6_packedFloat 0 = .ok (.lload_n 0, 1) := by decide +kernel
theorem dX6_packedFloat_1 : decode cX6_packedFloat 1 = .ok (.lconst 0, 1) := by decide +kernel
theorem dX6_packedFloat_2 : decode cX6_packedFloat 2 = .ok (.lcmp, 1) := by decide +kernel
theorem dX6_packedFloat_3 : decode cX6_packedFloat 3 = .ok (.ifCond .ne 5, 3) := by decide +kernel
theorem dX6_packedFloat_6 : decode cX6_packedFloat 6 = .ok (.iconst 0, 1) := by decide +kernel
theorem dX6_packedFloat_7 : decode cX6_packedFloat 7 = .ok (.ireturn, 1) := by decide +kernel
theorem dX6_packedFloat_8 : decode cX6_packedFloat 8 = .ok (.iconst 0, 1) := by decide +kernel
theorem dX6_packedFloat_9 : decode cX6_packedFloat 9 = .ok (.istore_n 3, 1) := by decide +kernel
theorem dX6_packedFloat_10 : decode cX6_packedFloat 10 = .ok (.iload_n 3, 1) := by decide +kernel
theorem dX6_packedFloat_11 : decode cX6_packedFloat 11 = .ok (.bipush 62, 2) := by decide +kernel
theorem dX6_packedFloat_13 : decode cX6_packedFloat 13 = .ok (.if_icmp .ge 17, 3) := by decide +kernel
theorem dX6_packedFloat_16 : decode cX6_packedFloat 16 = .ok (.lload_n 0, 1) := by decide +kernel
theorem dX6_packedFloat_17 : decode cX6_packedFloat 17 = .ok (.iload_n 3, 1) := by decide +kernel
theorem dX6_packedFloat_18 : decode cX6_packedFloat 18 = .ok (.lshr, 1) := by decide +kernel
theorem dX6_packedFloat_19 : decode cX6_packedFloat 19 = .ok (.lconst 0, 1) := by decide +kernel
theorem dX6_packedFloat_20 : decode cX6_packedFloat 20 = .ok (.lcmp, 1) := by decide +kernel
theorem dX6_packedFloat_21 : decode cX6_packedFloat 21 = .ok (.ifCond .le 9, 3) := by decide +kernel
theorem dX6_packedFloat_24 : decode cX6_packedFloat 24 = .ok (.iinc 3 1, 3) := by decide +kernel
theorem dX6_packedFloat_27 : decode cX6_packedFloat 27 = .ok (.goto (-17), 3) := by decide +kernel
theorem dX6_packedFloat_30 : decode cX6_packedFloat 30 = .ok (.iload_n 3, 1) := by decide +kernel
theorem dX6_packedFloat_31 : decode cX6_packedFloat 31 = .ok (.bipush 24, 2) := by decide +kernel
theorem dX6_packedFloat_33 : decode cX6_packedFloat 33 = .ok (.isub, 1) := by decide +kernel
theorem dX6_packedFloat_34 : decode cX6_packedFloat 34 = .ok (.istore 4, 2) := by decide +kernel
theorem dX6_packedFloat_36 : decode cX6_packedFloat 36 = .ok (.iload_n 2, 1) := by decide +kernel
theorem dX6_packedFloat_37 : decode cX6_packedFloat 37 = .ok (.iload 4, 2) := by decide +kernel
theorem dX6_packedFloat_39 : decode cX6_packedFloat 39 = .ok (.iadd, 1) := by decide +kernel
theorem dX6_packedFloat_40 : decode cX6_packedFloat 40 = .ok (.sipush (-149), 3) := by decide +kernel
theorem dX6_packedFloat_43 : decode cX6_packedFloat 43 = .ok (.if_icmp .ge 10, 3) := by decide +kernel
theorem dX6_packedFloat_46 : decode cX6_packedFloat 46 = .ok (.sipush (-149), 3) := by decide +kernel
theorem dX6_packedFloat_49 : decode cX6_packedFloat 49 = .ok (.iload_n 2, 1) := by decide +kernel
theorem dX6_packedFloat_50 : decode cX6_packedFloat 50 = .ok (.isub, 1) := by decide +kernel
theorem dX6_packedFloat_51 : decode cX6_packedFloat 51 = .ok (.istore 4, 2) := by decide +kernel
theorem dX6_packedFloat_53 : decode cX6_packedFloat 53 = .ok (.lload_n 0, 1) := by decide +kernel
theorem dX6_packedFloat_54 : decode cX6_packedFloat 54 = .ok (.lstore 5, 2) := by decide +kernel
theorem dX6_packedFloat_56 : decode cX6_packedFloat 56 = .ok (.iload 4, 2) := by decide +kernel
theorem dX6_packedFloat_58 : decode cX6_packedFloat 58 = .ok (.ifCond .gt 13, 3) := by decide +kernel
theorem dX6_packedFloat_61 : decode cX6_packedFloat 61 = .ok (.lload_n 0, 1) := by decide +kernel
theorem dX6_packedFloat_62 : decode cX6_packedFloat 62 = .ok (.iload 4, 2) := by decide +kernel
theorem dX6_packedFloat_64 : decode cX6_packedFloat 64 = .ok (.ineg, 1) := by decide +kernel
theorem dX6_packedFloat_65 : decode cX6_packedFloat 65 = .ok (.lshl, 1) := by decide +kernel
theorem dX6_packedFloat_66 : decode cX6_packedFloat 66 = .ok (.lstore 5, 2) := by decide +kernel
theorem dX6_packedFloat_68 : decode cX6_packedFloat 68 = .ok (.goto 70, 3) := by decide +kernel
theorem dX6_packedFloat_71 : decode cX6_packedFloat 71 = .ok (.iload 4, 2) := by decide +kernel
theorem dX6_packedFloat_73 : decode cX6_packedFloat 73 = .ok (.bipush 62, 2) := by decide +kernel
theorem dX6_packedFloat_75 : decode cX6_packedFloat 75 = .ok (.if_icmp .le 9, 3) := by decide +kernel
theorem dX6_packedFloat_78 : decode cX6_packedFloat 78 = .ok (.lconst 0, 1) := by decide +kernel
theorem dX6_packedFloat_79 : decode cX6_packedFloat 79 = .ok (.lstore 5, 2) := by decide +kernel
theorem dX6_packedFloat_81 : decode cX6_packedFloat 81 = .ok (.goto 57, 3) := by decide +kernel
theorem dX6_packedFloat_84 : decode cX6_packedFloat 84 = .ok (.lload_n 0, 1) := by decide +kernel
theorem dX6_packedFloat_85 : decode cX6_packedFloat 85 = .ok (.iload 4, 2) := by decide +kernel
theorem dX6_packedFloat_87 : decode cX6_packedFloat 87 = .ok (.lshr, 1) := by decide +kernel
theorem dX6_packedFloat_88 : decode cX6_packedFloat 88 = .ok (.lstore 5, 2) := by decide +kernel
theorem dX6_packedFloat_90 : decode cX6_packedFloat 90 = .ok (.lload_n 0, 1) := by decide +kernel
theorem dX6_packedFloat_91 : decode cX6_packedFloat 91 = .ok (.lload 5, 2) := by decide +kernel
theorem dX6_packedFloat_93 : decode cX6_packedFloat 93 = .ok (.iload 4, 2) := by decide +kernel
theorem dX6_packedFloat_95 : decode cX6_packedFloat 95 = .ok (.lshl, 1) := by decide +kernel
theorem dX6_packedFloat_96 : decode cX6_packedFloat 96 = .ok (.lsub, 1) := by decide +kernel
theorem dX6_packedFloat_97 : decode cX6_packedFloat 97 = .ok (.lstore 7, 2) := by decide +kernel
theorem dX6_packedFloat_99 : decode cX6_packedFloat 99 = .ok (.lconst 1, 1) := by decide +kernel
theorem dX6_packedFloat_100 : decode cX6_packedFloat 100 = .ok (.iload 4, 2) := by decide +kernel
theorem dX6_packedFloat_102 : decode cX6_packedFloat 102 = .ok (.iconst 1, 1) := by decide +kernel
theorem dX6_packedFloat_103 : decode cX6_packedFloat 103 = .ok (.isub, 1) := by decide +kernel
theorem dX6_packedFloat_104 : decode cX6_packedFloat 104 = .ok (.lshl, 1) := by decide +kernel
theorem dX6_packedFloat_105 : decode cX6_packedFloat 105 = .ok (.lstore 9, 2) := by decide +kernel
theorem dX6_packedFloat_107 : decode cX6_packedFloat 107 = .ok (.lload 7, 2) := by decide +kernel
theorem dX6_packedFloat_109 : decode cX6_packedFloat 109 = .ok (.lload 9, 2) := by decide +kernel
theorem dX6_packedFloat_111 : decode cX6_packedFloat 111 = .ok (.lcmp, 1) := by decide +kernel
theorem dX6_packedFloat_112 : decode cX6_packedFloat 112 = .ok (.ifCond .gt 20, 3) := by decide +kernel
theorem dX6_packedFloat_115 : decode cX6_packedFloat 115 = .ok (.lload 7, 2) := by decide +kernel
theorem dX6_packedFloat_117 : decode cX6_packedFloat 117 = .ok (.lload 9, 2) := by decide +kernel
theorem dX6_packedFloat_119 : decode cX6_packedFloat 119 = .ok (.lcmp, 1) := by decide +kernel
theorem dX6_packedFloat_120 : decode cX6_packedFloat 120 = .ok (.ifCond .ne 18, 3) := by decide +kernel
theorem dX6_packedFloat_123 : decode cX6_packedFloat 123 = .ok (.lload 5, 2) := by decide +kernel
theorem dX6_packedFloat_125 : decode cX6_packedFloat 125 = .ok (.lconst 1, 1) := by decide +kernel
theorem dX6_packedFloat_126 : decode cX6_packedFloat 126 = .ok (.land, 1) := by decide +kernel
theorem dX6_packedFloat_127 : decode cX6_packedFloat 127 = .ok (.lconst 1, 1) := by decide +kernel
theorem dX6_packedFloat_128 : decode cX6_packedFloat 128 = .ok (.lcmp, 1) := by decide +kernel
theorem dX6_packedFloat_129 : decode cX6_packedFloat 129 = .ok (.ifCond .ne 9, 3) := by decide +kernel
theorem dX6_packedFloat_132 : decode cX6_packedFloat 132 = .ok (.lload 5, 2) := by decide +kernel
theorem dX6_packedFloat_134 : decode cX6_packedFloat 134 = .ok (.lconst 1, 1) := by decide +kernel
theorem dX6_packedFloat_135 : decode cX6_packedFloat 135 = .ok (.ladd, 1) := by decide +kernel
theorem dX6_packedFloat_136 : decode cX6_packedFloat 136 = .ok (.lstore 5, 2) := by decide +kernel
theorem dX6_packedFloat_138 : decode cX6_packedFloat 138 = .ok (.lload 5, 2) := by decide +kernel
theorem dX6_packedFloat_140 : decode cX6_packedFloat 140 = .ok (.ldc2_w 335, 3) := by decide +kernel
theorem dX6_packedFloat_143 : decode cX6_packedFloat 143 = .ok (.lcmp, 1) := by decide +kernel
theorem dX6_packedFloat_144 : decode cX6_packedFloat 144 = .ok (.ifCond .ne 11, 3) := by decide +kernel
theorem dX6_packedFloat_147 : decode cX6_packedFloat 147 = .ok (.ldc2_w 337, 3) := by decide +kernel
theorem dX6_packedFloat_150 : decode cX6_packedFloat 150 = .ok (.lstore 5, 2) := by decide +kernel
theorem dX6_packedFloat_152 : decode cX6_packedFloat 152 = .ok (.iinc 4 1, 3) := by decide +kernel
theorem dX6_packedFloat_155 : decode cX6_packedFloat 155 = .ok (.iload_n 2, 1) := by decide +kernel
theorem dX6_packedFloat_156 : decode cX6_packedFloat 156 = .ok (.iload 4, 2) := by decide +kernel
theorem dX6_packedFloat_158 : decode cX6_packedFloat 158 = .ok (.iadd, 1) := by decide +kernel
theorem dX6_packedFloat_159 : decode cX6_packedFloat 159 = .ok (.bipush 104, 2) := by decide +kernel
theorem dX6_packedFloat_161 : decode cX6_packedFloat 161 = .ok (.if_icmp .le 7, 3) := by decide +kernel
theorem dX6_packedFloat_164 : decode cX6_packedFloat 164 = .ok (.ldc_w 339, 3) := by decide +kernel
theorem dX6_packedFloat_167 : decode cX6_packedFloat 167 = .ok (.ireturn, 1) := by decide +kernel
theorem dX6_packedFloat_168 : decode cX6_packedFloat 168 = .ok (.lload 5, 2) := by decide +kernel
theorem dX6_packedFloat_170 : decode cX6_packedFloat 170 = .ok (.ldc2_w 337, 3) := by decide +kernel
theorem dX6_packedFloat_173 : decode cX6_packedFloat 173 = .ok (.lcmp, 1) := by decide +kernel
theorem dX6_packedFloat_174 : decode cX6_packedFloat 174 = .ok (.ifCond .ge 7, 3) := by decide +kernel
theorem dX6_packedFloat_177 : decode cX6_packedFloat 177 = .ok (.lload 5, 2) := by decide +kernel
theorem dX6_packedFloat_179 : decode cX6_packedFloat 179 = .ok (.l2i, 1) := by decide +kernel
theorem dX6_packedFloat_180 : decode cX6_packedFloat 180 = .ok (.ireturn, 1) := by decide +kernel
theorem dX6_packedFloat_181 : decode cX6_packedFloat 181 = .ok (.iload_n 2, 1) := by decide +kernel
theorem dX6_packedFloat_182 : decode cX6_packedFloat 182 = .ok (.iload 4, 2) := by decide +kernel
theorem dX6_packedFloat_184 : decode cX6_packedFloat 184 = .ok (.iadd, 1) := by decide +kernel
theorem dX6_packedFloat_185 : decode cX6_packedFloat 185 = .ok (.sipush 150, 3) := by decide +kernel
theorem dX6_packedFloat_188 : decode cX6_packedFloat 188 = .ok (.iadd, 1) := by decide +kernel
theorem dX6_packedFloat_189 : decode cX6_packedFloat 189 = .ok (.bipush 23, 2) := by decide +kernel
theorem dX6_packedFloat_191 : decode cX6_packedFloat 191 = .ok (.ishl, 1) := by decide +kernel
theorem dX6_packedFloat_192 : decode cX6_packedFloat 192 = .ok (.lload 5, 2) := by decide +kernel
theorem dX6_packedFloat_194 : decode cX6_packedFloat 194 = .ok (.ldc2_w 337, 3) := by decide +kernel
theorem dX6_packedFloat_197 : decode cX6_packedFloat 197 = .ok (.lsub, 1) := by decide +kernel
theorem dX6_packedFloat_198 : decode cX6_packedFloat 198 = .ok (.l2i, 1) := by decide +kernel
theorem dX6_packedFloat_199 : decode cX6_packedFloat 199 = .ok (.ior, 1) := by decide +kernel
theorem dX6_packedFloat_200 : decode cX6_packedFloat 200 = .ok (.ireturn, 1) := by decide +kernel
def Mo_packedFloat_155 (v2 : Int32) (v4 : Int32) (v5 : Int64) : Option Int32 :=
  if (v2 + v4) ≤ (104 : Int32) then
    (if 0 ≤ (lg_cmp v5 (8388608 : Int64)) then
      (some ((((v2 + v4) + (150 : Int32)) <<< ((23 : Int32) &&& 31)) ||| (Int64.toInt32 (v5 - (8388608 : Int64)))))
    else
      (some (Int64.toInt32 v5)))
  else
    (some (2139095040 : Int32))
def Mo_packedFloat_138 (v2 : Int32) (v4 : Int32) (v5 : Int64) : Option Int32 :=
  if (lg_cmp v5 (16777216 : Int64)) = 0 then
    (bnd (8388608 : Int64) fun v5_1 =>
    bnd (v4 + (1 : Int32)) fun v4_2 =>
    Mo_packedFloat_155 v2 v4_2 v5_1)
  else
    (Mo_packedFloat_155 v2 v4 v5)
def Mo_packedFloat_132 (v2 : Int32) (v4 : Int32) (v5 : Int64) : Option Int32 :=
  bnd (v5 + (1 : Int64)) fun v5_3 =>
  Mo_packedFloat_138 v2 v4 v5_3
def Mo_packedFloat_53 (v0 : Int64) (v2 : Int32) (v4 : Int32) : Option Int32 :=
  bnd v0 fun v5_4 =>
  if 0 < v4 then
    (if v4 ≤ (62 : Int32) then
      (bnd (v0 >>> (Int32.toInt64 v4 &&& 63)) fun v5_5 =>
      bnd (v0 - (v5_5 <<< (Int32.toInt64 v4 &&& 63))) fun v7_6 =>
      bnd ((1 : Int64) <<< (Int32.toInt64 (v4 - (1 : Int32)) &&& 63)) fun v9_7 =>
      if 0 < (lg_cmp v7_6 v9_7) then
        (Mo_packedFloat_132 v2 v4 v5_5)
      else
        (if (lg_cmp v7_6 v9_7) = 0 then
          (if (lg_cmp (v5_5 &&& (1 : Int64)) (1 : Int64)) = 0 then
            (Mo_packedFloat_132 v2 v4 v5_5)
          else
            (Mo_packedFloat_138 v2 v4 v5_5))
        else
          (Mo_packedFloat_138 v2 v4 v5_5)))
    else
      (bnd (0 : Int64) fun v5_8 =>
      Mo_packedFloat_138 v2 v4 v5_8))
  else
    (bnd (v0 <<< (Int32.toInt64 (-v4) &&& 63)) fun v5_9 =>
    Mo_packedFloat_138 v2 v4 v5_9)
def Mo_packedFloat_30 (v0 : Int64) (v2 : Int32) (v3 : Int32) : Option Int32 :=
  bnd (v3 - (24 : Int32)) fun v4_10 =>
  if (-149 : Int32) ≤ (v2 + v4_10) then
    (Mo_packedFloat_53 v0 v2 v4_10)
  else
    (bnd ((-149 : Int32) - v2) fun v4_11 =>
    Mo_packedFloat_53 v0 v2 v4_11)
def Mo_packedFloat_10 : Nat → Int64 → Int32 → Int32 → Option Int32
  | 0, _, _, _ => none
  | n + 1, v0, v2, v3 =>
    if (62 : Int32) ≤ v3 then
      (Mo_packedFloat_30 v0 v2 v3)
    else
      (if (lg_cmp (v0 >>> (Int32.toInt64 v3 &&& 63)) (0 : Int64)) ≤ 0 then
        (Mo_packedFloat_30 v0 v2 v3)
      else
        (bnd (v3 + (1 : Int32)) fun v3_12 =>
        Mo_packedFloat_10 n v0 v2 v3_12))
def Mo_packedFloat (a0 : Int64) (a2 : Int32) : Option Int32 :=
  if (lg_cmp a0 (0 : Int64)) = 0 then
    (some (0 : Int32))
  else
    (bnd (0 : Int32) fun v3_13 =>
    Mo_packedFloat_10 FU a0 a2 v3_13)
theorem y_X6_packedFloat : YS yX6_packedFloat cX6_packedFloat 11 (some .int) 2 := ⟨q1664, trivial, q1665, q149, by decide +kernel, by decide +kernel, by decide +kernel, by decide +kernel⟩
theorem r_Mo_packedFloat_155 {C : Cxt} {G : Geo} {Mm : Mem} (hC : Cx C cX6_packedFloat 11 "FrameHeirsModel" (some .int) rm_X6_packedFloat G) (v2 : Int32) (v4 : Int32) (v5 : Int64) : Rz C 11 G (fun _ : Unit => Mm) (poP avI Mm) 155 [(2, .inl (.int v2)), (4, .inl (.int v4)), (5, .inl (.long v5))] [] () (Mo_packedFloat_155 v2 v4 v5) := by
  unfold Mo_packedFloat_155
  refine z_iload_n (pc := 155) hC 2 rfl 0 rfl dX6_packedFloat_155 ?_
  refine z_iload (pc := 156) hC 4 1 rfl dX6_packedFloat_156 ?_
  refine z_iadd (pc := 158) hC dX6_packedFloat_158 ?_
  refine z_bipush (pc := 159) hC (104 : Int32) rfl dX6_packedFloat_159 ?_
  refine z_icmp_le (pc := 161) hC 168 rfl dX6_packedFloat_161 ?_ ?_
  · refine z_lload (pc := 168) hC 5 2 rfl dX6_packedFloat_168 ?_
    refine z_ldc2 (pc := 170) hC (8388608 : Int64) q1667 dX6_packedFloat_170 ?_
    refine z_lcmp (pc := 173) hC dX6_packedFloat_173 ?_
    refine z_if_ge (pc := 174) hC 181 rfl dX6_packedFloat_174 ?_ ?_
    · refine z_iload_n (pc := 181) hC 2 rfl 0 rfl dX6_packedFloat_181 ?_
      refine z_iload (pc := 182) hC 4 1 rfl dX6_packedFloat_182 ?_
      refine z_iadd (pc := 184) hC dX6_packedFloat_184 ?_
      refine z_sipush (pc := 185) hC (150 : Int32) rfl dX6_packedFloat_185 ?_
      refine z_iadd (pc := 188) hC dX6_packedFloat_188 ?_
      refine z_bipush (pc := 189) hC (23 : Int32) rfl dX6_packedFloat_189 ?_
      refine z_ishl (pc := 191) hC dX6_packedFloat_191 ?_
      refine z_lload (pc := 192) hC 5 2 rfl dX6_packedFloat_192 ?_
      refine z_ldc2 (pc := 194) hC (8388608 : Int64) q1667 dX6_packedFloat_194 ?_
      refine z_lsub (pc := 197) hC dX6_packedFloat_197 ?_
      refine z_l2i (pc := 198) hC dX6_packedFloat_198 ?_
      refine z_ior (pc := 199) hC dX6_packedFloat_199 ?_
      exact z_iret (pc := 200) hC rfl dX6_packedFloat_200
    · refine z_lload (pc := 177) hC 5 2 rfl dX6_packedFloat_177 ?_
      refine z_l2i (pc := 179) hC dX6_packedFloat_179 ?_
      exact z_iret (pc := 180) hC rfl dX6_packedFloat_180
  · refine z_ldcw (pc := 164) hC (2139095040 : Int32) q1668 dX6_packedFloat_164 ?_
    exact z_iret (pc := 167) hC rfl dX6_packedFloat_167
theorem r_Mo_packedFloat_138 {C : Cxt} {G : Geo} {Mm : Mem} (hC : Cx C cX6_packedFloat 11 "FrameHeirsModel" (some .int) rm_X6_packedFloat G) (v2 : Int32) (v4 : Int32) (v5 : Int64) : Rz C 11 G (fun _ : Unit => Mm) (poP avI Mm) 138 [(2, .inl (.int v2)), (4, .inl (.int v4)), (5, .inl (.long v5))] [] () (Mo_packedFloat_138 v2 v4 v5) := by
  unfold Mo_packedFloat_138
  refine z_lload (pc := 138) hC 5 2 rfl dX6_packedFloat_138 ?_
  refine z_ldc2 (pc := 140) hC (16777216 : Int64) q1666 dX6_packedFloat_140 ?_
  refine z_lcmp (pc := 143) hC dX6_packedFloat_143 ?_
  refine z_if_ne (pc := 144) hC 155 rfl dX6_packedFloat_144 ?_ ?_
  · exact z_sub [0, 1, 2] rfl (r_Mo_packedFloat_155 hC v2 v4 v5)
  · refine z_ldc2 (pc := 147) hC (8388608 : Int64) q1667 dX6_packedFloat_147 ?_
    refine z_lstore (pc := 150) (ls1 := fun v => [(5, .inl (.long v)), (2, .inl (.int v2)), (4, .inl (.int v4))]) hC 5 (by decide) (fun v => rfl) dX6_packedFloat_150 (fun v5_1 => ?_)
    refine z_iinc (pc := 152) (ls1 := fun v => [(4, .inl (.int v)), (5, .inl (.long v5_1)), (2, .inl (.int v2))]) hC 4 2 (by decide) (1 : Int32) rfl rfl (fun v => rfl) dX6_packedFloat_152 (fun v4_2 => ?_)
    exact z_sub [2, 0, 1] rfl (r_Mo_packedFloat_155 hC v2 v4_2 v5_1)
theorem r_Mo_packedFloat_132 {C : Cxt} {G : Geo} {Mm : Mem} (hC : Cx C cX6_packedFloat 11 "FrameHeirsModel" (some .int) rm_X6_packedFloat G) (v2 : Int32) (v4 : Int32) (v5 : Int64) : Rz C 11 G (fun _ : Unit => Mm) (poP avI Mm) 132 [(2, .inl (.int v2)), (4, .inl (.int v4)), (5, .inl (.long v5))] [] () (Mo_packedFloat_132 v2 v4 v5) := by
  unfold Mo_packedFloat_132
  refine z_lload (pc := 132) hC 5 2 rfl dX6_packedFloat_132 ?_
  refine z_lconst (pc := 134) hC (1 : Int64) rfl dX6_packedFloat_134 ?_
  refine z_ladd (pc := 135) hC dX6_packedFloat_135 ?_
  refine z_lstore (pc := 136) (ls1 := fun v => [(5, .inl (.long v)), (2, .inl (.int v2)), (4, .inl (.int v4))]) hC 5 (by decide) (fun v => rfl) dX6_packedFloat_136 (fun v5_3 => ?_)
  exact z_sub [1, 2, 0] rfl (r_Mo_packedFloat_138 hC v2 v4 v5_3)
theorem r_Mo_packedFloat_53 {C : Cxt} {G : Geo} {Mm : Mem} (hC : Cx C cX6_packedFloat 11 "FrameHeirsModel" (some .int) rm_X6_packedFloat G) (v0 : Int64) (v2 : Int32) (v4 : Int32) : Rz C 11 G (fun _ : Unit => Mm) (poP avI Mm) 53 [(0, .inl (.long v0)), (2, .inl (.int v2)), (4, .inl (.int v4))] [] () (Mo_packedFloat_53 v0 v2 v4) := by
  unfold Mo_packedFloat_53
  refine z_lload_n (pc := 53) hC 0 rfl 0 rfl dX6_packedFloat_53 ?_
  refine z_lstore (pc := 54) (ls1 := fun v => [(5, .inl (.long v)), (0, .inl (.long v0)), (2, .inl (.int v2)), (4, .inl (.int v4))]) hC 5 (by decide) (fun v => rfl) dX6_packedFloat_54 (fun v5_4 => ?_)
  refine z_iload (pc := 56) hC 4 3 rfl dX6_packedFloat_56 ?_
  refine z_if_gt (pc := 58) hC 71 rfl dX6_packedFloat_58 ?_ ?_
  · refine z_iload (pc := 71) hC 4 3 rfl dX6_packedFloat_71 ?_
    refine z_bipush (pc := 73) hC (62 : Int32) rfl dX6_packedFloat_73 ?_
    refine z_icmp_le (pc := 75) hC 84 rfl dX6_packedFloat_75 ?_ ?_
    · refine z_lload_n (pc := 84) hC 0 rfl 1 rfl dX6_packedFloat_84 ?_
      refine z_iload (pc := 85) hC 4 3 rfl dX6_packedFloat_85 ?_
      refine z_lshr (pc := 87) hC dX6_packedFloat_87 ?_
      refine z_lstore (pc := 88) (ls1 := fun v => [(5, .inl (.long v)), (0, .inl (.long v0)), (2, .inl (.int v2)), (4, .inl (.int v4))]) hC 5 (by decide) (fun v => rfl) dX6_packedFloat_88 (fun v5_5 => ?_)
      refine z_lload_n (pc := 90) hC 0 rfl 1 rfl dX6_packedFloat_90 ?_
      refine z_lload (pc := 91) hC 5 0 rfl dX6_packedFloat_91 ?_
      refine z_iload (pc := 93) hC 4 3 rfl dX6_packedFloat_93 ?_
      refine z_lshl (pc := 95) hC dX6_packedFloat_95 ?_
      refine z_lsub (pc := 96) hC dX6_packedFloat_96 ?_
      refine z_lstore (pc := 97) (ls1 := fun v => [(7, .inl (.long v)), (5, .inl (.long v5_5)), (0, .inl (.long v0)), (2, .inl (.int v2)), (4, .inl (.int v4))]) hC 7 (by decide) (fun v => rfl) dX6_packedFloat_97 (fun v7_6 => ?_)
      refine z_lconst (pc := 99) hC (1 : Int64) rfl dX6_packedFloat_99 ?_
      refine z_iload (pc := 100) hC 4 4 rfl dX6_packedFloat_100 ?_
      refine z_iconst (pc := 102) hC (1 : Int32) rfl dX6_packedFloat_102 ?_
      refine z_isub (pc := 103) hC dX6_packedFloat_103 ?_
      refine z_lshl (pc := 104) hC dX6_packedFloat_104 ?_
      refine z_lstore (pc := 105) (ls1 := fun v => [(9, .inl (.long v)), (7, .inl (.long v7_6)), (5, .inl (.long v5_5)), (0, .inl (.long v0)), (2, .inl (.int v2)), (4, .inl (.int v4))]) hC 9 (by decide) (fun v => rfl) dX6_packedFloat_105 (fun v9_7 => ?_)
      refine z_lload (pc := 107) hC 7 1 rfl dX6_packedFloat_107 ?_
      refine z_lload (pc := 109) hC 9 0 rfl dX6_packedFloat_109 ?_
      refine z_lcmp (pc := 111) hC dX6_packedFloat_111 ?_
      refine z_if_gt (pc := 112) hC 132 rfl dX6_packedFloat_112 ?_ ?_
      · exact z_sub [4, 5, 2] rfl (r_Mo_packedFloat_132 hC v2 v4 v5_5)
      · refine z_lload (pc := 115) hC 7 1 rfl dX6_packedFloat_115 ?_
        refine z_lload (pc := 117) hC 9 0 rfl dX6_packedFloat_117 ?_
        refine z_lcmp (pc := 119) hC dX6_packedFloat_119 ?_
        refine z_if_ne (pc := 120) hC 138 rfl dX6_packedFloat_120 ?_ ?_
        · exact z_sub [4, 5, 2] rfl (r_Mo_packedFloat_138 hC v2 v4 v5_5)
        · refine z_lload (pc := 123) hC 5 2 rfl dX6_packedFloat_123 ?_
          refine z_lconst (pc := 125) hC (1 : Int64) rfl dX6_packedFloat_125 ?_
          refine z_land (pc := 126) hC dX6_packedFloat_126 ?_
          refine z_lconst (pc := 127) hC (1 : Int64) rfl dX6_packedFloat_127 ?_
          refine z_lcmp (pc := 128) hC dX6_packedFloat_128 ?_
          refine z_if_ne (pc := 129) hC 138 rfl dX6_packedFloat_129 ?_ ?_
          · exact z_sub [4, 5, 2] rfl (r_Mo_packedFloat_138 hC v2 v4 v5_5)
          · exact z_sub [4, 5, 2] rfl (r_Mo_packedFloat_132 hC v2 v4 v5_5)
    · refine z_lconst (pc := 78) hC (0 : Int64) rfl dX6_packedFloat_78 ?_
      refine z_lstore (pc := 79) (ls1 := fun v => [(5, .inl (.long v)), (0, .inl (.long v0)), (2, .inl (.int v2)), (4, .inl (.int v4))]) hC 5 (by decide) (fun v => rfl) dX6_packedFloat_79 (fun v5_8 => ?_)
      refine z_goto (pc := 81) hC 138 rfl dX6_packedFloat_81 ?_
      exact z_sub [2, 3, 0] rfl (r_Mo_packedFloat_138 hC v2 v4 v5_8)
  · refine z_lload_n (pc := 61) hC 0 rfl 1 rfl dX6_packedFloat_61 ?_
    refine z_iload (pc := 62) hC 4 3 rfl dX6_packedFloat_62 ?_
    refine z_ineg (pc := 64) hC dX6_packedFloat_64 ?_
    refine z_lshl (pc := 65) hC dX6_packedFloat_65 ?_
    refine z_lstore (pc := 66) (ls1 := fun v => [(5, .inl (.long v)), (0, .inl (.long v0)), (2, .inl (.int v2)), (4, .inl (.int v4))]) hC 5 (by decide) (fun v => rfl) dX6_packedFloat_66 (fun v5_9 => ?_)
    refine z_goto (pc := 68) hC 138 rfl dX6_packedFloat_68 ?_
    exact z_sub [2, 3, 0] rfl (r_Mo_packedFloat_138 hC v2 v4 v5_9)
theorem r_Mo_packedFloat_30 {C : Cxt} {G : Geo} {Mm : Mem} (hC : Cx C cX6_packedFloat 11 "FrameHeirsModel" (some .int) rm_X6_packedFloat G) (v0 : Int64) (v2 : Int32) (v3 : Int32) : Rz C 11 G (fun _ : Unit => Mm) (poP avI Mm) 30 [(0, .inl (.long v0)), (2, .inl (.int v2)), (3, .inl (.int v3))] [] () (Mo_packedFloat_30 v0 v2 v3) := by
  unfold Mo_packedFloat_30
  refine z_iload_n (pc := 30) hC 3 rfl 2 rfl dX6_packedFloat_30 ?_
  refine z_bipush (pc := 31) hC (24 : Int32) rfl dX6_packedFloat_31 ?_
  refine z_isub (pc := 33) hC dX6_packedFloat_33 ?_
  refine z_istore (pc := 34) (ls1 := fun v => [(4, .inl (.int v)), (0, .inl (.long v0)), (2, .inl (.int v2)), (3, .inl (.int v3))]) hC 4 (by decide) (fun v => rfl) dX6_packedFloat_34 (fun v4_10 => ?_)
  refine z_iload_n (pc := 36) hC 2 rfl 2 rfl dX6_packedFloat_36 ?_
  refine z_iload (pc := 37) hC 4 0 rfl dX6_packedFloat_37 ?_
  refine z_iadd (pc := 39) hC dX6_packedFloat_39 ?_
  refine z_sipush (pc := 40) hC (-149 : Int32) rfl dX6_packedFloat_40 ?_
  refine z_icmp_ge (pc := 43) hC 53 rfl dX6_packedFloat_43 ?_ ?_
  · exact z_sub [1, 2, 0] rfl (r_Mo_packedFloat_53 hC v0 v2 v4_10)
  · refine z_sipush (pc := 46) hC (-149 : Int32) rfl dX6_packedFloat_46 ?_
    refine z_iload_n (pc := 49) hC 2 rfl 2 rfl dX6_packedFloat_49 ?_
    refine z_isub (pc := 50) hC dX6_packedFloat_50 ?_
    refine z_istore (pc := 51) (ls1 := fun v => [(4, .inl (.int v)), (0, .inl (.long v0)), (2, .inl (.int v2)), (3, .inl (.int v3))]) hC 4 (by decide) (fun v => rfl) dX6_packedFloat_51 (fun v4_11 => ?_)
    exact z_sub [1, 2, 0] rfl (r_Mo_packedFloat_53 hC v0 v2 v4_11)
theorem r_Mo_packedFloat_10 {C : Cxt} {G : Geo} {Mm : Mem} (hC : Cx C cX6_packedFloat 11 "FrameHeirsModel" (some .int) rm_X6_packedFloat G) : ∀ (n : Nat) (v0 : Int64) (v2 : Int32) (v3 : Int32), Rz C 11 G (fun _ : Unit => Mm) (poP avI Mm) 10 [(0, .inl (.long v0)), (2, .inl (.int v2)), (3, .inl (.int v3))] [] () (Mo_packedFloat_10 n v0 v2 v3) := by
  intro n
  induction n with
  | zero => intros; exact z_none
  | succ n ih =>
    intro v0 v2 v3
    rw [Mo_packedFloat_10]
    refine z_iload_n (pc := 10) hC 3 rfl 2 rfl dX6_packedFloat_10 ?_
    refine z_bipush (pc := 11) hC (62 : Int32) rfl dX6_packedFloat_11 ?_
    refine z_icmp_ge (pc := 13) hC 30 rfl dX6_packedFloat_13 ?_ ?_
    · exact z_sub [0, 1, 2] rfl (r_Mo_packedFloat_30 hC v0 v2 v3)
    · refine z_lload_n (pc := 16) hC 0 rfl 0 rfl dX6_packedFloat_16 ?_
      refine z_iload_n (pc := 17) hC 3 rfl 2 rfl dX6_packedFloat_17 ?_
      refine z_lshr (pc := 18) hC dX6_packedFloat_18 ?_
      refine z_lconst (pc := 19) hC (0 : Int64) rfl dX6_packedFloat_19 ?_
      refine z_lcmp (pc := 20) hC dX6_packedFloat_20 ?_
      refine z_if_le (pc := 21) hC 30 rfl dX6_packedFloat_21 ?_ ?_
      · exact z_sub [0, 1, 2] rfl (r_Mo_packedFloat_30 hC v0 v2 v3)
      · refine z_iinc (pc := 24) (ls1 := fun v => [(3, .inl (.int v)), (0, .inl (.long v0)), (2, .inl (.int v2))]) hC 3 2 (by decide) (1 : Int32) rfl rfl (fun v => rfl) dX6_packedFloat_24 (fun v3_12 => ?_)
        refine z_goto (pc := 27) hC 10 rfl dX6_packedFloat_27 ?_
        exact z_sub [1, 2, 0] rfl (ih v0 v2 v3_12)
theorem r_Mo_packedFloat {C : Cxt} {G : Geo} {Mm : Mem} (hC : Cx C cX6_packedFloat 11 "FrameHeirsModel" (some .int) rm_X6_packedFloat G) (a0 : Int64) (a2 : Int32) : Rz C 11 G (fun _ : Unit => Mm) (poP avI Mm) 0 [(0, .inl (.long a0)), (2, .inl (.int a2))] [] () (Mo_packedFloat a0 a2) := by
  unfold Mo_packedFloat
  refine z_lload_n (pc := 0) hC 0 rfl 0 rfl dX6_packedFloat_0 ?_
  refine z_lconst (pc := 1) hC (0 : Int64) rfl dX6_packedFloat_1 ?_
  refine z_lcmp (pc := 2) hC dX6_packedFloat_2 ?_
  refine z_if_ne (pc := 3) hC 8 rfl dX6_packedFloat_3 ?_ ?_
  · refine z_iconst (pc := 8) hC (0 : Int32) rfl dX6_packedFloat_8 ?_
    refine z_istore_n (pc := 9) (ls1 := fun v => [(3, .inl (.int v)), (0, .inl (.long a0)), (2, .inl (.int a2))]) hC 3 rfl (by decide) (fun v => rfl) dX6_packedFloat_9 (fun v3_13 => ?_)
    exact z_sub [1, 2, 0] rfl (r_Mo_packedFloat_10 hC FU a0 a2 v3_13)
  · refine z_iconst (pc := 6) hC (0 : Int32) rfl dX6_packedFloat_6 ?_
    exact z_iret (pc := 7) hC rfl dX6_packedFloat_7
theorem c_X6_packedFloat {G : Geo} {Mm : Mem} (hG : GOk G) {a0 : Int64} {a2 : Int32} (l : Launch) (r : Int32) (h : Mo_packedFloat a0 a2 = some r) : Mt l yX6_packedFloat cX6_packedFloat 11 (some .int) rm_X6_packedFloat G [.inl (.long a0), .inl (.int a2)] (Mm) (avI r) (Mm) :=
  mt_of (mem := (fun _ : Unit => Mm)) (po := poP avI Mm) (x0 := ()) (t := r) rfl hG [.inl (.long a0), .inl (.int a2)] (Nat.le_of_ble_eq_true rfl) rfl (fun C hC => r_Mo_packedFloat hC a0 a2) h
-- FrameHeirsModel.wholeOf(I)J
abbrev rm_X6_wholeOf : Room := { frames := 0, cells := 0, slots := 0, locals := 0 }
theorem dX6_wholeOf_0 : decode cX6_wholeOf 0 = .ok (.iload_n 0, 1) := by decide +kernel
theorem dX6_wholeOf_1 : decode cX6_wholeOf 1 = .ok (.bipush 23, 2) := by decide +kernel
theorem dX6_wholeOf_3 : decode cX6_wholeOf 3 = .ok (.ishr, 1) := by decide +kernel
theorem dX6_wholeOf_4 : decode cX6_wholeOf 4 = .ok (.ifCond .ne 8, 3) := by decide +kernel
theorem dX6_wholeOf_7 : decode cX6_wholeOf 7 = .ok (.iload_n 0, 1) := by decide +kernel
theorem dX6_wholeOf_8 : decode cX6_wholeOf 8 = .ok (.i2l, 1) := by decide +kernel
theorem dX6_wholeOf_9 : decode cX6_wholeOf 9 = .ok (.goto 13, 3) := by decide +kernel
theorem dX6_wholeOf_12 : decode cX6_wholeOf 12 = .ok (.iload_n 0, 1) := by decide +kernel
theorem dX6_wholeOf_13 : decode cX6_wholeOf 13 = .ok (.ldc_w 340, 3) := by decide +kernel
theorem dX6_wholeOf_16 : decode cX6_wholeOf 16 = .ok (.iand, 1) := by decide +kernel
theorem dX6_wholeOf_17 : decode cX6_wholeOf 17 = .ok (.ldc_w 341, 3) := by decide +kernel
theorem dX6_wholeOf_20 : decode cX6_wholeOf 20 = .ok (.ior, 1) := by decide +kernel
theorem dX6_wholeOf_21 : decode cX6_wholeOf 21 = .ok (.i2l, 1) := by decide +kernel
theorem dX6_wholeOf_22 : decode cX6_wholeOf 22 = .ok (.lreturn, 1) := by decide +kernel
def Mo_wholeOf (a0 : Int32) : Option Int64 :=
  if (a0 >>> ((23 : Int32) &&& 31)) = 0 then
    (some (Int32.toInt64 a0))
  else
    (some (Int32.toInt64 ((a0 &&& (8388607 : Int32)) ||| (8388608 : Int32))))
theorem y_X6_wholeOf : YS yX6_wholeOf cX6_wholeOf 1 (some .long) 1 := ⟨q1673, trivial, q1674, q149, by decide +kernel, by decide +kernel, by decide +kernel, by decide +kernel⟩
theorem r_Mo_wholeOf {C : Cxt} {G : Geo} {Mm : Mem} (hC : Cx C cX6_wholeOf 1 "FrameHeirsModel" (some .long) rm_X6_wholeOf G) (a0 : Int32) : Rz C 1 G (fun _ : Unit => Mm) (poP avL Mm) 0 [(0, .inl (.int a0))] [] () (Mo_wholeOf a0) := by
  unfold Mo_wholeOf
  refine z_iload_n (pc := 0) hC 0 rfl 0 rfl dX6_wholeOf_0 ?_
  refine z_bipush (pc := 1) hC (23 : Int32) rfl dX6_wholeOf_1 ?_
  refine z_ishr (pc := 3) hC dX6_wholeOf_3 ?_
  refine z_if_ne (pc := 4) hC 12 rfl dX6_wholeOf_4 ?_ ?_
  · refine z_iload_n (pc := 12) hC 0 rfl 0 rfl dX6_wholeOf_12 ?_
    refine z_ldcw (pc := 13) hC (8388607 : Int32) q1675 dX6_wholeOf_13 ?_
    refine z_iand (pc := 16) hC dX6_wholeOf_16 ?_
    refine z_ldcw (pc := 17) hC (8388608 : Int32) q1676 dX6_wholeOf_17 ?_
    refine z_ior (pc := 20) hC dX6_wholeOf_20 ?_
    refine z_i2l (pc := 21) hC dX6_wholeOf_21 ?_
    exact z_lret (pc := 22) hC rfl dX6_wholeOf_22
  · refine z_iload_n (pc := 7) hC 0 rfl 0 rfl dX6_wholeOf_7 ?_
    refine z_i2l (pc := 8) hC dX6_wholeOf_8 ?_
    refine z_goto (pc := 9) hC 22 rfl dX6_wholeOf_9 ?_
    exact z_lret (pc := 22) hC rfl dX6_wholeOf_22
theorem c_X6_wholeOf {G : Geo} {Mm : Mem} (hG : GOk G) {a0 : Int32} (l : Launch) (r : Int64) (h : Mo_wholeOf a0 = some r) : Mt l yX6_wholeOf cX6_wholeOf 1 (some .long) rm_X6_wholeOf G [.inl (.int a0)] (Mm) (avL r) (Mm) :=
  mt_of (mem := (fun _ : Unit => Mm)) (po := poP avL Mm) (x0 := ()) (t := r) rfl hG [.inl (.int a0)] (Nat.le_of_ble_eq_true rfl) rfl (fun C hC => r_Mo_wholeOf hC a0) h
-- FrameHeirsModel.powerOf(I)I
abbrev rm_X6_powerOf : Room := { frames := 0, cells := 0, slots := 0, locals := 0 }
theorem dX6_powerOf_0 : decode cX6_powerOf 0 = .ok (.iload_n 0, 1) := by decide +kernel
theorem dX6_powerOf_1 : decode cX6_powerOf 1 = .ok (.bipush 23, 2) := by decide +kernel
theorem dX6_powerOf_3 : decode cX6_powerOf 3 = .ok (.ishr, 1) := by decide +kernel
theorem dX6_powerOf_4 : decode cX6_powerOf 4 = .ok (.ifCond .ne 9, 3) := by decide +kernel
theorem dX6_powerOf_7 : decode cX6_powerOf 7 = .ok (.sipush (-149), 3) := by decide +kernel
theorem dX6_powerOf_10 : decode cX6_powerOf 10 = .ok (.goto 11, 3) := by decide +kernel
theorem dX6_powerOf_13 : decode cX6_powerOf 13 = .ok (.iload_n 0, 1) := by decide +kernel
theorem dX6_powerOf_14 : decode cX6_powerOf 14 = .ok (.bipush 23, 2) := by decide +kernel
theorem dX6_powerOf_16 : decode cX6_powerOf 16 = .ok (.ishr, 1) := by decide +kernel
theorem dX6_powerOf_17 : decode cX6_powerOf 17 = .ok (.sipush 150, 3) := by decide +kernel
theorem dX6_powerOf_20 : decode cX6_powerOf 20 = .ok (.isub, 1) := by decide +kernel
theorem dX6_powerOf_21 : decode cX6_powerOf 21 = .ok (.ireturn, 1) := by decide +kernel
def Mo_powerOf (a0 : Int32) : Option Int32 :=
  if (a0 >>> ((23 : Int32) &&& 31)) = 0 then
    (some (-149 : Int32))
  else
    (some ((a0 >>> ((23 : Int32) &&& 31)) - (150 : Int32)))
theorem y_X6_powerOf : YS yX6_powerOf cX6_powerOf 1 (some .int) 1 := ⟨q1678, trivial, q1679, q149, by decide +kernel, by decide +kernel, by decide +kernel, by decide +kernel⟩
theorem r_Mo_powerOf {C : Cxt} {G : Geo} {Mm : Mem} (hC : Cx C cX6_powerOf 1 "FrameHeirsModel" (some .int) rm_X6_powerOf G) (a0 : Int32) : Rz C 1 G (fun _ : Unit => Mm) (poP avI Mm) 0 [(0, .inl (.int a0))] [] () (Mo_powerOf a0) := by
  unfold Mo_powerOf
  refine z_iload_n (pc := 0) hC 0 rfl 0 rfl dX6_powerOf_0 ?_
  refine z_bipush (pc := 1) hC (23 : Int32) rfl dX6_powerOf_1 ?_
  refine z_ishr (pc := 3) hC dX6_powerOf_3 ?_
  refine z_if_ne (pc := 4) hC 13 rfl dX6_powerOf_4 ?_ ?_
  · refine z_iload_n (pc := 13) hC 0 rfl 0 rfl dX6_powerOf_13 ?_
    refine z_bipush (pc := 14) hC (23 : Int32) rfl dX6_powerOf_14 ?_
    refine z_ishr (pc := 16) hC dX6_powerOf_16 ?_
    refine z_sipush (pc := 17) hC (150 : Int32) rfl dX6_powerOf_17 ?_
    refine z_isub (pc := 20) hC dX6_powerOf_20 ?_
    exact z_iret (pc := 21) hC rfl dX6_powerOf_21
  · refine z_sipush (pc := 7) hC (-149 : Int32) rfl dX6_powerOf_7 ?_
    refine z_goto (pc := 10) hC 21 rfl dX6_powerOf_10 ?_
    exact z_iret (pc := 21) hC rfl dX6_powerOf_21
theorem c_X6_powerOf {G : Geo} {Mm : Mem} (hG : GOk G) {a0 : Int32} (l : Launch) (r : Int32) (h : Mo_powerOf a0 = some r) : Mt l yX6_powerOf cX6_powerOf 1 (some .int) rm_X6_powerOf G [.inl (.int a0)] (Mm) (avI r) (Mm) :=
  mt_of (mem := (fun _ : Unit => Mm)) (po := poP avI Mm) (x0 := ()) (t := r) rfl hG [.inl (.int a0)] (Nat.le_of_ble_eq_true rfl) rfl (fun C hC => r_Mo_powerOf hC a0) h
-- FrameHeirsModel.floatOf(I)I
abbrev rm_X6_floatOf : Room := { frames := 1, cells := 0, slots := 0, locals := 30 }
theorem dX6_floatOf_0 : decode cX6_floatOf 0 = .ok (.iload_n 0, 1) := by decide +kernel
theorem dX6_floatOf_1 : decode cX6_floatOf 1 = .ok (.i2l, 1) := by decide +kernel
theorem dX6_floatOf_2 : decode cX6_floatOf 2 = .ok (.iconst 0, 1) := by decide +kernel
theorem dX6_floatOf_3 : decode cX6_floatOf 3 = .ok (.invokestatic 342, 3) := by decide +kernel
theorem dX6_floatOf_6 : decode cX6_floatOf 6 = .ok (.ireturn, 1) := by decide +kernel
def Mo_floatOf (a0 : Int32) : Option Int32 :=
  bp (Mo_packedFloat (Int32.toInt64 a0) (0 : Int32)) fun r1 =>
  some r1
theorem y_X6_floatOf : YS yX6_floatOf cX6_floatOf 1 (some .int) 1 := ⟨q1661, trivial, q1662, q149, by decide +kernel, by decide +kernel, by decide +kernel, by decide +kernel⟩
theorem r_Mo_floatOf {C : Cxt} {G : Geo} {Mm : Mem} (hC : Cx C cX6_floatOf 1 "FrameHeirsModel" (some .int) rm_X6_floatOf G) (a0 : Int32) : Rz C 1 G (fun _ : Unit => Mm) (poP avI Mm) 0 [(0, .inl (.int a0))] [] () (Mo_floatOf a0) := by
  unfold Mo_floatOf
  refine z_iload_n (pc := 0) hC 0 rfl 0 rfl dX6_floatOf_0 ?_
  refine z_i2l (pc := 1) hC dX6_floatOf_1 ?_
  refine z_iconst (pc := 2) hC (0 : Int32) rfl dX6_floatOf_2 ?_
  refine z_piS (pc := 3) (st := []) hC y_X6_packedFloat q1663 [.inl (.long (Int32.toInt64 a0)), .inl (.int (0 : Int32))] rfl (c_X6_packedFloat hC.2.2.2.2.2.2.1) rfl ⟨rfl, rfl, (Nat.le_of_ble_eq_true rfl), (Nat.le_of_ble_eq_true rfl)⟩ (Nat.le_of_ble_eq_true rfl) dX6_floatOf_3 (fun r1 => ?_)
  exact z_iret (pc := 6) hC rfl dX6_floatOf_6
theorem c_X6_floatOf {G : Geo} {Mm : Mem} (hG : GOk G) {a0 : Int32} (l : Launch) (r : Int32) (h : Mo_floatOf a0 = some r) : Mt l yX6_floatOf cX6_floatOf 1 (some .int) rm_X6_floatOf G [.inl (.int a0)] (Mm) (avI r) (Mm) :=
  mt_of (mem := (fun _ : Unit => Mm)) (po := poP avI Mm) (x0 := ()) (t := r) rfl hG [.inl (.int a0)] (Nat.le_of_ble_eq_true rfl) rfl (fun C hC => r_Mo_floatOf hC a0) h
-- FrameHeirsModel.added(II)I
abbrev rm_X6_added : Room := { frames := 1, cells := 0, slots := 0, locals := 30 }
theorem dX6_added_0 : decode cX6_added 0 = .ok (.iload_n 0, 1) := by decide +kernel
theorem dX6_added_1 : decode cX6_added 1 = .ok (.iload_n 1, 1) := by decide +kernel
theorem dX6_added_2 : decode cX6_added 2 = .ok (.if_icmp .le 7, 3) := by decide +kernel
theorem dX6_added_5 : decode cX6_added 5 = .ok (.iload_n 0, 1) := by decide +kernel
theorem dX6_added_6 : decode cX6_added 6 = .ok (.goto 4, 3) := by decide +kernel
theorem dX6_added_9 : decode cX6_added 9 = .ok (.iload_n 1, 1) := by decide +kernel
theorem dX6_added_10 : decode cX6_added 10 = .ok (.istore_n 2, 1) := by decide +kernel
theorem dX6_added_11 : decode cX6_added 11 = .ok (.iload_n 0, 1) := by decide +kernel
theorem dX6_added_12 : decode cX6_added 12 = .ok (.iload_n 1, 1) := by decide +kernel
theorem dX6_added_13 : decode cX6_added 13 = .ok (.if_icmp .le 7, 3) := by decide +kernel
theorem dX6_added_16 : decode cX6_added 16 = .ok (.iload_n 1, 1) := by decide +kernel
theorem dX6_added_17 : decode cX6_added 17 = .ok (.goto 4, 3) := by decide +kernel
theorem dX6_added_20 : decode cX6_added 20 = .ok (.iload_n 0, 1) := by decide +kernel
theorem dX6_added_21 : decode cX6_added 21 = .ok (.istore_n 3, 1) := by decide +kernel
theorem dX6_added_22 : decode cX6_added 22 = .ok (.iload_n 3, 1) := by decide +kernel
theorem dX6_added_23 : decode cX6_added 23 = .ok (.ifCond .ne 5, 3) := by decide +kernel
theorem dX6_added_26 : decode cX6_added 26 = .ok (.iload_n 2, 1) := by decide +kernel
theorem dX6_added_27 : decode cX6_added 27 = .ok (.ireturn, 1) := by decide +kernel
theorem dX6_added_28 : decode cX6_added 28 = .ok (.iload_n 2, 1) := by decide +kernel
theorem dX6_added_29 : decode cX6_added 29 = .ok (.invokestatic 346, 3) := by decide +kernel
theorem dX6_added_32 : decode cX6_added 32 = .ok (.iload_n 3, 1) := by decide +kernel
theorem dX6_added_33 : decode cX6_added 33 = .ok (.invokestatic 346, 3) := by decide +kernel
theorem dX6_added_36 : decode cX6_added 36 = .ok (.isub, 1) := by decide +kernel
theorem dX6_added_37 : decode cX6_added 37 = .ok (.istore 4, 2) := by decide +kernel
theorem dX6_added_39 : decode cX6_added 39 = .ok (.iload_n 2, 1) := by decide +kernel
theorem dX6_added_40 : decode cX6_added 40 = .ok (.invokestatic 349, 3) := by decide +kernel
theorem dX6_added_43 : decode cX6_added 43 = .ok (.bipush 30, 2) := by decide +kernel
theorem dX6_added_45 : decode cX6_added 45 = .ok (.lshl, 1) := by decide +kernel
theorem dX6_added_46 : decode cX6_added 46 = .ok (.lstore 5, 2) := by decide +kernel
theorem dX6_added_48 : decode cX6_added 48 = .ok (.iload_n 3, 1) := by decide +kernel
theorem dX6_added_49 : decode cX6_added 49 = .ok (.invokestatic 349, 3) := by decide +kernel
theorem dX6_added_52 : decode cX6_added 52 = .ok (.lstore 7, 2) := by decide +kernel
theorem dX6_added_54 : decode cX6_added 54 = .ok (.iload 4, 2) := by decide +kernel
theorem dX6_added_56 : decode cX6_added 56 = .ok (.bipush 30, 2) := by decide +kernel
theorem dX6_added_58 : decode cX6_added 58 = .ok (.if_icmp .gt 25, 3) := by decide +kernel
theorem dX6_added_61 : decode cX6_added 61 = .ok (.lload 5, 2) := by decide +kernel
theorem dX6_added_63 : decode cX6_added 63 = .ok (.lload 7, 2) := by decide +kernel
theorem dX6_added_65 : decode cX6_added 65 = .ok (.bipush 30, 2) := by decide +kernel
theorem dX6_added_67 : decode cX6_added 67 = .ok (.iload 4, 2) := by decide +kernel
theorem dX6_added_69 : decode cX6_added 69 = .ok (.isub, 1) := by decide +kernel
theorem dX6_added_70 : decode cX6_added 70 = .ok (.lshl, 1) := by decide +kernel
theorem dX6_added_71 : decode cX6_added 71 = .ok (.ladd, 1) := by decide +kernel
theorem dX6_added_72 : decode cX6_added 72 = .ok (.iload_n 2, 1) := by decide +kernel
theorem dX6_added_73 : decode cX6_added 73 = .ok (.invokestatic 346, 3) := by decide +kernel
theorem dX6_added_76 : decode cX6_added 76 = .ok (.bipush 30, 2) := by decide +kernel
theorem dX6_added_78 : decode cX6_added 78 = .ok (.isub, 1) := by decide +kernel
theorem dX6_added_79 : decode cX6_added 79 = .ok (.invokestatic 342, 3) := by decide +kernel
theorem dX6_added_82 : decode cX6_added 82 = .ok (.ireturn, 1) := by decide +kernel
theorem dX6_added_83 : decode cX6_added 83 = .ok (.iload 4, 2) := by decide +kernel
theorem dX6_added_85 : decode cX6_added 85 = .ok (.bipush 62, 2) := by decide +kernel
theorem dX6_added_87 : decode cX6_added 87 = .ok (.if_icmp .le 7, 3) := by decide +kernel
theorem dX6_added_90 : decode cX6_added 90 = .ok (.lconst 0, 1) := by decide +kernel
theorem dX6_added_91 : decode cX6_added 91 = .ok (.goto 11, 3) := by decide +kernel
theorem dX6_added_94 : decode cX6_added 94 = .ok (.lload 7, 2) := by decide +kernel
theorem dX6_added_96 : decode cX6_added 96 = .ok (.iload 4, 2) := by decide +kernel
theorem dX6_added_98 : decode cX6_added 98 = .ok (.bipush 30, 2) := by decide +kernel
theorem dX6_added_100 : decode cX6_added 100 = .ok (.isub, 1) := by decide +kernel
theorem dX6_added_101 : decode cX6_added 101 = .ok (.lshr, 1) := by decide +kernel
theorem dX6_added_102 : decode cX6_added 102 = .ok (.lstore 9, 2) := by decide +kernel
theorem dX6_added_104 : decode cX6_added 104 = .ok (.iload 4, 2) := by decide +kernel
theorem dX6_added_106 : decode cX6_added 106 = .ok (.bipush 62, 2) := by decide +kernel
theorem dX6_added_108 : decode cX6_added 108 = .ok (.if_icmp .gt 17, 3) := by decide +kernel
theorem dX6_added_111 : decode cX6_added 111 = .ok (.lload 9, 2) := by decide +kernel
theorem dX6_added_113 : decode cX6_added 113 = .ok (.iload 4, 2) := by decide +kernel
theorem dX6_added_115 : decode cX6_added 115 = .ok (.bipush 30, 2) := by decide +kernel
theorem dX6_added_117 : decode cX6_added 117 = .ok (.isub, 1) := by decide +kernel
theorem dX6_added_118 : decode cX6_added 118 = .ok (.lshl, 1) := by decide +kernel
theorem dX6_added_119 : decode cX6_added 119 = .ok (.lload 7, 2) := by decide +kernel
theorem dX6_added_121 : decode cX6_added 121 = .ok (.lcmp, 1) := by decide +kernel
theorem dX6_added_122 : decode cX6_added 122 = .ok (.ifCond .eq 7, 3) := by decide +kernel
theorem dX6_added_125 : decode cX6_added 125 = .ok (.iconst 1, 1) := by decide +kernel
theorem dX6_added_126 : decode cX6_added 126 = .ok (.goto 4, 3) := by decide +kernel
theorem dX6_added_129 : decode cX6_added 129 = .ok (.iconst 0, 1) := by decide +kernel
theorem dX6_added_130 : decode cX6_added 130 = .ok (.istore 11, 2) := by decide +kernel
theorem dX6_added_132 : decode cX6_added 132 = .ok (.ldc2_w 353, 3) := by decide +kernel
theorem dX6_added_135 : decode cX6_added 135 = .ok (.lload 5, 2) := by decide +kernel
theorem dX6_added_137 : decode cX6_added 137 = .ok (.lload 9, 2) := by decide +kernel
theorem dX6_added_139 : decode cX6_added 139 = .ok (.ladd, 1) := by decide +kernel
theorem dX6_added_140 : decode cX6_added 140 = .ok (.lmul, 1) := by decide +kernel
theorem dX6_added_141 : decode cX6_added 141 = .ok (.iload 11, 2) := by decide +kernel
theorem dX6_added_143 : decode cX6_added 143 = .ok (.ifCond .eq 7, 3) := by decide +kernel
theorem dX6_added_146 : decode cX6_added 146 = .ok (.lconst 1, 1) := by decide +kernel
theorem dX6_added_147 : decode cX6_added 147 = .ok (.goto 4, 3) := by decide +kernel
theorem dX6_added_150 : decode cX6_added 150 = .ok (.lconst 0, 1) := by decide +kernel
theorem dX6_added_151 : decode cX6_added 151 = .ok (.ladd, 1) := by decide +kernel
theorem dX6_added_152 : decode cX6_added 152 = .ok (.iload_n 2, 1) := by decide +kernel
theorem dX6_added_153 : decode cX6_added 153 = .ok (.invokestatic 346, 3) := by decide +kernel
theorem dX6_added_156 : decode cX6_added 156 = .ok (.bipush 31, 2) := by decide +kernel
theorem dX6_added_158 : decode cX6_added 158 = .ok (.isub, 1) := by decide +kernel
theorem dX6_added_159 : decode cX6_added 159 = .ok (.invokestatic 342, 3) := by decide +kernel
theorem dX6_added_162 : decode cX6_added 162 = .ok (.ireturn, 1) := by decide +kernel
def Mo_added_151 (v2 : Int32) (s0 : Int64) (s1 : Int64) : Option Int32 :=
  bp (Mo_powerOf v2) fun r1 =>
  bp (Mo_packedFloat (s1 + s0) (r1 - (31 : Int32))) fun r2 =>
  some r2
def Mo_added_130 (v2 : Int32) (v5 : Int64) (v9 : Int64) (s0 : Int32) : Option Int32 :=
  bnd s0 fun v11_3 =>
  if v11_3 = 0 then
    (Mo_added_151 v2 (0 : Int64) ((2 : Int64) * (v5 + v9)))
  else
    (Mo_added_151 v2 (1 : Int64) ((2 : Int64) * (v5 + v9)))
def Mo_added_125 (v2 : Int32) (v5 : Int64) (v9 : Int64) : Option Int32 :=
  Mo_added_130 v2 v5 v9 (1 : Int32)
def Mo_added_102 (v2 : Int32) (v4 : Int32) (v5 : Int64) (v7 : Int64) (s0 : Int64) : Option Int32 :=
  bnd s0 fun v9_4 =>
  if (62 : Int32) < v4 then
    (Mo_added_125 v2 v5 v9_4)
  else
    (if (lg_cmp (v9_4 <<< (Int32.toInt64 (v4 - (30 : Int32)) &&& 63)) v7) = 0 then
      (Mo_added_130 v2 v5 v9_4 (0 : Int32))
    else
      (Mo_added_125 v2 v5 v9_4))
def Mo_added_21 (v2 : Int32) (s0 : Int32) : Option Int32 :=
  bnd s0 fun v3_5 =>
  if v3_5 = 0 then
    (some v2)
  else
    (bp (Mo_powerOf v2) fun r6 =>
    bp (Mo_powerOf v3_5) fun r7 =>
    bnd (r6 - r7) fun v4_8 =>
    bp (Mo_wholeOf v2) fun r9 =>
    bnd (r9 <<< (Int32.toInt64 (30 : Int32) &&& 63)) fun v5_10 =>
    bp (Mo_wholeOf v3_5) fun r11 =>
    bnd r11 fun v7_12 =>
    if (30 : Int32) < v4_8 then
      (if v4_8 ≤ (62 : Int32) then
        (Mo_added_102 v2 v4_8 v5_10 v7_12 (v7_12 >>> (Int32.toInt64 (v4_8 - (30 : Int32)) &&& 63)))
      else
        (Mo_added_102 v2 v4_8 v5_10 v7_12 (0 : Int64)))
    else
      (bp (Mo_powerOf v2) fun r13 =>
      bp (Mo_packedFloat (v5_10 + (v7_12 <<< (Int32.toInt64 ((30 : Int32) - v4_8) &&& 63))) (r13 - (30 : Int32))) fun r14 =>
      some r14))
def Mo_added_10 (v0 : Int32) (v1 : Int32) (s0 : Int32) : Option Int32 :=
  bnd s0 fun v2_15 =>
  if v0 ≤ v1 then
    (Mo_added_21 v2_15 v0)
  else
    (Mo_added_21 v2_15 v1)
def Mo_added (a0 : Int32) (a1 : Int32) : Option Int32 :=
  if a0 ≤ a1 then
    (Mo_added_10 a0 a1 a1)
  else
    (Mo_added_10 a0 a1 a0)
theorem y_X6_added : YS yX6_added cX6_added 12 (some .int) 2 := ⟨q1711, trivial, q1712, q149, by decide +kernel, by decide +kernel, by decide +kernel, by decide +kernel⟩
theorem r_Mo_added_151 {C : Cxt} {G : Geo} {Mm : Mem} (hC : Cx C cX6_added 12 "FrameHeirsModel" (some .int) rm_X6_added G) (v2 : Int32) (s0 : Int64) (s1 : Int64) : Rz C 12 G (fun _ : Unit => Mm) (poP avI Mm) 151 [(2, .inl (.int v2))] [.inl (.long s0), .inl (.long s1)] () (Mo_added_151 v2 s0 s1) := by
  unfold Mo_added_151
  refine z_ladd (pc := 151) hC dX6_added_151 ?_
  refine z_iload_n (pc := 152) hC 2 rfl 0 rfl dX6_added_152 ?_
  refine z_piS (pc := 153) (st := [.inl (.long (s1 + s0))]) hC y_X6_powerOf q1677 [.inl (.int v2)] rfl (c_X6_powerOf hC.2.2.2.2.2.2.1) rfl ⟨rfl, rfl, (Nat.le_of_ble_eq_true rfl), (Nat.le_of_ble_eq_true rfl)⟩ (Nat.le_of_ble_eq_true rfl) dX6_added_153 (fun r1 => ?_)
  refine z_bipush (pc := 156) hC (31 : Int32) rfl dX6_added_156 ?_
  refine z_isub (pc := 158) hC dX6_added_158 ?_
  refine z_piS (pc := 159) (st := []) hC y_X6_packedFloat q1663 [.inl (.long (s1 + s0)), .inl (.int (r1 - (31 : Int32)))] rfl (c_X6_packedFloat hC.2.2.2.2.2.2.1) rfl ⟨rfl, rfl, (Nat.le_of_ble_eq_true rfl), (Nat.le_of_ble_eq_true rfl)⟩ (Nat.le_of_ble_eq_true rfl) dX6_added_159 (fun r2 => ?_)
  exact z_iret (pc := 162) hC rfl dX6_added_162
theorem r_Mo_added_130 {C : Cxt} {G : Geo} {Mm : Mem} (hC : Cx C cX6_added 12 "FrameHeirsModel" (some .int) rm_X6_added G) (v2 : Int32) (v5 : Int64) (v9 : Int64) (s0 : Int32) : Rz C 12 G (fun _ : Unit => Mm) (poP avI Mm) 130 [(2, .inl (.int v2)), (5, .inl (.long v5)), (9, .inl (.long v9))] [.inl (.int s0)] () (Mo_added_130 v2 v5 v9 s0) := by
  unfold Mo_added_130
  refine z_istore (pc := 130) (ls1 := fun v => [(11, .inl (.int v)), (2, .inl (.int v2)), (5, .inl (.long v5)), (9, .inl (.long v9))]) hC 11 (by decide) (fun v => rfl) dX6_added_130 (fun v11_3 => ?_)
  refine z_ldc2 (pc := 132) hC (2 : Int64) q1680 dX6_added_132 ?_
  refine z_lload (pc := 135) hC 5 2 rfl dX6_added_135 ?_
  refine z_lload (pc := 137) hC 9 3 rfl dX6_added_137 ?_
  refine z_ladd (pc := 139) hC dX6_added_139 ?_
  refine z_lmul (pc := 140) hC dX6_added_140 ?_
  refine z_iload (pc := 141) hC 11 0 rfl dX6_added_141 ?_
  refine z_if_eq (pc := 143) hC 150 rfl dX6_added_143 ?_ ?_
  · refine z_lconst (pc := 150) hC (0 : Int64) rfl dX6_added_150 ?_
    exact z_sub [1] rfl (r_Mo_added_151 hC v2 (0 : Int64) ((2 : Int64) * (v5 + v9)))
  · refine z_lconst (pc := 146) hC (1 : Int64) rfl dX6_added_146 ?_
    refine z_goto (pc := 147) hC 151 rfl dX6_added_147 ?_
    exact z_sub [1] rfl (r_Mo_added_151 hC v2 (1 : Int64) ((2 : Int64) * (v5 + v9)))
theorem r_Mo_added_125 {C : Cxt} {G : Geo} {Mm : Mem} (hC : Cx C cX6_added 12 "FrameHeirsModel" (some .int) rm_X6_added G) (v2 : Int32) (v5 : Int64) (v9 : Int64) : Rz C 12 G (fun _ : Unit => Mm) (poP avI Mm) 125 [(2, .inl (.int v2)), (5, .inl (.long v5)), (9, .inl (.long v9))] [] () (Mo_added_125 v2 v5 v9) := by
  unfold Mo_added_125
  refine z_iconst (pc := 125) hC (1 : Int32) rfl dX6_added_125 ?_
  refine z_goto (pc := 126) hC 130 rfl dX6_added_126 ?_
  exact z_sub [0, 1, 2] rfl (r_Mo_added_130 hC v2 v5 v9 (1 : Int32))
theorem r_Mo_added_102 {C : Cxt} {G : Geo} {Mm : Mem} (hC : Cx C cX6_added 12 "FrameHeirsModel" (some .int) rm_X6_added G) (v2 : Int32) (v4 : Int32) (v5 : Int64) (v7 : Int64) (s0 : Int64) : Rz C 12 G (fun _ : Unit => Mm) (poP avI Mm) 102 [(2, .inl (.int v2)), (4, .inl (.int v4)), (5, .inl (.long v5)), (7, .inl (.long v7))] [.inl (.long s0)] () (Mo_added_102 v2 v4 v5 v7 s0) := by
  unfold Mo_added_102
  refine z_lstore (pc := 102) (ls1 := fun v => [(9, .inl (.long v)), (2, .inl (.int v2)), (4, .inl (.int v4)), (5, .inl (.long v5)), (7, .inl (.long v7))]) hC 9 (by decide) (fun v => rfl) dX6_added_102 (fun v9_4 => ?_)
  refine z_iload (pc := 104) hC 4 2 rfl dX6_added_104 ?_
  refine z_bipush (pc := 106) hC (62 : Int32) rfl dX6_added_106 ?_
  refine z_icmp_gt (pc := 108) hC 125 rfl dX6_added_108 ?_ ?_
  · exact z_sub [1, 3, 0] rfl (r_Mo_added_125 hC v2 v5 v9_4)
  · refine z_lload (pc := 111) hC 9 0 rfl dX6_added_111 ?_
    refine z_iload (pc := 113) hC 4 2 rfl dX6_added_113 ?_
    refine z_bipush (pc := 115) hC (30 : Int32) rfl dX6_added_115 ?_
    refine z_isub (pc := 117) hC dX6_added_117 ?_
    refine z_lshl (pc := 118) hC dX6_added_118 ?_
    refine z_lload (pc := 119) hC 7 4 rfl dX6_added_119 ?_
    refine z_lcmp (pc := 121) hC dX6_added_121 ?_
    refine z_if_eq (pc := 122) hC 129 rfl dX6_added_122 ?_ ?_
    · refine z_iconst (pc := 129) hC (0 : Int32) rfl dX6_added_129 ?_
      exact z_sub [1, 3, 0] rfl (r_Mo_added_130 hC v2 v5 v9_4 (0 : Int32))
    · exact z_sub [1, 3, 0] rfl (r_Mo_added_125 hC v2 v5 v9_4)
theorem r_Mo_added_21 {C : Cxt} {G : Geo} {Mm : Mem} (hC : Cx C cX6_added 12 "FrameHeirsModel" (some .int) rm_X6_added G) (v2 : Int32) (s0 : Int32) : Rz C 12 G (fun _ : Unit => Mm) (poP avI Mm) 21 [(2, .inl (.int v2))] [.inl (.int s0)] () (Mo_added_21 v2 s0) := by
  unfold Mo_added_21
  refine z_istore_n (pc := 21) (ls1 := fun v => [(3, .inl (.int v)), (2, .inl (.int v2))]) hC 3 rfl (by decide) (fun v => rfl) dX6_added_21 (fun v3_5 => ?_)
  refine z_iload_n (pc := 22) hC 3 rfl 0 rfl dX6_added_22 ?_
  refine z_if_ne (pc := 23) hC 28 rfl dX6_added_23 ?_ ?_
  · refine z_iload_n (pc := 28) hC 2 rfl 1 rfl dX6_added_28 ?_
    refine z_piS (pc := 29) (st := []) hC y_X6_powerOf q1677 [.inl (.int v2)] rfl (c_X6_powerOf hC.2.2.2.2.2.2.1) rfl ⟨rfl, rfl, (Nat.le_of_ble_eq_true rfl), (Nat.le_of_ble_eq_true rfl)⟩ (Nat.le_of_ble_eq_true rfl) dX6_added_29 (fun r6 => ?_)
    refine z_iload_n (pc := 32) hC 3 rfl 0 rfl dX6_added_32 ?_
    refine z_piS (pc := 33) (st := [.inl (.int r6)]) hC y_X6_powerOf q1677 [.inl (.int v3_5)] rfl (c_X6_powerOf hC.2.2.2.2.2.2.1) rfl ⟨rfl, rfl, (Nat.le_of_ble_eq_true rfl), (Nat.le_of_ble_eq_true rfl)⟩ (Nat.le_of_ble_eq_true rfl) dX6_added_33 (fun r7 => ?_)
    refine z_isub (pc := 36) hC dX6_added_36 ?_
    refine z_istore (pc := 37) (ls1 := fun v => [(4, .inl (.int v)), (3, .inl (.int v3_5)), (2, .inl (.int v2))]) hC 4 (by decide) (fun v => rfl) dX6_added_37 (fun v4_8 => ?_)
    refine z_iload_n (pc := 39) hC 2 rfl 2 rfl dX6_added_39 ?_
    refine z_plS (pc := 40) (st := []) hC y_X6_wholeOf q1672 [.inl (.int v2)] rfl (c_X6_wholeOf hC.2.2.2.2.2.2.1) rfl ⟨rfl, rfl, (Nat.le_of_ble_eq_true rfl), (Nat.le_of_ble_eq_true rfl)⟩ (Nat.le_of_ble_eq_true rfl) dX6_added_40 (fun r9 => ?_)
    refine z_bipush (pc := 43) hC (30 : Int32) rfl dX6_added_43 ?_
    refine z_lshl (pc := 45) hC dX6_added_45 ?_
    refine z_lstore (pc := 46) (ls1 := fun v => [(5, .inl (.long v)), (4, .inl (.int v4_8)), (3, .inl (.int v3_5)), (2, .inl (.int v2))]) hC 5 (by decide) (fun v => rfl) dX6_added_46 (fun v5_10 => ?_)
    refine z_iload_n (pc := 48) hC 3 rfl 2 rfl dX6_added_48 ?_
    refine z_plS (pc := 49) (st := []) hC y_X6_wholeOf q1672 [.inl (.int v3_5)] rfl (c_X6_wholeOf hC.2.2.2.2.2.2.1) rfl ⟨rfl, rfl, (Nat.le_of_ble_eq_true rfl), (Nat.le_of_ble_eq_true rfl)⟩ (Nat.le_of_ble_eq_true rfl) dX6_added_49 (fun r11 => ?_)
    refine z_lstore (pc := 52) (ls1 := fun v => [(7, .inl (.long v)), (5, .inl (.long v5_10)), (4, .inl (.int v4_8)), (3, .inl (.int v3_5)), (2, .inl (.int v2))]) hC 7 (by decide) (fun v => rfl) dX6_added_52 (fun v7_12 => ?_)
    refine z_iload (pc := 54) hC 4 2 rfl dX6_added_54 ?_
    refine z_bipush (pc := 56) hC (30 : Int32) rfl dX6_added_56 ?_
    refine z_icmp_gt (pc := 58) hC 83 rfl dX6_added_58 ?_ ?_
    · refine z_iload (pc := 83) hC 4 2 rfl dX6_added_83 ?_
      refine z_bipush (pc := 85) hC (62 : Int32) rfl dX6_added_85 ?_
      refine z_icmp_le (pc := 87) hC 94 rfl dX6_added_87 ?_ ?_
      · refine z_lload (pc := 94) hC 7 0 rfl dX6_added_94 ?_
        refine z_iload (pc := 96) hC 4 2 rfl dX6_added_96 ?_
        refine z_bipush (pc := 98) hC (30 : Int32) rfl dX6_added_98 ?_
        refine z_isub (pc := 100) hC dX6_added_100 ?_
        refine z_lshr (pc := 101) hC dX6_added_101 ?_
        exact z_sub [4, 2, 1, 0] rfl (r_Mo_added_102 hC v2 v4_8 v5_10 v7_12 (v7_12 >>> (Int32.toInt64 (v4_8 - (30 : Int32)) &&& 63)))
      · refine z_lconst (pc := 90) hC (0 : Int64) rfl dX6_added_90 ?_
        refine z_goto (pc := 91) hC 102 rfl dX6_added_91 ?_
        exact z_sub [4, 2, 1, 0] rfl (r_Mo_added_102 hC v2 v4_8 v5_10 v7_12 (0 : Int64))
    · refine z_lload (pc := 61) hC 5 1 rfl dX6_added_61 ?_
      refine z_lload (pc := 63) hC 7 0 rfl dX6_added_63 ?_
      refine z_bipush (pc := 65) hC (30 : Int32) rfl dX6_added_65 ?_
      refine z_iload (pc := 67) hC 4 2 rfl dX6_added_67 ?_
      refine z_isub (pc := 69) hC dX6_added_69 ?_
      refine z_lshl (pc := 70) hC dX6_added_70 ?_
      refine z_ladd (pc := 71) hC dX6_added_71 ?_
      refine z_iload_n (pc := 72) hC 2 rfl 4 rfl dX6_added_72 ?_
      refine z_piS (pc := 73) (st := [.inl (.long (v5_10 + (v7_12 <<< (Int32.toInt64 ((30 : Int32) - v4_8) &&& 63))))]) hC y_X6_powerOf q1677 [.inl (.int v2)] rfl (c_X6_powerOf hC.2.2.2.2.2.2.1) rfl ⟨rfl, rfl, (Nat.le_of_ble_eq_true rfl), (Nat.le_of_ble_eq_true rfl)⟩ (Nat.le_of_ble_eq_true rfl) dX6_added_73 (fun r13 => ?_)
      refine z_bipush (pc := 76) hC (30 : Int32) rfl dX6_added_76 ?_
      refine z_isub (pc := 78) hC dX6_added_78 ?_
      refine z_piS (pc := 79) (st := []) hC y_X6_packedFloat q1663 [.inl (.long (v5_10 + (v7_12 <<< (Int32.toInt64 ((30 : Int32) - v4_8) &&& 63)))), .inl (.int (r13 - (30 : Int32)))] rfl (c_X6_packedFloat hC.2.2.2.2.2.2.1) rfl ⟨rfl, rfl, (Nat.le_of_ble_eq_true rfl), (Nat.le_of_ble_eq_true rfl)⟩ (Nat.le_of_ble_eq_true rfl) dX6_added_79 (fun r14 => ?_)
      exact z_iret (pc := 82) hC rfl dX6_added_82
  · refine z_iload_n (pc := 26) hC 2 rfl 1 rfl dX6_added_26 ?_
    exact z_iret (pc := 27) hC rfl dX6_added_27
theorem r_Mo_added_10 {C : Cxt} {G : Geo} {Mm : Mem} (hC : Cx C cX6_added 12 "FrameHeirsModel" (some .int) rm_X6_added G) (v0 : Int32) (v1 : Int32) (s0 : Int32) : Rz C 12 G (fun _ : Unit => Mm) (poP avI Mm) 10 [(0, .inl (.int v0)), (1, .inl (.int v1))] [.inl (.int s0)] () (Mo_added_10 v0 v1 s0) := by
  unfold Mo_added_10
  refine z_istore_n (pc := 10) (ls1 := fun v => [(2, .inl (.int v)), (0, .inl (.int v0)), (1, .inl (.int v1))]) hC 2 rfl (by decide) (fun v => rfl) dX6_added_10 (fun v2_15 => ?_)
  refine z_iload_n (pc := 11) hC 0 rfl 1 rfl dX6_added_11 ?_
  refine z_iload_n (pc := 12) hC 1 rfl 2 rfl dX6_added_12 ?_
  refine z_icmp_le (pc := 13) hC 20 rfl dX6_added_13 ?_ ?_
  · refine z_iload_n (pc := 20) hC 0 rfl 1 rfl dX6_added_20 ?_
    exact z_sub [0] rfl (r_Mo_added_21 hC v2_15 v0)
  · refine z_iload_n (pc := 16) hC 1 rfl 2 rfl dX6_added_16 ?_
    refine z_goto (pc := 17) hC 21 rfl dX6_added_17 ?_
    exact z_sub [0] rfl (r_Mo_added_21 hC v2_15 v1)
theorem r_Mo_added {C : Cxt} {G : Geo} {Mm : Mem} (hC : Cx C cX6_added 12 "FrameHeirsModel" (some .int) rm_X6_added G) (a0 : Int32) (a1 : Int32) : Rz C 12 G (fun _ : Unit => Mm) (poP avI Mm) 0 [(0, .inl (.int a0)), (1, .inl (.int a1))] [] () (Mo_added a0 a1) := by
  unfold Mo_added
  refine z_iload_n (pc := 0) hC 0 rfl 0 rfl dX6_added_0 ?_
  refine z_iload_n (pc := 1) hC 1 rfl 1 rfl dX6_added_1 ?_
  refine z_icmp_le (pc := 2) hC 9 rfl dX6_added_2 ?_ ?_
  · refine z_iload_n (pc := 9) hC 1 rfl 1 rfl dX6_added_9 ?_
    exact z_sub [0, 1] rfl (r_Mo_added_10 hC a0 a1 a1)
  · refine z_iload_n (pc := 5) hC 0 rfl 0 rfl dX6_added_5 ?_
    refine z_goto (pc := 6) hC 10 rfl dX6_added_6 ?_
    exact z_sub [0, 1] rfl (r_Mo_added_10 hC a0 a1 a0)
theorem c_X6_added {G : Geo} {Mm : Mem} (hG : GOk G) {a0 : Int32} {a1 : Int32} (l : Launch) (r : Int32) (h : Mo_added a0 a1 = some r) : Mt l yX6_added cX6_added 12 (some .int) rm_X6_added G [.inl (.int a0), .inl (.int a1)] (Mm) (avI r) (Mm) :=
  mt_of (mem := (fun _ : Unit => Mm)) (po := poP avI Mm) (x0 := ()) (t := r) rfl hG [.inl (.int a0), .inl (.int a1)] (Nat.le_of_ble_eq_true rfl) rfl (fun C hC => r_Mo_added hC a0 a1) h
-- FrameHeirsModel.times(II)I
abbrev rm_X6_times : Room := { frames := 1, cells := 0, slots := 0, locals := 30 }
theorem dX6_times_0 : decode cX6_times 0 = .ok (.iload_n 0, 1) := by decide +kernel
theorem dX6_times_1 : decode cX6_times 1 = .ok (.invokestatic 349, 3) := by decide +kernel
theorem dX6_times_4 : decode cX6_times 4 = .ok (.iload_n 1, 1) := by decide +kernel
theorem dX6_times_5 : decode cX6_times 5 = .ok (.invokestatic 349, 3) := by decide +kernel
theorem dX6_times_8 : decode cX6_times 8 = .ok (.lmul, 1) := by decide +kernel
theorem dX6_times_9 : decode cX6_times 9 = .ok (.iload_n 0, 1) := by decide +kernel
theorem dX6_times_10 : decode cX6_times 10 = .ok (.invokestatic 346, 3) := by decide +kernel
theorem dX6_times_13 : decode cX6_times 13 = .ok (.iload_n 1, 1) := by decide +kernel
theorem dX6_times_14 : decode cX6_times 14 = .ok (.invokestatic 346, 3) := by decide +kernel
theorem dX6_times_17 : decode cX6_times 17 = .ok (.iadd, 1) := by decide +kernel
theorem dX6_times_18 : decode cX6_times 18 = .ok (.invokestatic 342, 3) := by decide +kernel
theorem dX6_times_21 : decode cX6_times 21 = .ok (.ireturn, 1) := by decide +kernel
def Mo_times (a0 : Int32) (a1 : Int32) : Option Int32 :=
  bp (Mo_wholeOf a0) fun r1 =>
  bp (Mo_wholeOf a1) fun r2 =>
  bp (Mo_powerOf a0) fun r3 =>
  bp (Mo_powerOf a1) fun r4 =>
  bp (Mo_packedFloat (r1 * r2) (r3 + r4)) fun r5 =>
  some r5
theorem y_X6_times : YS yX6_times cX6_times 2 (some .int) 2 := ⟨q1683, trivial, q1684, q149, by decide +kernel, by decide +kernel, by decide +kernel, by decide +kernel⟩
theorem r_Mo_times {C : Cxt} {G : Geo} {Mm : Mem} (hC : Cx C cX6_times 2 "FrameHeirsModel" (some .int) rm_X6_times G) (a0 : Int32) (a1 : Int32) : Rz C 2 G (fun _ : Unit => Mm) (poP avI Mm) 0 [(0, .inl (.int a0)), (1, .inl (.int a1))] [] () (Mo_times a0 a1) := by
  unfold Mo_times
  refine z_iload_n (pc := 0) hC 0 rfl 0 rfl dX6_times_0 ?_
  refine z_plS (pc := 1) (st := []) hC y_X6_wholeOf q1672 [.inl (.int a0)] rfl (c_X6_wholeOf hC.2.2.2.2.2.2.1) rfl ⟨rfl, rfl, (Nat.le_of_ble_eq_true rfl), (Nat.le_of_ble_eq_true rfl)⟩ (Nat.le_of_ble_eq_true rfl) dX6_times_1 (fun r1 => ?_)
  refine z_iload_n (pc := 4) hC 1 rfl 1 rfl dX6_times_4 ?_
  refine z_plS (pc := 5) (st := [.inl (.long r1)]) hC y_X6_wholeOf q1672 [.inl (.int a1)] rfl (c_X6_wholeOf hC.2.2.2.2.2.2.1) rfl ⟨rfl, rfl, (Nat.le_of_ble_eq_true rfl), (Nat.le_of_ble_eq_true rfl)⟩ (Nat.le_of_ble_eq_true rfl) dX6_times_5 (fun r2 => ?_)
  refine z_lmul (pc := 8) hC dX6_times_8 ?_
  refine z_iload_n (pc := 9) hC 0 rfl 0 rfl dX6_times_9 ?_
  refine z_piS (pc := 10) (st := [.inl (.long (r1 * r2))]) hC y_X6_powerOf q1677 [.inl (.int a0)] rfl (c_X6_powerOf hC.2.2.2.2.2.2.1) rfl ⟨rfl, rfl, (Nat.le_of_ble_eq_true rfl), (Nat.le_of_ble_eq_true rfl)⟩ (Nat.le_of_ble_eq_true rfl) dX6_times_10 (fun r3 => ?_)
  refine z_iload_n (pc := 13) hC 1 rfl 1 rfl dX6_times_13 ?_
  refine z_piS (pc := 14) (st := [.inl (.int r3), .inl (.long (r1 * r2))]) hC y_X6_powerOf q1677 [.inl (.int a1)] rfl (c_X6_powerOf hC.2.2.2.2.2.2.1) rfl ⟨rfl, rfl, (Nat.le_of_ble_eq_true rfl), (Nat.le_of_ble_eq_true rfl)⟩ (Nat.le_of_ble_eq_true rfl) dX6_times_14 (fun r4 => ?_)
  refine z_iadd (pc := 17) hC dX6_times_17 ?_
  refine z_piS (pc := 18) (st := []) hC y_X6_packedFloat q1663 [.inl (.long (r1 * r2)), .inl (.int (r3 + r4))] rfl (c_X6_packedFloat hC.2.2.2.2.2.2.1) rfl ⟨rfl, rfl, (Nat.le_of_ble_eq_true rfl), (Nat.le_of_ble_eq_true rfl)⟩ (Nat.le_of_ble_eq_true rfl) dX6_times_18 (fun r5 => ?_)
  exact z_iret (pc := 21) hC rfl dX6_times_21
theorem c_X6_times {G : Geo} {Mm : Mem} (hG : GOk G) {a0 : Int32} {a1 : Int32} (l : Launch) (r : Int32) (h : Mo_times a0 a1 = some r) : Mt l yX6_times cX6_times 2 (some .int) rm_X6_times G [.inl (.int a0), .inl (.int a1)] (Mm) (avI r) (Mm) :=
  mt_of (mem := (fun _ : Unit => Mm)) (po := poP avI Mm) (x0 := ()) (t := r) rfl hG [.inl (.int a0), .inl (.int a1)] (Nat.le_of_ble_eq_true rfl) rfl (fun C hC => r_Mo_times hC a0 a1) h
-- FrameHeirsModel.divided(II)I
abbrev rm_X6_divided : Room := { frames := 1, cells := 0, slots := 0, locals := 30 }
theorem dX6_divided_0 : decode cX6_divided 0 = .ok (.iload_n 0, 1) := by decide +kernel
theorem dX6_divided_1 : decode cX6_divided 1 = .ok (.ifCond .ne 5, 3) := by decide +kernel
theorem dX6_divided_4 : decode cX6_divided 4 = .ok (.iconst 0, 1) := by decide +kernel
theorem dX6_divided_5 : decode cX6_divided 5 = .ok (.ireturn, 1) := by decide +kernel
theorem dX6_divided_6 : decode cX6_divided 6 = .ok (.iload_n 0, 1) := by decide +kernel
theorem dX6_divided_7 : decode cX6_divided 7 = .ok (.invokestatic 349, 3) := by decide +kernel
theorem dX6_divided_10 : decode cX6_divided 10 = .ok (.lstore_n 2, 1) := by decide +kernel
theorem dX6_divided_11 : decode cX6_divided 11 = .ok (.iload_n 0, 1) := by decide +kernel
theorem dX6_divided_12 : decode cX6_divided 12 = .ok (.invokestatic 346, 3) := by decide +kernel
theorem dX6_divided_15 : decode cX6_divided 15 = .ok (.istore 4, 2) := by decide +kernel
theorem dX6_divided_17 : decode cX6_divided 17 = .ok (.lload_n 2, 1) := by decide +kernel
theorem dX6_divided_18 : decode cX6_divided 18 = .ok (.ldc2_w 337, 3) := by decide +kernel
theorem dX6_divided_21 : decode cX6_divided 21 = .ok (.lcmp, 1) := by decide +kernel
theorem dX6_divided_22 : decode cX6_divided 22 = .ok (.ifCond .ge 15, 3) := by decide +kernel
theorem dX6_divided_25 : decode cX6_divided 25 = .ok (.lload_n 2, 1) := by decide +kernel
theorem dX6_divided_26 : decode cX6_divided 26 = .ok (.ldc2_w 353, 3) := by decide +kernel
theorem dX6_divided_29 : decode cX6_divided 29 = .ok (.lmul, 1) := by decide +kernel
theorem dX6_divided_30 : decode cX6_divided 30 = .ok (.lstore_n 2, 1) := by decide +kernel
theorem dX6_divided_31 : decode cX6_divided 31 = .ok (.iinc 4 (-1), 3) := by decide +kernel
theorem dX6_divided_34 : decode cX6_divided 34 = .ok (.goto (-17), 3) := by decide +kernel
theorem dX6_divided_37 : decode cX6_divided 37 = .ok (.lload_n 2, 1) := by decide +kernel
theorem dX6_divided_38 : decode cX6_divided 38 = .ok (.bipush 38, 2) := by decide +kernel
theorem dX6_divided_40 : decode cX6_divided 40 = .ok (.lshl, 1) := by decide +kernel
theorem dX6_divided_41 : decode cX6_divided 41 = .ok (.iload_n 1, 1) := by decide +kernel
theorem dX6_divided_42 : decode cX6_divided 42 = .ok (.invokestatic 349, 3) := by decide +kernel
theorem dX6_divided_45 : decode cX6_divided 45 = .ok (.ldiv, 1) := by decide +kernel
theorem dX6_divided_46 : decode cX6_divided 46 = .ok (.lstore 5, 2) := by decide +kernel
theorem dX6_divided_48 : decode cX6_divided 48 = .ok (.lload 5, 2) := by decide +kernel
theorem dX6_divided_50 : decode cX6_divided 50 = .ok (.iload_n 1, 1) := by decide +kernel
theorem dX6_divided_51 : decode cX6_divided 51 = .ok (.invokestatic 349, 3) := by decide +kernel
theorem dX6_divided_54 : decode cX6_divided 54 = .ok (.lmul, 1) := by decide +kernel
theorem dX6_divided_55 : decode cX6_divided 55 = .ok (.lload_n 2, 1) := by decide +kernel
theorem dX6_divided_56 : decode cX6_divided 56 = .ok (.bipush 38, 2) := by decide +kernel
theorem dX6_divided_58 : decode cX6_divided 58 = .ok (.lshl, 1) := by decide +kernel
theorem dX6_divided_59 : decode cX6_divided 59 = .ok (.lcmp, 1) := by decide +kernel
theorem dX6_divided_60 : decode cX6_divided 60 = .ok (.ifCond .eq 7, 3) := by decide +kernel
theorem dX6_divided_63 : decode cX6_divided 63 = .ok (.iconst 1, 1) := by decide +kernel
theorem dX6_divided_64 : decode cX6_divided 64 = .ok (.goto 4, 3) := by decide +kernel
theorem dX6_divided_67 : decode cX6_divided 67 = .ok (.iconst 0, 1) := by decide +kernel
theorem dX6_divided_68 : decode cX6_divided 68 = .ok (.istore 7, 2) := by decide +kernel
theorem dX6_divided_70 : decode cX6_divided 70 = .ok (.lload 5, 2) := by decide +kernel
theorem dX6_divided_72 : decode cX6_divided 72 = .ok (.ldc2_w 355, 3) := by decide +kernel
theorem dX6_divided_75 : decode cX6_divided 75 = .ok (.lcmp, 1) := by decide +kernel
theorem dX6_divided_76 : decode cX6_divided 76 = .ok (.ifCond .ge 34, 3) := by decide +kernel
theorem dX6_divided_79 : decode cX6_divided 79 = .ok (.ldc2_w 353, 3) := by decide +kernel
theorem dX6_divided_82 : decode cX6_divided 82 = .ok (.lload 5, 2) := by decide +kernel
theorem dX6_divided_84 : decode cX6_divided 84 = .ok (.lmul, 1) := by decide +kernel
theorem dX6_divided_85 : decode cX6_divided 85 = .ok (.iload 7, 2) := by decide +kernel
theorem dX6_divided_87 : decode cX6_divided 87 = .ok (.ifCond .eq 7, 3) := by decide +kernel
theorem dX6_divided_90 : decode cX6_divided 90 = .ok (.lconst 1, 1) := by decide +kernel
theorem dX6_divided_91 : decode cX6_divided 91 = .ok (.goto 4, 3) := by decide +kernel
theorem dX6_divided_94 : decode cX6_divided 94 = .ok (.lconst 0, 1) := by decide +kernel
theorem dX6_divided_95 : decode cX6_divided 95 = .ok (.ladd, 1) := by decide +kernel
theorem dX6_divided_96 : decode cX6_divided 96 = .ok (.iload 4, 2) := by decide +kernel
theorem dX6_divided_98 : decode cX6_divided 98 = .ok (.iload_n 1, 1) := by decide +kernel
theorem dX6_divided_99 : decode cX6_divided 99 = .ok (.invokestatic 346, 3) := by decide +kernel
theorem dX6_divided_102 : decode cX6_divided 102 = .ok (.isub, 1) := by decide +kernel
theorem dX6_divided_103 : decode cX6_divided 103 = .ok (.bipush 39, 2) := by decide +kernel
theorem dX6_divided_105 : decode cX6_divided 105 = .ok (.isub, 1) := by decide +kernel
theorem dX6_divided_106 : decode cX6_divided 106 = .ok (.invokestatic 342, 3) := by decide +kernel
theorem dX6_divided_109 : decode cX6_divided 109 = .ok (.ireturn, 1) := by decide +kernel
theorem dX6_divided_110 : decode cX6_divided 110 = .ok (.lload 5, 2) := by decide +kernel
theorem dX6_divided_112 : decode cX6_divided 112 = .ok (.iload 7, 2) := by decide +kernel
theorem dX6_divided_114 : decode cX6_divided 114 = .ok (.ifCond .eq 7, 3) := by decide +kernel
theorem dX6_divided_117 : decode cX6_divided 117 = .ok (.lconst 1, 1) := by decide +kernel
theorem dX6_divided_118 : decode cX6_divided 118 = .ok (.goto 4, 3) := by decide +kernel
theorem dX6_divided_121 : decode cX6_divided 121 = .ok (.lconst 0, 1) := by decide +kernel
theorem dX6_divided_122 : decode cX6_divided 122 = .ok (.lor, 1) := by decide +kernel
theorem dX6_divided_123 : decode cX6_divided 123 = .ok (.iload 4, 2) := by decide +kernel
theorem dX6_divided_125 : decode cX6_divided 125 = .ok (.iload_n 1, 1) := by decide +kernel
theorem dX6_divided_126 : decode cX6_divided 126 = .ok (.invokestatic 346, 3) := by decide +kernel
theorem dX6_divided_129 : decode cX6_divided 129 = .ok (.isub, 1) := by decide +kernel
theorem dX6_divided_130 : decode cX6_divided 130 = .ok (.bipush 38, 2) := by decide +kernel
theorem dX6_divided_132 : decode cX6_divided 132 = .ok (.isub, 1) := by decide +kernel
theorem dX6_divided_133 : decode cX6_divided 133 = .ok (.invokestatic 342, 3) := by decide +kernel
theorem dX6_divided_136 : decode cX6_divided 136 = .ok (.ireturn, 1) := by decide +kernel
def Mo_divided_122 (v1 : Int32) (v4 : Int32) (s0 : Int64) (s1 : Int64) : Option Int32 :=
  bp (Mo_powerOf v1) fun r1 =>
  bp (Mo_packedFloat (s1 ||| s0) ((v4 - r1) - (38 : Int32))) fun r2 =>
  some r2
def Mo_divided_95 (v1 : Int32) (v4 : Int32) (s0 : Int64) (s1 : Int64) : Option Int32 :=
  bp (Mo_powerOf v1) fun r3 =>
  bp (Mo_packedFloat (s1 + s0) ((v4 - r3) - (39 : Int32))) fun r4 =>
  some r4
def Mo_divided_68 (v1 : Int32) (v4 : Int32) (v5 : Int64) (s0 : Int32) : Option Int32 :=
  bnd s0 fun v7_5 =>
  if 0 ≤ (lg_cmp v5 (1152921504606846976 : Int64)) then
    (if v7_5 = 0 then
      (Mo_divided_122 v1 v4 (0 : Int64) v5)
    else
      (Mo_divided_122 v1 v4 (1 : Int64) v5))
  else
    (if v7_5 = 0 then
      (Mo_divided_95 v1 v4 (0 : Int64) ((2 : Int64) * v5))
    else
      (Mo_divided_95 v1 v4 (1 : Int64) ((2 : Int64) * v5)))
def Mo_divided_17 : Nat → Int32 → Int64 → Int32 → Option Int32
  | 0, _, _, _ => none
  | n + 1, v1, v2, v4 =>
    if 0 ≤ (lg_cmp v2 (8388608 : Int64)) then
      (bp (Mo_wholeOf v1) fun r6 =>
      if ¬ r6 = 0 then
      bnd ((v2 <<< (Int32.toInt64 (38 : Int32) &&& 63)) / r6) fun v5_7 =>
      bp (Mo_wholeOf v1) fun r8 =>
      if (lg_cmp (v5_7 * r8) (v2 <<< (Int32.toInt64 (38 : Int32) &&& 63))) = 0 then
        (Mo_divided_68 v1 v4 v5_7 (0 : Int32))
      else
        (Mo_divided_68 v1 v4 v5_7 (1 : Int32))
      else none)
    else
      (bnd (v2 * (2 : Int64)) fun v2_9 =>
      bnd (v4 + (-1 : Int32)) fun v4_10 =>
      Mo_divided_17 n v1 v2_9 v4_10)
def Mo_divided (a0 : Int32) (a1 : Int32) : Option Int32 :=
  if a0 = 0 then
    (some (0 : Int32))
  else
    (bp (Mo_wholeOf a0) fun r11 =>
    bnd r11 fun v2_12 =>
    bp (Mo_powerOf a0) fun r13 =>
    bnd r13 fun v4_14 =>
    Mo_divided_17 FU a1 v2_12 v4_14)
theorem y_X6_divided : YS yX6_divided cX6_divided 8 (some .int) 2 := ⟨q1670, trivial, q1671, q149, by decide +kernel, by decide +kernel, by decide +kernel, by decide +kernel⟩
theorem r_Mo_divided_122 {C : Cxt} {G : Geo} {Mm : Mem} (hC : Cx C cX6_divided 8 "FrameHeirsModel" (some .int) rm_X6_divided G) (v1 : Int32) (v4 : Int32) (s0 : Int64) (s1 : Int64) : Rz C 8 G (fun _ : Unit => Mm) (poP avI Mm) 122 [(1, .inl (.int v1)), (4, .inl (.int v4))] [.inl (.long s0), .inl (.long s1)] () (Mo_divided_122 v1 v4 s0 s1) := by
  unfold Mo_divided_122
  refine z_lor (pc := 122) hC dX6_divided_122 ?_
  refine z_iload (pc := 123) hC 4 1 rfl dX6_divided_123 ?_
  refine z_iload_n (pc := 125) hC 1 rfl 0 rfl dX6_divided_125 ?_
  refine z_piS (pc := 126) (st := [.inl (.int v4), .inl (.long (s1 ||| s0))]) hC y_X6_powerOf q1677 [.inl (.int v1)] rfl (c_X6_powerOf hC.2.2.2.2.2.2.1) rfl ⟨rfl, rfl, (Nat.le_of_ble_eq_true rfl), (Nat.le_of_ble_eq_true rfl)⟩ (Nat.le_of_ble_eq_true rfl) dX6_divided_126 (fun r1 => ?_)
  refine z_isub (pc := 129) hC dX6_divided_129 ?_
  refine z_bipush (pc := 130) hC (38 : Int32) rfl dX6_divided_130 ?_
  refine z_isub (pc := 132) hC dX6_divided_132 ?_
  refine z_piS (pc := 133) (st := []) hC y_X6_packedFloat q1663 [.inl (.long (s1 ||| s0)), .inl (.int ((v4 - r1) - (38 : Int32)))] rfl (c_X6_packedFloat hC.2.2.2.2.2.2.1) rfl ⟨rfl, rfl, (Nat.le_of_ble_eq_true rfl), (Nat.le_of_ble_eq_true rfl)⟩ (Nat.le_of_ble_eq_true rfl) dX6_divided_133 (fun r2 => ?_)
  exact z_iret (pc := 136) hC rfl dX6_divided_136
theorem r_Mo_divided_95 {C : Cxt} {G : Geo} {Mm : Mem} (hC : Cx C cX6_divided 8 "FrameHeirsModel" (some .int) rm_X6_divided G) (v1 : Int32) (v4 : Int32) (s0 : Int64) (s1 : Int64) : Rz C 8 G (fun _ : Unit => Mm) (poP avI Mm) 95 [(1, .inl (.int v1)), (4, .inl (.int v4))] [.inl (.long s0), .inl (.long s1)] () (Mo_divided_95 v1 v4 s0 s1) := by
  unfold Mo_divided_95
  refine z_ladd (pc := 95) hC dX6_divided_95 ?_
  refine z_iload (pc := 96) hC 4 1 rfl dX6_divided_96 ?_
  refine z_iload_n (pc := 98) hC 1 rfl 0 rfl dX6_divided_98 ?_
  refine z_piS (pc := 99) (st := [.inl (.int v4), .inl (.long (s1 + s0))]) hC y_X6_powerOf q1677 [.inl (.int v1)] rfl (c_X6_powerOf hC.2.2.2.2.2.2.1) rfl ⟨rfl, rfl, (Nat.le_of_ble_eq_true rfl), (Nat.le_of_ble_eq_true rfl)⟩ (Nat.le_of_ble_eq_true rfl) dX6_divided_99 (fun r3 => ?_)
  refine z_isub (pc := 102) hC dX6_divided_102 ?_
  refine z_bipush (pc := 103) hC (39 : Int32) rfl dX6_divided_103 ?_
  refine z_isub (pc := 105) hC dX6_divided_105 ?_
  refine z_piS (pc := 106) (st := []) hC y_X6_packedFloat q1663 [.inl (.long (s1 + s0)), .inl (.int ((v4 - r3) - (39 : Int32)))] rfl (c_X6_packedFloat hC.2.2.2.2.2.2.1) rfl ⟨rfl, rfl, (Nat.le_of_ble_eq_true rfl), (Nat.le_of_ble_eq_true rfl)⟩ (Nat.le_of_ble_eq_true rfl) dX6_divided_106 (fun r4 => ?_)
  exact z_iret (pc := 109) hC rfl dX6_divided_109
theorem r_Mo_divided_68 {C : Cxt} {G : Geo} {Mm : Mem} (hC : Cx C cX6_divided 8 "FrameHeirsModel" (some .int) rm_X6_divided G) (v1 : Int32) (v4 : Int32) (v5 : Int64) (s0 : Int32) : Rz C 8 G (fun _ : Unit => Mm) (poP avI Mm) 68 [(1, .inl (.int v1)), (4, .inl (.int v4)), (5, .inl (.long v5))] [.inl (.int s0)] () (Mo_divided_68 v1 v4 v5 s0) := by
  unfold Mo_divided_68
  refine z_istore (pc := 68) (ls1 := fun v => [(7, .inl (.int v)), (1, .inl (.int v1)), (4, .inl (.int v4)), (5, .inl (.long v5))]) hC 7 (by decide) (fun v => rfl) dX6_divided_68 (fun v7_5 => ?_)
  refine z_lload (pc := 70) hC 5 3 rfl dX6_divided_70 ?_
  refine z_ldc2 (pc := 72) hC (1152921504606846976 : Int64) q1681 dX6_divided_72 ?_
  refine z_lcmp (pc := 75) hC dX6_divided_75 ?_
  refine z_if_ge (pc := 76) hC 110 rfl dX6_divided_76 ?_ ?_
  · refine z_lload (pc := 110) hC 5 3 rfl dX6_divided_110 ?_
    refine z_iload (pc := 112) hC 7 0 rfl dX6_divided_112 ?_
    refine z_if_eq (pc := 114) hC 121 rfl dX6_divided_114 ?_ ?_
    · refine z_lconst (pc := 121) hC (0 : Int64) rfl dX6_divided_121 ?_
      exact z_sub [1, 2] rfl (r_Mo_divided_122 hC v1 v4 (0 : Int64) v5)
    · refine z_lconst (pc := 117) hC (1 : Int64) rfl dX6_divided_117 ?_
      refine z_goto (pc := 118) hC 122 rfl dX6_divided_118 ?_
      exact z_sub [1, 2] rfl (r_Mo_divided_122 hC v1 v4 (1 : Int64) v5)
  · refine z_ldc2 (pc := 79) hC (2 : Int64) q1680 dX6_divided_79 ?_
    refine z_lload (pc := 82) hC 5 3 rfl dX6_divided_82 ?_
    refine z_lmul (pc := 84) hC dX6_divided_84 ?_
    refine z_iload (pc := 85) hC 7 0 rfl dX6_divided_85 ?_
    refine z_if_eq (pc := 87) hC 94 rfl dX6_divided_87 ?_ ?_
    · refine z_lconst (pc := 94) hC (0 : Int64) rfl dX6_divided_94 ?_
      exact z_sub [1, 2] rfl (r_Mo_divided_95 hC v1 v4 (0 : Int64) ((2 : Int64) * v5))
    · refine z_lconst (pc := 90) hC (1 : Int64) rfl dX6_divided_90 ?_
      refine z_goto (pc := 91) hC 95 rfl dX6_divided_91 ?_
      exact z_sub [1, 2] rfl (r_Mo_divided_95 hC v1 v4 (1 : Int64) ((2 : Int64) * v5))
theorem r_Mo_divided_17 {C : Cxt} {G : Geo} {Mm : Mem} (hC : Cx C cX6_divided 8 "FrameHeirsModel" (some .int) rm_X6_divided G) : ∀ (n : Nat) (v1 : Int32) (v2 : Int64) (v4 : Int32), Rz C 8 G (fun _ : Unit => Mm) (poP avI Mm) 17 [(1, .inl (.int v1)), (2, .inl (.long v2)), (4, .inl (.int v4))] [] () (Mo_divided_17 n v1 v2 v4) := by
  intro n
  induction n with
  | zero => intros; exact z_none
  | succ n ih =>
    intro v1 v2 v4
    rw [Mo_divided_17]
    refine z_lload_n (pc := 17) hC 2 rfl 1 rfl dX6_divided_17 ?_
    refine z_ldc2 (pc := 18) hC (8388608 : Int64) q1667 dX6_divided_18 ?_
    refine z_lcmp (pc := 21) hC dX6_divided_21 ?_
    refine z_if_ge (pc := 22) hC 37 rfl dX6_divided_22 ?_ ?_
    · refine z_lload_n (pc := 37) hC 2 rfl 1 rfl dX6_divided_37 ?_
      refine z_bipush (pc := 38) hC (38 : Int32) rfl dX6_divided_38 ?_
      refine z_lshl (pc := 40) hC dX6_divided_40 ?_
      refine z_iload_n (pc := 41) hC 1 rfl 0 rfl dX6_divided_41 ?_
      refine z_plS (pc := 42) (st := [.inl (.long (v2 <<< (Int32.toInt64 (38 : Int32) &&& 63)))]) hC y_X6_wholeOf q1672 [.inl (.int v1)] rfl (c_X6_wholeOf hC.2.2.2.2.2.2.1) rfl ⟨rfl, rfl, (Nat.le_of_ble_eq_true rfl), (Nat.le_of_ble_eq_true rfl)⟩ (Nat.le_of_ble_eq_true rfl) dX6_divided_42 (fun r6 => ?_)
      refine z_ldiv (pc := 45) hC dX6_divided_45 ?_
      refine z_lstore (pc := 46) (ls1 := fun v => [(5, .inl (.long v)), (1, .inl (.int v1)), (2, .inl (.long v2)), (4, .inl (.int v4))]) hC 5 (by decide) (fun v => rfl) dX6_divided_46 (fun v5_7 => ?_)
      refine z_lload (pc := 48) hC 5 0 rfl dX6_divided_48 ?_
      refine z_iload_n (pc := 50) hC 1 rfl 1 rfl dX6_divided_50 ?_
      refine z_plS (pc := 51) (st := [.inl (.long v5_7)]) hC y_X6_wholeOf q1672 [.inl (.int v1)] rfl (c_X6_wholeOf hC.2.2.2.2.2.2.1) rfl ⟨rfl, rfl, (Nat.le_of_ble_eq_true rfl), (Nat.le_of_ble_eq_true rfl)⟩ (Nat.le_of_ble_eq_true rfl) dX6_divided_51 (fun r8 => ?_)
      refine z_lmul (pc := 54) hC dX6_divided_54 ?_
      refine z_lload_n (pc := 55) hC 2 rfl 2 rfl dX6_divided_55 ?_
      refine z_bipush (pc := 56) hC (38 : Int32) rfl dX6_divided_56 ?_
      refine z_lshl (pc := 58) hC dX6_divided_58 ?_
      refine z_lcmp (pc := 59) hC dX6_divided_59 ?_
      refine z_if_eq (pc := 60) hC 67 rfl dX6_divided_60 ?_ ?_
      · refine z_iconst (pc := 67) hC (0 : Int32) rfl dX6_divided_67 ?_
        exact z_sub [1, 3, 0] rfl (r_Mo_divided_68 hC v1 v4 v5_7 (0 : Int32))
      · refine z_iconst (pc := 63) hC (1 : Int32) rfl dX6_divided_63 ?_
        refine z_goto (pc := 64) hC 68 rfl dX6_divided_64 ?_
        exact z_sub [1, 3, 0] rfl (r_Mo_divided_68 hC v1 v4 v5_7 (1 : Int32))
    · refine z_lload_n (pc := 25) hC 2 rfl 1 rfl dX6_divided_25 ?_
      refine z_ldc2 (pc := 26) hC (2 : Int64) q1680 dX6_divided_26 ?_
      refine z_lmul (pc := 29) hC dX6_divided_29 ?_
      refine z_lstore_n (pc := 30) (ls1 := fun v => [(2, .inl (.long v)), (1, .inl (.int v1)), (4, .inl (.int v4))]) hC 2 rfl (by decide) (fun v => rfl) dX6_divided_30 (fun v2_9 => ?_)
      refine z_iinc (pc := 31) (ls1 := fun v => [(4, .inl (.int v)), (2, .inl (.long v2_9)), (1, .inl (.int v1))]) hC 4 2 (by decide) (-1 : Int32) rfl rfl (fun v => rfl) dX6_divided_31 (fun v4_10 => ?_)
      refine z_goto (pc := 34) hC 17 rfl dX6_divided_34 ?_
      exact z_sub [2, 1, 0] rfl (ih v1 v2_9 v4_10)
theorem r_Mo_divided {C : Cxt} {G : Geo} {Mm : Mem} (hC : Cx C cX6_divided 8 "FrameHeirsModel" (some .int) rm_X6_divided G) (a0 : Int32) (a1 : Int32) : Rz C 8 G (fun _ : Unit => Mm) (poP avI Mm) 0 [(0, .inl (.int a0)), (1, .inl (.int a1))] [] () (Mo_divided a0 a1) := by
  unfold Mo_divided
  refine z_iload_n (pc := 0) hC 0 rfl 0 rfl dX6_divided_0 ?_
  refine z_if_ne (pc := 1) hC 6 rfl dX6_divided_1 ?_ ?_
  · refine z_iload_n (pc := 6) hC 0 rfl 0 rfl dX6_divided_6 ?_
    refine z_plS (pc := 7) (st := []) hC y_X6_wholeOf q1672 [.inl (.int a0)] rfl (c_X6_wholeOf hC.2.2.2.2.2.2.1) rfl ⟨rfl, rfl, (Nat.le_of_ble_eq_true rfl), (Nat.le_of_ble_eq_true rfl)⟩ (Nat.le_of_ble_eq_true rfl) dX6_divided_7 (fun r11 => ?_)
    refine z_lstore_n (pc := 10) (ls1 := fun v => [(2, .inl (.long v)), (0, .inl (.int a0)), (1, .inl (.int a1))]) hC 2 rfl (by decide) (fun v => rfl) dX6_divided_10 (fun v2_12 => ?_)
    refine z_iload_n (pc := 11) hC 0 rfl 1 rfl dX6_divided_11 ?_
    refine z_piS (pc := 12) (st := []) hC y_X6_powerOf q1677 [.inl (.int a0)] rfl (c_X6_powerOf hC.2.2.2.2.2.2.1) rfl ⟨rfl, rfl, (Nat.le_of_ble_eq_true rfl), (Nat.le_of_ble_eq_true rfl)⟩ (Nat.le_of_ble_eq_true rfl) dX6_divided_12 (fun r13 => ?_)
    refine z_istore (pc := 15) (ls1 := fun v => [(4, .inl (.int v)), (2, .inl (.long v2_12)), (0, .inl (.int a0)), (1, .inl (.int a1))]) hC 4 (by decide) (fun v => rfl) dX6_divided_15 (fun v4_14 => ?_)
    exact z_sub [3, 1, 0] rfl (r_Mo_divided_17 hC FU a1 v2_12 v4_14)
  · refine z_iconst (pc := 4) hC (0 : Int32) rfl dX6_divided_4 ?_
    exact z_iret (pc := 5) hC rfl dX6_divided_5
theorem c_X6_divided {G : Geo} {Mm : Mem} (hG : GOk G) {a0 : Int32} {a1 : Int32} (l : Launch) (r : Int32) (h : Mo_divided a0 a1 = some r) : Mt l yX6_divided cX6_divided 8 (some .int) rm_X6_divided G [.inl (.int a0), .inl (.int a1)] (Mm) (avI r) (Mm) :=
  mt_of (mem := (fun _ : Unit => Mm)) (po := poP avI Mm) (x0 := ()) (t := r) rfl hG [.inl (.int a0), .inl (.int a1)] (Nat.le_of_ble_eq_true rfl) rfl (fun C hC => r_Mo_divided hC a0 a1) h
-- FrameHeirsModel.cutOf(I)I
abbrev rm_X6_cutOf : Room := { frames := 1, cells := 0, slots := 0, locals := 20 }
theorem dX6_cutOf_0 : decode cX6_cutOf 0 = .ok (.iload_n 0, 1) := by decide +kernel
theorem dX6_cutOf_1 : decode cX6_cutOf 1 = .ok (.invokestatic 346, 3) := by decide +kernel
theorem dX6_cutOf_4 : decode cX6_cutOf 4 = .ok (.istore_n 1, 1) := by decide +kernel
theorem dX6_cutOf_5 : decode cX6_cutOf 5 = .ok (.iload_n 1, 1) := by decide +kernel
theorem dX6_cutOf_6 : decode cX6_cutOf 6 = .ok (.bipush 7, 2) := by decide +kernel
theorem dX6_cutOf_8 : decode cX6_cutOf 8 = .ok (.if_icmp .le 7, 3) := by decide +kernel
theorem dX6_cutOf_11 : decode cX6_cutOf 11 = .ok (.ldc_w 357, 3) := by decide +kernel
theorem dX6_cutOf_14 : decode cX6_cutOf 14 = .ok (.ireturn, 1) := by decide +kernel
theorem dX6_cutOf_15 : decode cX6_cutOf 15 = .ok (.iload_n 1, 1) := by decide +kernel
theorem dX6_cutOf_16 : decode cX6_cutOf 16 = .ok (.ifCond .lt 11, 3) := by decide +kernel
theorem dX6_cutOf_19 : decode cX6_cutOf 19 = .ok (.iload_n 0, 1) := by decide +kernel
theorem dX6_cutOf_20 : decode cX6_cutOf 20 = .ok (.invokestatic 349, 3) := by decide +kernel
theorem dX6_cutOf_23 : decode cX6_cutOf 23 = .ok (.iload_n 1, 1) := by decide +kernel
theorem dX6_cutOf_24 : decode cX6_cutOf 24 = .ok (.lshl, 1) := by decide +kernel
theorem dX6_cutOf_25 : decode cX6_cutOf 25 = .ok (.l2i, 1) := by decide +kernel
theorem dX6_cutOf_26 : decode cX6_cutOf 26 = .ok (.ireturn, 1) := by decide +kernel
theorem dX6_cutOf_27 : decode cX6_cutOf 27 = .ok (.iload_n 1, 1) := by decide +kernel
theorem dX6_cutOf_28 : decode cX6_cutOf 28 = .ok (.bipush (-30), 2) := by decide +kernel
theorem dX6_cutOf_30 : decode cX6_cutOf 30 = .ok (.if_icmp .ge 7, 3) := by decide +kernel
theorem dX6_cutOf_33 : decode cX6_cutOf 33 = .ok (.iconst 0, 1) := by decide +kernel
theorem dX6_cutOf_34 : decode cX6_cutOf 34 = .ok (.goto 11, 3) := by decide +kernel
theorem dX6_cutOf_37 : decode cX6_cutOf 37 = .ok (.iload_n 0, 1) := by decide +kernel
theorem dX6_cutOf_38 : decode cX6_cutOf 38 = .ok (.invokestatic 349, 3) := by decide +kernel
theorem dX6_cutOf_41 : decode cX6_cutOf 41 = .ok (.iload_n 1, 1) := by decide +kernel
theorem dX6_cutOf_42 : decode cX6_cutOf 42 = .ok (.ineg, 1) := by decide +kernel
theorem dX6_cutOf_43 : decode cX6_cutOf 43 = .ok (.lshr, 1) := by decide +kernel
theorem dX6_cutOf_44 : decode cX6_cutOf 44 = .ok (.l2i, 1) := by decide +kernel
theorem dX6_cutOf_45 : decode cX6_cutOf 45 = .ok (.ireturn, 1) := by decide +kernel
def Mo_cutOf (a0 : Int32) : Option Int32 :=
  bp (Mo_powerOf a0) fun r1 =>
  bnd r1 fun v1_2 =>
  if v1_2 ≤ (7 : Int32) then
    (if v1_2 < 0 then
      (if (-30 : Int32) ≤ v1_2 then
        (bp (Mo_wholeOf a0) fun r3 =>
        some (Int64.toInt32 (r3 >>> (Int32.toInt64 (-v1_2) &&& 63))))
      else
        (some (0 : Int32)))
    else
      (bp (Mo_wholeOf a0) fun r4 =>
      some (Int64.toInt32 (r4 <<< (Int32.toInt64 v1_2 &&& 63)))))
  else
    (some (2147483647 : Int32))
theorem y_X6_cutOf : YS yX6_cutOf cX6_cutOf 2 (some .int) 1 := ⟨q1883, trivial, q1884, q149, by decide +kernel, by decide +kernel, by decide +kernel, by decide +kernel⟩
theorem r_Mo_cutOf {C : Cxt} {G : Geo} {Mm : Mem} (hC : Cx C cX6_cutOf 2 "FrameHeirsModel" (some .int) rm_X6_cutOf G) (a0 : Int32) : Rz C 2 G (fun _ : Unit => Mm) (poP avI Mm) 0 [(0, .inl (.int a0))] [] () (Mo_cutOf a0) := by
  unfold Mo_cutOf
  refine z_iload_n (pc := 0) hC 0 rfl 0 rfl dX6_cutOf_0 ?_
  refine z_piS (pc := 1) (st := []) hC y_X6_powerOf q1677 [.inl (.int a0)] rfl (c_X6_powerOf hC.2.2.2.2.2.2.1) rfl ⟨rfl, rfl, (Nat.le_of_ble_eq_true rfl), (Nat.le_of_ble_eq_true rfl)⟩ (Nat.le_of_ble_eq_true rfl) dX6_cutOf_1 (fun r1 => ?_)
  refine z_istore_n (pc := 4) (ls1 := fun v => [(1, .inl (.int v)), (0, .inl (.int a0))]) hC 1 rfl (by decide) (fun v => rfl) dX6_cutOf_4 (fun v1_2 => ?_)
  refine z_iload_n (pc := 5) hC 1 rfl 0 rfl dX6_cutOf_5 ?_
  refine z_bipush (pc := 6) hC (7 : Int32) rfl dX6_cutOf_6 ?_
  refine z_icmp_le (pc := 8) hC 15 rfl dX6_cutOf_8 ?_ ?_
  · refine z_iload_n (pc := 15) hC 1 rfl 0 rfl dX6_cutOf_15 ?_
    refine z_if_lt (pc := 16) hC 27 rfl dX6_cutOf_16 ?_ ?_
    · refine z_iload_n (pc := 27) hC 1 rfl 0 rfl dX6_cutOf_27 ?_
      refine z_bipush (pc := 28) hC (-30 : Int32) rfl dX6_cutOf_28 ?_
      refine z_icmp_ge (pc := 30) hC 37 rfl dX6_cutOf_30 ?_ ?_
      · refine z_iload_n (pc := 37) hC 0 rfl 1 rfl dX6_cutOf_37 ?_
        refine z_plS (pc := 38) (st := []) hC y_X6_wholeOf q1672 [.inl (.int a0)] rfl (c_X6_wholeOf hC.2.2.2.2.2.2.1) rfl ⟨rfl, rfl, (Nat.le_of_ble_eq_true rfl), (Nat.le_of_ble_eq_true rfl)⟩ (Nat.le_of_ble_eq_true rfl) dX6_cutOf_38 (fun r3 => ?_)
        refine z_iload_n (pc := 41) hC 1 rfl 0 rfl dX6_cutOf_41 ?_
        refine z_ineg (pc := 42) hC dX6_cutOf_42 ?_
        refine z_lshr (pc := 43) hC dX6_cutOf_43 ?_
        refine z_l2i (pc := 44) hC dX6_cutOf_44 ?_
        exact z_iret (pc := 45) hC rfl dX6_cutOf_45
      · refine z_iconst (pc := 33) hC (0 : Int32) rfl dX6_cutOf_33 ?_
        refine z_goto (pc := 34) hC 45 rfl dX6_cutOf_34 ?_
        exact z_iret (pc := 45) hC rfl dX6_cutOf_45
    · refine z_iload_n (pc := 19) hC 0 rfl 1 rfl dX6_cutOf_19 ?_
      refine z_plS (pc := 20) (st := []) hC y_X6_wholeOf q1672 [.inl (.int a0)] rfl (c_X6_wholeOf hC.2.2.2.2.2.2.1) rfl ⟨rfl, rfl, (Nat.le_of_ble_eq_true rfl), (Nat.le_of_ble_eq_true rfl)⟩ (Nat.le_of_ble_eq_true rfl) dX6_cutOf_20 (fun r4 => ?_)
      refine z_iload_n (pc := 23) hC 1 rfl 0 rfl dX6_cutOf_23 ?_
      refine z_lshl (pc := 24) hC dX6_cutOf_24 ?_
      refine z_l2i (pc := 25) hC dX6_cutOf_25 ?_
      exact z_iret (pc := 26) hC rfl dX6_cutOf_26
  · refine z_ldcw (pc := 11) hC (2147483647 : Int32) q1885 dX6_cutOf_11 ?_
    exact z_iret (pc := 14) hC rfl dX6_cutOf_14
theorem c_X6_cutOf {G : Geo} {Mm : Mem} (hG : GOk G) {a0 : Int32} (l : Launch) (r : Int32) (h : Mo_cutOf a0 = some r) : Mt l yX6_cutOf cX6_cutOf 2 (some .int) rm_X6_cutOf G [.inl (.int a0)] (Mm) (avI r) (Mm) :=
  mt_of (mem := (fun _ : Unit => Mm)) (po := poP avI Mm) (x0 := ()) (t := r) rfl hG [.inl (.int a0)] (Nat.le_of_ble_eq_true rfl) rfl (fun C hC => r_Mo_cutOf hC a0) h

