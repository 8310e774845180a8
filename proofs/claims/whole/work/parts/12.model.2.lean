-- FrameHeirsModel.pagesOf(I)I
abbrev rm_X6_pagesOf : Room := { frames := 2, cells := 0, slots := 0, locals := 42 }
theorem dX6_pagesOf_0 : decode cX6_pagesOf 0 = .ok (.aload_n 0, 1) := by decide +kernel
theorem dX6_pagesOf_1 : decode cX6_pagesOf 1 = .ok (.iconst 0, 1) := by decide +kernel
theorem dX6_pagesOf_2 : decode cX6_pagesOf 2 = .ok (.iload_n 1, 1) := by decide +kernel
theorem dX6_pagesOf_3 : decode cX6_pagesOf 3 = .ok (.iadd, 1) := by decide +kernel
theorem dX6_pagesOf_4 : decode cX6_pagesOf 4 = .ok (.invokevirtual 189, 3) := by decide +kernel
theorem dX6_pagesOf_7 : decode cX6_pagesOf 7 = .ok (.ifCond .ne 7, 3) := by decide +kernel
theorem dX6_pagesOf_10 : decode cX6_pagesOf 10 = .ok (.iconst 0, 1) := by decide +kernel
theorem dX6_pagesOf_11 : decode cX6_pagesOf 11 = .ok (.goto 10, 3) := by decide +kernel
theorem dX6_pagesOf_14 : decode cX6_pagesOf 14 = .ok (.iconst 1, 1) := by decide +kernel
theorem dX6_pagesOf_15 : decode cX6_pagesOf 15 = .ok (.aload_n 0, 1) := by decide +kernel
theorem dX6_pagesOf_16 : decode cX6_pagesOf 16 = .ok (.iload_n 1, 1) := by decide +kernel
theorem dX6_pagesOf_17 : decode cX6_pagesOf 17 = .ok (.invokevirtual 196, 3) := by decide +kernel
theorem dX6_pagesOf_20 : decode cX6_pagesOf 20 = .ok (.ishl, 1) := by decide +kernel
theorem dX6_pagesOf_21 : decode cX6_pagesOf 21 = .ok (.ireturn, 1) := by decide +kernel
def Mo_pagesOf (d : Sl) (a1 : Int32) : Option Int32 :=
  bp (Mo_of d ((0 : Int32) + a1)) fun r1 =>
  if r1 = 0 then
    (some (0 : Int32))
  else
    (bp (Mo_orderOf d a1) fun r2 =>
    some ((1 : Int32) <<< (r2 &&& 31)))
theorem y_X6_pagesOf : YV yX6_pagesOf cX6_pagesOf 2 (some .int) 1 := ⟨q1542, q84, q1543, q149, by decide +kernel, by decide +kernel, by decide +kernel, by decide +kernel⟩
theorem r_Mo_pagesOf {C : Cxt} {G : Geo} {M : Mem} {k : Nat} (hC : Cx C cX6_pagesOf 2 "FrameHeirsModel" (some .int) rm_X6_pagesOf G) (hk : LMo G k) (d : Sl) (a1 : Int32) : Rz C 2 G (setS M k) (poP avI ((setS M k) d)) 0 [(0, .inr (k, 34)), (1, .inl (.int a1))] [] d (Mo_pagesOf d a1) := by
  unfold Mo_pagesOf
  refine z_aload_n (pc := 0) hC 0 rfl 0 rfl dX6_pagesOf_0 ?_
  refine z_iconst (pc := 1) hC (0 : Int32) rfl dX6_pagesOf_1 ?_
  refine z_iload_n (pc := 2) hC 1 rfl 1 rfl dX6_pagesOf_2 ?_
  refine z_iadd (pc := 3) hC dX6_pagesOf_3 ?_
  refine z_piV (pc := 4) (st := []) hC y_X6_of q1262 [.inl (.int ((0 : Int32) + a1))] rfl (hk 34 rfl) rfl rfl (c_X6_of hC.2.2.2.2.2.2.1 hk) rfl ⟨rfl, rfl, (Nat.le_of_ble_eq_true rfl), (Nat.le_of_ble_eq_true rfl)⟩ (Nat.le_of_ble_eq_true rfl) dX6_pagesOf_4 (fun r1 => ?_)
  refine z_if_ne (pc := 7) hC 14 rfl dX6_pagesOf_7 ?_ ?_
  · refine z_iconst (pc := 14) hC (1 : Int32) rfl dX6_pagesOf_14 ?_
    refine z_aload_n (pc := 15) hC 0 rfl 0 rfl dX6_pagesOf_15 ?_
    refine z_iload_n (pc := 16) hC 1 rfl 1 rfl dX6_pagesOf_16 ?_
    refine z_piV (pc := 17) (st := [.inl (.int (1 : Int32))]) hC y_X6_orderOf q1516 [.inl (.int a1)] rfl (hk 34 rfl) rfl rfl (c_X6_orderOf hC.2.2.2.2.2.2.1 hk) rfl ⟨rfl, rfl, (Nat.le_of_ble_eq_true rfl), (Nat.le_of_ble_eq_true rfl)⟩ (Nat.le_of_ble_eq_true rfl) dX6_pagesOf_17 (fun r2 => ?_)
    refine z_ishl (pc := 20) hC dX6_pagesOf_20 ?_
    exact z_iret (pc := 21) hC rfl dX6_pagesOf_21
  · refine z_iconst (pc := 10) hC (0 : Int32) rfl dX6_pagesOf_10 ?_
    refine z_goto (pc := 11) hC 21 rfl dX6_pagesOf_11 ?_
    exact z_iret (pc := 21) hC rfl dX6_pagesOf_21
theorem c_X6_pagesOf {G : Geo} {M : Mem} {k : Nat} (hG : GOk G) (hk : LMo G k) {d : Sl} {a1 : Int32} (l : Launch) (r : Int32) (h : Mo_pagesOf d a1 = some r) : Mt l yX6_pagesOf cX6_pagesOf 2 (some .int) rm_X6_pagesOf G [.inr (k, 34), .inl (.int a1)] ((setS M k) d) (avI r) ((setS M k) d) :=
  mt_of (mem := (setS M k)) (po := poP avI ((setS M k) d)) (x0 := d) (t := r) rfl hG [.inr (k, 34), .inl (.int a1)] (Nat.le_of_ble_eq_true rfl) rfl (fun C hC => r_Mo_pagesOf hC hk d a1) h
-- FrameHeirsModel.giverOf(I)I
abbrev rm_X6_giverOf : Room := { frames := 1, cells := 0, slots := 0, locals := 21 }
theorem dX6_giverOf_0 : decode cX6_giverOf 0 = .ok (.aload_n 0, 1) := by decide +kernel
theorem dX6_giverOf_1 : decode cX6_giverOf 1 = .ok (.sipush 576, 3) := by decide +kernel
theorem dX6_giverOf_4 : decode cX6_giverOf 4 = .ok (.iload_n 1, 1) := by decide +kernel
theorem dX6_giverOf_5 : decode cX6_giverOf 5 = .ok (.iadd, 1) := by decide +kernel
theorem dX6_giverOf_6 : decode cX6_giverOf 6 = .ok (.invokevirtual 189, 3) := by decide +kernel
theorem dX6_giverOf_9 : decode cX6_giverOf 9 = .ok (.iconst 1, 1) := by decide +kernel
theorem dX6_giverOf_10 : decode cX6_giverOf 10 = .ok (.isub, 1) := by decide +kernel
theorem dX6_giverOf_11 : decode cX6_giverOf 11 = .ok (.ireturn, 1) := by decide +kernel
def Mo_giverOf (d : Sl) (a1 : Int32) : Option Int32 :=
  bp (Mo_of d ((576 : Int32) + a1)) fun r1 =>
  some (r1 - (1 : Int32))
theorem y_X6_giverOf : YV yX6_giverOf cX6_giverOf 2 (some .int) 1 := ⟨q1534, q82, q1535, q149, by decide +kernel, by decide +kernel, by decide +kernel, by decide +kernel⟩
theorem r_Mo_giverOf {C : Cxt} {G : Geo} {M : Mem} {k : Nat} (hC : Cx C cX6_giverOf 2 "FrameHeirsModel" (some .int) rm_X6_giverOf G) (hk : LMo G k) (d : Sl) (a1 : Int32) : Rz C 2 G (setS M k) (poP avI ((setS M k) d)) 0 [(0, .inr (k, 34)), (1, .inl (.int a1))] [] d (Mo_giverOf d a1) := by
  unfold Mo_giverOf
  refine z_aload_n (pc := 0) hC 0 rfl 0 rfl dX6_giverOf_0 ?_
  refine z_sipush (pc := 1) hC (576 : Int32) rfl dX6_giverOf_1 ?_
  refine z_iload_n (pc := 4) hC 1 rfl 1 rfl dX6_giverOf_4 ?_
  refine z_iadd (pc := 5) hC dX6_giverOf_5 ?_
  refine z_piV (pc := 6) (st := []) hC y_X6_of q1262 [.inl (.int ((576 : Int32) + a1))] rfl (hk 34 rfl) rfl rfl (c_X6_of hC.2.2.2.2.2.2.1 hk) rfl ⟨rfl, rfl, (Nat.le_of_ble_eq_true rfl), (Nat.le_of_ble_eq_true rfl)⟩ (Nat.le_of_ble_eq_true rfl) dX6_giverOf_6 (fun r1 => ?_)
  refine z_iconst (pc := 9) hC (1 : Int32) rfl dX6_giverOf_9 ?_
  refine z_isub (pc := 10) hC dX6_giverOf_10 ?_
  exact z_iret (pc := 11) hC rfl dX6_giverOf_11
theorem c_X6_giverOf {G : Geo} {M : Mem} {k : Nat} (hG : GOk G) (hk : LMo G k) {d : Sl} {a1 : Int32} (l : Launch) (r : Int32) (h : Mo_giverOf d a1 = some r) : Mt l yX6_giverOf cX6_giverOf 2 (some .int) rm_X6_giverOf G [.inr (k, 34), .inl (.int a1)] ((setS M k) d) (avI r) ((setS M k) d) :=
  mt_of (mem := (setS M k)) (po := poP avI ((setS M k) d)) (x0 := d) (t := r) rfl hG [.inr (k, 34), .inl (.int a1)] (Nat.le_of_ble_eq_true rfl) rfl (fun C hC => r_Mo_giverOf hC hk d a1) h
-- FrameHeirsModel.firstOf(I)I
abbrev rm_X6_firstOf : Room := { frames := 1, cells := 0, slots := 0, locals := 21 }
theorem dX6_firstOf_0 : decode cX6_firstOf 0 = .ok (.aload_n 0, 1) := by decide +kernel
theorem dX6_firstOf_1 : decode cX6_firstOf 1 = .ok (.sipush 768, 3) := by decide +kernel
theorem dX6_firstOf_4 : decode cX6_firstOf 4 = .ok (.iload_n 1, 1) := by decide +kernel
theorem dX6_firstOf_5 : decode cX6_firstOf 5 = .ok (.iadd, 1) := by decide +kernel
theorem dX6_firstOf_6 : decode cX6_firstOf 6 = .ok (.invokevirtual 189, 3) := by decide +kernel
theorem dX6_firstOf_9 : decode cX6_firstOf 9 = .ok (.iconst 1, 1) := by decide +kernel
theorem dX6_firstOf_10 : decode cX6_firstOf 10 = .ok (.isub, 1) := by decide +kernel
theorem dX6_firstOf_11 : decode cX6_firstOf 11 = .ok (.ireturn, 1) := by decide +kernel
def Mo_firstOf (d : Sl) (a1 : Int32) : Option Int32 :=
  bp (Mo_of d ((768 : Int32) + a1)) fun r1 =>
  some (r1 - (1 : Int32))
theorem y_X6_firstOf : YV yX6_firstOf cX6_firstOf 2 (some .int) 1 := ⟨q1586, q94, q1587, q149, by decide +kernel, by decide +kernel, by decide +kernel, by decide +kernel⟩
theorem r_Mo_firstOf {C : Cxt} {G : Geo} {M : Mem} {k : Nat} (hC : Cx C cX6_firstOf 2 "FrameHeirsModel" (some .int) rm_X6_firstOf G) (hk : LMo G k) (d : Sl) (a1 : Int32) : Rz C 2 G (setS M k) (poP avI ((setS M k) d)) 0 [(0, .inr (k, 34)), (1, .inl (.int a1))] [] d (Mo_firstOf d a1) := by
  unfold Mo_firstOf
  refine z_aload_n (pc := 0) hC 0 rfl 0 rfl dX6_firstOf_0 ?_
  refine z_sipush (pc := 1) hC (768 : Int32) rfl dX6_firstOf_1 ?_
  refine z_iload_n (pc := 4) hC 1 rfl 1 rfl dX6_firstOf_4 ?_
  refine z_iadd (pc := 5) hC dX6_firstOf_5 ?_
  refine z_piV (pc := 6) (st := []) hC y_X6_of q1262 [.inl (.int ((768 : Int32) + a1))] rfl (hk 34 rfl) rfl rfl (c_X6_of hC.2.2.2.2.2.2.1 hk) rfl ⟨rfl, rfl, (Nat.le_of_ble_eq_true rfl), (Nat.le_of_ble_eq_true rfl)⟩ (Nat.le_of_ble_eq_true rfl) dX6_firstOf_6 (fun r1 => ?_)
  refine z_iconst (pc := 9) hC (1 : Int32) rfl dX6_firstOf_9 ?_
  refine z_isub (pc := 10) hC dX6_firstOf_10 ?_
  exact z_iret (pc := 11) hC rfl dX6_firstOf_11
theorem c_X6_firstOf {G : Geo} {M : Mem} {k : Nat} (hG : GOk G) (hk : LMo G k) {d : Sl} {a1 : Int32} (l : Launch) (r : Int32) (h : Mo_firstOf d a1 = some r) : Mt l yX6_firstOf cX6_firstOf 2 (some .int) rm_X6_firstOf G [.inr (k, 34), .inl (.int a1)] ((setS M k) d) (avI r) ((setS M k) d) :=
  mt_of (mem := (setS M k)) (po := poP avI ((setS M k) d)) (x0 := d) (t := r) rfl hG [.inr (k, 34), .inl (.int a1)] (Nat.le_of_ble_eq_true rfl) rfl (fun C hC => r_Mo_firstOf hC hk d a1) h
-- FrameHeirsModel.nextOf(I)I
abbrev rm_X6_nextOf : Room := { frames := 1, cells := 0, slots := 0, locals := 21 }
theorem dX6_nextOf_0 : decode cX6_nextOf 0 = .ok (.aload_n 0, 1) := by decide +kernel
theorem dX6_nextOf_1 : decode cX6_nextOf 1 = .ok (.sipush 1344, 3) := by decide +kernel
theorem dX6_nextOf_4 : decode cX6_nextOf 4 = .ok (.iload_n 1, 1) := by decide +kernel
theorem dX6_nextOf_5 : decode cX6_nextOf 5 = .ok (.iadd, 1) := by decide +kernel
theorem dX6_nextOf_6 : decode cX6_nextOf 6 = .ok (.invokevirtual 189, 3) := by decide +kernel
theorem dX6_nextOf_9 : decode cX6_nextOf 9 = .ok (.iconst 1, 1) := by decide +kernel
theorem dX6_nextOf_10 : decode cX6_nextOf 10 = .ok (.isub, 1) := by decide +kernel
theorem dX6_nextOf_11 : decode cX6_nextOf 11 = .ok (.ireturn, 1) := by decide +kernel
def Mo_nextOf (d : Sl) (a1 : Int32) : Option Int32 :=
  bp (Mo_of d ((1344 : Int32) + a1)) fun r1 =>
  some (r1 - (1 : Int32))
theorem y_X6_nextOf : YV yX6_nextOf cX6_nextOf 2 (some .int) 1 := ⟨q1590, q95, q1591, q149, by decide +kernel, by decide +kernel, by decide +kernel, by decide +kernel⟩
theorem r_Mo_nextOf {C : Cxt} {G : Geo} {M : Mem} {k : Nat} (hC : Cx C cX6_nextOf 2 "FrameHeirsModel" (some .int) rm_X6_nextOf G) (hk : LMo G k) (d : Sl) (a1 : Int32) : Rz C 2 G (setS M k) (poP avI ((setS M k) d)) 0 [(0, .inr (k, 34)), (1, .inl (.int a1))] [] d (Mo_nextOf d a1) := by
  unfold Mo_nextOf
  refine z_aload_n (pc := 0) hC 0 rfl 0 rfl dX6_nextOf_0 ?_
  refine z_sipush (pc := 1) hC (1344 : Int32) rfl dX6_nextOf_1 ?_
  refine z_iload_n (pc := 4) hC 1 rfl 1 rfl dX6_nextOf_4 ?_
  refine z_iadd (pc := 5) hC dX6_nextOf_5 ?_
  refine z_piV (pc := 6) (st := []) hC y_X6_of q1262 [.inl (.int ((1344 : Int32) + a1))] rfl (hk 34 rfl) rfl rfl (c_X6_of hC.2.2.2.2.2.2.1 hk) rfl ⟨rfl, rfl, (Nat.le_of_ble_eq_true rfl), (Nat.le_of_ble_eq_true rfl)⟩ (Nat.le_of_ble_eq_true rfl) dX6_nextOf_6 (fun r1 => ?_)
  refine z_iconst (pc := 9) hC (1 : Int32) rfl dX6_nextOf_9 ?_
  refine z_isub (pc := 10) hC dX6_nextOf_10 ?_
  exact z_iret (pc := 11) hC rfl dX6_nextOf_11
theorem c_X6_nextOf {G : Geo} {M : Mem} {k : Nat} (hG : GOk G) (hk : LMo G k) {d : Sl} {a1 : Int32} (l : Launch) (r : Int32) (h : Mo_nextOf d a1 = some r) : Mt l yX6_nextOf cX6_nextOf 2 (some .int) rm_X6_nextOf G [.inr (k, 34), .inl (.int a1)] ((setS M k) d) (avI r) ((setS M k) d) :=
  mt_of (mem := (setS M k)) (po := poP avI ((setS M k) d)) (x0 := d) (t := r) rfl hG [.inr (k, 34), .inl (.int a1)] (Nat.le_of_ble_eq_true rfl) rfl (fun C hC => r_Mo_nextOf hC hk d a1) h
-- FrameHeirsModel.cover(II)I
abbrev rm_X6_cover : Room := { frames := 1, cells := 0, slots := 0, locals := 21 }
theorem dX6_cover_0 : decode cX6_cover 0 = .ok (.iconst 0, 1) := by decide +kernel
theorem dX6_cover_1 : decode cX6_cover 1 = .ok (.istore_n 3, 1) := by decide +kernel
theorem dX6_cover_2 : decode cX6_cover 2 = .ok (.iload_n 3, 1) := by decide +kernel
theorem dX6_cover_3 : decode cX6_cover 3 = .ok (.iconst 4, 1) := by decide +kernel
theorem dX6_cover_4 : decode cX6_cover 4 = .ok (.if_icmp .ge 40, 3) := by decide +kernel
theorem dX6_cover_7 : decode cX6_cover 7 = .ok (.bipush 32, 2) := by decide +kernel
theorem dX6_cover_9 : decode cX6_cover 9 = .ok (.iload_n 1, 1) := by decide +kernel
theorem dX6_cover_10 : decode cX6_cover 10 = .ok (.imul, 1) := by decide +kernel
theorem dX6_cover_11 : decode cX6_cover 11 = .ok (.iload_n 2, 1) := by decide +kernel
theorem dX6_cover_12 : decode cX6_cover 12 = .ok (.iadd, 1) := by decide +kernel
theorem dX6_cover_13 : decode cX6_cover 13 = .ok (.iload_n 2, 1) := by decide +kernel
theorem dX6_cover_14 : decode cX6_cover 14 = .ok (.iconst 1, 1) := by decide +kernel
theorem dX6_cover_15 : decode cX6_cover 15 = .ok (.iload_n 3, 1) := by decide +kernel
theorem dX6_cover_16 : decode cX6_cover 16 = .ok (.ishl, 1) := by decide +kernel
theorem dX6_cover_17 : decode cX6_cover 17 = .ok (.irem, 1) := by decide +kernel
theorem dX6_cover_18 : decode cX6_cover 18 = .ok (.isub, 1) := by decide +kernel
theorem dX6_cover_19 : decode cX6_cover 19 = .ok (.istore 4, 2) := by decide +kernel
theorem dX6_cover_21 : decode cX6_cover 21 = .ok (.aload_n 0, 1) := by decide +kernel
theorem dX6_cover_22 : decode cX6_cover 22 = .ok (.iconst 0, 1) := by decide +kernel
theorem dX6_cover_23 : decode cX6_cover 23 = .ok (.iload 4, 2) := by decide +kernel
theorem dX6_cover_25 : decode cX6_cover 25 = .ok (.iadd, 1) := by decide +kernel
theorem dX6_cover_26 : decode cX6_cover 26 = .ok (.invokevirtual 189, 3) := by decide +kernel
theorem dX6_cover_29 : decode cX6_cover 29 = .ok (.iload_n 3, 1) := by decide +kernel
theorem dX6_cover_30 : decode cX6_cover 30 = .ok (.iconst 1, 1) := by decide +kernel
theorem dX6_cover_31 : decode cX6_cover 31 = .ok (.iadd, 1) := by decide +kernel
theorem dX6_cover_32 : decode cX6_cover 32 = .ok (.if_icmp .ne 6, 3) := by decide +kernel
theorem dX6_cover_35 : decode cX6_cover 35 = .ok (.iload 4, 2) := by decide +kernel
theorem dX6_cover_37 : decode cX6_cover 37 = .ok (.ireturn, 1) := by decide +kernel
theorem dX6_cover_38 : decode cX6_cover 38 = .ok (.iinc 3 1, 3) := by decide +kernel
theorem dX6_cover_41 : decode cX6_cover 41 = .ok (.goto (-39), 3) := by decide +kernel
theorem dX6_cover_44 : decode cX6_cover 44 = .ok (.iconst (-1), 1) := by decide +kernel
theorem dX6_cover_45 : decode cX6_cover 45 = .ok (.ireturn, 1) := by decide +kernel
def Mo_cover_2 (d : Sl) : Nat → Int32 → Int32 → Int32 → Option Int32
  | 0, _, _, _ => none
  | n + 1, v1, v2, v3 =>
    if (4 : Int32) ≤ v3 then
      (some (-1 : Int32))
    else
      (if ¬ ((1 : Int32) <<< (v3 &&& 31)) = 0 then
      bnd ((((32 : Int32) * v1) + v2) - (v2 - v2 / ((1 : Int32) <<< (v3 &&& 31)) * ((1 : Int32) <<< (v3 &&& 31)))) fun v4_1 =>
      bp (Mo_of d ((0 : Int32) + v4_1)) fun r2 =>
      if r2 = (v3 + (1 : Int32)) then
        (some v4_1)
      else
        (bnd (v3 + (1 : Int32)) fun v3_3 =>
        Mo_cover_2 d n v1 v2 v3_3)
      else none)
def Mo_cover (d : Sl) (a1 : Int32) (a2 : Int32) : Option Int32 :=
  bnd (0 : Int32) fun v3_4 =>
  Mo_cover_2 d FU a1 a2 v3_4
theorem y_X6_cover : YV yX6_cover cX6_cover 5 (some .int) 2 := ⟨q1514, q77, q1515, q149, by decide +kernel, by decide +kernel, by decide +kernel, by decide +kernel⟩
theorem r_Mo_cover_2 {C : Cxt} {G : Geo} {M : Mem} {k : Nat} {d : Sl} (hC : Cx C cX6_cover 5 "FrameHeirsModel" (some .int) rm_X6_cover G) (hk : LMo G k) : ∀ (n : Nat) (v1 : Int32) (v2 : Int32) (v3 : Int32), Rz C 5 G (setS M k) (poP avI ((setS M k) d)) 2 [(0, .inr (k, 34)), (1, .inl (.int v1)), (2, .inl (.int v2)), (3, .inl (.int v3))] [] d (Mo_cover_2 d n v1 v2 v3) := by
  intro n
  induction n with
  | zero => intros; exact z_none
  | succ n ih =>
    intro v1 v2 v3
    rw [Mo_cover_2]
    refine z_iload_n (pc := 2) hC 3 rfl 3 rfl dX6_cover_2 ?_
    refine z_iconst (pc := 3) hC (4 : Int32) rfl dX6_cover_3 ?_
    refine z_icmp_ge (pc := 4) hC 44 rfl dX6_cover_4 ?_ ?_
    · refine z_iconst (pc := 44) hC (-1 : Int32) rfl dX6_cover_44 ?_
      exact z_iret (pc := 45) hC rfl dX6_cover_45
    · refine z_bipush (pc := 7) hC (32 : Int32) rfl dX6_cover_7 ?_
      refine z_iload_n (pc := 9) hC 1 rfl 1 rfl dX6_cover_9 ?_
      refine z_imul (pc := 10) hC dX6_cover_10 ?_
      refine z_iload_n (pc := 11) hC 2 rfl 2 rfl dX6_cover_11 ?_
      refine z_iadd (pc := 12) hC dX6_cover_12 ?_
      refine z_iload_n (pc := 13) hC 2 rfl 2 rfl dX6_cover_13 ?_
      refine z_iconst (pc := 14) hC (1 : Int32) rfl dX6_cover_14 ?_
      refine z_iload_n (pc := 15) hC 3 rfl 3 rfl dX6_cover_15 ?_
      refine z_ishl (pc := 16) hC dX6_cover_16 ?_
      refine z_irem (pc := 17) hC dX6_cover_17 ?_
      refine z_isub (pc := 18) hC dX6_cover_18 ?_
      refine z_istore (pc := 19) (ls1 := fun v => [(4, .inl (.int v)), (0, .inr (k, 34)), (1, .inl (.int v1)), (2, .inl (.int v2)), (3, .inl (.int v3))]) hC 4 (by decide) (fun v => rfl) dX6_cover_19 (fun v4_1 => ?_)
      refine z_aload_n (pc := 21) hC 0 rfl 1 rfl dX6_cover_21 ?_
      refine z_iconst (pc := 22) hC (0 : Int32) rfl dX6_cover_22 ?_
      refine z_iload (pc := 23) hC 4 0 rfl dX6_cover_23 ?_
      refine z_iadd (pc := 25) hC dX6_cover_25 ?_
      refine z_piV (pc := 26) (st := []) hC y_X6_of q1262 [.inl (.int ((0 : Int32) + v4_1))] rfl (hk 34 rfl) rfl rfl (c_X6_of hC.2.2.2.2.2.2.1 hk) rfl ⟨rfl, rfl, (Nat.le_of_ble_eq_true rfl), (Nat.le_of_ble_eq_true rfl)⟩ (Nat.le_of_ble_eq_true rfl) dX6_cover_26 (fun r2 => ?_)
      refine z_iload_n (pc := 29) hC 3 rfl 4 rfl dX6_cover_29 ?_
      refine z_iconst (pc := 30) hC (1 : Int32) rfl dX6_cover_30 ?_
      refine z_iadd (pc := 31) hC dX6_cover_31 ?_
      refine z_icmp_ne (pc := 32) hC 38 rfl dX6_cover_32 ?_ ?_
      · refine z_iinc (pc := 38) (ls1 := fun v => [(3, .inl (.int v)), (4, .inl (.int v4_1)), (0, .inr (k, 34)), (1, .inl (.int v1)), (2, .inl (.int v2))]) hC 3 4 (by decide) (1 : Int32) rfl rfl (fun v => rfl) dX6_cover_38 (fun v3_3 => ?_)
        refine z_goto (pc := 41) hC 2 rfl dX6_cover_41 ?_
        exact z_sub [2, 3, 4, 0] rfl (ih v1 v2 v3_3)
      · refine z_iload (pc := 35) hC 4 0 rfl dX6_cover_35 ?_
        exact z_iret (pc := 37) hC rfl dX6_cover_37
theorem r_Mo_cover {C : Cxt} {G : Geo} {M : Mem} {k : Nat} (hC : Cx C cX6_cover 5 "FrameHeirsModel" (some .int) rm_X6_cover G) (hk : LMo G k) (d : Sl) (a1 : Int32) (a2 : Int32) : Rz C 5 G (setS M k) (poP avI ((setS M k) d)) 0 [(0, .inr (k, 34)), (1, .inl (.int a1)), (2, .inl (.int a2))] [] d (Mo_cover d a1 a2) := by
  unfold Mo_cover
  refine z_iconst (pc := 0) hC (0 : Int32) rfl dX6_cover_0 ?_
  refine z_istore_n (pc := 1) (ls1 := fun v => [(3, .inl (.int v)), (0, .inr (k, 34)), (1, .inl (.int a1)), (2, .inl (.int a2))]) hC 3 rfl (by decide) (fun v => rfl) dX6_cover_1 (fun v3_4 => ?_)
  exact z_sub [1, 2, 3, 0] rfl (r_Mo_cover_2 hC hk FU a1 a2 v3_4)
theorem c_X6_cover {G : Geo} {M : Mem} {k : Nat} (hG : GOk G) (hk : LMo G k) {d : Sl} {a1 : Int32} {a2 : Int32} (l : Launch) (r : Int32) (h : Mo_cover d a1 a2 = some r) : Mt l yX6_cover cX6_cover 5 (some .int) rm_X6_cover G [.inr (k, 34), .inl (.int a1), .inl (.int a2)] ((setS M k) d) (avI r) ((setS M k) d) :=
  mt_of (mem := (setS M k)) (po := poP avI ((setS M k) d)) (x0 := d) (t := r) rfl hG [.inr (k, 34), .inl (.int a1), .inl (.int a2)] (Nat.le_of_ble_eq_true rfl) rfl (fun C hC => r_Mo_cover hC hk d a1 a2) h
-- FrameHeirsModel.frameAt(II)I
abbrev rm_X6_frameAt : Room := { frames := 2, cells := 0, slots := 0, locals := 45 }
theorem dX6_frameAt_0 : decode cX6_frameAt 0 = .ok (.aload_n 0, 1) := by decide +kernel
theorem dX6_frameAt_1 : decode cX6_frameAt 1 = .ok (.iload_n 1, 1) := by decide +kernel
theorem dX6_frameAt_2 : decode cX6_frameAt 2 = .ok (.iload_n 2, 1) := by decide +kernel
theorem dX6_frameAt_3 : decode cX6_frameAt 3 = .ok (.invokevirtual 199, 3) := by decide +kernel
theorem dX6_frameAt_6 : decode cX6_frameAt 6 = .ok (.istore_n 3, 1) := by decide +kernel
theorem dX6_frameAt_7 : decode cX6_frameAt 7 = .ok (.iload_n 3, 1) := by decide +kernel
theorem dX6_frameAt_8 : decode cX6_frameAt 8 = .ok (.ifCond .ge 7, 3) := by decide +kernel
theorem dX6_frameAt_11 : decode cX6_frameAt 11 = .ok (.iconst (-1), 1) := by decide +kernel
theorem dX6_frameAt_12 : decode cX6_frameAt 12 = .ok (.goto 21, 3) := by decide +kernel
theorem dX6_frameAt_15 : decode cX6_frameAt 15 = .ok (.aload_n 0, 1) := by decide +kernel
theorem dX6_frameAt_16 : decode cX6_frameAt 16 = .ok (.sipush 192, 3) := by decide +kernel
theorem dX6_frameAt_19 : decode cX6_frameAt 19 = .ok (.iload_n 3, 1) := by decide +kernel
theorem dX6_frameAt_20 : decode cX6_frameAt 20 = .ok (.iadd, 1) := by decide +kernel
theorem dX6_frameAt_21 : decode cX6_frameAt 21 = .ok (.invokevirtual 189, 3) := by decide +kernel
theorem dX6_frameAt_24 : decode cX6_frameAt 24 = .ok (.bipush 32, 2) := by decide +kernel
theorem dX6_frameAt_26 : decode cX6_frameAt 26 = .ok (.iload_n 1, 1) := by decide +kernel
theorem dX6_frameAt_27 : decode cX6_frameAt 27 = .ok (.imul, 1) := by decide +kernel
theorem dX6_frameAt_28 : decode cX6_frameAt 28 = .ok (.iadd, 1) := by decide +kernel
theorem dX6_frameAt_29 : decode cX6_frameAt 29 = .ok (.iload_n 2, 1) := by decide +kernel
theorem dX6_frameAt_30 : decode cX6_frameAt 30 = .ok (.iadd, 1) := by decide +kernel
theorem dX6_frameAt_31 : decode cX6_frameAt 31 = .ok (.iload_n 3, 1) := by decide +kernel
theorem dX6_frameAt_32 : decode cX6_frameAt 32 = .ok (.isub, 1) := by decide +kernel
theorem dX6_frameAt_33 : decode cX6_frameAt 33 = .ok (.ireturn, 1) := by decide +kernel
def Mo_frameAt (d : Sl) (a1 : Int32) (a2 : Int32) : Option Int32 :=
  bp (Mo_cover d a1 a2) fun r1 =>
  bnd r1 fun v3_2 =>
  if 0 ≤ v3_2 then
    (bp (Mo_of d ((192 : Int32) + v3_2)) fun r3 =>
    some (((r3 + ((32 : Int32) * a1)) + a2) - v3_2))
  else
    (some (-1 : Int32))
theorem y_X6_frameAt : YV yX6_frameAt cX6_frameAt 4 (some .int) 2 := ⟨q1715, q115, q1716, q149, by decide +kernel, by decide +kernel, by decide +kernel, by decide +kernel⟩
theorem r_Mo_frameAt {C : Cxt} {G : Geo} {M : Mem} {k : Nat} (hC : Cx C cX6_frameAt 4 "FrameHeirsModel" (some .int) rm_X6_frameAt G) (hk : LMo G k) (d : Sl) (a1 : Int32) (a2 : Int32) : Rz C 4 G (setS M k) (poP avI ((setS M k) d)) 0 [(0, .inr (k, 34)), (1, .inl (.int a1)), (2, .inl (.int a2))] [] d (Mo_frameAt d a1 a2) := by
  unfold Mo_frameAt
  refine z_aload_n (pc := 0) hC 0 rfl 0 rfl dX6_frameAt_0 ?_
  refine z_iload_n (pc := 1) hC 1 rfl 1 rfl dX6_frameAt_1 ?_
  refine z_iload_n (pc := 2) hC 2 rfl 2 rfl dX6_frameAt_2 ?_
  refine z_piV (pc := 3) (st := []) hC y_X6_cover q1512 [.inl (.int a1), .inl (.int a2)] rfl (hk 34 rfl) rfl rfl (c_X6_cover hC.2.2.2.2.2.2.1 hk) rfl ⟨rfl, rfl, (Nat.le_of_ble_eq_true rfl), (Nat.le_of_ble_eq_true rfl)⟩ (Nat.le_of_ble_eq_true rfl) dX6_frameAt_3 (fun r1 => ?_)
  refine z_istore_n (pc := 6) (ls1 := fun v => [(3, .inl (.int v)), (0, .inr (k, 34)), (1, .inl (.int a1)), (2, .inl (.int a2))]) hC 3 rfl (by decide) (fun v => rfl) dX6_frameAt_6 (fun v3_2 => ?_)
  refine z_iload_n (pc := 7) hC 3 rfl 0 rfl dX6_frameAt_7 ?_
  refine z_if_ge (pc := 8) hC 15 rfl dX6_frameAt_8 ?_ ?_
  · refine z_aload_n (pc := 15) hC 0 rfl 1 rfl dX6_frameAt_15 ?_
    refine z_sipush (pc := 16) hC (192 : Int32) rfl dX6_frameAt_16 ?_
    refine z_iload_n (pc := 19) hC 3 rfl 0 rfl dX6_frameAt_19 ?_
    refine z_iadd (pc := 20) hC dX6_frameAt_20 ?_
    refine z_piV (pc := 21) (st := []) hC y_X6_of q1262 [.inl (.int ((192 : Int32) + v3_2))] rfl (hk 34 rfl) rfl rfl (c_X6_of hC.2.2.2.2.2.2.1 hk) rfl ⟨rfl, rfl, (Nat.le_of_ble_eq_true rfl), (Nat.le_of_ble_eq_true rfl)⟩ (Nat.le_of_ble_eq_true rfl) dX6_frameAt_21 (fun r3 => ?_)
    refine z_bipush (pc := 24) hC (32 : Int32) rfl dX6_frameAt_24 ?_
    refine z_iload_n (pc := 26) hC 1 rfl 2 rfl dX6_frameAt_26 ?_
    refine z_imul (pc := 27) hC dX6_frameAt_27 ?_
    refine z_iadd (pc := 28) hC dX6_frameAt_28 ?_
    refine z_iload_n (pc := 29) hC 2 rfl 3 rfl dX6_frameAt_29 ?_
    refine z_iadd (pc := 30) hC dX6_frameAt_30 ?_
    refine z_iload_n (pc := 31) hC 3 rfl 0 rfl dX6_frameAt_31 ?_
    refine z_isub (pc := 32) hC dX6_frameAt_32 ?_
    exact z_iret (pc := 33) hC rfl dX6_frameAt_33
  · refine z_iconst (pc := 11) hC (-1 : Int32) rfl dX6_frameAt_11 ?_
    refine z_goto (pc := 12) hC 33 rfl dX6_frameAt_12 ?_
    exact z_iret (pc := 33) hC rfl dX6_frameAt_33
theorem c_X6_frameAt {G : Geo} {M : Mem} {k : Nat} (hG : GOk G) (hk : LMo G k) {d : Sl} {a1 : Int32} {a2 : Int32} (l : Launch) (r : Int32) (h : Mo_frameAt d a1 a2 = some r) : Mt l yX6_frameAt cX6_frameAt 4 (some .int) rm_X6_frameAt G [.inr (k, 34), .inl (.int a1), .inl (.int a2)] ((setS M k) d) (avI r) ((setS M k) d) :=
  mt_of (mem := (setS M k)) (po := poP avI ((setS M k) d)) (x0 := d) (t := r) rfl hG [.inr (k, 34), .inl (.int a1), .inl (.int a2)] (Nat.le_of_ble_eq_true rfl) rfl (fun C hC => r_Mo_frameAt hC hk d a1 a2) h
-- FrameHeirsModel.leaves(I)V
abbrev rm_X6_leaves : Room := { frames := 2, cells := 0, slots := 0, locals := 45 }
theorem dX6_leaves_0 : decode cX6_leaves 0 = .ok (.aload_n 0, 1) := by decide +kernel
theorem dX6_leaves_1 : decode cX6_leaves 1 = .ok (.aload_n 0, 1) := by decide +kernel
theorem dX6_leaves_2 : decode cX6_leaves 2 = .ok (.sipush 1152, 3) := by decide +kernel
theorem dX6_leaves_5 : decode cX6_leaves 5 = .ok (.iload_n 1, 1) := by decide +kernel
theorem dX6_leaves_6 : decode cX6_leaves 6 = .ok (.iadd, 1) := by decide +kernel
theorem dX6_leaves_7 : decode cX6_leaves 7 = .ok (.invokevirtual 189, 3) := by decide +kernel
theorem dX6_leaves_10 : decode cX6_leaves 10 = .ok (.iconst 1, 1) := by decide +kernel
theorem dX6_leaves_11 : decode cX6_leaves 11 = .ok (.isub, 1) := by decide +kernel
theorem dX6_leaves_12 : decode cX6_leaves 12 = .ok (.aload_n 0, 1) := by decide +kernel
theorem dX6_leaves_13 : decode cX6_leaves 13 = .ok (.sipush 1344, 3) := by decide +kernel
theorem dX6_leaves_16 : decode cX6_leaves 16 = .ok (.iload_n 1, 1) := by decide +kernel
theorem dX6_leaves_17 : decode cX6_leaves 17 = .ok (.iadd, 1) := by decide +kernel
theorem dX6_leaves_18 : decode cX6_leaves 18 = .ok (.invokevirtual 189, 3) := by decide +kernel
theorem dX6_leaves_21 : decode cX6_leaves 21 = .ok (.iconst 1, 1) := by decide +kernel
theorem dX6_leaves_22 : decode cX6_leaves 22 = .ok (.isub, 1) := by decide +kernel
theorem dX6_leaves_23 : decode cX6_leaves 23 = .ok (.aload_n 0, 1) := by decide +kernel
theorem dX6_leaves_24 : decode cX6_leaves 24 = .ok (.iload_n 1, 1) := by decide +kernel
theorem dX6_leaves_25 : decode cX6_leaves 25 = .ok (.invokevirtual 210, 3) := by decide +kernel
theorem dX6_leaves_28 : decode cX6_leaves 28 = .ok (.invokevirtual 206, 3) := by decide +kernel
theorem dX6_leaves_31 : decode cX6_leaves 31 = .ok (.return_, 1) := by decide +kernel
def Mo_leaves (d : Sl) (a1 : Int32) : Option (Unit × Sl) :=
  bp (Mo_of d ((1152 : Int32) + a1)) fun r1 =>
  bp (Mo_of d ((1344 : Int32) + a1)) fun r2 =>
  bp (Mo_giverOf d a1) fun r3 =>
  bd (Mo_linked d (r1 - (1 : Int32)) (r2 - (1 : Int32)) r3) fun r4 d5 =>
  some ((), d5)
theorem y_X6_leaves : YV yX6_leaves cX6_leaves 2 none 1 := ⟨q1642, q106, q1643, q149, by decide +kernel, by decide +kernel, by decide +kernel, by decide +kernel⟩
theorem r_Mo_leaves {C : Cxt} {G : Geo} {M : Mem} {k : Nat} (hC : Cx C cX6_leaves 2 "FrameHeirsModel" none rm_X6_leaves G) (hk : LMo G k) (d : Sl) (a1 : Int32) : Rz C 2 G (setS M k) (poM avV (setS M k)) 0 [(0, .inr (k, 34)), (1, .inl (.int a1))] [] d (Mo_leaves d a1) := by
  unfold Mo_leaves
  refine z_aload_n (pc := 0) hC 0 rfl 0 rfl dX6_leaves_0 ?_
  refine z_aload_n (pc := 1) hC 0 rfl 0 rfl dX6_leaves_1 ?_
  refine z_sipush (pc := 2) hC (1152 : Int32) rfl dX6_leaves_2 ?_
  refine z_iload_n (pc := 5) hC 1 rfl 1 rfl dX6_leaves_5 ?_
  refine z_iadd (pc := 6) hC dX6_leaves_6 ?_
  refine z_piV (pc := 7) (st := [.inr (k, 34)]) hC y_X6_of q1262 [.inl (.int ((1152 : Int32) + a1))] rfl (hk 34 rfl) rfl rfl (c_X6_of hC.2.2.2.2.2.2.1 hk) rfl ⟨rfl, rfl, (Nat.le_of_ble_eq_true rfl), (Nat.le_of_ble_eq_true rfl)⟩ (Nat.le_of_ble_eq_true rfl) dX6_leaves_7 (fun r1 => ?_)
  refine z_iconst (pc := 10) hC (1 : Int32) rfl dX6_leaves_10 ?_
  refine z_isub (pc := 11) hC dX6_leaves_11 ?_
  refine z_aload_n (pc := 12) hC 0 rfl 0 rfl dX6_leaves_12 ?_
  refine z_sipush (pc := 13) hC (1344 : Int32) rfl dX6_leaves_13 ?_
  refine z_iload_n (pc := 16) hC 1 rfl 1 rfl dX6_leaves_16 ?_
  refine z_iadd (pc := 17) hC dX6_leaves_17 ?_
  refine z_piV (pc := 18) (st := [.inl (.int (r1 - (1 : Int32))), .inr (k, 34)]) hC y_X6_of q1262 [.inl (.int ((1344 : Int32) + a1))] rfl (hk 34 rfl) rfl rfl (c_X6_of hC.2.2.2.2.2.2.1 hk) rfl ⟨rfl, rfl, (Nat.le_of_ble_eq_true rfl), (Nat.le_of_ble_eq_true rfl)⟩ (Nat.le_of_ble_eq_true rfl) dX6_leaves_18 (fun r2 => ?_)
  refine z_iconst (pc := 21) hC (1 : Int32) rfl dX6_leaves_21 ?_
  refine z_isub (pc := 22) hC dX6_leaves_22 ?_
  refine z_aload_n (pc := 23) hC 0 rfl 0 rfl dX6_leaves_23 ?_
  refine z_iload_n (pc := 24) hC 1 rfl 1 rfl dX6_leaves_24 ?_
  refine z_piV (pc := 25) (st := [.inl (.int (r2 - (1 : Int32))), .inl (.int (r1 - (1 : Int32))), .inr (k, 34)]) hC y_X6_giverOf q1532 [.inl (.int a1)] rfl (hk 34 rfl) rfl rfl (c_X6_giverOf hC.2.2.2.2.2.2.1 hk) rfl ⟨rfl, rfl, (Nat.le_of_ble_eq_true rfl), (Nat.le_of_ble_eq_true rfl)⟩ (Nat.le_of_ble_eq_true rfl) dX6_leaves_25 (fun r3 => ?_)
  refine z_cvV (pc := 28) (st := []) hC y_X6_linked q1266 [.inl (.int (r1 - (1 : Int32))), .inl (.int (r2 - (1 : Int32))), .inl (.int r3)] rfl (hk 34 rfl) rfl rfl (c_X6_linked hC.2.2.2.2.2.2.1 hk) rfl ⟨rfl, rfl, (Nat.le_of_ble_eq_true rfl), (Nat.le_of_ble_eq_true rfl)⟩ (Nat.le_of_ble_eq_true rfl) dX6_leaves_28 (fun r4 d5 => ?_)
  exact z_vret (pc := 31) hC rfl dX6_leaves_31
theorem c_X6_leaves {G : Geo} {M : Mem} {k : Nat} (hG : GOk G) (hk : LMo G k) {d : Sl} {a1 : Int32} (l : Launch) (r : Unit) (d1 : Sl) (h : Mo_leaves d a1 = some (r, d1)) : Mt l yX6_leaves cX6_leaves 2 none rm_X6_leaves G [.inr (k, 34), .inl (.int a1)] ((setS M k) d) (avV r) ((setS M k) d1) :=
  mt_of (mem := (setS M k)) (po := poM avV (setS M k)) (x0 := d) (t := (r, d1)) rfl hG [.inr (k, 34), .inl (.int a1)] (Nat.le_of_ble_eq_true rfl) rfl (fun C hC => r_Mo_leaves hC hk d a1) h
-- FrameHeirsModel.isAbove(II)Z
abbrev rm_X6_isAbove : Room := { frames := 2, cells := 0, slots := 0, locals := 42 }
theorem dX6_isAbove_0 : decode cX6_isAbove 0 = .ok (.aload_n 0, 1) := by decide +kernel
theorem dX6_isAbove_1 : decode cX6_isAbove 1 = .ok (.iload_n 2, 1) := by decide +kernel
theorem dX6_isAbove_2 : decode cX6_isAbove 2 = .ok (.invokevirtual 210, 3) := by decide +kernel
theorem dX6_isAbove_5 : decode cX6_isAbove 5 = .ok (.istore_n 3, 1) := by decide +kernel
theorem dX6_isAbove_6 : decode cX6_isAbove 6 = .ok (.iload_n 3, 1) := by decide +kernel
theorem dX6_isAbove_7 : decode cX6_isAbove 7 = .ok (.ifCond .lt 17, 3) := by decide +kernel
theorem dX6_isAbove_10 : decode cX6_isAbove 10 = .ok (.iload_n 3, 1) := by decide +kernel
theorem dX6_isAbove_11 : decode cX6_isAbove 11 = .ok (.iload_n 1, 1) := by decide +kernel
theorem dX6_isAbove_12 : decode cX6_isAbove 12 = .ok (.if_icmp .eq 12, 3) := by decide +kernel
theorem dX6_isAbove_15 : decode cX6_isAbove 15 = .ok (.aload_n 0, 1) := by decide +kernel
theorem dX6_isAbove_16 : decode cX6_isAbove 16 = .ok (.iload_n 3, 1) := by decide +kernel
theorem dX6_isAbove_17 : decode cX6_isAbove 17 = .ok (.invokevirtual 210, 3) := by decide +kernel
theorem dX6_isAbove_20 : decode cX6_isAbove 20 = .ok (.istore_n 3, 1) := by decide +kernel
theorem dX6_isAbove_21 : decode cX6_isAbove 21 = .ok (.goto (-15), 3) := by decide +kernel
theorem dX6_isAbove_24 : decode cX6_isAbove 24 = .ok (.iload_n 3, 1) := by decide +kernel
theorem dX6_isAbove_25 : decode cX6_isAbove 25 = .ok (.ifCond .lt 7, 3) := by decide +kernel
theorem dX6_isAbove_28 : decode cX6_isAbove 28 = .ok (.iconst 1, 1) := by decide +kernel
theorem dX6_isAbove_29 : decode cX6_isAbove 29 = .ok (.goto 4, 3) := by decide +kernel
theorem dX6_isAbove_32 : decode cX6_isAbove 32 = .ok (.iconst 0, 1) := by decide +kernel
theorem dX6_isAbove_33 : decode cX6_isAbove 33 = .ok (.ireturn, 1) := by decide +kernel
def Mo_isAbove_24 (d : Sl) (v3 : Int32) : Option Int32 :=
  if v3 < 0 then
    (some (0 : Int32))
  else
    (some (1 : Int32))
def Mo_isAbove_6 (d : Sl) : Nat → Int32 → Int32 → Option Int32
  | 0, _, _ => none
  | n + 1, v1, v3 =>
    if v3 < 0 then
      (Mo_isAbove_24 d v3)
    else
      (if v3 = v1 then
        (Mo_isAbove_24 d v3)
      else
        (bp (Mo_giverOf d v3) fun r1 =>
        bnd r1 fun v3_2 =>
        Mo_isAbove_6 d n v1 v3_2))
def Mo_isAbove (d : Sl) (a1 : Int32) (a2 : Int32) : Option Int32 :=
  bp (Mo_giverOf d a2) fun r3 =>
  bnd r3 fun v3_4 =>
  Mo_isAbove_6 d FU a1 v3_4
theorem y_X6_isAbove : YV yX6_isAbove cX6_isAbove 4 (some .boolean) 2 := ⟨q1570, q90, q1571, q149, by decide +kernel, by decide +kernel, by decide +kernel, by decide +kernel⟩
theorem r_Mo_isAbove_24 {C : Cxt} {G : Geo} {M : Mem} {k : Nat} {d : Sl} (hC : Cx C cX6_isAbove 4 "FrameHeirsModel" (some .boolean) rm_X6_isAbove G) (hk : LMo G k) (v3 : Int32) : Rz C 4 G (setS M k) (poP avI ((setS M k) d)) 24 [(3, .inl (.int v3))] [] d (Mo_isAbove_24 d v3) := by
  unfold Mo_isAbove_24
  refine z_iload_n (pc := 24) hC 3 rfl 0 rfl dX6_isAbove_24 ?_
  refine z_if_lt (pc := 25) hC 32 rfl dX6_isAbove_25 ?_ ?_
  · refine z_iconst (pc := 32) hC (0 : Int32) rfl dX6_isAbove_32 ?_
    exact z_zret (pc := 33) hC rfl rfl dX6_isAbove_33
  · refine z_iconst (pc := 28) hC (1 : Int32) rfl dX6_isAbove_28 ?_
    refine z_goto (pc := 29) hC 33 rfl dX6_isAbove_29 ?_
    exact z_zret (pc := 33) hC rfl rfl dX6_isAbove_33
theorem r_Mo_isAbove_6 {C : Cxt} {G : Geo} {M : Mem} {k : Nat} {d : Sl} (hC : Cx C cX6_isAbove 4 "FrameHeirsModel" (some .boolean) rm_X6_isAbove G) (hk : LMo G k) : ∀ (n : Nat) (v1 : Int32) (v3 : Int32), Rz C 4 G (setS M k) (poP avI ((setS M k) d)) 6 [(0, .inr (k, 34)), (1, .inl (.int v1)), (3, .inl (.int v3))] [] d (Mo_isAbove_6 d n v1 v3) := by
  intro n
  induction n with
  | zero => intros; exact z_none
  | succ n ih =>
    intro v1 v3
    rw [Mo_isAbove_6]
    refine z_iload_n (pc := 6) hC 3 rfl 2 rfl dX6_isAbove_6 ?_
    refine z_if_lt (pc := 7) hC 24 rfl dX6_isAbove_7 ?_ ?_
    · exact z_sub [2] rfl (r_Mo_isAbove_24 hC hk v3)
    · refine z_iload_n (pc := 10) hC 3 rfl 2 rfl dX6_isAbove_10 ?_
      refine z_iload_n (pc := 11) hC 1 rfl 1 rfl dX6_isAbove_11 ?_
      refine z_icmp_eq (pc := 12) hC 24 rfl dX6_isAbove_12 ?_ ?_
      · exact z_sub [2] rfl (r_Mo_isAbove_24 hC hk v3)
      · refine z_aload_n (pc := 15) hC 0 rfl 0 rfl dX6_isAbove_15 ?_
        refine z_iload_n (pc := 16) hC 3 rfl 2 rfl dX6_isAbove_16 ?_
        refine z_piV (pc := 17) (st := []) hC y_X6_giverOf q1532 [.inl (.int v3)] rfl (hk 34 rfl) rfl rfl (c_X6_giverOf hC.2.2.2.2.2.2.1 hk) rfl ⟨rfl, rfl, (Nat.le_of_ble_eq_true rfl), (Nat.le_of_ble_eq_true rfl)⟩ (Nat.le_of_ble_eq_true rfl) dX6_isAbove_17 (fun r1 => ?_)
        refine z_istore_n (pc := 20) (ls1 := fun v => [(3, .inl (.int v)), (0, .inr (k, 34)), (1, .inl (.int v1))]) hC 3 rfl (by decide) (fun v => rfl) dX6_isAbove_20 (fun v3_2 => ?_)
        refine z_goto (pc := 21) hC 6 rfl dX6_isAbove_21 ?_
        exact z_sub [1, 2, 0] rfl (ih v1 v3_2)
theorem r_Mo_isAbove {C : Cxt} {G : Geo} {M : Mem} {k : Nat} (hC : Cx C cX6_isAbove 4 "FrameHeirsModel" (some .boolean) rm_X6_isAbove G) (hk : LMo G k) (d : Sl) (a1 : Int32) (a2 : Int32) : Rz C 4 G (setS M k) (poP avI ((setS M k) d)) 0 [(0, .inr (k, 34)), (1, .inl (.int a1)), (2, .inl (.int a2))] [] d (Mo_isAbove d a1 a2) := by
  unfold Mo_isAbove
  refine z_aload_n (pc := 0) hC 0 rfl 0 rfl dX6_isAbove_0 ?_
  refine z_iload_n (pc := 1) hC 2 rfl 2 rfl dX6_isAbove_1 ?_
  refine z_piV (pc := 2) (st := []) hC y_X6_giverOf q1532 [.inl (.int a2)] rfl (hk 34 rfl) rfl rfl (c_X6_giverOf hC.2.2.2.2.2.2.1 hk) rfl ⟨rfl, rfl, (Nat.le_of_ble_eq_true rfl), (Nat.le_of_ble_eq_true rfl)⟩ (Nat.le_of_ble_eq_true rfl) dX6_isAbove_2 (fun r3 => ?_)
  refine z_istore_n (pc := 5) (ls1 := fun v => [(3, .inl (.int v)), (0, .inr (k, 34)), (1, .inl (.int a1)), (2, .inl (.int a2))]) hC 3 rfl (by decide) (fun v => rfl) dX6_isAbove_5 (fun v3_4 => ?_)
  exact z_sub [1, 2, 0] rfl (r_Mo_isAbove_6 hC hk FU a1 v3_4)
theorem c_X6_isAbove {G : Geo} {M : Mem} {k : Nat} (hG : GOk G) (hk : LMo G k) {d : Sl} {a1 : Int32} {a2 : Int32} (l : Launch) (r : Int32) (h : Mo_isAbove d a1 a2 = some r) : Mt l yX6_isAbove cX6_isAbove 4 (some .boolean) rm_X6_isAbove G [.inr (k, 34), .inl (.int a1), .inl (.int a2)] ((setS M k) d) (avI r) ((setS M k) d) :=
  mt_of (mem := (setS M k)) (po := poP avI ((setS M k) d)) (x0 := d) (t := r) rfl hG [.inr (k, 34), .inl (.int a1), .inl (.int a2)] (Nat.le_of_ble_eq_true rfl) rfl (fun C hC => r_Mo_isAbove hC hk d a1 a2) h
-- FrameHeirsModel.isBusy(I)Z
abbrev rm_X6_isBusy : Room := { frames := 2, cells := 0, slots := 0, locals := 42 }
theorem dX6_isBusy_0 : decode cX6_isBusy 0 = .ok (.iload_n 1, 1) := by decide +kernel
theorem dX6_isBusy_1 : decode cX6_isBusy 1 = .ok (.istore_n 2, 1) := by decide +kernel
theorem dX6_isBusy_2 : decode cX6_isBusy 2 = .ok (.iload_n 2, 1) := by decide +kernel
theorem dX6_isBusy_3 : decode cX6_isBusy 3 = .ok (.ifCond .lt 24, 3) := by decide +kernel
theorem dX6_isBusy_6 : decode cX6_isBusy 6 = .ok (.aload_n 0, 1) := by decide +kernel
theorem dX6_isBusy_7 : decode cX6_isBusy 7 = .ok (.sipush 1728, 3) := by decide +kernel
theorem dX6_isBusy_10 : decode cX6_isBusy 10 = .ok (.iload_n 2, 1) := by decide +kernel
theorem dX6_isBusy_11 : decode cX6_isBusy 11 = .ok (.iadd, 1) := by decide +kernel
theorem dX6_isBusy_12 : decode cX6_isBusy 12 = .ok (.invokevirtual 189, 3) := by decide +kernel
theorem dX6_isBusy_15 : decode cX6_isBusy 15 = .ok (.ifCond .ne 12, 3) := by decide +kernel
theorem dX6_isBusy_18 : decode cX6_isBusy 18 = .ok (.aload_n 0, 1) := by decide +kernel
theorem dX6_isBusy_19 : decode cX6_isBusy 19 = .ok (.iload_n 2, 1) := by decide +kernel
theorem dX6_isBusy_20 : decode cX6_isBusy 20 = .ok (.invokevirtual 210, 3) := by decide +kernel
theorem dX6_isBusy_23 : decode cX6_isBusy 23 = .ok (.istore_n 2, 1) := by decide +kernel
theorem dX6_isBusy_24 : decode cX6_isBusy 24 = .ok (.goto (-22), 3) := by decide +kernel
theorem dX6_isBusy_27 : decode cX6_isBusy 27 = .ok (.iload_n 2, 1) := by decide +kernel
theorem dX6_isBusy_28 : decode cX6_isBusy 28 = .ok (.ifCond .lt 7, 3) := by decide +kernel
theorem dX6_isBusy_31 : decode cX6_isBusy 31 = .ok (.iconst 1, 1) := by decide +kernel
theorem dX6_isBusy_32 : decode cX6_isBusy 32 = .ok (.goto 4, 3) := by decide +kernel
theorem dX6_isBusy_35 : decode cX6_isBusy 35 = .ok (.iconst 0, 1) := by decide +kernel
theorem dX6_isBusy_36 : decode cX6_isBusy 36 = .ok (.ireturn, 1) := by decide +kernel
def Mo_isBusy_27 (d : Sl) (v2 : Int32) : Option Int32 :=
  if v2 < 0 then
    (some (0 : Int32))
  else
    (some (1 : Int32))
def Mo_isBusy_2 (d : Sl) : Nat → Int32 → Option Int32
  | 0, _ => none
  | n + 1, v2 =>
    if v2 < 0 then
      (Mo_isBusy_27 d v2)
    else
      (bp (Mo_of d ((1728 : Int32) + v2)) fun r1 =>
      if r1 = 0 then
        (bp (Mo_giverOf d v2) fun r2 =>
        bnd r2 fun v2_3 =>
        Mo_isBusy_2 d n v2_3)
      else
        (Mo_isBusy_27 d v2))
def Mo_isBusy (d : Sl) (a1 : Int32) : Option Int32 :=
  bnd a1 fun v2_4 =>
  Mo_isBusy_2 d FU v2_4
theorem y_X6_isBusy : YV yX6_isBusy cX6_isBusy 3 (some .boolean) 1 := ⟨q1530, q81, q1531, q149, by decide +kernel, by decide +kernel, by decide +kernel, by decide +kernel⟩
theorem r_Mo_isBusy_27 {C : Cxt} {G : Geo} {M : Mem} {k : Nat} {d : Sl} (hC : Cx C cX6_isBusy 3 "FrameHeirsModel" (some .boolean) rm_X6_isBusy G) (hk : LMo G k) (v2 : Int32) : Rz C 3 G (setS M k) (poP avI ((setS M k) d)) 27 [(2, .inl (.int v2))] [] d (Mo_isBusy_27 d v2) := by
  unfold Mo_isBusy_27
  refine z_iload_n (pc := 27) hC 2 rfl 0 rfl dX6_isBusy_27 ?_
  refine z_if_lt (pc := 28) hC 35 rfl dX6_isBusy_28 ?_ ?_
  · refine z_iconst (pc := 35) hC (0 : Int32) rfl dX6_isBusy_35 ?_
    exact z_zret (pc := 36) hC rfl rfl dX6_isBusy_36
  · refine z_iconst (pc := 31) hC (1 : Int32) rfl dX6_isBusy_31 ?_
    refine z_goto (pc := 32) hC 36 rfl dX6_isBusy_32 ?_
    exact z_zret (pc := 36) hC rfl rfl dX6_isBusy_36
theorem r_Mo_isBusy_2 {C : Cxt} {G : Geo} {M : Mem} {k : Nat} {d : Sl} (hC : Cx C cX6_isBusy 3 "FrameHeirsModel" (some .boolean) rm_X6_isBusy G) (hk : LMo G k) : ∀ (n : Nat) (v2 : Int32), Rz C 3 G (setS M k) (poP avI ((setS M k) d)) 2 [(0, .inr (k, 34)), (2, .inl (.int v2))] [] d (Mo_isBusy_2 d n v2) := by
  intro n
  induction n with
  | zero => intros; exact z_none
  | succ n ih =>
    intro v2
    rw [Mo_isBusy_2]
    refine z_iload_n (pc := 2) hC 2 rfl 1 rfl dX6_isBusy_2 ?_
    refine z_if_lt (pc := 3) hC 27 rfl dX6_isBusy_3 ?_ ?_
    · exact z_sub [1] rfl (r_Mo_isBusy_27 hC hk v2)
    · refine z_aload_n (pc := 6) hC 0 rfl 0 rfl dX6_isBusy_6 ?_
      refine z_sipush (pc := 7) hC (1728 : Int32) rfl dX6_isBusy_7 ?_
      refine z_iload_n (pc := 10) hC 2 rfl 1 rfl dX6_isBusy_10 ?_
      refine z_iadd (pc := 11) hC dX6_isBusy_11 ?_
      refine z_piV (pc := 12) (st := []) hC y_X6_of q1262 [.inl (.int ((1728 : Int32) + v2))] rfl (hk 34 rfl) rfl rfl (c_X6_of hC.2.2.2.2.2.2.1 hk) rfl ⟨rfl, rfl, (Nat.le_of_ble_eq_true rfl), (Nat.le_of_ble_eq_true rfl)⟩ (Nat.le_of_ble_eq_true rfl) dX6_isBusy_12 (fun r1 => ?_)
      refine z_if_ne (pc := 15) hC 27 rfl dX6_isBusy_15 ?_ ?_
      · exact z_sub [1] rfl (r_Mo_isBusy_27 hC hk v2)
      · refine z_aload_n (pc := 18) hC 0 rfl 0 rfl dX6_isBusy_18 ?_
        refine z_iload_n (pc := 19) hC 2 rfl 1 rfl dX6_isBusy_19 ?_
        refine z_piV (pc := 20) (st := []) hC y_X6_giverOf q1532 [.inl (.int v2)] rfl (hk 34 rfl) rfl rfl (c_X6_giverOf hC.2.2.2.2.2.2.1 hk) rfl ⟨rfl, rfl, (Nat.le_of_ble_eq_true rfl), (Nat.le_of_ble_eq_true rfl)⟩ (Nat.le_of_ble_eq_true rfl) dX6_isBusy_20 (fun r2 => ?_)
        refine z_istore_n (pc := 23) (ls1 := fun v => [(2, .inl (.int v)), (0, .inr (k, 34))]) hC 2 rfl (by decide) (fun v => rfl) dX6_isBusy_23 (fun v2_3 => ?_)
        refine z_goto (pc := 24) hC 2 rfl dX6_isBusy_24 ?_
        exact z_sub [1, 0] rfl (ih v2_3)
theorem r_Mo_isBusy {C : Cxt} {G : Geo} {M : Mem} {k : Nat} (hC : Cx C cX6_isBusy 3 "FrameHeirsModel" (some .boolean) rm_X6_isBusy G) (hk : LMo G k) (d : Sl) (a1 : Int32) : Rz C 3 G (setS M k) (poP avI ((setS M k) d)) 0 [(0, .inr (k, 34)), (1, .inl (.int a1))] [] d (Mo_isBusy d a1) := by
  unfold Mo_isBusy
  refine z_iload_n (pc := 0) hC 1 rfl 1 rfl dX6_isBusy_0 ?_
  refine z_istore_n (pc := 1) (ls1 := fun v => [(2, .inl (.int v)), (0, .inr (k, 34)), (1, .inl (.int a1))]) hC 2 rfl (by decide) (fun v => rfl) dX6_isBusy_1 (fun v2_4 => ?_)
  exact z_sub [1, 0] rfl (r_Mo_isBusy_2 hC hk FU v2_4)
theorem c_X6_isBusy {G : Geo} {M : Mem} {k : Nat} (hG : GOk G) (hk : LMo G k) {d : Sl} {a1 : Int32} (l : Launch) (r : Int32) (h : Mo_isBusy d a1 = some r) : Mt l yX6_isBusy cX6_isBusy 3 (some .boolean) rm_X6_isBusy G [.inr (k, 34), .inl (.int a1)] ((setS M k) d) (avI r) ((setS M k) d) :=
  mt_of (mem := (setS M k)) (po := poP avI ((setS M k) d)) (x0 := d) (t := r) rfl hG [.inr (k, 34), .inl (.int a1)] (Nat.le_of_ble_eq_true rfl) rfl (fun C hC => r_Mo_isBusy hC hk d a1) h
-- FrameHeirsModel.isBusyBelow(I)Z
abbrev rm_X6_isBusyBelow : Room := { frames := 3, cells := 0, slots := 0, locals := 65 }
theorem dX6_isBusyBelow_0 : decode cX6_isBusyBelow 0 = .ok (.aload_n 0, 1) := by decide +kernel
theorem dX6_isBusyBelow_1 : decode cX6_isBusyBelow 1 = .ok (.iload_n 1, 1) := by decide +kernel
theorem dX6_isBusyBelow_2 : decode cX6_isBusyBelow 2 = .ok (.invokevirtual 213, 3) := by decide +kernel
theorem dX6_isBusyBelow_5 : decode cX6_isBusyBelow 5 = .ok (.ifCond .eq 5, 3) := by decide +kernel
theorem dX6_isBusyBelow_8 : decode cX6_isBusyBelow 8 = .ok (.iconst 1, 1) := by decide +kernel
theorem dX6_isBusyBelow_9 : decode cX6_isBusyBelow 9 = .ok (.ireturn, 1) := by decide +kernel
theorem dX6_isBusyBelow_10 : decode cX6_isBusyBelow 10 = .ok (.iconst 0, 1) := by decide +kernel
theorem dX6_isBusyBelow_11 : decode cX6_isBusyBelow 11 = .ok (.istore_n 2, 1) := by decide +kernel
theorem dX6_isBusyBelow_12 : decode cX6_isBusyBelow 12 = .ok (.iload_n 2, 1) := by decide +kernel
theorem dX6_isBusyBelow_13 : decode cX6_isBusyBelow 13 = .ok (.sipush 192, 3) := by decide +kernel
theorem dX6_isBusyBelow_16 : decode cX6_isBusyBelow 16 = .ok (.if_icmp .ge 40, 3) := by decide +kernel
theorem dX6_isBusyBelow_19 : decode cX6_isBusyBelow 19 = .ok (.aload_n 0, 1) := by decide +kernel
theorem dX6_isBusyBelow_20 : decode cX6_isBusyBelow 20 = .ok (.iload_n 2, 1) := by decide +kernel
theorem dX6_isBusyBelow_21 : decode cX6_isBusyBelow 21 = .ok (.invokevirtual 216, 3) := by decide +kernel
theorem dX6_isBusyBelow_24 : decode cX6_isBusyBelow 24 = .ok (.ifCond .eq 26, 3) := by decide +kernel
theorem dX6_isBusyBelow_27 : decode cX6_isBusyBelow 27 = .ok (.aload_n 0, 1) := by decide +kernel
theorem dX6_isBusyBelow_28 : decode cX6_isBusyBelow 28 = .ok (.sipush 1728, 3) := by decide +kernel
theorem dX6_isBusyBelow_31 : decode cX6_isBusyBelow 31 = .ok (.iload_n 2, 1) := by decide +kernel
theorem dX6_isBusyBelow_32 : decode cX6_isBusyBelow 32 = .ok (.iadd, 1) := by decide +kernel
theorem dX6_isBusyBelow_33 : decode cX6_isBusyBelow 33 = .ok (.invokevirtual 189, 3) := by decide +kernel
theorem dX6_isBusyBelow_36 : decode cX6_isBusyBelow 36 = .ok (.ifCond .le 14, 3) := by decide +kernel
theorem dX6_isBusyBelow_39 : decode cX6_isBusyBelow 39 = .ok (.aload_n 0, 1) := by decide +kernel
theorem dX6_isBusyBelow_40 : decode cX6_isBusyBelow 40 = .ok (.iload_n 1, 1) := by decide +kernel
theorem dX6_isBusyBelow_41 : decode cX6_isBusyBelow 41 = .ok (.iload_n 2, 1) := by decide +kernel
theorem dX6_isBusyBelow_42 : decode cX6_isBusyBelow 42 = .ok (.invokevirtual 219, 3) := by decide +kernel
theorem dX6_isBusyBelow_45 : decode cX6_isBusyBelow 45 = .ok (.ifCond .eq 5, 3) := by decide +kernel
theorem dX6_isBusyBelow_48 : decode cX6_isBusyBelow 48 = .ok (.iconst 1, 1) := by decide +kernel
theorem dX6_isBusyBelow_49 : decode cX6_isBusyBelow 49 = .ok (.ireturn, 1) := by decide +kernel
theorem dX6_isBusyBelow_50 : decode cX6_isBusyBelow 50 = .ok (.iinc 2 1, 3) := by decide +kernel
theorem dX6_isBusyBelow_53 : decode cX6_isBusyBelow 53 = .ok (.goto (-41), 3) := by decide +kernel
theorem dX6_isBusyBelow_56 : decode cX6_isBusyBelow 56 = .ok (.iconst 0, 1) := by decide +kernel
theorem dX6_isBusyBelow_57 : decode cX6_isBusyBelow 57 = .ok (.ireturn, 1) := by decide +kernel
def Mo_isBusyBelow_50 (k12 : Int32 → Int32 → Option Int32) (d : Sl) (v1 : Int32) (v2 : Int32) : Option Int32 :=
  bnd (v2 + (1 : Int32)) fun v2_1 =>
  k12 v1 v2_1
def Mo_isBusyBelow_12 (d : Sl) : Nat → Int32 → Int32 → Option Int32
  | 0, _, _ => none
  | n + 1, v1, v2 =>
    if (192 : Int32) ≤ v2 then
      (some (0 : Int32))
    else
      (bp (Mo_isDeed d v2) fun r2 =>
      if r2 = 0 then
        (Mo_isBusyBelow_50 (Mo_isBusyBelow_12 d n) d v1 v2)
      else
        (bp (Mo_of d ((1728 : Int32) + v2)) fun r3 =>
        if r3 ≤ 0 then
          (Mo_isBusyBelow_50 (Mo_isBusyBelow_12 d n) d v1 v2)
        else
          (bp (Mo_isAbove d v1 v2) fun r4 =>
          if r4 = 0 then
            (Mo_isBusyBelow_50 (Mo_isBusyBelow_12 d n) d v1 v2)
          else
            (some (1 : Int32)))))
def Mo_isBusyBelow (d : Sl) (a1 : Int32) : Option Int32 :=
  bp (Mo_isBusy d a1) fun r5 =>
  if r5 = 0 then
    (bnd (0 : Int32) fun v2_6 =>
    Mo_isBusyBelow_12 d FU a1 v2_6)
  else
    (some (1 : Int32))
theorem y_X6_isBusyBelow : YV yX6_isBusyBelow cX6_isBusyBelow 3 (some .boolean) 1 := ⟨q1566, q89, q1567, q149, by decide +kernel, by decide +kernel, by decide +kernel, by decide +kernel⟩
theorem r_Mo_isBusyBelow_50 {C : Cxt} {G : Geo} {M : Mem} {k : Nat} {d : Sl} (hC : Cx C cX6_isBusyBelow 3 "FrameHeirsModel" (some .boolean) rm_X6_isBusyBelow G) (hk : LMo G k) (k12 : Int32 → Int32 → Option Int32) (h12 : ∀ (v1 : Int32) (v2 : Int32), Rz C 3 G (setS M k) (poP avI ((setS M k) d)) 12 [(0, .inr (k, 34)), (1, .inl (.int v1)), (2, .inl (.int v2))] [] d (k12 v1 v2)) (v1 : Int32) (v2 : Int32) : Rz C 3 G (setS M k) (poP avI ((setS M k) d)) 50 [(0, .inr (k, 34)), (1, .inl (.int v1)), (2, .inl (.int v2))] [] d (Mo_isBusyBelow_50 k12 d v1 v2) := by
  unfold Mo_isBusyBelow_50
  refine z_iinc (pc := 50) (ls1 := fun v => [(2, .inl (.int v)), (0, .inr (k, 34)), (1, .inl (.int v1))]) hC 2 2 (by decide) (1 : Int32) rfl rfl (fun v => rfl) dX6_isBusyBelow_50 (fun v2_1 => ?_)
  refine z_goto (pc := 53) hC 12 rfl dX6_isBusyBelow_53 ?_
  exact z_sub [1, 2, 0] rfl (h12 v1 v2_1)
theorem r_Mo_isBusyBelow_12 {C : Cxt} {G : Geo} {M : Mem} {k : Nat} {d : Sl} (hC : Cx C cX6_isBusyBelow 3 "FrameHeirsModel" (some .boolean) rm_X6_isBusyBelow G) (hk : LMo G k) : ∀ (n : Nat) (v1 : Int32) (v2 : Int32), Rz C 3 G (setS M k) (poP avI ((setS M k) d)) 12 [(0, .inr (k, 34)), (1, .inl (.int v1)), (2, .inl (.int v2))] [] d (Mo_isBusyBelow_12 d n v1 v2) := by
  intro n
  induction n with
  | zero => intros; exact z_none
  | succ n ih =>
    intro v1 v2
    rw [Mo_isBusyBelow_12]
    refine z_iload_n (pc := 12) hC 2 rfl 2 rfl dX6_isBusyBelow_12 ?_
    refine z_sipush (pc := 13) hC (192 : Int32) rfl dX6_isBusyBelow_13 ?_
    refine z_icmp_ge (pc := 16) hC 56 rfl dX6_isBusyBelow_16 ?_ ?_
    · refine z_iconst (pc := 56) hC (0 : Int32) rfl dX6_isBusyBelow_56 ?_
      exact z_zret (pc := 57) hC rfl rfl dX6_isBusyBelow_57
    · refine z_aload_n (pc := 19) hC 0 rfl 0 rfl dX6_isBusyBelow_19 ?_
      refine z_iload_n (pc := 20) hC 2 rfl 2 rfl dX6_isBusyBelow_20 ?_
      refine z_piV (pc := 21) (st := []) hC y_X6_isDeed q1520 [.inl (.int v2)] rfl (hk 34 rfl) rfl rfl (c_X6_isDeed hC.2.2.2.2.2.2.1 hk) rfl ⟨rfl, rfl, (Nat.le_of_ble_eq_true rfl), (Nat.le_of_ble_eq_true rfl)⟩ (Nat.le_of_ble_eq_true rfl) dX6_isBusyBelow_21 (fun r2 => ?_)
      refine z_if_eq (pc := 24) hC 50 rfl dX6_isBusyBelow_24 ?_ ?_
      · exact z_sub [0, 1, 2] rfl (r_Mo_isBusyBelow_50 hC hk _ ih v1 v2)
      · refine z_aload_n (pc := 27) hC 0 rfl 0 rfl dX6_isBusyBelow_27 ?_
        refine z_sipush (pc := 28) hC (1728 : Int32) rfl dX6_isBusyBelow_28 ?_
        refine z_iload_n (pc := 31) hC 2 rfl 2 rfl dX6_isBusyBelow_31 ?_
        refine z_iadd (pc := 32) hC dX6_isBusyBelow_32 ?_
        refine z_piV (pc := 33) (st := []) hC y_X6_of q1262 [.inl (.int ((1728 : Int32) + v2))] rfl (hk 34 rfl) rfl rfl (c_X6_of hC.2.2.2.2.2.2.1 hk) rfl ⟨rfl, rfl, (Nat.le_of_ble_eq_true rfl), (Nat.le_of_ble_eq_true rfl)⟩ (Nat.le_of_ble_eq_true rfl) dX6_isBusyBelow_33 (fun r3 => ?_)
        refine z_if_le (pc := 36) hC 50 rfl dX6_isBusyBelow_36 ?_ ?_
        · exact z_sub [0, 1, 2] rfl (r_Mo_isBusyBelow_50 hC hk _ ih v1 v2)
        · refine z_aload_n (pc := 39) hC 0 rfl 0 rfl dX6_isBusyBelow_39 ?_
          refine z_iload_n (pc := 40) hC 1 rfl 1 rfl dX6_isBusyBelow_40 ?_
          refine z_iload_n (pc := 41) hC 2 rfl 2 rfl dX6_isBusyBelow_41 ?_
          refine z_piV (pc := 42) (st := []) hC y_X6_isAbove q1568 [.inl (.int v1), .inl (.int v2)] rfl (hk 34 rfl) rfl rfl (c_X6_isAbove hC.2.2.2.2.2.2.1 hk) rfl ⟨rfl, rfl, (Nat.le_of_ble_eq_true rfl), (Nat.le_of_ble_eq_true rfl)⟩ (Nat.le_of_ble_eq_true rfl) dX6_isBusyBelow_42 (fun r4 => ?_)
          refine z_if_eq (pc := 45) hC 50 rfl dX6_isBusyBelow_45 ?_ ?_
          · exact z_sub [0, 1, 2] rfl (r_Mo_isBusyBelow_50 hC hk _ ih v1 v2)
          · refine z_iconst (pc := 48) hC (1 : Int32) rfl dX6_isBusyBelow_48 ?_
            exact z_zret (pc := 49) hC rfl rfl dX6_isBusyBelow_49
theorem r_Mo_isBusyBelow {C : Cxt} {G : Geo} {M : Mem} {k : Nat} (hC : Cx C cX6_isBusyBelow 3 "FrameHeirsModel" (some .boolean) rm_X6_isBusyBelow G) (hk : LMo G k) (d : Sl) (a1 : Int32) : Rz C 3 G (setS M k) (poP avI ((setS M k) d)) 0 [(0, .inr (k, 34)), (1, .inl (.int a1))] [] d (Mo_isBusyBelow d a1) := by
  unfold Mo_isBusyBelow
  refine z_aload_n (pc := 0) hC 0 rfl 0 rfl dX6_isBusyBelow_0 ?_
  refine z_iload_n (pc := 1) hC 1 rfl 1 rfl dX6_isBusyBelow_1 ?_
  refine z_piV (pc := 2) (st := []) hC y_X6_isBusy q1528 [.inl (.int a1)] rfl (hk 34 rfl) rfl rfl (c_X6_isBusy hC.2.2.2.2.2.2.1 hk) rfl ⟨rfl, rfl, (Nat.le_of_ble_eq_true rfl), (Nat.le_of_ble_eq_true rfl)⟩ (Nat.le_of_ble_eq_true rfl) dX6_isBusyBelow_2 (fun r5 => ?_)
  refine z_if_eq (pc := 5) hC 10 rfl dX6_isBusyBelow_5 ?_ ?_
  · refine z_iconst (pc := 10) hC (0 : Int32) rfl dX6_isBusyBelow_10 ?_
    refine z_istore_n (pc := 11) (ls1 := fun v => [(2, .inl (.int v)), (0, .inr (k, 34)), (1, .inl (.int a1))]) hC 2 rfl (by decide) (fun v => rfl) dX6_isBusyBelow_11 (fun v2_6 => ?_)
    exact z_sub [1, 2, 0] rfl (r_Mo_isBusyBelow_12 hC hk FU a1 v2_6)
  · refine z_iconst (pc := 8) hC (1 : Int32) rfl dX6_isBusyBelow_8 ?_
    exact z_zret (pc := 9) hC rfl rfl dX6_isBusyBelow_9
theorem c_X6_isBusyBelow {G : Geo} {M : Mem} {k : Nat} (hG : GOk G) (hk : LMo G k) {d : Sl} {a1 : Int32} (l : Launch) (r : Int32) (h : Mo_isBusyBelow d a1 = some r) : Mt l yX6_isBusyBelow cX6_isBusyBelow 3 (some .boolean) rm_X6_isBusyBelow G [.inr (k, 34), .inl (.int a1)] ((setS M k) d) (avI r) ((setS M k) d) :=
  mt_of (mem := (setS M k)) (po := poP avI ((setS M k) d)) (x0 := d) (t := r) rfl hG [.inr (k, 34), .inl (.int a1)] (Nat.le_of_ble_eq_true rfl) rfl (fun C hC => r_Mo_isBusyBelow hC hk d a1) h
-- FrameHeirsModel.adds(I)V
abbrev rm_X6_adds : Room := { frames := 0, cells := 0, slots := 0, locals := 0 }
theorem dX6_adds_0 : decode cX6_adds 0 = .ok (.aload_n 0, 1) := by decide +kernel
theorem dX6_adds_1 : decode cX6_adds 1 = .ok (.getfield 49, 3) := by decide +kernel
theorem dX6_adds_4 : decode cX6_adds 4 = .ok (.aload_n 0, 1) := by decide +kernel
theorem dX6_adds_5 : decode cX6_adds 5 = .ok (.getfield 222, 3) := by decide +kernel
theorem dX6_adds_8 : decode cX6_adds 8 = .ok (.iload_n 1, 1) := by decide +kernel
theorem dX6_adds_9 : decode cX6_adds 9 = .ok (.iastore, 1) := by decide +kernel
theorem dX6_adds_10 : decode cX6_adds 10 = .ok (.aload_n 0, 1) := by decide +kernel
theorem dX6_adds_11 : decode cX6_adds 11 = .ok (.dup, 1) := by decide +kernel
theorem dX6_adds_12 : decode cX6_adds 12 = .ok (.getfield 222, 3) := by decide +kernel
theorem dX6_adds_15 : decode cX6_adds 15 = .ok (.iconst 1, 1) := by decide +kernel
theorem dX6_adds_16 : decode cX6_adds 16 = .ok (.iadd, 1) := by decide +kernel
theorem dX6_adds_17 : decode cX6_adds 17 = .ok (.putfield 222, 3) := by decide +kernel
theorem dX6_adds_20 : decode cX6_adds 20 = .ok (.return_, 1) := by decide +kernel
def Mo_adds (d : Sl) (a1 : Int32) : Option (Unit × Sl) :=
  if inb (d 34 28) 192 then
  bnd (wr d 46 (ix (d 34 28)) a1) fun d1 =>
  bnd (wr d1 34 28 ((d1 34 28) + (1 : Int32))) fun d2 =>
  some ((), d2)
  else none
theorem y_X6_adds : YV yX6_adds cX6_adds 2 none 1 := ⟨q1582, q93, q1583, q149, by decide +kernel, by decide +kernel, by decide +kernel, by decide +kernel⟩
theorem r_Mo_adds {C : Cxt} {G : Geo} {M : Mem} {k : Nat} (hC : Cx C cX6_adds 2 "FrameHeirsModel" none rm_X6_adds G) (hk : LMo G k) (d : Sl) (a1 : Int32) : Rz C 2 G (setS M k) (poM avV (setS M k)) 0 [(0, .inr (k, 34)), (1, .inl (.int a1))] [] d (Mo_adds d a1) := by
  unfold Mo_adds
  refine z_aload_n (pc := 0) hC 0 rfl 0 rfl dX6_adds_0 ?_
  refine z_getc (pc := 1) hC (hk 34 rfl) f_34_27 q1297 dX6_adds_1 ?_
  refine z_aload_n (pc := 4) hC 0 rfl 0 rfl dX6_adds_4 ?_
  refine zs_geti (pc := 5) hC (hk 34 rfl) f_34_28 q1298 dX6_adds_5 ?_
  refine z_iload_n (pc := 8) hC 1 rfl 1 rfl dX6_adds_8 ?_
  refine zs_iast (pc := 9) hC (hk 46 rfl) (by decide) rfl dX6_adds_9 (fun d1 => ?_)
  refine z_aload_n (pc := 10) hC 0 rfl 0 rfl dX6_adds_10 ?_
  refine z_dup (pc := 11) hC rfl dX6_adds_11 ?_
  refine zs_geti (pc := 12) hC (hk 34 rfl) f_34_28 q1298 dX6_adds_12 ?_
  refine z_iconst (pc := 15) hC (1 : Int32) rfl dX6_adds_15 ?_
  refine z_iadd (pc := 16) hC dX6_adds_16 ?_
  refine zs_puti (pc := 17) hC (hk 34 rfl) f_34_28 q1298 dX6_adds_17 (fun d2 => ?_)
  exact z_vret (pc := 20) hC rfl dX6_adds_20
theorem c_X6_adds {G : Geo} {M : Mem} {k : Nat} (hG : GOk G) (hk : LMo G k) {d : Sl} {a1 : Int32} (l : Launch) (r : Unit) (d1 : Sl) (h : Mo_adds d a1 = some (r, d1)) : Mt l yX6_adds cX6_adds 2 none rm_X6_adds G [.inr (k, 34), .inl (.int a1)] ((setS M k) d) (avV r) ((setS M k) d1) :=
  mt_of (mem := (setS M k)) (po := poM avV (setS M k)) (x0 := d) (t := (r, d1)) rfl hG [.inr (k, 34), .inl (.int a1)] (Nat.le_of_ble_eq_true rfl) rfl (fun C hC => r_Mo_adds hC hk d a1) h
-- FrameHeirsModel.tree(I)V
abbrev rm_X6_tree : Room := { frames := 2, cells := 0, slots := 0, locals := 42 }
theorem dX6_tree_0 : decode cX6_tree 0 = .ok (.aload_n 0, 1) := by decide +kernel
theorem dX6_tree_1 : decode cX6_tree 1 = .ok (.iconst 0, 1) := by decide +kernel
theorem dX6_tree_2 : decode cX6_tree 2 = .ok (.putfield 222, 3) := by decide +kernel
theorem dX6_tree_5 : decode cX6_tree 5 = .ok (.aload_n 0, 1) := by decide +kernel
theorem dX6_tree_6 : decode cX6_tree 6 = .ok (.iload_n 1, 1) := by decide +kernel
theorem dX6_tree_7 : decode cX6_tree 7 = .ok (.invokevirtual 225, 3) := by decide +kernel
theorem dX6_tree_10 : decode cX6_tree 10 = .ok (.iconst 0, 1) := by decide +kernel
theorem dX6_tree_11 : decode cX6_tree 11 = .ok (.istore_n 2, 1) := by decide +kernel
theorem dX6_tree_12 : decode cX6_tree 12 = .ok (.iload_n 2, 1) := by decide +kernel
theorem dX6_tree_13 : decode cX6_tree 13 = .ok (.aload_n 0, 1) := by decide +kernel
theorem dX6_tree_14 : decode cX6_tree 14 = .ok (.getfield 222, 3) := by decide +kernel
theorem dX6_tree_17 : decode cX6_tree 17 = .ok (.if_icmp .ge 38, 3) := by decide +kernel
theorem dX6_tree_20 : decode cX6_tree 20 = .ok (.aload_n 0, 1) := by decide +kernel
theorem dX6_tree_21 : decode cX6_tree 21 = .ok (.aload_n 0, 1) := by decide +kernel
theorem dX6_tree_22 : decode cX6_tree 22 = .ok (.getfield 49, 3) := by decide +kernel
theorem dX6_tree_25 : decode cX6_tree 25 = .ok (.iload_n 2, 1) := by decide +kernel
theorem dX6_tree_26 : decode cX6_tree 26 = .ok (.iaload, 1) := by decide +kernel
theorem dX6_tree_27 : decode cX6_tree 27 = .ok (.invokevirtual 228, 3) := by decide +kernel
theorem dX6_tree_30 : decode cX6_tree 30 = .ok (.istore_n 3, 1) := by decide +kernel
theorem dX6_tree_31 : decode cX6_tree 31 = .ok (.iload_n 3, 1) := by decide +kernel
theorem dX6_tree_32 : decode cX6_tree 32 = .ok (.ifCond .lt 17, 3) := by decide +kernel
theorem dX6_tree_35 : decode cX6_tree 35 = .ok (.aload_n 0, 1) := by decide +kernel
theorem dX6_tree_36 : decode cX6_tree 36 = .ok (.iload_n 3, 1) := by decide +kernel
theorem dX6_tree_37 : decode cX6_tree 37 = .ok (.invokevirtual 225, 3) := by decide +kernel
theorem dX6_tree_40 : decode cX6_tree 40 = .ok (.aload_n 0, 1) := by decide +kernel
theorem dX6_tree_41 : decode cX6_tree 41 = .ok (.iload_n 3, 1) := by decide +kernel
theorem dX6_tree_42 : decode cX6_tree 42 = .ok (.invokevirtual 231, 3) := by decide +kernel
theorem dX6_tree_45 : decode cX6_tree 45 = .ok (.istore_n 3, 1) := by decide +kernel
theorem dX6_tree_46 : decode cX6_tree 46 = .ok (.goto (-15), 3) := by decide +kernel
theorem dX6_tree_49 : decode cX6_tree 49 = .ok (.iinc 2 1, 3) := by decide +kernel
theorem dX6_tree_52 : decode cX6_tree 52 = .ok (.goto (-40), 3) := by decide +kernel
theorem dX6_tree_55 : decode cX6_tree 55 = .ok (.return_, 1) := by decide +kernel
def Mo_tree_31 (k12 : Int32 → Sl → Option (Unit × Sl)) : Nat → Int32 → Int32 → Sl → Option (Unit × Sl)
  | 0, _, _, _ => none
  | n + 1, v2, v3, d =>
    if v3 < 0 then
      (bnd (v2 + (1 : Int32)) fun v2_1 =>
      k12 v2_1 d)
    else
      (bd (Mo_adds d v3) fun r2 d3 =>
      bp (Mo_nextOf d3 v3) fun r4 =>
      bnd r4 fun v3_5 =>
      Mo_tree_31 k12 n v2 v3_5 d3)
def Mo_tree_12 : Nat → Int32 → Sl → Option (Unit × Sl)
  | 0, _, _ => none
  | n + 1, v2, d =>
    if (d 34 28) ≤ v2 then
      (some ((), d))
    else
      (if inb v2 192 then
      bp (Mo_firstOf d (d 46 (ix v2))) fun r6 =>
      bnd r6 fun v3_7 =>
      Mo_tree_31 (Mo_tree_12 n) FU v2 v3_7 d
      else none)
def Mo_tree (d : Sl) (a1 : Int32) : Option (Unit × Sl) :=
  bnd (wr d 34 28 (0 : Int32)) fun d8 =>
  bd (Mo_adds d8 a1) fun r9 d10 =>
  bnd (0 : Int32) fun v2_11 =>
  Mo_tree_12 FU v2_11 d10
theorem y_X6_tree : YV yX6_tree cX6_tree 4 none 1 := ⟨q1646, q107, q1647, q149, by decide +kernel, by decide +kernel, by decide +kernel, by decide +kernel⟩
theorem r_Mo_tree_31 {C : Cxt} {G : Geo} {M : Mem} {k : Nat} (hC : Cx C cX6_tree 4 "FrameHeirsModel" none rm_X6_tree G) (hk : LMo G k) (k12 : Int32 → Sl → Option (Unit × Sl)) (h12 : ∀ (v2 : Int32) (d : Sl), Rz C 4 G (setS M k) (poM avV (setS M k)) 12 [(0, .inr (k, 34)), (2, .inl (.int v2))] [] d (k12 v2 d)) : ∀ (n : Nat) (v2 : Int32) (v3 : Int32) (d : Sl), Rz C 4 G (setS M k) (poM avV (setS M k)) 31 [(0, .inr (k, 34)), (2, .inl (.int v2)), (3, .inl (.int v3))] [] d (Mo_tree_31 k12 n v2 v3 d) := by
  intro n
  induction n with
  | zero => intros; exact z_none
  | succ n ih =>
    intro v2 v3 d
    rw [Mo_tree_31]
    refine z_iload_n (pc := 31) hC 3 rfl 2 rfl dX6_tree_31 ?_
    refine z_if_lt (pc := 32) hC 49 rfl dX6_tree_32 ?_ ?_
    · refine z_iinc (pc := 49) (ls1 := fun v => [(2, .inl (.int v)), (0, .inr (k, 34)), (3, .inl (.int v3))]) hC 2 1 (by decide) (1 : Int32) rfl rfl (fun v => rfl) dX6_tree_49 (fun v2_1 => ?_)
      refine z_goto (pc := 52) hC 12 rfl dX6_tree_52 ?_
      exact z_sub [1, 0] rfl (h12 v2_1 d)
    · refine z_aload_n (pc := 35) hC 0 rfl 0 rfl dX6_tree_35 ?_
      refine z_iload_n (pc := 36) hC 3 rfl 2 rfl dX6_tree_36 ?_
      refine z_cvV (pc := 37) (st := []) hC y_X6_adds q1580 [.inl (.int v3)] rfl (hk 34 rfl) rfl rfl (c_X6_adds hC.2.2.2.2.2.2.1 hk) rfl ⟨rfl, rfl, (Nat.le_of_ble_eq_true rfl), (Nat.le_of_ble_eq_true rfl)⟩ (Nat.le_of_ble_eq_true rfl) dX6_tree_37 (fun r2 d3 => ?_)
      refine z_aload_n (pc := 40) hC 0 rfl 0 rfl dX6_tree_40 ?_
      refine z_iload_n (pc := 41) hC 3 rfl 2 rfl dX6_tree_41 ?_
      refine z_piV (pc := 42) (st := []) hC y_X6_nextOf q1588 [.inl (.int v3)] rfl (hk 34 rfl) rfl rfl (c_X6_nextOf hC.2.2.2.2.2.2.1 hk) rfl ⟨rfl, rfl, (Nat.le_of_ble_eq_true rfl), (Nat.le_of_ble_eq_true rfl)⟩ (Nat.le_of_ble_eq_true rfl) dX6_tree_42 (fun r4 => ?_)
      refine z_istore_n (pc := 45) (ls1 := fun v => [(3, .inl (.int v)), (0, .inr (k, 34)), (2, .inl (.int v2))]) hC 3 rfl (by decide) (fun v => rfl) dX6_tree_45 (fun v3_5 => ?_)
      refine z_goto (pc := 46) hC 31 rfl dX6_tree_46 ?_
      exact z_sub [1, 2, 0] rfl (ih v2 v3_5 d3)
theorem r_Mo_tree_12 {C : Cxt} {G : Geo} {M : Mem} {k : Nat} (hC : Cx C cX6_tree 4 "FrameHeirsModel" none rm_X6_tree G) (hk : LMo G k) : ∀ (n : Nat) (v2 : Int32) (d : Sl), Rz C 4 G (setS M k) (poM avV (setS M k)) 12 [(0, .inr (k, 34)), (2, .inl (.int v2))] [] d (Mo_tree_12 n v2 d) := by
  intro n
  induction n with
  | zero => intros; exact z_none
  | succ n ih =>
    intro v2 d
    rw [Mo_tree_12]
    refine z_iload_n (pc := 12) hC 2 rfl 1 rfl dX6_tree_12 ?_
    refine z_aload_n (pc := 13) hC 0 rfl 0 rfl dX6_tree_13 ?_
    refine zs_geti (pc := 14) hC (hk 34 rfl) f_34_28 q1298 dX6_tree_14 ?_
    refine z_icmp_ge (pc := 17) hC 55 rfl dX6_tree_17 ?_ ?_
    · exact z_vret (pc := 55) hC rfl dX6_tree_55
    · refine z_aload_n (pc := 20) hC 0 rfl 0 rfl dX6_tree_20 ?_
      refine z_aload_n (pc := 21) hC 0 rfl 0 rfl dX6_tree_21 ?_
      refine z_getc (pc := 22) hC (hk 34 rfl) f_34_27 q1297 dX6_tree_22 ?_
      refine z_iload_n (pc := 25) hC 2 rfl 1 rfl dX6_tree_25 ?_
      refine zs_iald (pc := 26) hC (hk 46 rfl) rfl dX6_tree_26 ?_
      refine z_piV (pc := 27) (st := []) hC y_X6_firstOf q1584 [.inl (.int (d 46 (ix v2)))] rfl (hk 34 rfl) rfl rfl (c_X6_firstOf hC.2.2.2.2.2.2.1 hk) rfl ⟨rfl, rfl, (Nat.le_of_ble_eq_true rfl), (Nat.le_of_ble_eq_true rfl)⟩ (Nat.le_of_ble_eq_true rfl) dX6_tree_27 (fun r6 => ?_)
      refine z_istore_n (pc := 30) (ls1 := fun v => [(3, .inl (.int v)), (0, .inr (k, 34)), (2, .inl (.int v2))]) hC 3 rfl (by decide) (fun v => rfl) dX6_tree_30 (fun v3_7 => ?_)
      exact z_sub [1, 2, 0] rfl (r_Mo_tree_31 hC hk _ ih FU v2 v3_7 d)
theorem r_Mo_tree {C : Cxt} {G : Geo} {M : Mem} {k : Nat} (hC : Cx C cX6_tree 4 "FrameHeirsModel" none rm_X6_tree G) (hk : LMo G k) (d : Sl) (a1 : Int32) : Rz C 4 G (setS M k) (poM avV (setS M k)) 0 [(0, .inr (k, 34)), (1, .inl (.int a1))] [] d (Mo_tree d a1) := by
  unfold Mo_tree
  refine z_aload_n (pc := 0) hC 0 rfl 0 rfl dX6_tree_0 ?_
  refine z_iconst (pc := 1) hC (0 : Int32) rfl dX6_tree_1 ?_
  refine zs_puti (pc := 2) hC (hk 34 rfl) f_34_28 q1298 dX6_tree_2 (fun d8 => ?_)
  refine z_aload_n (pc := 5) hC 0 rfl 0 rfl dX6_tree_5 ?_
  refine z_iload_n (pc := 6) hC 1 rfl 1 rfl dX6_tree_6 ?_
  refine z_cvV (pc := 7) (st := []) hC y_X6_adds q1580 [.inl (.int a1)] rfl (hk 34 rfl) rfl rfl (c_X6_adds hC.2.2.2.2.2.2.1 hk) rfl ⟨rfl, rfl, (Nat.le_of_ble_eq_true rfl), (Nat.le_of_ble_eq_true rfl)⟩ (Nat.le_of_ble_eq_true rfl) dX6_tree_7 (fun r9 d10 => ?_)
  refine z_iconst (pc := 10) hC (0 : Int32) rfl dX6_tree_10 ?_
  refine z_istore_n (pc := 11) (ls1 := fun v => [(2, .inl (.int v)), (0, .inr (k, 34)), (1, .inl (.int a1))]) hC 2 rfl (by decide) (fun v => rfl) dX6_tree_11 (fun v2_11 => ?_)
  exact z_sub [1, 0] rfl (r_Mo_tree_12 hC hk FU v2_11 d10)
theorem c_X6_tree {G : Geo} {M : Mem} {k : Nat} (hG : GOk G) (hk : LMo G k) {d : Sl} {a1 : Int32} (l : Launch) (r : Unit) (d1 : Sl) (h : Mo_tree d a1 = some (r, d1)) : Mt l yX6_tree cX6_tree 4 none rm_X6_tree G [.inr (k, 34), .inl (.int a1)] ((setS M k) d) (avV r) ((setS M k) d1) :=
  mt_of (mem := (setS M k)) (po := poM avV (setS M k)) (x0 := d) (t := (r, d1)) rfl hG [.inr (k, 34), .inl (.int a1)] (Nat.le_of_ble_eq_true rfl) rfl (fun C hC => r_Mo_tree hC hk d a1) h
-- FrameHeirsModel.goes(I)V
abbrev rm_X6_goes : Room := { frames := 3, cells := 0, slots := 0, locals := 66 }
theorem dX6_goes_0 : decode cX6_goes 0 = .ok (.aload_n 0, 1) := by decide +kernel
theorem dX6_goes_1 : decode cX6_goes 1 = .ok (.iload_n 1, 1) := by decide +kernel
theorem dX6_goes_2 : decode cX6_goes 2 = .ok (.invokevirtual 234, 3) := by decide +kernel
theorem dX6_goes_5 : decode cX6_goes 5 = .ok (.aload_n 0, 1) := by decide +kernel
theorem dX6_goes_6 : decode cX6_goes 6 = .ok (.iload_n 1, 1) := by decide +kernel
theorem dX6_goes_7 : decode cX6_goes 7 = .ok (.invokevirtual 237, 3) := by decide +kernel
theorem dX6_goes_10 : decode cX6_goes 10 = .ok (.iconst 0, 1) := by decide +kernel
theorem dX6_goes_11 : decode cX6_goes 11 = .ok (.istore_n 2, 1) := by decide +kernel
theorem dX6_goes_12 : decode cX6_goes 12 = .ok (.iload_n 2, 1) := by decide +kernel
theorem dX6_goes_13 : decode cX6_goes 13 = .ok (.aload_n 0, 1) := by decide +kernel
theorem dX6_goes_14 : decode cX6_goes 14 = .ok (.getfield 222, 3) := by decide +kernel
theorem dX6_goes_17 : decode cX6_goes 17 = .ok (.if_icmp .ge 22, 3) := by decide +kernel
theorem dX6_goes_20 : decode cX6_goes 20 = .ok (.aload_n 0, 1) := by decide +kernel
theorem dX6_goes_21 : decode cX6_goes 21 = .ok (.iconst 0, 1) := by decide +kernel
theorem dX6_goes_22 : decode cX6_goes 22 = .ok (.aload_n 0, 1) := by decide +kernel
theorem dX6_goes_23 : decode cX6_goes 23 = .ok (.getfield 49, 3) := by decide +kernel
theorem dX6_goes_26 : decode cX6_goes 26 = .ok (.iload_n 2, 1) := by decide +kernel
theorem dX6_goes_27 : decode cX6_goes 27 = .ok (.iaload, 1) := by decide +kernel
theorem dX6_goes_28 : decode cX6_goes 28 = .ok (.iadd, 1) := by decide +kernel
theorem dX6_goes_29 : decode cX6_goes 29 = .ok (.iconst 0, 1) := by decide +kernel
theorem dX6_goes_30 : decode cX6_goes 30 = .ok (.invokevirtual 122, 3) := by decide +kernel
theorem dX6_goes_33 : decode cX6_goes 33 = .ok (.iinc 2 1, 3) := by decide +kernel
theorem dX6_goes_36 : decode cX6_goes 36 = .ok (.goto (-24), 3) := by decide +kernel
theorem dX6_goes_39 : decode cX6_goes 39 = .ok (.return_, 1) := by decide +kernel
def Mo_goes_12 : Nat → Int32 → Sl → Option (Unit × Sl)
  | 0, _, _ => none
  | n + 1, v2, d =>
    if (d 34 28) ≤ v2 then
      (some ((), d))
    else
      (if inb v2 192 then
      bd (Mo_lay d ((0 : Int32) + (d 46 (ix v2))) (0 : Int32)) fun r1 d2 =>
      bnd (v2 + (1 : Int32)) fun v2_3 =>
      Mo_goes_12 n v2_3 d2
      else none)
def Mo_goes (d : Sl) (a1 : Int32) : Option (Unit × Sl) :=
  bd (Mo_leaves d a1) fun r4 d5 =>
  bd (Mo_tree d5 a1) fun r6 d7 =>
  bnd (0 : Int32) fun v2_8 =>
  Mo_goes_12 FU v2_8 d7
theorem y_X6_goes : YV yX6_goes cX6_goes 3 none 1 := ⟨q1638, q105, q1639, q149, by decide +kernel, by decide +kernel, by decide +kernel, by decide +kernel⟩
theorem r_Mo_goes_12 {C : Cxt} {G : Geo} {M : Mem} {k : Nat} (hC : Cx C cX6_goes 3 "FrameHeirsModel" none rm_X6_goes G) (hk : LMo G k) : ∀ (n : Nat) (v2 : Int32) (d : Sl), Rz C 3 G (setS M k) (poM avV (setS M k)) 12 [(0, .inr (k, 34)), (2, .inl (.int v2))] [] d (Mo_goes_12 n v2 d) := by
  intro n
  induction n with
  | zero => intros; exact z_none
  | succ n ih =>
    intro v2 d
    rw [Mo_goes_12]
    refine z_iload_n (pc := 12) hC 2 rfl 1 rfl dX6_goes_12 ?_
    refine z_aload_n (pc := 13) hC 0 rfl 0 rfl dX6_goes_13 ?_
    refine zs_geti (pc := 14) hC (hk 34 rfl) f_34_28 q1298 dX6_goes_14 ?_
    refine z_icmp_ge (pc := 17) hC 39 rfl dX6_goes_17 ?_ ?_
    · exact z_vret (pc := 39) hC rfl dX6_goes_39
    · refine z_aload_n (pc := 20) hC 0 rfl 0 rfl dX6_goes_20 ?_
      refine z_iconst (pc := 21) hC (0 : Int32) rfl dX6_goes_21 ?_
      refine z_aload_n (pc := 22) hC 0 rfl 0 rfl dX6_goes_22 ?_
      refine z_getc (pc := 23) hC (hk 34 rfl) f_34_27 q1297 dX6_goes_23 ?_
      refine z_iload_n (pc := 26) hC 2 rfl 1 rfl dX6_goes_26 ?_
      refine zs_iald (pc := 27) hC (hk 46 rfl) rfl dX6_goes_27 ?_
      refine z_iadd (pc := 28) hC dX6_goes_28 ?_
      refine z_iconst (pc := 29) hC (0 : Int32) rfl dX6_goes_29 ?_
      refine z_cvV (pc := 30) (st := []) hC y_X6_lay q1246 [.inl (.int ((0 : Int32) + (d 46 (ix v2)))), .inl (.int (0 : Int32))] rfl (hk 34 rfl) rfl rfl (c_X6_lay hC.2.2.2.2.2.2.1 hk) rfl ⟨rfl, rfl, (Nat.le_of_ble_eq_true rfl), (Nat.le_of_ble_eq_true rfl)⟩ (Nat.le_of_ble_eq_true rfl) dX6_goes_30 (fun r1 d2 => ?_)
      refine z_iinc (pc := 33) (ls1 := fun v => [(2, .inl (.int v)), (0, .inr (k, 34))]) hC 2 1 (by decide) (1 : Int32) rfl rfl (fun v => rfl) dX6_goes_33 (fun v2_3 => ?_)
      refine z_goto (pc := 36) hC 12 rfl dX6_goes_36 ?_
      exact z_sub [1, 0] rfl (ih v2_3 d2)
theorem r_Mo_goes {C : Cxt} {G : Geo} {M : Mem} {k : Nat} (hC : Cx C cX6_goes 3 "FrameHeirsModel" none rm_X6_goes G) (hk : LMo G k) (d : Sl) (a1 : Int32) : Rz C 3 G (setS M k) (poM avV (setS M k)) 0 [(0, .inr (k, 34)), (1, .inl (.int a1))] [] d (Mo_goes d a1) := by
  unfold Mo_goes
  refine z_aload_n (pc := 0) hC 0 rfl 0 rfl dX6_goes_0 ?_
  refine z_iload_n (pc := 1) hC 1 rfl 1 rfl dX6_goes_1 ?_
  refine z_cvV (pc := 2) (st := []) hC y_X6_leaves q1640 [.inl (.int a1)] rfl (hk 34 rfl) rfl rfl (c_X6_leaves hC.2.2.2.2.2.2.1 hk) rfl ⟨rfl, rfl, (Nat.le_of_ble_eq_true rfl), (Nat.le_of_ble_eq_true rfl)⟩ (Nat.le_of_ble_eq_true rfl) dX6_goes_2 (fun r4 d5 => ?_)
  refine z_aload_n (pc := 5) hC 0 rfl 0 rfl dX6_goes_5 ?_
  refine z_iload_n (pc := 6) hC 1 rfl 1 rfl dX6_goes_6 ?_
  refine z_cvV (pc := 7) (st := []) hC y_X6_tree q1644 [.inl (.int a1)] rfl (hk 34 rfl) rfl rfl (c_X6_tree hC.2.2.2.2.2.2.1 hk) rfl ⟨rfl, rfl, (Nat.le_of_ble_eq_true rfl), (Nat.le_of_ble_eq_true rfl)⟩ (Nat.le_of_ble_eq_true rfl) dX6_goes_7 (fun r6 d7 => ?_)
  refine z_iconst (pc := 10) hC (0 : Int32) rfl dX6_goes_10 ?_
  refine z_istore_n (pc := 11) (ls1 := fun v => [(2, .inl (.int v)), (0, .inr (k, 34)), (1, .inl (.int a1))]) hC 2 rfl (by decide) (fun v => rfl) dX6_goes_11 (fun v2_8 => ?_)
  exact z_sub [1, 0] rfl (r_Mo_goes_12 hC hk FU v2_8 d7)
theorem c_X6_goes {G : Geo} {M : Mem} {k : Nat} (hG : GOk G) (hk : LMo G k) {d : Sl} {a1 : Int32} (l : Launch) (r : Unit) (d1 : Sl) (h : Mo_goes d a1 = some (r, d1)) : Mt l yX6_goes cX6_goes 3 none rm_X6_goes G [.inr (k, 34), .inl (.int a1)] ((setS M k) d) (avV r) ((setS M k) d1) :=
  mt_of (mem := (setS M k)) (po := poM avV (setS M k)) (x0 := d) (t := (r, d1)) rfl hG [.inr (k, 34), .inl (.int a1)] (Nat.le_of_ble_eq_true rfl) rfl (fun C hC => r_Mo_goes hC hk d a1) h
-- FrameHeirsModel.halves(I)V
abbrev rm_X6_halves : Room := { frames := 3, cells := 0, slots := 0, locals := 72 }
theorem dX6_halves_0 : decode cX6_halves 0 = .ok (.aload_n 0, 1) := by decide +kernel
theorem dX6_halves_1 : decode cX6_halves 1 = .ok (.iload_n 1, 1) := by decide +kernel
theorem dX6_halves_2 : decode cX6_halves 2 = .ok (.invokevirtual 196, 3) := by decide +kernel
theorem dX6_halves_5 : decode cX6_halves 5 = .ok (.iconst 1, 1) := by decide +kernel
theorem dX6_halves_6 : decode cX6_halves 6 = .ok (.isub, 1) := by decide +kernel
theorem dX6_halves_7 : decode cX6_halves 7 = .ok (.istore_n 2, 1) := by decide +kernel
theorem dX6_halves_8 : decode cX6_halves 8 = .ok (.iload_n 1, 1) := by decide +kernel
theorem dX6_halves_9 : decode cX6_halves 9 = .ok (.iconst 1, 1) := by decide +kernel
theorem dX6_halves_10 : decode cX6_halves 10 = .ok (.iload_n 2, 1) := by decide +kernel
theorem dX6_halves_11 : decode cX6_halves 11 = .ok (.ishl, 1) := by decide +kernel
theorem dX6_halves_12 : decode cX6_halves 12 = .ok (.iadd, 1) := by decide +kernel
theorem dX6_halves_13 : decode cX6_halves 13 = .ok (.istore_n 3, 1) := by decide +kernel
theorem dX6_halves_14 : decode cX6_halves 14 = .ok (.aload_n 0, 1) := by decide +kernel
theorem dX6_halves_15 : decode cX6_halves 15 = .ok (.iload_n 1, 1) := by decide +kernel
theorem dX6_halves_16 : decode cX6_halves 16 = .ok (.invokevirtual 210, 3) := by decide +kernel
theorem dX6_halves_19 : decode cX6_halves 19 = .ok (.istore 4, 2) := by decide +kernel
theorem dX6_halves_21 : decode cX6_halves 21 = .ok (.aload_n 0, 1) := by decide +kernel
theorem dX6_halves_22 : decode cX6_halves 22 = .ok (.iload_n 1, 1) := by decide +kernel
theorem dX6_halves_23 : decode cX6_halves 23 = .ok (.invokevirtual 231, 3) := by decide +kernel
theorem dX6_halves_26 : decode cX6_halves 26 = .ok (.istore 5, 2) := by decide +kernel
theorem dX6_halves_28 : decode cX6_halves 28 = .ok (.aload_n 0, 1) := by decide +kernel
theorem dX6_halves_29 : decode cX6_halves 29 = .ok (.iload_n 1, 1) := by decide +kernel
theorem dX6_halves_30 : decode cX6_halves 30 = .ok (.invokevirtual 228, 3) := by decide +kernel
theorem dX6_halves_33 : decode cX6_halves 33 = .ok (.istore 6, 2) := by decide +kernel
theorem dX6_halves_35 : decode cX6_halves 35 = .ok (.aload_n 0, 1) := by decide +kernel
theorem dX6_halves_36 : decode cX6_halves 36 = .ok (.sipush 1152, 3) := by decide +kernel
theorem dX6_halves_39 : decode cX6_halves 39 = .ok (.iload_n 1, 1) := by decide +kernel
theorem dX6_halves_40 : decode cX6_halves 40 = .ok (.iadd, 1) := by decide +kernel
theorem dX6_halves_41 : decode cX6_halves 41 = .ok (.invokevirtual 189, 3) := by decide +kernel
theorem dX6_halves_44 : decode cX6_halves 44 = .ok (.istore 7, 2) := by decide +kernel
theorem dX6_halves_46 : decode cX6_halves 46 = .ok (.aload_n 0, 1) := by decide +kernel
theorem dX6_halves_47 : decode cX6_halves 47 = .ok (.sipush 1728, 3) := by decide +kernel
theorem dX6_halves_50 : decode cX6_halves 50 = .ok (.iload_n 1, 1) := by decide +kernel
theorem dX6_halves_51 : decode cX6_halves 51 = .ok (.iadd, 1) := by decide +kernel
theorem dX6_halves_52 : decode cX6_halves 52 = .ok (.invokevirtual 189, 3) := by decide +kernel
theorem dX6_halves_55 : decode cX6_halves 55 = .ok (.istore 8, 2) := by decide +kernel
theorem dX6_halves_57 : decode cX6_halves 57 = .ok (.aload_n 0, 1) := by decide +kernel
theorem dX6_halves_58 : decode cX6_halves 58 = .ok (.iload_n 3, 1) := by decide +kernel
theorem dX6_halves_59 : decode cX6_halves 59 = .ok (.iload_n 2, 1) := by decide +kernel
theorem dX6_halves_60 : decode cX6_halves 60 = .ok (.aload_n 0, 1) := by decide +kernel
theorem dX6_halves_61 : decode cX6_halves 61 = .ok (.sipush 192, 3) := by decide +kernel
theorem dX6_halves_64 : decode cX6_halves 64 = .ok (.iload_n 1, 1) := by decide +kernel
theorem dX6_halves_65 : decode cX6_halves 65 = .ok (.iadd, 1) := by decide +kernel
theorem dX6_halves_66 : decode cX6_halves 66 = .ok (.invokevirtual 189, 3) := by decide +kernel
theorem dX6_halves_69 : decode cX6_halves 69 = .ok (.iconst 1, 1) := by decide +kernel
theorem dX6_halves_70 : decode cX6_halves 70 = .ok (.iload_n 2, 1) := by decide +kernel
theorem dX6_halves_71 : decode cX6_halves 71 = .ok (.ishl, 1) := by decide +kernel
theorem dX6_halves_72 : decode cX6_halves 72 = .ok (.iadd, 1) := by decide +kernel
theorem dX6_halves_73 : decode cX6_halves 73 = .ok (.aload_n 0, 1) := by decide +kernel
theorem dX6_halves_74 : decode cX6_halves 74 = .ok (.sipush 384, 3) := by decide +kernel
theorem dX6_halves_77 : decode cX6_halves 77 = .ok (.iload_n 1, 1) := by decide +kernel
theorem dX6_halves_78 : decode cX6_halves 78 = .ok (.iadd, 1) := by decide +kernel
theorem dX6_halves_79 : decode cX6_halves 79 = .ok (.invokevirtual 189, 3) := by decide +kernel
theorem dX6_halves_82 : decode cX6_halves 82 = .ok (.iconst (-1), 1) := by decide +kernel
theorem dX6_halves_83 : decode cX6_halves 83 = .ok (.aload_n 0, 1) := by decide +kernel
theorem dX6_halves_84 : decode cX6_halves 84 = .ok (.sipush 1536, 3) := by decide +kernel
theorem dX6_halves_87 : decode cX6_halves 87 = .ok (.iload_n 1, 1) := by decide +kernel
theorem dX6_halves_88 : decode cX6_halves 88 = .ok (.iadd, 1) := by decide +kernel
theorem dX6_halves_89 : decode cX6_halves 89 = .ok (.invokevirtual 189, 3) := by decide +kernel
theorem dX6_halves_92 : decode cX6_halves 92 = .ok (.invokevirtual 130, 3) := by decide +kernel
theorem dX6_halves_95 : decode cX6_halves 95 = .ok (.aload_n 0, 1) := by decide +kernel
theorem dX6_halves_96 : decode cX6_halves 96 = .ok (.sipush 1728, 3) := by decide +kernel
theorem dX6_halves_99 : decode cX6_halves 99 = .ok (.iload_n 3, 1) := by decide +kernel
theorem dX6_halves_100 : decode cX6_halves 100 = .ok (.iadd, 1) := by decide +kernel
theorem dX6_halves_101 : decode cX6_halves 101 = .ok (.iload 8, 2) := by decide +kernel
theorem dX6_halves_103 : decode cX6_halves 103 = .ok (.invokevirtual 122, 3) := by decide +kernel
theorem dX6_halves_106 : decode cX6_halves 106 = .ok (.aload_n 0, 1) := by decide +kernel
theorem dX6_halves_107 : decode cX6_halves 107 = .ok (.iconst 0, 1) := by decide +kernel
theorem dX6_halves_108 : decode cX6_halves 108 = .ok (.iload_n 1, 1) := by decide +kernel
theorem dX6_halves_109 : decode cX6_halves 109 = .ok (.iadd, 1) := by decide +kernel
theorem dX6_halves_110 : decode cX6_halves 110 = .ok (.iload_n 2, 1) := by decide +kernel
theorem dX6_halves_111 : decode cX6_halves 111 = .ok (.iconst 1, 1) := by decide +kernel
theorem dX6_halves_112 : decode cX6_halves 112 = .ok (.iadd, 1) := by decide +kernel
theorem dX6_halves_113 : decode cX6_halves 113 = .ok (.invokevirtual 122, 3) := by decide +kernel
theorem dX6_halves_116 : decode cX6_halves 116 = .ok (.aload_n 0, 1) := by decide +kernel
theorem dX6_halves_117 : decode cX6_halves 117 = .ok (.sipush 768, 3) := by decide +kernel
theorem dX6_halves_120 : decode cX6_halves 120 = .ok (.iload_n 1, 1) := by decide +kernel
theorem dX6_halves_121 : decode cX6_halves 121 = .ok (.iadd, 1) := by decide +kernel
theorem dX6_halves_122 : decode cX6_halves 122 = .ok (.iconst 0, 1) := by decide +kernel
theorem dX6_halves_123 : decode cX6_halves 123 = .ok (.invokevirtual 122, 3) := by decide +kernel
theorem dX6_halves_126 : decode cX6_halves 126 = .ok (.aload_n 0, 1) := by decide +kernel
theorem dX6_halves_127 : decode cX6_halves 127 = .ok (.sipush 960, 3) := by decide +kernel
theorem dX6_halves_130 : decode cX6_halves 130 = .ok (.iload_n 1, 1) := by decide +kernel
theorem dX6_halves_131 : decode cX6_halves 131 = .ok (.iadd, 1) := by decide +kernel
theorem dX6_halves_132 : decode cX6_halves 132 = .ok (.iconst 0, 1) := by decide +kernel
theorem dX6_halves_133 : decode cX6_halves 133 = .ok (.invokevirtual 122, 3) := by decide +kernel
theorem dX6_halves_136 : decode cX6_halves 136 = .ok (.aload_n 0, 1) := by decide +kernel
theorem dX6_halves_137 : decode cX6_halves 137 = .ok (.sipush 1152, 3) := by decide +kernel
theorem dX6_halves_140 : decode cX6_halves 140 = .ok (.iload_n 1, 1) := by decide +kernel
theorem dX6_halves_141 : decode cX6_halves 141 = .ok (.iadd, 1) := by decide +kernel
theorem dX6_halves_142 : decode cX6_halves 142 = .ok (.iload 7, 2) := by decide +kernel
theorem dX6_halves_144 : decode cX6_halves 144 = .ok (.invokevirtual 122, 3) := by decide +kernel
theorem dX6_halves_147 : decode cX6_halves 147 = .ok (.aload_n 0, 1) := by decide +kernel
theorem dX6_halves_148 : decode cX6_halves 148 = .ok (.sipush 576, 3) := by decide +kernel
theorem dX6_halves_151 : decode cX6_halves 151 = .ok (.iload_n 3, 1) := by decide +kernel
theorem dX6_halves_152 : decode cX6_halves 152 = .ok (.iadd, 1) := by decide +kernel
theorem dX6_halves_153 : decode cX6_halves 153 = .ok (.iload 4, 2) := by decide +kernel
theorem dX6_halves_155 : decode cX6_halves 155 = .ok (.iconst 1, 1) := by decide +kernel
theorem dX6_halves_156 : decode cX6_halves 156 = .ok (.iadd, 1) := by decide +kernel
theorem dX6_halves_157 : decode cX6_halves 157 = .ok (.invokevirtual 122, 3) := by decide +kernel
theorem dX6_halves_160 : decode cX6_halves 160 = .ok (.iload 4, 2) := by decide +kernel
theorem dX6_halves_162 : decode cX6_halves 162 = .ok (.ifCond .lt 20, 3) := by decide +kernel
theorem dX6_halves_165 : decode cX6_halves 165 = .ok (.aload_n 0, 1) := by decide +kernel
theorem dX6_halves_166 : decode cX6_halves 166 = .ok (.iload_n 1, 1) := by decide +kernel
theorem dX6_halves_167 : decode cX6_halves 167 = .ok (.iload_n 3, 1) := by decide +kernel
theorem dX6_halves_168 : decode cX6_halves 168 = .ok (.iload 4, 2) := by decide +kernel
theorem dX6_halves_170 : decode cX6_halves 170 = .ok (.invokevirtual 206, 3) := by decide +kernel
theorem dX6_halves_173 : decode cX6_halves 173 = .ok (.aload_n 0, 1) := by decide +kernel
theorem dX6_halves_174 : decode cX6_halves 174 = .ok (.iload_n 3, 1) := by decide +kernel
theorem dX6_halves_175 : decode cX6_halves 175 = .ok (.iload 5, 2) := by decide +kernel
theorem dX6_halves_177 : decode cX6_halves 177 = .ok (.iload 4, 2) := by decide +kernel
theorem dX6_halves_179 : decode cX6_halves 179 = .ok (.invokevirtual 206, 3) := by decide +kernel
theorem dX6_halves_182 : decode cX6_halves 182 = .ok (.iload 6, 2) := by decide +kernel
theorem dX6_halves_184 : decode cX6_halves 184 = .ok (.ifCond .lt 94, 3) := by decide +kernel
theorem dX6_halves_187 : decode cX6_halves 187 = .ok (.aload_n 0, 1) := by decide +kernel
theorem dX6_halves_188 : decode cX6_halves 188 = .ok (.iload 6, 2) := by decide +kernel
theorem dX6_halves_190 : decode cX6_halves 190 = .ok (.invokevirtual 231, 3) := by decide +kernel
theorem dX6_halves_193 : decode cX6_halves 193 = .ok (.istore 9, 2) := by decide +kernel
theorem dX6_halves_195 : decode cX6_halves 195 = .ok (.aload_n 0, 1) := by decide +kernel
theorem dX6_halves_196 : decode cX6_halves 196 = .ok (.sipush 192, 3) := by decide +kernel
theorem dX6_halves_199 : decode cX6_halves 199 = .ok (.iload 6, 2) := by decide +kernel
theorem dX6_halves_201 : decode cX6_halves 201 = .ok (.iadd, 1) := by decide +kernel
theorem dX6_halves_202 : decode cX6_halves 202 = .ok (.invokevirtual 189, 3) := by decide +kernel
theorem dX6_halves_205 : decode cX6_halves 205 = .ok (.aload_n 0, 1) := by decide +kernel
theorem dX6_halves_206 : decode cX6_halves 206 = .ok (.sipush 192, 3) := by decide +kernel
theorem dX6_halves_209 : decode cX6_halves 209 = .ok (.iload_n 3, 1) := by decide +kernel
theorem dX6_halves_210 : decode cX6_halves 210 = .ok (.iadd, 1) := by decide +kernel
theorem dX6_halves_211 : decode cX6_halves 211 = .ok (.invokevirtual 189, 3) := by decide +kernel
theorem dX6_halves_214 : decode cX6_halves 214 = .ok (.if_icmp .lt 7, 3) := by decide +kernel
theorem dX6_halves_217 : decode cX6_halves 217 = .ok (.iload_n 3, 1) := by decide +kernel
theorem dX6_halves_218 : decode cX6_halves 218 = .ok (.goto 4, 3) := by decide +kernel
theorem dX6_halves_221 : decode cX6_halves 221 = .ok (.iload_n 1, 1) := by decide +kernel
theorem dX6_halves_222 : decode cX6_halves 222 = .ok (.istore 10, 2) := by decide +kernel
theorem dX6_halves_224 : decode cX6_halves 224 = .ok (.aload_n 0, 1) := by decide +kernel
theorem dX6_halves_225 : decode cX6_halves 225 = .ok (.sipush 576, 3) := by decide +kernel
theorem dX6_halves_228 : decode cX6_halves 228 = .ok (.iload 6, 2) := by decide +kernel
theorem dX6_halves_230 : decode cX6_halves 230 = .ok (.iadd, 1) := by decide +kernel
theorem dX6_halves_231 : decode cX6_halves 231 = .ok (.iload 10, 2) := by decide +kernel
theorem dX6_halves_233 : decode cX6_halves 233 = .ok (.iconst 1, 1) := by decide +kernel
theorem dX6_halves_234 : decode cX6_halves 234 = .ok (.iadd, 1) := by decide +kernel
theorem dX6_halves_235 : decode cX6_halves 235 = .ok (.invokevirtual 122, 3) := by decide +kernel
theorem dX6_halves_238 : decode cX6_halves 238 = .ok (.aload_n 0, 1) := by decide +kernel
theorem dX6_halves_239 : decode cX6_halves 239 = .ok (.sipush 960, 3) := by decide +kernel
theorem dX6_halves_242 : decode cX6_halves 242 = .ok (.iload 10, 2) := by decide +kernel
theorem dX6_halves_244 : decode cX6_halves 244 = .ok (.iadd, 1) := by decide +kernel
theorem dX6_halves_245 : decode cX6_halves 245 = .ok (.invokevirtual 189, 3) := by decide +kernel
theorem dX6_halves_248 : decode cX6_halves 248 = .ok (.iconst 1, 1) := by decide +kernel
theorem dX6_halves_249 : decode cX6_halves 249 = .ok (.isub, 1) := by decide +kernel
theorem dX6_halves_250 : decode cX6_halves 250 = .ok (.istore 11, 2) := by decide +kernel
theorem dX6_halves_252 : decode cX6_halves 252 = .ok (.aload_n 0, 1) := by decide +kernel
theorem dX6_halves_253 : decode cX6_halves 253 = .ok (.iload 11, 2) := by decide +kernel
theorem dX6_halves_255 : decode cX6_halves 255 = .ok (.iload 6, 2) := by decide +kernel
theorem dX6_halves_257 : decode cX6_halves 257 = .ok (.iload 10, 2) := by decide +kernel
theorem dX6_halves_259 : decode cX6_halves 259 = .ok (.invokevirtual 206, 3) := by decide +kernel
theorem dX6_halves_262 : decode cX6_halves 262 = .ok (.aload_n 0, 1) := by decide +kernel
theorem dX6_halves_263 : decode cX6_halves 263 = .ok (.iload 6, 2) := by decide +kernel
theorem dX6_halves_265 : decode cX6_halves 265 = .ok (.iconst (-1), 1) := by decide +kernel
theorem dX6_halves_266 : decode cX6_halves 266 = .ok (.iload 10, 2) := by decide +kernel
theorem dX6_halves_268 : decode cX6_halves 268 = .ok (.invokevirtual 206, 3) := by decide +kernel
theorem dX6_halves_271 : decode cX6_halves 271 = .ok (.iload 9, 2) := by decide +kernel
theorem dX6_halves_273 : decode cX6_halves 273 = .ok (.istore 6, 2) := by decide +kernel
theorem dX6_halves_275 : decode cX6_halves 275 = .ok (.goto (-93), 3) := by decide +kernel
theorem dX6_halves_278 : decode cX6_halves 278 = .ok (.aload_n 0, 1) := by decide +kernel
theorem dX6_halves_279 : decode cX6_halves 279 = .ok (.sipush 2198, 3) := by decide +kernel
theorem dX6_halves_282 : decode cX6_halves 282 = .ok (.invokevirtual 240, 3) := by decide +kernel
theorem dX6_halves_285 : decode cX6_halves 285 = .ok (.return_, 1) := by decide +kernel
def Mo_halves_222 (k182 : Int32 → Int32 → Int32 → Sl → Option (Unit × Sl)) (v1 : Int32) (v3 : Int32) (v6 : Int32) (v9 : Int32) (s0 : Int32) (d : Sl) : Option (Unit × Sl) :=
  bnd s0 fun v10_1 =>
  bd (Mo_lay d ((576 : Int32) + v6) (v10_1 + (1 : Int32))) fun r2 d3 =>
  bp (Mo_of d3 ((960 : Int32) + v10_1)) fun r4 =>
  bnd (r4 - (1 : Int32)) fun v11_5 =>
  bd (Mo_linked d3 v11_5 v6 v10_1) fun r6 d7 =>
  bd (Mo_linked d7 v6 (-1 : Int32) v10_1) fun r8 d9 =>
  bnd v9 fun v6_10 =>
  k182 v1 v3 v6_10 d9
def Mo_halves_182 : Nat → Int32 → Int32 → Int32 → Sl → Option (Unit × Sl)
  | 0, _, _, _, _ => none
  | n + 1, v1, v3, v6, d =>
    if v6 < 0 then
      (bd (Mo_more d (2198 : Int32)) fun r11 d12 =>
      some ((), d12))
    else
      (bp (Mo_nextOf d v6) fun r13 =>
      bnd r13 fun v9_14 =>
      bp (Mo_of d ((192 : Int32) + v6)) fun r15 =>
      bp (Mo_of d ((192 : Int32) + v3)) fun r16 =>
      if r15 < r16 then
        (Mo_halves_222 (Mo_halves_182 n) v1 v3 v6 v9_14 v1 d)
      else
        (Mo_halves_222 (Mo_halves_182 n) v1 v3 v6 v9_14 v3 d))
def Mo_halves (d : Sl) (a1 : Int32) : Option (Unit × Sl) :=
  bp (Mo_orderOf d a1) fun r17 =>
  bnd (r17 - (1 : Int32)) fun v2_18 =>
  bnd (a1 + ((1 : Int32) <<< (v2_18 &&& 31))) fun v3_19 =>
  bp (Mo_giverOf d a1) fun r20 =>
  bnd r20 fun v4_21 =>
  bp (Mo_nextOf d a1) fun r22 =>
  bnd r22 fun v5_23 =>
  bp (Mo_firstOf d a1) fun r24 =>
  bnd r24 fun v6_25 =>
  bp (Mo_of d ((1152 : Int32) + a1)) fun r26 =>
  bnd r26 fun v7_27 =>
  bp (Mo_of d ((1728 : Int32) + a1)) fun r28 =>
  bnd r28 fun v8_29 =>
  bp (Mo_of d ((192 : Int32) + a1)) fun r30 =>
  bp (Mo_of d ((384 : Int32) + a1)) fun r31 =>
  bp (Mo_of d ((1536 : Int32) + a1)) fun r32 =>
  bd (Mo_comes d v3_19 v2_18 (r30 + ((1 : Int32) <<< (v2_18 &&& 31))) r31 (-1 : Int32) r32) fun r33 d34 =>
  bd (Mo_lay d34 ((1728 : Int32) + v3_19) v8_29) fun r35 d36 =>
  bd (Mo_lay d36 ((0 : Int32) + a1) (v2_18 + (1 : Int32))) fun r37 d38 =>
  bd (Mo_lay d38 ((768 : Int32) + a1) (0 : Int32)) fun r39 d40 =>
  bd (Mo_lay d40 ((960 : Int32) + a1) (0 : Int32)) fun r41 d42 =>
  bd (Mo_lay d42 ((1152 : Int32) + a1) v7_27) fun r43 d44 =>
  bd (Mo_lay d44 ((576 : Int32) + v3_19) (v4_21 + (1 : Int32))) fun r45 d46 =>
  if v4_21 < 0 then
    (Mo_halves_182 FU a1 v3_19 v6_25 d46)
  else
    (bd (Mo_linked d46 a1 v3_19 v4_21) fun r47 d48 =>
    bd (Mo_linked d48 v3_19 v5_23 v4_21) fun r49 d50 =>
    Mo_halves_182 FU a1 v3_19 v6_25 d50)
theorem y_X6_halves : YV yX6_halves cX6_halves 12 none 1 := ⟨q1594, q96, q1595, q149, by decide +kernel, by decide +kernel, by decide +kernel, by decide +kernel⟩
theorem r_Mo_halves_222 {C : Cxt} {G : Geo} {M : Mem} {k : Nat} (hC : Cx C cX6_halves 12 "FrameHeirsModel" none rm_X6_halves G) (hk : LMo G k) (k182 : Int32 → Int32 → Int32 → Sl → Option (Unit × Sl)) (h182 : ∀ (v1 : Int32) (v3 : Int32) (v6 : Int32) (d : Sl), Rz C 12 G (setS M k) (poM avV (setS M k)) 182 [(0, .inr (k, 34)), (1, .inl (.int v1)), (3, .inl (.int v3)), (6, .inl (.int v6))] [] d (k182 v1 v3 v6 d)) (v1 : Int32) (v3 : Int32) (v6 : Int32) (v9 : Int32) (s0 : Int32) (d : Sl) : Rz C 12 G (setS M k) (poM avV (setS M k)) 222 [(0, .inr (k, 34)), (1, .inl (.int v1)), (3, .inl (.int v3)), (6, .inl (.int v6)), (9, .inl (.int v9))] [.inl (.int s0)] d (Mo_halves_222 k182 v1 v3 v6 v9 s0 d) := by
  unfold Mo_halves_222
  refine z_istore (pc := 222) (ls1 := fun v => [(10, .inl (.int v)), (0, .inr (k, 34)), (1, .inl (.int v1)), (3, .inl (.int v3)), (6, .inl (.int v6)), (9, .inl (.int v9))]) hC 10 (by decide) (fun v => rfl) dX6_halves_222 (fun v10_1 => ?_)
  refine z_aload_n (pc := 224) hC 0 rfl 1 rfl dX6_halves_224 ?_
  refine z_sipush (pc := 225) hC (576 : Int32) rfl dX6_halves_225 ?_
  refine z_iload (pc := 228) hC 6 4 rfl dX6_halves_228 ?_
  refine z_iadd (pc := 230) hC dX6_halves_230 ?_
  refine z_iload (pc := 231) hC 10 0 rfl dX6_halves_231 ?_
  refine z_iconst (pc := 233) hC (1 : Int32) rfl dX6_halves_233 ?_
  refine z_iadd (pc := 234) hC dX6_halves_234 ?_
  refine z_cvV (pc := 235) (st := []) hC y_X6_lay q1246 [.inl (.int ((576 : Int32) + v6)), .inl (.int (v10_1 + (1 : Int32)))] rfl (hk 34 rfl) rfl rfl (c_X6_lay hC.2.2.2.2.2.2.1 hk) rfl ⟨rfl, rfl, (Nat.le_of_ble_eq_true rfl), (Nat.le_of_ble_eq_true rfl)⟩ (Nat.le_of_ble_eq_true rfl) dX6_halves_235 (fun r2 d3 => ?_)
  refine z_aload_n (pc := 238) hC 0 rfl 1 rfl dX6_halves_238 ?_
  refine z_sipush (pc := 239) hC (960 : Int32) rfl dX6_halves_239 ?_
  refine z_iload (pc := 242) hC 10 0 rfl dX6_halves_242 ?_
  refine z_iadd (pc := 244) hC dX6_halves_244 ?_
  refine z_piV (pc := 245) (st := []) hC y_X6_of q1262 [.inl (.int ((960 : Int32) + v10_1))] rfl (hk 34 rfl) rfl rfl (c_X6_of hC.2.2.2.2.2.2.1 hk) rfl ⟨rfl, rfl, (Nat.le_of_ble_eq_true rfl), (Nat.le_of_ble_eq_true rfl)⟩ (Nat.le_of_ble_eq_true rfl) dX6_halves_245 (fun r4 => ?_)
  refine z_iconst (pc := 248) hC (1 : Int32) rfl dX6_halves_248 ?_
  refine z_isub (pc := 249) hC dX6_halves_249 ?_
  refine z_istore (pc := 250) (ls1 := fun v => [(11, .inl (.int v)), (10, .inl (.int v10_1)), (0, .inr (k, 34)), (1, .inl (.int v1)), (3, .inl (.int v3)), (6, .inl (.int v6)), (9, .inl (.int v9))]) hC 11 (by decide) (fun v => rfl) dX6_halves_250 (fun v11_5 => ?_)
  refine z_aload_n (pc := 252) hC 0 rfl 2 rfl dX6_halves_252 ?_
  refine z_iload (pc := 253) hC 11 0 rfl dX6_halves_253 ?_
  refine z_iload (pc := 255) hC 6 5 rfl dX6_halves_255 ?_
  refine z_iload (pc := 257) hC 10 1 rfl dX6_halves_257 ?_
  refine z_cvV (pc := 259) (st := []) hC y_X6_linked q1266 [.inl (.int v11_5), .inl (.int v6), .inl (.int v10_1)] rfl (hk 34 rfl) rfl rfl (c_X6_linked hC.2.2.2.2.2.2.1 hk) rfl ⟨rfl, rfl, (Nat.le_of_ble_eq_true rfl), (Nat.le_of_ble_eq_true rfl)⟩ (Nat.le_of_ble_eq_true rfl) dX6_halves_259 (fun r6 d7 => ?_)
  refine z_aload_n (pc := 262) hC 0 rfl 2 rfl dX6_halves_262 ?_
  refine z_iload (pc := 263) hC 6 5 rfl dX6_halves_263 ?_
  refine z_iconst (pc := 265) hC (-1 : Int32) rfl dX6_halves_265 ?_
  refine z_iload (pc := 266) hC 10 1 rfl dX6_halves_266 ?_
  refine z_cvV (pc := 268) (st := []) hC y_X6_linked q1266 [.inl (.int v6), .inl (.int (-1 : Int32)), .inl (.int v10_1)] rfl (hk 34 rfl) rfl rfl (c_X6_linked hC.2.2.2.2.2.2.1 hk) rfl ⟨rfl, rfl, (Nat.le_of_ble_eq_true rfl), (Nat.le_of_ble_eq_true rfl)⟩ (Nat.le_of_ble_eq_true rfl) dX6_halves_268 (fun r8 d9 => ?_)
  refine z_iload (pc := 271) hC 9 6 rfl dX6_halves_271 ?_
  refine z_istore (pc := 273) (ls1 := fun v => [(6, .inl (.int v)), (11, .inl (.int v11_5)), (10, .inl (.int v10_1)), (0, .inr (k, 34)), (1, .inl (.int v1)), (3, .inl (.int v3)), (9, .inl (.int v9))]) hC 6 (by decide) (fun v => rfl) dX6_halves_273 (fun v6_10 => ?_)
  refine z_goto (pc := 275) hC 182 rfl dX6_halves_275 ?_
  exact z_sub [3, 4, 5, 0] rfl (h182 v1 v3 v6_10 d9)
theorem r_Mo_halves_182 {C : Cxt} {G : Geo} {M : Mem} {k : Nat} (hC : Cx C cX6_halves 12 "FrameHeirsModel" none rm_X6_halves G) (hk : LMo G k) : ∀ (n : Nat) (v1 : Int32) (v3 : Int32) (v6 : Int32) (d : Sl), Rz C 12 G (setS M k) (poM avV (setS M k)) 182 [(0, .inr (k, 34)), (1, .inl (.int v1)), (3, .inl (.int v3)), (6, .inl (.int v6))] [] d (Mo_halves_182 n v1 v3 v6 d) := by
  intro n
  induction n with
  | zero => intros; exact z_none
  | succ n ih =>
    intro v1 v3 v6 d
    rw [Mo_halves_182]
    refine z_iload (pc := 182) hC 6 3 rfl dX6_halves_182 ?_
    refine z_if_lt (pc := 184) hC 278 rfl dX6_halves_184 ?_ ?_
    · refine z_aload_n (pc := 278) hC 0 rfl 0 rfl dX6_halves_278 ?_
      refine z_sipush (pc := 279) hC (2198 : Int32) rfl dX6_halves_279 ?_
      refine z_cvV (pc := 282) (st := []) hC y_X6_more q1596 [.inl (.int (2198 : Int32))] rfl (hk 34 rfl) rfl rfl (c_X6_more hC.2.2.2.2.2.2.1 hk) rfl ⟨rfl, rfl, (Nat.le_of_ble_eq_true rfl), (Nat.le_of_ble_eq_true rfl)⟩ (Nat.le_of_ble_eq_true rfl) dX6_halves_282 (fun r11 d12 => ?_)
      exact z_vret (pc := 285) hC rfl dX6_halves_285
    · refine z_aload_n (pc := 187) hC 0 rfl 0 rfl dX6_halves_187 ?_
      refine z_iload (pc := 188) hC 6 3 rfl dX6_halves_188 ?_
      refine z_piV (pc := 190) (st := []) hC y_X6_nextOf q1588 [.inl (.int v6)] rfl (hk 34 rfl) rfl rfl (c_X6_nextOf hC.2.2.2.2.2.2.1 hk) rfl ⟨rfl, rfl, (Nat.le_of_ble_eq_true rfl), (Nat.le_of_ble_eq_true rfl)⟩ (Nat.le_of_ble_eq_true rfl) dX6_halves_190 (fun r13 => ?_)
      refine z_istore (pc := 193) (ls1 := fun v => [(9, .inl (.int v)), (0, .inr (k, 34)), (1, .inl (.int v1)), (3, .inl (.int v3)), (6, .inl (.int v6))]) hC 9 (by decide) (fun v => rfl) dX6_halves_193 (fun v9_14 => ?_)
      refine z_aload_n (pc := 195) hC 0 rfl 1 rfl dX6_halves_195 ?_
      refine z_sipush (pc := 196) hC (192 : Int32) rfl dX6_halves_196 ?_
      refine z_iload (pc := 199) hC 6 4 rfl dX6_halves_199 ?_
      refine z_iadd (pc := 201) hC dX6_halves_201 ?_
      refine z_piV (pc := 202) (st := []) hC y_X6_of q1262 [.inl (.int ((192 : Int32) + v6))] rfl (hk 34 rfl) rfl rfl (c_X6_of hC.2.2.2.2.2.2.1 hk) rfl ⟨rfl, rfl, (Nat.le_of_ble_eq_true rfl), (Nat.le_of_ble_eq_true rfl)⟩ (Nat.le_of_ble_eq_true rfl) dX6_halves_202 (fun r15 => ?_)
      refine z_aload_n (pc := 205) hC 0 rfl 1 rfl dX6_halves_205 ?_
      refine z_sipush (pc := 206) hC (192 : Int32) rfl dX6_halves_206 ?_
      refine z_iload_n (pc := 209) hC 3 rfl 3 rfl dX6_halves_209 ?_
      refine z_iadd (pc := 210) hC dX6_halves_210 ?_
      refine z_piV (pc := 211) (st := [.inl (.int r15)]) hC y_X6_of q1262 [.inl (.int ((192 : Int32) + v3))] rfl (hk 34 rfl) rfl rfl (c_X6_of hC.2.2.2.2.2.2.1 hk) rfl ⟨rfl, rfl, (Nat.le_of_ble_eq_true rfl), (Nat.le_of_ble_eq_true rfl)⟩ (Nat.le_of_ble_eq_true rfl) dX6_halves_211 (fun r16 => ?_)
      refine z_icmp_lt (pc := 214) hC 221 rfl dX6_halves_214 ?_ ?_
      · refine z_iload_n (pc := 221) hC 1 rfl 2 rfl dX6_halves_221 ?_
        exact z_sub [1, 2, 3, 4, 0] rfl (r_Mo_halves_222 hC hk _ ih v1 v3 v6 v9_14 v1 d)
      · refine z_iload_n (pc := 217) hC 3 rfl 3 rfl dX6_halves_217 ?_
        refine z_goto (pc := 218) hC 222 rfl dX6_halves_218 ?_
        exact z_sub [1, 2, 3, 4, 0] rfl (r_Mo_halves_222 hC hk _ ih v1 v3 v6 v9_14 v3 d)
theorem r_Mo_halves {C : Cxt} {G : Geo} {M : Mem} {k : Nat} (hC : Cx C cX6_halves 12 "FrameHeirsModel" none rm_X6_halves G) (hk : LMo G k) (d : Sl) (a1 : Int32) : Rz C 12 G (setS M k) (poM avV (setS M k)) 0 [(0, .inr (k, 34)), (1, .inl (.int a1))] [] d (Mo_halves d a1) := by
  unfold Mo_halves
  refine z_aload_n (pc := 0) hC 0 rfl 0 rfl dX6_halves_0 ?_
  refine z_iload_n (pc := 1) hC 1 rfl 1 rfl dX6_halves_1 ?_
  refine z_piV (pc := 2) (st := []) hC y_X6_orderOf q1516 [.inl (.int a1)] rfl (hk 34 rfl) rfl rfl (c_X6_orderOf hC.2.2.2.2.2.2.1 hk) rfl ⟨rfl, rfl, (Nat.le_of_ble_eq_true rfl), (Nat.le_of_ble_eq_true rfl)⟩ (Nat.le_of_ble_eq_true rfl) dX6_halves_2 (fun r17 => ?_)
  refine z_iconst (pc := 5) hC (1 : Int32) rfl dX6_halves_5 ?_
  refine z_isub (pc := 6) hC dX6_halves_6 ?_
  refine z_istore_n (pc := 7) (ls1 := fun v => [(2, .inl (.int v)), (0, .inr (k, 34)), (1, .inl (.int a1))]) hC 2 rfl (by decide) (fun v => rfl) dX6_halves_7 (fun v2_18 => ?_)
  refine z_iload_n (pc := 8) hC 1 rfl 2 rfl dX6_halves_8 ?_
  refine z_iconst (pc := 9) hC (1 : Int32) rfl dX6_halves_9 ?_
  refine z_iload_n (pc := 10) hC 2 rfl 0 rfl dX6_halves_10 ?_
  refine z_ishl (pc := 11) hC dX6_halves_11 ?_
  refine z_iadd (pc := 12) hC dX6_halves_12 ?_
  refine z_istore_n (pc := 13) (ls1 := fun v => [(3, .inl (.int v)), (2, .inl (.int v2_18)), (0, .inr (k, 34)), (1, .inl (.int a1))]) hC 3 rfl (by decide) (fun v => rfl) dX6_halves_13 (fun v3_19 => ?_)
  refine z_aload_n (pc := 14) hC 0 rfl 2 rfl dX6_halves_14 ?_
  refine z_iload_n (pc := 15) hC 1 rfl 3 rfl dX6_halves_15 ?_
  refine z_piV (pc := 16) (st := []) hC y_X6_giverOf q1532 [.inl (.int a1)] rfl (hk 34 rfl) rfl rfl (c_X6_giverOf hC.2.2.2.2.2.2.1 hk) rfl ⟨rfl, rfl, (Nat.le_of_ble_eq_true rfl), (Nat.le_of_ble_eq_true rfl)⟩ (Nat.le_of_ble_eq_true rfl) dX6_halves_16 (fun r20 => ?_)
  refine z_istore (pc := 19) (ls1 := fun v => [(4, .inl (.int v)), (3, .inl (.int v3_19)), (2, .inl (.int v2_18)), (0, .inr (k, 34)), (1, .inl (.int a1))]) hC 4 (by decide) (fun v => rfl) dX6_halves_19 (fun v4_21 => ?_)
  refine z_aload_n (pc := 21) hC 0 rfl 3 rfl dX6_halves_21 ?_
  refine z_iload_n (pc := 22) hC 1 rfl 4 rfl dX6_halves_22 ?_
  refine z_piV (pc := 23) (st := []) hC y_X6_nextOf q1588 [.inl (.int a1)] rfl (hk 34 rfl) rfl rfl (c_X6_nextOf hC.2.2.2.2.2.2.1 hk) rfl ⟨rfl, rfl, (Nat.le_of_ble_eq_true rfl), (Nat.le_of_ble_eq_true rfl)⟩ (Nat.le_of_ble_eq_true rfl) dX6_halves_23 (fun r22 => ?_)
  refine z_istore (pc := 26) (ls1 := fun v => [(5, .inl (.int v)), (4, .inl (.int v4_21)), (3, .inl (.int v3_19)), (2, .inl (.int v2_18)), (0, .inr (k, 34)), (1, .inl (.int a1))]) hC 5 (by decide) (fun v => rfl) dX6_halves_26 (fun v5_23 => ?_)
  refine z_aload_n (pc := 28) hC 0 rfl 4 rfl dX6_halves_28 ?_
  refine z_iload_n (pc := 29) hC 1 rfl 5 rfl dX6_halves_29 ?_
  refine z_piV (pc := 30) (st := []) hC y_X6_firstOf q1584 [.inl (.int a1)] rfl (hk 34 rfl) rfl rfl (c_X6_firstOf hC.2.2.2.2.2.2.1 hk) rfl ⟨rfl, rfl, (Nat.le_of_ble_eq_true rfl), (Nat.le_of_ble_eq_true rfl)⟩ (Nat.le_of_ble_eq_true rfl) dX6_halves_30 (fun r24 => ?_)
  refine z_istore (pc := 33) (ls1 := fun v => [(6, .inl (.int v)), (5, .inl (.int v5_23)), (4, .inl (.int v4_21)), (3, .inl (.int v3_19)), (2, .inl (.int v2_18)), (0, .inr (k, 34)), (1, .inl (.int a1))]) hC 6 (by decide) (fun v => rfl) dX6_halves_33 (fun v6_25 => ?_)
  refine z_aload_n (pc := 35) hC 0 rfl 5 rfl dX6_halves_35 ?_
  refine z_sipush (pc := 36) hC (1152 : Int32) rfl dX6_halves_36 ?_
  refine z_iload_n (pc := 39) hC 1 rfl 6 rfl dX6_halves_39 ?_
  refine z_iadd (pc := 40) hC dX6_halves_40 ?_
  refine z_piV (pc := 41) (st := []) hC y_X6_of q1262 [.inl (.int ((1152 : Int32) + a1))] rfl (hk 34 rfl) rfl rfl (c_X6_of hC.2.2.2.2.2.2.1 hk) rfl ⟨rfl, rfl, (Nat.le_of_ble_eq_true rfl), (Nat.le_of_ble_eq_true rfl)⟩ (Nat.le_of_ble_eq_true rfl) dX6_halves_41 (fun r26 => ?_)
  refine z_istore (pc := 44) (ls1 := fun v => [(7, .inl (.int v)), (6, .inl (.int v6_25)), (5, .inl (.int v5_23)), (4, .inl (.int v4_21)), (3, .inl (.int v3_19)), (2, .inl (.int v2_18)), (0, .inr (k, 34)), (1, .inl (.int a1))]) hC 7 (by decide) (fun v => rfl) dX6_halves_44 (fun v7_27 => ?_)
  refine z_aload_n (pc := 46) hC 0 rfl 6 rfl dX6_halves_46 ?_
  refine z_sipush (pc := 47) hC (1728 : Int32) rfl dX6_halves_47 ?_
  refine z_iload_n (pc := 50) hC 1 rfl 7 rfl dX6_halves_50 ?_
  refine z_iadd (pc := 51) hC dX6_halves_51 ?_
  refine z_piV (pc := 52) (st := []) hC y_X6_of q1262 [.inl (.int ((1728 : Int32) + a1))] rfl (hk 34 rfl) rfl rfl (c_X6_of hC.2.2.2.2.2.2.1 hk) rfl ⟨rfl, rfl, (Nat.le_of_ble_eq_true rfl), (Nat.le_of_ble_eq_true rfl)⟩ (Nat.le_of_ble_eq_true rfl) dX6_halves_52 (fun r28 => ?_)
  refine z_istore (pc := 55) (ls1 := fun v => [(8, .inl (.int v)), (7, .inl (.int v7_27)), (6, .inl (.int v6_25)), (5, .inl (.int v5_23)), (4, .inl (.int v4_21)), (3, .inl (.int v3_19)), (2, .inl (.int v2_18)), (0, .inr (k, 34)), (1, .inl (.int a1))]) hC 8 (by decide) (fun v => rfl) dX6_halves_55 (fun v8_29 => ?_)
  refine z_aload_n (pc := 57) hC 0 rfl 7 rfl dX6_halves_57 ?_
  refine z_iload_n (pc := 58) hC 3 rfl 5 rfl dX6_halves_58 ?_
  refine z_iload_n (pc := 59) hC 2 rfl 6 rfl dX6_halves_59 ?_
  refine z_aload_n (pc := 60) hC 0 rfl 7 rfl dX6_halves_60 ?_
  refine z_sipush (pc := 61) hC (192 : Int32) rfl dX6_halves_61 ?_
  refine z_iload_n (pc := 64) hC 1 rfl 8 rfl dX6_halves_64 ?_
  refine z_iadd (pc := 65) hC dX6_halves_65 ?_
  refine z_piV (pc := 66) (st := [.inl (.int v2_18), .inl (.int v3_19), .inr (k, 34)]) hC y_X6_of q1262 [.inl (.int ((192 : Int32) + a1))] rfl (hk 34 rfl) rfl rfl (c_X6_of hC.2.2.2.2.2.2.1 hk) rfl ⟨rfl, rfl, (Nat.le_of_ble_eq_true rfl), (Nat.le_of_ble_eq_true rfl)⟩ (Nat.le_of_ble_eq_true rfl) dX6_halves_66 (fun r30 => ?_)
  refine z_iconst (pc := 69) hC (1 : Int32) rfl dX6_halves_69 ?_
  refine z_iload_n (pc := 70) hC 2 rfl 6 rfl dX6_halves_70 ?_
  refine z_ishl (pc := 71) hC dX6_halves_71 ?_
  refine z_iadd (pc := 72) hC dX6_halves_72 ?_
  refine z_aload_n (pc := 73) hC 0 rfl 7 rfl dX6_halves_73 ?_
  refine z_sipush (pc := 74) hC (384 : Int32) rfl dX6_halves_74 ?_
  refine z_iload_n (pc := 77) hC 1 rfl 8 rfl dX6_halves_77 ?_
  refine z_iadd (pc := 78) hC dX6_halves_78 ?_
  refine z_piV (pc := 79) (st := [.inl (.int (r30 + ((1 : Int32) <<< (v2_18 &&& 31)))), .inl (.int v2_18), .inl (.int v3_19), .inr (k, 34)]) hC y_X6_of q1262 [.inl (.int ((384 : Int32) + a1))] rfl (hk 34 rfl) rfl rfl (c_X6_of hC.2.2.2.2.2.2.1 hk) rfl ⟨rfl, rfl, (Nat.le_of_ble_eq_true rfl), (Nat.le_of_ble_eq_true rfl)⟩ (Nat.le_of_ble_eq_true rfl) dX6_halves_79 (fun r31 => ?_)
  refine z_iconst (pc := 82) hC (-1 : Int32) rfl dX6_halves_82 ?_
  refine z_aload_n (pc := 83) hC 0 rfl 7 rfl dX6_halves_83 ?_
  refine z_sipush (pc := 84) hC (1536 : Int32) rfl dX6_halves_84 ?_
  refine z_iload_n (pc := 87) hC 1 rfl 8 rfl dX6_halves_87 ?_
  refine z_iadd (pc := 88) hC dX6_halves_88 ?_
  refine z_piV (pc := 89) (st := [.inl (.int (-1 : Int32)), .inl (.int r31), .inl (.int (r30 + ((1 : Int32) <<< (v2_18 &&& 31)))), .inl (.int v2_18), .inl (.int v3_19), .inr (k, 34)]) hC y_X6_of q1262 [.inl (.int ((1536 : Int32) + a1))] rfl (hk 34 rfl) rfl rfl (c_X6_of hC.2.2.2.2.2.2.1 hk) rfl ⟨rfl, rfl, (Nat.le_of_ble_eq_true rfl), (Nat.le_of_ble_eq_true rfl)⟩ (Nat.le_of_ble_eq_true rfl) dX6_halves_89 (fun r32 => ?_)
  refine z_cvV (pc := 92) (st := []) hC y_X6_comes q1254 [.inl (.int v3_19), .inl (.int v2_18), .inl (.int (r30 + ((1 : Int32) <<< (v2_18 &&& 31)))), .inl (.int r31), .inl (.int (-1 : Int32)), .inl (.int r32)] rfl (hk 34 rfl) rfl rfl (c_X6_comes hC.2.2.2.2.2.2.1 hk) rfl ⟨rfl, rfl, (Nat.le_of_ble_eq_true rfl), (Nat.le_of_ble_eq_true rfl)⟩ (Nat.le_of_ble_eq_true rfl) dX6_halves_92 (fun r33 d34 => ?_)
  refine z_aload_n (pc := 95) hC 0 rfl 7 rfl dX6_halves_95 ?_
  refine z_sipush (pc := 96) hC (1728 : Int32) rfl dX6_halves_96 ?_
  refine z_iload_n (pc := 99) hC 3 rfl 5 rfl dX6_halves_99 ?_
  refine z_iadd (pc := 100) hC dX6_halves_100 ?_
  refine z_iload (pc := 101) hC 8 0 rfl dX6_halves_101 ?_
  refine z_cvV (pc := 103) (st := []) hC y_X6_lay q1246 [.inl (.int ((1728 : Int32) + v3_19)), .inl (.int v8_29)] rfl (hk 34 rfl) rfl rfl (c_X6_lay hC.2.2.2.2.2.2.1 hk) rfl ⟨rfl, rfl, (Nat.le_of_ble_eq_true rfl), (Nat.le_of_ble_eq_true rfl)⟩ (Nat.le_of_ble_eq_true rfl) dX6_halves_103 (fun r35 d36 => ?_)
  refine z_aload_n (pc := 106) hC 0 rfl 7 rfl dX6_halves_106 ?_
  refine z_iconst (pc := 107) hC (0 : Int32) rfl dX6_halves_107 ?_
  refine z_iload_n (pc := 108) hC 1 rfl 8 rfl dX6_halves_108 ?_
  refine z_iadd (pc := 109) hC dX6_halves_109 ?_
  refine z_iload_n (pc := 110) hC 2 rfl 6 rfl dX6_halves_110 ?_
  refine z_iconst (pc := 111) hC (1 : Int32) rfl dX6_halves_111 ?_
  refine z_iadd (pc := 112) hC dX6_halves_112 ?_
  refine z_cvV (pc := 113) (st := []) hC y_X6_lay q1246 [.inl (.int ((0 : Int32) + a1)), .inl (.int (v2_18 + (1 : Int32)))] rfl (hk 34 rfl) rfl rfl (c_X6_lay hC.2.2.2.2.2.2.1 hk) rfl ⟨rfl, rfl, (Nat.le_of_ble_eq_true rfl), (Nat.le_of_ble_eq_true rfl)⟩ (Nat.le_of_ble_eq_true rfl) dX6_halves_113 (fun r37 d38 => ?_)
  refine z_aload_n (pc := 116) hC 0 rfl 7 rfl dX6_halves_116 ?_
  refine z_sipush (pc := 117) hC (768 : Int32) rfl dX6_halves_117 ?_
  refine z_iload_n (pc := 120) hC 1 rfl 8 rfl dX6_halves_120 ?_
  refine z_iadd (pc := 121) hC dX6_halves_121 ?_
  refine z_iconst (pc := 122) hC (0 : Int32) rfl dX6_halves_122 ?_
  refine z_cvV (pc := 123) (st := []) hC y_X6_lay q1246 [.inl (.int ((768 : Int32) + a1)), .inl (.int (0 : Int32))] rfl (hk 34 rfl) rfl rfl (c_X6_lay hC.2.2.2.2.2.2.1 hk) rfl ⟨rfl, rfl, (Nat.le_of_ble_eq_true rfl), (Nat.le_of_ble_eq_true rfl)⟩ (Nat.le_of_ble_eq_true rfl) dX6_halves_123 (fun r39 d40 => ?_)
  refine z_aload_n (pc := 126) hC 0 rfl 7 rfl dX6_halves_126 ?_
  refine z_sipush (pc := 127) hC (960 : Int32) rfl dX6_halves_127 ?_
  refine z_iload_n (pc := 130) hC 1 rfl 8 rfl dX6_halves_130 ?_
  refine z_iadd (pc := 131) hC dX6_halves_131 ?_
  refine z_iconst (pc := 132) hC (0 : Int32) rfl dX6_halves_132 ?_
  refine z_cvV (pc := 133) (st := []) hC y_X6_lay q1246 [.inl (.int ((960 : Int32) + a1)), .inl (.int (0 : Int32))] rfl (hk 34 rfl) rfl rfl (c_X6_lay hC.2.2.2.2.2.2.1 hk) rfl ⟨rfl, rfl, (Nat.le_of_ble_eq_true rfl), (Nat.le_of_ble_eq_true rfl)⟩ (Nat.le_of_ble_eq_true rfl) dX6_halves_133 (fun r41 d42 => ?_)
  refine z_aload_n (pc := 136) hC 0 rfl 7 rfl dX6_halves_136 ?_
  refine z_sipush (pc := 137) hC (1152 : Int32) rfl dX6_halves_137 ?_
  refine z_iload_n (pc := 140) hC 1 rfl 8 rfl dX6_halves_140 ?_
  refine z_iadd (pc := 141) hC dX6_halves_141 ?_
  refine z_iload (pc := 142) hC 7 1 rfl dX6_halves_142 ?_
  refine z_cvV (pc := 144) (st := []) hC y_X6_lay q1246 [.inl (.int ((1152 : Int32) + a1)), .inl (.int v7_27)] rfl (hk 34 rfl) rfl rfl (c_X6_lay hC.2.2.2.2.2.2.1 hk) rfl ⟨rfl, rfl, (Nat.le_of_ble_eq_true rfl), (Nat.le_of_ble_eq_true rfl)⟩ (Nat.le_of_ble_eq_true rfl) dX6_halves_144 (fun r43 d44 => ?_)
  refine z_aload_n (pc := 147) hC 0 rfl 7 rfl dX6_halves_147 ?_
  refine z_sipush (pc := 148) hC (576 : Int32) rfl dX6_halves_148 ?_
  refine z_iload_n (pc := 151) hC 3 rfl 5 rfl dX6_halves_151 ?_
  refine z_iadd (pc := 152) hC dX6_halves_152 ?_
  refine z_iload (pc := 153) hC 4 4 rfl dX6_halves_153 ?_
  refine z_iconst (pc := 155) hC (1 : Int32) rfl dX6_halves_155 ?_
  refine z_iadd (pc := 156) hC dX6_halves_156 ?_
  refine z_cvV (pc := 157) (st := []) hC y_X6_lay q1246 [.inl (.int ((576 : Int32) + v3_19)), .inl (.int (v4_21 + (1 : Int32)))] rfl (hk 34 rfl) rfl rfl (c_X6_lay hC.2.2.2.2.2.2.1 hk) rfl ⟨rfl, rfl, (Nat.le_of_ble_eq_true rfl), (Nat.le_of_ble_eq_true rfl)⟩ (Nat.le_of_ble_eq_true rfl) dX6_halves_157 (fun r45 d46 => ?_)
  refine z_iload (pc := 160) hC 4 4 rfl dX6_halves_160 ?_
  refine z_if_lt (pc := 162) hC 182 rfl dX6_halves_162 ?_ ?_
  · exact z_sub [7, 8, 5, 2] rfl (r_Mo_halves_182 hC hk FU a1 v3_19 v6_25 d46)
  · refine z_aload_n (pc := 165) hC 0 rfl 7 rfl dX6_halves_165 ?_
    refine z_iload_n (pc := 166) hC 1 rfl 8 rfl dX6_halves_166 ?_
    refine z_iload_n (pc := 167) hC 3 rfl 5 rfl dX6_halves_167 ?_
    refine z_iload (pc := 168) hC 4 4 rfl dX6_halves_168 ?_
    refine z_cvV (pc := 170) (st := []) hC y_X6_linked q1266 [.inl (.int a1), .inl (.int v3_19), .inl (.int v4_21)] rfl (hk 34 rfl) rfl rfl (c_X6_linked hC.2.2.2.2.2.2.1 hk) rfl ⟨rfl, rfl, (Nat.le_of_ble_eq_true rfl), (Nat.le_of_ble_eq_true rfl)⟩ (Nat.le_of_ble_eq_true rfl) dX6_halves_170 (fun r47 d48 => ?_)
    refine z_aload_n (pc := 173) hC 0 rfl 7 rfl dX6_halves_173 ?_
    refine z_iload_n (pc := 174) hC 3 rfl 5 rfl dX6_halves_174 ?_
    refine z_iload (pc := 175) hC 5 3 rfl dX6_halves_175 ?_
    refine z_iload (pc := 177) hC 4 4 rfl dX6_halves_177 ?_
    refine z_cvV (pc := 179) (st := []) hC y_X6_linked q1266 [.inl (.int v3_19), .inl (.int v5_23), .inl (.int v4_21)] rfl (hk 34 rfl) rfl rfl (c_X6_linked hC.2.2.2.2.2.2.1 hk) rfl ⟨rfl, rfl, (Nat.le_of_ble_eq_true rfl), (Nat.le_of_ble_eq_true rfl)⟩ (Nat.le_of_ble_eq_true rfl) dX6_halves_179 (fun r49 d50 => ?_)
    exact z_sub [7, 8, 5, 2] rfl (r_Mo_halves_182 hC hk FU a1 v3_19 v6_25 d50)
theorem c_X6_halves {G : Geo} {M : Mem} {k : Nat} (hG : GOk G) (hk : LMo G k) {d : Sl} {a1 : Int32} (l : Launch) (r : Unit) (d1 : Sl) (h : Mo_halves d a1 = some (r, d1)) : Mt l yX6_halves cX6_halves 12 none rm_X6_halves G [.inr (k, 34), .inl (.int a1)] ((setS M k) d) (avV r) ((setS M k) d1) :=
  mt_of (mem := (setS M k)) (po := poM avV (setS M k)) (x0 := d) (t := (r, d1)) rfl hG [.inr (k, 34), .inl (.int a1)] (Nat.le_of_ble_eq_true rfl) rfl (fun C hC => r_Mo_halves hC hk d a1) h
-- FrameHeirsModel.splits(I)V
abbrev rm_X6_splits : Room := { frames := 4, cells := 0, slots := 0, locals := 103 }
theorem dX6_splits_0 : decode cX6_splits 0 = .ok (.aload_n 0, 1) := by decide +kernel
theorem dX6_splits_1 : decode cX6_splits 1 = .ok (.iconst 0, 1) := by decide +kernel
theorem dX6_splits_2 : decode cX6_splits 2 = .ok (.iload_n 1, 1) := by decide +kernel
theorem dX6_splits_3 : decode cX6_splits 3 = .ok (.iadd, 1) := by decide +kernel
theorem dX6_splits_4 : decode cX6_splits 4 = .ok (.invokevirtual 189, 3) := by decide +kernel
theorem dX6_splits_7 : decode cX6_splits 7 = .ok (.istore_n 2, 1) := by decide +kernel
theorem dX6_splits_8 : decode cX6_splits 8 = .ok (.aload_n 0, 1) := by decide +kernel
theorem dX6_splits_9 : decode cX6_splits 9 = .ok (.iconst 0, 1) := by decide +kernel
theorem dX6_splits_10 : decode cX6_splits 10 = .ok (.putfield 222, 3) := by decide +kernel
theorem dX6_splits_13 : decode cX6_splits 13 = .ok (.aload_n 0, 1) := by decide +kernel
theorem dX6_splits_14 : decode cX6_splits 14 = .ok (.iload_n 1, 1) := by decide +kernel
theorem dX6_splits_15 : decode cX6_splits 15 = .ok (.invokevirtual 225, 3) := by decide +kernel
theorem dX6_splits_18 : decode cX6_splits 18 = .ok (.iconst 0, 1) := by decide +kernel
theorem dX6_splits_19 : decode cX6_splits 19 = .ok (.istore_n 3, 1) := by decide +kernel
theorem dX6_splits_20 : decode cX6_splits 20 = .ok (.iload_n 3, 1) := by decide +kernel
theorem dX6_splits_21 : decode cX6_splits 21 = .ok (.aload_n 0, 1) := by decide +kernel
theorem dX6_splits_22 : decode cX6_splits 22 = .ok (.getfield 222, 3) := by decide +kernel
theorem dX6_splits_25 : decode cX6_splits 25 = .ok (.if_icmp .ge 55, 3) := by decide +kernel
theorem dX6_splits_28 : decode cX6_splits 28 = .ok (.aload_n 0, 1) := by decide +kernel
theorem dX6_splits_29 : decode cX6_splits 29 = .ok (.aload_n 0, 1) := by decide +kernel
theorem dX6_splits_30 : decode cX6_splits 30 = .ok (.getfield 49, 3) := by decide +kernel
theorem dX6_splits_33 : decode cX6_splits 33 = .ok (.iload_n 3, 1) := by decide +kernel
theorem dX6_splits_34 : decode cX6_splits 34 = .ok (.iaload, 1) := by decide +kernel
theorem dX6_splits_35 : decode cX6_splits 35 = .ok (.invokevirtual 228, 3) := by decide +kernel
theorem dX6_splits_38 : decode cX6_splits 38 = .ok (.istore 4, 2) := by decide +kernel
theorem dX6_splits_40 : decode cX6_splits 40 = .ok (.iload 4, 2) := by decide +kernel
theorem dX6_splits_42 : decode cX6_splits 42 = .ok (.ifCond .lt 32, 3) := by decide +kernel
theorem dX6_splits_45 : decode cX6_splits 45 = .ok (.aload_n 0, 1) := by decide +kernel
theorem dX6_splits_46 : decode cX6_splits 46 = .ok (.iconst 0, 1) := by decide +kernel
theorem dX6_splits_47 : decode cX6_splits 47 = .ok (.iload 4, 2) := by decide +kernel
theorem dX6_splits_49 : decode cX6_splits 49 = .ok (.iadd, 1) := by decide +kernel
theorem dX6_splits_50 : decode cX6_splits 50 = .ok (.invokevirtual 189, 3) := by decide +kernel
theorem dX6_splits_53 : decode cX6_splits 53 = .ok (.iload_n 2, 1) := by decide +kernel
theorem dX6_splits_54 : decode cX6_splits 54 = .ok (.if_icmp .ne 9, 3) := by decide +kernel
theorem dX6_splits_57 : decode cX6_splits 57 = .ok (.aload_n 0, 1) := by decide +kernel
theorem dX6_splits_58 : decode cX6_splits 58 = .ok (.iload 4, 2) := by decide +kernel
theorem dX6_splits_60 : decode cX6_splits 60 = .ok (.invokevirtual 225, 3) := by decide +kernel
theorem dX6_splits_63 : decode cX6_splits 63 = .ok (.aload_n 0, 1) := by decide +kernel
theorem dX6_splits_64 : decode cX6_splits 64 = .ok (.iload 4, 2) := by decide +kernel
theorem dX6_splits_66 : decode cX6_splits 66 = .ok (.invokevirtual 231, 3) := by decide +kernel
theorem dX6_splits_69 : decode cX6_splits 69 = .ok (.istore 4, 2) := by decide +kernel
theorem dX6_splits_71 : decode cX6_splits 71 = .ok (.goto (-31), 3) := by decide +kernel
theorem dX6_splits_74 : decode cX6_splits 74 = .ok (.iinc 3 1, 3) := by decide +kernel
theorem dX6_splits_77 : decode cX6_splits 77 = .ok (.goto (-57), 3) := by decide +kernel
theorem dX6_splits_80 : decode cX6_splits 80 = .ok (.aload_n 0, 1) := by decide +kernel
theorem dX6_splits_81 : decode cX6_splits 81 = .ok (.getfield 222, 3) := by decide +kernel
theorem dX6_splits_84 : decode cX6_splits 84 = .ok (.istore_n 3, 1) := by decide +kernel
theorem dX6_splits_85 : decode cX6_splits 85 = .ok (.iload_n 3, 1) := by decide +kernel
theorem dX6_splits_86 : decode cX6_splits 86 = .ok (.iconst 1, 1) := by decide +kernel
theorem dX6_splits_87 : decode cX6_splits 87 = .ok (.isub, 1) := by decide +kernel
theorem dX6_splits_88 : decode cX6_splits 88 = .ok (.istore 4, 2) := by decide +kernel
theorem dX6_splits_90 : decode cX6_splits 90 = .ok (.iload 4, 2) := by decide +kernel
theorem dX6_splits_92 : decode cX6_splits 92 = .ok (.ifCond .lt 20, 3) := by decide +kernel
theorem dX6_splits_95 : decode cX6_splits 95 = .ok (.aload_n 0, 1) := by decide +kernel
theorem dX6_splits_96 : decode cX6_splits 96 = .ok (.aload_n 0, 1) := by decide +kernel
theorem dX6_splits_97 : decode cX6_splits 97 = .ok (.getfield 49, 3) := by decide +kernel
theorem dX6_splits_100 : decode cX6_splits 100 = .ok (.iload 4, 2) := by decide +kernel
theorem dX6_splits_102 : decode cX6_splits 102 = .ok (.iaload, 1) := by decide +kernel
theorem dX6_splits_103 : decode cX6_splits 103 = .ok (.invokevirtual 243, 3) := by decide +kernel
theorem dX6_splits_106 : decode cX6_splits 106 = .ok (.iinc 4 (-1), 3) := by decide +kernel
theorem dX6_splits_109 : decode cX6_splits 109 = .ok (.goto (-19), 3) := by decide +kernel
theorem dX6_splits_112 : decode cX6_splits 112 = .ok (.return_, 1) := by decide +kernel
def Mo_splits_90 : Nat → Int32 → Sl → Option (Unit × Sl)
  | 0, _, _ => none
  | n + 1, v4, d =>
    if v4 < 0 then
      (some ((), d))
    else
      (if inb v4 192 then
      bd (Mo_halves d (d 46 (ix v4))) fun r1 d2 =>
      bnd (v4 + (-1 : Int32)) fun v4_3 =>
      Mo_splits_90 n v4_3 d2
      else none)
def Mo_splits_63 (k20 : Int32 → Int32 → Sl → Option (Unit × Sl)) (k40 : Int32 → Int32 → Int32 → Sl → Option (Unit × Sl)) (v2 : Int32) (v3 : Int32) (v4 : Int32) (d : Sl) : Option (Unit × Sl) :=
  bp (Mo_nextOf d v4) fun r4 =>
  bnd r4 fun v4_5 =>
  k40 v2 v3 v4_5 d
def Mo_splits_40 (k20 : Int32 → Int32 → Sl → Option (Unit × Sl)) : Nat → Int32 → Int32 → Int32 → Sl → Option (Unit × Sl)
  | 0, _, _, _, _ => none
  | n + 1, v2, v3, v4, d =>
    if v4 < 0 then
      (bnd (v3 + (1 : Int32)) fun v3_6 =>
      k20 v2 v3_6 d)
    else
      (bp (Mo_of d ((0 : Int32) + v4)) fun r7 =>
      if r7 = v2 then
        (bd (Mo_adds d v4) fun r8 d9 =>
        Mo_splits_63 k20 (Mo_splits_40 k20 n) v2 v3 v4 d9)
      else
        (Mo_splits_63 k20 (Mo_splits_40 k20 n) v2 v3 v4 d))
def Mo_splits_20 : Nat → Int32 → Int32 → Sl → Option (Unit × Sl)
  | 0, _, _, _ => none
  | n + 1, v2, v3, d =>
    if (d 34 28) ≤ v3 then
      (bnd (d 34 28) fun v3_10 =>
      bnd (v3_10 - (1 : Int32)) fun v4_11 =>
      Mo_splits_90 FU v4_11 d)
    else
      (if inb v3 192 then
      bp (Mo_firstOf d (d 46 (ix v3))) fun r12 =>
      bnd r12 fun v4_13 =>
      Mo_splits_40 (Mo_splits_20 n) FU v2 v3 v4_13 d
      else none)
def Mo_splits (d : Sl) (a1 : Int32) : Option (Unit × Sl) :=
  bp (Mo_of d ((0 : Int32) + a1)) fun r14 =>
  bnd r14 fun v2_15 =>
  bnd (wr d 34 28 (0 : Int32)) fun d16 =>
  bd (Mo_adds d16 a1) fun r17 d18 =>
  bnd (0 : Int32) fun v3_19 =>
  Mo_splits_20 FU v2_15 v3_19 d18
theorem y_X6_splits : YV yX6_splits cX6_splits 5 none 1 := ⟨q1578, q92, q1579, q149, by decide +kernel, by decide +kernel, by decide +kernel, by decide +kernel⟩
theorem r_Mo_splits_90 {C : Cxt} {G : Geo} {M : Mem} {k : Nat} (hC : Cx C cX6_splits 5 "FrameHeirsModel" none rm_X6_splits G) (hk : LMo G k) : ∀ (n : Nat) (v4 : Int32) (d : Sl), Rz C 5 G (setS M k) (poM avV (setS M k)) 90 [(0, .inr (k, 34)), (4, .inl (.int v4))] [] d (Mo_splits_90 n v4 d) := by
  intro n
  induction n with
  | zero => intros; exact z_none
  | succ n ih =>
    intro v4 d
    rw [Mo_splits_90]
    refine z_iload (pc := 90) hC 4 1 rfl dX6_splits_90 ?_
    refine z_if_lt (pc := 92) hC 112 rfl dX6_splits_92 ?_ ?_
    · exact z_vret (pc := 112) hC rfl dX6_splits_112
    · refine z_aload_n (pc := 95) hC 0 rfl 0 rfl dX6_splits_95 ?_
      refine z_aload_n (pc := 96) hC 0 rfl 0 rfl dX6_splits_96 ?_
      refine z_getc (pc := 97) hC (hk 34 rfl) f_34_27 q1297 dX6_splits_97 ?_
      refine z_iload (pc := 100) hC 4 1 rfl dX6_splits_100 ?_
      refine zs_iald (pc := 102) hC (hk 46 rfl) rfl dX6_splits_102 ?_
      refine z_cvV (pc := 103) (st := []) hC y_X6_halves q1592 [.inl (.int (d 46 (ix v4)))] rfl (hk 34 rfl) rfl rfl (c_X6_halves hC.2.2.2.2.2.2.1 hk) rfl ⟨rfl, rfl, (Nat.le_of_ble_eq_true rfl), (Nat.le_of_ble_eq_true rfl)⟩ (Nat.le_of_ble_eq_true rfl) dX6_splits_103 (fun r1 d2 => ?_)
      refine z_iinc (pc := 106) (ls1 := fun v => [(4, .inl (.int v)), (0, .inr (k, 34))]) hC 4 1 (by decide) (-1 : Int32) rfl rfl (fun v => rfl) dX6_splits_106 (fun v4_3 => ?_)
      refine z_goto (pc := 109) hC 90 rfl dX6_splits_109 ?_
      exact z_sub [1, 0] rfl (ih v4_3 d2)
theorem r_Mo_splits_63 {C : Cxt} {G : Geo} {M : Mem} {k : Nat} (hC : Cx C cX6_splits 5 "FrameHeirsModel" none rm_X6_splits G) (hk : LMo G k) (k20 : Int32 → Int32 → Sl → Option (Unit × Sl)) (h20 : ∀ (v2 : Int32) (v3 : Int32) (d : Sl), Rz C 5 G (setS M k) (poM avV (setS M k)) 20 [(0, .inr (k, 34)), (2, .inl (.int v2)), (3, .inl (.int v3))] [] d (k20 v2 v3 d)) (k40 : Int32 → Int32 → Int32 → Sl → Option (Unit × Sl)) (h40 : ∀ (v2 : Int32) (v3 : Int32) (v4 : Int32) (d : Sl), Rz C 5 G (setS M k) (poM avV (setS M k)) 40 [(0, .inr (k, 34)), (2, .inl (.int v2)), (3, .inl (.int v3)), (4, .inl (.int v4))] [] d (k40 v2 v3 v4 d)) (v2 : Int32) (v3 : Int32) (v4 : Int32) (d : Sl) : Rz C 5 G (setS M k) (poM avV (setS M k)) 63 [(0, .inr (k, 34)), (2, .inl (.int v2)), (3, .inl (.int v3)), (4, .inl (.int v4))] [] d (Mo_splits_63 k20 k40 v2 v3 v4 d) := by
  unfold Mo_splits_63
  refine z_aload_n (pc := 63) hC 0 rfl 0 rfl dX6_splits_63 ?_
  refine z_iload (pc := 64) hC 4 3 rfl dX6_splits_64 ?_
  refine z_piV (pc := 66) (st := []) hC y_X6_nextOf q1588 [.inl (.int v4)] rfl (hk 34 rfl) rfl rfl (c_X6_nextOf hC.2.2.2.2.2.2.1 hk) rfl ⟨rfl, rfl, (Nat.le_of_ble_eq_true rfl), (Nat.le_of_ble_eq_true rfl)⟩ (Nat.le_of_ble_eq_true rfl) dX6_splits_66 (fun r4 => ?_)
  refine z_istore (pc := 69) (ls1 := fun v => [(4, .inl (.int v)), (0, .inr (k, 34)), (2, .inl (.int v2)), (3, .inl (.int v3))]) hC 4 (by decide) (fun v => rfl) dX6_splits_69 (fun v4_5 => ?_)
  refine z_goto (pc := 71) hC 40 rfl dX6_splits_71 ?_
  exact z_sub [1, 2, 3, 0] rfl (h40 v2 v3 v4_5 d)
theorem r_Mo_splits_40 {C : Cxt} {G : Geo} {M : Mem} {k : Nat} (hC : Cx C cX6_splits 5 "FrameHeirsModel" none rm_X6_splits G) (hk : LMo G k) (k20 : Int32 → Int32 → Sl → Option (Unit × Sl)) (h20 : ∀ (v2 : Int32) (v3 : Int32) (d : Sl), Rz C 5 G (setS M k) (poM avV (setS M k)) 20 [(0, .inr (k, 34)), (2, .inl (.int v2)), (3, .inl (.int v3))] [] d (k20 v2 v3 d)) : ∀ (n : Nat) (v2 : Int32) (v3 : Int32) (v4 : Int32) (d : Sl), Rz C 5 G (setS M k) (poM avV (setS M k)) 40 [(0, .inr (k, 34)), (2, .inl (.int v2)), (3, .inl (.int v3)), (4, .inl (.int v4))] [] d (Mo_splits_40 k20 n v2 v3 v4 d) := by
  intro n
  induction n with
  | zero => intros; exact z_none
  | succ n ih =>
    intro v2 v3 v4 d
    rw [Mo_splits_40]
    refine z_iload (pc := 40) hC 4 3 rfl dX6_splits_40 ?_
    refine z_if_lt (pc := 42) hC 74 rfl dX6_splits_42 ?_ ?_
    · refine z_iinc (pc := 74) (ls1 := fun v => [(3, .inl (.int v)), (0, .inr (k, 34)), (2, .inl (.int v2)), (4, .inl (.int v4))]) hC 3 2 (by decide) (1 : Int32) rfl rfl (fun v => rfl) dX6_splits_74 (fun v3_6 => ?_)
      refine z_goto (pc := 77) hC 20 rfl dX6_splits_77 ?_
      exact z_sub [1, 2, 0] rfl (h20 v2 v3_6 d)
    · refine z_aload_n (pc := 45) hC 0 rfl 0 rfl dX6_splits_45 ?_
      refine z_iconst (pc := 46) hC (0 : Int32) rfl dX6_splits_46 ?_
      refine z_iload (pc := 47) hC 4 3 rfl dX6_splits_47 ?_
      refine z_iadd (pc := 49) hC dX6_splits_49 ?_
      refine z_piV (pc := 50) (st := []) hC y_X6_of q1262 [.inl (.int ((0 : Int32) + v4))] rfl (hk 34 rfl) rfl rfl (c_X6_of hC.2.2.2.2.2.2.1 hk) rfl ⟨rfl, rfl, (Nat.le_of_ble_eq_true rfl), (Nat.le_of_ble_eq_true rfl)⟩ (Nat.le_of_ble_eq_true rfl) dX6_splits_50 (fun r7 => ?_)
      refine z_iload_n (pc := 53) hC 2 rfl 1 rfl dX6_splits_53 ?_
      refine z_icmp_ne (pc := 54) hC 63 rfl dX6_splits_54 ?_ ?_
      · exact z_sub [0, 1, 2, 3] rfl (r_Mo_splits_63 hC hk k20 h20 _ ih v2 v3 v4 d)
      · refine z_aload_n (pc := 57) hC 0 rfl 0 rfl dX6_splits_57 ?_
        refine z_iload (pc := 58) hC 4 3 rfl dX6_splits_58 ?_
        refine z_cvV (pc := 60) (st := []) hC y_X6_adds q1580 [.inl (.int v4)] rfl (hk 34 rfl) rfl rfl (c_X6_adds hC.2.2.2.2.2.2.1 hk) rfl ⟨rfl, rfl, (Nat.le_of_ble_eq_true rfl), (Nat.le_of_ble_eq_true rfl)⟩ (Nat.le_of_ble_eq_true rfl) dX6_splits_60 (fun r8 d9 => ?_)
        exact z_sub [0, 1, 2, 3] rfl (r_Mo_splits_63 hC hk k20 h20 _ ih v2 v3 v4 d9)
theorem r_Mo_splits_20 {C : Cxt} {G : Geo} {M : Mem} {k : Nat} (hC : Cx C cX6_splits 5 "FrameHeirsModel" none rm_X6_splits G) (hk : LMo G k) : ∀ (n : Nat) (v2 : Int32) (v3 : Int32) (d : Sl), Rz C 5 G (setS M k) (poM avV (setS M k)) 20 [(0, .inr (k, 34)), (2, .inl (.int v2)), (3, .inl (.int v3))] [] d (Mo_splits_20 n v2 v3 d) := by
  intro n
  induction n with
  | zero => intros; exact z_none
  | succ n ih =>
    intro v2 v3 d
    rw [Mo_splits_20]
    refine z_iload_n (pc := 20) hC 3 rfl 2 rfl dX6_splits_20 ?_
    refine z_aload_n (pc := 21) hC 0 rfl 0 rfl dX6_splits_21 ?_
    refine zs_geti (pc := 22) hC (hk 34 rfl) f_34_28 q1298 dX6_splits_22 ?_
    refine z_icmp_ge (pc := 25) hC 80 rfl dX6_splits_25 ?_ ?_
    · refine z_aload_n (pc := 80) hC 0 rfl 0 rfl dX6_splits_80 ?_
      refine zs_geti (pc := 81) hC (hk 34 rfl) f_34_28 q1298 dX6_splits_81 ?_
      refine z_istore_n (pc := 84) (ls1 := fun v => [(3, .inl (.int v)), (0, .inr (k, 34)), (2, .inl (.int v2))]) hC 3 rfl (by decide) (fun v => rfl) dX6_splits_84 (fun v3_10 => ?_)
      refine z_iload_n (pc := 85) hC 3 rfl 0 rfl dX6_splits_85 ?_
      refine z_iconst (pc := 86) hC (1 : Int32) rfl dX6_splits_86 ?_
      refine z_isub (pc := 87) hC dX6_splits_87 ?_
      refine z_istore (pc := 88) (ls1 := fun v => [(4, .inl (.int v)), (3, .inl (.int v3_10)), (0, .inr (k, 34)), (2, .inl (.int v2))]) hC 4 (by decide) (fun v => rfl) dX6_splits_88 (fun v4_11 => ?_)
      exact z_sub [2, 0] rfl (r_Mo_splits_90 hC hk FU v4_11 d)
    · refine z_aload_n (pc := 28) hC 0 rfl 0 rfl dX6_splits_28 ?_
      refine z_aload_n (pc := 29) hC 0 rfl 0 rfl dX6_splits_29 ?_
      refine z_getc (pc := 30) hC (hk 34 rfl) f_34_27 q1297 dX6_splits_30 ?_
      refine z_iload_n (pc := 33) hC 3 rfl 2 rfl dX6_splits_33 ?_
      refine zs_iald (pc := 34) hC (hk 46 rfl) rfl dX6_splits_34 ?_
      refine z_piV (pc := 35) (st := []) hC y_X6_firstOf q1584 [.inl (.int (d 46 (ix v3)))] rfl (hk 34 rfl) rfl rfl (c_X6_firstOf hC.2.2.2.2.2.2.1 hk) rfl ⟨rfl, rfl, (Nat.le_of_ble_eq_true rfl), (Nat.le_of_ble_eq_true rfl)⟩ (Nat.le_of_ble_eq_true rfl) dX6_splits_35 (fun r12 => ?_)
      refine z_istore (pc := 38) (ls1 := fun v => [(4, .inl (.int v)), (0, .inr (k, 34)), (2, .inl (.int v2)), (3, .inl (.int v3))]) hC 4 (by decide) (fun v => rfl) dX6_splits_38 (fun v4_13 => ?_)
      exact z_sub [1, 2, 3, 0] rfl (r_Mo_splits_40 hC hk _ ih FU v2 v3 v4_13 d)
theorem r_Mo_splits {C : Cxt} {G : Geo} {M : Mem} {k : Nat} (hC : Cx C cX6_splits 5 "FrameHeirsModel" none rm_X6_splits G) (hk : LMo G k) (d : Sl) (a1 : Int32) : Rz C 5 G (setS M k) (poM avV (setS M k)) 0 [(0, .inr (k, 34)), (1, .inl (.int a1))] [] d (Mo_splits d a1) := by
  unfold Mo_splits
  refine z_aload_n (pc := 0) hC 0 rfl 0 rfl dX6_splits_0 ?_
  refine z_iconst (pc := 1) hC (0 : Int32) rfl dX6_splits_1 ?_
  refine z_iload_n (pc := 2) hC 1 rfl 1 rfl dX6_splits_2 ?_
  refine z_iadd (pc := 3) hC dX6_splits_3 ?_
  refine z_piV (pc := 4) (st := []) hC y_X6_of q1262 [.inl (.int ((0 : Int32) + a1))] rfl (hk 34 rfl) rfl rfl (c_X6_of hC.2.2.2.2.2.2.1 hk) rfl ⟨rfl, rfl, (Nat.le_of_ble_eq_true rfl), (Nat.le_of_ble_eq_true rfl)⟩ (Nat.le_of_ble_eq_true rfl) dX6_splits_4 (fun r14 => ?_)
  refine z_istore_n (pc := 7) (ls1 := fun v => [(2, .inl (.int v)), (0, .inr (k, 34)), (1, .inl (.int a1))]) hC 2 rfl (by decide) (fun v => rfl) dX6_splits_7 (fun v2_15 => ?_)
  refine z_aload_n (pc := 8) hC 0 rfl 1 rfl dX6_splits_8 ?_
  refine z_iconst (pc := 9) hC (0 : Int32) rfl dX6_splits_9 ?_
  refine zs_puti (pc := 10) hC (hk 34 rfl) f_34_28 q1298 dX6_splits_10 (fun d16 => ?_)
  refine z_aload_n (pc := 13) hC 0 rfl 1 rfl dX6_splits_13 ?_
  refine z_iload_n (pc := 14) hC 1 rfl 2 rfl dX6_splits_14 ?_
  refine z_cvV (pc := 15) (st := []) hC y_X6_adds q1580 [.inl (.int a1)] rfl (hk 34 rfl) rfl rfl (c_X6_adds hC.2.2.2.2.2.2.1 hk) rfl ⟨rfl, rfl, (Nat.le_of_ble_eq_true rfl), (Nat.le_of_ble_eq_true rfl)⟩ (Nat.le_of_ble_eq_true rfl) dX6_splits_15 (fun r17 d18 => ?_)
  refine z_iconst (pc := 18) hC (0 : Int32) rfl dX6_splits_18 ?_
  refine z_istore_n (pc := 19) (ls1 := fun v => [(3, .inl (.int v)), (2, .inl (.int v2_15)), (0, .inr (k, 34)), (1, .inl (.int a1))]) hC 3 rfl (by decide) (fun v => rfl) dX6_splits_19 (fun v3_19 => ?_)
  exact z_sub [2, 1, 0] rfl (r_Mo_splits_20 hC hk FU v2_15 v3_19 d18)
theorem c_X6_splits {G : Geo} {M : Mem} {k : Nat} (hG : GOk G) (hk : LMo G k) {d : Sl} {a1 : Int32} (l : Launch) (r : Unit) (d1 : Sl) (h : Mo_splits d a1 = some (r, d1)) : Mt l yX6_splits cX6_splits 5 none rm_X6_splits G [.inr (k, 34), .inl (.int a1)] ((setS M k) d) (avV r) ((setS M k) d1) :=
  mt_of (mem := (setS M k)) (po := poM avV (setS M k)) (x0 := d) (t := (r, d1)) rfl hG [.inr (k, 34), .inl (.int a1)] (Nat.le_of_ble_eq_true rfl) rfl (fun C hC => r_Mo_splits hC hk d a1) h
-- FrameHeirsModel.cuts(III)V
abbrev rm_X6_cuts : Room := { frames := 5, cells := 0, slots := 0, locals := 127 }
theorem dX6_cuts_0 : decode cX6_cuts 0 = .ok (.aload_n 0, 1) := by decide +kernel
theorem dX6_cuts_1 : decode cX6_cuts 1 = .ok (.iload_n 1, 1) := by decide +kernel
theorem dX6_cuts_2 : decode cX6_cuts 2 = .ok (.iload_n 2, 1) := by decide +kernel
theorem dX6_cuts_3 : decode cX6_cuts 3 = .ok (.invokevirtual 199, 3) := by decide +kernel
theorem dX6_cuts_6 : decode cX6_cuts 6 = .ok (.istore 4, 2) := by decide +kernel
theorem dX6_cuts_8 : decode cX6_cuts 8 = .ok (.iload 4, 2) := by decide +kernel
theorem dX6_cuts_10 : decode cX6_cuts 10 = .ok (.ifCond .lt 30, 3) := by decide +kernel
theorem dX6_cuts_13 : decode cX6_cuts 13 = .ok (.aload_n 0, 1) := by decide +kernel
theorem dX6_cuts_14 : decode cX6_cuts 14 = .ok (.iload 4, 2) := by decide +kernel
theorem dX6_cuts_16 : decode cX6_cuts 16 = .ok (.invokevirtual 196, 3) := by decide +kernel
theorem dX6_cuts_19 : decode cX6_cuts 19 = .ok (.iload_n 3, 1) := by decide +kernel
theorem dX6_cuts_20 : decode cX6_cuts 20 = .ok (.if_icmp .le 20, 3) := by decide +kernel
theorem dX6_cuts_23 : decode cX6_cuts 23 = .ok (.aload_n 0, 1) := by decide +kernel
theorem dX6_cuts_24 : decode cX6_cuts 24 = .ok (.iload 4, 2) := by decide +kernel
theorem dX6_cuts_26 : decode cX6_cuts 26 = .ok (.invokevirtual 246, 3) := by decide +kernel
theorem dX6_cuts_29 : decode cX6_cuts 29 = .ok (.aload_n 0, 1) := by decide +kernel
theorem dX6_cuts_30 : decode cX6_cuts 30 = .ok (.iload_n 1, 1) := by decide +kernel
theorem dX6_cuts_31 : decode cX6_cuts 31 = .ok (.iload_n 2, 1) := by decide +kernel
theorem dX6_cuts_32 : decode cX6_cuts 32 = .ok (.invokevirtual 199, 3) := by decide +kernel
theorem dX6_cuts_35 : decode cX6_cuts 35 = .ok (.istore 4, 2) := by decide +kernel
theorem dX6_cuts_37 : decode cX6_cuts 37 = .ok (.goto (-29), 3) := by decide +kernel
theorem dX6_cuts_40 : decode cX6_cuts 40 = .ok (.return_, 1) := by decide +kernel
def Mo_cuts_8 : Nat → Int32 → Int32 → Int32 → Int32 → Sl → Option (Unit × Sl)
  | 0, _, _, _, _, _ => none
  | n + 1, v1, v2, v3, v4, d =>
    if v4 < 0 then
      (some ((), d))
    else
      (bp (Mo_orderOf d v4) fun r1 =>
      if r1 ≤ v3 then
        (some ((), d))
      else
        (bd (Mo_splits d v4) fun r2 d3 =>
        bp (Mo_cover d3 v1 v2) fun r4 =>
        bnd r4 fun v4_5 =>
        Mo_cuts_8 n v1 v2 v3 v4_5 d3))
def Mo_cuts (d : Sl) (a1 : Int32) (a2 : Int32) (a3 : Int32) : Option (Unit × Sl) :=
  bp (Mo_cover d a1 a2) fun r6 =>
  bnd r6 fun v4_7 =>
  Mo_cuts_8 FU a1 a2 a3 v4_7 d
theorem y_X6_cuts : YV yX6_cuts cX6_cuts 5 none 3 := ⟨q1574, q91, q1575, q149, by decide +kernel, by decide +kernel, by decide +kernel, by decide +kernel⟩
theorem r_Mo_cuts_8 {C : Cxt} {G : Geo} {M : Mem} {k : Nat} (hC : Cx C cX6_cuts 5 "FrameHeirsModel" none rm_X6_cuts G) (hk : LMo G k) : ∀ (n : Nat) (v1 : Int32) (v2 : Int32) (v3 : Int32) (v4 : Int32) (d : Sl), Rz C 5 G (setS M k) (poM avV (setS M k)) 8 [(0, .inr (k, 34)), (1, .inl (.int v1)), (2, .inl (.int v2)), (3, .inl (.int v3)), (4, .inl (.int v4))] [] d (Mo_cuts_8 n v1 v2 v3 v4 d) := by
  intro n
  induction n with
  | zero => intros; exact z_none
  | succ n ih =>
    intro v1 v2 v3 v4 d
    rw [Mo_cuts_8]
    refine z_iload (pc := 8) hC 4 4 rfl dX6_cuts_8 ?_
    refine z_if_lt (pc := 10) hC 40 rfl dX6_cuts_10 ?_ ?_
    · exact z_vret (pc := 40) hC rfl dX6_cuts_40
    · refine z_aload_n (pc := 13) hC 0 rfl 0 rfl dX6_cuts_13 ?_
      refine z_iload (pc := 14) hC 4 4 rfl dX6_cuts_14 ?_
      refine z_piV (pc := 16) (st := []) hC y_X6_orderOf q1516 [.inl (.int v4)] rfl (hk 34 rfl) rfl rfl (c_X6_orderOf hC.2.2.2.2.2.2.1 hk) rfl ⟨rfl, rfl, (Nat.le_of_ble_eq_true rfl), (Nat.le_of_ble_eq_true rfl)⟩ (Nat.le_of_ble_eq_true rfl) dX6_cuts_16 (fun r1 => ?_)
      refine z_iload_n (pc := 19) hC 3 rfl 3 rfl dX6_cuts_19 ?_
      refine z_icmp_le (pc := 20) hC 40 rfl dX6_cuts_20 ?_ ?_
      · exact z_vret (pc := 40) hC rfl dX6_cuts_40
      · refine z_aload_n (pc := 23) hC 0 rfl 0 rfl dX6_cuts_23 ?_
        refine z_iload (pc := 24) hC 4 4 rfl dX6_cuts_24 ?_
        refine z_cvV (pc := 26) (st := []) hC y_X6_splits q1576 [.inl (.int v4)] rfl (hk 34 rfl) rfl rfl (c_X6_splits hC.2.2.2.2.2.2.1 hk) rfl ⟨rfl, rfl, (Nat.le_of_ble_eq_true rfl), (Nat.le_of_ble_eq_true rfl)⟩ (Nat.le_of_ble_eq_true rfl) dX6_cuts_26 (fun r2 d3 => ?_)
        refine z_aload_n (pc := 29) hC 0 rfl 0 rfl dX6_cuts_29 ?_
        refine z_iload_n (pc := 30) hC 1 rfl 1 rfl dX6_cuts_30 ?_
        refine z_iload_n (pc := 31) hC 2 rfl 2 rfl dX6_cuts_31 ?_
        refine z_piV (pc := 32) (st := []) hC y_X6_cover q1512 [.inl (.int v1), .inl (.int v2)] rfl (hk 34 rfl) rfl rfl (c_X6_cover hC.2.2.2.2.2.2.1 hk) rfl ⟨rfl, rfl, (Nat.le_of_ble_eq_true rfl), (Nat.le_of_ble_eq_true rfl)⟩ (Nat.le_of_ble_eq_true rfl) dX6_cuts_32 (fun r4 => ?_)
        refine z_istore (pc := 35) (ls1 := fun v => [(4, .inl (.int v)), (0, .inr (k, 34)), (1, .inl (.int v1)), (2, .inl (.int v2)), (3, .inl (.int v3))]) hC 4 (by decide) (fun v => rfl) dX6_cuts_35 (fun v4_5 => ?_)
        refine z_goto (pc := 37) hC 8 rfl dX6_cuts_37 ?_
        exact z_sub [1, 2, 3, 4, 0] rfl (ih v1 v2 v3 v4_5 d3)
theorem r_Mo_cuts {C : Cxt} {G : Geo} {M : Mem} {k : Nat} (hC : Cx C cX6_cuts 5 "FrameHeirsModel" none rm_X6_cuts G) (hk : LMo G k) (d : Sl) (a1 : Int32) (a2 : Int32) (a3 : Int32) : Rz C 5 G (setS M k) (poM avV (setS M k)) 0 [(0, .inr (k, 34)), (1, .inl (.int a1)), (2, .inl (.int a2)), (3, .inl (.int a3))] [] d (Mo_cuts d a1 a2 a3) := by
  unfold Mo_cuts
  refine z_aload_n (pc := 0) hC 0 rfl 0 rfl dX6_cuts_0 ?_
  refine z_iload_n (pc := 1) hC 1 rfl 1 rfl dX6_cuts_1 ?_
  refine z_iload_n (pc := 2) hC 2 rfl 2 rfl dX6_cuts_2 ?_
  refine z_piV (pc := 3) (st := []) hC y_X6_cover q1512 [.inl (.int a1), .inl (.int a2)] rfl (hk 34 rfl) rfl rfl (c_X6_cover hC.2.2.2.2.2.2.1 hk) rfl ⟨rfl, rfl, (Nat.le_of_ble_eq_true rfl), (Nat.le_of_ble_eq_true rfl)⟩ (Nat.le_of_ble_eq_true rfl) dX6_cuts_3 (fun r6 => ?_)
  refine z_istore (pc := 6) (ls1 := fun v => [(4, .inl (.int v)), (0, .inr (k, 34)), (1, .inl (.int a1)), (2, .inl (.int a2)), (3, .inl (.int a3))]) hC 4 (by decide) (fun v => rfl) dX6_cuts_6 (fun v4_7 => ?_)
  exact z_sub [1, 2, 3, 4, 0] rfl (r_Mo_cuts_8 hC hk FU a1 a2 a3 v4_7 d)
theorem c_X6_cuts {G : Geo} {M : Mem} {k : Nat} (hG : GOk G) (hk : LMo G k) {d : Sl} {a1 : Int32} {a2 : Int32} {a3 : Int32} (l : Launch) (r : Unit) (d1 : Sl) (h : Mo_cuts d a1 a2 a3 = some (r, d1)) : Mt l yX6_cuts cX6_cuts 5 none rm_X6_cuts G [.inr (k, 34), .inl (.int a1), .inl (.int a2), .inl (.int a3)] ((setS M k) d) (avV r) ((setS M k) d1) :=
  mt_of (mem := (setS M k)) (po := poM avV (setS M k)) (x0 := d) (t := (r, d1)) rfl hG [.inr (k, 34), .inl (.int a1), .inl (.int a2), .inl (.int a3)] (Nat.le_of_ble_eq_true rfl) rfl (fun C hC => r_Mo_cuts hC hk d a1 a2 a3) h
-- FrameHeirsModel.isFit(II)Z
abbrev rm_X6_isFit : Room := { frames := 2, cells := 0, slots := 0, locals := 41 }
theorem dX6_isFit_0 : decode cX6_isFit 0 = .ok (.aload_n 0, 1) := by decide +kernel
theorem dX6_isFit_1 : decode cX6_isFit 1 = .ok (.iload_n 1, 1) := by decide +kernel
theorem dX6_isFit_2 : decode cX6_isFit 2 = .ok (.invokevirtual 252, 3) := by decide +kernel
theorem dX6_isFit_5 : decode cX6_isFit 5 = .ok (.ifCond .eq 15, 3) := by decide +kernel
theorem dX6_isFit_8 : decode cX6_isFit 8 = .ok (.iload_n 1, 1) := by decide +kernel
theorem dX6_isFit_9 : decode cX6_isFit 9 = .ok (.iconst 1, 1) := by decide +kernel
theorem dX6_isFit_10 : decode cX6_isFit 10 = .ok (.iload_n 2, 1) := by decide +kernel
theorem dX6_isFit_11 : decode cX6_isFit 11 = .ok (.ishl, 1) := by decide +kernel
theorem dX6_isFit_12 : decode cX6_isFit 12 = .ok (.irem, 1) := by decide +kernel
theorem dX6_isFit_13 : decode cX6_isFit 13 = .ok (.ifCond .ne 7, 3) := by decide +kernel
theorem dX6_isFit_16 : decode cX6_isFit 16 = .ok (.iconst 1, 1) := by decide +kernel
theorem dX6_isFit_17 : decode cX6_isFit 17 = .ok (.goto 4, 3) := by decide +kernel
theorem dX6_isFit_20 : decode cX6_isFit 20 = .ok (.iconst 0, 1) := by decide +kernel
theorem dX6_isFit_21 : decode cX6_isFit 21 = .ok (.ireturn, 1) := by decide +kernel
def Mo_isFit (d : Sl) (a1 : Int32) (a2 : Int32) : Option Int32 :=
  bp (Mo_isPlace d a1) fun r1 =>
  if r1 = 0 then
    (some (0 : Int32))
  else
    (if ¬ ((1 : Int32) <<< (a2 &&& 31)) = 0 then
    if (a1 - a1 / ((1 : Int32) <<< (a2 &&& 31)) * ((1 : Int32) <<< (a2 &&& 31))) = 0 then
      (some (1 : Int32))
    else
      (some (0 : Int32))
    else none)
theorem y_X6_isFit : YV yX6_isFit cX6_isFit 3 (some .boolean) 2 := ⟨q1494, q72, q1495, q149, by decide +kernel, by decide +kernel, by decide +kernel, by decide +kernel⟩
theorem r_Mo_isFit {C : Cxt} {G : Geo} {M : Mem} {k : Nat} (hC : Cx C cX6_isFit 3 "FrameHeirsModel" (some .boolean) rm_X6_isFit G) (hk : LMo G k) (d : Sl) (a1 : Int32) (a2 : Int32) : Rz C 3 G (setS M k) (poP avI ((setS M k) d)) 0 [(0, .inr (k, 34)), (1, .inl (.int a1)), (2, .inl (.int a2))] [] d (Mo_isFit d a1 a2) := by
  unfold Mo_isFit
  refine z_aload_n (pc := 0) hC 0 rfl 0 rfl dX6_isFit_0 ?_
  refine z_iload_n (pc := 1) hC 1 rfl 1 rfl dX6_isFit_1 ?_
  refine z_piV (pc := 2) (st := []) hC y_X6_isPlace q1496 [.inl (.int a1)] rfl (hk 34 rfl) rfl rfl (c_X6_isPlace hC.2.2.2.2.2.2.1 hk) rfl ⟨rfl, rfl, (Nat.le_of_ble_eq_true rfl), (Nat.le_of_ble_eq_true rfl)⟩ (Nat.le_of_ble_eq_true rfl) dX6_isFit_2 (fun r1 => ?_)
  refine z_if_eq (pc := 5) hC 20 rfl dX6_isFit_5 ?_ ?_
  · refine z_iconst (pc := 20) hC (0 : Int32) rfl dX6_isFit_20 ?_
    exact z_zret (pc := 21) hC rfl rfl dX6_isFit_21
  · refine z_iload_n (pc := 8) hC 1 rfl 1 rfl dX6_isFit_8 ?_
    refine z_iconst (pc := 9) hC (1 : Int32) rfl dX6_isFit_9 ?_
    refine z_iload_n (pc := 10) hC 2 rfl 2 rfl dX6_isFit_10 ?_
    refine z_ishl (pc := 11) hC dX6_isFit_11 ?_
    refine z_irem (pc := 12) hC dX6_isFit_12 ?_
    refine z_if_ne (pc := 13) hC 20 rfl dX6_isFit_13 ?_ ?_
    · refine z_iconst (pc := 20) hC (0 : Int32) rfl dX6_isFit_20 ?_
      exact z_zret (pc := 21) hC rfl rfl dX6_isFit_21
    · refine z_iconst (pc := 16) hC (1 : Int32) rfl dX6_isFit_16 ?_
      refine z_goto (pc := 17) hC 21 rfl dX6_isFit_17 ?_
      exact z_zret (pc := 21) hC rfl rfl dX6_isFit_21
theorem c_X6_isFit {G : Geo} {M : Mem} {k : Nat} (hG : GOk G) (hk : LMo G k) {d : Sl} {a1 : Int32} {a2 : Int32} (l : Launch) (r : Int32) (h : Mo_isFit d a1 a2 = some r) : Mt l yX6_isFit cX6_isFit 3 (some .boolean) rm_X6_isFit G [.inr (k, 34), .inl (.int a1), .inl (.int a2)] ((setS M k) d) (avI r) ((setS M k) d) :=
  mt_of (mem := (setS M k)) (po := poP avI ((setS M k) d)) (x0 := d) (t := r) rfl hG [.inr (k, 34), .inl (.int a1), .inl (.int a2)] (Nat.le_of_ble_eq_true rfl) rfl (fun C hC => r_Mo_isFit hC hk d a1 a2) h
-- FrameHeirsModel.isRegion(I)Z
abbrev rm_X6_isRegion : Room := { frames := 3, cells := 0, slots := 0, locals := 63 }
theorem dX6_isRegion_0 : decode cX6_isRegion 0 = .ok (.iload_n 1, 1) := by decide +kernel
theorem dX6_isRegion_1 : decode cX6_isRegion 1 = .ok (.ifCond .ge 5, 3) := by decide +kernel
theorem dX6_isRegion_4 : decode cX6_isRegion 4 = .ok (.iconst 0, 1) := by decide +kernel
theorem dX6_isRegion_5 : decode cX6_isRegion 5 = .ok (.ireturn, 1) := by decide +kernel
theorem dX6_isRegion_6 : decode cX6_isRegion 6 = .ok (.iload_n 1, 1) := by decide +kernel
theorem dX6_isRegion_7 : decode cX6_isRegion 7 = .ok (.iconst 4, 1) := by decide +kernel
theorem dX6_isRegion_8 : decode cX6_isRegion 8 = .ok (.idiv, 1) := by decide +kernel
theorem dX6_isRegion_9 : decode cX6_isRegion 9 = .ok (.istore_n 2, 1) := by decide +kernel
theorem dX6_isRegion_10 : decode cX6_isRegion 10 = .ok (.aload_n 0, 1) := by decide +kernel
theorem dX6_isRegion_11 : decode cX6_isRegion 11 = .ok (.iload_n 2, 1) := by decide +kernel
theorem dX6_isRegion_12 : decode cX6_isRegion 12 = .ok (.iload_n 1, 1) := by decide +kernel
theorem dX6_isRegion_13 : decode cX6_isRegion 13 = .ok (.iconst 4, 1) := by decide +kernel
theorem dX6_isRegion_14 : decode cX6_isRegion 14 = .ok (.irem, 1) := by decide +kernel
theorem dX6_isRegion_15 : decode cX6_isRegion 15 = .ok (.invokevirtual 249, 3) := by decide +kernel
theorem dX6_isRegion_18 : decode cX6_isRegion 18 = .ok (.ireturn, 1) := by decide +kernel
def Mo_isRegion (d : Sl) (a1 : Int32) : Option Int32 :=
  if 0 ≤ a1 then
    (if ¬ (4 : Int32) = 0 then
    bnd (a1 / (4 : Int32)) fun v2_1 =>
    if ¬ (4 : Int32) = 0 then
    bp (Mo_isFit d v2_1 (a1 - a1 / (4 : Int32) * (4 : Int32))) fun r2 =>
    if r2 = 0 ∨ r2 = 1 then some r2 else none
    else none
    else none)
  else
    (some (0 : Int32))
theorem y_X6_isRegion : YV yX6_isRegion cX6_isRegion 3 (some .boolean) 1 := ⟨q1490, q71, q1491, q149, by decide +kernel, by decide +kernel, by decide +kernel, by decide +kernel⟩
theorem r_Mo_isRegion {C : Cxt} {G : Geo} {M : Mem} {k : Nat} (hC : Cx C cX6_isRegion 3 "FrameHeirsModel" (some .boolean) rm_X6_isRegion G) (hk : LMo G k) (d : Sl) (a1 : Int32) : Rz C 3 G (setS M k) (poP avI ((setS M k) d)) 0 [(0, .inr (k, 34)), (1, .inl (.int a1))] [] d (Mo_isRegion d a1) := by
  unfold Mo_isRegion
  refine z_iload_n (pc := 0) hC 1 rfl 1 rfl dX6_isRegion_0 ?_
  refine z_if_ge (pc := 1) hC 6 rfl dX6_isRegion_1 ?_ ?_
  · refine z_iload_n (pc := 6) hC 1 rfl 1 rfl dX6_isRegion_6 ?_
    refine z_iconst (pc := 7) hC (4 : Int32) rfl dX6_isRegion_7 ?_
    refine z_idiv (pc := 8) hC dX6_isRegion_8 ?_
    refine z_istore_n (pc := 9) (ls1 := fun v => [(2, .inl (.int v)), (0, .inr (k, 34)), (1, .inl (.int a1))]) hC 2 rfl (by decide) (fun v => rfl) dX6_isRegion_9 (fun v2_1 => ?_)
    refine z_aload_n (pc := 10) hC 0 rfl 1 rfl dX6_isRegion_10 ?_
    refine z_iload_n (pc := 11) hC 2 rfl 0 rfl dX6_isRegion_11 ?_
    refine z_iload_n (pc := 12) hC 1 rfl 2 rfl dX6_isRegion_12 ?_
    refine z_iconst (pc := 13) hC (4 : Int32) rfl dX6_isRegion_13 ?_
    refine z_irem (pc := 14) hC dX6_isRegion_14 ?_
    refine z_piV (pc := 15) (st := []) hC y_X6_isFit q1492 [.inl (.int v2_1), .inl (.int (a1 - a1 / (4 : Int32) * (4 : Int32)))] rfl (hk 34 rfl) rfl rfl (c_X6_isFit hC.2.2.2.2.2.2.1 hk) rfl ⟨rfl, rfl, (Nat.le_of_ble_eq_true rfl), (Nat.le_of_ble_eq_true rfl)⟩ (Nat.le_of_ble_eq_true rfl) dX6_isRegion_15 (fun r2 => ?_)
    exact z_zretG (pc := 18) hC rfl dX6_isRegion_18
  · refine z_iconst (pc := 4) hC (0 : Int32) rfl dX6_isRegion_4 ?_
    exact z_zret (pc := 5) hC rfl rfl dX6_isRegion_5
theorem c_X6_isRegion {G : Geo} {M : Mem} {k : Nat} (hG : GOk G) (hk : LMo G k) {d : Sl} {a1 : Int32} (l : Launch) (r : Int32) (h : Mo_isRegion d a1 = some r) : Mt l yX6_isRegion cX6_isRegion 3 (some .boolean) rm_X6_isRegion G [.inr (k, 34), .inl (.int a1)] ((setS M k) d) (avI r) ((setS M k) d) :=
  mt_of (mem := (setS M k)) (po := poP avI ((setS M k) d)) (x0 := d) (t := r) rfl hG [.inr (k, 34), .inl (.int a1)] (Nat.le_of_ble_eq_true rfl) rfl (fun C hC => r_Mo_isRegion hC hk d a1) h
-- FrameHeirsModel.looks(III)V
abbrev rm_X6_looks : Room := { frames := 2, cells := 0, slots := 0, locals := 45 }
theorem dX6_looks_0 : decode cX6_looks 0 = .ok (.aload_n 0, 1) := by decide +kernel
theorem dX6_looks_1 : decode cX6_looks 1 = .ok (.iconst 0, 1) := by decide +kernel
theorem dX6_looks_2 : decode cX6_looks 2 = .ok (.putfield 255, 3) := by decide +kernel
theorem dX6_looks_5 : decode cX6_looks 5 = .ok (.aload_n 0, 1) := by decide +kernel
theorem dX6_looks_6 : decode cX6_looks 6 = .ok (.iload_n 1, 1) := by decide +kernel
theorem dX6_looks_7 : decode cX6_looks 7 = .ok (.iload_n 2, 1) := by decide +kernel
theorem dX6_looks_8 : decode cX6_looks 8 = .ok (.invokevirtual 199, 3) := by decide +kernel
theorem dX6_looks_11 : decode cX6_looks 11 = .ok (.istore 4, 2) := by decide +kernel
theorem dX6_looks_13 : decode cX6_looks 13 = .ok (.iload 4, 2) := by decide +kernel
theorem dX6_looks_15 : decode cX6_looks 15 = .ok (.ifCond .lt 27, 3) := by decide +kernel
theorem dX6_looks_18 : decode cX6_looks 18 = .ok (.aload_n 0, 1) := by decide +kernel
theorem dX6_looks_19 : decode cX6_looks 19 = .ok (.iload 4, 2) := by decide +kernel
theorem dX6_looks_21 : decode cX6_looks 21 = .ok (.invokevirtual 196, 3) := by decide +kernel
theorem dX6_looks_24 : decode cX6_looks 24 = .ok (.iload_n 3, 1) := by decide +kernel
theorem dX6_looks_25 : decode cX6_looks 25 = .ok (.if_icmp .le 17, 3) := by decide +kernel
theorem dX6_looks_28 : decode cX6_looks 28 = .ok (.aload_n 0, 1) := by decide +kernel
theorem dX6_looks_29 : decode cX6_looks 29 = .ok (.getfield 52, 3) := by decide +kernel
theorem dX6_looks_32 : decode cX6_looks 32 = .ok (.iconst 0, 1) := by decide +kernel
theorem dX6_looks_33 : decode cX6_looks 33 = .ok (.iload 4, 2) := by decide +kernel
theorem dX6_looks_35 : decode cX6_looks 35 = .ok (.iastore, 1) := by decide +kernel
theorem dX6_looks_36 : decode cX6_looks 36 = .ok (.aload_n 0, 1) := by decide +kernel
theorem dX6_looks_37 : decode cX6_looks 37 = .ok (.iconst 1, 1) := by decide +kernel
theorem dX6_looks_38 : decode cX6_looks 38 = .ok (.putfield 255, 3) := by decide +kernel
theorem dX6_looks_41 : decode cX6_looks 41 = .ok (.return_, 1) := by decide +kernel
theorem dX6_looks_42 : decode cX6_looks 42 = .ok (.iconst 0, 1) := by decide +kernel
theorem dX6_looks_43 : decode cX6_looks 43 = .ok (.istore 5, 2) := by decide +kernel
theorem dX6_looks_45 : decode cX6_looks 45 = .ok (.iload 5, 2) := by decide +kernel
theorem dX6_looks_47 : decode cX6_looks 47 = .ok (.iconst 1, 1) := by decide +kernel
theorem dX6_looks_48 : decode cX6_looks 48 = .ok (.iload_n 3, 1) := by decide +kernel
theorem dX6_looks_49 : decode cX6_looks 49 = .ok (.ishl, 1) := by decide +kernel
theorem dX6_looks_50 : decode cX6_looks 50 = .ok (.if_icmp .ge 56, 3) := by decide +kernel
theorem dX6_looks_53 : decode cX6_looks 53 = .ok (.aload_n 0, 1) := by decide +kernel
theorem dX6_looks_54 : decode cX6_looks 54 = .ok (.bipush 32, 2) := by decide +kernel
theorem dX6_looks_56 : decode cX6_looks 56 = .ok (.iload_n 1, 1) := by decide +kernel
theorem dX6_looks_57 : decode cX6_looks 57 = .ok (.imul, 1) := by decide +kernel
theorem dX6_looks_58 : decode cX6_looks 58 = .ok (.iload_n 2, 1) := by decide +kernel
theorem dX6_looks_59 : decode cX6_looks 59 = .ok (.iadd, 1) := by decide +kernel
theorem dX6_looks_60 : decode cX6_looks 60 = .ok (.iload 5, 2) := by decide +kernel
theorem dX6_looks_62 : decode cX6_looks 62 = .ok (.iadd, 1) := by decide +kernel
theorem dX6_looks_63 : decode cX6_looks 63 = .ok (.invokevirtual 216, 3) := by decide +kernel
theorem dX6_looks_66 : decode cX6_looks 66 = .ok (.ifCond .ne 6, 3) := by decide +kernel
theorem dX6_looks_69 : decode cX6_looks 69 = .ok (.goto 31, 3) := by decide +kernel
theorem dX6_looks_72 : decode cX6_looks 72 = .ok (.aload_n 0, 1) := by decide +kernel
theorem dX6_looks_73 : decode cX6_looks 73 = .ok (.getfield 52, 3) := by decide +kernel
theorem dX6_looks_76 : decode cX6_looks 76 = .ok (.aload_n 0, 1) := by decide +kernel
theorem dX6_looks_77 : decode cX6_looks 77 = .ok (.getfield 255, 3) := by decide +kernel
theorem dX6_looks_80 : decode cX6_looks 80 = .ok (.bipush 32, 2) := by decide +kernel
theorem dX6_looks_82 : decode cX6_looks 82 = .ok (.iload_n 1, 1) := by decide +kernel
theorem dX6_looks_83 : decode cX6_looks 83 = .ok (.imul, 1) := by decide +kernel
theorem dX6_looks_84 : decode cX6_looks 84 = .ok (.iload_n 2, 1) := by decide +kernel
theorem dX6_looks_85 : decode cX6_looks 85 = .ok (.iadd, 1) := by decide +kernel
theorem dX6_looks_86 : decode cX6_looks 86 = .ok (.iload 5, 2) := by decide +kernel
theorem dX6_looks_88 : decode cX6_looks 88 = .ok (.iadd, 1) := by decide +kernel
theorem dX6_looks_89 : decode cX6_looks 89 = .ok (.iastore, 1) := by decide +kernel
theorem dX6_looks_90 : decode cX6_looks 90 = .ok (.aload_n 0, 1) := by decide +kernel
theorem dX6_looks_91 : decode cX6_looks 91 = .ok (.dup, 1) := by decide +kernel
theorem dX6_looks_92 : decode cX6_looks 92 = .ok (.getfield 255, 3) := by decide +kernel
theorem dX6_looks_95 : decode cX6_looks 95 = .ok (.iconst 1, 1) := by decide +kernel
theorem dX6_looks_96 : decode cX6_looks 96 = .ok (.iadd, 1) := by decide +kernel
theorem dX6_looks_97 : decode cX6_looks 97 = .ok (.putfield 255, 3) := by decide +kernel
theorem dX6_looks_100 : decode cX6_looks 100 = .ok (.iinc 5 1, 3) := by decide +kernel
theorem dX6_looks_103 : decode cX6_looks 103 = .ok (.goto (-58), 3) := by decide +kernel
theorem dX6_looks_106 : decode cX6_looks 106 = .ok (.return_, 1) := by decide +kernel
def Mo_looks_100 (k45 : Int32 → Int32 → Int32 → Int32 → Sl → Option (Unit × Sl)) (v1 : Int32) (v2 : Int32) (v3 : Int32) (v5 : Int32) (d : Sl) : Option (Unit × Sl) :=
  bnd (v5 + (1 : Int32)) fun v5_1 =>
  k45 v1 v2 v3 v5_1 d
def Mo_looks_45 : Nat → Int32 → Int32 → Int32 → Int32 → Sl → Option (Unit × Sl)
  | 0, _, _, _, _, _ => none
  | n + 1, v1, v2, v3, v5, d =>
    if ((1 : Int32) <<< (v3 &&& 31)) ≤ v5 then
      (some ((), d))
    else
      (bp (Mo_isDeed d ((((32 : Int32) * v1) + v2) + v5)) fun r2 =>
      if r2 = 0 then
        (Mo_looks_100 (Mo_looks_45 n) v1 v2 v3 v5 d)
      else
        (if inb (d 34 30) 8 then
        bnd (wr d 47 (ix (d 34 30)) ((((32 : Int32) * v1) + v2) + v5)) fun d3 =>
        bnd (wr d3 34 30 ((d3 34 30) + (1 : Int32))) fun d4 =>
        Mo_looks_100 (Mo_looks_45 n) v1 v2 v3 v5 d4
        else none))
def Mo_looks_42 (v1 : Int32) (v2 : Int32) (v3 : Int32) (d : Sl) : Option (Unit × Sl) :=
  bnd (0 : Int32) fun v5_5 =>
  Mo_looks_45 FU v1 v2 v3 v5_5 d
def Mo_looks (d : Sl) (a1 : Int32) (a2 : Int32) (a3 : Int32) : Option (Unit × Sl) :=
  bnd (wr d 34 30 (0 : Int32)) fun d6 =>
  bp (Mo_cover d6 a1 a2) fun r7 =>
  bnd r7 fun v4_8 =>
  if v4_8 < 0 then
    (Mo_looks_42 a1 a2 a3 d6)
  else
    (bp (Mo_orderOf d6 v4_8) fun r9 =>
    if r9 ≤ a3 then
      (Mo_looks_42 a1 a2 a3 d6)
    else
      (if inb (0 : Int32) 8 then
      bnd (wr d6 47 (ix (0 : Int32)) v4_8) fun d10 =>
      bnd (wr d10 34 30 (1 : Int32)) fun d11 =>
      some ((), d11)
      else none))
theorem y_X6_looks : YV yX6_looks cX6_looks 6 none 3 := ⟨q1510, q76, q1511, q149, by decide +kernel, by decide +kernel, by decide +kernel, by decide +kernel⟩
theorem r_Mo_looks_100 {C : Cxt} {G : Geo} {M : Mem} {k : Nat} (hC : Cx C cX6_looks 6 "FrameHeirsModel" none rm_X6_looks G) (hk : LMo G k) (k45 : Int32 → Int32 → Int32 → Int32 → Sl → Option (Unit × Sl)) (h45 : ∀ (v1 : Int32) (v2 : Int32) (v3 : Int32) (v5 : Int32) (d : Sl), Rz C 6 G (setS M k) (poM avV (setS M k)) 45 [(0, .inr (k, 34)), (1, .inl (.int v1)), (2, .inl (.int v2)), (3, .inl (.int v3)), (5, .inl (.int v5))] [] d (k45 v1 v2 v3 v5 d)) (v1 : Int32) (v2 : Int32) (v3 : Int32) (v5 : Int32) (d : Sl) : Rz C 6 G (setS M k) (poM avV (setS M k)) 100 [(0, .inr (k, 34)), (1, .inl (.int v1)), (2, .inl (.int v2)), (3, .inl (.int v3)), (5, .inl (.int v5))] [] d (Mo_looks_100 k45 v1 v2 v3 v5 d) := by
  unfold Mo_looks_100
  refine z_iinc (pc := 100) (ls1 := fun v => [(5, .inl (.int v)), (0, .inr (k, 34)), (1, .inl (.int v1)), (2, .inl (.int v2)), (3, .inl (.int v3))]) hC 5 4 (by decide) (1 : Int32) rfl rfl (fun v => rfl) dX6_looks_100 (fun v5_1 => ?_)
  refine z_goto (pc := 103) hC 45 rfl dX6_looks_103 ?_
  exact z_sub [1, 2, 3, 4, 0] rfl (h45 v1 v2 v3 v5_1 d)
theorem r_Mo_looks_45 {C : Cxt} {G : Geo} {M : Mem} {k : Nat} (hC : Cx C cX6_looks 6 "FrameHeirsModel" none rm_X6_looks G) (hk : LMo G k) : ∀ (n : Nat) (v1 : Int32) (v2 : Int32) (v3 : Int32) (v5 : Int32) (d : Sl), Rz C 6 G (setS M k) (poM avV (setS M k)) 45 [(0, .inr (k, 34)), (1, .inl (.int v1)), (2, .inl (.int v2)), (3, .inl (.int v3)), (5, .inl (.int v5))] [] d (Mo_looks_45 n v1 v2 v3 v5 d) := by
  intro n
  induction n with
  | zero => intros; exact z_none
  | succ n ih =>
    intro v1 v2 v3 v5 d
    rw [Mo_looks_45]
    refine z_iload (pc := 45) hC 5 4 rfl dX6_looks_45 ?_
    refine z_iconst (pc := 47) hC (1 : Int32) rfl dX6_looks_47 ?_
    refine z_iload_n (pc := 48) hC 3 rfl 3 rfl dX6_looks_48 ?_
    refine z_ishl (pc := 49) hC dX6_looks_49 ?_
    refine z_icmp_ge (pc := 50) hC 106 rfl dX6_looks_50 ?_ ?_
    · exact z_vret (pc := 106) hC rfl dX6_looks_106
    · refine z_aload_n (pc := 53) hC 0 rfl 0 rfl dX6_looks_53 ?_
      refine z_bipush (pc := 54) hC (32 : Int32) rfl dX6_looks_54 ?_
      refine z_iload_n (pc := 56) hC 1 rfl 1 rfl dX6_looks_56 ?_
      refine z_imul (pc := 57) hC dX6_looks_57 ?_
      refine z_iload_n (pc := 58) hC 2 rfl 2 rfl dX6_looks_58 ?_
      refine z_iadd (pc := 59) hC dX6_looks_59 ?_
      refine z_iload (pc := 60) hC 5 4 rfl dX6_looks_60 ?_
      refine z_iadd (pc := 62) hC dX6_looks_62 ?_
      refine z_piV (pc := 63) (st := []) hC y_X6_isDeed q1520 [.inl (.int ((((32 : Int32) * v1) + v2) + v5))] rfl (hk 34 rfl) rfl rfl (c_X6_isDeed hC.2.2.2.2.2.2.1 hk) rfl ⟨rfl, rfl, (Nat.le_of_ble_eq_true rfl), (Nat.le_of_ble_eq_true rfl)⟩ (Nat.le_of_ble_eq_true rfl) dX6_looks_63 (fun r2 => ?_)
      refine z_if_ne (pc := 66) hC 72 rfl dX6_looks_66 ?_ ?_
      · refine z_aload_n (pc := 72) hC 0 rfl 0 rfl dX6_looks_72 ?_
        refine z_getc (pc := 73) hC (hk 34 rfl) f_34_29 q1299 dX6_looks_73 ?_
        refine z_aload_n (pc := 76) hC 0 rfl 0 rfl dX6_looks_76 ?_
        refine zs_geti (pc := 77) hC (hk 34 rfl) f_34_30 q1300 dX6_looks_77 ?_
        refine z_bipush (pc := 80) hC (32 : Int32) rfl dX6_looks_80 ?_
        refine z_iload_n (pc := 82) hC 1 rfl 1 rfl dX6_looks_82 ?_
        refine z_imul (pc := 83) hC dX6_looks_83 ?_
        refine z_iload_n (pc := 84) hC 2 rfl 2 rfl dX6_looks_84 ?_
        refine z_iadd (pc := 85) hC dX6_looks_85 ?_
        refine z_iload (pc := 86) hC 5 4 rfl dX6_looks_86 ?_
        refine z_iadd (pc := 88) hC dX6_looks_88 ?_
        refine zs_iast (pc := 89) hC (hk 47 rfl) (by decide) rfl dX6_looks_89 (fun d3 => ?_)
        refine z_aload_n (pc := 90) hC 0 rfl 0 rfl dX6_looks_90 ?_
        refine z_dup (pc := 91) hC rfl dX6_looks_91 ?_
        refine zs_geti (pc := 92) hC (hk 34 rfl) f_34_30 q1300 dX6_looks_92 ?_
        refine z_iconst (pc := 95) hC (1 : Int32) rfl dX6_looks_95 ?_
        refine z_iadd (pc := 96) hC dX6_looks_96 ?_
        refine zs_puti (pc := 97) hC (hk 34 rfl) f_34_30 q1300 dX6_looks_97 (fun d4 => ?_)
        exact z_sub [0, 1, 2, 3, 4] rfl (r_Mo_looks_100 hC hk _ ih v1 v2 v3 v5 d4)
      · refine z_goto (pc := 69) hC 100 rfl dX6_looks_69 ?_
        exact z_sub [0, 1, 2, 3, 4] rfl (r_Mo_looks_100 hC hk _ ih v1 v2 v3 v5 d)
theorem r_Mo_looks_42 {C : Cxt} {G : Geo} {M : Mem} {k : Nat} (hC : Cx C cX6_looks 6 "FrameHeirsModel" none rm_X6_looks G) (hk : LMo G k) (v1 : Int32) (v2 : Int32) (v3 : Int32) (d : Sl) : Rz C 6 G (setS M k) (poM avV (setS M k)) 42 [(0, .inr (k, 34)), (1, .inl (.int v1)), (2, .inl (.int v2)), (3, .inl (.int v3))] [] d (Mo_looks_42 v1 v2 v3 d) := by
  unfold Mo_looks_42
  refine z_iconst (pc := 42) hC (0 : Int32) rfl dX6_looks_42 ?_
  refine z_istore (pc := 43) (ls1 := fun v => [(5, .inl (.int v)), (0, .inr (k, 34)), (1, .inl (.int v1)), (2, .inl (.int v2)), (3, .inl (.int v3))]) hC 5 (by decide) (fun v => rfl) dX6_looks_43 (fun v5_5 => ?_)
  exact z_sub [1, 2, 3, 4, 0] rfl (r_Mo_looks_45 hC hk FU v1 v2 v3 v5_5 d)
theorem r_Mo_looks {C : Cxt} {G : Geo} {M : Mem} {k : Nat} (hC : Cx C cX6_looks 6 "FrameHeirsModel" none rm_X6_looks G) (hk : LMo G k) (d : Sl) (a1 : Int32) (a2 : Int32) (a3 : Int32) : Rz C 6 G (setS M k) (poM avV (setS M k)) 0 [(0, .inr (k, 34)), (1, .inl (.int a1)), (2, .inl (.int a2)), (3, .inl (.int a3))] [] d (Mo_looks d a1 a2 a3) := by
  unfold Mo_looks
  refine z_aload_n (pc := 0) hC 0 rfl 0 rfl dX6_looks_0 ?_
  refine z_iconst (pc := 1) hC (0 : Int32) rfl dX6_looks_1 ?_
  refine zs_puti (pc := 2) hC (hk 34 rfl) f_34_30 q1300 dX6_looks_2 (fun d6 => ?_)
  refine z_aload_n (pc := 5) hC 0 rfl 0 rfl dX6_looks_5 ?_
  refine z_iload_n (pc := 6) hC 1 rfl 1 rfl dX6_looks_6 ?_
  refine z_iload_n (pc := 7) hC 2 rfl 2 rfl dX6_looks_7 ?_
  refine z_piV (pc := 8) (st := []) hC y_X6_cover q1512 [.inl (.int a1), .inl (.int a2)] rfl (hk 34 rfl) rfl rfl (c_X6_cover hC.2.2.2.2.2.2.1 hk) rfl ⟨rfl, rfl, (Nat.le_of_ble_eq_true rfl), (Nat.le_of_ble_eq_true rfl)⟩ (Nat.le_of_ble_eq_true rfl) dX6_looks_8 (fun r7 => ?_)
  refine z_istore (pc := 11) (ls1 := fun v => [(4, .inl (.int v)), (0, .inr (k, 34)), (1, .inl (.int a1)), (2, .inl (.int a2)), (3, .inl (.int a3))]) hC 4 (by decide) (fun v => rfl) dX6_looks_11 (fun v4_8 => ?_)
  refine z_iload (pc := 13) hC 4 0 rfl dX6_looks_13 ?_
  refine z_if_lt (pc := 15) hC 42 rfl dX6_looks_15 ?_ ?_
  · exact z_sub [1, 2, 3, 4] rfl (r_Mo_looks_42 hC hk a1 a2 a3 d6)
  · refine z_aload_n (pc := 18) hC 0 rfl 1 rfl dX6_looks_18 ?_
    refine z_iload (pc := 19) hC 4 0 rfl dX6_looks_19 ?_
    refine z_piV (pc := 21) (st := []) hC y_X6_orderOf q1516 [.inl (.int v4_8)] rfl (hk 34 rfl) rfl rfl (c_X6_orderOf hC.2.2.2.2.2.2.1 hk) rfl ⟨rfl, rfl, (Nat.le_of_ble_eq_true rfl), (Nat.le_of_ble_eq_true rfl)⟩ (Nat.le_of_ble_eq_true rfl) dX6_looks_21 (fun r9 => ?_)
    refine z_iload_n (pc := 24) hC 3 rfl 4 rfl dX6_looks_24 ?_
    refine z_icmp_le (pc := 25) hC 42 rfl dX6_looks_25 ?_ ?_
    · exact z_sub [1, 2, 3, 4] rfl (r_Mo_looks_42 hC hk a1 a2 a3 d6)
    · refine z_aload_n (pc := 28) hC 0 rfl 1 rfl dX6_looks_28 ?_
      refine z_getc (pc := 29) hC (hk 34 rfl) f_34_29 q1299 dX6_looks_29 ?_
      refine z_iconst (pc := 32) hC (0 : Int32) rfl dX6_looks_32 ?_
      refine z_iload (pc := 33) hC 4 0 rfl dX6_looks_33 ?_
      refine zs_iast (pc := 35) hC (hk 47 rfl) (by decide) rfl dX6_looks_35 (fun d10 => ?_)
      refine z_aload_n (pc := 36) hC 0 rfl 1 rfl dX6_looks_36 ?_
      refine z_iconst (pc := 37) hC (1 : Int32) rfl dX6_looks_37 ?_
      refine zs_puti (pc := 38) hC (hk 34 rfl) f_34_30 q1300 dX6_looks_38 (fun d11 => ?_)
      exact z_vret (pc := 41) hC rfl dX6_looks_41
theorem c_X6_looks {G : Geo} {M : Mem} {k : Nat} (hG : GOk G) (hk : LMo G k) {d : Sl} {a1 : Int32} {a2 : Int32} {a3 : Int32} (l : Launch) (r : Unit) (d1 : Sl) (h : Mo_looks d a1 a2 a3 = some (r, d1)) : Mt l yX6_looks cX6_looks 6 none rm_X6_looks G [.inr (k, 34), .inl (.int a1), .inl (.int a2), .inl (.int a3)] ((setS M k) d) (avV r) ((setS M k) d1) :=
  mt_of (mem := (setS M k)) (po := poM avV (setS M k)) (x0 := d) (t := (r, d1)) rfl hG [.inr (k, 34), .inl (.int a1), .inl (.int a2), .inl (.int a3)] (Nat.le_of_ble_eq_true rfl) rfl (fun C hC => r_Mo_looks hC hk d a1 a2 a3) h
-- FrameHeirsModel.isFree(III)Z
abbrev rm_X6_isFree : Room := { frames := 2, cells := 0, slots := 0, locals := 45 }
theorem dX6_isFree_0 : decode cX6_isFree 0 = .ok (.iconst 0, 1) := by decide +kernel
theorem dX6_isFree_1 : decode cX6_isFree 1 = .ok (.istore 4, 2) := by decide +kernel
theorem dX6_isFree_3 : decode cX6_isFree 3 = .ok (.iload 4, 2) := by decide +kernel
theorem dX6_isFree_5 : decode cX6_isFree 5 = .ok (.iconst 1, 1) := by decide +kernel
theorem dX6_isFree_6 : decode cX6_isFree 6 = .ok (.iload_n 3, 1) := by decide +kernel
theorem dX6_isFree_7 : decode cX6_isFree 7 = .ok (.ishl, 1) := by decide +kernel
theorem dX6_isFree_8 : decode cX6_isFree 8 = .ok (.if_icmp .ge 23, 3) := by decide +kernel
theorem dX6_isFree_11 : decode cX6_isFree 11 = .ok (.aload_n 0, 1) := by decide +kernel
theorem dX6_isFree_12 : decode cX6_isFree 12 = .ok (.iload_n 1, 1) := by decide +kernel
theorem dX6_isFree_13 : decode cX6_isFree 13 = .ok (.iload_n 2, 1) := by decide +kernel
theorem dX6_isFree_14 : decode cX6_isFree 14 = .ok (.iload 4, 2) := by decide +kernel
theorem dX6_isFree_16 : decode cX6_isFree 16 = .ok (.iadd, 1) := by decide +kernel
theorem dX6_isFree_17 : decode cX6_isFree 17 = .ok (.invokevirtual 199, 3) := by decide +kernel
theorem dX6_isFree_20 : decode cX6_isFree 20 = .ok (.ifCond .lt 5, 3) := by decide +kernel
theorem dX6_isFree_23 : decode cX6_isFree 23 = .ok (.iconst 0, 1) := by decide +kernel
theorem dX6_isFree_24 : decode cX6_isFree 24 = .ok (.ireturn, 1) := by decide +kernel
theorem dX6_isFree_25 : decode cX6_isFree 25 = .ok (.iinc 4 1, 3) := by decide +kernel
theorem dX6_isFree_28 : decode cX6_isFree 28 = .ok (.goto (-25), 3) := by decide +kernel
theorem dX6_isFree_31 : decode cX6_isFree 31 = .ok (.iconst 1, 1) := by decide +kernel
theorem dX6_isFree_32 : decode cX6_isFree 32 = .ok (.ireturn, 1) := by decide +kernel
def Mo_isFree_3 (d : Sl) : Nat → Int32 → Int32 → Int32 → Int32 → Option Int32
  | 0, _, _, _, _ => none
  | n + 1, v1, v2, v3, v4 =>
    if ((1 : Int32) <<< (v3 &&& 31)) ≤ v4 then
      (some (1 : Int32))
    else
      (bp (Mo_cover d v1 (v2 + v4)) fun r1 =>
      if r1 < 0 then
        (bnd (v4 + (1 : Int32)) fun v4_2 =>
        Mo_isFree_3 d n v1 v2 v3 v4_2)
      else
        (some (0 : Int32)))
def Mo_isFree (d : Sl) (a1 : Int32) (a2 : Int32) (a3 : Int32) : Option Int32 :=
  bnd (0 : Int32) fun v4_3 =>
  Mo_isFree_3 d FU a1 a2 a3 v4_3
theorem y_X6_isFree : YV yX6_isFree cX6_isFree 5 (some .boolean) 3 := ⟨q1538, q83, q1539, q149, by decide +kernel, by decide +kernel, by decide +kernel, by decide +kernel⟩
theorem r_Mo_isFree_3 {C : Cxt} {G : Geo} {M : Mem} {k : Nat} {d : Sl} (hC : Cx C cX6_isFree 5 "FrameHeirsModel" (some .boolean) rm_X6_isFree G) (hk : LMo G k) : ∀ (n : Nat) (v1 : Int32) (v2 : Int32) (v3 : Int32) (v4 : Int32), Rz C 5 G (setS M k) (poP avI ((setS M k) d)) 3 [(0, .inr (k, 34)), (1, .inl (.int v1)), (2, .inl (.int v2)), (3, .inl (.int v3)), (4, .inl (.int v4))] [] d (Mo_isFree_3 d n v1 v2 v3 v4) := by
  intro n
  induction n with
  | zero => intros; exact z_none
  | succ n ih =>
    intro v1 v2 v3 v4
    rw [Mo_isFree_3]
    refine z_iload (pc := 3) hC 4 4 rfl dX6_isFree_3 ?_
    refine z_iconst (pc := 5) hC (1 : Int32) rfl dX6_isFree_5 ?_
    refine z_iload_n (pc := 6) hC 3 rfl 3 rfl dX6_isFree_6 ?_
    refine z_ishl (pc := 7) hC dX6_isFree_7 ?_
    refine z_icmp_ge (pc := 8) hC 31 rfl dX6_isFree_8 ?_ ?_
    · refine z_iconst (pc := 31) hC (1 : Int32) rfl dX6_isFree_31 ?_
      exact z_zret (pc := 32) hC rfl rfl dX6_isFree_32
    · refine z_aload_n (pc := 11) hC 0 rfl 0 rfl dX6_isFree_11 ?_
      refine z_iload_n (pc := 12) hC 1 rfl 1 rfl dX6_isFree_12 ?_
      refine z_iload_n (pc := 13) hC 2 rfl 2 rfl dX6_isFree_13 ?_
      refine z_iload (pc := 14) hC 4 4 rfl dX6_isFree_14 ?_
      refine z_iadd (pc := 16) hC dX6_isFree_16 ?_
      refine z_piV (pc := 17) (st := []) hC y_X6_cover q1512 [.inl (.int v1), .inl (.int (v2 + v4))] rfl (hk 34 rfl) rfl rfl (c_X6_cover hC.2.2.2.2.2.2.1 hk) rfl ⟨rfl, rfl, (Nat.le_of_ble_eq_true rfl), (Nat.le_of_ble_eq_true rfl)⟩ (Nat.le_of_ble_eq_true rfl) dX6_isFree_17 (fun r1 => ?_)
      refine z_if_lt (pc := 20) hC 25 rfl dX6_isFree_20 ?_ ?_
      · refine z_iinc (pc := 25) (ls1 := fun v => [(4, .inl (.int v)), (0, .inr (k, 34)), (1, .inl (.int v1)), (2, .inl (.int v2)), (3, .inl (.int v3))]) hC 4 4 (by decide) (1 : Int32) rfl rfl (fun v => rfl) dX6_isFree_25 (fun v4_2 => ?_)
        refine z_goto (pc := 28) hC 3 rfl dX6_isFree_28 ?_
        exact z_sub [1, 2, 3, 4, 0] rfl (ih v1 v2 v3 v4_2)
      · refine z_iconst (pc := 23) hC (0 : Int32) rfl dX6_isFree_23 ?_
        exact z_zret (pc := 24) hC rfl rfl dX6_isFree_24
theorem r_Mo_isFree {C : Cxt} {G : Geo} {M : Mem} {k : Nat} (hC : Cx C cX6_isFree 5 "FrameHeirsModel" (some .boolean) rm_X6_isFree G) (hk : LMo G k) (d : Sl) (a1 : Int32) (a2 : Int32) (a3 : Int32) : Rz C 5 G (setS M k) (poP avI ((setS M k) d)) 0 [(0, .inr (k, 34)), (1, .inl (.int a1)), (2, .inl (.int a2)), (3, .inl (.int a3))] [] d (Mo_isFree d a1 a2 a3) := by
  unfold Mo_isFree
  refine z_iconst (pc := 0) hC (0 : Int32) rfl dX6_isFree_0 ?_
  refine z_istore (pc := 1) (ls1 := fun v => [(4, .inl (.int v)), (0, .inr (k, 34)), (1, .inl (.int a1)), (2, .inl (.int a2)), (3, .inl (.int a3))]) hC 4 (by decide) (fun v => rfl) dX6_isFree_1 (fun v4_3 => ?_)
  exact z_sub [1, 2, 3, 4, 0] rfl (r_Mo_isFree_3 hC hk FU a1 a2 a3 v4_3)
theorem c_X6_isFree {G : Geo} {M : Mem} {k : Nat} (hG : GOk G) (hk : LMo G k) {d : Sl} {a1 : Int32} {a2 : Int32} {a3 : Int32} (l : Launch) (r : Int32) (h : Mo_isFree d a1 a2 a3 = some r) : Mt l yX6_isFree cX6_isFree 5 (some .boolean) rm_X6_isFree G [.inr (k, 34), .inl (.int a1), .inl (.int a2), .inl (.int a3)] ((setS M k) d) (avI r) ((setS M k) d) :=
  mt_of (mem := (setS M k)) (po := poP avI ((setS M k) d)) (x0 := d) (t := r) rfl hG [.inr (k, 34), .inl (.int a1), .inl (.int a2), .inl (.int a3)] (Nat.le_of_ble_eq_true rfl) rfl (fun C hC => r_Mo_isFree hC hk d a1 a2 a3) h
-- FrameHeirsModel.pagesIn(I)I
abbrev rm_X6_pagesIn : Room := { frames := 3, cells := 0, slots := 0, locals := 63 }
theorem dX6_pagesIn_0 : decode cX6_pagesIn 0 = .ok (.iconst 0, 1) := by decide +kernel
theorem dX6_pagesIn_1 : decode cX6_pagesIn 1 = .ok (.istore_n 2, 1) := by decide +kernel
theorem dX6_pagesIn_2 : decode cX6_pagesIn 2 = .ok (.iconst 0, 1) := by decide +kernel
theorem dX6_pagesIn_3 : decode cX6_pagesIn 3 = .ok (.istore_n 3, 1) := by decide +kernel
theorem dX6_pagesIn_4 : decode cX6_pagesIn 4 = .ok (.iload_n 3, 1) := by decide +kernel
theorem dX6_pagesIn_5 : decode cX6_pagesIn 5 = .ok (.aload_n 0, 1) := by decide +kernel
theorem dX6_pagesIn_6 : decode cX6_pagesIn 6 = .ok (.invokevirtual 126, 3) := by decide +kernel
theorem dX6_pagesIn_9 : decode cX6_pagesIn 9 = .ok (.if_icmp .ge 22, 3) := by decide +kernel
theorem dX6_pagesIn_12 : decode cX6_pagesIn 12 = .ok (.iload_n 2, 1) := by decide +kernel
theorem dX6_pagesIn_13 : decode cX6_pagesIn 13 = .ok (.aload_n 0, 1) := by decide +kernel
theorem dX6_pagesIn_14 : decode cX6_pagesIn 14 = .ok (.bipush 32, 2) := by decide +kernel
theorem dX6_pagesIn_16 : decode cX6_pagesIn 16 = .ok (.iload_n 1, 1) := by decide +kernel
theorem dX6_pagesIn_17 : decode cX6_pagesIn 17 = .ok (.imul, 1) := by decide +kernel
theorem dX6_pagesIn_18 : decode cX6_pagesIn 18 = .ok (.iload_n 3, 1) := by decide +kernel
theorem dX6_pagesIn_19 : decode cX6_pagesIn 19 = .ok (.iadd, 1) := by decide +kernel
theorem dX6_pagesIn_20 : decode cX6_pagesIn 20 = .ok (.invokevirtual 258, 3) := by decide +kernel
theorem dX6_pagesIn_23 : decode cX6_pagesIn 23 = .ok (.iadd, 1) := by decide +kernel
theorem dX6_pagesIn_24 : decode cX6_pagesIn 24 = .ok (.istore_n 2, 1) := by decide +kernel
theorem dX6_pagesIn_25 : decode cX6_pagesIn 25 = .ok (.iinc 3 1, 3) := by decide +kernel
theorem dX6_pagesIn_28 : decode cX6_pagesIn 28 = .ok (.goto (-24), 3) := by decide +kernel
theorem dX6_pagesIn_31 : decode cX6_pagesIn 31 = .ok (.iload_n 2, 1) := by decide +kernel
theorem dX6_pagesIn_32 : decode cX6_pagesIn 32 = .ok (.ireturn, 1) := by decide +kernel
def Mo_pagesIn_4 (d : Sl) : Nat → Int32 → Int32 → Int32 → Option Int32
  | 0, _, _, _ => none
  | n + 1, v1, v2, v3 =>
    bp (Mo_size d) fun r1 =>
    if r1 ≤ v3 then
      (some v2)
    else
      (bp (Mo_pagesOf d (((32 : Int32) * v1) + v3)) fun r2 =>
      bnd (v2 + r2) fun v2_3 =>
      bnd (v3 + (1 : Int32)) fun v3_4 =>
      Mo_pagesIn_4 d n v1 v2_3 v3_4)
def Mo_pagesIn (d : Sl) (a1 : Int32) : Option Int32 :=
  bnd (0 : Int32) fun v2_5 =>
  bnd (0 : Int32) fun v3_6 =>
  Mo_pagesIn_4 d FU a1 v2_5 v3_6
theorem y_X6_pagesIn : YV yX6_pagesIn cX6_pagesIn 4 (some .int) 1 := ⟨q1546, q85, q1547, q149, by decide +kernel, by decide +kernel, by decide +kernel, by decide +kernel⟩
theorem r_Mo_pagesIn_4 {C : Cxt} {G : Geo} {M : Mem} {k : Nat} {d : Sl} (hC : Cx C cX6_pagesIn 4 "FrameHeirsModel" (some .int) rm_X6_pagesIn G) (hk : LMo G k) : ∀ (n : Nat) (v1 : Int32) (v2 : Int32) (v3 : Int32), Rz C 4 G (setS M k) (poP avI ((setS M k) d)) 4 [(0, .inr (k, 34)), (1, .inl (.int v1)), (2, .inl (.int v2)), (3, .inl (.int v3))] [] d (Mo_pagesIn_4 d n v1 v2 v3) := by
  intro n
  induction n with
  | zero => intros; exact z_none
  | succ n ih =>
    intro v1 v2 v3
    rw [Mo_pagesIn_4]
    refine z_iload_n (pc := 4) hC 3 rfl 3 rfl dX6_pagesIn_4 ?_
    refine z_aload_n (pc := 5) hC 0 rfl 0 rfl dX6_pagesIn_5 ?_
    refine z_piV (pc := 6) (st := [.inl (.int v3)]) hC y_X6_size q1250 [] rfl (hk 34 rfl) rfl rfl (c_X6_size hC.2.2.2.2.2.2.1 hk) rfl ⟨rfl, rfl, (Nat.le_of_ble_eq_true rfl), (Nat.le_of_ble_eq_true rfl)⟩ (Nat.le_of_ble_eq_true rfl) dX6_pagesIn_6 (fun r1 => ?_)
    refine z_icmp_ge (pc := 9) hC 31 rfl dX6_pagesIn_9 ?_ ?_
    · refine z_iload_n (pc := 31) hC 2 rfl 2 rfl dX6_pagesIn_31 ?_
      exact z_iret (pc := 32) hC rfl dX6_pagesIn_32
    · refine z_iload_n (pc := 12) hC 2 rfl 2 rfl dX6_pagesIn_12 ?_
      refine z_aload_n (pc := 13) hC 0 rfl 0 rfl dX6_pagesIn_13 ?_
      refine z_bipush (pc := 14) hC (32 : Int32) rfl dX6_pagesIn_14 ?_
      refine z_iload_n (pc := 16) hC 1 rfl 1 rfl dX6_pagesIn_16 ?_
      refine z_imul (pc := 17) hC dX6_pagesIn_17 ?_
      refine z_iload_n (pc := 18) hC 3 rfl 3 rfl dX6_pagesIn_18 ?_
      refine z_iadd (pc := 19) hC dX6_pagesIn_19 ?_
      refine z_piV (pc := 20) (st := [.inl (.int v2)]) hC y_X6_pagesOf q1540 [.inl (.int (((32 : Int32) * v1) + v3))] rfl (hk 34 rfl) rfl rfl (c_X6_pagesOf hC.2.2.2.2.2.2.1 hk) rfl ⟨rfl, rfl, (Nat.le_of_ble_eq_true rfl), (Nat.le_of_ble_eq_true rfl)⟩ (Nat.le_of_ble_eq_true rfl) dX6_pagesIn_20 (fun r2 => ?_)
      refine z_iadd (pc := 23) hC dX6_pagesIn_23 ?_
      refine z_istore_n (pc := 24) (ls1 := fun v => [(2, .inl (.int v)), (0, .inr (k, 34)), (1, .inl (.int v1)), (3, .inl (.int v3))]) hC 2 rfl (by decide) (fun v => rfl) dX6_pagesIn_24 (fun v2_3 => ?_)
      refine z_iinc (pc := 25) (ls1 := fun v => [(3, .inl (.int v)), (2, .inl (.int v2_3)), (0, .inr (k, 34)), (1, .inl (.int v1))]) hC 3 3 (by decide) (1 : Int32) rfl rfl (fun v => rfl) dX6_pagesIn_25 (fun v3_4 => ?_)
      refine z_goto (pc := 28) hC 4 rfl dX6_pagesIn_28 ?_
      exact z_sub [2, 3, 1, 0] rfl (ih v1 v2_3 v3_4)
theorem r_Mo_pagesIn {C : Cxt} {G : Geo} {M : Mem} {k : Nat} (hC : Cx C cX6_pagesIn 4 "FrameHeirsModel" (some .int) rm_X6_pagesIn G) (hk : LMo G k) (d : Sl) (a1 : Int32) : Rz C 4 G (setS M k) (poP avI ((setS M k) d)) 0 [(0, .inr (k, 34)), (1, .inl (.int a1))] [] d (Mo_pagesIn d a1) := by
  unfold Mo_pagesIn
  refine z_iconst (pc := 0) hC (0 : Int32) rfl dX6_pagesIn_0 ?_
  refine z_istore_n (pc := 1) (ls1 := fun v => [(2, .inl (.int v)), (0, .inr (k, 34)), (1, .inl (.int a1))]) hC 2 rfl (by decide) (fun v => rfl) dX6_pagesIn_1 (fun v2_5 => ?_)
  refine z_iconst (pc := 2) hC (0 : Int32) rfl dX6_pagesIn_2 ?_
  refine z_istore_n (pc := 3) (ls1 := fun v => [(3, .inl (.int v)), (2, .inl (.int v2_5)), (0, .inr (k, 34)), (1, .inl (.int a1))]) hC 3 rfl (by decide) (fun v => rfl) dX6_pagesIn_3 (fun v3_6 => ?_)
  exact z_sub [2, 3, 1, 0] rfl (r_Mo_pagesIn_4 hC hk FU a1 v2_5 v3_6)
theorem c_X6_pagesIn {G : Geo} {M : Mem} {k : Nat} (hG : GOk G) (hk : LMo G k) {d : Sl} {a1 : Int32} (l : Launch) (r : Int32) (h : Mo_pagesIn d a1 = some r) : Mt l yX6_pagesIn cX6_pagesIn 4 (some .int) rm_X6_pagesIn G [.inr (k, 34), .inl (.int a1)] ((setS M k) d) (avI r) ((setS M k) d) :=
  mt_of (mem := (setS M k)) (po := poP avI ((setS M k) d)) (x0 := d) (t := r) rfl hG [.inr (k, 34), .inl (.int a1)] (Nat.le_of_ble_eq_true rfl) rfl (fun C hC => r_Mo_pagesIn hC hk d a1) h
-- FrameHeirsModel.mostOf(I)I
abbrev rm_X6_mostOf : Room := { frames := 0, cells := 0, slots := 0, locals := 0 }
theorem dX6_mostOf_0 : decode cX6_mostOf 0 = .ok (.iload_n 1, 1) := by decide +kernel
theorem dX6_mostOf_1 : decode cX6_mostOf 1 = .ok (.ifCond .eq 12, 3) := by decide +kernel
theorem dX6_mostOf_4 : decode cX6_mostOf 4 = .ok (.aload_n 0, 1) := by decide +kernel
theorem dX6_mostOf_5 : decode cX6_mostOf 5 = .ok (.getfield 29, 3) := by decide +kernel
theorem dX6_mostOf_8 : decode cX6_mostOf 8 = .ok (.iload_n 1, 1) := by decide +kernel
theorem dX6_mostOf_9 : decode cX6_mostOf 9 = .ok (.iaload, 1) := by decide +kernel
theorem dX6_mostOf_10 : decode cX6_mostOf 10 = .ok (.ifCond .ne 8, 3) := by decide +kernel
theorem dX6_mostOf_13 : decode cX6_mostOf 13 = .ok (.bipush 32, 2) := by decide +kernel
theorem dX6_mostOf_15 : decode cX6_mostOf 15 = .ok (.goto 9, 3) := by decide +kernel
theorem dX6_mostOf_18 : decode cX6_mostOf 18 = .ok (.aload_n 0, 1) := by decide +kernel
theorem dX6_mostOf_19 : decode cX6_mostOf 19 = .ok (.getfield 29, 3) := by decide +kernel
theorem dX6_mostOf_22 : decode cX6_mostOf 22 = .ok (.iload_n 1, 1) := by decide +kernel
theorem dX6_mostOf_23 : decode cX6_mostOf 23 = .ok (.iaload, 1) := by decide +kernel
theorem dX6_mostOf_24 : decode cX6_mostOf 24 = .ok (.ireturn, 1) := by decide +kernel
def Mo_mostOf (d : Sl) (a1 : Int32) : Option Int32 :=
  if a1 = 0 then
    (some (32 : Int32))
  else
    (if inb a1 12 then
    if (d 40 (ix a1)) = 0 then
      (some (32 : Int32))
    else
      (if inb a1 12 then
      some (d 40 (ix a1))
      else none)
    else none)
theorem y_X6_mostOf : YV yX6_mostOf cX6_mostOf 2 (some .int) 1 := ⟨q1550, q86, q1551, q149, by decide +kernel, by decide +kernel, by decide +kernel, by decide +kernel⟩
theorem r_Mo_mostOf {C : Cxt} {G : Geo} {M : Mem} {k : Nat} (hC : Cx C cX6_mostOf 2 "FrameHeirsModel" (some .int) rm_X6_mostOf G) (hk : LMo G k) (d : Sl) (a1 : Int32) : Rz C 2 G (setS M k) (poP avI ((setS M k) d)) 0 [(0, .inr (k, 34)), (1, .inl (.int a1))] [] d (Mo_mostOf d a1) := by
  unfold Mo_mostOf
  refine z_iload_n (pc := 0) hC 1 rfl 1 rfl dX6_mostOf_0 ?_
  refine z_if_eq (pc := 1) hC 13 rfl dX6_mostOf_1 ?_ ?_
  · refine z_bipush (pc := 13) hC (32 : Int32) rfl dX6_mostOf_13 ?_
    refine z_goto (pc := 15) hC 24 rfl dX6_mostOf_15 ?_
    exact z_iret (pc := 24) hC rfl dX6_mostOf_24
  · refine z_aload_n (pc := 4) hC 0 rfl 0 rfl dX6_mostOf_4 ?_
    refine z_getc (pc := 5) hC (hk 34 rfl) f_34_18 q1288 dX6_mostOf_5 ?_
    refine z_iload_n (pc := 8) hC 1 rfl 1 rfl dX6_mostOf_8 ?_
    refine zs_iald (pc := 9) hC (hk 40 rfl) rfl dX6_mostOf_9 ?_
    refine z_if_ne (pc := 10) hC 18 rfl dX6_mostOf_10 ?_ ?_
    · refine z_aload_n (pc := 18) hC 0 rfl 0 rfl dX6_mostOf_18 ?_
      refine z_getc (pc := 19) hC (hk 34 rfl) f_34_18 q1288 dX6_mostOf_19 ?_
      refine z_iload_n (pc := 22) hC 1 rfl 1 rfl dX6_mostOf_22 ?_
      refine zs_iald (pc := 23) hC (hk 40 rfl) rfl dX6_mostOf_23 ?_
      exact z_iret (pc := 24) hC rfl dX6_mostOf_24
    · refine z_bipush (pc := 13) hC (32 : Int32) rfl dX6_mostOf_13 ?_
      refine z_goto (pc := 15) hC 24 rfl dX6_mostOf_15 ?_
      exact z_iret (pc := 24) hC rfl dX6_mostOf_24
theorem c_X6_mostOf {G : Geo} {M : Mem} {k : Nat} (hG : GOk G) (hk : LMo G k) {d : Sl} {a1 : Int32} (l : Launch) (r : Int32) (h : Mo_mostOf d a1 = some r) : Mt l yX6_mostOf cX6_mostOf 2 (some .int) rm_X6_mostOf G [.inr (k, 34), .inl (.int a1)] ((setS M k) d) (avI r) ((setS M k) d) :=
  mt_of (mem := (setS M k)) (po := poP avI ((setS M k) d)) (x0 := d) (t := r) rfl hG [.inr (k, 34), .inl (.int a1)] (Nat.le_of_ble_eq_true rfl) rfl (fun C hC => r_Mo_mostOf hC hk d a1) h
-- FrameHeirsModel.isBusyThere()Z
abbrev rm_X6_isBusyThere : Room := { frames := 3, cells := 0, slots := 0, locals := 64 }
theorem dX6_isBusyThere_0 : decode cX6_isBusyThere 0 = .ok (.iconst 0, 1) := by decide +kernel
theorem dX6_isBusyThere_1 : decode cX6_isBusyThere 1 = .ok (.istore_n 1, 1) := by decide +kernel
theorem dX6_isBusyThere_2 : decode cX6_isBusyThere 2 = .ok (.iload_n 1, 1) := by decide +kernel
theorem dX6_isBusyThere_3 : decode cX6_isBusyThere 3 = .ok (.aload_n 0, 1) := by decide +kernel
theorem dX6_isBusyThere_4 : decode cX6_isBusyThere 4 = .ok (.getfield 255, 3) := by decide +kernel
theorem dX6_isBusyThere_7 : decode cX6_isBusyThere 7 = .ok (.if_icmp .ge 24, 3) := by decide +kernel
theorem dX6_isBusyThere_10 : decode cX6_isBusyThere 10 = .ok (.aload_n 0, 1) := by decide +kernel
theorem dX6_isBusyThere_11 : decode cX6_isBusyThere 11 = .ok (.aload_n 0, 1) := by decide +kernel
theorem dX6_isBusyThere_12 : decode cX6_isBusyThere 12 = .ok (.getfield 52, 3) := by decide +kernel
theorem dX6_isBusyThere_15 : decode cX6_isBusyThere 15 = .ok (.iload_n 1, 1) := by decide +kernel
theorem dX6_isBusyThere_16 : decode cX6_isBusyThere 16 = .ok (.iaload, 1) := by decide +kernel
theorem dX6_isBusyThere_17 : decode cX6_isBusyThere 17 = .ok (.invokevirtual 213, 3) := by decide +kernel
theorem dX6_isBusyThere_20 : decode cX6_isBusyThere 20 = .ok (.ifCond .eq 5, 3) := by decide +kernel
theorem dX6_isBusyThere_23 : decode cX6_isBusyThere 23 = .ok (.iconst 1, 1) := by decide +kernel
theorem dX6_isBusyThere_24 : decode cX6_isBusyThere 24 = .ok (.ireturn, 1) := by decide +kernel
theorem dX6_isBusyThere_25 : decode cX6_isBusyThere 25 = .ok (.iinc 1 1, 3) := by decide +kernel
theorem dX6_isBusyThere_28 : decode cX6_isBusyThere 28 = .ok (.goto (-26), 3) := by decide +kernel
theorem dX6_isBusyThere_31 : decode cX6_isBusyThere 31 = .ok (.iconst 0, 1) := by decide +kernel
theorem dX6_isBusyThere_32 : decode cX6_isBusyThere 32 = .ok (.ireturn, 1) := by decide +kernel
def Mo_isBusyThere_2 (d : Sl) : Nat → Int32 → Option Int32
  | 0, _ => none
  | n + 1, v1 =>
    if (d 34 30) ≤ v1 then
      (some (0 : Int32))
    else
      (if inb v1 8 then
      bp (Mo_isBusy d (d 47 (ix v1))) fun r1 =>
      if r1 = 0 then
        (bnd (v1 + (1 : Int32)) fun v1_2 =>
        Mo_isBusyThere_2 d n v1_2)
      else
        (some (1 : Int32))
      else none)
def Mo_isBusyThere (d : Sl) : Option Int32 :=
  bnd (0 : Int32) fun v1_3 =>
  Mo_isBusyThere_2 d FU v1_3
theorem y_X6_isBusyThere : YV yX6_isBusyThere cX6_isBusyThere 2 (some .boolean) 0 := ⟨q1526, q80, q1527, q149, by decide +kernel, by decide +kernel, by decide +kernel, by decide +kernel⟩
theorem r_Mo_isBusyThere_2 {C : Cxt} {G : Geo} {M : Mem} {k : Nat} {d : Sl} (hC : Cx C cX6_isBusyThere 2 "FrameHeirsModel" (some .boolean) rm_X6_isBusyThere G) (hk : LMo G k) : ∀ (n : Nat) (v1 : Int32), Rz C 2 G (setS M k) (poP avI ((setS M k) d)) 2 [(0, .inr (k, 34)), (1, .inl (.int v1))] [] d (Mo_isBusyThere_2 d n v1) := by
  intro n
  induction n with
  | zero => intros; exact z_none
  | succ n ih =>
    intro v1
    rw [Mo_isBusyThere_2]
    refine z_iload_n (pc := 2) hC 1 rfl 1 rfl dX6_isBusyThere_2 ?_
    refine z_aload_n (pc := 3) hC 0 rfl 0 rfl dX6_isBusyThere_3 ?_
    refine zs_geti (pc := 4) hC (hk 34 rfl) f_34_30 q1300 dX6_isBusyThere_4 ?_
    refine z_icmp_ge (pc := 7) hC 31 rfl dX6_isBusyThere_7 ?_ ?_
    · refine z_iconst (pc := 31) hC (0 : Int32) rfl dX6_isBusyThere_31 ?_
      exact z_zret (pc := 32) hC rfl rfl dX6_isBusyThere_32
    · refine z_aload_n (pc := 10) hC 0 rfl 0 rfl dX6_isBusyThere_10 ?_
      refine z_aload_n (pc := 11) hC 0 rfl 0 rfl dX6_isBusyThere_11 ?_
      refine z_getc (pc := 12) hC (hk 34 rfl) f_34_29 q1299 dX6_isBusyThere_12 ?_
      refine z_iload_n (pc := 15) hC 1 rfl 1 rfl dX6_isBusyThere_15 ?_
      refine zs_iald (pc := 16) hC (hk 47 rfl) rfl dX6_isBusyThere_16 ?_
      refine z_piV (pc := 17) (st := []) hC y_X6_isBusy q1528 [.inl (.int (d 47 (ix v1)))] rfl (hk 34 rfl) rfl rfl (c_X6_isBusy hC.2.2.2.2.2.2.1 hk) rfl ⟨rfl, rfl, (Nat.le_of_ble_eq_true rfl), (Nat.le_of_ble_eq_true rfl)⟩ (Nat.le_of_ble_eq_true rfl) dX6_isBusyThere_17 (fun r1 => ?_)
      refine z_if_eq (pc := 20) hC 25 rfl dX6_isBusyThere_20 ?_ ?_
      · refine z_iinc (pc := 25) (ls1 := fun v => [(1, .inl (.int v)), (0, .inr (k, 34))]) hC 1 1 (by decide) (1 : Int32) rfl rfl (fun v => rfl) dX6_isBusyThere_25 (fun v1_2 => ?_)
        refine z_goto (pc := 28) hC 2 rfl dX6_isBusyThere_28 ?_
        exact z_sub [1, 0] rfl (ih v1_2)
      · refine z_iconst (pc := 23) hC (1 : Int32) rfl dX6_isBusyThere_23 ?_
        exact z_zret (pc := 24) hC rfl rfl dX6_isBusyThere_24
theorem r_Mo_isBusyThere {C : Cxt} {G : Geo} {M : Mem} {k : Nat} (hC : Cx C cX6_isBusyThere 2 "FrameHeirsModel" (some .boolean) rm_X6_isBusyThere G) (hk : LMo G k) (d : Sl) : Rz C 2 G (setS M k) (poP avI ((setS M k) d)) 0 [(0, .inr (k, 34))] [] d (Mo_isBusyThere d) := by
  unfold Mo_isBusyThere
  refine z_iconst (pc := 0) hC (0 : Int32) rfl dX6_isBusyThere_0 ?_
  refine z_istore_n (pc := 1) (ls1 := fun v => [(1, .inl (.int v)), (0, .inr (k, 34))]) hC 1 rfl (by decide) (fun v => rfl) dX6_isBusyThere_1 (fun v1_3 => ?_)
  exact z_sub [1, 0] rfl (r_Mo_isBusyThere_2 hC hk FU v1_3)
theorem c_X6_isBusyThere {G : Geo} {M : Mem} {k : Nat} (hG : GOk G) (hk : LMo G k) {d : Sl} (l : Launch) (r : Int32) (h : Mo_isBusyThere d = some r) : Mt l yX6_isBusyThere cX6_isBusyThere 2 (some .boolean) rm_X6_isBusyThere G [.inr (k, 34)] ((setS M k) d) (avI r) ((setS M k) d) :=
  mt_of (mem := (setS M k)) (po := poP avI ((setS M k) d)) (x0 := d) (t := r) rfl hG [.inr (k, 34)] (Nat.le_of_ble_eq_true rfl) rfl (fun C hC => r_Mo_isBusyThere hC hk d) h
-- FrameHeirsModel.isBusyBelowThere()Z
abbrev rm_X6_isBusyBelowThere : Room := { frames := 4, cells := 0, slots := 0, locals := 87 }
theorem dX6_isBusyBelowThere_0 : decode cX6_isBusyBelowThere 0 = .ok (.iconst 0, 1) := by decide +kernel
theorem dX6_isBusyBelowThere_1 : decode cX6_isBusyBelowThere 1 = .ok (.istore_n 1, 1) := by decide +kernel
theorem dX6_isBusyBelowThere_2 : decode cX6_isBusyBelowThere 2 = .ok (.iload_n 1, 1) := by decide +kernel
theorem dX6_isBusyBelowThere_3 : decode cX6_isBusyBelowThere 3 = .ok (.aload_n 0, 1) := by decide +kernel
theorem dX6_isBusyBelowThere_4 : decode cX6_isBusyBelowThere 4 = .ok (.getfield 255, 3) := by decide +kernel
theorem dX6_isBusyBelowThere_7 : decode cX6_isBusyBelowThere 7 = .ok (.if_icmp .ge 24, 3) := by decide +kernel
theorem dX6_isBusyBelowThere_10 : decode cX6_isBusyBelowThere 10 = .ok (.aload_n 0, 1) := by decide +kernel
theorem dX6_isBusyBelowThere_11 : decode cX6_isBusyBelowThere 11 = .ok (.aload_n 0, 1) := by decide +kernel
theorem dX6_isBusyBelowThere_12 : decode cX6_isBusyBelowThere 12 = .ok (.getfield 52, 3) := by decide +kernel
theorem dX6_isBusyBelowThere_15 : decode cX6_isBusyBelowThere 15 = .ok (.iload_n 1, 1) := by decide +kernel
theorem dX6_isBusyBelowThere_16 : decode cX6_isBusyBelowThere 16 = .ok (.iaload, 1) := by decide +kernel
theorem dX6_isBusyBelowThere_17 : decode cX6_isBusyBelowThere 17 = .ok (.invokevirtual 261, 3) := by decide +kernel
theorem dX6_isBusyBelowThere_20 : decode cX6_isBusyBelowThere 20 = .ok (.ifCond .eq 5, 3) := by decide +kernel
theorem dX6_isBusyBelowThere_23 : decode cX6_isBusyBelowThere 23 = .ok (.iconst 1, 1) := by decide +kernel
theorem dX6_isBusyBelowThere_24 : decode cX6_isBusyBelowThere 24 = .ok (.ireturn, 1) := by decide +kernel
theorem dX6_isBusyBelowThere_25 : decode cX6_isBusyBelowThere 25 = .ok (.iinc 1 1, 3) := by decide +kernel
theorem dX6_isBusyBelowThere_28 : decode cX6_isBusyBelowThere 28 = .ok (.goto (-26), 3) := by decide +kernel
theorem dX6_isBusyBelowThere_31 : decode cX6_isBusyBelowThere 31 = .ok (.iconst 0, 1) := by decide +kernel
theorem dX6_isBusyBelowThere_32 : decode cX6_isBusyBelowThere 32 = .ok (.ireturn, 1) := by decide +kernel
def Mo_isBusyBelowThere_2 (d : Sl) : Nat → Int32 → Option Int32
  | 0, _ => none
  | n + 1, v1 =>
    if (d 34 30) ≤ v1 then
      (some (0 : Int32))
    else
      (if inb v1 8 then
      bp (Mo_isBusyBelow d (d 47 (ix v1))) fun r1 =>
      if r1 = 0 then
        (bnd (v1 + (1 : Int32)) fun v1_2 =>
        Mo_isBusyBelowThere_2 d n v1_2)
      else
        (some (1 : Int32))
      else none)
def Mo_isBusyBelowThere (d : Sl) : Option Int32 :=
  bnd (0 : Int32) fun v1_3 =>
  Mo_isBusyBelowThere_2 d FU v1_3
theorem y_X6_isBusyBelowThere : YV yX6_isBusyBelowThere cX6_isBusyBelowThere 2 (some .boolean) 0 := ⟨q1562, q88, q1563, q149, by decide +kernel, by decide +kernel, by decide +kernel, by decide +kernel⟩
theorem r_Mo_isBusyBelowThere_2 {C : Cxt} {G : Geo} {M : Mem} {k : Nat} {d : Sl} (hC : Cx C cX6_isBusyBelowThere 2 "FrameHeirsModel" (some .boolean) rm_X6_isBusyBelowThere G) (hk : LMo G k) : ∀ (n : Nat) (v1 : Int32), Rz C 2 G (setS M k) (poP avI ((setS M k) d)) 2 [(0, .inr (k, 34)), (1, .inl (.int v1))] [] d (Mo_isBusyBelowThere_2 d n v1) := by
  intro n
  induction n with
  | zero => intros; exact z_none
  | succ n ih =>
    intro v1
    rw [Mo_isBusyBelowThere_2]
    refine z_iload_n (pc := 2) hC 1 rfl 1 rfl dX6_isBusyBelowThere_2 ?_
    refine z_aload_n (pc := 3) hC 0 rfl 0 rfl dX6_isBusyBelowThere_3 ?_
    refine zs_geti (pc := 4) hC (hk 34 rfl) f_34_30 q1300 dX6_isBusyBelowThere_4 ?_
    refine z_icmp_ge (pc := 7) hC 31 rfl dX6_isBusyBelowThere_7 ?_ ?_
    · refine z_iconst (pc := 31) hC (0 : Int32) rfl dX6_isBusyBelowThere_31 ?_
      exact z_zret (pc := 32) hC rfl rfl dX6_isBusyBelowThere_32
    · refine z_aload_n (pc := 10) hC 0 rfl 0 rfl dX6_isBusyBelowThere_10 ?_
      refine z_aload_n (pc := 11) hC 0 rfl 0 rfl dX6_isBusyBelowThere_11 ?_
      refine z_getc (pc := 12) hC (hk 34 rfl) f_34_29 q1299 dX6_isBusyBelowThere_12 ?_
      refine z_iload_n (pc := 15) hC 1 rfl 1 rfl dX6_isBusyBelowThere_15 ?_
      refine zs_iald (pc := 16) hC (hk 47 rfl) rfl dX6_isBusyBelowThere_16 ?_
      refine z_piV (pc := 17) (st := []) hC y_X6_isBusyBelow q1564 [.inl (.int (d 47 (ix v1)))] rfl (hk 34 rfl) rfl rfl (c_X6_isBusyBelow hC.2.2.2.2.2.2.1 hk) rfl ⟨rfl, rfl, (Nat.le_of_ble_eq_true rfl), (Nat.le_of_ble_eq_true rfl)⟩ (Nat.le_of_ble_eq_true rfl) dX6_isBusyBelowThere_17 (fun r1 => ?_)
      refine z_if_eq (pc := 20) hC 25 rfl dX6_isBusyBelowThere_20 ?_ ?_
      · refine z_iinc (pc := 25) (ls1 := fun v => [(1, .inl (.int v)), (0, .inr (k, 34))]) hC 1 1 (by decide) (1 : Int32) rfl rfl (fun v => rfl) dX6_isBusyBelowThere_25 (fun v1_2 => ?_)
        refine z_goto (pc := 28) hC 2 rfl dX6_isBusyBelowThere_28 ?_
        exact z_sub [1, 0] rfl (ih v1_2)
      · refine z_iconst (pc := 23) hC (1 : Int32) rfl dX6_isBusyBelowThere_23 ?_
        exact z_zret (pc := 24) hC rfl rfl dX6_isBusyBelowThere_24
theorem r_Mo_isBusyBelowThere {C : Cxt} {G : Geo} {M : Mem} {k : Nat} (hC : Cx C cX6_isBusyBelowThere 2 "FrameHeirsModel" (some .boolean) rm_X6_isBusyBelowThere G) (hk : LMo G k) (d : Sl) : Rz C 2 G (setS M k) (poP avI ((setS M k) d)) 0 [(0, .inr (k, 34))] [] d (Mo_isBusyBelowThere d) := by
  unfold Mo_isBusyBelowThere
  refine z_iconst (pc := 0) hC (0 : Int32) rfl dX6_isBusyBelowThere_0 ?_
  refine z_istore_n (pc := 1) (ls1 := fun v => [(1, .inl (.int v)), (0, .inr (k, 34))]) hC 1 rfl (by decide) (fun v => rfl) dX6_isBusyBelowThere_1 (fun v1_3 => ?_)
  exact z_sub [1, 0] rfl (r_Mo_isBusyBelowThere_2 hC hk FU v1_3)
theorem c_X6_isBusyBelowThere {G : Geo} {M : Mem} {k : Nat} (hG : GOk G) (hk : LMo G k) {d : Sl} (l : Launch) (r : Int32) (h : Mo_isBusyBelowThere d = some r) : Mt l yX6_isBusyBelowThere cX6_isBusyBelowThere 2 (some .boolean) rm_X6_isBusyBelowThere G [.inr (k, 34)] ((setS M k) d) (avI r) ((setS M k) d) :=
  mt_of (mem := (setS M k)) (po := poP avI ((setS M k) d)) (x0 := d) (t := r) rfl hG [.inr (k, 34)] (Nat.le_of_ble_eq_true rfl) rfl (fun C hC => r_Mo_isBusyBelowThere hC hk d) h
-- FrameHeirsModel.isPassing(IIII)Z
abbrev rm_X6_isPassing : Room := { frames := 4, cells := 0, slots := 0, locals := 85 }
theorem dX6_isPassing_0 : decode cX6_isPassing 0 = .ok (.aload_n 0, 1) := by decide +kernel
theorem dX6_isPassing_1 : decode cX6_isPassing 1 = .ok (.iload_n 1, 1) := by decide +kernel
theorem dX6_isPassing_2 : decode cX6_isPassing 2 = .ok (.invokevirtual 264, 3) := by decide +kernel
theorem dX6_isPassing_5 : decode cX6_isPassing 5 = .ok (.ifCond .eq 40, 3) := by decide +kernel
theorem dX6_isPassing_8 : decode cX6_isPassing 8 = .ok (.aload_n 0, 1) := by decide +kernel
theorem dX6_isPassing_9 : decode cX6_isPassing 9 = .ok (.iload_n 3, 1) := by decide +kernel
theorem dX6_isPassing_10 : decode cX6_isPassing 10 = .ok (.invokevirtual 264, 3) := by decide +kernel
theorem dX6_isPassing_13 : decode cX6_isPassing 13 = .ok (.ifCond .eq 32, 3) := by decide +kernel
theorem dX6_isPassing_16 : decode cX6_isPassing 16 = .ok (.iload_n 1, 1) := by decide +kernel
theorem dX6_isPassing_17 : decode cX6_isPassing 17 = .ok (.iload_n 3, 1) := by decide +kernel
theorem dX6_isPassing_18 : decode cX6_isPassing 18 = .ok (.if_icmp .eq 27, 3) := by decide +kernel
theorem dX6_isPassing_21 : decode cX6_isPassing 21 = .ok (.aload_n 0, 1) := by decide +kernel
theorem dX6_isPassing_22 : decode cX6_isPassing 22 = .ok (.iload_n 2, 1) := by decide +kernel
theorem dX6_isPassing_23 : decode cX6_isPassing 23 = .ok (.invokevirtual 267, 3) := by decide +kernel
theorem dX6_isPassing_26 : decode cX6_isPassing 26 = .ok (.ifCond .eq 19, 3) := by decide +kernel
theorem dX6_isPassing_29 : decode cX6_isPassing 29 = .ok (.aload_n 0, 1) := by decide +kernel
theorem dX6_isPassing_30 : decode cX6_isPassing 30 = .ok (.iload 4, 2) := by decide +kernel
theorem dX6_isPassing_32 : decode cX6_isPassing 32 = .ok (.iload_n 2, 1) := by decide +kernel
theorem dX6_isPassing_33 : decode cX6_isPassing 33 = .ok (.iconst 4, 1) := by decide +kernel
theorem dX6_isPassing_34 : decode cX6_isPassing 34 = .ok (.irem, 1) := by decide +kernel
theorem dX6_isPassing_35 : decode cX6_isPassing 35 = .ok (.invokevirtual 249, 3) := by decide +kernel
theorem dX6_isPassing_38 : decode cX6_isPassing 38 = .ok (.ifCond .eq 7, 3) := by decide +kernel
theorem dX6_isPassing_41 : decode cX6_isPassing 41 = .ok (.iconst 1, 1) := by decide +kernel
theorem dX6_isPassing_42 : decode cX6_isPassing 42 = .ok (.goto 4, 3) := by decide +kernel
theorem dX6_isPassing_45 : decode cX6_isPassing 45 = .ok (.iconst 0, 1) := by decide +kernel
theorem dX6_isPassing_46 : decode cX6_isPassing 46 = .ok (.ireturn, 1) := by decide +kernel
def Mo_isPassing (d : Sl) (a1 : Int32) (a2 : Int32) (a3 : Int32) (a4 : Int32) : Option Int32 :=
  bp (Mo_isSpace d a1) fun r1 =>
  if r1 = 0 then
    (some (0 : Int32))
  else
    (bp (Mo_isSpace d a3) fun r2 =>
    if r2 = 0 then
      (some (0 : Int32))
    else
      (if a1 = a3 then
        (some (0 : Int32))
      else
        (bp (Mo_isRegion d a2) fun r3 =>
        if r3 = 0 then
          (some (0 : Int32))
        else
          (if ¬ (4 : Int32) = 0 then
          bp (Mo_isFit d a4 (a2 - a2 / (4 : Int32) * (4 : Int32))) fun r4 =>
          if r4 = 0 then
            (some (0 : Int32))
          else
            (some (1 : Int32))
          else none))))
theorem y_X6_isPassing : YV yX6_isPassing cX6_isPassing 5 (some .boolean) 4 := ⟨q1482, q69, q1483, q149, by decide +kernel, by decide +kernel, by decide +kernel, by decide +kernel⟩
theorem r_Mo_isPassing {C : Cxt} {G : Geo} {M : Mem} {k : Nat} (hC : Cx C cX6_isPassing 5 "FrameHeirsModel" (some .boolean) rm_X6_isPassing G) (hk : LMo G k) (d : Sl) (a1 : Int32) (a2 : Int32) (a3 : Int32) (a4 : Int32) : Rz C 5 G (setS M k) (poP avI ((setS M k) d)) 0 [(0, .inr (k, 34)), (1, .inl (.int a1)), (2, .inl (.int a2)), (3, .inl (.int a3)), (4, .inl (.int a4))] [] d (Mo_isPassing d a1 a2 a3 a4) := by
  unfold Mo_isPassing
  refine z_aload_n (pc := 0) hC 0 rfl 0 rfl dX6_isPassing_0 ?_
  refine z_iload_n (pc := 1) hC 1 rfl 1 rfl dX6_isPassing_1 ?_
  refine z_piV (pc := 2) (st := []) hC y_X6_isSpace q1484 [.inl (.int a1)] rfl (hk 34 rfl) rfl rfl (c_X6_isSpace hC.2.2.2.2.2.2.1 hk) rfl ⟨rfl, rfl, (Nat.le_of_ble_eq_true rfl), (Nat.le_of_ble_eq_true rfl)⟩ (Nat.le_of_ble_eq_true rfl) dX6_isPassing_2 (fun r1 => ?_)
  refine z_if_eq (pc := 5) hC 45 rfl dX6_isPassing_5 ?_ ?_
  · refine z_iconst (pc := 45) hC (0 : Int32) rfl dX6_isPassing_45 ?_
    exact z_zret (pc := 46) hC rfl rfl dX6_isPassing_46
  · refine z_aload_n (pc := 8) hC 0 rfl 0 rfl dX6_isPassing_8 ?_
    refine z_iload_n (pc := 9) hC 3 rfl 3 rfl dX6_isPassing_9 ?_
    refine z_piV (pc := 10) (st := []) hC y_X6_isSpace q1484 [.inl (.int a3)] rfl (hk 34 rfl) rfl rfl (c_X6_isSpace hC.2.2.2.2.2.2.1 hk) rfl ⟨rfl, rfl, (Nat.le_of_ble_eq_true rfl), (Nat.le_of_ble_eq_true rfl)⟩ (Nat.le_of_ble_eq_true rfl) dX6_isPassing_10 (fun r2 => ?_)
    refine z_if_eq (pc := 13) hC 45 rfl dX6_isPassing_13 ?_ ?_
    · refine z_iconst (pc := 45) hC (0 : Int32) rfl dX6_isPassing_45 ?_
      exact z_zret (pc := 46) hC rfl rfl dX6_isPassing_46
    · refine z_iload_n (pc := 16) hC 1 rfl 1 rfl dX6_isPassing_16 ?_
      refine z_iload_n (pc := 17) hC 3 rfl 3 rfl dX6_isPassing_17 ?_
      refine z_icmp_eq (pc := 18) hC 45 rfl dX6_isPassing_18 ?_ ?_
      · refine z_iconst (pc := 45) hC (0 : Int32) rfl dX6_isPassing_45 ?_
        exact z_zret (pc := 46) hC rfl rfl dX6_isPassing_46
      · refine z_aload_n (pc := 21) hC 0 rfl 0 rfl dX6_isPassing_21 ?_
        refine z_iload_n (pc := 22) hC 2 rfl 2 rfl dX6_isPassing_22 ?_
        refine z_piV (pc := 23) (st := []) hC y_X6_isRegion q1488 [.inl (.int a2)] rfl (hk 34 rfl) rfl rfl (c_X6_isRegion hC.2.2.2.2.2.2.1 hk) rfl ⟨rfl, rfl, (Nat.le_of_ble_eq_true rfl), (Nat.le_of_ble_eq_true rfl)⟩ (Nat.le_of_ble_eq_true rfl) dX6_isPassing_23 (fun r3 => ?_)
        refine z_if_eq (pc := 26) hC 45 rfl dX6_isPassing_26 ?_ ?_
        · refine z_iconst (pc := 45) hC (0 : Int32) rfl dX6_isPassing_45 ?_
          exact z_zret (pc := 46) hC rfl rfl dX6_isPassing_46
        · refine z_aload_n (pc := 29) hC 0 rfl 0 rfl dX6_isPassing_29 ?_
          refine z_iload (pc := 30) hC 4 4 rfl dX6_isPassing_30 ?_
          refine z_iload_n (pc := 32) hC 2 rfl 2 rfl dX6_isPassing_32 ?_
          refine z_iconst (pc := 33) hC (4 : Int32) rfl dX6_isPassing_33 ?_
          refine z_irem (pc := 34) hC dX6_isPassing_34 ?_
          refine z_piV (pc := 35) (st := []) hC y_X6_isFit q1492 [.inl (.int a4), .inl (.int (a2 - a2 / (4 : Int32) * (4 : Int32)))] rfl (hk 34 rfl) rfl rfl (c_X6_isFit hC.2.2.2.2.2.2.1 hk) rfl ⟨rfl, rfl, (Nat.le_of_ble_eq_true rfl), (Nat.le_of_ble_eq_true rfl)⟩ (Nat.le_of_ble_eq_true rfl) dX6_isPassing_35 (fun r4 => ?_)
          refine z_if_eq (pc := 38) hC 45 rfl dX6_isPassing_38 ?_ ?_
          · refine z_iconst (pc := 45) hC (0 : Int32) rfl dX6_isPassing_45 ?_
            exact z_zret (pc := 46) hC rfl rfl dX6_isPassing_46
          · refine z_iconst (pc := 41) hC (1 : Int32) rfl dX6_isPassing_41 ?_
            refine z_goto (pc := 42) hC 46 rfl dX6_isPassing_42 ?_
            exact z_zret (pc := 46) hC rfl rfl dX6_isPassing_46
theorem c_X6_isPassing {G : Geo} {M : Mem} {k : Nat} (hG : GOk G) (hk : LMo G k) {d : Sl} {a1 : Int32} {a2 : Int32} {a3 : Int32} {a4 : Int32} (l : Launch) (r : Int32) (h : Mo_isPassing d a1 a2 a3 a4 = some r) : Mt l yX6_isPassing cX6_isPassing 5 (some .boolean) rm_X6_isPassing G [.inr (k, 34), .inl (.int a1), .inl (.int a2), .inl (.int a3), .inl (.int a4)] ((setS M k) d) (avI r) ((setS M k) d) :=
  mt_of (mem := (setS M k)) (po := poP avI ((setS M k) d)) (x0 := d) (t := r) rfl hG [.inr (k, 34), .inl (.int a1), .inl (.int a2), .inl (.int a3), .inl (.int a4)] (Nat.le_of_ble_eq_true rfl) rfl (fun C hC => r_Mo_isPassing hC hk d a1 a2 a3 a4) h
-- FrameHeirsModel.mapped(IIIII)I
abbrev rm_X6_mapped : Room := { frames := 4, cells := 0, slots := 0, locals := 86 }
theorem dX6_mapped_0 : decode cX6_mapped 0 = .ok (.iload_n 2, 1) := by decide +kernel
theorem dX6_mapped_1 : decode cX6_mapped 1 = .ok (.iconst 4, 1) := by decide +kernel
theorem dX6_mapped_2 : decode cX6_mapped 2 = .ok (.irem, 1) := by decide +kernel
theorem dX6_mapped_3 : decode cX6_mapped 3 = .ok (.istore 6, 2) := by decide +kernel
theorem dX6_mapped_5 : decode cX6_mapped 5 = .ok (.iload_n 2, 1) := by decide +kernel
theorem dX6_mapped_6 : decode cX6_mapped 6 = .ok (.iconst 4, 1) := by decide +kernel
theorem dX6_mapped_7 : decode cX6_mapped 7 = .ok (.idiv, 1) := by decide +kernel
theorem dX6_mapped_8 : decode cX6_mapped 8 = .ok (.istore 7, 2) := by decide +kernel
theorem dX6_mapped_10 : decode cX6_mapped 10 = .ok (.aload_n 0, 1) := by decide +kernel
theorem dX6_mapped_11 : decode cX6_mapped 11 = .ok (.iload_n 1, 1) := by decide +kernel
theorem dX6_mapped_12 : decode cX6_mapped 12 = .ok (.iload 7, 2) := by decide +kernel
theorem dX6_mapped_14 : decode cX6_mapped 14 = .ok (.iload 6, 2) := by decide +kernel
theorem dX6_mapped_16 : decode cX6_mapped 16 = .ok (.invokevirtual 270, 3) := by decide +kernel
theorem dX6_mapped_19 : decode cX6_mapped 19 = .ok (.aload_n 0, 1) := by decide +kernel
theorem dX6_mapped_20 : decode cX6_mapped 20 = .ok (.getfield 255, 3) := by decide +kernel
theorem dX6_mapped_23 : decode cX6_mapped 23 = .ok (.ifCond .ne 6, 3) := by decide +kernel
theorem dX6_mapped_26 : decode cX6_mapped 26 = .ok (.bipush (-2), 2) := by decide +kernel
theorem dX6_mapped_28 : decode cX6_mapped 28 = .ok (.ireturn, 1) := by decide +kernel
theorem dX6_mapped_29 : decode cX6_mapped 29 = .ok (.aload_n 0, 1) := by decide +kernel
theorem dX6_mapped_30 : decode cX6_mapped 30 = .ok (.invokevirtual 273, 3) := by decide +kernel
theorem dX6_mapped_33 : decode cX6_mapped 33 = .ok (.ifCond .eq 6, 3) := by decide +kernel
theorem dX6_mapped_36 : decode cX6_mapped 36 = .ok (.bipush (-3), 2) := by decide +kernel
theorem dX6_mapped_38 : decode cX6_mapped 38 = .ok (.ireturn, 1) := by decide +kernel
theorem dX6_mapped_39 : decode cX6_mapped 39 = .ok (.aload_n 0, 1) := by decide +kernel
theorem dX6_mapped_40 : decode cX6_mapped 40 = .ok (.iload_n 3, 1) := by decide +kernel
theorem dX6_mapped_41 : decode cX6_mapped 41 = .ok (.iload 4, 2) := by decide +kernel
theorem dX6_mapped_43 : decode cX6_mapped 43 = .ok (.iload 6, 2) := by decide +kernel
theorem dX6_mapped_45 : decode cX6_mapped 45 = .ok (.invokevirtual 276, 3) := by decide +kernel
theorem dX6_mapped_48 : decode cX6_mapped 48 = .ok (.ifCond .ne 6, 3) := by decide +kernel
theorem dX6_mapped_51 : decode cX6_mapped 51 = .ok (.bipush (-4), 2) := by decide +kernel
theorem dX6_mapped_53 : decode cX6_mapped 53 = .ok (.ireturn, 1) := by decide +kernel
theorem dX6_mapped_54 : decode cX6_mapped 54 = .ok (.iconst 0, 1) := by decide +kernel
theorem dX6_mapped_55 : decode cX6_mapped 55 = .ok (.istore 8, 2) := by decide +kernel
theorem dX6_mapped_57 : decode cX6_mapped 57 = .ok (.iconst 0, 1) := by decide +kernel
theorem dX6_mapped_58 : decode cX6_mapped 58 = .ok (.istore 9, 2) := by decide +kernel
theorem dX6_mapped_60 : decode cX6_mapped 60 = .ok (.iload 9, 2) := by decide +kernel
theorem dX6_mapped_62 : decode cX6_mapped 62 = .ok (.aload_n 0, 1) := by decide +kernel
theorem dX6_mapped_63 : decode cX6_mapped 63 = .ok (.getfield 255, 3) := by decide +kernel
theorem dX6_mapped_66 : decode cX6_mapped 66 = .ok (.if_icmp .ge 66, 3) := by decide +kernel
theorem dX6_mapped_69 : decode cX6_mapped 69 = .ok (.aload_n 0, 1) := by decide +kernel
theorem dX6_mapped_70 : decode cX6_mapped 70 = .ok (.aload_n 0, 1) := by decide +kernel
theorem dX6_mapped_71 : decode cX6_mapped 71 = .ok (.getfield 52, 3) := by decide +kernel
theorem dX6_mapped_74 : decode cX6_mapped 74 = .ok (.iload 9, 2) := by decide +kernel
theorem dX6_mapped_76 : decode cX6_mapped 76 = .ok (.iaload, 1) := by decide +kernel
theorem dX6_mapped_77 : decode cX6_mapped 77 = .ok (.invokevirtual 258, 3) := by decide +kernel
theorem dX6_mapped_80 : decode cX6_mapped 80 = .ok (.istore 10, 2) := by decide +kernel
theorem dX6_mapped_82 : decode cX6_mapped 82 = .ok (.aload_n 0, 1) := by decide +kernel
theorem dX6_mapped_83 : decode cX6_mapped 83 = .ok (.sipush 384, 3) := by decide +kernel
theorem dX6_mapped_86 : decode cX6_mapped 86 = .ok (.aload_n 0, 1) := by decide +kernel
theorem dX6_mapped_87 : decode cX6_mapped 87 = .ok (.getfield 52, 3) := by decide +kernel
theorem dX6_mapped_90 : decode cX6_mapped 90 = .ok (.iload 9, 2) := by decide +kernel
theorem dX6_mapped_92 : decode cX6_mapped 92 = .ok (.iaload, 1) := by decide +kernel
theorem dX6_mapped_93 : decode cX6_mapped 93 = .ok (.iadd, 1) := by decide +kernel
theorem dX6_mapped_94 : decode cX6_mapped 94 = .ok (.invokevirtual 189, 3) := by decide +kernel
theorem dX6_mapped_97 : decode cX6_mapped 97 = .ok (.iload 5, 2) := by decide +kernel
theorem dX6_mapped_99 : decode cX6_mapped 99 = .ok (.iand, 1) := by decide +kernel
theorem dX6_mapped_100 : decode cX6_mapped 100 = .ok (.ifCond .eq 26, 3) := by decide +kernel
theorem dX6_mapped_103 : decode cX6_mapped 103 = .ok (.iload 8, 2) := by decide +kernel
theorem dX6_mapped_105 : decode cX6_mapped 105 = .ok (.iload 10, 2) := by decide +kernel
theorem dX6_mapped_107 : decode cX6_mapped 107 = .ok (.iconst 1, 1) := by decide +kernel
theorem dX6_mapped_108 : decode cX6_mapped 108 = .ok (.iload 6, 2) := by decide +kernel
theorem dX6_mapped_110 : decode cX6_mapped 110 = .ok (.ishl, 1) := by decide +kernel
theorem dX6_mapped_111 : decode cX6_mapped 111 = .ok (.if_icmp .le 10, 3) := by decide +kernel
theorem dX6_mapped_114 : decode cX6_mapped 114 = .ok (.iconst 1, 1) := by decide +kernel
theorem dX6_mapped_115 : decode cX6_mapped 115 = .ok (.iload 6, 2) := by decide +kernel
theorem dX6_mapped_117 : decode cX6_mapped 117 = .ok (.ishl, 1) := by decide +kernel
theorem dX6_mapped_118 : decode cX6_mapped 118 = .ok (.goto 5, 3) := by decide +kernel
theorem dX6_mapped_121 : decode cX6_mapped 121 = .ok (.iload 10, 2) := by decide +kernel
theorem dX6_mapped_123 : decode cX6_mapped 123 = .ok (.iadd, 1) := by decide +kernel
theorem dX6_mapped_124 : decode cX6_mapped 124 = .ok (.istore 8, 2) := by decide +kernel
theorem dX6_mapped_126 : decode cX6_mapped 126 = .ok (.iinc 9 1, 3) := by decide +kernel
theorem dX6_mapped_129 : decode cX6_mapped 129 = .ok (.goto (-69), 3) := by decide +kernel
theorem dX6_mapped_132 : decode cX6_mapped 132 = .ok (.iload 8, 2) := by decide +kernel
theorem dX6_mapped_134 : decode cX6_mapped 134 = .ok (.ifCond .ne 6, 3) := by decide +kernel
theorem dX6_mapped_137 : decode cX6_mapped 137 = .ok (.bipush (-5), 2) := by decide +kernel
theorem dX6_mapped_139 : decode cX6_mapped 139 = .ok (.ireturn, 1) := by decide +kernel
theorem dX6_mapped_140 : decode cX6_mapped 140 = .ok (.aload_n 0, 1) := by decide +kernel
theorem dX6_mapped_141 : decode cX6_mapped 141 = .ok (.iload_n 3, 1) := by decide +kernel
theorem dX6_mapped_142 : decode cX6_mapped 142 = .ok (.invokevirtual 279, 3) := by decide +kernel
theorem dX6_mapped_145 : decode cX6_mapped 145 = .ok (.iload 8, 2) := by decide +kernel
theorem dX6_mapped_147 : decode cX6_mapped 147 = .ok (.iadd, 1) := by decide +kernel
theorem dX6_mapped_148 : decode cX6_mapped 148 = .ok (.aload_n 0, 1) := by decide +kernel
theorem dX6_mapped_149 : decode cX6_mapped 149 = .ok (.iload_n 3, 1) := by decide +kernel
theorem dX6_mapped_150 : decode cX6_mapped 150 = .ok (.invokevirtual 282, 3) := by decide +kernel
theorem dX6_mapped_153 : decode cX6_mapped 153 = .ok (.if_icmp .le 6, 3) := by decide +kernel
theorem dX6_mapped_156 : decode cX6_mapped 156 = .ok (.bipush (-6), 2) := by decide +kernel
theorem dX6_mapped_158 : decode cX6_mapped 158 = .ok (.ireturn, 1) := by decide +kernel
theorem dX6_mapped_159 : decode cX6_mapped 159 = .ok (.iconst 0, 1) := by decide +kernel
theorem dX6_mapped_160 : decode cX6_mapped 160 = .ok (.istore 9, 2) := by decide +kernel
theorem dX6_mapped_162 : decode cX6_mapped 162 = .ok (.iconst 0, 1) := by decide +kernel
theorem dX6_mapped_163 : decode cX6_mapped 163 = .ok (.istore 10, 2) := by decide +kernel
theorem dX6_mapped_165 : decode cX6_mapped 165 = .ok (.iload 10, 2) := by decide +kernel
theorem dX6_mapped_167 : decode cX6_mapped 167 = .ok (.aload_n 0, 1) := by decide +kernel
theorem dX6_mapped_168 : decode cX6_mapped 168 = .ok (.getfield 255, 3) := by decide +kernel
theorem dX6_mapped_171 : decode cX6_mapped 171 = .ok (.if_icmp .ge 148, 3) := by decide +kernel
theorem dX6_mapped_174 : decode cX6_mapped 174 = .ok (.aload_n 0, 1) := by decide +kernel
theorem dX6_mapped_175 : decode cX6_mapped 175 = .ok (.getfield 52, 3) := by decide +kernel
theorem dX6_mapped_178 : decode cX6_mapped 178 = .ok (.iload 10, 2) := by decide +kernel
theorem dX6_mapped_180 : decode cX6_mapped 180 = .ok (.iaload, 1) := by decide +kernel
theorem dX6_mapped_181 : decode cX6_mapped 181 = .ok (.istore 11, 2) := by decide +kernel
theorem dX6_mapped_183 : decode cX6_mapped 183 = .ok (.aload_n 0, 1) := by decide +kernel
theorem dX6_mapped_184 : decode cX6_mapped 184 = .ok (.sipush 384, 3) := by decide +kernel
theorem dX6_mapped_187 : decode cX6_mapped 187 = .ok (.iload 11, 2) := by decide +kernel
theorem dX6_mapped_189 : decode cX6_mapped 189 = .ok (.iadd, 1) := by decide +kernel
theorem dX6_mapped_190 : decode cX6_mapped 190 = .ok (.invokevirtual 189, 3) := by decide +kernel
theorem dX6_mapped_193 : decode cX6_mapped 193 = .ok (.iload 5, 2) := by decide +kernel
theorem dX6_mapped_195 : decode cX6_mapped 195 = .ok (.iand, 1) := by decide +kernel
theorem dX6_mapped_196 : decode cX6_mapped 196 = .ok (.istore 12, 2) := by decide +kernel
theorem dX6_mapped_198 : decode cX6_mapped 198 = .ok (.iload 12, 2) := by decide +kernel
theorem dX6_mapped_200 : decode cX6_mapped 200 = .ok (.ifCond .ne 6, 3) := by decide +kernel
theorem dX6_mapped_203 : decode cX6_mapped 203 = .ok (.goto 110, 3) := by decide +kernel
theorem dX6_mapped_206 : decode cX6_mapped 206 = .ok (.aload_n 0, 1) := by decide +kernel
theorem dX6_mapped_207 : decode cX6_mapped 207 = .ok (.iload 11, 2) := by decide +kernel
theorem dX6_mapped_209 : decode cX6_mapped 209 = .ok (.invokevirtual 196, 3) := by decide +kernel
theorem dX6_mapped_212 : decode cX6_mapped 212 = .ok (.iload 6, 2) := by decide +kernel
theorem dX6_mapped_214 : decode cX6_mapped 214 = .ok (.if_icmp .le 7, 3) := by decide +kernel
theorem dX6_mapped_217 : decode cX6_mapped 217 = .ok (.iconst 1, 1) := by decide +kernel
theorem dX6_mapped_218 : decode cX6_mapped 218 = .ok (.goto 4, 3) := by decide +kernel
theorem dX6_mapped_221 : decode cX6_mapped 221 = .ok (.iconst 0, 1) := by decide +kernel
theorem dX6_mapped_222 : decode cX6_mapped 222 = .ok (.istore 13, 2) := by decide +kernel
theorem dX6_mapped_224 : decode cX6_mapped 224 = .ok (.iload 13, 2) := by decide +kernel
theorem dX6_mapped_226 : decode cX6_mapped 226 = .ok (.ifCond .eq 7, 3) := by decide +kernel
theorem dX6_mapped_229 : decode cX6_mapped 229 = .ok (.iconst 0, 1) := by decide +kernel
theorem dX6_mapped_230 : decode cX6_mapped 230 = .ok (.goto 11, 3) := by decide +kernel
theorem dX6_mapped_233 : decode cX6_mapped 233 = .ok (.iload 11, 2) := by decide +kernel
theorem dX6_mapped_235 : decode cX6_mapped 235 = .ok (.bipush 32, 2) := by decide +kernel
theorem dX6_mapped_237 : decode cX6_mapped 237 = .ok (.irem, 1) := by decide +kernel
theorem dX6_mapped_238 : decode cX6_mapped 238 = .ok (.iload 7, 2) := by decide +kernel
theorem dX6_mapped_240 : decode cX6_mapped 240 = .ok (.isub, 1) := by decide +kernel
theorem dX6_mapped_241 : decode cX6_mapped 241 = .ok (.istore 14, 2) := by decide +kernel
theorem dX6_mapped_243 : decode cX6_mapped 243 = .ok (.aload_n 0, 1) := by decide +kernel
theorem dX6_mapped_244 : decode cX6_mapped 244 = .ok (.sipush 192, 3) := by decide +kernel
theorem dX6_mapped_247 : decode cX6_mapped 247 = .ok (.iload 11, 2) := by decide +kernel
theorem dX6_mapped_249 : decode cX6_mapped 249 = .ok (.iadd, 1) := by decide +kernel
theorem dX6_mapped_250 : decode cX6_mapped 250 = .ok (.invokevirtual 189, 3) := by decide +kernel
theorem dX6_mapped_253 : decode cX6_mapped 253 = .ok (.iload 13, 2) := by decide +kernel
theorem dX6_mapped_255 : decode cX6_mapped 255 = .ok (.ifCond .eq 14, 3) := by decide +kernel
theorem dX6_mapped_258 : decode cX6_mapped 258 = .ok (.iload 7, 2) := by decide +kernel
theorem dX6_mapped_260 : decode cX6_mapped 260 = .ok (.iload 11, 2) := by decide +kernel
theorem dX6_mapped_262 : decode cX6_mapped 262 = .ok (.bipush 32, 2) := by decide +kernel
theorem dX6_mapped_264 : decode cX6_mapped 264 = .ok (.irem, 1) := by decide +kernel
theorem dX6_mapped_265 : decode cX6_mapped 265 = .ok (.isub, 1) := by decide +kernel
theorem dX6_mapped_266 : decode cX6_mapped 266 = .ok (.goto 4, 3) := by decide +kernel
theorem dX6_mapped_269 : decode cX6_mapped 269 = .ok (.iconst 0, 1) := by decide +kernel
theorem dX6_mapped_270 : decode cX6_mapped 270 = .ok (.iadd, 1) := by decide +kernel
theorem dX6_mapped_271 : decode cX6_mapped 271 = .ok (.istore 15, 2) := by decide +kernel
theorem dX6_mapped_273 : decode cX6_mapped 273 = .ok (.aload_n 0, 1) := by decide +kernel
theorem dX6_mapped_274 : decode cX6_mapped 274 = .ok (.bipush 32, 2) := by decide +kernel
theorem dX6_mapped_276 : decode cX6_mapped 276 = .ok (.iload_n 3, 1) := by decide +kernel
theorem dX6_mapped_277 : decode cX6_mapped 277 = .ok (.imul, 1) := by decide +kernel
theorem dX6_mapped_278 : decode cX6_mapped 278 = .ok (.iload 4, 2) := by decide +kernel
theorem dX6_mapped_280 : decode cX6_mapped 280 = .ok (.iadd, 1) := by decide +kernel
theorem dX6_mapped_281 : decode cX6_mapped 281 = .ok (.iload 14, 2) := by decide +kernel
theorem dX6_mapped_283 : decode cX6_mapped 283 = .ok (.iadd, 1) := by decide +kernel
theorem dX6_mapped_284 : decode cX6_mapped 284 = .ok (.iload 13, 2) := by decide +kernel
theorem dX6_mapped_286 : decode cX6_mapped 286 = .ok (.ifCond .eq 8, 3) := by decide +kernel
theorem dX6_mapped_289 : decode cX6_mapped 289 = .ok (.iload 6, 2) := by decide +kernel
theorem dX6_mapped_291 : decode cX6_mapped 291 = .ok (.goto 9, 3) := by decide +kernel
theorem dX6_mapped_294 : decode cX6_mapped 294 = .ok (.aload_n 0, 1) := by decide +kernel
theorem dX6_mapped_295 : decode cX6_mapped 295 = .ok (.iload 11, 2) := by decide +kernel
theorem dX6_mapped_297 : decode cX6_mapped 297 = .ok (.invokevirtual 196, 3) := by decide +kernel
theorem dX6_mapped_300 : decode cX6_mapped 300 = .ok (.iload 15, 2) := by decide +kernel
theorem dX6_mapped_302 : decode cX6_mapped 302 = .ok (.iload 12, 2) := by decide +kernel
theorem dX6_mapped_304 : decode cX6_mapped 304 = .ok (.iload 11, 2) := by decide +kernel
theorem dX6_mapped_306 : decode cX6_mapped 306 = .ok (.iconst 0, 1) := by decide +kernel
theorem dX6_mapped_307 : decode cX6_mapped 307 = .ok (.invokevirtual 130, 3) := by decide +kernel
theorem dX6_mapped_310 : decode cX6_mapped 310 = .ok (.iinc 9 1, 3) := by decide +kernel
theorem dX6_mapped_313 : decode cX6_mapped 313 = .ok (.iinc 10 1, 3) := by decide +kernel
theorem dX6_mapped_316 : decode cX6_mapped 316 = .ok (.goto (-151), 3) := by decide +kernel
theorem dX6_mapped_319 : decode cX6_mapped 319 = .ok (.iload 9, 2) := by decide +kernel
theorem dX6_mapped_321 : decode cX6_mapped 321 = .ok (.ireturn, 1) := by decide +kernel
def Mo_mapped_313 (k165 : Int32 → Int32 → Int32 → Int32 → Int32 → Int32 → Int32 → Sl → Option (Int32 × Sl)) (v3 : Int32) (v4 : Int32) (v5 : Int32) (v6 : Int32) (v7 : Int32) (v9 : Int32) (v10 : Int32) (d : Sl) : Option (Int32 × Sl) :=
  bnd (v10 + (1 : Int32)) fun v10_1 =>
  k165 v3 v4 v5 v6 v7 v9 v10_1 d
def Mo_mapped_300 (k165 : Int32 → Int32 → Int32 → Int32 → Int32 → Int32 → Int32 → Sl → Option (Int32 × Sl)) (v3 : Int32) (v4 : Int32) (v5 : Int32) (v6 : Int32) (v7 : Int32) (v9 : Int32) (v10 : Int32) (v11 : Int32) (v12 : Int32) (v15 : Int32) (s0 : Int32) (s1 : Int32) (d : Sl) : Option (Int32 × Sl) :=
  bd (Mo_comes d s1 s0 v15 v12 v11 (0 : Int32)) fun r2 d3 =>
  bnd (v9 + (1 : Int32)) fun v9_4 =>
  Mo_mapped_313 k165 v3 v4 v5 v6 v7 v9_4 v10 d3
def Mo_mapped_270 (k165 : Int32 → Int32 → Int32 → Int32 → Int32 → Int32 → Int32 → Sl → Option (Int32 × Sl)) (v3 : Int32) (v4 : Int32) (v5 : Int32) (v6 : Int32) (v7 : Int32) (v9 : Int32) (v10 : Int32) (v11 : Int32) (v12 : Int32) (v13 : Int32) (v14 : Int32) (s0 : Int32) (s1 : Int32) (d : Sl) : Option (Int32 × Sl) :=
  bnd (s1 + s0) fun v15_5 =>
  if v13 = 0 then
    (bp (Mo_orderOf d v11) fun r6 =>
    Mo_mapped_300 k165 v3 v4 v5 v6 v7 v9 v10 v11 v12 v15_5 r6 ((((32 : Int32) * v3) + v4) + v14) d)
  else
    (Mo_mapped_300 k165 v3 v4 v5 v6 v7 v9 v10 v11 v12 v15_5 v6 ((((32 : Int32) * v3) + v4) + v14) d)
def Mo_mapped_241 (k165 : Int32 → Int32 → Int32 → Int32 → Int32 → Int32 → Int32 → Sl → Option (Int32 × Sl)) (v3 : Int32) (v4 : Int32) (v5 : Int32) (v6 : Int32) (v7 : Int32) (v9 : Int32) (v10 : Int32) (v11 : Int32) (v12 : Int32) (v13 : Int32) (s0 : Int32) (d : Sl) : Option (Int32 × Sl) :=
  bnd s0 fun v14_7 =>
  bp (Mo_of d ((192 : Int32) + v11)) fun r8 =>
  if v13 = 0 then
    (Mo_mapped_270 k165 v3 v4 v5 v6 v7 v9 v10 v11 v12 v13 v14_7 (0 : Int32) r8 d)
  else
    (if ¬ (32 : Int32) = 0 then
    Mo_mapped_270 k165 v3 v4 v5 v6 v7 v9 v10 v11 v12 v13 v14_7 (v7 - (v11 - v11 / (32 : Int32) * (32 : Int32))) r8 d
    else none)
def Mo_mapped_222 (k165 : Int32 → Int32 → Int32 → Int32 → Int32 → Int32 → Int32 → Sl → Option (Int32 × Sl)) (v3 : Int32) (v4 : Int32) (v5 : Int32) (v6 : Int32) (v7 : Int32) (v9 : Int32) (v10 : Int32) (v11 : Int32) (v12 : Int32) (s0 : Int32) (d : Sl) : Option (Int32 × Sl) :=
  bnd s0 fun v13_9 =>
  if v13_9 = 0 then
    (if ¬ (32 : Int32) = 0 then
    Mo_mapped_241 k165 v3 v4 v5 v6 v7 v9 v10 v11 v12 v13_9 ((v11 - v11 / (32 : Int32) * (32 : Int32)) - v7) d
    else none)
  else
    (Mo_mapped_241 k165 v3 v4 v5 v6 v7 v9 v10 v11 v12 v13_9 (0 : Int32) d)
def Mo_mapped_165 : Nat → Int32 → Int32 → Int32 → Int32 → Int32 → Int32 → Int32 → Sl → Option (Int32 × Sl)
  | 0, _, _, _, _, _, _, _, _ => none
  | n + 1, v3, v4, v5, v6, v7, v9, v10, d =>
    if (d 34 30) ≤ v10 then
      (some (v9, d))
    else
      (if inb v10 8 then
      bnd (d 47 (ix v10)) fun v11_10 =>
      bp (Mo_of d ((384 : Int32) + v11_10)) fun r11 =>
      bnd (r11 &&& v5) fun v12_12 =>
      if v12_12 = 0 then
        (Mo_mapped_313 (Mo_mapped_165 n) v3 v4 v5 v6 v7 v9 v10 d)
      else
        (bp (Mo_orderOf d v11_10) fun r13 =>
        if r13 ≤ v6 then
          (Mo_mapped_222 (Mo_mapped_165 n) v3 v4 v5 v6 v7 v9 v10 v11_10 v12_12 (0 : Int32) d)
        else
          (Mo_mapped_222 (Mo_mapped_165 n) v3 v4 v5 v6 v7 v9 v10 v11_10 v12_12 (1 : Int32) d))
      else none)
def Mo_mapped_126 (k60 : Int32 → Int32 → Int32 → Int32 → Int32 → Int32 → Int32 → Sl → Option (Int32 × Sl)) (v3 : Int32) (v4 : Int32) (v5 : Int32) (v6 : Int32) (v7 : Int32) (v8 : Int32) (v9 : Int32) (d : Sl) : Option (Int32 × Sl) :=
  bnd (v9 + (1 : Int32)) fun v9_14 =>
  k60 v3 v4 v5 v6 v7 v8 v9_14 d
def Mo_mapped_123 (k60 : Int32 → Int32 → Int32 → Int32 → Int32 → Int32 → Int32 → Sl → Option (Int32 × Sl)) (v3 : Int32) (v4 : Int32) (v5 : Int32) (v6 : Int32) (v7 : Int32) (v9 : Int32) (s0 : Int32) (s1 : Int32) (d : Sl) : Option (Int32 × Sl) :=
  bnd (s1 + s0) fun v8_15 =>
  Mo_mapped_126 k60 v3 v4 v5 v6 v7 v8_15 v9 d
def Mo_mapped_60 : Nat → Int32 → Int32 → Int32 → Int32 → Int32 → Int32 → Int32 → Sl → Option (Int32 × Sl)
  | 0, _, _, _, _, _, _, _, _ => none
  | n + 1, v3, v4, v5, v6, v7, v8, v9, d =>
    if (d 34 30) ≤ v9 then
      (if v8 = 0 then
        (some ((-5 : Int32), d))
      else
        (bp (Mo_pagesIn d v3) fun r16 =>
        bp (Mo_mostOf d v3) fun r17 =>
        if (r16 + v8) ≤ r17 then
          (bnd (0 : Int32) fun v9_18 =>
          bnd (0 : Int32) fun v10_19 =>
          Mo_mapped_165 FU v3 v4 v5 v6 v7 v9_18 v10_19 d)
        else
          (some ((-6 : Int32), d))))
    else
      (if inb v9 8 then
      bp (Mo_pagesOf d (d 47 (ix v9))) fun r20 =>
      bnd r20 fun v10_21 =>
      if inb v9 8 then
      bp (Mo_of d ((384 : Int32) + (d 47 (ix v9)))) fun r22 =>
      if (r22 &&& v5) = 0 then
        (Mo_mapped_126 (Mo_mapped_60 n) v3 v4 v5 v6 v7 v8 v9 d)
      else
        (if v10_21 ≤ ((1 : Int32) <<< (v6 &&& 31)) then
          (Mo_mapped_123 (Mo_mapped_60 n) v3 v4 v5 v6 v7 v9 v10_21 v8 d)
        else
          (Mo_mapped_123 (Mo_mapped_60 n) v3 v4 v5 v6 v7 v9 ((1 : Int32) <<< (v6 &&& 31)) v8 d))
      else none
      else none)
def Mo_mapped (d : Sl) (a1 : Int32) (a2 : Int32) (a3 : Int32) (a4 : Int32) (a5 : Int32) : Option (Int32 × Sl) :=
  if ¬ (4 : Int32) = 0 then
  bnd (a2 - a2 / (4 : Int32) * (4 : Int32)) fun v6_23 =>
  if ¬ (4 : Int32) = 0 then
  bnd (a2 / (4 : Int32)) fun v7_24 =>
  bd (Mo_looks d a1 v7_24 v6_23) fun r25 d26 =>
  if (d26 34 30) = 0 then
    (some ((-2 : Int32), d26))
  else
    (bp (Mo_isBusyThere d26) fun r27 =>
    if r27 = 0 then
      (bp (Mo_isFree d26 a3 a4 v6_23) fun r28 =>
      if r28 = 0 then
        (some ((-4 : Int32), d26))
      else
        (bnd (0 : Int32) fun v8_29 =>
        bnd (0 : Int32) fun v9_30 =>
        Mo_mapped_60 FU a3 a4 a5 v6_23 v7_24 v8_29 v9_30 d26))
    else
      (some ((-3 : Int32), d26)))
  else none
  else none
theorem y_X6_mapped : YV yX6_mapped cX6_mapped 16 (some .int) 5 := ⟨q1506, q75, q1507, q149, by decide +kernel, by decide +kernel, by decide +kernel, by decide +kernel⟩
theorem r_Mo_mapped_313 {C : Cxt} {G : Geo} {M : Mem} {k : Nat} (hC : Cx C cX6_mapped 16 "FrameHeirsModel" (some .int) rm_X6_mapped G) (hk : LMo G k) (k165 : Int32 → Int32 → Int32 → Int32 → Int32 → Int32 → Int32 → Sl → Option (Int32 × Sl)) (h165 : ∀ (v3 : Int32) (v4 : Int32) (v5 : Int32) (v6 : Int32) (v7 : Int32) (v9 : Int32) (v10 : Int32) (d : Sl), Rz C 16 G (setS M k) (poM avI (setS M k)) 165 [(0, .inr (k, 34)), (3, .inl (.int v3)), (4, .inl (.int v4)), (5, .inl (.int v5)), (6, .inl (.int v6)), (7, .inl (.int v7)), (9, .inl (.int v9)), (10, .inl (.int v10))] [] d (k165 v3 v4 v5 v6 v7 v9 v10 d)) (v3 : Int32) (v4 : Int32) (v5 : Int32) (v6 : Int32) (v7 : Int32) (v9 : Int32) (v10 : Int32) (d : Sl) : Rz C 16 G (setS M k) (poM avI (setS M k)) 313 [(0, .inr (k, 34)), (3, .inl (.int v3)), (4, .inl (.int v4)), (5, .inl (.int v5)), (6, .inl (.int v6)), (7, .inl (.int v7)), (9, .inl (.int v9)), (10, .inl (.int v10))] [] d (Mo_mapped_313 k165 v3 v4 v5 v6 v7 v9 v10 d) := by
  unfold Mo_mapped_313
  refine z_iinc (pc := 313) (ls1 := fun v => [(10, .inl (.int v)), (0, .inr (k, 34)), (3, .inl (.int v3)), (4, .inl (.int v4)), (5, .inl (.int v5)), (6, .inl (.int v6)), (7, .inl (.int v7)), (9, .inl (.int v9))]) hC 10 7 (by decide) (1 : Int32) rfl rfl (fun v => rfl) dX6_mapped_313 (fun v10_1 => ?_)
  refine z_goto (pc := 316) hC 165 rfl dX6_mapped_316 ?_
  exact z_sub [1, 2, 3, 4, 5, 6, 7, 0] rfl (h165 v3 v4 v5 v6 v7 v9 v10_1 d)
theorem r_Mo_mapped_300 {C : Cxt} {G : Geo} {M : Mem} {k : Nat} (hC : Cx C cX6_mapped 16 "FrameHeirsModel" (some .int) rm_X6_mapped G) (hk : LMo G k) (k165 : Int32 → Int32 → Int32 → Int32 → Int32 → Int32 → Int32 → Sl → Option (Int32 × Sl)) (h165 : ∀ (v3 : Int32) (v4 : Int32) (v5 : Int32) (v6 : Int32) (v7 : Int32) (v9 : Int32) (v10 : Int32) (d : Sl), Rz C 16 G (setS M k) (poM avI (setS M k)) 165 [(0, .inr (k, 34)), (3, .inl (.int v3)), (4, .inl (.int v4)), (5, .inl (.int v5)), (6, .inl (.int v6)), (7, .inl (.int v7)), (9, .inl (.int v9)), (10, .inl (.int v10))] [] d (k165 v3 v4 v5 v6 v7 v9 v10 d)) (v3 : Int32) (v4 : Int32) (v5 : Int32) (v6 : Int32) (v7 : Int32) (v9 : Int32) (v10 : Int32) (v11 : Int32) (v12 : Int32) (v15 : Int32) (s0 : Int32) (s1 : Int32) (d : Sl) : Rz C 16 G (setS M k) (poM avI (setS M k)) 300 [(0, .inr (k, 34)), (3, .inl (.int v3)), (4, .inl (.int v4)), (5, .inl (.int v5)), (6, .inl (.int v6)), (7, .inl (.int v7)), (9, .inl (.int v9)), (10, .inl (.int v10)), (11, .inl (.int v11)), (12, .inl (.int v12)), (15, .inl (.int v15))] [.inl (.int s0), .inl (.int s1), .inr (k, 34)] d (Mo_mapped_300 k165 v3 v4 v5 v6 v7 v9 v10 v11 v12 v15 s0 s1 d) := by
  unfold Mo_mapped_300
  refine z_iload (pc := 300) hC 15 10 rfl dX6_mapped_300 ?_
  refine z_iload (pc := 302) hC 12 9 rfl dX6_mapped_302 ?_
  refine z_iload (pc := 304) hC 11 8 rfl dX6_mapped_304 ?_
  refine z_iconst (pc := 306) hC (0 : Int32) rfl dX6_mapped_306 ?_
  refine z_cvV (pc := 307) (st := []) hC y_X6_comes q1254 [.inl (.int s1), .inl (.int s0), .inl (.int v15), .inl (.int v12), .inl (.int v11), .inl (.int (0 : Int32))] rfl (hk 34 rfl) rfl rfl (c_X6_comes hC.2.2.2.2.2.2.1 hk) rfl ⟨rfl, rfl, (Nat.le_of_ble_eq_true rfl), (Nat.le_of_ble_eq_true rfl)⟩ (Nat.le_of_ble_eq_true rfl) dX6_mapped_307 (fun r2 d3 => ?_)
  refine z_iinc (pc := 310) (ls1 := fun v => [(9, .inl (.int v)), (0, .inr (k, 34)), (3, .inl (.int v3)), (4, .inl (.int v4)), (5, .inl (.int v5)), (6, .inl (.int v6)), (7, .inl (.int v7)), (10, .inl (.int v10)), (11, .inl (.int v11)), (12, .inl (.int v12)), (15, .inl (.int v15))]) hC 9 6 (by decide) (1 : Int32) rfl rfl (fun v => rfl) dX6_mapped_310 (fun v9_4 => ?_)
  exact z_sub [1, 2, 3, 4, 5, 6, 0, 7] rfl (r_Mo_mapped_313 hC hk k165 h165 v3 v4 v5 v6 v7 v9_4 v10 d3)
theorem r_Mo_mapped_270 {C : Cxt} {G : Geo} {M : Mem} {k : Nat} (hC : Cx C cX6_mapped 16 "FrameHeirsModel" (some .int) rm_X6_mapped G) (hk : LMo G k) (k165 : Int32 → Int32 → Int32 → Int32 → Int32 → Int32 → Int32 → Sl → Option (Int32 × Sl)) (h165 : ∀ (v3 : Int32) (v4 : Int32) (v5 : Int32) (v6 : Int32) (v7 : Int32) (v9 : Int32) (v10 : Int32) (d : Sl), Rz C 16 G (setS M k) (poM avI (setS M k)) 165 [(0, .inr (k, 34)), (3, .inl (.int v3)), (4, .inl (.int v4)), (5, .inl (.int v5)), (6, .inl (.int v6)), (7, .inl (.int v7)), (9, .inl (.int v9)), (10, .inl (.int v10))] [] d (k165 v3 v4 v5 v6 v7 v9 v10 d)) (v3 : Int32) (v4 : Int32) (v5 : Int32) (v6 : Int32) (v7 : Int32) (v9 : Int32) (v10 : Int32) (v11 : Int32) (v12 : Int32) (v13 : Int32) (v14 : Int32) (s0 : Int32) (s1 : Int32) (d : Sl) : Rz C 16 G (setS M k) (poM avI (setS M k)) 270 [(0, .inr (k, 34)), (3, .inl (.int v3)), (4, .inl (.int v4)), (5, .inl (.int v5)), (6, .inl (.int v6)), (7, .inl (.int v7)), (9, .inl (.int v9)), (10, .inl (.int v10)), (11, .inl (.int v11)), (12, .inl (.int v12)), (13, .inl (.int v13)), (14, .inl (.int v14))] [.inl (.int s0), .inl (.int s1)] d (Mo_mapped_270 k165 v3 v4 v5 v6 v7 v9 v10 v11 v12 v13 v14 s0 s1 d) := by
  unfold Mo_mapped_270
  refine z_iadd (pc := 270) hC dX6_mapped_270 ?_
  refine z_istore (pc := 271) (ls1 := fun v => [(15, .inl (.int v)), (0, .inr (k, 34)), (3, .inl (.int v3)), (4, .inl (.int v4)), (5, .inl (.int v5)), (6, .inl (.int v6)), (7, .inl (.int v7)), (9, .inl (.int v9)), (10, .inl (.int v10)), (11, .inl (.int v11)), (12, .inl (.int v12)), (13, .inl (.int v13)), (14, .inl (.int v14))]) hC 15 (by decide) (fun v => rfl) dX6_mapped_271 (fun v15_5 => ?_)
  refine z_aload_n (pc := 273) hC 0 rfl 1 rfl dX6_mapped_273 ?_
  refine z_bipush (pc := 274) hC (32 : Int32) rfl dX6_mapped_274 ?_
  refine z_iload_n (pc := 276) hC 3 rfl 2 rfl dX6_mapped_276 ?_
  refine z_imul (pc := 277) hC dX6_mapped_277 ?_
  refine z_iload (pc := 278) hC 4 3 rfl dX6_mapped_278 ?_
  refine z_iadd (pc := 280) hC dX6_mapped_280 ?_
  refine z_iload (pc := 281) hC 14 12 rfl dX6_mapped_281 ?_
  refine z_iadd (pc := 283) hC dX6_mapped_283 ?_
  refine z_iload (pc := 284) hC 13 11 rfl dX6_mapped_284 ?_
  refine z_if_eq (pc := 286) hC 294 rfl dX6_mapped_286 ?_ ?_
  · refine z_aload_n (pc := 294) hC 0 rfl 1 rfl dX6_mapped_294 ?_
    refine z_iload (pc := 295) hC 11 9 rfl dX6_mapped_295 ?_
    refine z_piV (pc := 297) (st := [.inl (.int ((((32 : Int32) * v3) + v4) + v14)), .inr (k, 34)]) hC y_X6_orderOf q1516 [.inl (.int v11)] rfl (hk 34 rfl) rfl rfl (c_X6_orderOf hC.2.2.2.2.2.2.1 hk) rfl ⟨rfl, rfl, (Nat.le_of_ble_eq_true rfl), (Nat.le_of_ble_eq_true rfl)⟩ (Nat.le_of_ble_eq_true rfl) dX6_mapped_297 (fun r6 => ?_)
    exact z_sub [1, 2, 3, 4, 5, 6, 7, 8, 9, 10, 0] rfl (r_Mo_mapped_300 hC hk k165 h165 v3 v4 v5 v6 v7 v9 v10 v11 v12 v15_5 r6 ((((32 : Int32) * v3) + v4) + v14) d)
  · refine z_iload (pc := 289) hC 6 5 rfl dX6_mapped_289 ?_
    refine z_goto (pc := 291) hC 300 rfl dX6_mapped_291 ?_
    exact z_sub [1, 2, 3, 4, 5, 6, 7, 8, 9, 10, 0] rfl (r_Mo_mapped_300 hC hk k165 h165 v3 v4 v5 v6 v7 v9 v10 v11 v12 v15_5 v6 ((((32 : Int32) * v3) + v4) + v14) d)
theorem r_Mo_mapped_241 {C : Cxt} {G : Geo} {M : Mem} {k : Nat} (hC : Cx C cX6_mapped 16 "FrameHeirsModel" (some .int) rm_X6_mapped G) (hk : LMo G k) (k165 : Int32 → Int32 → Int32 → Int32 → Int32 → Int32 → Int32 → Sl → Option (Int32 × Sl)) (h165 : ∀ (v3 : Int32) (v4 : Int32) (v5 : Int32) (v6 : Int32) (v7 : Int32) (v9 : Int32) (v10 : Int32) (d : Sl), Rz C 16 G (setS M k) (poM avI (setS M k)) 165 [(0, .inr (k, 34)), (3, .inl (.int v3)), (4, .inl (.int v4)), (5, .inl (.int v5)), (6, .inl (.int v6)), (7, .inl (.int v7)), (9, .inl (.int v9)), (10, .inl (.int v10))] [] d (k165 v3 v4 v5 v6 v7 v9 v10 d)) (v3 : Int32) (v4 : Int32) (v5 : Int32) (v6 : Int32) (v7 : Int32) (v9 : Int32) (v10 : Int32) (v11 : Int32) (v12 : Int32) (v13 : Int32) (s0 : Int32) (d : Sl) : Rz C 16 G (setS M k) (poM avI (setS M k)) 241 [(0, .inr (k, 34)), (3, .inl (.int v3)), (4, .inl (.int v4)), (5, .inl (.int v5)), (6, .inl (.int v6)), (7, .inl (.int v7)), (9, .inl (.int v9)), (10, .inl (.int v10)), (11, .inl (.int v11)), (12, .inl (.int v12)), (13, .inl (.int v13))] [.inl (.int s0)] d (Mo_mapped_241 k165 v3 v4 v5 v6 v7 v9 v10 v11 v12 v13 s0 d) := by
  unfold Mo_mapped_241
  refine z_istore (pc := 241) (ls1 := fun v => [(14, .inl (.int v)), (0, .inr (k, 34)), (3, .inl (.int v3)), (4, .inl (.int v4)), (5, .inl (.int v5)), (6, .inl (.int v6)), (7, .inl (.int v7)), (9, .inl (.int v9)), (10, .inl (.int v10)), (11, .inl (.int v11)), (12, .inl (.int v12)), (13, .inl (.int v13))]) hC 14 (by decide) (fun v => rfl) dX6_mapped_241 (fun v14_7 => ?_)
  refine z_aload_n (pc := 243) hC 0 rfl 1 rfl dX6_mapped_243 ?_
  refine z_sipush (pc := 244) hC (192 : Int32) rfl dX6_mapped_244 ?_
  refine z_iload (pc := 247) hC 11 9 rfl dX6_mapped_247 ?_
  refine z_iadd (pc := 249) hC dX6_mapped_249 ?_
  refine z_piV (pc := 250) (st := []) hC y_X6_of q1262 [.inl (.int ((192 : Int32) + v11))] rfl (hk 34 rfl) rfl rfl (c_X6_of hC.2.2.2.2.2.2.1 hk) rfl ⟨rfl, rfl, (Nat.le_of_ble_eq_true rfl), (Nat.le_of_ble_eq_true rfl)⟩ (Nat.le_of_ble_eq_true rfl) dX6_mapped_250 (fun r8 => ?_)
  refine z_iload (pc := 253) hC 13 11 rfl dX6_mapped_253 ?_
  refine z_if_eq (pc := 255) hC 269 rfl dX6_mapped_255 ?_ ?_
  · refine z_iconst (pc := 269) hC (0 : Int32) rfl dX6_mapped_269 ?_
    exact z_sub [1, 2, 3, 4, 5, 6, 7, 8, 9, 10, 11, 0] rfl (r_Mo_mapped_270 hC hk k165 h165 v3 v4 v5 v6 v7 v9 v10 v11 v12 v13 v14_7 (0 : Int32) r8 d)
  · refine z_iload (pc := 258) hC 7 6 rfl dX6_mapped_258 ?_
    refine z_iload (pc := 260) hC 11 9 rfl dX6_mapped_260 ?_
    refine z_bipush (pc := 262) hC (32 : Int32) rfl dX6_mapped_262 ?_
    refine z_irem (pc := 264) hC dX6_mapped_264 ?_
    refine z_isub (pc := 265) hC dX6_mapped_265 ?_
    refine z_goto (pc := 266) hC 270 rfl dX6_mapped_266 ?_
    exact z_sub [1, 2, 3, 4, 5, 6, 7, 8, 9, 10, 11, 0] rfl (r_Mo_mapped_270 hC hk k165 h165 v3 v4 v5 v6 v7 v9 v10 v11 v12 v13 v14_7 (v7 - (v11 - v11 / (32 : Int32) * (32 : Int32))) r8 d)
theorem r_Mo_mapped_222 {C : Cxt} {G : Geo} {M : Mem} {k : Nat} (hC : Cx C cX6_mapped 16 "FrameHeirsModel" (some .int) rm_X6_mapped G) (hk : LMo G k) (k165 : Int32 → Int32 → Int32 → Int32 → Int32 → Int32 → Int32 → Sl → Option (Int32 × Sl)) (h165 : ∀ (v3 : Int32) (v4 : Int32) (v5 : Int32) (v6 : Int32) (v7 : Int32) (v9 : Int32) (v10 : Int32) (d : Sl), Rz C 16 G (setS M k) (poM avI (setS M k)) 165 [(0, .inr (k, 34)), (3, .inl (.int v3)), (4, .inl (.int v4)), (5, .inl (.int v5)), (6, .inl (.int v6)), (7, .inl (.int v7)), (9, .inl (.int v9)), (10, .inl (.int v10))] [] d (k165 v3 v4 v5 v6 v7 v9 v10 d)) (v3 : Int32) (v4 : Int32) (v5 : Int32) (v6 : Int32) (v7 : Int32) (v9 : Int32) (v10 : Int32) (v11 : Int32) (v12 : Int32) (s0 : Int32) (d : Sl) : Rz C 16 G (setS M k) (poM avI (setS M k)) 222 [(0, .inr (k, 34)), (3, .inl (.int v3)), (4, .inl (.int v4)), (5, .inl (.int v5)), (6, .inl (.int v6)), (7, .inl (.int v7)), (9, .inl (.int v9)), (10, .inl (.int v10)), (11, .inl (.int v11)), (12, .inl (.int v12))] [.inl (.int s0)] d (Mo_mapped_222 k165 v3 v4 v5 v6 v7 v9 v10 v11 v12 s0 d) := by
  unfold Mo_mapped_222
  refine z_istore (pc := 222) (ls1 := fun v => [(13, .inl (.int v)), (0, .inr (k, 34)), (3, .inl (.int v3)), (4, .inl (.int v4)), (5, .inl (.int v5)), (6, .inl (.int v6)), (7, .inl (.int v7)), (9, .inl (.int v9)), (10, .inl (.int v10)), (11, .inl (.int v11)), (12, .inl (.int v12))]) hC 13 (by decide) (fun v => rfl) dX6_mapped_222 (fun v13_9 => ?_)
  refine z_iload (pc := 224) hC 13 0 rfl dX6_mapped_224 ?_
  refine z_if_eq (pc := 226) hC 233 rfl dX6_mapped_226 ?_ ?_
  · refine z_iload (pc := 233) hC 11 9 rfl dX6_mapped_233 ?_
    refine z_bipush (pc := 235) hC (32 : Int32) rfl dX6_mapped_235 ?_
    refine z_irem (pc := 237) hC dX6_mapped_237 ?_
    refine z_iload (pc := 238) hC 7 6 rfl dX6_mapped_238 ?_
    refine z_isub (pc := 240) hC dX6_mapped_240 ?_
    exact z_sub [1, 2, 3, 4, 5, 6, 7, 8, 9, 10, 0] rfl (r_Mo_mapped_241 hC hk k165 h165 v3 v4 v5 v6 v7 v9 v10 v11 v12 v13_9 ((v11 - v11 / (32 : Int32) * (32 : Int32)) - v7) d)
  · refine z_iconst (pc := 229) hC (0 : Int32) rfl dX6_mapped_229 ?_
    refine z_goto (pc := 230) hC 241 rfl dX6_mapped_230 ?_
    exact z_sub [1, 2, 3, 4, 5, 6, 7, 8, 9, 10, 0] rfl (r_Mo_mapped_241 hC hk k165 h165 v3 v4 v5 v6 v7 v9 v10 v11 v12 v13_9 (0 : Int32) d)
theorem r_Mo_mapped_165 {C : Cxt} {G : Geo} {M : Mem} {k : Nat} (hC : Cx C cX6_mapped 16 "FrameHeirsModel" (some .int) rm_X6_mapped G) (hk : LMo G k) : ∀ (n : Nat) (v3 : Int32) (v4 : Int32) (v5 : Int32) (v6 : Int32) (v7 : Int32) (v9 : Int32) (v10 : Int32) (d : Sl), Rz C 16 G (setS M k) (poM avI (setS M k)) 165 [(0, .inr (k, 34)), (3, .inl (.int v3)), (4, .inl (.int v4)), (5, .inl (.int v5)), (6, .inl (.int v6)), (7, .inl (.int v7)), (9, .inl (.int v9)), (10, .inl (.int v10))] [] d (Mo_mapped_165 n v3 v4 v5 v6 v7 v9 v10 d) := by
  intro n
  induction n with
  | zero => intros; exact z_none
  | succ n ih =>
    intro v3 v4 v5 v6 v7 v9 v10 d
    rw [Mo_mapped_165]
    refine z_iload (pc := 165) hC 10 7 rfl dX6_mapped_165 ?_
    refine z_aload_n (pc := 167) hC 0 rfl 0 rfl dX6_mapped_167 ?_
    refine zs_geti (pc := 168) hC (hk 34 rfl) f_34_30 q1300 dX6_mapped_168 ?_
    refine z_icmp_ge (pc := 171) hC 319 rfl dX6_mapped_171 ?_ ?_
    · refine z_iload (pc := 319) hC 9 6 rfl dX6_mapped_319 ?_
      exact z_iret (pc := 321) hC rfl dX6_mapped_321
    · refine z_aload_n (pc := 174) hC 0 rfl 0 rfl dX6_mapped_174 ?_
      refine z_getc (pc := 175) hC (hk 34 rfl) f_34_29 q1299 dX6_mapped_175 ?_
      refine z_iload (pc := 178) hC 10 7 rfl dX6_mapped_178 ?_
      refine zs_iald (pc := 180) hC (hk 47 rfl) rfl dX6_mapped_180 ?_
      refine z_istore (pc := 181) (ls1 := fun v => [(11, .inl (.int v)), (0, .inr (k, 34)), (3, .inl (.int v3)), (4, .inl (.int v4)), (5, .inl (.int v5)), (6, .inl (.int v6)), (7, .inl (.int v7)), (9, .inl (.int v9)), (10, .inl (.int v10))]) hC 11 (by decide) (fun v => rfl) dX6_mapped_181 (fun v11_10 => ?_)
      refine z_aload_n (pc := 183) hC 0 rfl 1 rfl dX6_mapped_183 ?_
      refine z_sipush (pc := 184) hC (384 : Int32) rfl dX6_mapped_184 ?_
      refine z_iload (pc := 187) hC 11 0 rfl dX6_mapped_187 ?_
      refine z_iadd (pc := 189) hC dX6_mapped_189 ?_
      refine z_piV (pc := 190) (st := []) hC y_X6_of q1262 [.inl (.int ((384 : Int32) + v11_10))] rfl (hk 34 rfl) rfl rfl (c_X6_of hC.2.2.2.2.2.2.1 hk) rfl ⟨rfl, rfl, (Nat.le_of_ble_eq_true rfl), (Nat.le_of_ble_eq_true rfl)⟩ (Nat.le_of_ble_eq_true rfl) dX6_mapped_190 (fun r11 => ?_)
      refine z_iload (pc := 193) hC 5 4 rfl dX6_mapped_193 ?_
      refine z_iand (pc := 195) hC dX6_mapped_195 ?_
      refine z_istore (pc := 196) (ls1 := fun v => [(12, .inl (.int v)), (11, .inl (.int v11_10)), (0, .inr (k, 34)), (3, .inl (.int v3)), (4, .inl (.int v4)), (5, .inl (.int v5)), (6, .inl (.int v6)), (7, .inl (.int v7)), (9, .inl (.int v9)), (10, .inl (.int v10))]) hC 12 (by decide) (fun v => rfl) dX6_mapped_196 (fun v12_12 => ?_)
      refine z_iload (pc := 198) hC 12 0 rfl dX6_mapped_198 ?_
      refine z_if_ne (pc := 200) hC 206 rfl dX6_mapped_200 ?_ ?_
      · refine z_aload_n (pc := 206) hC 0 rfl 2 rfl dX6_mapped_206 ?_
        refine z_iload (pc := 207) hC 11 1 rfl dX6_mapped_207 ?_
        refine z_piV (pc := 209) (st := []) hC y_X6_orderOf q1516 [.inl (.int v11_10)] rfl (hk 34 rfl) rfl rfl (c_X6_orderOf hC.2.2.2.2.2.2.1 hk) rfl ⟨rfl, rfl, (Nat.le_of_ble_eq_true rfl), (Nat.le_of_ble_eq_true rfl)⟩ (Nat.le_of_ble_eq_true rfl) dX6_mapped_209 (fun r13 => ?_)
        refine z_iload (pc := 212) hC 6 6 rfl dX6_mapped_212 ?_
        refine z_icmp_le (pc := 214) hC 221 rfl dX6_mapped_214 ?_ ?_
        · refine z_iconst (pc := 221) hC (0 : Int32) rfl dX6_mapped_221 ?_
          exact z_sub [2, 3, 4, 5, 6, 7, 8, 9, 1, 0] rfl (r_Mo_mapped_222 hC hk _ ih v3 v4 v5 v6 v7 v9 v10 v11_10 v12_12 (0 : Int32) d)
        · refine z_iconst (pc := 217) hC (1 : Int32) rfl dX6_mapped_217 ?_
          refine z_goto (pc := 218) hC 222 rfl dX6_mapped_218 ?_
          exact z_sub [2, 3, 4, 5, 6, 7, 8, 9, 1, 0] rfl (r_Mo_mapped_222 hC hk _ ih v3 v4 v5 v6 v7 v9 v10 v11_10 v12_12 (1 : Int32) d)
      · refine z_goto (pc := 203) hC 313 rfl dX6_mapped_203 ?_
        exact z_sub [2, 3, 4, 5, 6, 7, 8, 9] rfl (r_Mo_mapped_313 hC hk _ ih v3 v4 v5 v6 v7 v9 v10 d)
theorem r_Mo_mapped_126 {C : Cxt} {G : Geo} {M : Mem} {k : Nat} (hC : Cx C cX6_mapped 16 "FrameHeirsModel" (some .int) rm_X6_mapped G) (hk : LMo G k) (k60 : Int32 → Int32 → Int32 → Int32 → Int32 → Int32 → Int32 → Sl → Option (Int32 × Sl)) (h60 : ∀ (v3 : Int32) (v4 : Int32) (v5 : Int32) (v6 : Int32) (v7 : Int32) (v8 : Int32) (v9 : Int32) (d : Sl), Rz C 16 G (setS M k) (poM avI (setS M k)) 60 [(0, .inr (k, 34)), (3, .inl (.int v3)), (4, .inl (.int v4)), (5, .inl (.int v5)), (6, .inl (.int v6)), (7, .inl (.int v7)), (8, .inl (.int v8)), (9, .inl (.int v9))] [] d (k60 v3 v4 v5 v6 v7 v8 v9 d)) (v3 : Int32) (v4 : Int32) (v5 : Int32) (v6 : Int32) (v7 : Int32) (v8 : Int32) (v9 : Int32) (d : Sl) : Rz C 16 G (setS M k) (poM avI (setS M k)) 126 [(0, .inr (k, 34)), (3, .inl (.int v3)), (4, .inl (.int v4)), (5, .inl (.int v5)), (6, .inl (.int v6)), (7, .inl (.int v7)), (8, .inl (.int v8)), (9, .inl (.int v9))] [] d (Mo_mapped_126 k60 v3 v4 v5 v6 v7 v8 v9 d) := by
  unfold Mo_mapped_126
  refine z_iinc (pc := 126) (ls1 := fun v => [(9, .inl (.int v)), (0, .inr (k, 34)), (3, .inl (.int v3)), (4, .inl (.int v4)), (5, .inl (.int v5)), (6, .inl (.int v6)), (7, .inl (.int v7)), (8, .inl (.int v8))]) hC 9 7 (by decide) (1 : Int32) rfl rfl (fun v => rfl) dX6_mapped_126 (fun v9_14 => ?_)
  refine z_goto (pc := 129) hC 60 rfl dX6_mapped_129 ?_
  exact z_sub [1, 2, 3, 4, 5, 6, 7, 0] rfl (h60 v3 v4 v5 v6 v7 v8 v9_14 d)
theorem r_Mo_mapped_123 {C : Cxt} {G : Geo} {M : Mem} {k : Nat} (hC : Cx C cX6_mapped 16 "FrameHeirsModel" (some .int) rm_X6_mapped G) (hk : LMo G k) (k60 : Int32 → Int32 → Int32 → Int32 → Int32 → Int32 → Int32 → Sl → Option (Int32 × Sl)) (h60 : ∀ (v3 : Int32) (v4 : Int32) (v5 : Int32) (v6 : Int32) (v7 : Int32) (v8 : Int32) (v9 : Int32) (d : Sl), Rz C 16 G (setS M k) (poM avI (setS M k)) 60 [(0, .inr (k, 34)), (3, .inl (.int v3)), (4, .inl (.int v4)), (5, .inl (.int v5)), (6, .inl (.int v6)), (7, .inl (.int v7)), (8, .inl (.int v8)), (9, .inl (.int v9))] [] d (k60 v3 v4 v5 v6 v7 v8 v9 d)) (v3 : Int32) (v4 : Int32) (v5 : Int32) (v6 : Int32) (v7 : Int32) (v9 : Int32) (s0 : Int32) (s1 : Int32) (d : Sl) : Rz C 16 G (setS M k) (poM avI (setS M k)) 123 [(0, .inr (k, 34)), (3, .inl (.int v3)), (4, .inl (.int v4)), (5, .inl (.int v5)), (6, .inl (.int v6)), (7, .inl (.int v7)), (9, .inl (.int v9))] [.inl (.int s0), .inl (.int s1)] d (Mo_mapped_123 k60 v3 v4 v5 v6 v7 v9 s0 s1 d) := by
  unfold Mo_mapped_123
  refine z_iadd (pc := 123) hC dX6_mapped_123 ?_
  refine z_istore (pc := 124) (ls1 := fun v => [(8, .inl (.int v)), (0, .inr (k, 34)), (3, .inl (.int v3)), (4, .inl (.int v4)), (5, .inl (.int v5)), (6, .inl (.int v6)), (7, .inl (.int v7)), (9, .inl (.int v9))]) hC 8 (by decide) (fun v => rfl) dX6_mapped_124 (fun v8_15 => ?_)
  exact z_sub [1, 2, 3, 4, 5, 6, 0, 7] rfl (r_Mo_mapped_126 hC hk k60 h60 v3 v4 v5 v6 v7 v8_15 v9 d)
theorem r_Mo_mapped_60 {C : Cxt} {G : Geo} {M : Mem} {k : Nat} (hC : Cx C cX6_mapped 16 "FrameHeirsModel" (some .int) rm_X6_mapped G) (hk : LMo G k) : ∀ (n : Nat) (v3 : Int32) (v4 : Int32) (v5 : Int32) (v6 : Int32) (v7 : Int32) (v8 : Int32) (v9 : Int32) (d : Sl), Rz C 16 G (setS M k) (poM avI (setS M k)) 60 [(0, .inr (k, 34)), (3, .inl (.int v3)), (4, .inl (.int v4)), (5, .inl (.int v5)), (6, .inl (.int v6)), (7, .inl (.int v7)), (8, .inl (.int v8)), (9, .inl (.int v9))] [] d (Mo_mapped_60 n v3 v4 v5 v6 v7 v8 v9 d) := by
  intro n
  induction n with
  | zero => intros; exact z_none
  | succ n ih =>
    intro v3 v4 v5 v6 v7 v8 v9 d
    rw [Mo_mapped_60]
    refine z_iload (pc := 60) hC 9 7 rfl dX6_mapped_60 ?_
    refine z_aload_n (pc := 62) hC 0 rfl 0 rfl dX6_mapped_62 ?_
    refine zs_geti (pc := 63) hC (hk 34 rfl) f_34_30 q1300 dX6_mapped_63 ?_
    refine z_icmp_ge (pc := 66) hC 132 rfl dX6_mapped_66 ?_ ?_
    · refine z_iload (pc := 132) hC 8 6 rfl dX6_mapped_132 ?_
      refine z_if_ne (pc := 134) hC 140 rfl dX6_mapped_134 ?_ ?_
      · refine z_aload_n (pc := 140) hC 0 rfl 0 rfl dX6_mapped_140 ?_
        refine z_iload_n (pc := 141) hC 3 rfl 1 rfl dX6_mapped_141 ?_
        refine z_piV (pc := 142) (st := []) hC y_X6_pagesIn q1544 [.inl (.int v3)] rfl (hk 34 rfl) rfl rfl (c_X6_pagesIn hC.2.2.2.2.2.2.1 hk) rfl ⟨rfl, rfl, (Nat.le_of_ble_eq_true rfl), (Nat.le_of_ble_eq_true rfl)⟩ (Nat.le_of_ble_eq_true rfl) dX6_mapped_142 (fun r16 => ?_)
        refine z_iload (pc := 145) hC 8 6 rfl dX6_mapped_145 ?_
        refine z_iadd (pc := 147) hC dX6_mapped_147 ?_
        refine z_aload_n (pc := 148) hC 0 rfl 0 rfl dX6_mapped_148 ?_
        refine z_iload_n (pc := 149) hC 3 rfl 1 rfl dX6_mapped_149 ?_
        refine z_piV (pc := 150) (st := [.inl (.int (r16 + v8))]) hC y_X6_mostOf q1548 [.inl (.int v3)] rfl (hk 34 rfl) rfl rfl (c_X6_mostOf hC.2.2.2.2.2.2.1 hk) rfl ⟨rfl, rfl, (Nat.le_of_ble_eq_true rfl), (Nat.le_of_ble_eq_true rfl)⟩ (Nat.le_of_ble_eq_true rfl) dX6_mapped_150 (fun r17 => ?_)
        refine z_icmp_le (pc := 153) hC 159 rfl dX6_mapped_153 ?_ ?_
        · refine z_iconst (pc := 159) hC (0 : Int32) rfl dX6_mapped_159 ?_
          refine z_istore (pc := 160) (ls1 := fun v => [(9, .inl (.int v)), (0, .inr (k, 34)), (3, .inl (.int v3)), (4, .inl (.int v4)), (5, .inl (.int v5)), (6, .inl (.int v6)), (7, .inl (.int v7)), (8, .inl (.int v8))]) hC 9 (by decide) (fun v => rfl) dX6_mapped_160 (fun v9_18 => ?_)
          refine z_iconst (pc := 162) hC (0 : Int32) rfl dX6_mapped_162 ?_
          refine z_istore (pc := 163) (ls1 := fun v => [(10, .inl (.int v)), (9, .inl (.int v9_18)), (0, .inr (k, 34)), (3, .inl (.int v3)), (4, .inl (.int v4)), (5, .inl (.int v5)), (6, .inl (.int v6)), (7, .inl (.int v7)), (8, .inl (.int v8))]) hC 10 (by decide) (fun v => rfl) dX6_mapped_163 (fun v10_19 => ?_)
          exact z_sub [2, 3, 4, 5, 6, 7, 1, 0] rfl (r_Mo_mapped_165 hC hk FU v3 v4 v5 v6 v7 v9_18 v10_19 d)
        · refine z_bipush (pc := 156) hC (-6 : Int32) rfl dX6_mapped_156 ?_
          exact z_iret (pc := 158) hC rfl dX6_mapped_158
      · refine z_bipush (pc := 137) hC (-5 : Int32) rfl dX6_mapped_137 ?_
        exact z_iret (pc := 139) hC rfl dX6_mapped_139
    · refine z_aload_n (pc := 69) hC 0 rfl 0 rfl dX6_mapped_69 ?_
      refine z_aload_n (pc := 70) hC 0 rfl 0 rfl dX6_mapped_70 ?_
      refine z_getc (pc := 71) hC (hk 34 rfl) f_34_29 q1299 dX6_mapped_71 ?_
      refine z_iload (pc := 74) hC 9 7 rfl dX6_mapped_74 ?_
      refine zs_iald (pc := 76) hC (hk 47 rfl) rfl dX6_mapped_76 ?_
      refine z_piV (pc := 77) (st := []) hC y_X6_pagesOf q1540 [.inl (.int (d 47 (ix v9)))] rfl (hk 34 rfl) rfl rfl (c_X6_pagesOf hC.2.2.2.2.2.2.1 hk) rfl ⟨rfl, rfl, (Nat.le_of_ble_eq_true rfl), (Nat.le_of_ble_eq_true rfl)⟩ (Nat.le_of_ble_eq_true rfl) dX6_mapped_77 (fun r20 => ?_)
      refine z_istore (pc := 80) (ls1 := fun v => [(10, .inl (.int v)), (0, .inr (k, 34)), (3, .inl (.int v3)), (4, .inl (.int v4)), (5, .inl (.int v5)), (6, .inl (.int v6)), (7, .inl (.int v7)), (8, .inl (.int v8)), (9, .inl (.int v9))]) hC 10 (by decide) (fun v => rfl) dX6_mapped_80 (fun v10_21 => ?_)
      refine z_aload_n (pc := 82) hC 0 rfl 1 rfl dX6_mapped_82 ?_
      refine z_sipush (pc := 83) hC (384 : Int32) rfl dX6_mapped_83 ?_
      refine z_aload_n (pc := 86) hC 0 rfl 1 rfl dX6_mapped_86 ?_
      refine z_getc (pc := 87) hC (hk 34 rfl) f_34_29 q1299 dX6_mapped_87 ?_
      refine z_iload (pc := 90) hC 9 8 rfl dX6_mapped_90 ?_
      refine zs_iald (pc := 92) hC (hk 47 rfl) rfl dX6_mapped_92 ?_
      refine z_iadd (pc := 93) hC dX6_mapped_93 ?_
      refine z_piV (pc := 94) (st := []) hC y_X6_of q1262 [.inl (.int ((384 : Int32) + (d 47 (ix v9))))] rfl (hk 34 rfl) rfl rfl (c_X6_of hC.2.2.2.2.2.2.1 hk) rfl ⟨rfl, rfl, (Nat.le_of_ble_eq_true rfl), (Nat.le_of_ble_eq_true rfl)⟩ (Nat.le_of_ble_eq_true rfl) dX6_mapped_94 (fun r22 => ?_)
      refine z_iload (pc := 97) hC 5 4 rfl dX6_mapped_97 ?_
      refine z_iand (pc := 99) hC dX6_mapped_99 ?_
      refine z_if_eq (pc := 100) hC 126 rfl dX6_mapped_100 ?_ ?_
      · exact z_sub [1, 2, 3, 4, 5, 6, 7, 8] rfl (r_Mo_mapped_126 hC hk _ ih v3 v4 v5 v6 v7 v8 v9 d)
      · refine z_iload (pc := 103) hC 8 7 rfl dX6_mapped_103 ?_
        refine z_iload (pc := 105) hC 10 0 rfl dX6_mapped_105 ?_
        refine z_iconst (pc := 107) hC (1 : Int32) rfl dX6_mapped_107 ?_
        refine z_iload (pc := 108) hC 6 5 rfl dX6_mapped_108 ?_
        refine z_ishl (pc := 110) hC dX6_mapped_110 ?_
        refine z_icmp_le (pc := 111) hC 121 rfl dX6_mapped_111 ?_ ?_
        · refine z_iload (pc := 121) hC 10 0 rfl dX6_mapped_121 ?_
          exact z_sub [1, 2, 3, 4, 5, 6, 8] rfl (r_Mo_mapped_123 hC hk _ ih v3 v4 v5 v6 v7 v9 v10_21 v8 d)
        · refine z_iconst (pc := 114) hC (1 : Int32) rfl dX6_mapped_114 ?_
          refine z_iload (pc := 115) hC 6 5 rfl dX6_mapped_115 ?_
          refine z_ishl (pc := 117) hC dX6_mapped_117 ?_
          refine z_goto (pc := 118) hC 123 rfl dX6_mapped_118 ?_
          exact z_sub [1, 2, 3, 4, 5, 6, 8] rfl (r_Mo_mapped_123 hC hk _ ih v3 v4 v5 v6 v7 v9 ((1 : Int32) <<< (v6 &&& 31)) v8 d)
theorem r_Mo_mapped {C : Cxt} {G : Geo} {M : Mem} {k : Nat} (hC : Cx C cX6_mapped 16 "FrameHeirsModel" (some .int) rm_X6_mapped G) (hk : LMo G k) (d : Sl) (a1 : Int32) (a2 : Int32) (a3 : Int32) (a4 : Int32) (a5 : Int32) : Rz C 16 G (setS M k) (poM avI (setS M k)) 0 [(0, .inr (k, 34)), (1, .inl (.int a1)), (2, .inl (.int a2)), (3, .inl (.int a3)), (4, .inl (.int a4)), (5, .inl (.int a5))] [] d (Mo_mapped d a1 a2 a3 a4 a5) := by
  unfold Mo_mapped
  refine z_iload_n (pc := 0) hC 2 rfl 2 rfl dX6_mapped_0 ?_
  refine z_iconst (pc := 1) hC (4 : Int32) rfl dX6_mapped_1 ?_
  refine z_irem (pc := 2) hC dX6_mapped_2 ?_
  refine z_istore (pc := 3) (ls1 := fun v => [(6, .inl (.int v)), (0, .inr (k, 34)), (1, .inl (.int a1)), (2, .inl (.int a2)), (3, .inl (.int a3)), (4, .inl (.int a4)), (5, .inl (.int a5))]) hC 6 (by decide) (fun v => rfl) dX6_mapped_3 (fun v6_23 => ?_)
  refine z_iload_n (pc := 5) hC 2 rfl 3 rfl dX6_mapped_5 ?_
  refine z_iconst (pc := 6) hC (4 : Int32) rfl dX6_mapped_6 ?_
  refine z_idiv (pc := 7) hC dX6_mapped_7 ?_
  refine z_istore (pc := 8) (ls1 := fun v => [(7, .inl (.int v)), (6, .inl (.int v6_23)), (0, .inr (k, 34)), (1, .inl (.int a1)), (2, .inl (.int a2)), (3, .inl (.int a3)), (4, .inl (.int a4)), (5, .inl (.int a5))]) hC 7 (by decide) (fun v => rfl) dX6_mapped_8 (fun v7_24 => ?_)
  refine z_aload_n (pc := 10) hC 0 rfl 2 rfl dX6_mapped_10 ?_
  refine z_iload_n (pc := 11) hC 1 rfl 3 rfl dX6_mapped_11 ?_
  refine z_iload (pc := 12) hC 7 0 rfl dX6_mapped_12 ?_
  refine z_iload (pc := 14) hC 6 1 rfl dX6_mapped_14 ?_
  refine z_cvV (pc := 16) (st := []) hC y_X6_looks q1508 [.inl (.int a1), .inl (.int v7_24), .inl (.int v6_23)] rfl (hk 34 rfl) rfl rfl (c_X6_looks hC.2.2.2.2.2.2.1 hk) rfl ⟨rfl, rfl, (Nat.le_of_ble_eq_true rfl), (Nat.le_of_ble_eq_true rfl)⟩ (Nat.le_of_ble_eq_true rfl) dX6_mapped_16 (fun r25 d26 => ?_)
  refine z_aload_n (pc := 19) hC 0 rfl 2 rfl dX6_mapped_19 ?_
  refine zs_geti (pc := 20) hC (hk 34 rfl) f_34_30 q1300 dX6_mapped_20 ?_
  refine z_if_ne (pc := 23) hC 29 rfl dX6_mapped_23 ?_ ?_
  · refine z_aload_n (pc := 29) hC 0 rfl 2 rfl dX6_mapped_29 ?_
    refine z_piV (pc := 30) (st := []) hC y_X6_isBusyThere q1524 [] rfl (hk 34 rfl) rfl rfl (c_X6_isBusyThere hC.2.2.2.2.2.2.1 hk) rfl ⟨rfl, rfl, (Nat.le_of_ble_eq_true rfl), (Nat.le_of_ble_eq_true rfl)⟩ (Nat.le_of_ble_eq_true rfl) dX6_mapped_30 (fun r27 => ?_)
    refine z_if_eq (pc := 33) hC 39 rfl dX6_mapped_33 ?_ ?_
    · refine z_aload_n (pc := 39) hC 0 rfl 2 rfl dX6_mapped_39 ?_
      refine z_iload_n (pc := 40) hC 3 rfl 5 rfl dX6_mapped_40 ?_
      refine z_iload (pc := 41) hC 4 6 rfl dX6_mapped_41 ?_
      refine z_iload (pc := 43) hC 6 1 rfl dX6_mapped_43 ?_
      refine z_piV (pc := 45) (st := []) hC y_X6_isFree q1536 [.inl (.int a3), .inl (.int a4), .inl (.int v6_23)] rfl (hk 34 rfl) rfl rfl (c_X6_isFree hC.2.2.2.2.2.2.1 hk) rfl ⟨rfl, rfl, (Nat.le_of_ble_eq_true rfl), (Nat.le_of_ble_eq_true rfl)⟩ (Nat.le_of_ble_eq_true rfl) dX6_mapped_45 (fun r28 => ?_)
      refine z_if_ne (pc := 48) hC 54 rfl dX6_mapped_48 ?_ ?_
      · refine z_iconst (pc := 54) hC (0 : Int32) rfl dX6_mapped_54 ?_
        refine z_istore (pc := 55) (ls1 := fun v => [(8, .inl (.int v)), (7, .inl (.int v7_24)), (6, .inl (.int v6_23)), (0, .inr (k, 34)), (1, .inl (.int a1)), (2, .inl (.int a2)), (3, .inl (.int a3)), (4, .inl (.int a4)), (5, .inl (.int a5))]) hC 8 (by decide) (fun v => rfl) dX6_mapped_55 (fun v8_29 => ?_)
        refine z_iconst (pc := 57) hC (0 : Int32) rfl dX6_mapped_57 ?_
        refine z_istore (pc := 58) (ls1 := fun v => [(9, .inl (.int v)), (8, .inl (.int v8_29)), (7, .inl (.int v7_24)), (6, .inl (.int v6_23)), (0, .inr (k, 34)), (1, .inl (.int a1)), (2, .inl (.int a2)), (3, .inl (.int a3)), (4, .inl (.int a4)), (5, .inl (.int a5))]) hC 9 (by decide) (fun v => rfl) dX6_mapped_58 (fun v9_30 => ?_)
        exact z_sub [4, 7, 8, 9, 3, 2, 1, 0] rfl (r_Mo_mapped_60 hC hk FU a3 a4 a5 v6_23 v7_24 v8_29 v9_30 d26)
      · refine z_bipush (pc := 51) hC (-4 : Int32) rfl dX6_mapped_51 ?_
        exact z_iret (pc := 53) hC rfl dX6_mapped_53
    · refine z_bipush (pc := 36) hC (-3 : Int32) rfl dX6_mapped_36 ?_
      exact z_iret (pc := 38) hC rfl dX6_mapped_38
  · refine z_bipush (pc := 26) hC (-2 : Int32) rfl dX6_mapped_26 ?_
    exact z_iret (pc := 28) hC rfl dX6_mapped_28
theorem c_X6_mapped {G : Geo} {M : Mem} {k : Nat} (hG : GOk G) (hk : LMo G k) {d : Sl} {a1 : Int32} {a2 : Int32} {a3 : Int32} {a4 : Int32} {a5 : Int32} (l : Launch) (r : Int32) (d1 : Sl) (h : Mo_mapped d a1 a2 a3 a4 a5 = some (r, d1)) : Mt l yX6_mapped cX6_mapped 16 (some .int) rm_X6_mapped G [.inr (k, 34), .inl (.int a1), .inl (.int a2), .inl (.int a3), .inl (.int a4), .inl (.int a5)] ((setS M k) d) (avI r) ((setS M k) d1) :=
  mt_of (mem := (setS M k)) (po := poM avI (setS M k)) (x0 := d) (t := (r, d1)) rfl hG [.inr (k, 34), .inl (.int a1), .inl (.int a2), .inl (.int a3), .inl (.int a4), .inl (.int a5)] (Nat.le_of_ble_eq_true rfl) rfl (fun C hC => r_Mo_mapped hC hk d a1 a2 a3 a4 a5) h
-- FrameHeirsModel.map(IIIII)I
abbrev rm_X6_map : Room := { frames := 5, cells := 0, slots := 0, locals := 121 }
theorem dX6_map_0 : decode cX6_map 0 = .ok (.aload_n 0, 1) := by decide +kernel
theorem dX6_map_1 : decode cX6_map 1 = .ok (.iconst 0, 1) := by decide +kernel
theorem dX6_map_2 : decode cX6_map 2 = .ok (.putfield 61, 3) := by decide +kernel
theorem dX6_map_5 : decode cX6_map 5 = .ok (.aload_n 0, 1) := by decide +kernel
theorem dX6_map_6 : decode cX6_map 6 = .ok (.iload_n 1, 1) := by decide +kernel
theorem dX6_map_7 : decode cX6_map 7 = .ok (.iload_n 2, 1) := by decide +kernel
theorem dX6_map_8 : decode cX6_map 8 = .ok (.iload_n 3, 1) := by decide +kernel
theorem dX6_map_9 : decode cX6_map 9 = .ok (.iload 4, 2) := by decide +kernel
theorem dX6_map_11 : decode cX6_map 11 = .ok (.invokevirtual 285, 3) := by decide +kernel
theorem dX6_map_14 : decode cX6_map 14 = .ok (.ifCond .eq 14, 3) := by decide +kernel
theorem dX6_map_17 : decode cX6_map 17 = .ok (.iload 5, 2) := by decide +kernel
theorem dX6_map_19 : decode cX6_map 19 = .ok (.iconst 1, 1) := by decide +kernel
theorem dX6_map_20 : decode cX6_map 20 = .ok (.bipush 7, 2) := by decide +kernel
theorem dX6_map_22 : decode cX6_map 22 = .ok (.invokestatic 137, 3) := by decide +kernel
theorem dX6_map_25 : decode cX6_map 25 = .ok (.ifCond .ne 5, 3) := by decide +kernel
theorem dX6_map_28 : decode cX6_map 28 = .ok (.iconst (-1), 1) := by decide +kernel
theorem dX6_map_29 : decode cX6_map 29 = .ok (.ireturn, 1) := by decide +kernel
theorem dX6_map_30 : decode cX6_map 30 = .ok (.aload_n 0, 1) := by decide +kernel
theorem dX6_map_31 : decode cX6_map 31 = .ok (.invokevirtual 289, 3) := by decide +kernel
theorem dX6_map_34 : decode cX6_map 34 = .ok (.aload_n 0, 1) := by decide +kernel
theorem dX6_map_35 : decode cX6_map 35 = .ok (.iload_n 1, 1) := by decide +kernel
theorem dX6_map_36 : decode cX6_map 36 = .ok (.iload_n 2, 1) := by decide +kernel
theorem dX6_map_37 : decode cX6_map 37 = .ok (.iload_n 3, 1) := by decide +kernel
theorem dX6_map_38 : decode cX6_map 38 = .ok (.iload 4, 2) := by decide +kernel
theorem dX6_map_40 : decode cX6_map 40 = .ok (.iload 5, 2) := by decide +kernel
theorem dX6_map_42 : decode cX6_map 42 = .ok (.invokevirtual 292, 3) := by decide +kernel
theorem dX6_map_45 : decode cX6_map 45 = .ok (.ireturn, 1) := by decide +kernel
def Mo_map (d : Sl) (a1 : Int32) (a2 : Int32) (a3 : Int32) (a4 : Int32) (a5 : Int32) : Option (Int32 × Sl) :=
  bnd (wr d 34 2 (0 : Int32)) fun d1 =>
  bp (Mo_isPassing d1 a1 a2 a3 a4) fun r2 =>
  if r2 = 0 then
    (some ((-1 : Int32), d1))
  else
    (bp (Mo_isIn a5 (1 : Int32) (7 : Int32)) fun r3 =>
    if r3 = 0 then
      (some ((-1 : Int32), d1))
    else
      (bd (Mo_canUndo d1) fun r4 d5 =>
      bd (Mo_mapped d5 a1 a2 a3 a4 a5) fun r6 d7 =>
      some (r6, d7)))
theorem y_X6_map : YV yX6_map cX6_map 6 (some .int) 5 := ⟨q1477, q1478, q1479, q149, by decide +kernel, by decide +kernel, by decide +kernel, by decide +kernel⟩
theorem r_Mo_map {C : Cxt} {G : Geo} {M : Mem} {k : Nat} (hC : Cx C cX6_map 6 "FrameHeirsModel" (some .int) rm_X6_map G) (hk : LMo G k) (d : Sl) (a1 : Int32) (a2 : Int32) (a3 : Int32) (a4 : Int32) (a5 : Int32) : Rz C 6 G (setS M k) (poM avI (setS M k)) 0 [(0, .inr (k, 34)), (1, .inl (.int a1)), (2, .inl (.int a2)), (3, .inl (.int a3)), (4, .inl (.int a4)), (5, .inl (.int a5))] [] d (Mo_map d a1 a2 a3 a4 a5) := by
  unfold Mo_map
  refine z_aload_n (pc := 0) hC 0 rfl 0 rfl dX6_map_0 ?_
  refine z_iconst (pc := 1) hC (0 : Int32) rfl dX6_map_1 ?_
  refine zs_puti (pc := 2) hC (hk 34 rfl) f_34_2 q1272 dX6_map_2 (fun d1 => ?_)
  refine z_aload_n (pc := 5) hC 0 rfl 0 rfl dX6_map_5 ?_
  refine z_iload_n (pc := 6) hC 1 rfl 1 rfl dX6_map_6 ?_
  refine z_iload_n (pc := 7) hC 2 rfl 2 rfl dX6_map_7 ?_
  refine z_iload_n (pc := 8) hC 3 rfl 3 rfl dX6_map_8 ?_
  refine z_iload (pc := 9) hC 4 4 rfl dX6_map_9 ?_
  refine z_piV (pc := 11) (st := []) hC y_X6_isPassing q1480 [.inl (.int a1), .inl (.int a2), .inl (.int a3), .inl (.int a4)] rfl (hk 34 rfl) rfl rfl (c_X6_isPassing hC.2.2.2.2.2.2.1 hk) rfl ⟨rfl, rfl, (Nat.le_of_ble_eq_true rfl), (Nat.le_of_ble_eq_true rfl)⟩ (Nat.le_of_ble_eq_true rfl) dX6_map_11 (fun r2 => ?_)
  refine z_if_eq (pc := 14) hC 28 rfl dX6_map_14 ?_ ?_
  · refine z_iconst (pc := 28) hC (-1 : Int32) rfl dX6_map_28 ?_
    exact z_iret (pc := 29) hC rfl dX6_map_29
  · refine z_iload (pc := 17) hC 5 5 rfl dX6_map_17 ?_
    refine z_iconst (pc := 19) hC (1 : Int32) rfl dX6_map_19 ?_
    refine z_bipush (pc := 20) hC (7 : Int32) rfl dX6_map_20 ?_
    refine z_piS (pc := 22) (st := []) hC y_X6_isIn q1429 [.inl (.int a5), .inl (.int (1 : Int32)), .inl (.int (7 : Int32))] rfl (c_X6_isIn hC.2.2.2.2.2.2.1) rfl ⟨rfl, rfl, (Nat.le_of_ble_eq_true rfl), (Nat.le_of_ble_eq_true rfl)⟩ (Nat.le_of_ble_eq_true rfl) dX6_map_22 (fun r3 => ?_)
    refine z_if_ne (pc := 25) hC 30 rfl dX6_map_25 ?_ ?_
    · refine z_aload_n (pc := 30) hC 0 rfl 0 rfl dX6_map_30 ?_
      refine z_cvV (pc := 31) (st := []) hC y_X6_canUndo q1500 [] rfl (hk 34 rfl) rfl rfl (c_X6_canUndo hC.2.2.2.2.2.2.1 hk) rfl ⟨rfl, rfl, (Nat.le_of_ble_eq_true rfl), (Nat.le_of_ble_eq_true rfl)⟩ (Nat.le_of_ble_eq_true rfl) dX6_map_31 (fun r4 d5 => ?_)
      refine z_aload_n (pc := 34) hC 0 rfl 0 rfl dX6_map_34 ?_
      refine z_iload_n (pc := 35) hC 1 rfl 1 rfl dX6_map_35 ?_
      refine z_iload_n (pc := 36) hC 2 rfl 2 rfl dX6_map_36 ?_
      refine z_iload_n (pc := 37) hC 3 rfl 3 rfl dX6_map_37 ?_
      refine z_iload (pc := 38) hC 4 4 rfl dX6_map_38 ?_
      refine z_iload (pc := 40) hC 5 5 rfl dX6_map_40 ?_
      refine z_ciV (pc := 42) (st := []) hC y_X6_mapped q1504 [.inl (.int a1), .inl (.int a2), .inl (.int a3), .inl (.int a4), .inl (.int a5)] rfl (hk 34 rfl) rfl rfl (c_X6_mapped hC.2.2.2.2.2.2.1 hk) rfl ⟨rfl, rfl, (Nat.le_of_ble_eq_true rfl), (Nat.le_of_ble_eq_true rfl)⟩ (Nat.le_of_ble_eq_true rfl) dX6_map_42 (fun r6 d7 => ?_)
      exact z_iret (pc := 45) hC rfl dX6_map_45
    · refine z_iconst (pc := 28) hC (-1 : Int32) rfl dX6_map_28 ?_
      exact z_iret (pc := 29) hC rfl dX6_map_29
theorem c_X6_map {G : Geo} {M : Mem} {k : Nat} (hG : GOk G) (hk : LMo G k) {d : Sl} {a1 : Int32} {a2 : Int32} {a3 : Int32} {a4 : Int32} {a5 : Int32} (l : Launch) (r : Int32) (d1 : Sl) (h : Mo_map d a1 a2 a3 a4 a5 = some (r, d1)) : Mt l yX6_map cX6_map 6 (some .int) rm_X6_map G [.inr (k, 34), .inl (.int a1), .inl (.int a2), .inl (.int a3), .inl (.int a4), .inl (.int a5)] ((setS M k) d) (avI r) ((setS M k) d1) :=
  mt_of (mem := (setS M k)) (po := poM avI (setS M k)) (x0 := d) (t := (r, d1)) rfl hG [.inr (k, 34), .inl (.int a1), .inl (.int a2), .inl (.int a3), .inl (.int a4), .inl (.int a5)] (Nat.le_of_ble_eq_true rfl) rfl (fun C hC => r_Mo_map hC hk d a1 a2 a3 a4 a5) h
-- FrameHeirsModel.movesTo(II)V
abbrev rm_X6_movesTo : Room := { frames := 2, cells := 0, slots := 0, locals := 45 }
theorem dX6_movesTo_0 : decode cX6_movesTo 0 = .ok (.iconst 0, 1) := by decide +kernel
theorem dX6_movesTo_1 : decode cX6_movesTo 1 = .ok (.istore_n 3, 1) := by decide +kernel
theorem dX6_movesTo_2 : decode cX6_movesTo 2 = .ok (.iload_n 3, 1) := by decide +kernel
theorem dX6_movesTo_3 : decode cX6_movesTo 3 = .ok (.sipush 1728, 3) := by decide +kernel
theorem dX6_movesTo_6 : decode cX6_movesTo 6 = .ok (.if_icmp .gt 26, 3) := by decide +kernel
theorem dX6_movesTo_9 : decode cX6_movesTo 9 = .ok (.aload_n 0, 1) := by decide +kernel
theorem dX6_movesTo_10 : decode cX6_movesTo 10 = .ok (.iload_n 3, 1) := by decide +kernel
theorem dX6_movesTo_11 : decode cX6_movesTo 11 = .ok (.iload_n 2, 1) := by decide +kernel
theorem dX6_movesTo_12 : decode cX6_movesTo 12 = .ok (.iadd, 1) := by decide +kernel
theorem dX6_movesTo_13 : decode cX6_movesTo 13 = .ok (.aload_n 0, 1) := by decide +kernel
theorem dX6_movesTo_14 : decode cX6_movesTo 14 = .ok (.iload_n 3, 1) := by decide +kernel
theorem dX6_movesTo_15 : decode cX6_movesTo 15 = .ok (.iload_n 1, 1) := by decide +kernel
theorem dX6_movesTo_16 : decode cX6_movesTo 16 = .ok (.iadd, 1) := by decide +kernel
theorem dX6_movesTo_17 : decode cX6_movesTo 17 = .ok (.invokevirtual 189, 3) := by decide +kernel
theorem dX6_movesTo_20 : decode cX6_movesTo 20 = .ok (.invokevirtual 122, 3) := by decide +kernel
theorem dX6_movesTo_23 : decode cX6_movesTo 23 = .ok (.iinc 3 192, 6) := by decide +kernel
theorem dX6_movesTo_29 : decode cX6_movesTo 29 = .ok (.goto (-27), 3) := by decide +kernel
theorem dX6_movesTo_32 : decode cX6_movesTo 32 = .ok (.aload_n 0, 1) := by decide +kernel
theorem dX6_movesTo_33 : decode cX6_movesTo 33 = .ok (.iconst 0, 1) := by decide +kernel
theorem dX6_movesTo_34 : decode cX6_movesTo 34 = .ok (.iload_n 1, 1) := by decide +kernel
theorem dX6_movesTo_35 : decode cX6_movesTo 35 = .ok (.iadd, 1) := by decide +kernel
theorem dX6_movesTo_36 : decode cX6_movesTo 36 = .ok (.iconst 0, 1) := by decide +kernel
theorem dX6_movesTo_37 : decode cX6_movesTo 37 = .ok (.invokevirtual 122, 3) := by decide +kernel
theorem dX6_movesTo_40 : decode cX6_movesTo 40 = .ok (.aload_n 0, 1) := by decide +kernel
theorem dX6_movesTo_41 : decode cX6_movesTo 41 = .ok (.iload_n 2, 1) := by decide +kernel
theorem dX6_movesTo_42 : decode cX6_movesTo 42 = .ok (.invokevirtual 210, 3) := by decide +kernel
theorem dX6_movesTo_45 : decode cX6_movesTo 45 = .ok (.istore_n 3, 1) := by decide +kernel
theorem dX6_movesTo_46 : decode cX6_movesTo 46 = .ok (.aload_n 0, 1) := by decide +kernel
theorem dX6_movesTo_47 : decode cX6_movesTo 47 = .ok (.sipush 1152, 3) := by decide +kernel
theorem dX6_movesTo_50 : decode cX6_movesTo 50 = .ok (.iload_n 2, 1) := by decide +kernel
theorem dX6_movesTo_51 : decode cX6_movesTo 51 = .ok (.iadd, 1) := by decide +kernel
theorem dX6_movesTo_52 : decode cX6_movesTo 52 = .ok (.invokevirtual 189, 3) := by decide +kernel
theorem dX6_movesTo_55 : decode cX6_movesTo 55 = .ok (.iconst 1, 1) := by decide +kernel
theorem dX6_movesTo_56 : decode cX6_movesTo 56 = .ok (.isub, 1) := by decide +kernel
theorem dX6_movesTo_57 : decode cX6_movesTo 57 = .ok (.istore 4, 2) := by decide +kernel
theorem dX6_movesTo_59 : decode cX6_movesTo 59 = .ok (.aload_n 0, 1) := by decide +kernel
theorem dX6_movesTo_60 : decode cX6_movesTo 60 = .ok (.iload_n 2, 1) := by decide +kernel
theorem dX6_movesTo_61 : decode cX6_movesTo 61 = .ok (.invokevirtual 231, 3) := by decide +kernel
theorem dX6_movesTo_64 : decode cX6_movesTo 64 = .ok (.istore 5, 2) := by decide +kernel
theorem dX6_movesTo_66 : decode cX6_movesTo 66 = .ok (.iload_n 3, 1) := by decide +kernel
theorem dX6_movesTo_67 : decode cX6_movesTo 67 = .ok (.ifCond .lt 19, 3) := by decide +kernel
theorem dX6_movesTo_70 : decode cX6_movesTo 70 = .ok (.aload_n 0, 1) := by decide +kernel
theorem dX6_movesTo_71 : decode cX6_movesTo 71 = .ok (.iload 4, 2) := by decide +kernel
theorem dX6_movesTo_73 : decode cX6_movesTo 73 = .ok (.iload_n 2, 1) := by decide +kernel
theorem dX6_movesTo_74 : decode cX6_movesTo 74 = .ok (.iload_n 3, 1) := by decide +kernel
theorem dX6_movesTo_75 : decode cX6_movesTo 75 = .ok (.invokevirtual 206, 3) := by decide +kernel
theorem dX6_movesTo_78 : decode cX6_movesTo 78 = .ok (.aload_n 0, 1) := by decide +kernel
theorem dX6_movesTo_79 : decode cX6_movesTo 79 = .ok (.iload_n 2, 1) := by decide +kernel
theorem dX6_movesTo_80 : decode cX6_movesTo 80 = .ok (.iload 5, 2) := by decide +kernel
theorem dX6_movesTo_82 : decode cX6_movesTo 82 = .ok (.iload_n 3, 1) := by decide +kernel
theorem dX6_movesTo_83 : decode cX6_movesTo 83 = .ok (.invokevirtual 206, 3) := by decide +kernel
theorem dX6_movesTo_86 : decode cX6_movesTo 86 = .ok (.aload_n 0, 1) := by decide +kernel
theorem dX6_movesTo_87 : decode cX6_movesTo 87 = .ok (.iload_n 2, 1) := by decide +kernel
theorem dX6_movesTo_88 : decode cX6_movesTo 88 = .ok (.invokevirtual 228, 3) := by decide +kernel
theorem dX6_movesTo_91 : decode cX6_movesTo 91 = .ok (.istore 6, 2) := by decide +kernel
theorem dX6_movesTo_93 : decode cX6_movesTo 93 = .ok (.iload 6, 2) := by decide +kernel
theorem dX6_movesTo_95 : decode cX6_movesTo 95 = .ok (.ifCond .lt 27, 3) := by decide +kernel
theorem dX6_movesTo_98 : decode cX6_movesTo 98 = .ok (.aload_n 0, 1) := by decide +kernel
theorem dX6_movesTo_99 : decode cX6_movesTo 99 = .ok (.sipush 576, 3) := by decide +kernel
theorem dX6_movesTo_102 : decode cX6_movesTo 102 = .ok (.iload 6, 2) := by decide +kernel
theorem dX6_movesTo_104 : decode cX6_movesTo 104 = .ok (.iadd, 1) := by decide +kernel
theorem dX6_movesTo_105 : decode cX6_movesTo 105 = .ok (.iload_n 2, 1) := by decide +kernel
theorem dX6_movesTo_106 : decode cX6_movesTo 106 = .ok (.iconst 1, 1) := by decide +kernel
theorem dX6_movesTo_107 : decode cX6_movesTo 107 = .ok (.iadd, 1) := by decide +kernel
theorem dX6_movesTo_108 : decode cX6_movesTo 108 = .ok (.invokevirtual 122, 3) := by decide +kernel
theorem dX6_movesTo_111 : decode cX6_movesTo 111 = .ok (.aload_n 0, 1) := by decide +kernel
theorem dX6_movesTo_112 : decode cX6_movesTo 112 = .ok (.iload 6, 2) := by decide +kernel
theorem dX6_movesTo_114 : decode cX6_movesTo 114 = .ok (.invokevirtual 231, 3) := by decide +kernel
theorem dX6_movesTo_117 : decode cX6_movesTo 117 = .ok (.istore 6, 2) := by decide +kernel
theorem dX6_movesTo_119 : decode cX6_movesTo 119 = .ok (.goto (-26), 3) := by decide +kernel
theorem dX6_movesTo_122 : decode cX6_movesTo 122 = .ok (.aload_n 0, 1) := by decide +kernel
theorem dX6_movesTo_123 : decode cX6_movesTo 123 = .ok (.iload_n 2, 1) := by decide +kernel
theorem dX6_movesTo_124 : decode cX6_movesTo 124 = .ok (.invokevirtual 202, 3) := by decide +kernel
theorem dX6_movesTo_127 : decode cX6_movesTo 127 = .ok (.return_, 1) := by decide +kernel
def Mo_movesTo_93 : Nat → Int32 → Int32 → Sl → Option (Unit × Sl)
  | 0, _, _, _ => none
  | n + 1, v2, v6, d =>
    if v6 < 0 then
      (bd (Mo_widens d v2) fun r1 d2 =>
      some ((), d2))
    else
      (bd (Mo_lay d ((576 : Int32) + v6) (v2 + (1 : Int32))) fun r3 d4 =>
      bp (Mo_nextOf d4 v6) fun r5 =>
      bnd r5 fun v6_6 =>
      Mo_movesTo_93 n v2 v6_6 d4)
def Mo_movesTo_86 (v2 : Int32) (d : Sl) : Option (Unit × Sl) :=
  bp (Mo_firstOf d v2) fun r7 =>
  bnd r7 fun v6_8 =>
  Mo_movesTo_93 FU v2 v6_8 d
def Mo_movesTo_2 : Nat → Int32 → Int32 → Int32 → Sl → Option (Unit × Sl)
  | 0, _, _, _, _ => none
  | n + 1, v1, v2, v3, d =>
    if (1728 : Int32) < v3 then
      (bd (Mo_lay d ((0 : Int32) + v1) (0 : Int32)) fun r9 d10 =>
      bp (Mo_giverOf d10 v2) fun r11 =>
      bnd r11 fun v3_12 =>
      bp (Mo_of d10 ((1152 : Int32) + v2)) fun r13 =>
      bnd (r13 - (1 : Int32)) fun v4_14 =>
      bp (Mo_nextOf d10 v2) fun r15 =>
      bnd r15 fun v5_16 =>
      if v3_12 < 0 then
        (Mo_movesTo_86 v2 d10)
      else
        (bd (Mo_linked d10 v4_14 v2 v3_12) fun r17 d18 =>
        bd (Mo_linked d18 v2 v5_16 v3_12) fun r19 d20 =>
        Mo_movesTo_86 v2 d20))
    else
      (bp (Mo_of d (v3 + v1)) fun r21 =>
      bd (Mo_lay d (v3 + v2) r21) fun r22 d23 =>
      bnd (v3 + (192 : Int32)) fun v3_24 =>
      Mo_movesTo_2 n v1 v2 v3_24 d23)
def Mo_movesTo (d : Sl) (a1 : Int32) (a2 : Int32) : Option (Unit × Sl) :=
  bnd (0 : Int32) fun v3_25 =>
  Mo_movesTo_2 FU a1 a2 v3_25 d
theorem y_X6_movesTo : YV yX6_movesTo cX6_movesTo 7 none 2 := ⟨q1602, q98, q1603, q149, by decide +kernel, by decide +kernel, by decide +kernel, by decide +kernel⟩
theorem r_Mo_movesTo_93 {C : Cxt} {G : Geo} {M : Mem} {k : Nat} (hC : Cx C cX6_movesTo 7 "FrameHeirsModel" none rm_X6_movesTo G) (hk : LMo G k) : ∀ (n : Nat) (v2 : Int32) (v6 : Int32) (d : Sl), Rz C 7 G (setS M k) (poM avV (setS M k)) 93 [(0, .inr (k, 34)), (2, .inl (.int v2)), (6, .inl (.int v6))] [] d (Mo_movesTo_93 n v2 v6 d) := by
  intro n
  induction n with
  | zero => intros; exact z_none
  | succ n ih =>
    intro v2 v6 d
    rw [Mo_movesTo_93]
    refine z_iload (pc := 93) hC 6 2 rfl dX6_movesTo_93 ?_
    refine z_if_lt (pc := 95) hC 122 rfl dX6_movesTo_95 ?_ ?_
    · refine z_aload_n (pc := 122) hC 0 rfl 0 rfl dX6_movesTo_122 ?_
      refine z_iload_n (pc := 123) hC 2 rfl 1 rfl dX6_movesTo_123 ?_
      refine z_cvV (pc := 124) (st := []) hC y_X6_widens q1258 [.inl (.int v2)] rfl (hk 34 rfl) rfl rfl (c_X6_widens hC.2.2.2.2.2.2.1 hk) rfl ⟨rfl, rfl, (Nat.le_of_ble_eq_true rfl), (Nat.le_of_ble_eq_true rfl)⟩ (Nat.le_of_ble_eq_true rfl) dX6_movesTo_124 (fun r1 d2 => ?_)
      exact z_vret (pc := 127) hC rfl dX6_movesTo_127
    · refine z_aload_n (pc := 98) hC 0 rfl 0 rfl dX6_movesTo_98 ?_
      refine z_sipush (pc := 99) hC (576 : Int32) rfl dX6_movesTo_99 ?_
      refine z_iload (pc := 102) hC 6 2 rfl dX6_movesTo_102 ?_
      refine z_iadd (pc := 104) hC dX6_movesTo_104 ?_
      refine z_iload_n (pc := 105) hC 2 rfl 1 rfl dX6_movesTo_105 ?_
      refine z_iconst (pc := 106) hC (1 : Int32) rfl dX6_movesTo_106 ?_
      refine z_iadd (pc := 107) hC dX6_movesTo_107 ?_
      refine z_cvV (pc := 108) (st := []) hC y_X6_lay q1246 [.inl (.int ((576 : Int32) + v6)), .inl (.int (v2 + (1 : Int32)))] rfl (hk 34 rfl) rfl rfl (c_X6_lay hC.2.2.2.2.2.2.1 hk) rfl ⟨rfl, rfl, (Nat.le_of_ble_eq_true rfl), (Nat.le_of_ble_eq_true rfl)⟩ (Nat.le_of_ble_eq_true rfl) dX6_movesTo_108 (fun r3 d4 => ?_)
      refine z_aload_n (pc := 111) hC 0 rfl 0 rfl dX6_movesTo_111 ?_
      refine z_iload (pc := 112) hC 6 2 rfl dX6_movesTo_112 ?_
      refine z_piV (pc := 114) (st := []) hC y_X6_nextOf q1588 [.inl (.int v6)] rfl (hk 34 rfl) rfl rfl (c_X6_nextOf hC.2.2.2.2.2.2.1 hk) rfl ⟨rfl, rfl, (Nat.le_of_ble_eq_true rfl), (Nat.le_of_ble_eq_true rfl)⟩ (Nat.le_of_ble_eq_true rfl) dX6_movesTo_114 (fun r5 => ?_)
      refine z_istore (pc := 117) (ls1 := fun v => [(6, .inl (.int v)), (0, .inr (k, 34)), (2, .inl (.int v2))]) hC 6 (by decide) (fun v => rfl) dX6_movesTo_117 (fun v6_6 => ?_)
      refine z_goto (pc := 119) hC 93 rfl dX6_movesTo_119 ?_
      exact z_sub [1, 2, 0] rfl (ih v2 v6_6 d4)
theorem r_Mo_movesTo_86 {C : Cxt} {G : Geo} {M : Mem} {k : Nat} (hC : Cx C cX6_movesTo 7 "FrameHeirsModel" none rm_X6_movesTo G) (hk : LMo G k) (v2 : Int32) (d : Sl) : Rz C 7 G (setS M k) (poM avV (setS M k)) 86 [(0, .inr (k, 34)), (2, .inl (.int v2))] [] d (Mo_movesTo_86 v2 d) := by
  unfold Mo_movesTo_86
  refine z_aload_n (pc := 86) hC 0 rfl 0 rfl dX6_movesTo_86 ?_
  refine z_iload_n (pc := 87) hC 2 rfl 1 rfl dX6_movesTo_87 ?_
  refine z_piV (pc := 88) (st := []) hC y_X6_firstOf q1584 [.inl (.int v2)] rfl (hk 34 rfl) rfl rfl (c_X6_firstOf hC.2.2.2.2.2.2.1 hk) rfl ⟨rfl, rfl, (Nat.le_of_ble_eq_true rfl), (Nat.le_of_ble_eq_true rfl)⟩ (Nat.le_of_ble_eq_true rfl) dX6_movesTo_88 (fun r7 => ?_)
  refine z_istore (pc := 91) (ls1 := fun v => [(6, .inl (.int v)), (0, .inr (k, 34)), (2, .inl (.int v2))]) hC 6 (by decide) (fun v => rfl) dX6_movesTo_91 (fun v6_8 => ?_)
  exact z_sub [1, 2, 0] rfl (r_Mo_movesTo_93 hC hk FU v2 v6_8 d)
theorem r_Mo_movesTo_2 {C : Cxt} {G : Geo} {M : Mem} {k : Nat} (hC : Cx C cX6_movesTo 7 "FrameHeirsModel" none rm_X6_movesTo G) (hk : LMo G k) : ∀ (n : Nat) (v1 : Int32) (v2 : Int32) (v3 : Int32) (d : Sl), Rz C 7 G (setS M k) (poM avV (setS M k)) 2 [(0, .inr (k, 34)), (1, .inl (.int v1)), (2, .inl (.int v2)), (3, .inl (.int v3))] [] d (Mo_movesTo_2 n v1 v2 v3 d) := by
  intro n
  induction n with
  | zero => intros; exact z_none
  | succ n ih =>
    intro v1 v2 v3 d
    rw [Mo_movesTo_2]
    refine z_iload_n (pc := 2) hC 3 rfl 3 rfl dX6_movesTo_2 ?_
    refine z_sipush (pc := 3) hC (1728 : Int32) rfl dX6_movesTo_3 ?_
    refine z_icmp_gt (pc := 6) hC 32 rfl dX6_movesTo_6 ?_ ?_
    · refine z_aload_n (pc := 32) hC 0 rfl 0 rfl dX6_movesTo_32 ?_
      refine z_iconst (pc := 33) hC (0 : Int32) rfl dX6_movesTo_33 ?_
      refine z_iload_n (pc := 34) hC 1 rfl 1 rfl dX6_movesTo_34 ?_
      refine z_iadd (pc := 35) hC dX6_movesTo_35 ?_
      refine z_iconst (pc := 36) hC (0 : Int32) rfl dX6_movesTo_36 ?_
      refine z_cvV (pc := 37) (st := []) hC y_X6_lay q1246 [.inl (.int ((0 : Int32) + v1)), .inl (.int (0 : Int32))] rfl (hk 34 rfl) rfl rfl (c_X6_lay hC.2.2.2.2.2.2.1 hk) rfl ⟨rfl, rfl, (Nat.le_of_ble_eq_true rfl), (Nat.le_of_ble_eq_true rfl)⟩ (Nat.le_of_ble_eq_true rfl) dX6_movesTo_37 (fun r9 d10 => ?_)
      refine z_aload_n (pc := 40) hC 0 rfl 0 rfl dX6_movesTo_40 ?_
      refine z_iload_n (pc := 41) hC 2 rfl 2 rfl dX6_movesTo_41 ?_
      refine z_piV (pc := 42) (st := []) hC y_X6_giverOf q1532 [.inl (.int v2)] rfl (hk 34 rfl) rfl rfl (c_X6_giverOf hC.2.2.2.2.2.2.1 hk) rfl ⟨rfl, rfl, (Nat.le_of_ble_eq_true rfl), (Nat.le_of_ble_eq_true rfl)⟩ (Nat.le_of_ble_eq_true rfl) dX6_movesTo_42 (fun r11 => ?_)
      refine z_istore_n (pc := 45) (ls1 := fun v => [(3, .inl (.int v)), (0, .inr (k, 34)), (1, .inl (.int v1)), (2, .inl (.int v2))]) hC 3 rfl (by decide) (fun v => rfl) dX6_movesTo_45 (fun v3_12 => ?_)
      refine z_aload_n (pc := 46) hC 0 rfl 1 rfl dX6_movesTo_46 ?_
      refine z_sipush (pc := 47) hC (1152 : Int32) rfl dX6_movesTo_47 ?_
      refine z_iload_n (pc := 50) hC 2 rfl 3 rfl dX6_movesTo_50 ?_
      refine z_iadd (pc := 51) hC dX6_movesTo_51 ?_
      refine z_piV (pc := 52) (st := []) hC y_X6_of q1262 [.inl (.int ((1152 : Int32) + v2))] rfl (hk 34 rfl) rfl rfl (c_X6_of hC.2.2.2.2.2.2.1 hk) rfl ⟨rfl, rfl, (Nat.le_of_ble_eq_true rfl), (Nat.le_of_ble_eq_true rfl)⟩ (Nat.le_of_ble_eq_true rfl) dX6_movesTo_52 (fun r13 => ?_)
      refine z_iconst (pc := 55) hC (1 : Int32) rfl dX6_movesTo_55 ?_
      refine z_isub (pc := 56) hC dX6_movesTo_56 ?_
      refine z_istore (pc := 57) (ls1 := fun v => [(4, .inl (.int v)), (3, .inl (.int v3_12)), (0, .inr (k, 34)), (1, .inl (.int v1)), (2, .inl (.int v2))]) hC 4 (by decide) (fun v => rfl) dX6_movesTo_57 (fun v4_14 => ?_)
      refine z_aload_n (pc := 59) hC 0 rfl 2 rfl dX6_movesTo_59 ?_
      refine z_iload_n (pc := 60) hC 2 rfl 4 rfl dX6_movesTo_60 ?_
      refine z_piV (pc := 61) (st := []) hC y_X6_nextOf q1588 [.inl (.int v2)] rfl (hk 34 rfl) rfl rfl (c_X6_nextOf hC.2.2.2.2.2.2.1 hk) rfl ⟨rfl, rfl, (Nat.le_of_ble_eq_true rfl), (Nat.le_of_ble_eq_true rfl)⟩ (Nat.le_of_ble_eq_true rfl) dX6_movesTo_61 (fun r15 => ?_)
      refine z_istore (pc := 64) (ls1 := fun v => [(5, .inl (.int v)), (4, .inl (.int v4_14)), (3, .inl (.int v3_12)), (0, .inr (k, 34)), (1, .inl (.int v1)), (2, .inl (.int v2))]) hC 5 (by decide) (fun v => rfl) dX6_movesTo_64 (fun v5_16 => ?_)
      refine z_iload_n (pc := 66) hC 3 rfl 2 rfl dX6_movesTo_66 ?_
      refine z_if_lt (pc := 67) hC 86 rfl dX6_movesTo_67 ?_ ?_
      · exact z_sub [3, 5] rfl (r_Mo_movesTo_86 hC hk v2 d10)
      · refine z_aload_n (pc := 70) hC 0 rfl 3 rfl dX6_movesTo_70 ?_
        refine z_iload (pc := 71) hC 4 1 rfl dX6_movesTo_71 ?_
        refine z_iload_n (pc := 73) hC 2 rfl 5 rfl dX6_movesTo_73 ?_
        refine z_iload_n (pc := 74) hC 3 rfl 2 rfl dX6_movesTo_74 ?_
        refine z_cvV (pc := 75) (st := []) hC y_X6_linked q1266 [.inl (.int v4_14), .inl (.int v2), .inl (.int v3_12)] rfl (hk 34 rfl) rfl rfl (c_X6_linked hC.2.2.2.2.2.2.1 hk) rfl ⟨rfl, rfl, (Nat.le_of_ble_eq_true rfl), (Nat.le_of_ble_eq_true rfl)⟩ (Nat.le_of_ble_eq_true rfl) dX6_movesTo_75 (fun r17 d18 => ?_)
        refine z_aload_n (pc := 78) hC 0 rfl 3 rfl dX6_movesTo_78 ?_
        refine z_iload_n (pc := 79) hC 2 rfl 5 rfl dX6_movesTo_79 ?_
        refine z_iload (pc := 80) hC 5 0 rfl dX6_movesTo_80 ?_
        refine z_iload_n (pc := 82) hC 3 rfl 2 rfl dX6_movesTo_82 ?_
        refine z_cvV (pc := 83) (st := []) hC y_X6_linked q1266 [.inl (.int v2), .inl (.int v5_16), .inl (.int v3_12)] rfl (hk 34 rfl) rfl rfl (c_X6_linked hC.2.2.2.2.2.2.1 hk) rfl ⟨rfl, rfl, (Nat.le_of_ble_eq_true rfl), (Nat.le_of_ble_eq_true rfl)⟩ (Nat.le_of_ble_eq_true rfl) dX6_movesTo_83 (fun r19 d20 => ?_)
        exact z_sub [3, 5] rfl (r_Mo_movesTo_86 hC hk v2 d20)
    · refine z_aload_n (pc := 9) hC 0 rfl 0 rfl dX6_movesTo_9 ?_
      refine z_iload_n (pc := 10) hC 3 rfl 3 rfl dX6_movesTo_10 ?_
      refine z_iload_n (pc := 11) hC 2 rfl 2 rfl dX6_movesTo_11 ?_
      refine z_iadd (pc := 12) hC dX6_movesTo_12 ?_
      refine z_aload_n (pc := 13) hC 0 rfl 0 rfl dX6_movesTo_13 ?_
      refine z_iload_n (pc := 14) hC 3 rfl 3 rfl dX6_movesTo_14 ?_
      refine z_iload_n (pc := 15) hC 1 rfl 1 rfl dX6_movesTo_15 ?_
      refine z_iadd (pc := 16) hC dX6_movesTo_16 ?_
      refine z_piV (pc := 17) (st := [.inl (.int (v3 + v2)), .inr (k, 34)]) hC y_X6_of q1262 [.inl (.int (v3 + v1))] rfl (hk 34 rfl) rfl rfl (c_X6_of hC.2.2.2.2.2.2.1 hk) rfl ⟨rfl, rfl, (Nat.le_of_ble_eq_true rfl), (Nat.le_of_ble_eq_true rfl)⟩ (Nat.le_of_ble_eq_true rfl) dX6_movesTo_17 (fun r21 => ?_)
      refine z_cvV (pc := 20) (st := []) hC y_X6_lay q1246 [.inl (.int (v3 + v2)), .inl (.int r21)] rfl (hk 34 rfl) rfl rfl (c_X6_lay hC.2.2.2.2.2.2.1 hk) rfl ⟨rfl, rfl, (Nat.le_of_ble_eq_true rfl), (Nat.le_of_ble_eq_true rfl)⟩ (Nat.le_of_ble_eq_true rfl) dX6_movesTo_20 (fun r22 d23 => ?_)
      refine z_iincW (pc := 23) (ls1 := fun v => [(3, .inl (.int v)), (0, .inr (k, 34)), (1, .inl (.int v1)), (2, .inl (.int v2))]) hC 3 3 (by decide) (192 : Int32) rfl rfl (fun v => rfl) dX6_movesTo_23 (fun v3_24 => ?_)
      refine z_goto (pc := 29) hC 2 rfl dX6_movesTo_29 ?_
      exact z_sub [1, 2, 3, 0] rfl (ih v1 v2 v3_24 d23)
theorem r_Mo_movesTo {C : Cxt} {G : Geo} {M : Mem} {k : Nat} (hC : Cx C cX6_movesTo 7 "FrameHeirsModel" none rm_X6_movesTo G) (hk : LMo G k) (d : Sl) (a1 : Int32) (a2 : Int32) : Rz C 7 G (setS M k) (poM avV (setS M k)) 0 [(0, .inr (k, 34)), (1, .inl (.int a1)), (2, .inl (.int a2))] [] d (Mo_movesTo d a1 a2) := by
  unfold Mo_movesTo
  refine z_iconst (pc := 0) hC (0 : Int32) rfl dX6_movesTo_0 ?_
  refine z_istore_n (pc := 1) (ls1 := fun v => [(3, .inl (.int v)), (0, .inr (k, 34)), (1, .inl (.int a1)), (2, .inl (.int a2))]) hC 3 rfl (by decide) (fun v => rfl) dX6_movesTo_1 (fun v3_25 => ?_)
  exact z_sub [1, 2, 3, 0] rfl (r_Mo_movesTo_2 hC hk FU a1 a2 v3_25 d)
theorem c_X6_movesTo {G : Geo} {M : Mem} {k : Nat} (hG : GOk G) (hk : LMo G k) {d : Sl} {a1 : Int32} {a2 : Int32} (l : Launch) (r : Unit) (d1 : Sl) (h : Mo_movesTo d a1 a2 = some (r, d1)) : Mt l yX6_movesTo cX6_movesTo 7 none rm_X6_movesTo G [.inr (k, 34), .inl (.int a1), .inl (.int a2)] ((setS M k) d) (avV r) ((setS M k) d1) :=
  mt_of (mem := (setS M k)) (po := poM avV (setS M k)) (x0 := d) (t := (r, d1)) rfl hG [.inr (k, 34), .inl (.int a1), .inl (.int a2)] (Nat.le_of_ble_eq_true rfl) rfl (fun C hC => r_Mo_movesTo hC hk d a1 a2) h
-- FrameHeirsModel.granted(IIII)I
abbrev rm_X6_granted : Room := { frames := 6, cells := 0, slots := 0, locals := 151 }
theorem dX6_granted_0 : decode cX6_granted 0 = .ok (.iload_n 2, 1) := by decide +kernel
theorem dX6_granted_1 : decode cX6_granted 1 = .ok (.iconst 4, 1) := by decide +kernel
theorem dX6_granted_2 : decode cX6_granted 2 = .ok (.irem, 1) := by decide +kernel
theorem dX6_granted_3 : decode cX6_granted 3 = .ok (.istore 5, 2) := by decide +kernel
theorem dX6_granted_5 : decode cX6_granted 5 = .ok (.iload_n 2, 1) := by decide +kernel
theorem dX6_granted_6 : decode cX6_granted 6 = .ok (.iconst 4, 1) := by decide +kernel
theorem dX6_granted_7 : decode cX6_granted 7 = .ok (.idiv, 1) := by decide +kernel
theorem dX6_granted_8 : decode cX6_granted 8 = .ok (.istore 6, 2) := by decide +kernel
theorem dX6_granted_10 : decode cX6_granted 10 = .ok (.aload_n 0, 1) := by decide +kernel
theorem dX6_granted_11 : decode cX6_granted 11 = .ok (.iload_n 1, 1) := by decide +kernel
theorem dX6_granted_12 : decode cX6_granted 12 = .ok (.iload 6, 2) := by decide +kernel
theorem dX6_granted_14 : decode cX6_granted 14 = .ok (.iload 5, 2) := by decide +kernel
theorem dX6_granted_16 : decode cX6_granted 16 = .ok (.invokevirtual 270, 3) := by decide +kernel
theorem dX6_granted_19 : decode cX6_granted 19 = .ok (.aload_n 0, 1) := by decide +kernel
theorem dX6_granted_20 : decode cX6_granted 20 = .ok (.getfield 255, 3) := by decide +kernel
theorem dX6_granted_23 : decode cX6_granted 23 = .ok (.ifCond .ne 6, 3) := by decide +kernel
theorem dX6_granted_26 : decode cX6_granted 26 = .ok (.bipush (-2), 2) := by decide +kernel
theorem dX6_granted_28 : decode cX6_granted 28 = .ok (.ireturn, 1) := by decide +kernel
theorem dX6_granted_29 : decode cX6_granted 29 = .ok (.aload_n 0, 1) := by decide +kernel
theorem dX6_granted_30 : decode cX6_granted 30 = .ok (.invokevirtual 296, 3) := by decide +kernel
theorem dX6_granted_33 : decode cX6_granted 33 = .ok (.ifCond .eq 6, 3) := by decide +kernel
theorem dX6_granted_36 : decode cX6_granted 36 = .ok (.bipush (-3), 2) := by decide +kernel
theorem dX6_granted_38 : decode cX6_granted 38 = .ok (.ireturn, 1) := by decide +kernel
theorem dX6_granted_39 : decode cX6_granted 39 = .ok (.aload_n 0, 1) := by decide +kernel
theorem dX6_granted_40 : decode cX6_granted 40 = .ok (.iload_n 3, 1) := by decide +kernel
theorem dX6_granted_41 : decode cX6_granted 41 = .ok (.iload 4, 2) := by decide +kernel
theorem dX6_granted_43 : decode cX6_granted 43 = .ok (.iload 5, 2) := by decide +kernel
theorem dX6_granted_45 : decode cX6_granted 45 = .ok (.invokevirtual 276, 3) := by decide +kernel
theorem dX6_granted_48 : decode cX6_granted 48 = .ok (.ifCond .ne 6, 3) := by decide +kernel
theorem dX6_granted_51 : decode cX6_granted 51 = .ok (.bipush (-4), 2) := by decide +kernel
theorem dX6_granted_53 : decode cX6_granted 53 = .ok (.ireturn, 1) := by decide +kernel
theorem dX6_granted_54 : decode cX6_granted 54 = .ok (.iconst 0, 1) := by decide +kernel
theorem dX6_granted_55 : decode cX6_granted 55 = .ok (.istore 7, 2) := by decide +kernel
theorem dX6_granted_57 : decode cX6_granted 57 = .ok (.iconst 0, 1) := by decide +kernel
theorem dX6_granted_58 : decode cX6_granted 58 = .ok (.istore 8, 2) := by decide +kernel
theorem dX6_granted_60 : decode cX6_granted 60 = .ok (.iload 8, 2) := by decide +kernel
theorem dX6_granted_62 : decode cX6_granted 62 = .ok (.aload_n 0, 1) := by decide +kernel
theorem dX6_granted_63 : decode cX6_granted 63 = .ok (.getfield 255, 3) := by decide +kernel
theorem dX6_granted_66 : decode cX6_granted 66 = .ok (.if_icmp .ge 50, 3) := by decide +kernel
theorem dX6_granted_69 : decode cX6_granted 69 = .ok (.iload 7, 2) := by decide +kernel
theorem dX6_granted_71 : decode cX6_granted 71 = .ok (.aload_n 0, 1) := by decide +kernel
theorem dX6_granted_72 : decode cX6_granted 72 = .ok (.aload_n 0, 1) := by decide +kernel
theorem dX6_granted_73 : decode cX6_granted 73 = .ok (.getfield 52, 3) := by decide +kernel
theorem dX6_granted_76 : decode cX6_granted 76 = .ok (.iload 8, 2) := by decide +kernel
theorem dX6_granted_78 : decode cX6_granted 78 = .ok (.iaload, 1) := by decide +kernel
theorem dX6_granted_79 : decode cX6_granted 79 = .ok (.invokevirtual 258, 3) := by decide +kernel
theorem dX6_granted_82 : decode cX6_granted 82 = .ok (.iconst 1, 1) := by decide +kernel
theorem dX6_granted_83 : decode cX6_granted 83 = .ok (.iload 5, 2) := by decide +kernel
theorem dX6_granted_85 : decode cX6_granted 85 = .ok (.ishl, 1) := by decide +kernel
theorem dX6_granted_86 : decode cX6_granted 86 = .ok (.if_icmp .le 10, 3) := by decide +kernel
theorem dX6_granted_89 : decode cX6_granted 89 = .ok (.iconst 1, 1) := by decide +kernel
theorem dX6_granted_90 : decode cX6_granted 90 = .ok (.iload 5, 2) := by decide +kernel
theorem dX6_granted_92 : decode cX6_granted 92 = .ok (.ishl, 1) := by decide +kernel
theorem dX6_granted_93 : decode cX6_granted 93 = .ok (.goto 14, 3) := by decide +kernel
theorem dX6_granted_96 : decode cX6_granted 96 = .ok (.aload_n 0, 1) := by decide +kernel
theorem dX6_granted_97 : decode cX6_granted 97 = .ok (.aload_n 0, 1) := by decide +kernel
theorem dX6_granted_98 : decode cX6_granted 98 = .ok (.getfield 52, 3) := by decide +kernel
theorem dX6_granted_101 : decode cX6_granted 101 = .ok (.iload 8, 2) := by decide +kernel
theorem dX6_granted_103 : decode cX6_granted 103 = .ok (.iaload, 1) := by decide +kernel
theorem dX6_granted_104 : decode cX6_granted 104 = .ok (.invokevirtual 258, 3) := by decide +kernel
theorem dX6_granted_107 : decode cX6_granted 107 = .ok (.iadd, 1) := by decide +kernel
theorem dX6_granted_108 : decode cX6_granted 108 = .ok (.istore 7, 2) := by decide +kernel
theorem dX6_granted_110 : decode cX6_granted 110 = .ok (.iinc 8 1, 3) := by decide +kernel
theorem dX6_granted_113 : decode cX6_granted 113 = .ok (.goto (-53), 3) := by decide +kernel
theorem dX6_granted_116 : decode cX6_granted 116 = .ok (.aload_n 0, 1) := by decide +kernel
theorem dX6_granted_117 : decode cX6_granted 117 = .ok (.iload_n 3, 1) := by decide +kernel
theorem dX6_granted_118 : decode cX6_granted 118 = .ok (.invokevirtual 279, 3) := by decide +kernel
theorem dX6_granted_121 : decode cX6_granted 121 = .ok (.iload 7, 2) := by decide +kernel
theorem dX6_granted_123 : decode cX6_granted 123 = .ok (.iadd, 1) := by decide +kernel
theorem dX6_granted_124 : decode cX6_granted 124 = .ok (.aload_n 0, 1) := by decide +kernel
theorem dX6_granted_125 : decode cX6_granted 125 = .ok (.iload_n 3, 1) := by decide +kernel
theorem dX6_granted_126 : decode cX6_granted 126 = .ok (.invokevirtual 282, 3) := by decide +kernel
theorem dX6_granted_129 : decode cX6_granted 129 = .ok (.if_icmp .le 6, 3) := by decide +kernel
theorem dX6_granted_132 : decode cX6_granted 132 = .ok (.bipush (-5), 2) := by decide +kernel
theorem dX6_granted_134 : decode cX6_granted 134 = .ok (.ireturn, 1) := by decide +kernel
theorem dX6_granted_135 : decode cX6_granted 135 = .ok (.aload_n 0, 1) := by decide +kernel
theorem dX6_granted_136 : decode cX6_granted 136 = .ok (.iload_n 1, 1) := by decide +kernel
theorem dX6_granted_137 : decode cX6_granted 137 = .ok (.iload 6, 2) := by decide +kernel
theorem dX6_granted_139 : decode cX6_granted 139 = .ok (.iload 5, 2) := by decide +kernel
theorem dX6_granted_141 : decode cX6_granted 141 = .ok (.invokevirtual 299, 3) := by decide +kernel
theorem dX6_granted_144 : decode cX6_granted 144 = .ok (.aload_n 0, 1) := by decide +kernel
theorem dX6_granted_145 : decode cX6_granted 145 = .ok (.iload_n 1, 1) := by decide +kernel
theorem dX6_granted_146 : decode cX6_granted 146 = .ok (.iload 6, 2) := by decide +kernel
theorem dX6_granted_148 : decode cX6_granted 148 = .ok (.iload 5, 2) := by decide +kernel
theorem dX6_granted_150 : decode cX6_granted 150 = .ok (.invokevirtual 270, 3) := by decide +kernel
theorem dX6_granted_153 : decode cX6_granted 153 = .ok (.iconst 0, 1) := by decide +kernel
theorem dX6_granted_154 : decode cX6_granted 154 = .ok (.istore 8, 2) := by decide +kernel
theorem dX6_granted_156 : decode cX6_granted 156 = .ok (.iload 8, 2) := by decide +kernel
theorem dX6_granted_158 : decode cX6_granted 158 = .ok (.aload_n 0, 1) := by decide +kernel
theorem dX6_granted_159 : decode cX6_granted 159 = .ok (.getfield 255, 3) := by decide +kernel
theorem dX6_granted_162 : decode cX6_granted 162 = .ok (.if_icmp .ge 41, 3) := by decide +kernel
theorem dX6_granted_165 : decode cX6_granted 165 = .ok (.aload_n 0, 1) := by decide +kernel
theorem dX6_granted_166 : decode cX6_granted 166 = .ok (.aload_n 0, 1) := by decide +kernel
theorem dX6_granted_167 : decode cX6_granted 167 = .ok (.getfield 52, 3) := by decide +kernel
theorem dX6_granted_170 : decode cX6_granted 170 = .ok (.iload 8, 2) := by decide +kernel
theorem dX6_granted_172 : decode cX6_granted 172 = .ok (.iaload, 1) := by decide +kernel
theorem dX6_granted_173 : decode cX6_granted 173 = .ok (.bipush 32, 2) := by decide +kernel
theorem dX6_granted_175 : decode cX6_granted 175 = .ok (.iload_n 3, 1) := by decide +kernel
theorem dX6_granted_176 : decode cX6_granted 176 = .ok (.imul, 1) := by decide +kernel
theorem dX6_granted_177 : decode cX6_granted 177 = .ok (.iload 4, 2) := by decide +kernel
theorem dX6_granted_179 : decode cX6_granted 179 = .ok (.iadd, 1) := by decide +kernel
theorem dX6_granted_180 : decode cX6_granted 180 = .ok (.aload_n 0, 1) := by decide +kernel
theorem dX6_granted_181 : decode cX6_granted 181 = .ok (.getfield 52, 3) := by decide +kernel
theorem dX6_granted_184 : decode cX6_granted 184 = .ok (.iload 8, 2) := by decide +kernel
theorem dX6_granted_186 : decode cX6_granted 186 = .ok (.iaload, 1) := by decide +kernel
theorem dX6_granted_187 : decode cX6_granted 187 = .ok (.bipush 32, 2) := by decide +kernel
theorem dX6_granted_189 : decode cX6_granted 189 = .ok (.irem, 1) := by decide +kernel
theorem dX6_granted_190 : decode cX6_granted 190 = .ok (.iadd, 1) := by decide +kernel
theorem dX6_granted_191 : decode cX6_granted 191 = .ok (.iload 6, 2) := by decide +kernel
theorem dX6_granted_193 : decode cX6_granted 193 = .ok (.isub, 1) := by decide +kernel
theorem dX6_granted_194 : decode cX6_granted 194 = .ok (.invokevirtual 302, 3) := by decide +kernel
theorem dX6_granted_197 : decode cX6_granted 197 = .ok (.iinc 8 1, 3) := by decide +kernel
theorem dX6_granted_200 : decode cX6_granted 200 = .ok (.goto (-44), 3) := by decide +kernel
theorem dX6_granted_203 : decode cX6_granted 203 = .ok (.aload_n 0, 1) := by decide +kernel
theorem dX6_granted_204 : decode cX6_granted 204 = .ok (.getfield 255, 3) := by decide +kernel
theorem dX6_granted_207 : decode cX6_granted 207 = .ok (.ireturn, 1) := by decide +kernel
def Mo_granted_156 : Nat → Int32 → Int32 → Int32 → Int32 → Sl → Option (Int32 × Sl)
  | 0, _, _, _, _, _ => none
  | n + 1, v3, v4, v6, v8, d =>
    if (d 34 30) ≤ v8 then
      (some ((d 34 30), d))
    else
      (if inb v8 8 then
      if inb v8 8 then
      if ¬ (32 : Int32) = 0 then
      bd (Mo_movesTo d (d 47 (ix v8)) (((((32 : Int32) * v3) + v4) + ((d 47 (ix v8)) - (d 47 (ix v8)) / (32 : Int32) * (32 : Int32))) - v6)) fun r1 d2 =>
      bnd (v8 + (1 : Int32)) fun v8_3 =>
      Mo_granted_156 n v3 v4 v6 v8_3 d2
      else none
      else none
      else none)
def Mo_granted_107 (k60 : Int32 → Int32 → Int32 → Int32 → Int32 → Int32 → Int32 → Sl → Option (Int32 × Sl)) (v1 : Int32) (v3 : Int32) (v4 : Int32) (v5 : Int32) (v6 : Int32) (v8 : Int32) (s0 : Int32) (s1 : Int32) (d : Sl) : Option (Int32 × Sl) :=
  bnd (s1 + s0) fun v7_4 =>
  bnd (v8 + (1 : Int32)) fun v8_5 =>
  k60 v1 v3 v4 v5 v6 v7_4 v8_5 d
def Mo_granted_60 : Nat → Int32 → Int32 → Int32 → Int32 → Int32 → Int32 → Int32 → Sl → Option (Int32 × Sl)
  | 0, _, _, _, _, _, _, _, _ => none
  | n + 1, v1, v3, v4, v5, v6, v7, v8, d =>
    if (d 34 30) ≤ v8 then
      (bp (Mo_pagesIn d v3) fun r6 =>
      bp (Mo_mostOf d v3) fun r7 =>
      if (r6 + v7) ≤ r7 then
        (bd (Mo_cuts d v1 v6 v5) fun r8 d9 =>
        bd (Mo_looks d9 v1 v6 v5) fun r10 d11 =>
        bnd (0 : Int32) fun v8_12 =>
        Mo_granted_156 FU v3 v4 v6 v8_12 d11)
      else
        (some ((-5 : Int32), d)))
    else
      (if inb v8 8 then
      bp (Mo_pagesOf d (d 47 (ix v8))) fun r13 =>
      if r13 ≤ ((1 : Int32) <<< (v5 &&& 31)) then
        (if inb v8 8 then
        bp (Mo_pagesOf d (d 47 (ix v8))) fun r14 =>
        Mo_granted_107 (Mo_granted_60 n) v1 v3 v4 v5 v6 v8 r14 v7 d
        else none)
      else
        (Mo_granted_107 (Mo_granted_60 n) v1 v3 v4 v5 v6 v8 ((1 : Int32) <<< (v5 &&& 31)) v7 d)
      else none)
def Mo_granted (d : Sl) (a1 : Int32) (a2 : Int32) (a3 : Int32) (a4 : Int32) : Option (Int32 × Sl) :=
  if ¬ (4 : Int32) = 0 then
  bnd (a2 - a2 / (4 : Int32) * (4 : Int32)) fun v5_15 =>
  if ¬ (4 : Int32) = 0 then
  bnd (a2 / (4 : Int32)) fun v6_16 =>
  bd (Mo_looks d a1 v6_16 v5_15) fun r17 d18 =>
  if (d18 34 30) = 0 then
    (some ((-2 : Int32), d18))
  else
    (bp (Mo_isBusyBelowThere d18) fun r19 =>
    if r19 = 0 then
      (bp (Mo_isFree d18 a3 a4 v5_15) fun r20 =>
      if r20 = 0 then
        (some ((-4 : Int32), d18))
      else
        (bnd (0 : Int32) fun v7_21 =>
        bnd (0 : Int32) fun v8_22 =>
        Mo_granted_60 FU a1 a3 a4 v5_15 v6_16 v7_21 v8_22 d18))
    else
      (some ((-3 : Int32), d18)))
  else none
  else none
theorem y_X6_granted : YV yX6_granted cX6_granted 9 (some .int) 4 := ⟨q1558, q87, q1559, q149, by decide +kernel, by decide +kernel, by decide +kernel, by decide +kernel⟩
theorem r_Mo_granted_156 {C : Cxt} {G : Geo} {M : Mem} {k : Nat} (hC : Cx C cX6_granted 9 "FrameHeirsModel" (some .int) rm_X6_granted G) (hk : LMo G k) : ∀ (n : Nat) (v3 : Int32) (v4 : Int32) (v6 : Int32) (v8 : Int32) (d : Sl), Rz C 9 G (setS M k) (poM avI (setS M k)) 156 [(0, .inr (k, 34)), (3, .inl (.int v3)), (4, .inl (.int v4)), (6, .inl (.int v6)), (8, .inl (.int v8))] [] d (Mo_granted_156 n v3 v4 v6 v8 d) := by
  intro n
  induction n with
  | zero => intros; exact z_none
  | succ n ih =>
    intro v3 v4 v6 v8 d
    rw [Mo_granted_156]
    refine z_iload (pc := 156) hC 8 4 rfl dX6_granted_156 ?_
    refine z_aload_n (pc := 158) hC 0 rfl 0 rfl dX6_granted_158 ?_
    refine zs_geti (pc := 159) hC (hk 34 rfl) f_34_30 q1300 dX6_granted_159 ?_
    refine z_icmp_ge (pc := 162) hC 203 rfl dX6_granted_162 ?_ ?_
    · refine z_aload_n (pc := 203) hC 0 rfl 0 rfl dX6_granted_203 ?_
      refine zs_geti (pc := 204) hC (hk 34 rfl) f_34_30 q1300 dX6_granted_204 ?_
      exact z_iret (pc := 207) hC rfl dX6_granted_207
    · refine z_aload_n (pc := 165) hC 0 rfl 0 rfl dX6_granted_165 ?_
      refine z_aload_n (pc := 166) hC 0 rfl 0 rfl dX6_granted_166 ?_
      refine z_getc (pc := 167) hC (hk 34 rfl) f_34_29 q1299 dX6_granted_167 ?_
      refine z_iload (pc := 170) hC 8 4 rfl dX6_granted_170 ?_
      refine zs_iald (pc := 172) hC (hk 47 rfl) rfl dX6_granted_172 ?_
      refine z_bipush (pc := 173) hC (32 : Int32) rfl dX6_granted_173 ?_
      refine z_iload_n (pc := 175) hC 3 rfl 1 rfl dX6_granted_175 ?_
      refine z_imul (pc := 176) hC dX6_granted_176 ?_
      refine z_iload (pc := 177) hC 4 2 rfl dX6_granted_177 ?_
      refine z_iadd (pc := 179) hC dX6_granted_179 ?_
      refine z_aload_n (pc := 180) hC 0 rfl 0 rfl dX6_granted_180 ?_
      refine z_getc (pc := 181) hC (hk 34 rfl) f_34_29 q1299 dX6_granted_181 ?_
      refine z_iload (pc := 184) hC 8 4 rfl dX6_granted_184 ?_
      refine zs_iald (pc := 186) hC (hk 47 rfl) rfl dX6_granted_186 ?_
      refine z_bipush (pc := 187) hC (32 : Int32) rfl dX6_granted_187 ?_
      refine z_irem (pc := 189) hC dX6_granted_189 ?_
      refine z_iadd (pc := 190) hC dX6_granted_190 ?_
      refine z_iload (pc := 191) hC 6 3 rfl dX6_granted_191 ?_
      refine z_isub (pc := 193) hC dX6_granted_193 ?_
      refine z_cvV (pc := 194) (st := []) hC y_X6_movesTo q1600 [.inl (.int (d 47 (ix v8))), .inl (.int (((((32 : Int32) * v3) + v4) + ((d 47 (ix v8)) - (d 47 (ix v8)) / (32 : Int32) * (32 : Int32))) - v6))] rfl (hk 34 rfl) rfl rfl (c_X6_movesTo hC.2.2.2.2.2.2.1 hk) rfl ⟨rfl, rfl, (Nat.le_of_ble_eq_true rfl), (Nat.le_of_ble_eq_true rfl)⟩ (Nat.le_of_ble_eq_true rfl) dX6_granted_194 (fun r1 d2 => ?_)
      refine z_iinc (pc := 197) (ls1 := fun v => [(8, .inl (.int v)), (0, .inr (k, 34)), (3, .inl (.int v3)), (4, .inl (.int v4)), (6, .inl (.int v6))]) hC 8 4 (by decide) (1 : Int32) rfl rfl (fun v => rfl) dX6_granted_197 (fun v8_3 => ?_)
      refine z_goto (pc := 200) hC 156 rfl dX6_granted_200 ?_
      exact z_sub [1, 2, 3, 4, 0] rfl (ih v3 v4 v6 v8_3 d2)
theorem r_Mo_granted_107 {C : Cxt} {G : Geo} {M : Mem} {k : Nat} (hC : Cx C cX6_granted 9 "FrameHeirsModel" (some .int) rm_X6_granted G) (hk : LMo G k) (k60 : Int32 → Int32 → Int32 → Int32 → Int32 → Int32 → Int32 → Sl → Option (Int32 × Sl)) (h60 : ∀ (v1 : Int32) (v3 : Int32) (v4 : Int32) (v5 : Int32) (v6 : Int32) (v7 : Int32) (v8 : Int32) (d : Sl), Rz C 9 G (setS M k) (poM avI (setS M k)) 60 [(0, .inr (k, 34)), (1, .inl (.int v1)), (3, .inl (.int v3)), (4, .inl (.int v4)), (5, .inl (.int v5)), (6, .inl (.int v6)), (7, .inl (.int v7)), (8, .inl (.int v8))] [] d (k60 v1 v3 v4 v5 v6 v7 v8 d)) (v1 : Int32) (v3 : Int32) (v4 : Int32) (v5 : Int32) (v6 : Int32) (v8 : Int32) (s0 : Int32) (s1 : Int32) (d : Sl) : Rz C 9 G (setS M k) (poM avI (setS M k)) 107 [(0, .inr (k, 34)), (1, .inl (.int v1)), (3, .inl (.int v3)), (4, .inl (.int v4)), (5, .inl (.int v5)), (6, .inl (.int v6)), (8, .inl (.int v8))] [.inl (.int s0), .inl (.int s1)] d (Mo_granted_107 k60 v1 v3 v4 v5 v6 v8 s0 s1 d) := by
  unfold Mo_granted_107
  refine z_iadd (pc := 107) hC dX6_granted_107 ?_
  refine z_istore (pc := 108) (ls1 := fun v => [(7, .inl (.int v)), (0, .inr (k, 34)), (1, .inl (.int v1)), (3, .inl (.int v3)), (4, .inl (.int v4)), (5, .inl (.int v5)), (6, .inl (.int v6)), (8, .inl (.int v8))]) hC 7 (by decide) (fun v => rfl) dX6_granted_108 (fun v7_4 => ?_)
  refine z_iinc (pc := 110) (ls1 := fun v => [(8, .inl (.int v)), (7, .inl (.int v7_4)), (0, .inr (k, 34)), (1, .inl (.int v1)), (3, .inl (.int v3)), (4, .inl (.int v4)), (5, .inl (.int v5)), (6, .inl (.int v6))]) hC 8 7 (by decide) (1 : Int32) rfl rfl (fun v => rfl) dX6_granted_110 (fun v8_5 => ?_)
  refine z_goto (pc := 113) hC 60 rfl dX6_granted_113 ?_
  exact z_sub [2, 3, 4, 5, 6, 7, 1, 0] rfl (h60 v1 v3 v4 v5 v6 v7_4 v8_5 d)
theorem r_Mo_granted_60 {C : Cxt} {G : Geo} {M : Mem} {k : Nat} (hC : Cx C cX6_granted 9 "FrameHeirsModel" (some .int) rm_X6_granted G) (hk : LMo G k) : ∀ (n : Nat) (v1 : Int32) (v3 : Int32) (v4 : Int32) (v5 : Int32) (v6 : Int32) (v7 : Int32) (v8 : Int32) (d : Sl), Rz C 9 G (setS M k) (poM avI (setS M k)) 60 [(0, .inr (k, 34)), (1, .inl (.int v1)), (3, .inl (.int v3)), (4, .inl (.int v4)), (5, .inl (.int v5)), (6, .inl (.int v6)), (7, .inl (.int v7)), (8, .inl (.int v8))] [] d (Mo_granted_60 n v1 v3 v4 v5 v6 v7 v8 d) := by
  intro n
  induction n with
  | zero => intros; exact z_none
  | succ n ih =>
    intro v1 v3 v4 v5 v6 v7 v8 d
    rw [Mo_granted_60]
    refine z_iload (pc := 60) hC 8 7 rfl dX6_granted_60 ?_
    refine z_aload_n (pc := 62) hC 0 rfl 0 rfl dX6_granted_62 ?_
    refine zs_geti (pc := 63) hC (hk 34 rfl) f_34_30 q1300 dX6_granted_63 ?_
    refine z_icmp_ge (pc := 66) hC 116 rfl dX6_granted_66 ?_ ?_
    · refine z_aload_n (pc := 116) hC 0 rfl 0 rfl dX6_granted_116 ?_
      refine z_iload_n (pc := 117) hC 3 rfl 2 rfl dX6_granted_117 ?_
      refine z_piV (pc := 118) (st := []) hC y_X6_pagesIn q1544 [.inl (.int v3)] rfl (hk 34 rfl) rfl rfl (c_X6_pagesIn hC.2.2.2.2.2.2.1 hk) rfl ⟨rfl, rfl, (Nat.le_of_ble_eq_true rfl), (Nat.le_of_ble_eq_true rfl)⟩ (Nat.le_of_ble_eq_true rfl) dX6_granted_118 (fun r6 => ?_)
      refine z_iload (pc := 121) hC 7 6 rfl dX6_granted_121 ?_
      refine z_iadd (pc := 123) hC dX6_granted_123 ?_
      refine z_aload_n (pc := 124) hC 0 rfl 0 rfl dX6_granted_124 ?_
      refine z_iload_n (pc := 125) hC 3 rfl 2 rfl dX6_granted_125 ?_
      refine z_piV (pc := 126) (st := [.inl (.int (r6 + v7))]) hC y_X6_mostOf q1548 [.inl (.int v3)] rfl (hk 34 rfl) rfl rfl (c_X6_mostOf hC.2.2.2.2.2.2.1 hk) rfl ⟨rfl, rfl, (Nat.le_of_ble_eq_true rfl), (Nat.le_of_ble_eq_true rfl)⟩ (Nat.le_of_ble_eq_true rfl) dX6_granted_126 (fun r7 => ?_)
      refine z_icmp_le (pc := 129) hC 135 rfl dX6_granted_129 ?_ ?_
      · refine z_aload_n (pc := 135) hC 0 rfl 0 rfl dX6_granted_135 ?_
        refine z_iload_n (pc := 136) hC 1 rfl 1 rfl dX6_granted_136 ?_
        refine z_iload (pc := 137) hC 6 5 rfl dX6_granted_137 ?_
        refine z_iload (pc := 139) hC 5 4 rfl dX6_granted_139 ?_
        refine z_cvV (pc := 141) (st := []) hC y_X6_cuts q1572 [.inl (.int v1), .inl (.int v6), .inl (.int v5)] rfl (hk 34 rfl) rfl rfl (c_X6_cuts hC.2.2.2.2.2.2.1 hk) rfl ⟨rfl, rfl, (Nat.le_of_ble_eq_true rfl), (Nat.le_of_ble_eq_true rfl)⟩ (Nat.le_of_ble_eq_true rfl) dX6_granted_141 (fun r8 d9 => ?_)
        refine z_aload_n (pc := 144) hC 0 rfl 0 rfl dX6_granted_144 ?_
        refine z_iload_n (pc := 145) hC 1 rfl 1 rfl dX6_granted_145 ?_
        refine z_iload (pc := 146) hC 6 5 rfl dX6_granted_146 ?_
        refine z_iload (pc := 148) hC 5 4 rfl dX6_granted_148 ?_
        refine z_cvV (pc := 150) (st := []) hC y_X6_looks q1508 [.inl (.int v1), .inl (.int v6), .inl (.int v5)] rfl (hk 34 rfl) rfl rfl (c_X6_looks hC.2.2.2.2.2.2.1 hk) rfl ⟨rfl, rfl, (Nat.le_of_ble_eq_true rfl), (Nat.le_of_ble_eq_true rfl)⟩ (Nat.le_of_ble_eq_true rfl) dX6_granted_150 (fun r10 d11 => ?_)
        refine z_iconst (pc := 153) hC (0 : Int32) rfl dX6_granted_153 ?_
        refine z_istore (pc := 154) (ls1 := fun v => [(8, .inl (.int v)), (0, .inr (k, 34)), (1, .inl (.int v1)), (3, .inl (.int v3)), (4, .inl (.int v4)), (5, .inl (.int v5)), (6, .inl (.int v6)), (7, .inl (.int v7))]) hC 8 (by decide) (fun v => rfl) dX6_granted_154 (fun v8_12 => ?_)
        exact z_sub [1, 3, 4, 6, 0] rfl (r_Mo_granted_156 hC hk FU v3 v4 v6 v8_12 d11)
      · refine z_bipush (pc := 132) hC (-5 : Int32) rfl dX6_granted_132 ?_
        exact z_iret (pc := 134) hC rfl dX6_granted_134
    · refine z_iload (pc := 69) hC 7 6 rfl dX6_granted_69 ?_
      refine z_aload_n (pc := 71) hC 0 rfl 0 rfl dX6_granted_71 ?_
      refine z_aload_n (pc := 72) hC 0 rfl 0 rfl dX6_granted_72 ?_
      refine z_getc (pc := 73) hC (hk 34 rfl) f_34_29 q1299 dX6_granted_73 ?_
      refine z_iload (pc := 76) hC 8 7 rfl dX6_granted_76 ?_
      refine zs_iald (pc := 78) hC (hk 47 rfl) rfl dX6_granted_78 ?_
      refine z_piV (pc := 79) (st := [.inl (.int v7)]) hC y_X6_pagesOf q1540 [.inl (.int (d 47 (ix v8)))] rfl (hk 34 rfl) rfl rfl (c_X6_pagesOf hC.2.2.2.2.2.2.1 hk) rfl ⟨rfl, rfl, (Nat.le_of_ble_eq_true rfl), (Nat.le_of_ble_eq_true rfl)⟩ (Nat.le_of_ble_eq_true rfl) dX6_granted_79 (fun r13 => ?_)
      refine z_iconst (pc := 82) hC (1 : Int32) rfl dX6_granted_82 ?_
      refine z_iload (pc := 83) hC 5 4 rfl dX6_granted_83 ?_
      refine z_ishl (pc := 85) hC dX6_granted_85 ?_
      refine z_icmp_le (pc := 86) hC 96 rfl dX6_granted_86 ?_ ?_
      · refine z_aload_n (pc := 96) hC 0 rfl 0 rfl dX6_granted_96 ?_
        refine z_aload_n (pc := 97) hC 0 rfl 0 rfl dX6_granted_97 ?_
        refine z_getc (pc := 98) hC (hk 34 rfl) f_34_29 q1299 dX6_granted_98 ?_
        refine z_iload (pc := 101) hC 8 7 rfl dX6_granted_101 ?_
        refine zs_iald (pc := 103) hC (hk 47 rfl) rfl dX6_granted_103 ?_
        refine z_piV (pc := 104) (st := [.inl (.int v7)]) hC y_X6_pagesOf q1540 [.inl (.int (d 47 (ix v8)))] rfl (hk 34 rfl) rfl rfl (c_X6_pagesOf hC.2.2.2.2.2.2.1 hk) rfl ⟨rfl, rfl, (Nat.le_of_ble_eq_true rfl), (Nat.le_of_ble_eq_true rfl)⟩ (Nat.le_of_ble_eq_true rfl) dX6_granted_104 (fun r14 => ?_)
        exact z_sub [0, 1, 2, 3, 4, 5, 7] rfl (r_Mo_granted_107 hC hk _ ih v1 v3 v4 v5 v6 v8 r14 v7 d)
      · refine z_iconst (pc := 89) hC (1 : Int32) rfl dX6_granted_89 ?_
        refine z_iload (pc := 90) hC 5 4 rfl dX6_granted_90 ?_
        refine z_ishl (pc := 92) hC dX6_granted_92 ?_
        refine z_goto (pc := 93) hC 107 rfl dX6_granted_93 ?_
        exact z_sub [0, 1, 2, 3, 4, 5, 7] rfl (r_Mo_granted_107 hC hk _ ih v1 v3 v4 v5 v6 v8 ((1 : Int32) <<< (v5 &&& 31)) v7 d)
theorem r_Mo_granted {C : Cxt} {G : Geo} {M : Mem} {k : Nat} (hC : Cx C cX6_granted 9 "FrameHeirsModel" (some .int) rm_X6_granted G) (hk : LMo G k) (d : Sl) (a1 : Int32) (a2 : Int32) (a3 : Int32) (a4 : Int32) : Rz C 9 G (setS M k) (poM avI (setS M k)) 0 [(0, .inr (k, 34)), (1, .inl (.int a1)), (2, .inl (.int a2)), (3, .inl (.int a3)), (4, .inl (.int a4))] [] d (Mo_granted d a1 a2 a3 a4) := by
  unfold Mo_granted
  refine z_iload_n (pc := 0) hC 2 rfl 2 rfl dX6_granted_0 ?_
  refine z_iconst (pc := 1) hC (4 : Int32) rfl dX6_granted_1 ?_
  refine z_irem (pc := 2) hC dX6_granted_2 ?_
  refine z_istore (pc := 3) (ls1 := fun v => [(5, .inl (.int v)), (0, .inr (k, 34)), (1, .inl (.int a1)), (2, .inl (.int a2)), (3, .inl (.int a3)), (4, .inl (.int a4))]) hC 5 (by decide) (fun v => rfl) dX6_granted_3 (fun v5_15 => ?_)
  refine z_iload_n (pc := 5) hC 2 rfl 3 rfl dX6_granted_5 ?_
  refine z_iconst (pc := 6) hC (4 : Int32) rfl dX6_granted_6 ?_
  refine z_idiv (pc := 7) hC dX6_granted_7 ?_
  refine z_istore (pc := 8) (ls1 := fun v => [(6, .inl (.int v)), (5, .inl (.int v5_15)), (0, .inr (k, 34)), (1, .inl (.int a1)), (2, .inl (.int a2)), (3, .inl (.int a3)), (4, .inl (.int a4))]) hC 6 (by decide) (fun v => rfl) dX6_granted_8 (fun v6_16 => ?_)
  refine z_aload_n (pc := 10) hC 0 rfl 2 rfl dX6_granted_10 ?_
  refine z_iload_n (pc := 11) hC 1 rfl 3 rfl dX6_granted_11 ?_
  refine z_iload (pc := 12) hC 6 0 rfl dX6_granted_12 ?_
  refine z_iload (pc := 14) hC 5 1 rfl dX6_granted_14 ?_
  refine z_cvV (pc := 16) (st := []) hC y_X6_looks q1508 [.inl (.int a1), .inl (.int v6_16), .inl (.int v5_15)] rfl (hk 34 rfl) rfl rfl (c_X6_looks hC.2.2.2.2.2.2.1 hk) rfl ⟨rfl, rfl, (Nat.le_of_ble_eq_true rfl), (Nat.le_of_ble_eq_true rfl)⟩ (Nat.le_of_ble_eq_true rfl) dX6_granted_16 (fun r17 d18 => ?_)
  refine z_aload_n (pc := 19) hC 0 rfl 2 rfl dX6_granted_19 ?_
  refine zs_geti (pc := 20) hC (hk 34 rfl) f_34_30 q1300 dX6_granted_20 ?_
  refine z_if_ne (pc := 23) hC 29 rfl dX6_granted_23 ?_ ?_
  · refine z_aload_n (pc := 29) hC 0 rfl 2 rfl dX6_granted_29 ?_
    refine z_piV (pc := 30) (st := []) hC y_X6_isBusyBelowThere q1560 [] rfl (hk 34 rfl) rfl rfl (c_X6_isBusyBelowThere hC.2.2.2.2.2.2.1 hk) rfl ⟨rfl, rfl, (Nat.le_of_ble_eq_true rfl), (Nat.le_of_ble_eq_true rfl)⟩ (Nat.le_of_ble_eq_true rfl) dX6_granted_30 (fun r19 => ?_)
    refine z_if_eq (pc := 33) hC 39 rfl dX6_granted_33 ?_ ?_
    · refine z_aload_n (pc := 39) hC 0 rfl 2 rfl dX6_granted_39 ?_
      refine z_iload_n (pc := 40) hC 3 rfl 5 rfl dX6_granted_40 ?_
      refine z_iload (pc := 41) hC 4 6 rfl dX6_granted_41 ?_
      refine z_iload (pc := 43) hC 5 1 rfl dX6_granted_43 ?_
      refine z_piV (pc := 45) (st := []) hC y_X6_isFree q1536 [.inl (.int a3), .inl (.int a4), .inl (.int v5_15)] rfl (hk 34 rfl) rfl rfl (c_X6_isFree hC.2.2.2.2.2.2.1 hk) rfl ⟨rfl, rfl, (Nat.le_of_ble_eq_true rfl), (Nat.le_of_ble_eq_true rfl)⟩ (Nat.le_of_ble_eq_true rfl) dX6_granted_45 (fun r20 => ?_)
      refine z_if_ne (pc := 48) hC 54 rfl dX6_granted_48 ?_ ?_
      · refine z_iconst (pc := 54) hC (0 : Int32) rfl dX6_granted_54 ?_
        refine z_istore (pc := 55) (ls1 := fun v => [(7, .inl (.int v)), (6, .inl (.int v6_16)), (5, .inl (.int v5_15)), (0, .inr (k, 34)), (1, .inl (.int a1)), (2, .inl (.int a2)), (3, .inl (.int a3)), (4, .inl (.int a4))]) hC 7 (by decide) (fun v => rfl) dX6_granted_55 (fun v7_21 => ?_)
        refine z_iconst (pc := 57) hC (0 : Int32) rfl dX6_granted_57 ?_
        refine z_istore (pc := 58) (ls1 := fun v => [(8, .inl (.int v)), (7, .inl (.int v7_21)), (6, .inl (.int v6_16)), (5, .inl (.int v5_15)), (0, .inr (k, 34)), (1, .inl (.int a1)), (2, .inl (.int a2)), (3, .inl (.int a3)), (4, .inl (.int a4))]) hC 8 (by decide) (fun v => rfl) dX6_granted_58 (fun v8_22 => ?_)
        exact z_sub [4, 5, 7, 8, 3, 2, 1, 0] rfl (r_Mo_granted_60 hC hk FU a1 a3 a4 v5_15 v6_16 v7_21 v8_22 d18)
      · refine z_bipush (pc := 51) hC (-4 : Int32) rfl dX6_granted_51 ?_
        exact z_iret (pc := 53) hC rfl dX6_granted_53
    · refine z_bipush (pc := 36) hC (-3 : Int32) rfl dX6_granted_36 ?_
      exact z_iret (pc := 38) hC rfl dX6_granted_38
  · refine z_bipush (pc := 26) hC (-2 : Int32) rfl dX6_granted_26 ?_
    exact z_iret (pc := 28) hC rfl dX6_granted_28
theorem c_X6_granted {G : Geo} {M : Mem} {k : Nat} (hG : GOk G) (hk : LMo G k) {d : Sl} {a1 : Int32} {a2 : Int32} {a3 : Int32} {a4 : Int32} (l : Launch) (r : Int32) (d1 : Sl) (h : Mo_granted d a1 a2 a3 a4 = some (r, d1)) : Mt l yX6_granted cX6_granted 9 (some .int) rm_X6_granted G [.inr (k, 34), .inl (.int a1), .inl (.int a2), .inl (.int a3), .inl (.int a4)] ((setS M k) d) (avI r) ((setS M k) d1) :=
  mt_of (mem := (setS M k)) (po := poM avI (setS M k)) (x0 := d) (t := (r, d1)) rfl hG [.inr (k, 34), .inl (.int a1), .inl (.int a2), .inl (.int a3), .inl (.int a4)] (Nat.le_of_ble_eq_true rfl) rfl (fun C hC => r_Mo_granted hC hk d a1 a2 a3 a4) h
-- FrameHeirsModel.grant(IIII)I
abbrev rm_X6_grant : Room := { frames := 7, cells := 0, slots := 0, locals := 179 }
theorem dX6_grant_0 : decode cX6_grant 0 = .ok (.aload_n 0, 1) := by decide +kernel
theorem dX6_grant_1 : decode cX6_grant 1 = .ok (.iconst 0, 1) := by decide +kernel
theorem dX6_grant_2 : decode cX6_grant 2 = .ok (.putfield 61, 3) := by decide +kernel
theorem dX6_grant_5 : decode cX6_grant 5 = .ok (.aload_n 0, 1) := by decide +kernel
theorem dX6_grant_6 : decode cX6_grant 6 = .ok (.iload_n 1, 1) := by decide +kernel
theorem dX6_grant_7 : decode cX6_grant 7 = .ok (.iload_n 2, 1) := by decide +kernel
theorem dX6_grant_8 : decode cX6_grant 8 = .ok (.iload_n 3, 1) := by decide +kernel
theorem dX6_grant_9 : decode cX6_grant 9 = .ok (.iload 4, 2) := by decide +kernel
theorem dX6_grant_11 : decode cX6_grant 11 = .ok (.invokevirtual 285, 3) := by decide +kernel
theorem dX6_grant_14 : decode cX6_grant 14 = .ok (.ifCond .ne 5, 3) := by decide +kernel
theorem dX6_grant_17 : decode cX6_grant 17 = .ok (.iconst (-1), 1) := by decide +kernel
theorem dX6_grant_18 : decode cX6_grant 18 = .ok (.ireturn, 1) := by decide +kernel
theorem dX6_grant_19 : decode cX6_grant 19 = .ok (.aload_n 0, 1) := by decide +kernel
theorem dX6_grant_20 : decode cX6_grant 20 = .ok (.invokevirtual 289, 3) := by decide +kernel
theorem dX6_grant_23 : decode cX6_grant 23 = .ok (.aload_n 0, 1) := by decide +kernel
theorem dX6_grant_24 : decode cX6_grant 24 = .ok (.iload_n 1, 1) := by decide +kernel
theorem dX6_grant_25 : decode cX6_grant 25 = .ok (.iload_n 2, 1) := by decide +kernel
theorem dX6_grant_26 : decode cX6_grant 26 = .ok (.iload_n 3, 1) := by decide +kernel
theorem dX6_grant_27 : decode cX6_grant 27 = .ok (.iload 4, 2) := by decide +kernel
theorem dX6_grant_29 : decode cX6_grant 29 = .ok (.invokevirtual 305, 3) := by decide +kernel
theorem dX6_grant_32 : decode cX6_grant 32 = .ok (.ireturn, 1) := by decide +kernel
def Mo_grant (d : Sl) (a1 : Int32) (a2 : Int32) (a3 : Int32) (a4 : Int32) : Option (Int32 × Sl) :=
  bnd (wr d 34 2 (0 : Int32)) fun d1 =>
  bp (Mo_isPassing d1 a1 a2 a3 a4) fun r2 =>
  if r2 = 0 then
    (some ((-1 : Int32), d1))
  else
    (bd (Mo_canUndo d1) fun r3 d4 =>
    bd (Mo_granted d4 a1 a2 a3 a4) fun r5 d6 =>
    some (r5, d6))
theorem y_X6_grant : YV yX6_grant cX6_grant 5 (some .int) 4 := ⟨q1553, q1554, q1555, q149, by decide +kernel, by decide +kernel, by decide +kernel, by decide +kernel⟩
theorem r_Mo_grant {C : Cxt} {G : Geo} {M : Mem} {k : Nat} (hC : Cx C cX6_grant 5 "FrameHeirsModel" (some .int) rm_X6_grant G) (hk : LMo G k) (d : Sl) (a1 : Int32) (a2 : Int32) (a3 : Int32) (a4 : Int32) : Rz C 5 G (setS M k) (poM avI (setS M k)) 0 [(0, .inr (k, 34)), (1, .inl (.int a1)), (2, .inl (.int a2)), (3, .inl (.int a3)), (4, .inl (.int a4))] [] d (Mo_grant d a1 a2 a3 a4) := by
  unfold Mo_grant
  refine z_aload_n (pc := 0) hC 0 rfl 0 rfl dX6_grant_0 ?_
  refine z_iconst (pc := 1) hC (0 : Int32) rfl dX6_grant_1 ?_
  refine zs_puti (pc := 2) hC (hk 34 rfl) f_34_2 q1272 dX6_grant_2 (fun d1 => ?_)
  refine z_aload_n (pc := 5) hC 0 rfl 0 rfl dX6_grant_5 ?_
  refine z_iload_n (pc := 6) hC 1 rfl 1 rfl dX6_grant_6 ?_
  refine z_iload_n (pc := 7) hC 2 rfl 2 rfl dX6_grant_7 ?_
  refine z_iload_n (pc := 8) hC 3 rfl 3 rfl dX6_grant_8 ?_
  refine z_iload (pc := 9) hC 4 4 rfl dX6_grant_9 ?_
  refine z_piV (pc := 11) (st := []) hC y_X6_isPassing q1480 [.inl (.int a1), .inl (.int a2), .inl (.int a3), .inl (.int a4)] rfl (hk 34 rfl) rfl rfl (c_X6_isPassing hC.2.2.2.2.2.2.1 hk) rfl ⟨rfl, rfl, (Nat.le_of_ble_eq_true rfl), (Nat.le_of_ble_eq_true rfl)⟩ (Nat.le_of_ble_eq_true rfl) dX6_grant_11 (fun r2 => ?_)
  refine z_if_ne (pc := 14) hC 19 rfl dX6_grant_14 ?_ ?_
  · refine z_aload_n (pc := 19) hC 0 rfl 0 rfl dX6_grant_19 ?_
    refine z_cvV (pc := 20) (st := []) hC y_X6_canUndo q1500 [] rfl (hk 34 rfl) rfl rfl (c_X6_canUndo hC.2.2.2.2.2.2.1 hk) rfl ⟨rfl, rfl, (Nat.le_of_ble_eq_true rfl), (Nat.le_of_ble_eq_true rfl)⟩ (Nat.le_of_ble_eq_true rfl) dX6_grant_20 (fun r3 d4 => ?_)
    refine z_aload_n (pc := 23) hC 0 rfl 0 rfl dX6_grant_23 ?_
    refine z_iload_n (pc := 24) hC 1 rfl 1 rfl dX6_grant_24 ?_
    refine z_iload_n (pc := 25) hC 2 rfl 2 rfl dX6_grant_25 ?_
    refine z_iload_n (pc := 26) hC 3 rfl 3 rfl dX6_grant_26 ?_
    refine z_iload (pc := 27) hC 4 4 rfl dX6_grant_27 ?_
    refine z_ciV (pc := 29) (st := []) hC y_X6_granted q1556 [.inl (.int a1), .inl (.int a2), .inl (.int a3), .inl (.int a4)] rfl (hk 34 rfl) rfl rfl (c_X6_granted hC.2.2.2.2.2.2.1 hk) rfl ⟨rfl, rfl, (Nat.le_of_ble_eq_true rfl), (Nat.le_of_ble_eq_true rfl)⟩ (Nat.le_of_ble_eq_true rfl) dX6_grant_29 (fun r5 d6 => ?_)
    exact z_iret (pc := 32) hC rfl dX6_grant_32
  · refine z_iconst (pc := 17) hC (-1 : Int32) rfl dX6_grant_17 ?_
    exact z_iret (pc := 18) hC rfl dX6_grant_18
theorem c_X6_grant {G : Geo} {M : Mem} {k : Nat} (hG : GOk G) (hk : LMo G k) {d : Sl} {a1 : Int32} {a2 : Int32} {a3 : Int32} {a4 : Int32} (l : Launch) (r : Int32) (d1 : Sl) (h : Mo_grant d a1 a2 a3 a4 = some (r, d1)) : Mt l yX6_grant cX6_grant 5 (some .int) rm_X6_grant G [.inr (k, 34), .inl (.int a1), .inl (.int a2), .inl (.int a3), .inl (.int a4)] ((setS M k) d) (avI r) ((setS M k) d1) :=
  mt_of (mem := (setS M k)) (po := poM avI (setS M k)) (x0 := d) (t := (r, d1)) rfl hG [.inr (k, 34), .inl (.int a1), .inl (.int a2), .inl (.int a3), .inl (.int a4)] (Nat.le_of_ble_eq_true rfl) rfl (fun C hC => r_Mo_grant hC hk d a1 a2 a3 a4) h
-- FrameHeirsModel.pendingMany()I
abbrev rm_X6_pendingMany : Room := { frames := 1, cells := 0, slots := 0, locals := 21 }
theorem dX6_pendingMany_0 : decode cX6_pendingMany 0 = .ok (.iconst 0, 1) := by decide +kernel
theorem dX6_pendingMany_1 : decode cX6_pendingMany 1 = .ok (.istore_n 1, 1) := by decide +kernel
theorem dX6_pendingMany_2 : decode cX6_pendingMany 2 = .ok (.iconst 0, 1) := by decide +kernel
theorem dX6_pendingMany_3 : decode cX6_pendingMany 3 = .ok (.istore_n 2, 1) := by decide +kernel
theorem dX6_pendingMany_4 : decode cX6_pendingMany 4 = .ok (.iload_n 2, 1) := by decide +kernel
theorem dX6_pendingMany_5 : decode cX6_pendingMany 5 = .ok (.aload_n 0, 1) := by decide +kernel
theorem dX6_pendingMany_6 : decode cX6_pendingMany 6 = .ok (.sipush 1944, 3) := by decide +kernel
theorem dX6_pendingMany_9 : decode cX6_pendingMany 9 = .ok (.invokevirtual 189, 3) := by decide +kernel
theorem dX6_pendingMany_12 : decode cX6_pendingMany 12 = .ok (.if_icmp .ge 21, 3) := by decide +kernel
theorem dX6_pendingMany_15 : decode cX6_pendingMany 15 = .ok (.iload_n 1, 1) := by decide +kernel
theorem dX6_pendingMany_16 : decode cX6_pendingMany 16 = .ok (.aload_n 0, 1) := by decide +kernel
theorem dX6_pendingMany_17 : decode cX6_pendingMany 17 = .ok (.sipush 1974, 3) := by decide +kernel
theorem dX6_pendingMany_20 : decode cX6_pendingMany 20 = .ok (.iload_n 2, 1) := by decide +kernel
theorem dX6_pendingMany_21 : decode cX6_pendingMany 21 = .ok (.iadd, 1) := by decide +kernel
theorem dX6_pendingMany_22 : decode cX6_pendingMany 22 = .ok (.invokevirtual 189, 3) := by decide +kernel
theorem dX6_pendingMany_25 : decode cX6_pendingMany 25 = .ok (.iadd, 1) := by decide +kernel
theorem dX6_pendingMany_26 : decode cX6_pendingMany 26 = .ok (.istore_n 1, 1) := by decide +kernel
theorem dX6_pendingMany_27 : decode cX6_pendingMany 27 = .ok (.iinc 2 1, 3) := by decide +kernel
theorem dX6_pendingMany_30 : decode cX6_pendingMany 30 = .ok (.goto (-26), 3) := by decide +kernel
theorem dX6_pendingMany_33 : decode cX6_pendingMany 33 = .ok (.iload_n 1, 1) := by decide +kernel
theorem dX6_pendingMany_34 : decode cX6_pendingMany 34 = .ok (.ireturn, 1) := by decide +kernel
def Mo_pendingMany_4 (d : Sl) : Nat → Int32 → Int32 → Option Int32
  | 0, _, _ => none
  | n + 1, v1, v2 =>
    bp (Mo_of d (1944 : Int32)) fun r1 =>
    if r1 ≤ v2 then
      (some v1)
    else
      (bp (Mo_of d ((1974 : Int32) + v2)) fun r2 =>
      bnd (v1 + r2) fun v1_3 =>
      bnd (v2 + (1 : Int32)) fun v2_4 =>
      Mo_pendingMany_4 d n v1_3 v2_4)
def Mo_pendingMany (d : Sl) : Option Int32 :=
  bnd (0 : Int32) fun v1_5 =>
  bnd (0 : Int32) fun v2_6 =>
  Mo_pendingMany_4 d FU v1_5 v2_6
theorem y_X6_pendingMany : YV yX6_pendingMany cX6_pendingMany 3 (some .int) 0 := ⟨q1614, q100, q1615, q149, by decide +kernel, by decide +kernel, by decide +kernel, by decide +kernel⟩
theorem r_Mo_pendingMany_4 {C : Cxt} {G : Geo} {M : Mem} {k : Nat} {d : Sl} (hC : Cx C cX6_pendingMany 3 "FrameHeirsModel" (some .int) rm_X6_pendingMany G) (hk : LMo G k) : ∀ (n : Nat) (v1 : Int32) (v2 : Int32), Rz C 3 G (setS M k) (poP avI ((setS M k) d)) 4 [(0, .inr (k, 34)), (1, .inl (.int v1)), (2, .inl (.int v2))] [] d (Mo_pendingMany_4 d n v1 v2) := by
  intro n
  induction n with
  | zero => intros; exact z_none
  | succ n ih =>
    intro v1 v2
    rw [Mo_pendingMany_4]
    refine z_iload_n (pc := 4) hC 2 rfl 2 rfl dX6_pendingMany_4 ?_
    refine z_aload_n (pc := 5) hC 0 rfl 0 rfl dX6_pendingMany_5 ?_
    refine z_sipush (pc := 6) hC (1944 : Int32) rfl dX6_pendingMany_6 ?_
    refine z_piV (pc := 9) (st := [.inl (.int v2)]) hC y_X6_of q1262 [.inl (.int (1944 : Int32))] rfl (hk 34 rfl) rfl rfl (c_X6_of hC.2.2.2.2.2.2.1 hk) rfl ⟨rfl, rfl, (Nat.le_of_ble_eq_true rfl), (Nat.le_of_ble_eq_true rfl)⟩ (Nat.le_of_ble_eq_true rfl) dX6_pendingMany_9 (fun r1 => ?_)
    refine z_icmp_ge (pc := 12) hC 33 rfl dX6_pendingMany_12 ?_ ?_
    · refine z_iload_n (pc := 33) hC 1 rfl 1 rfl dX6_pendingMany_33 ?_
      exact z_iret (pc := 34) hC rfl dX6_pendingMany_34
    · refine z_iload_n (pc := 15) hC 1 rfl 1 rfl dX6_pendingMany_15 ?_
      refine z_aload_n (pc := 16) hC 0 rfl 0 rfl dX6_pendingMany_16 ?_
      refine z_sipush (pc := 17) hC (1974 : Int32) rfl dX6_pendingMany_17 ?_
      refine z_iload_n (pc := 20) hC 2 rfl 2 rfl dX6_pendingMany_20 ?_
      refine z_iadd (pc := 21) hC dX6_pendingMany_21 ?_
      refine z_piV (pc := 22) (st := [.inl (.int v1)]) hC y_X6_of q1262 [.inl (.int ((1974 : Int32) + v2))] rfl (hk 34 rfl) rfl rfl (c_X6_of hC.2.2.2.2.2.2.1 hk) rfl ⟨rfl, rfl, (Nat.le_of_ble_eq_true rfl), (Nat.le_of_ble_eq_true rfl)⟩ (Nat.le_of_ble_eq_true rfl) dX6_pendingMany_22 (fun r2 => ?_)
      refine z_iadd (pc := 25) hC dX6_pendingMany_25 ?_
      refine z_istore_n (pc := 26) (ls1 := fun v => [(1, .inl (.int v)), (0, .inr (k, 34)), (2, .inl (.int v2))]) hC 1 rfl (by decide) (fun v => rfl) dX6_pendingMany_26 (fun v1_3 => ?_)
      refine z_iinc (pc := 27) (ls1 := fun v => [(2, .inl (.int v)), (1, .inl (.int v1_3)), (0, .inr (k, 34))]) hC 2 2 (by decide) (1 : Int32) rfl rfl (fun v => rfl) dX6_pendingMany_27 (fun v2_4 => ?_)
      refine z_goto (pc := 30) hC 4 rfl dX6_pendingMany_30 ?_
      exact z_sub [2, 1, 0] rfl (ih v1_3 v2_4)
theorem r_Mo_pendingMany {C : Cxt} {G : Geo} {M : Mem} {k : Nat} (hC : Cx C cX6_pendingMany 3 "FrameHeirsModel" (some .int) rm_X6_pendingMany G) (hk : LMo G k) (d : Sl) : Rz C 3 G (setS M k) (poP avI ((setS M k) d)) 0 [(0, .inr (k, 34))] [] d (Mo_pendingMany d) := by
  unfold Mo_pendingMany
  refine z_iconst (pc := 0) hC (0 : Int32) rfl dX6_pendingMany_0 ?_
  refine z_istore_n (pc := 1) (ls1 := fun v => [(1, .inl (.int v)), (0, .inr (k, 34))]) hC 1 rfl (by decide) (fun v => rfl) dX6_pendingMany_1 (fun v1_5 => ?_)
  refine z_iconst (pc := 2) hC (0 : Int32) rfl dX6_pendingMany_2 ?_
  refine z_istore_n (pc := 3) (ls1 := fun v => [(2, .inl (.int v)), (1, .inl (.int v1_5)), (0, .inr (k, 34))]) hC 2 rfl (by decide) (fun v => rfl) dX6_pendingMany_3 (fun v2_6 => ?_)
  exact z_sub [2, 1, 0] rfl (r_Mo_pendingMany_4 hC hk FU v1_5 v2_6)
theorem c_X6_pendingMany {G : Geo} {M : Mem} {k : Nat} (hG : GOk G) (hk : LMo G k) {d : Sl} (l : Launch) (r : Int32) (h : Mo_pendingMany d = some r) : Mt l yX6_pendingMany cX6_pendingMany 3 (some .int) rm_X6_pendingMany G [.inr (k, 34)] ((setS M k) d) (avI r) ((setS M k) d) :=
  mt_of (mem := (setS M k)) (po := poP avI ((setS M k) d)) (x0 := d) (t := r) rfl hG [.inr (k, 34)] (Nat.le_of_ble_eq_true rfl) rfl (fun C hC => r_Mo_pendingMany hC hk d) h
-- FrameHeirsModel.lists(III)I
abbrev rm_X6_lists : Room := { frames := 1, cells := 0, slots := 0, locals := 22 }
theorem dX6_lists_0 : decode cX6_lists 0 = .ok (.iload_n 2, 1) := by decide +kernel
theorem dX6_lists_1 : decode cX6_lists 1 = .ok (.istore 4, 2) := by decide +kernel
theorem dX6_lists_3 : decode cX6_lists 3 = .ok (.iload 4, 2) := by decide +kernel
theorem dX6_lists_5 : decode cX6_lists 5 = .ok (.iload_n 3, 1) := by decide +kernel
theorem dX6_lists_6 : decode cX6_lists 6 = .ok (.if_icmp .ge 25, 3) := by decide +kernel
theorem dX6_lists_9 : decode cX6_lists 9 = .ok (.aload_n 0, 1) := by decide +kernel
theorem dX6_lists_10 : decode cX6_lists 10 = .ok (.sipush 1980, 3) := by decide +kernel
theorem dX6_lists_13 : decode cX6_lists 13 = .ok (.iload 4, 2) := by decide +kernel
theorem dX6_lists_15 : decode cX6_lists 15 = .ok (.iadd, 1) := by decide +kernel
theorem dX6_lists_16 : decode cX6_lists 16 = .ok (.invokevirtual 189, 3) := by decide +kernel
theorem dX6_lists_19 : decode cX6_lists 19 = .ok (.iload_n 1, 1) := by decide +kernel
theorem dX6_lists_20 : decode cX6_lists 20 = .ok (.if_icmp .ne 5, 3) := by decide +kernel
theorem dX6_lists_23 : decode cX6_lists 23 = .ok (.iload_n 3, 1) := by decide +kernel
theorem dX6_lists_24 : decode cX6_lists 24 = .ok (.ireturn, 1) := by decide +kernel
theorem dX6_lists_25 : decode cX6_lists 25 = .ok (.iinc 4 1, 3) := by decide +kernel
theorem dX6_lists_28 : decode cX6_lists 28 = .ok (.goto (-25), 3) := by decide +kernel
theorem dX6_lists_31 : decode cX6_lists 31 = .ok (.aload_n 0, 1) := by decide +kernel
theorem dX6_lists_32 : decode cX6_lists 32 = .ok (.sipush 1980, 3) := by decide +kernel
theorem dX6_lists_35 : decode cX6_lists 35 = .ok (.iload_n 3, 1) := by decide +kernel
theorem dX6_lists_36 : decode cX6_lists 36 = .ok (.iadd, 1) := by decide +kernel
theorem dX6_lists_37 : decode cX6_lists 37 = .ok (.iload_n 1, 1) := by decide +kernel
theorem dX6_lists_38 : decode cX6_lists 38 = .ok (.invokevirtual 122, 3) := by decide +kernel
theorem dX6_lists_41 : decode cX6_lists 41 = .ok (.iload_n 3, 1) := by decide +kernel
theorem dX6_lists_42 : decode cX6_lists 42 = .ok (.iconst 1, 1) := by decide +kernel
theorem dX6_lists_43 : decode cX6_lists 43 = .ok (.iadd, 1) := by decide +kernel
theorem dX6_lists_44 : decode cX6_lists 44 = .ok (.ireturn, 1) := by decide +kernel
def Mo_lists_3 : Nat → Int32 → Int32 → Int32 → Sl → Option (Int32 × Sl)
  | 0, _, _, _, _ => none
  | n + 1, v1, v3, v4, d =>
    if v3 ≤ v4 then
      (bd (Mo_lay d ((1980 : Int32) + v3) v1) fun r1 d2 =>
      some ((v3 + (1 : Int32)), d2))
    else
      (bp (Mo_of d ((1980 : Int32) + v4)) fun r3 =>
      if r3 = v1 then
        (some (v3, d))
      else
        (bnd (v4 + (1 : Int32)) fun v4_4 =>
        Mo_lists_3 n v1 v3 v4_4 d))
def Mo_lists (d : Sl) (a1 : Int32) (a2 : Int32) (a3 : Int32) : Option (Int32 × Sl) :=
  bnd a2 fun v4_5 =>
  Mo_lists_3 FU a1 a3 v4_5 d
theorem y_X6_lists : YV yX6_lists cX6_lists 5 (some .int) 3 := ⟨q1622, q102, q1623, q149, by decide +kernel, by decide +kernel, by decide +kernel, by decide +kernel⟩
theorem r_Mo_lists_3 {C : Cxt} {G : Geo} {M : Mem} {k : Nat} (hC : Cx C cX6_lists 5 "FrameHeirsModel" (some .int) rm_X6_lists G) (hk : LMo G k) : ∀ (n : Nat) (v1 : Int32) (v3 : Int32) (v4 : Int32) (d : Sl), Rz C 5 G (setS M k) (poM avI (setS M k)) 3 [(0, .inr (k, 34)), (1, .inl (.int v1)), (3, .inl (.int v3)), (4, .inl (.int v4))] [] d (Mo_lists_3 n v1 v3 v4 d) := by
  intro n
  induction n with
  | zero => intros; exact z_none
  | succ n ih =>
    intro v1 v3 v4 d
    rw [Mo_lists_3]
    refine z_iload (pc := 3) hC 4 3 rfl dX6_lists_3 ?_
    refine z_iload_n (pc := 5) hC 3 rfl 2 rfl dX6_lists_5 ?_
    refine z_icmp_ge (pc := 6) hC 31 rfl dX6_lists_6 ?_ ?_
    · refine z_aload_n (pc := 31) hC 0 rfl 0 rfl dX6_lists_31 ?_
      refine z_sipush (pc := 32) hC (1980 : Int32) rfl dX6_lists_32 ?_
      refine z_iload_n (pc := 35) hC 3 rfl 2 rfl dX6_lists_35 ?_
      refine z_iadd (pc := 36) hC dX6_lists_36 ?_
      refine z_iload_n (pc := 37) hC 1 rfl 1 rfl dX6_lists_37 ?_
      refine z_cvV (pc := 38) (st := []) hC y_X6_lay q1246 [.inl (.int ((1980 : Int32) + v3)), .inl (.int v1)] rfl (hk 34 rfl) rfl rfl (c_X6_lay hC.2.2.2.2.2.2.1 hk) rfl ⟨rfl, rfl, (Nat.le_of_ble_eq_true rfl), (Nat.le_of_ble_eq_true rfl)⟩ (Nat.le_of_ble_eq_true rfl) dX6_lists_38 (fun r1 d2 => ?_)
      refine z_iload_n (pc := 41) hC 3 rfl 2 rfl dX6_lists_41 ?_
      refine z_iconst (pc := 42) hC (1 : Int32) rfl dX6_lists_42 ?_
      refine z_iadd (pc := 43) hC dX6_lists_43 ?_
      exact z_iret (pc := 44) hC rfl dX6_lists_44
    · refine z_aload_n (pc := 9) hC 0 rfl 0 rfl dX6_lists_9 ?_
      refine z_sipush (pc := 10) hC (1980 : Int32) rfl dX6_lists_10 ?_
      refine z_iload (pc := 13) hC 4 3 rfl dX6_lists_13 ?_
      refine z_iadd (pc := 15) hC dX6_lists_15 ?_
      refine z_piV (pc := 16) (st := []) hC y_X6_of q1262 [.inl (.int ((1980 : Int32) + v4))] rfl (hk 34 rfl) rfl rfl (c_X6_of hC.2.2.2.2.2.2.1 hk) rfl ⟨rfl, rfl, (Nat.le_of_ble_eq_true rfl), (Nat.le_of_ble_eq_true rfl)⟩ (Nat.le_of_ble_eq_true rfl) dX6_lists_16 (fun r3 => ?_)
      refine z_iload_n (pc := 19) hC 1 rfl 1 rfl dX6_lists_19 ?_
      refine z_icmp_ne (pc := 20) hC 25 rfl dX6_lists_20 ?_ ?_
      · refine z_iinc (pc := 25) (ls1 := fun v => [(4, .inl (.int v)), (0, .inr (k, 34)), (1, .inl (.int v1)), (3, .inl (.int v3))]) hC 4 3 (by decide) (1 : Int32) rfl rfl (fun v => rfl) dX6_lists_25 (fun v4_4 => ?_)
        refine z_goto (pc := 28) hC 3 rfl dX6_lists_28 ?_
        exact z_sub [1, 2, 3, 0] rfl (ih v1 v3 v4_4 d)
      · refine z_iload_n (pc := 23) hC 3 rfl 2 rfl dX6_lists_23 ?_
        exact z_iret (pc := 24) hC rfl dX6_lists_24
theorem r_Mo_lists {C : Cxt} {G : Geo} {M : Mem} {k : Nat} (hC : Cx C cX6_lists 5 "FrameHeirsModel" (some .int) rm_X6_lists G) (hk : LMo G k) (d : Sl) (a1 : Int32) (a2 : Int32) (a3 : Int32) : Rz C 5 G (setS M k) (poM avI (setS M k)) 0 [(0, .inr (k, 34)), (1, .inl (.int a1)), (2, .inl (.int a2)), (3, .inl (.int a3))] [] d (Mo_lists d a1 a2 a3) := by
  unfold Mo_lists
  refine z_iload_n (pc := 0) hC 2 rfl 2 rfl dX6_lists_0 ?_
  refine z_istore (pc := 1) (ls1 := fun v => [(4, .inl (.int v)), (0, .inr (k, 34)), (1, .inl (.int a1)), (2, .inl (.int a2)), (3, .inl (.int a3))]) hC 4 (by decide) (fun v => rfl) dX6_lists_1 (fun v4_5 => ?_)
  exact z_sub [1, 2, 4, 0] rfl (r_Mo_lists_3 hC hk FU a1 a3 v4_5 d)
theorem c_X6_lists {G : Geo} {M : Mem} {k : Nat} (hG : GOk G) (hk : LMo G k) {d : Sl} {a1 : Int32} {a2 : Int32} {a3 : Int32} (l : Launch) (r : Int32) (d1 : Sl) (h : Mo_lists d a1 a2 a3 = some (r, d1)) : Mt l yX6_lists cX6_lists 5 (some .int) rm_X6_lists G [.inr (k, 34), .inl (.int a1), .inl (.int a2), .inl (.int a3)] ((setS M k) d) (avI r) ((setS M k) d1) :=
  mt_of (mem := (setS M k)) (po := poM avI (setS M k)) (x0 := d) (t := (r, d1)) rfl hG [.inr (k, 34), .inl (.int a1), .inl (.int a2), .inl (.int a3)] (Nat.le_of_ble_eq_true rfl) rfl (fun C hC => r_Mo_lists hC hk d a1 a2 a3) h
-- FrameHeirsModel.listsTop(IZII)I
abbrev rm_X6_listsTop : Room := { frames := 2, cells := 0, slots := 0, locals := 46 }
theorem dX6_listsTop_0 : decode cX6_listsTop 0 = .ok (.iload 4, 2) := by decide +kernel
theorem dX6_listsTop_2 : decode cX6_listsTop 2 = .ok (.istore 5, 2) := by decide +kernel
theorem dX6_listsTop_4 : decode cX6_listsTop 4 = .ok (.iload_n 1, 1) := by decide +kernel
theorem dX6_listsTop_5 : decode cX6_listsTop 5 = .ok (.istore 6, 2) := by decide +kernel
theorem dX6_listsTop_7 : decode cX6_listsTop 7 = .ok (.iconst 1, 1) := by decide +kernel
theorem dX6_listsTop_8 : decode cX6_listsTop 8 = .ok (.istore 7, 2) := by decide +kernel
theorem dX6_listsTop_10 : decode cX6_listsTop 10 = .ok (.iload 7, 2) := by decide +kernel
theorem dX6_listsTop_12 : decode cX6_listsTop 12 = .ok (.ifCond .eq 23, 3) := by decide +kernel
theorem dX6_listsTop_15 : decode cX6_listsTop 15 = .ok (.aload_n 0, 1) := by decide +kernel
theorem dX6_listsTop_16 : decode cX6_listsTop 16 = .ok (.iload 6, 2) := by decide +kernel
theorem dX6_listsTop_18 : decode cX6_listsTop 18 = .ok (.invokevirtual 228, 3) := by decide +kernel
theorem dX6_listsTop_21 : decode cX6_listsTop 21 = .ok (.ifCond .lt 14, 3) := by decide +kernel
theorem dX6_listsTop_24 : decode cX6_listsTop 24 = .ok (.aload_n 0, 1) := by decide +kernel
theorem dX6_listsTop_25 : decode cX6_listsTop 25 = .ok (.iload 6, 2) := by decide +kernel
theorem dX6_listsTop_27 : decode cX6_listsTop 27 = .ok (.invokevirtual 228, 3) := by decide +kernel
theorem dX6_listsTop_30 : decode cX6_listsTop 30 = .ok (.istore 6, 2) := by decide +kernel
theorem dX6_listsTop_32 : decode cX6_listsTop 32 = .ok (.goto (-22), 3) := by decide +kernel
theorem dX6_listsTop_35 : decode cX6_listsTop 35 = .ok (.iload 6, 2) := by decide +kernel
theorem dX6_listsTop_37 : decode cX6_listsTop 37 = .ok (.iload_n 1, 1) := by decide +kernel
theorem dX6_listsTop_38 : decode cX6_listsTop 38 = .ok (.if_icmp .ne 6, 3) := by decide +kernel
theorem dX6_listsTop_41 : decode cX6_listsTop 41 = .ok (.goto 55, 3) := by decide +kernel
theorem dX6_listsTop_44 : decode cX6_listsTop 44 = .ok (.aload_n 0, 1) := by decide +kernel
theorem dX6_listsTop_45 : decode cX6_listsTop 45 = .ok (.iload 6, 2) := by decide +kernel
theorem dX6_listsTop_47 : decode cX6_listsTop 47 = .ok (.iload_n 3, 1) := by decide +kernel
theorem dX6_listsTop_48 : decode cX6_listsTop 48 = .ok (.iload 5, 2) := by decide +kernel
theorem dX6_listsTop_50 : decode cX6_listsTop 50 = .ok (.invokevirtual 309, 3) := by decide +kernel
theorem dX6_listsTop_53 : decode cX6_listsTop 53 = .ok (.istore 5, 2) := by decide +kernel
theorem dX6_listsTop_55 : decode cX6_listsTop 55 = .ok (.aload_n 0, 1) := by decide +kernel
theorem dX6_listsTop_56 : decode cX6_listsTop 56 = .ok (.iload 6, 2) := by decide +kernel
theorem dX6_listsTop_58 : decode cX6_listsTop 58 = .ok (.invokevirtual 231, 3) := by decide +kernel
theorem dX6_listsTop_61 : decode cX6_listsTop 61 = .ok (.ifCond .lt 7, 3) := by decide +kernel
theorem dX6_listsTop_64 : decode cX6_listsTop 64 = .ok (.iconst 1, 1) := by decide +kernel
theorem dX6_listsTop_65 : decode cX6_listsTop 65 = .ok (.goto 4, 3) := by decide +kernel
theorem dX6_listsTop_68 : decode cX6_listsTop 68 = .ok (.iconst 0, 1) := by decide +kernel
theorem dX6_listsTop_69 : decode cX6_listsTop 69 = .ok (.istore 7, 2) := by decide +kernel
theorem dX6_listsTop_71 : decode cX6_listsTop 71 = .ok (.iload 7, 2) := by decide +kernel
theorem dX6_listsTop_73 : decode cX6_listsTop 73 = .ok (.ifCond .eq 12, 3) := by decide +kernel
theorem dX6_listsTop_76 : decode cX6_listsTop 76 = .ok (.aload_n 0, 1) := by decide +kernel
theorem dX6_listsTop_77 : decode cX6_listsTop 77 = .ok (.iload 6, 2) := by decide +kernel
theorem dX6_listsTop_79 : decode cX6_listsTop 79 = .ok (.invokevirtual 231, 3) := by decide +kernel
theorem dX6_listsTop_82 : decode cX6_listsTop 82 = .ok (.goto 9, 3) := by decide +kernel
theorem dX6_listsTop_85 : decode cX6_listsTop 85 = .ok (.aload_n 0, 1) := by decide +kernel
theorem dX6_listsTop_86 : decode cX6_listsTop 86 = .ok (.iload 6, 2) := by decide +kernel
theorem dX6_listsTop_88 : decode cX6_listsTop 88 = .ok (.invokevirtual 210, 3) := by decide +kernel
theorem dX6_listsTop_91 : decode cX6_listsTop 91 = .ok (.istore 6, 2) := by decide +kernel
theorem dX6_listsTop_93 : decode cX6_listsTop 93 = .ok (.goto (-83), 3) := by decide +kernel
theorem dX6_listsTop_96 : decode cX6_listsTop 96 = .ok (.iload_n 2, 1) := by decide +kernel
theorem dX6_listsTop_97 : decode cX6_listsTop 97 = .ok (.ifCond .eq 14, 3) := by decide +kernel
theorem dX6_listsTop_100 : decode cX6_listsTop 100 = .ok (.aload_n 0, 1) := by decide +kernel
theorem dX6_listsTop_101 : decode cX6_listsTop 101 = .ok (.iload_n 1, 1) := by decide +kernel
theorem dX6_listsTop_102 : decode cX6_listsTop 102 = .ok (.iload_n 3, 1) := by decide +kernel
theorem dX6_listsTop_103 : decode cX6_listsTop 103 = .ok (.iload 5, 2) := by decide +kernel
theorem dX6_listsTop_105 : decode cX6_listsTop 105 = .ok (.invokevirtual 309, 3) := by decide +kernel
theorem dX6_listsTop_108 : decode cX6_listsTop 108 = .ok (.goto 5, 3) := by decide +kernel
theorem dX6_listsTop_111 : decode cX6_listsTop 111 = .ok (.iload 5, 2) := by decide +kernel
theorem dX6_listsTop_113 : decode cX6_listsTop 113 = .ok (.ireturn, 1) := by decide +kernel
def Mo_listsTop_91 (k10 : Int32 → Int32 → Int32 → Int32 → Int32 → Int32 → Sl → Option (Int32 × Sl)) (v1 : Int32) (v2 : Int32) (v3 : Int32) (v5 : Int32) (v7 : Int32) (s0 : Int32) (d : Sl) : Option (Int32 × Sl) :=
  bnd s0 fun v6_1 =>
  k10 v1 v2 v3 v5 v6_1 v7 d
def Mo_listsTop_69 (k10 : Int32 → Int32 → Int32 → Int32 → Int32 → Int32 → Sl → Option (Int32 × Sl)) (v1 : Int32) (v2 : Int32) (v3 : Int32) (v5 : Int32) (v6 : Int32) (s0 : Int32) (d : Sl) : Option (Int32 × Sl) :=
  bnd s0 fun v7_2 =>
  if v7_2 = 0 then
    (bp (Mo_giverOf d v6) fun r3 =>
    Mo_listsTop_91 k10 v1 v2 v3 v5 v7_2 r3 d)
  else
    (bp (Mo_nextOf d v6) fun r4 =>
    Mo_listsTop_91 k10 v1 v2 v3 v5 v7_2 r4 d)
def Mo_listsTop_35 (k10 : Int32 → Int32 → Int32 → Int32 → Int32 → Int32 → Sl → Option (Int32 × Sl)) (v1 : Int32) (v2 : Int32) (v3 : Int32) (v5 : Int32) (v6 : Int32) (d : Sl) : Option (Int32 × Sl) :=
  if v6 = v1 then
    (if v2 = 0 then
      (some (v5, d))
    else
      (bd (Mo_lists d v1 v3 v5) fun r9 d10 =>
      some (r9, d10)))
  else
    (bd (Mo_lists d v6 v3 v5) fun r5 d6 =>
    bnd r5 fun v5_7 =>
    bp (Mo_nextOf d6 v6) fun r8 =>
    if r8 < 0 then
      (Mo_listsTop_69 k10 v1 v2 v3 v5_7 v6 (0 : Int32) d6)
    else
      (Mo_listsTop_69 k10 v1 v2 v3 v5_7 v6 (1 : Int32) d6))
def Mo_listsTop_10 : Nat → Int32 → Int32 → Int32 → Int32 → Int32 → Int32 → Sl → Option (Int32 × Sl)
  | 0, _, _, _, _, _, _, _ => none
  | n + 1, v1, v2, v3, v5, v6, v7, d =>
    if v7 = 0 then
      (Mo_listsTop_35 (Mo_listsTop_10 n) v1 v2 v3 v5 v6 d)
    else
      (bp (Mo_firstOf d v6) fun r11 =>
      if r11 < 0 then
        (Mo_listsTop_35 (Mo_listsTop_10 n) v1 v2 v3 v5 v6 d)
      else
        (bp (Mo_firstOf d v6) fun r12 =>
        bnd r12 fun v6_13 =>
        Mo_listsTop_10 n v1 v2 v3 v5 v6_13 v7 d))
def Mo_listsTop (d : Sl) (a1 : Int32) (a2 : Int32) (a3 : Int32) (a4 : Int32) : Option (Int32 × Sl) :=
  bnd a4 fun v5_14 =>
  bnd a1 fun v6_15 =>
  bnd (1 : Int32) fun v7_16 =>
  Mo_listsTop_10 FU a1 a2 a3 v5_14 v6_15 v7_16 d
theorem y_X6_listsTop : YV yX6_listsTop cX6_listsTop 8 (some .int) 4 := ⟨q1618, q101, q1619, q149, by decide +kernel, by decide +kernel, by decide +kernel, by decide +kernel⟩
theorem r_Mo_listsTop_91 {C : Cxt} {G : Geo} {M : Mem} {k : Nat} (hC : Cx C cX6_listsTop 8 "FrameHeirsModel" (some .int) rm_X6_listsTop G) (hk : LMo G k) (k10 : Int32 → Int32 → Int32 → Int32 → Int32 → Int32 → Sl → Option (Int32 × Sl)) (h10 : ∀ (v1 : Int32) (v2 : Int32) (v3 : Int32) (v5 : Int32) (v6 : Int32) (v7 : Int32) (d : Sl), Rz C 8 G (setS M k) (poM avI (setS M k)) 10 [(0, .inr (k, 34)), (1, .inl (.int v1)), (2, .inl (.int v2)), (3, .inl (.int v3)), (5, .inl (.int v5)), (6, .inl (.int v6)), (7, .inl (.int v7))] [] d (k10 v1 v2 v3 v5 v6 v7 d)) (v1 : Int32) (v2 : Int32) (v3 : Int32) (v5 : Int32) (v7 : Int32) (s0 : Int32) (d : Sl) : Rz C 8 G (setS M k) (poM avI (setS M k)) 91 [(0, .inr (k, 34)), (1, .inl (.int v1)), (2, .inl (.int v2)), (3, .inl (.int v3)), (5, .inl (.int v5)), (7, .inl (.int v7))] [.inl (.int s0)] d (Mo_listsTop_91 k10 v1 v2 v3 v5 v7 s0 d) := by
  unfold Mo_listsTop_91
  refine z_istore (pc := 91) (ls1 := fun v => [(6, .inl (.int v)), (0, .inr (k, 34)), (1, .inl (.int v1)), (2, .inl (.int v2)), (3, .inl (.int v3)), (5, .inl (.int v5)), (7, .inl (.int v7))]) hC 6 (by decide) (fun v => rfl) dX6_listsTop_91 (fun v6_1 => ?_)
  refine z_goto (pc := 93) hC 10 rfl dX6_listsTop_93 ?_
  exact z_sub [1, 2, 3, 4, 5, 0, 6] rfl (h10 v1 v2 v3 v5 v6_1 v7 d)
theorem r_Mo_listsTop_69 {C : Cxt} {G : Geo} {M : Mem} {k : Nat} (hC : Cx C cX6_listsTop 8 "FrameHeirsModel" (some .int) rm_X6_listsTop G) (hk : LMo G k) (k10 : Int32 → Int32 → Int32 → Int32 → Int32 → Int32 → Sl → Option (Int32 × Sl)) (h10 : ∀ (v1 : Int32) (v2 : Int32) (v3 : Int32) (v5 : Int32) (v6 : Int32) (v7 : Int32) (d : Sl), Rz C 8 G (setS M k) (poM avI (setS M k)) 10 [(0, .inr (k, 34)), (1, .inl (.int v1)), (2, .inl (.int v2)), (3, .inl (.int v3)), (5, .inl (.int v5)), (6, .inl (.int v6)), (7, .inl (.int v7))] [] d (k10 v1 v2 v3 v5 v6 v7 d)) (v1 : Int32) (v2 : Int32) (v3 : Int32) (v5 : Int32) (v6 : Int32) (s0 : Int32) (d : Sl) : Rz C 8 G (setS M k) (poM avI (setS M k)) 69 [(0, .inr (k, 34)), (1, .inl (.int v1)), (2, .inl (.int v2)), (3, .inl (.int v3)), (5, .inl (.int v5)), (6, .inl (.int v6))] [.inl (.int s0)] d (Mo_listsTop_69 k10 v1 v2 v3 v5 v6 s0 d) := by
  unfold Mo_listsTop_69
  refine z_istore (pc := 69) (ls1 := fun v => [(7, .inl (.int v)), (0, .inr (k, 34)), (1, .inl (.int v1)), (2, .inl (.int v2)), (3, .inl (.int v3)), (5, .inl (.int v5)), (6, .inl (.int v6))]) hC 7 (by decide) (fun v => rfl) dX6_listsTop_69 (fun v7_2 => ?_)
  refine z_iload (pc := 71) hC 7 0 rfl dX6_listsTop_71 ?_
  refine z_if_eq (pc := 73) hC 85 rfl dX6_listsTop_73 ?_ ?_
  · refine z_aload_n (pc := 85) hC 0 rfl 1 rfl dX6_listsTop_85 ?_
    refine z_iload (pc := 86) hC 6 6 rfl dX6_listsTop_86 ?_
    refine z_piV (pc := 88) (st := []) hC y_X6_giverOf q1532 [.inl (.int v6)] rfl (hk 34 rfl) rfl rfl (c_X6_giverOf hC.2.2.2.2.2.2.1 hk) rfl ⟨rfl, rfl, (Nat.le_of_ble_eq_true rfl), (Nat.le_of_ble_eq_true rfl)⟩ (Nat.le_of_ble_eq_true rfl) dX6_listsTop_88 (fun r3 => ?_)
    exact z_sub [1, 2, 3, 4, 5, 0] rfl (r_Mo_listsTop_91 hC hk k10 h10 v1 v2 v3 v5 v7_2 r3 d)
  · refine z_aload_n (pc := 76) hC 0 rfl 1 rfl dX6_listsTop_76 ?_
    refine z_iload (pc := 77) hC 6 6 rfl dX6_listsTop_77 ?_
    refine z_piV (pc := 79) (st := []) hC y_X6_nextOf q1588 [.inl (.int v6)] rfl (hk 34 rfl) rfl rfl (c_X6_nextOf hC.2.2.2.2.2.2.1 hk) rfl ⟨rfl, rfl, (Nat.le_of_ble_eq_true rfl), (Nat.le_of_ble_eq_true rfl)⟩ (Nat.le_of_ble_eq_true rfl) dX6_listsTop_79 (fun r4 => ?_)
    refine z_goto (pc := 82) hC 91 rfl dX6_listsTop_82 ?_
    exact z_sub [1, 2, 3, 4, 5, 0] rfl (r_Mo_listsTop_91 hC hk k10 h10 v1 v2 v3 v5 v7_2 r4 d)
theorem r_Mo_listsTop_35 {C : Cxt} {G : Geo} {M : Mem} {k : Nat} (hC : Cx C cX6_listsTop 8 "FrameHeirsModel" (some .int) rm_X6_listsTop G) (hk : LMo G k) (k10 : Int32 → Int32 → Int32 → Int32 → Int32 → Int32 → Sl → Option (Int32 × Sl)) (h10 : ∀ (v1 : Int32) (v2 : Int32) (v3 : Int32) (v5 : Int32) (v6 : Int32) (v7 : Int32) (d : Sl), Rz C 8 G (setS M k) (poM avI (setS M k)) 10 [(0, .inr (k, 34)), (1, .inl (.int v1)), (2, .inl (.int v2)), (3, .inl (.int v3)), (5, .inl (.int v5)), (6, .inl (.int v6)), (7, .inl (.int v7))] [] d (k10 v1 v2 v3 v5 v6 v7 d)) (v1 : Int32) (v2 : Int32) (v3 : Int32) (v5 : Int32) (v6 : Int32) (d : Sl) : Rz C 8 G (setS M k) (poM avI (setS M k)) 35 [(0, .inr (k, 34)), (1, .inl (.int v1)), (2, .inl (.int v2)), (3, .inl (.int v3)), (5, .inl (.int v5)), (6, .inl (.int v6))] [] d (Mo_listsTop_35 k10 v1 v2 v3 v5 v6 d) := by
  unfold Mo_listsTop_35
  refine z_iload (pc := 35) hC 6 5 rfl dX6_listsTop_35 ?_
  refine z_iload_n (pc := 37) hC 1 rfl 1 rfl dX6_listsTop_37 ?_
  refine z_icmp_ne (pc := 38) hC 44 rfl dX6_listsTop_38 ?_ ?_
  · refine z_aload_n (pc := 44) hC 0 rfl 0 rfl dX6_listsTop_44 ?_
    refine z_iload (pc := 45) hC 6 5 rfl dX6_listsTop_45 ?_
    refine z_iload_n (pc := 47) hC 3 rfl 3 rfl dX6_listsTop_47 ?_
    refine z_iload (pc := 48) hC 5 4 rfl dX6_listsTop_48 ?_
    refine z_ciV (pc := 50) (st := []) hC y_X6_lists q1620 [.inl (.int v6), .inl (.int v3), .inl (.int v5)] rfl (hk 34 rfl) rfl rfl (c_X6_lists hC.2.2.2.2.2.2.1 hk) rfl ⟨rfl, rfl, (Nat.le_of_ble_eq_true rfl), (Nat.le_of_ble_eq_true rfl)⟩ (Nat.le_of_ble_eq_true rfl) dX6_listsTop_50 (fun r5 d6 => ?_)
    refine z_istore (pc := 53) (ls1 := fun v => [(5, .inl (.int v)), (0, .inr (k, 34)), (1, .inl (.int v1)), (2, .inl (.int v2)), (3, .inl (.int v3)), (6, .inl (.int v6))]) hC 5 (by decide) (fun v => rfl) dX6_listsTop_53 (fun v5_7 => ?_)
    refine z_aload_n (pc := 55) hC 0 rfl 1 rfl dX6_listsTop_55 ?_
    refine z_iload (pc := 56) hC 6 5 rfl dX6_listsTop_56 ?_
    refine z_piV (pc := 58) (st := []) hC y_X6_nextOf q1588 [.inl (.int v6)] rfl (hk 34 rfl) rfl rfl (c_X6_nextOf hC.2.2.2.2.2.2.1 hk) rfl ⟨rfl, rfl, (Nat.le_of_ble_eq_true rfl), (Nat.le_of_ble_eq_true rfl)⟩ (Nat.le_of_ble_eq_true rfl) dX6_listsTop_58 (fun r8 => ?_)
    refine z_if_lt (pc := 61) hC 68 rfl dX6_listsTop_61 ?_ ?_
    · refine z_iconst (pc := 68) hC (0 : Int32) rfl dX6_listsTop_68 ?_
      exact z_sub [1, 2, 3, 4, 0, 5] rfl (r_Mo_listsTop_69 hC hk k10 h10 v1 v2 v3 v5_7 v6 (0 : Int32) d6)
    · refine z_iconst (pc := 64) hC (1 : Int32) rfl dX6_listsTop_64 ?_
      refine z_goto (pc := 65) hC 69 rfl dX6_listsTop_65 ?_
      exact z_sub [1, 2, 3, 4, 0, 5] rfl (r_Mo_listsTop_69 hC hk k10 h10 v1 v2 v3 v5_7 v6 (1 : Int32) d6)
  · refine z_goto (pc := 41) hC 96 rfl dX6_listsTop_41 ?_
    refine z_iload_n (pc := 96) hC 2 rfl 2 rfl dX6_listsTop_96 ?_
    refine z_if_eq (pc := 97) hC 111 rfl dX6_listsTop_97 ?_ ?_
    · refine z_iload (pc := 111) hC 5 4 rfl dX6_listsTop_111 ?_
      exact z_iret (pc := 113) hC rfl dX6_listsTop_113
    · refine z_aload_n (pc := 100) hC 0 rfl 0 rfl dX6_listsTop_100 ?_
      refine z_iload_n (pc := 101) hC 1 rfl 1 rfl dX6_listsTop_101 ?_
      refine z_iload_n (pc := 102) hC 3 rfl 3 rfl dX6_listsTop_102 ?_
      refine z_iload (pc := 103) hC 5 4 rfl dX6_listsTop_103 ?_
      refine z_ciV (pc := 105) (st := []) hC y_X6_lists q1620 [.inl (.int v1), .inl (.int v3), .inl (.int v5)] rfl (hk 34 rfl) rfl rfl (c_X6_lists hC.2.2.2.2.2.2.1 hk) rfl ⟨rfl, rfl, (Nat.le_of_ble_eq_true rfl), (Nat.le_of_ble_eq_true rfl)⟩ (Nat.le_of_ble_eq_true rfl) dX6_listsTop_105 (fun r9 d10 => ?_)
      refine z_goto (pc := 108) hC 113 rfl dX6_listsTop_108 ?_
      exact z_iret (pc := 113) hC rfl dX6_listsTop_113
theorem r_Mo_listsTop_10 {C : Cxt} {G : Geo} {M : Mem} {k : Nat} (hC : Cx C cX6_listsTop 8 "FrameHeirsModel" (some .int) rm_X6_listsTop G) (hk : LMo G k) : ∀ (n : Nat) (v1 : Int32) (v2 : Int32) (v3 : Int32) (v5 : Int32) (v6 : Int32) (v7 : Int32) (d : Sl), Rz C 8 G (setS M k) (poM avI (setS M k)) 10 [(0, .inr (k, 34)), (1, .inl (.int v1)), (2, .inl (.int v2)), (3, .inl (.int v3)), (5, .inl (.int v5)), (6, .inl (.int v6)), (7, .inl (.int v7))] [] d (Mo_listsTop_10 n v1 v2 v3 v5 v6 v7 d) := by
  intro n
  induction n with
  | zero => intros; exact z_none
  | succ n ih =>
    intro v1 v2 v3 v5 v6 v7 d
    rw [Mo_listsTop_10]
    refine z_iload (pc := 10) hC 7 6 rfl dX6_listsTop_10 ?_
    refine z_if_eq (pc := 12) hC 35 rfl dX6_listsTop_12 ?_ ?_
    · exact z_sub [0, 1, 2, 3, 4, 5] rfl (r_Mo_listsTop_35 hC hk _ ih v1 v2 v3 v5 v6 d)
    · refine z_aload_n (pc := 15) hC 0 rfl 0 rfl dX6_listsTop_15 ?_
      refine z_iload (pc := 16) hC 6 5 rfl dX6_listsTop_16 ?_
      refine z_piV (pc := 18) (st := []) hC y_X6_firstOf q1584 [.inl (.int v6)] rfl (hk 34 rfl) rfl rfl (c_X6_firstOf hC.2.2.2.2.2.2.1 hk) rfl ⟨rfl, rfl, (Nat.le_of_ble_eq_true rfl), (Nat.le_of_ble_eq_true rfl)⟩ (Nat.le_of_ble_eq_true rfl) dX6_listsTop_18 (fun r11 => ?_)
      refine z_if_lt (pc := 21) hC 35 rfl dX6_listsTop_21 ?_ ?_
      · exact z_sub [0, 1, 2, 3, 4, 5] rfl (r_Mo_listsTop_35 hC hk _ ih v1 v2 v3 v5 v6 d)
      · refine z_aload_n (pc := 24) hC 0 rfl 0 rfl dX6_listsTop_24 ?_
        refine z_iload (pc := 25) hC 6 5 rfl dX6_listsTop_25 ?_
        refine z_piV (pc := 27) (st := []) hC y_X6_firstOf q1584 [.inl (.int v6)] rfl (hk 34 rfl) rfl rfl (c_X6_firstOf hC.2.2.2.2.2.2.1 hk) rfl ⟨rfl, rfl, (Nat.le_of_ble_eq_true rfl), (Nat.le_of_ble_eq_true rfl)⟩ (Nat.le_of_ble_eq_true rfl) dX6_listsTop_27 (fun r12 => ?_)
        refine z_istore (pc := 30) (ls1 := fun v => [(6, .inl (.int v)), (0, .inr (k, 34)), (1, .inl (.int v1)), (2, .inl (.int v2)), (3, .inl (.int v3)), (5, .inl (.int v5)), (7, .inl (.int v7))]) hC 6 (by decide) (fun v => rfl) dX6_listsTop_30 (fun v6_13 => ?_)
        refine z_goto (pc := 32) hC 10 rfl dX6_listsTop_32 ?_
        exact z_sub [1, 2, 3, 4, 5, 0, 6] rfl (ih v1 v2 v3 v5 v6_13 v7 d)
theorem r_Mo_listsTop {C : Cxt} {G : Geo} {M : Mem} {k : Nat} (hC : Cx C cX6_listsTop 8 "FrameHeirsModel" (some .int) rm_X6_listsTop G) (hk : LMo G k) (d : Sl) (a1 : Int32) (a2 : Int32) (a3 : Int32) (a4 : Int32) : Rz C 8 G (setS M k) (poM avI (setS M k)) 0 [(0, .inr (k, 34)), (1, .inl (.int a1)), (2, .inl (.int a2)), (3, .inl (.int a3)), (4, .inl (.int a4))] [] d (Mo_listsTop d a1 a2 a3 a4) := by
  unfold Mo_listsTop
  refine z_iload (pc := 0) hC 4 4 rfl dX6_listsTop_0 ?_
  refine z_istore (pc := 2) (ls1 := fun v => [(5, .inl (.int v)), (0, .inr (k, 34)), (1, .inl (.int a1)), (2, .inl (.int a2)), (3, .inl (.int a3)), (4, .inl (.int a4))]) hC 5 (by decide) (fun v => rfl) dX6_listsTop_2 (fun v5_14 => ?_)
  refine z_iload_n (pc := 4) hC 1 rfl 2 rfl dX6_listsTop_4 ?_
  refine z_istore (pc := 5) (ls1 := fun v => [(6, .inl (.int v)), (5, .inl (.int v5_14)), (0, .inr (k, 34)), (1, .inl (.int a1)), (2, .inl (.int a2)), (3, .inl (.int a3)), (4, .inl (.int a4))]) hC 6 (by decide) (fun v => rfl) dX6_listsTop_5 (fun v6_15 => ?_)
  refine z_iconst (pc := 7) hC (1 : Int32) rfl dX6_listsTop_7 ?_
  refine z_istore (pc := 8) (ls1 := fun v => [(7, .inl (.int v)), (6, .inl (.int v6_15)), (5, .inl (.int v5_14)), (0, .inr (k, 34)), (1, .inl (.int a1)), (2, .inl (.int a2)), (3, .inl (.int a3)), (4, .inl (.int a4))]) hC 7 (by decide) (fun v => rfl) dX6_listsTop_8 (fun v7_16 => ?_)
  exact z_sub [3, 4, 5, 6, 2, 1, 0] rfl (r_Mo_listsTop_10 hC hk FU a1 a2 a3 v5_14 v6_15 v7_16 d)
theorem c_X6_listsTop {G : Geo} {M : Mem} {k : Nat} (hG : GOk G) (hk : LMo G k) {d : Sl} {a1 : Int32} {a2 : Int32} {a3 : Int32} {a4 : Int32} (l : Launch) (r : Int32) (d1 : Sl) (h : Mo_listsTop d a1 a2 a3 a4 = some (r, d1)) : Mt l yX6_listsTop cX6_listsTop 8 (some .int) rm_X6_listsTop G [.inr (k, 34), .inl (.int a1), .inl (.int a2), .inl (.int a3), .inl (.int a4)] ((setS M k) d) (avI r) ((setS M k) d1) :=
  mt_of (mem := (setS M k)) (po := poM avI (setS M k)) (x0 := d) (t := (r, d1)) rfl hG [.inr (k, 34), .inl (.int a1), .inl (.int a2), .inl (.int a3), .inl (.int a4)] (Nat.le_of_ble_eq_true rfl) rfl (fun C hC => r_Mo_listsTop hC hk d a1 a2 a3 a4) h
-- FrameHeirsModel.flushed(IIIZ)I
abbrev rm_X6_flushed : Room := { frames := 6, cells := 0, slots := 0, locals := 151 }
theorem dX6_flushed_0 : decode cX6_flushed 0 = .ok (.iload_n 2, 1) := by decide +kernel
theorem dX6_flushed_1 : decode cX6_flushed 1 = .ok (.iconst 4, 1) := by decide +kernel
theorem dX6_flushed_2 : decode cX6_flushed 2 = .ok (.irem, 1) := by decide +kernel
theorem dX6_flushed_3 : decode cX6_flushed 3 = .ok (.istore 5, 2) := by decide +kernel
theorem dX6_flushed_5 : decode cX6_flushed 5 = .ok (.iload_n 2, 1) := by decide +kernel
theorem dX6_flushed_6 : decode cX6_flushed 6 = .ok (.iconst 4, 1) := by decide +kernel
theorem dX6_flushed_7 : decode cX6_flushed 7 = .ok (.idiv, 1) := by decide +kernel
theorem dX6_flushed_8 : decode cX6_flushed 8 = .ok (.istore 6, 2) := by decide +kernel
theorem dX6_flushed_10 : decode cX6_flushed 10 = .ok (.aload_n 0, 1) := by decide +kernel
theorem dX6_flushed_11 : decode cX6_flushed 11 = .ok (.iload_n 1, 1) := by decide +kernel
theorem dX6_flushed_12 : decode cX6_flushed 12 = .ok (.iload 6, 2) := by decide +kernel
theorem dX6_flushed_14 : decode cX6_flushed 14 = .ok (.iload 5, 2) := by decide +kernel
theorem dX6_flushed_16 : decode cX6_flushed 16 = .ok (.invokevirtual 270, 3) := by decide +kernel
theorem dX6_flushed_19 : decode cX6_flushed 19 = .ok (.aload_n 0, 1) := by decide +kernel
theorem dX6_flushed_20 : decode cX6_flushed 20 = .ok (.getfield 255, 3) := by decide +kernel
theorem dX6_flushed_23 : decode cX6_flushed 23 = .ok (.ifCond .ne 6, 3) := by decide +kernel
theorem dX6_flushed_26 : decode cX6_flushed 26 = .ok (.bipush (-2), 2) := by decide +kernel
theorem dX6_flushed_28 : decode cX6_flushed 28 = .ok (.ireturn, 1) := by decide +kernel
theorem dX6_flushed_29 : decode cX6_flushed 29 = .ok (.aload_n 0, 1) := by decide +kernel
theorem dX6_flushed_30 : decode cX6_flushed 30 = .ok (.invokevirtual 296, 3) := by decide +kernel
theorem dX6_flushed_33 : decode cX6_flushed 33 = .ok (.ifCond .eq 6, 3) := by decide +kernel
theorem dX6_flushed_36 : decode cX6_flushed 36 = .ok (.bipush (-3), 2) := by decide +kernel
theorem dX6_flushed_38 : decode cX6_flushed 38 = .ok (.ireturn, 1) := by decide +kernel
theorem dX6_flushed_39 : decode cX6_flushed 39 = .ok (.iconst 0, 1) := by decide +kernel
theorem dX6_flushed_40 : decode cX6_flushed 40 = .ok (.istore 7, 2) := by decide +kernel
theorem dX6_flushed_42 : decode cX6_flushed 42 = .ok (.iload 7, 2) := by decide +kernel
theorem dX6_flushed_44 : decode cX6_flushed 44 = .ok (.aload_n 0, 1) := by decide +kernel
theorem dX6_flushed_45 : decode cX6_flushed 45 = .ok (.getfield 255, 3) := by decide +kernel
theorem dX6_flushed_48 : decode cX6_flushed 48 = .ok (.if_icmp .ge 31, 3) := by decide +kernel
theorem dX6_flushed_51 : decode cX6_flushed 51 = .ok (.iload 4, 2) := by decide +kernel
theorem dX6_flushed_53 : decode cX6_flushed 53 = .ok (.ifCond .eq 26, 3) := by decide +kernel
theorem dX6_flushed_56 : decode cX6_flushed 56 = .ok (.aload_n 0, 1) := by decide +kernel
theorem dX6_flushed_57 : decode cX6_flushed 57 = .ok (.aload_n 0, 1) := by decide +kernel
theorem dX6_flushed_58 : decode cX6_flushed 58 = .ok (.getfield 52, 3) := by decide +kernel
theorem dX6_flushed_61 : decode cX6_flushed 61 = .ok (.iload 7, 2) := by decide +kernel
theorem dX6_flushed_63 : decode cX6_flushed 63 = .ok (.iaload, 1) := by decide +kernel
theorem dX6_flushed_64 : decode cX6_flushed 64 = .ok (.invokevirtual 210, 3) := by decide +kernel
theorem dX6_flushed_67 : decode cX6_flushed 67 = .ok (.ifCond .ge 6, 3) := by decide +kernel
theorem dX6_flushed_70 : decode cX6_flushed 70 = .ok (.bipush (-4), 2) := by decide +kernel
theorem dX6_flushed_72 : decode cX6_flushed 72 = .ok (.ireturn, 1) := by decide +kernel
theorem dX6_flushed_73 : decode cX6_flushed 73 = .ok (.iinc 7 1, 3) := by decide +kernel
theorem dX6_flushed_76 : decode cX6_flushed 76 = .ok (.goto (-34), 3) := by decide +kernel
theorem dX6_flushed_79 : decode cX6_flushed 79 = .ok (.aload_n 0, 1) := by decide +kernel
theorem dX6_flushed_80 : decode cX6_flushed 80 = .ok (.sipush 1944, 3) := by decide +kernel
theorem dX6_flushed_83 : decode cX6_flushed 83 = .ok (.invokevirtual 189, 3) := by decide +kernel
theorem dX6_flushed_86 : decode cX6_flushed 86 = .ok (.bipush 6, 2) := by decide +kernel
theorem dX6_flushed_88 : decode cX6_flushed 88 = .ok (.if_icmp .ne 6, 3) := by decide +kernel
theorem dX6_flushed_91 : decode cX6_flushed 91 = .ok (.bipush (-5), 2) := by decide +kernel
theorem dX6_flushed_93 : decode cX6_flushed 93 = .ok (.ireturn, 1) := by decide +kernel
theorem dX6_flushed_94 : decode cX6_flushed 94 = .ok (.aload_n 0, 1) := by decide +kernel
theorem dX6_flushed_95 : decode cX6_flushed 95 = .ok (.iload_n 1, 1) := by decide +kernel
theorem dX6_flushed_96 : decode cX6_flushed 96 = .ok (.iload 6, 2) := by decide +kernel
theorem dX6_flushed_98 : decode cX6_flushed 98 = .ok (.iload 5, 2) := by decide +kernel
theorem dX6_flushed_100 : decode cX6_flushed 100 = .ok (.invokevirtual 299, 3) := by decide +kernel
theorem dX6_flushed_103 : decode cX6_flushed 103 = .ok (.aload_n 0, 1) := by decide +kernel
theorem dX6_flushed_104 : decode cX6_flushed 104 = .ok (.iload_n 1, 1) := by decide +kernel
theorem dX6_flushed_105 : decode cX6_flushed 105 = .ok (.iload 6, 2) := by decide +kernel
theorem dX6_flushed_107 : decode cX6_flushed 107 = .ok (.iload 5, 2) := by decide +kernel
theorem dX6_flushed_109 : decode cX6_flushed 109 = .ok (.invokevirtual 270, 3) := by decide +kernel
theorem dX6_flushed_112 : decode cX6_flushed 112 = .ok (.aload_n 0, 1) := by decide +kernel
theorem dX6_flushed_113 : decode cX6_flushed 113 = .ok (.invokevirtual 312, 3) := by decide +kernel
theorem dX6_flushed_116 : decode cX6_flushed 116 = .ok (.istore 7, 2) := by decide +kernel
theorem dX6_flushed_118 : decode cX6_flushed 118 = .ok (.iload 7, 2) := by decide +kernel
theorem dX6_flushed_120 : decode cX6_flushed 120 = .ok (.istore 8, 2) := by decide +kernel
theorem dX6_flushed_122 : decode cX6_flushed 122 = .ok (.iconst 0, 1) := by decide +kernel
theorem dX6_flushed_123 : decode cX6_flushed 123 = .ok (.istore 9, 2) := by decide +kernel
theorem dX6_flushed_125 : decode cX6_flushed 125 = .ok (.iload 9, 2) := by decide +kernel
theorem dX6_flushed_127 : decode cX6_flushed 127 = .ok (.aload_n 0, 1) := by decide +kernel
theorem dX6_flushed_128 : decode cX6_flushed 128 = .ok (.getfield 255, 3) := by decide +kernel
theorem dX6_flushed_131 : decode cX6_flushed 131 = .ok (.if_icmp .ge 28, 3) := by decide +kernel
theorem dX6_flushed_134 : decode cX6_flushed 134 = .ok (.aload_n 0, 1) := by decide +kernel
theorem dX6_flushed_135 : decode cX6_flushed 135 = .ok (.aload_n 0, 1) := by decide +kernel
theorem dX6_flushed_136 : decode cX6_flushed 136 = .ok (.getfield 52, 3) := by decide +kernel
theorem dX6_flushed_139 : decode cX6_flushed 139 = .ok (.iload 9, 2) := by decide +kernel
theorem dX6_flushed_141 : decode cX6_flushed 141 = .ok (.iaload, 1) := by decide +kernel
theorem dX6_flushed_142 : decode cX6_flushed 142 = .ok (.iload 4, 2) := by decide +kernel
theorem dX6_flushed_144 : decode cX6_flushed 144 = .ok (.iload 7, 2) := by decide +kernel
theorem dX6_flushed_146 : decode cX6_flushed 146 = .ok (.iload 8, 2) := by decide +kernel
theorem dX6_flushed_148 : decode cX6_flushed 148 = .ok (.invokevirtual 315, 3) := by decide +kernel
theorem dX6_flushed_151 : decode cX6_flushed 151 = .ok (.istore 8, 2) := by decide +kernel
theorem dX6_flushed_153 : decode cX6_flushed 153 = .ok (.iinc 9 1, 3) := by decide +kernel
theorem dX6_flushed_156 : decode cX6_flushed 156 = .ok (.goto (-31), 3) := by decide +kernel
theorem dX6_flushed_159 : decode cX6_flushed 159 = .ok (.iload 8, 2) := by decide +kernel
theorem dX6_flushed_161 : decode cX6_flushed 161 = .ok (.iload 7, 2) := by decide +kernel
theorem dX6_flushed_163 : decode cX6_flushed 163 = .ok (.if_icmp .ne 5, 3) := by decide +kernel
theorem dX6_flushed_166 : decode cX6_flushed 166 = .ok (.iconst 0, 1) := by decide +kernel
theorem dX6_flushed_167 : decode cX6_flushed 167 = .ok (.ireturn, 1) := by decide +kernel
theorem dX6_flushed_168 : decode cX6_flushed 168 = .ok (.aload_n 0, 1) := by decide +kernel
theorem dX6_flushed_169 : decode cX6_flushed 169 = .ok (.sipush 1944, 3) := by decide +kernel
theorem dX6_flushed_172 : decode cX6_flushed 172 = .ok (.invokevirtual 189, 3) := by decide +kernel
theorem dX6_flushed_175 : decode cX6_flushed 175 = .ok (.istore 9, 2) := by decide +kernel
theorem dX6_flushed_177 : decode cX6_flushed 177 = .ok (.aload_n 0, 1) := by decide +kernel
theorem dX6_flushed_178 : decode cX6_flushed 178 = .ok (.sipush 2197, 3) := by decide +kernel
theorem dX6_flushed_181 : decode cX6_flushed 181 = .ok (.invokevirtual 240, 3) := by decide +kernel
theorem dX6_flushed_184 : decode cX6_flushed 184 = .ok (.aload_n 0, 1) := by decide +kernel
theorem dX6_flushed_185 : decode cX6_flushed 185 = .ok (.sipush 1950, 3) := by decide +kernel
theorem dX6_flushed_188 : decode cX6_flushed 188 = .ok (.iload 9, 2) := by decide +kernel
theorem dX6_flushed_190 : decode cX6_flushed 190 = .ok (.iadd, 1) := by decide +kernel
theorem dX6_flushed_191 : decode cX6_flushed 191 = .ok (.aload_n 0, 1) := by decide +kernel
theorem dX6_flushed_192 : decode cX6_flushed 192 = .ok (.sipush 2197, 3) := by decide +kernel
theorem dX6_flushed_195 : decode cX6_flushed 195 = .ok (.invokevirtual 189, 3) := by decide +kernel
theorem dX6_flushed_198 : decode cX6_flushed 198 = .ok (.invokevirtual 122, 3) := by decide +kernel
theorem dX6_flushed_201 : decode cX6_flushed 201 = .ok (.aload_n 0, 1) := by decide +kernel
theorem dX6_flushed_202 : decode cX6_flushed 202 = .ok (.sipush 1956, 3) := by decide +kernel
theorem dX6_flushed_205 : decode cX6_flushed 205 = .ok (.iload 9, 2) := by decide +kernel
theorem dX6_flushed_207 : decode cX6_flushed 207 = .ok (.iadd, 1) := by decide +kernel
theorem dX6_flushed_208 : decode cX6_flushed 208 = .ok (.iload_n 1, 1) := by decide +kernel
theorem dX6_flushed_209 : decode cX6_flushed 209 = .ok (.invokevirtual 122, 3) := by decide +kernel
theorem dX6_flushed_212 : decode cX6_flushed 212 = .ok (.aload_n 0, 1) := by decide +kernel
theorem dX6_flushed_213 : decode cX6_flushed 213 = .ok (.sipush 1962, 3) := by decide +kernel
theorem dX6_flushed_216 : decode cX6_flushed 216 = .ok (.iload 9, 2) := by decide +kernel
theorem dX6_flushed_218 : decode cX6_flushed 218 = .ok (.iadd, 1) := by decide +kernel
theorem dX6_flushed_219 : decode cX6_flushed 219 = .ok (.iload 6, 2) := by decide +kernel
theorem dX6_flushed_221 : decode cX6_flushed 221 = .ok (.invokevirtual 122, 3) := by decide +kernel
theorem dX6_flushed_224 : decode cX6_flushed 224 = .ok (.aload_n 0, 1) := by decide +kernel
theorem dX6_flushed_225 : decode cX6_flushed 225 = .ok (.sipush 1968, 3) := by decide +kernel
theorem dX6_flushed_228 : decode cX6_flushed 228 = .ok (.iload 9, 2) := by decide +kernel
theorem dX6_flushed_230 : decode cX6_flushed 230 = .ok (.iadd, 1) := by decide +kernel
theorem dX6_flushed_231 : decode cX6_flushed 231 = .ok (.iload_n 3, 1) := by decide +kernel
theorem dX6_flushed_232 : decode cX6_flushed 232 = .ok (.invokevirtual 122, 3) := by decide +kernel
theorem dX6_flushed_235 : decode cX6_flushed 235 = .ok (.aload_n 0, 1) := by decide +kernel
theorem dX6_flushed_236 : decode cX6_flushed 236 = .ok (.sipush 1974, 3) := by decide +kernel
theorem dX6_flushed_239 : decode cX6_flushed 239 = .ok (.iload 9, 2) := by decide +kernel
theorem dX6_flushed_241 : decode cX6_flushed 241 = .ok (.iadd, 1) := by decide +kernel
theorem dX6_flushed_242 : decode cX6_flushed 242 = .ok (.iload 8, 2) := by decide +kernel
theorem dX6_flushed_244 : decode cX6_flushed 244 = .ok (.iload 7, 2) := by decide +kernel
theorem dX6_flushed_246 : decode cX6_flushed 246 = .ok (.isub, 1) := by decide +kernel
theorem dX6_flushed_247 : decode cX6_flushed 247 = .ok (.invokevirtual 122, 3) := by decide +kernel
theorem dX6_flushed_250 : decode cX6_flushed 250 = .ok (.iconst 0, 1) := by decide +kernel
theorem dX6_flushed_251 : decode cX6_flushed 251 = .ok (.istore 10, 2) := by decide +kernel
theorem dX6_flushed_253 : decode cX6_flushed 253 = .ok (.iload 10, 2) := by decide +kernel
theorem dX6_flushed_255 : decode cX6_flushed 255 = .ok (.aload_n 0, 1) := by decide +kernel
theorem dX6_flushed_256 : decode cX6_flushed 256 = .ok (.getfield 255, 3) := by decide +kernel
theorem dX6_flushed_259 : decode cX6_flushed 259 = .ok (.if_icmp .ge 31, 3) := by decide +kernel
theorem dX6_flushed_262 : decode cX6_flushed 262 = .ok (.aload_n 0, 1) := by decide +kernel
theorem dX6_flushed_263 : decode cX6_flushed 263 = .ok (.sipush 1728, 3) := by decide +kernel
theorem dX6_flushed_266 : decode cX6_flushed 266 = .ok (.aload_n 0, 1) := by decide +kernel
theorem dX6_flushed_267 : decode cX6_flushed 267 = .ok (.getfield 52, 3) := by decide +kernel
theorem dX6_flushed_270 : decode cX6_flushed 270 = .ok (.iload 10, 2) := by decide +kernel
theorem dX6_flushed_272 : decode cX6_flushed 272 = .ok (.iaload, 1) := by decide +kernel
theorem dX6_flushed_273 : decode cX6_flushed 273 = .ok (.iadd, 1) := by decide +kernel
theorem dX6_flushed_274 : decode cX6_flushed 274 = .ok (.aload_n 0, 1) := by decide +kernel
theorem dX6_flushed_275 : decode cX6_flushed 275 = .ok (.sipush 2197, 3) := by decide +kernel
theorem dX6_flushed_278 : decode cX6_flushed 278 = .ok (.invokevirtual 189, 3) := by decide +kernel
theorem dX6_flushed_281 : decode cX6_flushed 281 = .ok (.invokevirtual 122, 3) := by decide +kernel
theorem dX6_flushed_284 : decode cX6_flushed 284 = .ok (.iinc 10 1, 3) := by decide +kernel
theorem dX6_flushed_287 : decode cX6_flushed 287 = .ok (.goto (-34), 3) := by decide +kernel
theorem dX6_flushed_290 : decode cX6_flushed 290 = .ok (.aload_n 0, 1) := by decide +kernel
theorem dX6_flushed_291 : decode cX6_flushed 291 = .ok (.sipush 1944, 3) := by decide +kernel
theorem dX6_flushed_294 : decode cX6_flushed 294 = .ok (.invokevirtual 240, 3) := by decide +kernel
theorem dX6_flushed_297 : decode cX6_flushed 297 = .ok (.iload 8, 2) := by decide +kernel
theorem dX6_flushed_299 : decode cX6_flushed 299 = .ok (.iload 7, 2) := by decide +kernel
theorem dX6_flushed_301 : decode cX6_flushed 301 = .ok (.isub, 1) := by decide +kernel
theorem dX6_flushed_302 : decode cX6_flushed 302 = .ok (.ireturn, 1) := by decide +kernel
def Mo_flushed_253 : Nat → Int32 → Int32 → Int32 → Sl → Option (Int32 × Sl)
  | 0, _, _, _, _ => none
  | n + 1, v7, v8, v10, d =>
    if (d 34 30) ≤ v10 then
      (bd (Mo_more d (1944 : Int32)) fun r1 d2 =>
      some ((v8 - v7), d2))
    else
      (if inb v10 8 then
      bp (Mo_of d (2197 : Int32)) fun r3 =>
      bd (Mo_lay d ((1728 : Int32) + (d 47 (ix v10))) r3) fun r4 d5 =>
      bnd (v10 + (1 : Int32)) fun v10_6 =>
      Mo_flushed_253 n v7 v8 v10_6 d5
      else none)
def Mo_flushed_125 : Nat → Int32 → Int32 → Int32 → Int32 → Int32 → Int32 → Int32 → Sl → Option (Int32 × Sl)
  | 0, _, _, _, _, _, _, _, _ => none
  | n + 1, v1, v3, v4, v6, v7, v8, v9, d =>
    if (d 34 30) ≤ v9 then
      (if v8 = v7 then
        (some ((0 : Int32), d))
      else
        (bp (Mo_of d (1944 : Int32)) fun r7 =>
        bnd r7 fun v9_8 =>
        bd (Mo_more d (2197 : Int32)) fun r9 d10 =>
        bp (Mo_of d10 (2197 : Int32)) fun r11 =>
        bd (Mo_lay d10 ((1950 : Int32) + v9_8) r11) fun r12 d13 =>
        bd (Mo_lay d13 ((1956 : Int32) + v9_8) v1) fun r14 d15 =>
        bd (Mo_lay d15 ((1962 : Int32) + v9_8) v6) fun r16 d17 =>
        bd (Mo_lay d17 ((1968 : Int32) + v9_8) v3) fun r18 d19 =>
        bd (Mo_lay d19 ((1974 : Int32) + v9_8) (v8 - v7)) fun r20 d21 =>
        bnd (0 : Int32) fun v10_22 =>
        Mo_flushed_253 FU v7 v8 v10_22 d21))
    else
      (if inb v9 8 then
      bd (Mo_listsTop d (d 47 (ix v9)) v4 v7 v8) fun r23 d24 =>
      bnd r23 fun v8_25 =>
      bnd (v9 + (1 : Int32)) fun v9_26 =>
      Mo_flushed_125 n v1 v3 v4 v6 v7 v8_25 v9_26 d24
      else none)
def Mo_flushed_79 (v1 : Int32) (v3 : Int32) (v4 : Int32) (v5 : Int32) (v6 : Int32) (d : Sl) : Option (Int32 × Sl) :=
  bp (Mo_of d (1944 : Int32)) fun r27 =>
  if r27 = (6 : Int32) then
    (some ((-5 : Int32), d))
  else
    (bd (Mo_cuts d v1 v6 v5) fun r28 d29 =>
    bd (Mo_looks d29 v1 v6 v5) fun r30 d31 =>
    bp (Mo_pendingMany d31) fun r32 =>
    bnd r32 fun v7_33 =>
    bnd v7_33 fun v8_34 =>
    bnd (0 : Int32) fun v9_35 =>
    Mo_flushed_125 FU v1 v3 v4 v6 v7_33 v8_34 v9_35 d31)
def Mo_flushed_42 : Nat → Int32 → Int32 → Int32 → Int32 → Int32 → Int32 → Sl → Option (Int32 × Sl)
  | 0, _, _, _, _, _, _, _ => none
  | n + 1, v1, v3, v4, v5, v6, v7, d =>
    if (d 34 30) ≤ v7 then
      (Mo_flushed_79 v1 v3 v4 v5 v6 d)
    else
      (if v4 = 0 then
        (Mo_flushed_79 v1 v3 v4 v5 v6 d)
      else
        (if inb v7 8 then
        bp (Mo_giverOf d (d 47 (ix v7))) fun r36 =>
        if 0 ≤ r36 then
          (bnd (v7 + (1 : Int32)) fun v7_37 =>
          Mo_flushed_42 n v1 v3 v4 v5 v6 v7_37 d)
        else
          (some ((-4 : Int32), d))
        else none))
def Mo_flushed (d : Sl) (a1 : Int32) (a2 : Int32) (a3 : Int32) (a4 : Int32) : Option (Int32 × Sl) :=
  if ¬ (4 : Int32) = 0 then
  bnd (a2 - a2 / (4 : Int32) * (4 : Int32)) fun v5_38 =>
  if ¬ (4 : Int32) = 0 then
  bnd (a2 / (4 : Int32)) fun v6_39 =>
  bd (Mo_looks d a1 v6_39 v5_38) fun r40 d41 =>
  if (d41 34 30) = 0 then
    (some ((-2 : Int32), d41))
  else
    (bp (Mo_isBusyBelowThere d41) fun r42 =>
    if r42 = 0 then
      (bnd (0 : Int32) fun v7_43 =>
      Mo_flushed_42 FU a1 a3 a4 v5_38 v6_39 v7_43 d41)
    else
      (some ((-3 : Int32), d41)))
  else none
  else none
theorem y_X6_flushed : YV yX6_flushed cX6_flushed 11 (some .int) 4 := ⟨q1610, q99, q1611, q149, by decide +kernel, by decide +kernel, by decide +kernel, by decide +kernel⟩
theorem r_Mo_flushed_253 {C : Cxt} {G : Geo} {M : Mem} {k : Nat} (hC : Cx C cX6_flushed 11 "FrameHeirsModel" (some .int) rm_X6_flushed G) (hk : LMo G k) : ∀ (n : Nat) (v7 : Int32) (v8 : Int32) (v10 : Int32) (d : Sl), Rz C 11 G (setS M k) (poM avI (setS M k)) 253 [(0, .inr (k, 34)), (7, .inl (.int v7)), (8, .inl (.int v8)), (10, .inl (.int v10))] [] d (Mo_flushed_253 n v7 v8 v10 d) := by
  intro n
  induction n with
  | zero => intros; exact z_none
  | succ n ih =>
    intro v7 v8 v10 d
    rw [Mo_flushed_253]
    refine z_iload (pc := 253) hC 10 3 rfl dX6_flushed_253 ?_
    refine z_aload_n (pc := 255) hC 0 rfl 0 rfl dX6_flushed_255 ?_
    refine zs_geti (pc := 256) hC (hk 34 rfl) f_34_30 q1300 dX6_flushed_256 ?_
    refine z_icmp_ge (pc := 259) hC 290 rfl dX6_flushed_259 ?_ ?_
    · refine z_aload_n (pc := 290) hC 0 rfl 0 rfl dX6_flushed_290 ?_
      refine z_sipush (pc := 291) hC (1944 : Int32) rfl dX6_flushed_291 ?_
      refine z_cvV (pc := 294) (st := []) hC y_X6_more q1596 [.inl (.int (1944 : Int32))] rfl (hk 34 rfl) rfl rfl (c_X6_more hC.2.2.2.2.2.2.1 hk) rfl ⟨rfl, rfl, (Nat.le_of_ble_eq_true rfl), (Nat.le_of_ble_eq_true rfl)⟩ (Nat.le_of_ble_eq_true rfl) dX6_flushed_294 (fun r1 d2 => ?_)
      refine z_iload (pc := 297) hC 8 2 rfl dX6_flushed_297 ?_
      refine z_iload (pc := 299) hC 7 1 rfl dX6_flushed_299 ?_
      refine z_isub (pc := 301) hC dX6_flushed_301 ?_
      exact z_iret (pc := 302) hC rfl dX6_flushed_302
    · refine z_aload_n (pc := 262) hC 0 rfl 0 rfl dX6_flushed_262 ?_
      refine z_sipush (pc := 263) hC (1728 : Int32) rfl dX6_flushed_263 ?_
      refine z_aload_n (pc := 266) hC 0 rfl 0 rfl dX6_flushed_266 ?_
      refine z_getc (pc := 267) hC (hk 34 rfl) f_34_29 q1299 dX6_flushed_267 ?_
      refine z_iload (pc := 270) hC 10 3 rfl dX6_flushed_270 ?_
      refine zs_iald (pc := 272) hC (hk 47 rfl) rfl dX6_flushed_272 ?_
      refine z_iadd (pc := 273) hC dX6_flushed_273 ?_
      refine z_aload_n (pc := 274) hC 0 rfl 0 rfl dX6_flushed_274 ?_
      refine z_sipush (pc := 275) hC (2197 : Int32) rfl dX6_flushed_275 ?_
      refine z_piV (pc := 278) (st := [.inl (.int ((1728 : Int32) + (d 47 (ix v10)))), .inr (k, 34)]) hC y_X6_of q1262 [.inl (.int (2197 : Int32))] rfl (hk 34 rfl) rfl rfl (c_X6_of hC.2.2.2.2.2.2.1 hk) rfl ⟨rfl, rfl, (Nat.le_of_ble_eq_true rfl), (Nat.le_of_ble_eq_true rfl)⟩ (Nat.le_of_ble_eq_true rfl) dX6_flushed_278 (fun r3 => ?_)
      refine z_cvV (pc := 281) (st := []) hC y_X6_lay q1246 [.inl (.int ((1728 : Int32) + (d 47 (ix v10)))), .inl (.int r3)] rfl (hk 34 rfl) rfl rfl (c_X6_lay hC.2.2.2.2.2.2.1 hk) rfl ⟨rfl, rfl, (Nat.le_of_ble_eq_true rfl), (Nat.le_of_ble_eq_true rfl)⟩ (Nat.le_of_ble_eq_true rfl) dX6_flushed_281 (fun r4 d5 => ?_)
      refine z_iinc (pc := 284) (ls1 := fun v => [(10, .inl (.int v)), (0, .inr (k, 34)), (7, .inl (.int v7)), (8, .inl (.int v8))]) hC 10 3 (by decide) (1 : Int32) rfl rfl (fun v => rfl) dX6_flushed_284 (fun v10_6 => ?_)
      refine z_goto (pc := 287) hC 253 rfl dX6_flushed_287 ?_
      exact z_sub [1, 2, 3, 0] rfl (ih v7 v8 v10_6 d5)
theorem r_Mo_flushed_125 {C : Cxt} {G : Geo} {M : Mem} {k : Nat} (hC : Cx C cX6_flushed 11 "FrameHeirsModel" (some .int) rm_X6_flushed G) (hk : LMo G k) : ∀ (n : Nat) (v1 : Int32) (v3 : Int32) (v4 : Int32) (v6 : Int32) (v7 : Int32) (v8 : Int32) (v9 : Int32) (d : Sl), Rz C 11 G (setS M k) (poM avI (setS M k)) 125 [(0, .inr (k, 34)), (1, .inl (.int v1)), (3, .inl (.int v3)), (4, .inl (.int v4)), (6, .inl (.int v6)), (7, .inl (.int v7)), (8, .inl (.int v8)), (9, .inl (.int v9))] [] d (Mo_flushed_125 n v1 v3 v4 v6 v7 v8 v9 d) := by
  intro n
  induction n with
  | zero => intros; exact z_none
  | succ n ih =>
    intro v1 v3 v4 v6 v7 v8 v9 d
    rw [Mo_flushed_125]
    refine z_iload (pc := 125) hC 9 7 rfl dX6_flushed_125 ?_
    refine z_aload_n (pc := 127) hC 0 rfl 0 rfl dX6_flushed_127 ?_
    refine zs_geti (pc := 128) hC (hk 34 rfl) f_34_30 q1300 dX6_flushed_128 ?_
    refine z_icmp_ge (pc := 131) hC 159 rfl dX6_flushed_131 ?_ ?_
    · refine z_iload (pc := 159) hC 8 6 rfl dX6_flushed_159 ?_
      refine z_iload (pc := 161) hC 7 5 rfl dX6_flushed_161 ?_
      refine z_icmp_ne (pc := 163) hC 168 rfl dX6_flushed_163 ?_ ?_
      · refine z_aload_n (pc := 168) hC 0 rfl 0 rfl dX6_flushed_168 ?_
        refine z_sipush (pc := 169) hC (1944 : Int32) rfl dX6_flushed_169 ?_
        refine z_piV (pc := 172) (st := []) hC y_X6_of q1262 [.inl (.int (1944 : Int32))] rfl (hk 34 rfl) rfl rfl (c_X6_of hC.2.2.2.2.2.2.1 hk) rfl ⟨rfl, rfl, (Nat.le_of_ble_eq_true rfl), (Nat.le_of_ble_eq_true rfl)⟩ (Nat.le_of_ble_eq_true rfl) dX6_flushed_172 (fun r7 => ?_)
        refine z_istore (pc := 175) (ls1 := fun v => [(9, .inl (.int v)), (0, .inr (k, 34)), (1, .inl (.int v1)), (3, .inl (.int v3)), (4, .inl (.int v4)), (6, .inl (.int v6)), (7, .inl (.int v7)), (8, .inl (.int v8))]) hC 9 (by decide) (fun v => rfl) dX6_flushed_175 (fun v9_8 => ?_)
        refine z_aload_n (pc := 177) hC 0 rfl 1 rfl dX6_flushed_177 ?_
        refine z_sipush (pc := 178) hC (2197 : Int32) rfl dX6_flushed_178 ?_
        refine z_cvV (pc := 181) (st := []) hC y_X6_more q1596 [.inl (.int (2197 : Int32))] rfl (hk 34 rfl) rfl rfl (c_X6_more hC.2.2.2.2.2.2.1 hk) rfl ⟨rfl, rfl, (Nat.le_of_ble_eq_true rfl), (Nat.le_of_ble_eq_true rfl)⟩ (Nat.le_of_ble_eq_true rfl) dX6_flushed_181 (fun r9 d10 => ?_)
        refine z_aload_n (pc := 184) hC 0 rfl 1 rfl dX6_flushed_184 ?_
        refine z_sipush (pc := 185) hC (1950 : Int32) rfl dX6_flushed_185 ?_
        refine z_iload (pc := 188) hC 9 0 rfl dX6_flushed_188 ?_
        refine z_iadd (pc := 190) hC dX6_flushed_190 ?_
        refine z_aload_n (pc := 191) hC 0 rfl 1 rfl dX6_flushed_191 ?_
        refine z_sipush (pc := 192) hC (2197 : Int32) rfl dX6_flushed_192 ?_
        refine z_piV (pc := 195) (st := [.inl (.int ((1950 : Int32) + v9_8)), .inr (k, 34)]) hC y_X6_of q1262 [.inl (.int (2197 : Int32))] rfl (hk 34 rfl) rfl rfl (c_X6_of hC.2.2.2.2.2.2.1 hk) rfl ⟨rfl, rfl, (Nat.le_of_ble_eq_true rfl), (Nat.le_of_ble_eq_true rfl)⟩ (Nat.le_of_ble_eq_true rfl) dX6_flushed_195 (fun r11 => ?_)
        refine z_cvV (pc := 198) (st := []) hC y_X6_lay q1246 [.inl (.int ((1950 : Int32) + v9_8)), .inl (.int r11)] rfl (hk 34 rfl) rfl rfl (c_X6_lay hC.2.2.2.2.2.2.1 hk) rfl ⟨rfl, rfl, (Nat.le_of_ble_eq_true rfl), (Nat.le_of_ble_eq_true rfl)⟩ (Nat.le_of_ble_eq_true rfl) dX6_flushed_198 (fun r12 d13 => ?_)
        refine z_aload_n (pc := 201) hC 0 rfl 1 rfl dX6_flushed_201 ?_
        refine z_sipush (pc := 202) hC (1956 : Int32) rfl dX6_flushed_202 ?_
        refine z_iload (pc := 205) hC 9 0 rfl dX6_flushed_205 ?_
        refine z_iadd (pc := 207) hC dX6_flushed_207 ?_
        refine z_iload_n (pc := 208) hC 1 rfl 2 rfl dX6_flushed_208 ?_
        refine z_cvV (pc := 209) (st := []) hC y_X6_lay q1246 [.inl (.int ((1956 : Int32) + v9_8)), .inl (.int v1)] rfl (hk 34 rfl) rfl rfl (c_X6_lay hC.2.2.2.2.2.2.1 hk) rfl ⟨rfl, rfl, (Nat.le_of_ble_eq_true rfl), (Nat.le_of_ble_eq_true rfl)⟩ (Nat.le_of_ble_eq_true rfl) dX6_flushed_209 (fun r14 d15 => ?_)
        refine z_aload_n (pc := 212) hC 0 rfl 1 rfl dX6_flushed_212 ?_
        refine z_sipush (pc := 213) hC (1962 : Int32) rfl dX6_flushed_213 ?_
        refine z_iload (pc := 216) hC 9 0 rfl dX6_flushed_216 ?_
        refine z_iadd (pc := 218) hC dX6_flushed_218 ?_
        refine z_iload (pc := 219) hC 6 5 rfl dX6_flushed_219 ?_
        refine z_cvV (pc := 221) (st := []) hC y_X6_lay q1246 [.inl (.int ((1962 : Int32) + v9_8)), .inl (.int v6)] rfl (hk 34 rfl) rfl rfl (c_X6_lay hC.2.2.2.2.2.2.1 hk) rfl ⟨rfl, rfl, (Nat.le_of_ble_eq_true rfl), (Nat.le_of_ble_eq_true rfl)⟩ (Nat.le_of_ble_eq_true rfl) dX6_flushed_221 (fun r16 d17 => ?_)
        refine z_aload_n (pc := 224) hC 0 rfl 1 rfl dX6_flushed_224 ?_
        refine z_sipush (pc := 225) hC (1968 : Int32) rfl dX6_flushed_225 ?_
        refine z_iload (pc := 228) hC 9 0 rfl dX6_flushed_228 ?_
        refine z_iadd (pc := 230) hC dX6_flushed_230 ?_
        refine z_iload_n (pc := 231) hC 3 rfl 3 rfl dX6_flushed_231 ?_
        refine z_cvV (pc := 232) (st := []) hC y_X6_lay q1246 [.inl (.int ((1968 : Int32) + v9_8)), .inl (.int v3)] rfl (hk 34 rfl) rfl rfl (c_X6_lay hC.2.2.2.2.2.2.1 hk) rfl ⟨rfl, rfl, (Nat.le_of_ble_eq_true rfl), (Nat.le_of_ble_eq_true rfl)⟩ (Nat.le_of_ble_eq_true rfl) dX6_flushed_232 (fun r18 d19 => ?_)
        refine z_aload_n (pc := 235) hC 0 rfl 1 rfl dX6_flushed_235 ?_
        refine z_sipush (pc := 236) hC (1974 : Int32) rfl dX6_flushed_236 ?_
        refine z_iload (pc := 239) hC 9 0 rfl dX6_flushed_239 ?_
        refine z_iadd (pc := 241) hC dX6_flushed_241 ?_
        refine z_iload (pc := 242) hC 8 7 rfl dX6_flushed_242 ?_
        refine z_iload (pc := 244) hC 7 6 rfl dX6_flushed_244 ?_
        refine z_isub (pc := 246) hC dX6_flushed_246 ?_
        refine z_cvV (pc := 247) (st := []) hC y_X6_lay q1246 [.inl (.int ((1974 : Int32) + v9_8)), .inl (.int (v8 - v7))] rfl (hk 34 rfl) rfl rfl (c_X6_lay hC.2.2.2.2.2.2.1 hk) rfl ⟨rfl, rfl, (Nat.le_of_ble_eq_true rfl), (Nat.le_of_ble_eq_true rfl)⟩ (Nat.le_of_ble_eq_true rfl) dX6_flushed_247 (fun r20 d21 => ?_)
        refine z_iconst (pc := 250) hC (0 : Int32) rfl dX6_flushed_250 ?_
        refine z_istore (pc := 251) (ls1 := fun v => [(10, .inl (.int v)), (9, .inl (.int v9_8)), (0, .inr (k, 34)), (1, .inl (.int v1)), (3, .inl (.int v3)), (4, .inl (.int v4)), (6, .inl (.int v6)), (7, .inl (.int v7)), (8, .inl (.int v8))]) hC 10 (by decide) (fun v => rfl) dX6_flushed_251 (fun v10_22 => ?_)
        exact z_sub [2, 7, 8, 0] rfl (r_Mo_flushed_253 hC hk FU v7 v8 v10_22 d21)
      · refine z_iconst (pc := 166) hC (0 : Int32) rfl dX6_flushed_166 ?_
        exact z_iret (pc := 167) hC rfl dX6_flushed_167
    · refine z_aload_n (pc := 134) hC 0 rfl 0 rfl dX6_flushed_134 ?_
      refine z_aload_n (pc := 135) hC 0 rfl 0 rfl dX6_flushed_135 ?_
      refine z_getc (pc := 136) hC (hk 34 rfl) f_34_29 q1299 dX6_flushed_136 ?_
      refine z_iload (pc := 139) hC 9 7 rfl dX6_flushed_139 ?_
      refine zs_iald (pc := 141) hC (hk 47 rfl) rfl dX6_flushed_141 ?_
      refine z_iload (pc := 142) hC 4 3 rfl dX6_flushed_142 ?_
      refine z_iload (pc := 144) hC 7 5 rfl dX6_flushed_144 ?_
      refine z_iload (pc := 146) hC 8 6 rfl dX6_flushed_146 ?_
      refine z_ciV (pc := 148) (st := []) hC y_X6_listsTop q1616 [.inl (.int (d 47 (ix v9))), .inl (.int v4), .inl (.int v7), .inl (.int v8)] rfl (hk 34 rfl) rfl rfl (c_X6_listsTop hC.2.2.2.2.2.2.1 hk) rfl ⟨rfl, rfl, (Nat.le_of_ble_eq_true rfl), (Nat.le_of_ble_eq_true rfl)⟩ (Nat.le_of_ble_eq_true rfl) dX6_flushed_148 (fun r23 d24 => ?_)
      refine z_istore (pc := 151) (ls1 := fun v => [(8, .inl (.int v)), (0, .inr (k, 34)), (1, .inl (.int v1)), (3, .inl (.int v3)), (4, .inl (.int v4)), (6, .inl (.int v6)), (7, .inl (.int v7)), (9, .inl (.int v9))]) hC 8 (by decide) (fun v => rfl) dX6_flushed_151 (fun v8_25 => ?_)
      refine z_iinc (pc := 153) (ls1 := fun v => [(9, .inl (.int v)), (8, .inl (.int v8_25)), (0, .inr (k, 34)), (1, .inl (.int v1)), (3, .inl (.int v3)), (4, .inl (.int v4)), (6, .inl (.int v6)), (7, .inl (.int v7))]) hC 9 7 (by decide) (1 : Int32) rfl rfl (fun v => rfl) dX6_flushed_153 (fun v9_26 => ?_)
      refine z_goto (pc := 156) hC 125 rfl dX6_flushed_156 ?_
      exact z_sub [2, 3, 4, 5, 6, 7, 1, 0] rfl (ih v1 v3 v4 v6 v7 v8_25 v9_26 d24)
theorem r_Mo_flushed_79 {C : Cxt} {G : Geo} {M : Mem} {k : Nat} (hC : Cx C cX6_flushed 11 "FrameHeirsModel" (some .int) rm_X6_flushed G) (hk : LMo G k) (v1 : Int32) (v3 : Int32) (v4 : Int32) (v5 : Int32) (v6 : Int32) (d : Sl) : Rz C 11 G (setS M k) (poM avI (setS M k)) 79 [(0, .inr (k, 34)), (1, .inl (.int v1)), (3, .inl (.int v3)), (4, .inl (.int v4)), (5, .inl (.int v5)), (6, .inl (.int v6))] [] d (Mo_flushed_79 v1 v3 v4 v5 v6 d) := by
  unfold Mo_flushed_79
  refine z_aload_n (pc := 79) hC 0 rfl 0 rfl dX6_flushed_79 ?_
  refine z_sipush (pc := 80) hC (1944 : Int32) rfl dX6_flushed_80 ?_
  refine z_piV (pc := 83) (st := []) hC y_X6_of q1262 [.inl (.int (1944 : Int32))] rfl (hk 34 rfl) rfl rfl (c_X6_of hC.2.2.2.2.2.2.1 hk) rfl ⟨rfl, rfl, (Nat.le_of_ble_eq_true rfl), (Nat.le_of_ble_eq_true rfl)⟩ (Nat.le_of_ble_eq_true rfl) dX6_flushed_83 (fun r27 => ?_)
  refine z_bipush (pc := 86) hC (6 : Int32) rfl dX6_flushed_86 ?_
  refine z_icmp_ne (pc := 88) hC 94 rfl dX6_flushed_88 ?_ ?_
  · refine z_aload_n (pc := 94) hC 0 rfl 0 rfl dX6_flushed_94 ?_
    refine z_iload_n (pc := 95) hC 1 rfl 1 rfl dX6_flushed_95 ?_
    refine z_iload (pc := 96) hC 6 5 rfl dX6_flushed_96 ?_
    refine z_iload (pc := 98) hC 5 4 rfl dX6_flushed_98 ?_
    refine z_cvV (pc := 100) (st := []) hC y_X6_cuts q1572 [.inl (.int v1), .inl (.int v6), .inl (.int v5)] rfl (hk 34 rfl) rfl rfl (c_X6_cuts hC.2.2.2.2.2.2.1 hk) rfl ⟨rfl, rfl, (Nat.le_of_ble_eq_true rfl), (Nat.le_of_ble_eq_true rfl)⟩ (Nat.le_of_ble_eq_true rfl) dX6_flushed_100 (fun r28 d29 => ?_)
    refine z_aload_n (pc := 103) hC 0 rfl 0 rfl dX6_flushed_103 ?_
    refine z_iload_n (pc := 104) hC 1 rfl 1 rfl dX6_flushed_104 ?_
    refine z_iload (pc := 105) hC 6 5 rfl dX6_flushed_105 ?_
    refine z_iload (pc := 107) hC 5 4 rfl dX6_flushed_107 ?_
    refine z_cvV (pc := 109) (st := []) hC y_X6_looks q1508 [.inl (.int v1), .inl (.int v6), .inl (.int v5)] rfl (hk 34 rfl) rfl rfl (c_X6_looks hC.2.2.2.2.2.2.1 hk) rfl ⟨rfl, rfl, (Nat.le_of_ble_eq_true rfl), (Nat.le_of_ble_eq_true rfl)⟩ (Nat.le_of_ble_eq_true rfl) dX6_flushed_109 (fun r30 d31 => ?_)
    refine z_aload_n (pc := 112) hC 0 rfl 0 rfl dX6_flushed_112 ?_
    refine z_piV (pc := 113) (st := []) hC y_X6_pendingMany q1612 [] rfl (hk 34 rfl) rfl rfl (c_X6_pendingMany hC.2.2.2.2.2.2.1 hk) rfl ⟨rfl, rfl, (Nat.le_of_ble_eq_true rfl), (Nat.le_of_ble_eq_true rfl)⟩ (Nat.le_of_ble_eq_true rfl) dX6_flushed_113 (fun r32 => ?_)
    refine z_istore (pc := 116) (ls1 := fun v => [(7, .inl (.int v)), (0, .inr (k, 34)), (1, .inl (.int v1)), (3, .inl (.int v3)), (4, .inl (.int v4)), (5, .inl (.int v5)), (6, .inl (.int v6))]) hC 7 (by decide) (fun v => rfl) dX6_flushed_116 (fun v7_33 => ?_)
    refine z_iload (pc := 118) hC 7 0 rfl dX6_flushed_118 ?_
    refine z_istore (pc := 120) (ls1 := fun v => [(8, .inl (.int v)), (7, .inl (.int v7_33)), (0, .inr (k, 34)), (1, .inl (.int v1)), (3, .inl (.int v3)), (4, .inl (.int v4)), (5, .inl (.int v5)), (6, .inl (.int v6))]) hC 8 (by decide) (fun v => rfl) dX6_flushed_120 (fun v8_34 => ?_)
    refine z_iconst (pc := 122) hC (0 : Int32) rfl dX6_flushed_122 ?_
    refine z_istore (pc := 123) (ls1 := fun v => [(9, .inl (.int v)), (8, .inl (.int v8_34)), (7, .inl (.int v7_33)), (0, .inr (k, 34)), (1, .inl (.int v1)), (3, .inl (.int v3)), (4, .inl (.int v4)), (5, .inl (.int v5)), (6, .inl (.int v6))]) hC 9 (by decide) (fun v => rfl) dX6_flushed_123 (fun v9_35 => ?_)
    exact z_sub [3, 4, 5, 6, 8, 2, 1, 0] rfl (r_Mo_flushed_125 hC hk FU v1 v3 v4 v6 v7_33 v8_34 v9_35 d31)
  · refine z_bipush (pc := 91) hC (-5 : Int32) rfl dX6_flushed_91 ?_
    exact z_iret (pc := 93) hC rfl dX6_flushed_93
theorem r_Mo_flushed_42 {C : Cxt} {G : Geo} {M : Mem} {k : Nat} (hC : Cx C cX6_flushed 11 "FrameHeirsModel" (some .int) rm_X6_flushed G) (hk : LMo G k) : ∀ (n : Nat) (v1 : Int32) (v3 : Int32) (v4 : Int32) (v5 : Int32) (v6 : Int32) (v7 : Int32) (d : Sl), Rz C 11 G (setS M k) (poM avI (setS M k)) 42 [(0, .inr (k, 34)), (1, .inl (.int v1)), (3, .inl (.int v3)), (4, .inl (.int v4)), (5, .inl (.int v5)), (6, .inl (.int v6)), (7, .inl (.int v7))] [] d (Mo_flushed_42 n v1 v3 v4 v5 v6 v7 d) := by
  intro n
  induction n with
  | zero => intros; exact z_none
  | succ n ih =>
    intro v1 v3 v4 v5 v6 v7 d
    rw [Mo_flushed_42]
    refine z_iload (pc := 42) hC 7 6 rfl dX6_flushed_42 ?_
    refine z_aload_n (pc := 44) hC 0 rfl 0 rfl dX6_flushed_44 ?_
    refine zs_geti (pc := 45) hC (hk 34 rfl) f_34_30 q1300 dX6_flushed_45 ?_
    refine z_icmp_ge (pc := 48) hC 79 rfl dX6_flushed_48 ?_ ?_
    · exact z_sub [0, 1, 2, 3, 4, 5] rfl (r_Mo_flushed_79 hC hk v1 v3 v4 v5 v6 d)
    · refine z_iload (pc := 51) hC 4 3 rfl dX6_flushed_51 ?_
      refine z_if_eq (pc := 53) hC 79 rfl dX6_flushed_53 ?_ ?_
      · exact z_sub [0, 1, 2, 3, 4, 5] rfl (r_Mo_flushed_79 hC hk v1 v3 v4 v5 v6 d)
      · refine z_aload_n (pc := 56) hC 0 rfl 0 rfl dX6_flushed_56 ?_
        refine z_aload_n (pc := 57) hC 0 rfl 0 rfl dX6_flushed_57 ?_
        refine z_getc (pc := 58) hC (hk 34 rfl) f_34_29 q1299 dX6_flushed_58 ?_
        refine z_iload (pc := 61) hC 7 6 rfl dX6_flushed_61 ?_
        refine zs_iald (pc := 63) hC (hk 47 rfl) rfl dX6_flushed_63 ?_
        refine z_piV (pc := 64) (st := []) hC y_X6_giverOf q1532 [.inl (.int (d 47 (ix v7)))] rfl (hk 34 rfl) rfl rfl (c_X6_giverOf hC.2.2.2.2.2.2.1 hk) rfl ⟨rfl, rfl, (Nat.le_of_ble_eq_true rfl), (Nat.le_of_ble_eq_true rfl)⟩ (Nat.le_of_ble_eq_true rfl) dX6_flushed_64 (fun r36 => ?_)
        refine z_if_ge (pc := 67) hC 73 rfl dX6_flushed_67 ?_ ?_
        · refine z_iinc (pc := 73) (ls1 := fun v => [(7, .inl (.int v)), (0, .inr (k, 34)), (1, .inl (.int v1)), (3, .inl (.int v3)), (4, .inl (.int v4)), (5, .inl (.int v5)), (6, .inl (.int v6))]) hC 7 6 (by decide) (1 : Int32) rfl rfl (fun v => rfl) dX6_flushed_73 (fun v7_37 => ?_)
          refine z_goto (pc := 76) hC 42 rfl dX6_flushed_76 ?_
          exact z_sub [1, 2, 3, 4, 5, 6, 0] rfl (ih v1 v3 v4 v5 v6 v7_37 d)
        · refine z_bipush (pc := 70) hC (-4 : Int32) rfl dX6_flushed_70 ?_
          exact z_iret (pc := 72) hC rfl dX6_flushed_72
theorem r_Mo_flushed {C : Cxt} {G : Geo} {M : Mem} {k : Nat} (hC : Cx C cX6_flushed 11 "FrameHeirsModel" (some .int) rm_X6_flushed G) (hk : LMo G k) (d : Sl) (a1 : Int32) (a2 : Int32) (a3 : Int32) (a4 : Int32) : Rz C 11 G (setS M k) (poM avI (setS M k)) 0 [(0, .inr (k, 34)), (1, .inl (.int a1)), (2, .inl (.int a2)), (3, .inl (.int a3)), (4, .inl (.int a4))] [] d (Mo_flushed d a1 a2 a3 a4) := by
  unfold Mo_flushed
  refine z_iload_n (pc := 0) hC 2 rfl 2 rfl dX6_flushed_0 ?_
  refine z_iconst (pc := 1) hC (4 : Int32) rfl dX6_flushed_1 ?_
  refine z_irem (pc := 2) hC dX6_flushed_2 ?_
  refine z_istore (pc := 3) (ls1 := fun v => [(5, .inl (.int v)), (0, .inr (k, 34)), (1, .inl (.int a1)), (2, .inl (.int a2)), (3, .inl (.int a3)), (4, .inl (.int a4))]) hC 5 (by decide) (fun v => rfl) dX6_flushed_3 (fun v5_38 => ?_)
  refine z_iload_n (pc := 5) hC 2 rfl 3 rfl dX6_flushed_5 ?_
  refine z_iconst (pc := 6) hC (4 : Int32) rfl dX6_flushed_6 ?_
  refine z_idiv (pc := 7) hC dX6_flushed_7 ?_
  refine z_istore (pc := 8) (ls1 := fun v => [(6, .inl (.int v)), (5, .inl (.int v5_38)), (0, .inr (k, 34)), (1, .inl (.int a1)), (2, .inl (.int a2)), (3, .inl (.int a3)), (4, .inl (.int a4))]) hC 6 (by decide) (fun v => rfl) dX6_flushed_8 (fun v6_39 => ?_)
  refine z_aload_n (pc := 10) hC 0 rfl 2 rfl dX6_flushed_10 ?_
  refine z_iload_n (pc := 11) hC 1 rfl 3 rfl dX6_flushed_11 ?_
  refine z_iload (pc := 12) hC 6 0 rfl dX6_flushed_12 ?_
  refine z_iload (pc := 14) hC 5 1 rfl dX6_flushed_14 ?_
  refine z_cvV (pc := 16) (st := []) hC y_X6_looks q1508 [.inl (.int a1), .inl (.int v6_39), .inl (.int v5_38)] rfl (hk 34 rfl) rfl rfl (c_X6_looks hC.2.2.2.2.2.2.1 hk) rfl ⟨rfl, rfl, (Nat.le_of_ble_eq_true rfl), (Nat.le_of_ble_eq_true rfl)⟩ (Nat.le_of_ble_eq_true rfl) dX6_flushed_16 (fun r40 d41 => ?_)
  refine z_aload_n (pc := 19) hC 0 rfl 2 rfl dX6_flushed_19 ?_
  refine zs_geti (pc := 20) hC (hk 34 rfl) f_34_30 q1300 dX6_flushed_20 ?_
  refine z_if_ne (pc := 23) hC 29 rfl dX6_flushed_23 ?_ ?_
  · refine z_aload_n (pc := 29) hC 0 rfl 2 rfl dX6_flushed_29 ?_
    refine z_piV (pc := 30) (st := []) hC y_X6_isBusyBelowThere q1560 [] rfl (hk 34 rfl) rfl rfl (c_X6_isBusyBelowThere hC.2.2.2.2.2.2.1 hk) rfl ⟨rfl, rfl, (Nat.le_of_ble_eq_true rfl), (Nat.le_of_ble_eq_true rfl)⟩ (Nat.le_of_ble_eq_true rfl) dX6_flushed_30 (fun r42 => ?_)
    refine z_if_eq (pc := 33) hC 39 rfl dX6_flushed_33 ?_ ?_
    · refine z_iconst (pc := 39) hC (0 : Int32) rfl dX6_flushed_39 ?_
      refine z_istore (pc := 40) (ls1 := fun v => [(7, .inl (.int v)), (6, .inl (.int v6_39)), (5, .inl (.int v5_38)), (0, .inr (k, 34)), (1, .inl (.int a1)), (2, .inl (.int a2)), (3, .inl (.int a3)), (4, .inl (.int a4))]) hC 7 (by decide) (fun v => rfl) dX6_flushed_40 (fun v7_43 => ?_)
      exact z_sub [3, 4, 6, 7, 2, 1, 0] rfl (r_Mo_flushed_42 hC hk FU a1 a3 a4 v5_38 v6_39 v7_43 d41)
    · refine z_bipush (pc := 36) hC (-3 : Int32) rfl dX6_flushed_36 ?_
      exact z_iret (pc := 38) hC rfl dX6_flushed_38
  · refine z_bipush (pc := 26) hC (-2 : Int32) rfl dX6_flushed_26 ?_
    exact z_iret (pc := 28) hC rfl dX6_flushed_28
theorem c_X6_flushed {G : Geo} {M : Mem} {k : Nat} (hG : GOk G) (hk : LMo G k) {d : Sl} {a1 : Int32} {a2 : Int32} {a3 : Int32} {a4 : Int32} (l : Launch) (r : Int32) (d1 : Sl) (h : Mo_flushed d a1 a2 a3 a4 = some (r, d1)) : Mt l yX6_flushed cX6_flushed 11 (some .int) rm_X6_flushed G [.inr (k, 34), .inl (.int a1), .inl (.int a2), .inl (.int a3), .inl (.int a4)] ((setS M k) d) (avI r) ((setS M k) d1) :=
  mt_of (mem := (setS M k)) (po := poM avI (setS M k)) (x0 := d) (t := (r, d1)) rfl hG [.inr (k, 34), .inl (.int a1), .inl (.int a2), .inl (.int a3), .inl (.int a4)] (Nat.le_of_ble_eq_true rfl) rfl (fun C hC => r_Mo_flushed hC hk d a1 a2 a3 a4) h
-- FrameHeirsModel.flush(IIIZ)I
abbrev rm_X6_flush : Room := { frames := 7, cells := 0, slots := 0, locals := 181 }
theorem dX6_flush_0 : decode cX6_flush 0 = .ok (.aload_n 0, 1) := by decide +kernel
theorem dX6_flush_1 : decode cX6_flush 1 = .ok (.iconst 0, 1) := by decide +kernel
theorem dX6_flush_2 : decode cX6_flush 2 = .ok (.putfield 61, 3) := by decide +kernel
theorem dX6_flush_5 : decode cX6_flush 5 = .ok (.aload_n 0, 1) := by decide +kernel
theorem dX6_flush_6 : decode cX6_flush 6 = .ok (.iload_n 1, 1) := by decide +kernel
theorem dX6_flush_7 : decode cX6_flush 7 = .ok (.invokevirtual 264, 3) := by decide +kernel
theorem dX6_flush_10 : decode cX6_flush 10 = .ok (.ifCond .eq 21, 3) := by decide +kernel
theorem dX6_flush_13 : decode cX6_flush 13 = .ok (.aload_n 0, 1) := by decide +kernel
theorem dX6_flush_14 : decode cX6_flush 14 = .ok (.iload_n 2, 1) := by decide +kernel
theorem dX6_flush_15 : decode cX6_flush 15 = .ok (.invokevirtual 267, 3) := by decide +kernel
theorem dX6_flush_18 : decode cX6_flush 18 = .ok (.ifCond .eq 13, 3) := by decide +kernel
theorem dX6_flush_21 : decode cX6_flush 21 = .ok (.iload_n 3, 1) := by decide +kernel
theorem dX6_flush_22 : decode cX6_flush 22 = .ok (.iconst 1, 1) := by decide +kernel
theorem dX6_flush_23 : decode cX6_flush 23 = .ok (.bipush 7, 2) := by decide +kernel
theorem dX6_flush_25 : decode cX6_flush 25 = .ok (.invokestatic 137, 3) := by decide +kernel
theorem dX6_flush_28 : decode cX6_flush 28 = .ok (.ifCond .ne 5, 3) := by decide +kernel
theorem dX6_flush_31 : decode cX6_flush 31 = .ok (.iconst (-1), 1) := by decide +kernel
theorem dX6_flush_32 : decode cX6_flush 32 = .ok (.ireturn, 1) := by decide +kernel
theorem dX6_flush_33 : decode cX6_flush 33 = .ok (.aload_n 0, 1) := by decide +kernel
theorem dX6_flush_34 : decode cX6_flush 34 = .ok (.invokevirtual 289, 3) := by decide +kernel
theorem dX6_flush_37 : decode cX6_flush 37 = .ok (.aload_n 0, 1) := by decide +kernel
theorem dX6_flush_38 : decode cX6_flush 38 = .ok (.iload_n 1, 1) := by decide +kernel
theorem dX6_flush_39 : decode cX6_flush 39 = .ok (.iload_n 2, 1) := by decide +kernel
theorem dX6_flush_40 : decode cX6_flush 40 = .ok (.iload_n 3, 1) := by decide +kernel
theorem dX6_flush_41 : decode cX6_flush 41 = .ok (.iload 4, 2) := by decide +kernel
theorem dX6_flush_43 : decode cX6_flush 43 = .ok (.invokevirtual 319, 3) := by decide +kernel
theorem dX6_flush_46 : decode cX6_flush 46 = .ok (.ireturn, 1) := by decide +kernel
def Mo_flush (d : Sl) (a1 : Int32) (a2 : Int32) (a3 : Int32) (a4 : Int32) : Option (Int32 × Sl) :=
  bnd (wr d 34 2 (0 : Int32)) fun d1 =>
  bp (Mo_isSpace d1 a1) fun r2 =>
  if r2 = 0 then
    (some ((-1 : Int32), d1))
  else
    (bp (Mo_isRegion d1 a2) fun r3 =>
    if r3 = 0 then
      (some ((-1 : Int32), d1))
    else
      (bp (Mo_isIn a3 (1 : Int32) (7 : Int32)) fun r4 =>
      if r4 = 0 then
        (some ((-1 : Int32), d1))
      else
        (bd (Mo_canUndo d1) fun r5 d6 =>
        bd (Mo_flushed d6 a1 a2 a3 a4) fun r7 d8 =>
        some (r7, d8))))
theorem y_X6_flush : YV yX6_flush cX6_flush 5 (some .int) 4 := ⟨q1605, q1606, q1607, q149, by decide +kernel, by decide +kernel, by decide +kernel, by decide +kernel⟩
theorem r_Mo_flush {C : Cxt} {G : Geo} {M : Mem} {k : Nat} (hC : Cx C cX6_flush 5 "FrameHeirsModel" (some .int) rm_X6_flush G) (hk : LMo G k) (d : Sl) (a1 : Int32) (a2 : Int32) (a3 : Int32) (a4 : Int32) : Rz C 5 G (setS M k) (poM avI (setS M k)) 0 [(0, .inr (k, 34)), (1, .inl (.int a1)), (2, .inl (.int a2)), (3, .inl (.int a3)), (4, .inl (.int a4))] [] d (Mo_flush d a1 a2 a3 a4) := by
  unfold Mo_flush
  refine z_aload_n (pc := 0) hC 0 rfl 0 rfl dX6_flush_0 ?_
  refine z_iconst (pc := 1) hC (0 : Int32) rfl dX6_flush_1 ?_
  refine zs_puti (pc := 2) hC (hk 34 rfl) f_34_2 q1272 dX6_flush_2 (fun d1 => ?_)
  refine z_aload_n (pc := 5) hC 0 rfl 0 rfl dX6_flush_5 ?_
  refine z_iload_n (pc := 6) hC 1 rfl 1 rfl dX6_flush_6 ?_
  refine z_piV (pc := 7) (st := []) hC y_X6_isSpace q1484 [.inl (.int a1)] rfl (hk 34 rfl) rfl rfl (c_X6_isSpace hC.2.2.2.2.2.2.1 hk) rfl ⟨rfl, rfl, (Nat.le_of_ble_eq_true rfl), (Nat.le_of_ble_eq_true rfl)⟩ (Nat.le_of_ble_eq_true rfl) dX6_flush_7 (fun r2 => ?_)
  refine z_if_eq (pc := 10) hC 31 rfl dX6_flush_10 ?_ ?_
  · refine z_iconst (pc := 31) hC (-1 : Int32) rfl dX6_flush_31 ?_
    exact z_iret (pc := 32) hC rfl dX6_flush_32
  · refine z_aload_n (pc := 13) hC 0 rfl 0 rfl dX6_flush_13 ?_
    refine z_iload_n (pc := 14) hC 2 rfl 2 rfl dX6_flush_14 ?_
    refine z_piV (pc := 15) (st := []) hC y_X6_isRegion q1488 [.inl (.int a2)] rfl (hk 34 rfl) rfl rfl (c_X6_isRegion hC.2.2.2.2.2.2.1 hk) rfl ⟨rfl, rfl, (Nat.le_of_ble_eq_true rfl), (Nat.le_of_ble_eq_true rfl)⟩ (Nat.le_of_ble_eq_true rfl) dX6_flush_15 (fun r3 => ?_)
    refine z_if_eq (pc := 18) hC 31 rfl dX6_flush_18 ?_ ?_
    · refine z_iconst (pc := 31) hC (-1 : Int32) rfl dX6_flush_31 ?_
      exact z_iret (pc := 32) hC rfl dX6_flush_32
    · refine z_iload_n (pc := 21) hC 3 rfl 3 rfl dX6_flush_21 ?_
      refine z_iconst (pc := 22) hC (1 : Int32) rfl dX6_flush_22 ?_
      refine z_bipush (pc := 23) hC (7 : Int32) rfl dX6_flush_23 ?_
      refine z_piS (pc := 25) (st := []) hC y_X6_isIn q1429 [.inl (.int a3), .inl (.int (1 : Int32)), .inl (.int (7 : Int32))] rfl (c_X6_isIn hC.2.2.2.2.2.2.1) rfl ⟨rfl, rfl, (Nat.le_of_ble_eq_true rfl), (Nat.le_of_ble_eq_true rfl)⟩ (Nat.le_of_ble_eq_true rfl) dX6_flush_25 (fun r4 => ?_)
      refine z_if_ne (pc := 28) hC 33 rfl dX6_flush_28 ?_ ?_
      · refine z_aload_n (pc := 33) hC 0 rfl 0 rfl dX6_flush_33 ?_
        refine z_cvV (pc := 34) (st := []) hC y_X6_canUndo q1500 [] rfl (hk 34 rfl) rfl rfl (c_X6_canUndo hC.2.2.2.2.2.2.1 hk) rfl ⟨rfl, rfl, (Nat.le_of_ble_eq_true rfl), (Nat.le_of_ble_eq_true rfl)⟩ (Nat.le_of_ble_eq_true rfl) dX6_flush_34 (fun r5 d6 => ?_)
        refine z_aload_n (pc := 37) hC 0 rfl 0 rfl dX6_flush_37 ?_
        refine z_iload_n (pc := 38) hC 1 rfl 1 rfl dX6_flush_38 ?_
        refine z_iload_n (pc := 39) hC 2 rfl 2 rfl dX6_flush_39 ?_
        refine z_iload_n (pc := 40) hC 3 rfl 3 rfl dX6_flush_40 ?_
        refine z_iload (pc := 41) hC 4 4 rfl dX6_flush_41 ?_
        refine z_ciV (pc := 43) (st := []) hC y_X6_flushed q1608 [.inl (.int a1), .inl (.int a2), .inl (.int a3), .inl (.int a4)] rfl (hk 34 rfl) rfl rfl (c_X6_flushed hC.2.2.2.2.2.2.1 hk) rfl ⟨rfl, rfl, (Nat.le_of_ble_eq_true rfl), (Nat.le_of_ble_eq_true rfl)⟩ (Nat.le_of_ble_eq_true rfl) dX6_flush_43 (fun r7 d8 => ?_)
        exact z_iret (pc := 46) hC rfl dX6_flush_46
      · refine z_iconst (pc := 31) hC (-1 : Int32) rfl dX6_flush_31 ?_
        exact z_iret (pc := 32) hC rfl dX6_flush_32
theorem c_X6_flush {G : Geo} {M : Mem} {k : Nat} (hG : GOk G) (hk : LMo G k) {d : Sl} {a1 : Int32} {a2 : Int32} {a3 : Int32} {a4 : Int32} (l : Launch) (r : Int32) (d1 : Sl) (h : Mo_flush d a1 a2 a3 a4 = some (r, d1)) : Mt l yX6_flush cX6_flush 5 (some .int) rm_X6_flush G [.inr (k, 34), .inl (.int a1), .inl (.int a2), .inl (.int a3), .inl (.int a4)] ((setS M k) d) (avI r) ((setS M k) d1) :=
  mt_of (mem := (setS M k)) (po := poM avI (setS M k)) (x0 := d) (t := (r, d1)) rfl hG [.inr (k, 34), .inl (.int a1), .inl (.int a2), .inl (.int a3), .inl (.int a4)] (Nat.le_of_ble_eq_true rfl) rfl (fun C hC => r_Mo_flush hC hk d a1 a2 a3 a4) h
