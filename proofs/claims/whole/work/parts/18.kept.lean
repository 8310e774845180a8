-- keep
abbrev rm_X5_keep : Room := { frames := 3, cells := KC, slots := KS, locals := 64 }
theorem dX5_keep_0 : decode cX5_keep 0 = .ok (.iload_n 1, 1) := by decide +kernel
theorem dX5_keep_1 : decode cX5_keep 1 = .ok (.iconst (-1), 1) := by decide +kernel
theorem dX5_keep_2 : decode cX5_keep 2 = .ok (.if_icmp .eq 80, 3) := by decide +kernel
theorem dX5_keep_5 : decode cX5_keep 5 = .ok (.aload_n 0, 1) := by decide +kernel
theorem dX5_keep_6 : decode cX5_keep 6 = .ok (.getfield 51, 3) := by decide +kernel
theorem dX5_keep_9 : decode cX5_keep 9 = .ok (.aload_n 0, 1) := by decide +kernel
theorem dX5_keep_10 : decode cX5_keep 10 = .ok (.getfield 55, 3) := by decide +kernel
theorem dX5_keep_13 : decode cX5_keep 13 = .ok (.aaload, 1) := by decide +kernel
theorem dX5_keep_14 : decode cX5_keep 14 = .ok (.astore_n 2, 1) := by decide +kernel
theorem dX5_keep_15 : decode cX5_keep 15 = .ok (.aload_n 0, 1) := by decide +kernel
theorem dX5_keep_16 : decode cX5_keep 16 = .ok (.getfield 51, 3) := by decide +kernel
theorem dX5_keep_19 : decode cX5_keep 19 = .ok (.aload_n 0, 1) := by decide +kernel
theorem dX5_keep_20 : decode cX5_keep 20 = .ok (.getfield 55, 3) := by decide +kernel
theorem dX5_keep_23 : decode cX5_keep 23 = .ok (.aload_n 0, 1) := by decide +kernel
theorem dX5_keep_24 : decode cX5_keep 24 = .ok (.getfield 45, 3) := by decide +kernel
theorem dX5_keep_27 : decode cX5_keep 27 = .ok (.aastore, 1) := by decide +kernel
theorem dX5_keep_28 : decode cX5_keep 28 = .ok (.aload_n 0, 1) := by decide +kernel
theorem dX5_keep_29 : decode cX5_keep 29 = .ok (.aload_n 2, 1) := by decide +kernel
theorem dX5_keep_30 : decode cX5_keep 30 = .ok (.ifnonnull 20, 3) := by decide +kernel
theorem dX5_keep_33 : decode cX5_keep 33 = .ok (.new 33, 3) := by decide +kernel
theorem dX5_keep_36 : decode cX5_keep 36 = .ok (.dup, 1) := by decide +kernel
theorem dX5_keep_37 : decode cX5_keep 37 = .ok (.aload_n 0, 1) := by decide +kernel
theorem dX5_keep_38 : decode cX5_keep 38 = .ok (.getfield 38, 3) := by decide +kernel
theorem dX5_keep_41 : decode cX5_keep 41 = .ok (.getfield 42, 3) := by decide +kernel
theorem dX5_keep_44 : decode cX5_keep 44 = .ok (.invokespecial 35, 3) := by decide +kernel
theorem dX5_keep_47 : decode cX5_keep 47 = .ok (.goto 4, 3) := by decide +kernel
theorem dX5_keep_50 : decode cX5_keep 50 = .ok (.aload_n 2, 1) := by decide +kernel
theorem dX5_keep_51 : decode cX5_keep 51 = .ok (.putfield 45, 3) := by decide +kernel
theorem dX5_keep_54 : decode cX5_keep 54 = .ok (.aload_n 0, 1) := by decide +kernel
theorem dX5_keep_55 : decode cX5_keep 55 = .ok (.aload_n 0, 1) := by decide +kernel
theorem dX5_keep_56 : decode cX5_keep 56 = .ok (.getfield 55, 3) := by decide +kernel
theorem dX5_keep_59 : decode cX5_keep 59 = .ok (.iconst 1, 1) := by decide +kernel
theorem dX5_keep_60 : decode cX5_keep 60 = .ok (.iadd, 1) := by decide +kernel
theorem dX5_keep_61 : decode cX5_keep 61 = .ok (.bipush 20, 2) := by decide +kernel
theorem dX5_keep_63 : decode cX5_keep 63 = .ok (.irem, 1) := by decide +kernel
theorem dX5_keep_64 : decode cX5_keep 64 = .ok (.putfield 55, 3) := by decide +kernel
theorem dX5_keep_67 : decode cX5_keep 67 = .ok (.aload_n 0, 1) := by decide +kernel
theorem dX5_keep_68 : decode cX5_keep 68 = .ok (.aload_n 0, 1) := by decide +kernel
theorem dX5_keep_69 : decode cX5_keep 69 = .ok (.getfield 58, 3) := by decide +kernel
theorem dX5_keep_72 : decode cX5_keep 72 = .ok (.iconst 1, 1) := by decide +kernel
theorem dX5_keep_73 : decode cX5_keep 73 = .ok (.iadd, 1) := by decide +kernel
theorem dX5_keep_74 : decode cX5_keep 74 = .ok (.bipush 20, 2) := by decide +kernel
theorem dX5_keep_76 : decode cX5_keep 76 = .ok (.invokestatic 307, 3) := by decide +kernel
theorem dX5_keep_79 : decode cX5_keep 79 = .ok (.putfield 58, 3) := by decide +kernel
theorem dX5_keep_82 : decode cX5_keep 82 = .ok (.iload_n 1, 1) := by decide +kernel
theorem dX5_keep_83 : decode cX5_keep 83 = .ok (.ireturn, 1) := by decide +kernel
def Fh_keep (n0 : Nat) (d : Mem) (v1 : Int32) : Option (Int32 × Nat × Mem) :=
  if v1 = (-1 : Int32) then
    (some (v1, n0, d))
  else
    (if inb (d 0 0 8) 20 then
    oref (d 0 3 (ix (d 0 0 8)))
      (gref (d 0 0 5) fun u2 =>
      if inb (d 0 0 8) 20 then
      bnd (wrM d 0 3 (ix (d 0 0 8)) (nI u2)) fun d3 =>
      if n0 < 1000 then
      bnd (wrAM d3 n0 61 (rini cs61)) fun d5 =>
      gref (d5 0 0 4) fun u6 =>
      gref (d5 u6 10 0) fun u7 =>
      bd (Wo_init n0 u7 d5) fun _ d10 =>
      bnd (wrM d10 0 0 5 (nI n0)) fun d11 =>
      if ¬ (20 : Int32) = 0 then
      bnd (wrM d11 0 0 8 (((d11 0 0 8) + (1 : Int32)) - ((d11 0 0 8) + (1 : Int32)) / (20 : Int32) * (20 : Int32))) fun d12 =>
      bnd (wrM d12 0 0 9 (if (20 : Int32) < ((d12 0 0 9) + (1 : Int32)) then (20 : Int32) else ((d12 0 0 9) + (1 : Int32)))) fun d13 =>
      some (v1, n0 + 1, d13)
      else none
      else none
      else none) fun u1 =>
    gref (d 0 0 5) fun u14 =>
    if inb (d 0 0 8) 20 then
    bnd (wrM d 0 3 (ix (d 0 0 8)) (nI u14)) fun d15 =>
    bnd (wrM d15 0 0 5 (nI u1)) fun d16 =>
    if ¬ (20 : Int32) = 0 then
    bnd (wrM d16 0 0 8 (((d16 0 0 8) + (1 : Int32)) - ((d16 0 0 8) + (1 : Int32)) / (20 : Int32) * (20 : Int32))) fun d17 =>
    bnd (wrM d17 0 0 9 (if (20 : Int32) < ((d17 0 0 9) + (1 : Int32)) then (20 : Int32) else ((d17 0 0 9) + (1 : Int32)))) fun d18 =>
    some (v1, n0, d18)
    else none
    else none
    else none)
theorem y_X5_keep : YV yX5_keep cX5_keep 3 (some .int) 1 := ⟨q707, q21, q708, q143, by decide +kernel, by decide +kernel, by decide +kernel, by decide +kernel⟩
theorem r_Fh_keep {C : Cxt} {G : Geo} {n0 : Nat} (hC : Cx C cX5_keep 3 "FrameHeirs" (some .int) rm_X5_keep G) (hX0 : GX G n0) (hn2 : 2 ≤ n0) (d : Mem) (v1 : Int32) : Rg C 3 G 0 0 gm (QXm C G) 0 [(0, .inr (0, 0)), (1, .inl (.int v1))] [] d (Fh_keep n0 d v1) := by
  have hcl := hX0.cl
  have hX := hX0.X
  have hn := GX.nl hX0 hn2 (S := [10, 11, 12, 13, 14, 15, 16, 17, 18, 19, 20, 21, 22, 23, 24, 25, 26, 27, 28, 29, 30, 31, 32, 33, 61, 62]) (by decide)
  unfold Fh_keep
  refine z_iload_n (pc := 0) hC 1 rfl 1 rfl dX5_keep_0 ?_
  refine z_iconst (pc := 1) hC (-1 : Int32) rfl dX5_keep_1 ?_
  refine z_icmp_eq (pc := 2) hC 82 rfl dX5_keep_2 ?_ ?_
  · refine z_iload_n (pc := 82) hC 1 rfl 1 rfl dX5_keep_82 ?_
    exact zx_iret (pc := 83) hC GE.refl' (fun _ h => absurd h List.not_mem_nil) hX0 (by decide +kernel) (by decide +kernel) dX5_keep_83
  · refine z_aload_n (pc := 5) hC 0 rfl 0 rfl dX5_keep_5 ?_
    refine z_getc (pc := 6) hC (hX 0 rfl) f_0_7 q438 dX5_keep_6 ?_
    refine z_aload_n (pc := 9) hC 0 rfl 0 rfl dX5_keep_9 ?_
    refine zg_geti (pc := 10) hC (hX 0 rfl) f_0_8 q439 dX5_keep_10 ?_
    refine zg_aald (pc := 13) hC hcl (hX 3 rfl) rfl dX5_keep_13 ?_ (fun u1 hu1 gu1 => ?_)
    · refine z_astore_nN (pc := 14) (ls1 := [(2, .inl .null), (0, .inr (0, 0)), (1, .inl (.int v1))]) hC 2 rfl (by decide) rfl dX5_keep_14 ?_
      refine z_aload_n (pc := 15) hC 0 rfl 1 rfl dX5_keep_15 ?_
      refine z_getc (pc := 16) hC (hX 0 rfl) f_0_7 q438 dX5_keep_16 ?_
      refine z_aload_n (pc := 19) hC 0 rfl 1 rfl dX5_keep_19 ?_
      refine zg_geti (pc := 20) hC (hX 0 rfl) f_0_8 q439 dX5_keep_20 ?_
      refine z_aload_n (pc := 23) hC 0 rfl 1 rfl dX5_keep_23 ?_
      refine zg_getr (pc := 24) hC (hX 0 rfl) f_0_5 q436 dX5_keep_24 (fun u2 hu2 => ?_)
      refine zg_aast (pc := 27) hC (hX 3 rfl) (by decide) hu2 rfl dX5_keep_27 (fun d3 => ?_)
      refine z_aload_n (pc := 28) hC 0 rfl 1 rfl dX5_keep_28 ?_
      refine z_aload_nN (pc := 29) hC 2 rfl 0 rfl dX5_keep_29 ?_
      refine z_ifnonnull_n (pc := 30) hC dX5_keep_30 ?_
      refine z_ite (fun hk3 => ?_) (fun _ => z_none)
      refine zg_new (pc := 33) (k := n0) (a := 61) (ty0 := tyX4) hC rfl rfl inwX4 tyX4_ok q278 q279 q146 df_61 no1_61 (hn 61 (by decide)) hk3 (Or.inr (by decide)) rfl (by decide +kernel) (by decide +kernel) dX5_keep_33 (fun Ge4 d5 e4 hC => ?_)
      refine z_dup (pc := 36) hC rfl dX5_keep_36 ?_
      refine z_aload_n (pc := 37) hC 0 rfl 1 rfl dX5_keep_37 ?_
      refine zg_getr (pc := 38) hC (e4.old (hX 0 rfl)) f_0_4 q435 dX5_keep_38 (fun u6 hu6 => ?_)
      refine zg_getr (pc := 41) hC hu6 f_10_0 q376 dX5_keep_41 (fun u7 hu7 => ?_)
      refine zk_init (pc := 44) (b := 10) (st := [.inr (n0, 61), .inr (0, 0)]) (ls1 := [(2, .inl .null), (0, .inr (0, 0)), (1, .inl (.int v1))]) (st1 := [.inr (n0, 10), .inr (0, 0)]) (L := [(n0, 16), (n0, 15), (n0, 14), (n0, 13), (n0, 12), (n0, 11), (n0, 17), (n0, 33), (n0, 32), (n0, 31), (n0, 30), (n0, 29), (n0, 28), (n0, 27), (n0, 26), (n0, 25), (n0, 24), (n0, 23), (n0, 22), (n0, 21), (n0, 20), (n0, 19), (n0, 18)]) hC yi_X4_init (Or.inl q280) [.inr (u7, 4)] rfl (c_X4_init hC.2.2.2.2.2.2.1 (k := n0) (e4.mem (by simp)) (NL.step (S := [10, 11, 12, 13, 14, 15, 16, 17, 18, 19, 20, 21, 22, 23, 24, 25, 26, 27, 28, 29, 30, 31, 32, 33, 61, 62]) (S1 := [10, 11, 12, 13, 14, 15, 16, 17, 18, 19, 20, 21, 22, 23, 24, 25, 26, 27, 28, 29, 30, 31, 32, 33, 62]) [61] e4 hn (by decide)) hk3 hu7) rfl (by decide) (by decide) (by simp) (by exact (List.forall_mem_cons.mpr ⟨⟨trivial, trivial⟩, (List.forall_mem_cons.mpr ⟨⟨(e4.old (hX 0 rfl)), ⟨fun h => absurd h (show ¬ ((0 : Nat)) = 61 by decide), (show ((0 : Nat)) ≠ 10 by decide)⟩⟩, (List.forall_mem_cons.mpr ⟨⟨trivial, trivial⟩, (fun _ h => absurd h List.not_mem_nil)⟩)⟩)⟩)) (by exact (List.forall_mem_cons.mpr ⟨⟨(e4.mem (by simp)), ⟨fun _ => rfl, (show ((61 : Nat)) ≠ 10 by decide)⟩⟩, (List.forall_mem_cons.mpr ⟨⟨(e4.old (hX 0 rfl)), ⟨fun h => absurd h (show ¬ ((0 : Nat)) = 61 by decide), (show ((0 : Nat)) ≠ 10 by decide)⟩⟩, (fun _ h => absurd h List.not_mem_nil)⟩)⟩)) rfl rfl ⟨rfl, rfl, (Nat.le_of_ble_eq_true rfl), (Nat.le_of_ble_eq_true rfl)⟩ ⟨(by decide +kernel), (by decide +kernel)⟩ (Nat.le_of_ble_eq_true rfl) dX5_keep_44 (fun Gh8 d10 h8 hC => ?_)
      have e9 : GE _ _ _ [(n0, 10), (n0, 16), (n0, 15), (n0, 14), (n0, 13), (n0, 12), (n0, 11), (n0, 17), (n0, 33), (n0, 32), (n0, 31), (n0, 30), (n0, 29), (n0, 28), (n0, 27), (n0, 26), (n0, 25), (n0, 24), (n0, 23), (n0, 22), (n0, 21), (n0, 20), (n0, 19), (n0, 18)] := GEL.ge e4 h8 (by simp)
      refine z_goto (pc := 47) hC 51 rfl dX5_keep_47 ?_
      refine zg_putr (pc := 51) (cn := "FrameHeirs$World") hC (e9.old (hX 0 rfl)) (e9.mem (by simp)) f_0_5 q436 (by decide +kernel) dX5_keep_51 (fun d11 => ?_)
      refine z_aload_n (pc := 54) hC 0 rfl 1 rfl dX5_keep_54 ?_
      refine z_aload_n (pc := 55) hC 0 rfl 1 rfl dX5_keep_55 ?_
      refine zg_geti (pc := 56) hC (e9.old (hX 0 rfl)) f_0_8 q439 dX5_keep_56 ?_
      refine z_iconst (pc := 59) hC (1 : Int32) rfl dX5_keep_59 ?_
      refine z_iadd (pc := 60) hC dX5_keep_60 ?_
      refine z_bipush (pc := 61) hC (20 : Int32) rfl dX5_keep_61 ?_
      refine z_irem (pc := 63) hC dX5_keep_63 ?_
      refine zg_puti (pc := 64) hC (e9.old (hX 0 rfl)) f_0_8 q439 dX5_keep_64 (fun d12 => ?_)
      refine z_aload_n (pc := 67) hC 0 rfl 1 rfl dX5_keep_67 ?_
      refine z_aload_n (pc := 68) hC 0 rfl 1 rfl dX5_keep_68 ?_
      refine zg_geti (pc := 69) hC (e9.old (hX 0 rfl)) f_0_9 q440 dX5_keep_69 ?_
      refine z_iconst (pc := 72) hC (1 : Int32) rfl dX5_keep_72 ?_
      refine z_iadd (pc := 73) hC dX5_keep_73 ?_
      refine z_bipush (pc := 74) hC (20 : Int32) rfl dX5_keep_74 ?_
      refine zx_min (pc := 76) hC q709 q479 q150 q480 (Nat.le_of_ble_eq_true rfl) (Nat.le_of_ble_eq_true rfl) (by decide +kernel) (by decide +kernel) dX5_keep_76 ?_
      refine zg_puti (pc := 79) hC (e9.old (hX 0 rfl)) f_0_9 q440 dX5_keep_79 (fun d13 => ?_)
      refine z_iload_n (pc := 82) hC 1 rfl 2 rfl dX5_keep_82 ?_
      exact zx_iret (pc := 83) hC e9 (by simp) (GX.step hX0 hn2 e9 (fun k a => by simp only [List.mem_cons, Prod.mk.injEq, List.not_mem_nil, or_false]; omega)) (by decide +kernel) (by decide +kernel) dX5_keep_83
    · refine z_astore_n (pc := 14) (ls1 := [(2, .inr (u1, 10)), (0, .inr (0, 0)), (1, .inl (.int v1))]) hC 2 rfl (by decide) rfl dX5_keep_14 ?_
      refine z_aload_n (pc := 15) hC 0 rfl 1 rfl dX5_keep_15 ?_
      refine z_getc (pc := 16) hC (hX 0 rfl) f_0_7 q438 dX5_keep_16 ?_
      refine z_aload_n (pc := 19) hC 0 rfl 1 rfl dX5_keep_19 ?_
      refine zg_geti (pc := 20) hC (hX 0 rfl) f_0_8 q439 dX5_keep_20 ?_
      refine z_aload_n (pc := 23) hC 0 rfl 1 rfl dX5_keep_23 ?_
      refine zg_getr (pc := 24) hC (hX 0 rfl) f_0_5 q436 dX5_keep_24 (fun u14 hu14 => ?_)
      refine zg_aast (pc := 27) hC (hX 3 rfl) (by decide) hu14 rfl dX5_keep_27 (fun d15 => ?_)
      refine z_aload_n (pc := 28) hC 0 rfl 1 rfl dX5_keep_28 ?_
      refine z_aload_n (pc := 29) hC 2 rfl 0 rfl dX5_keep_29 ?_
      refine z_ifnonnull_r (pc := 30) hC 50 rfl dX5_keep_30 ?_
      refine z_aload_n (pc := 50) hC 2 rfl 0 rfl dX5_keep_50 ?_
      refine zg_putr (pc := 51) (cn := "FrameHeirs$World") hC (hX 0 rfl) (hu1 10 rfl) f_0_5 q436 (by decide +kernel) dX5_keep_51 (fun d16 => ?_)
      refine z_aload_n (pc := 54) hC 0 rfl 1 rfl dX5_keep_54 ?_
      refine z_aload_n (pc := 55) hC 0 rfl 1 rfl dX5_keep_55 ?_
      refine zg_geti (pc := 56) hC (hX 0 rfl) f_0_8 q439 dX5_keep_56 ?_
      refine z_iconst (pc := 59) hC (1 : Int32) rfl dX5_keep_59 ?_
      refine z_iadd (pc := 60) hC dX5_keep_60 ?_
      refine z_bipush (pc := 61) hC (20 : Int32) rfl dX5_keep_61 ?_
      refine z_irem (pc := 63) hC dX5_keep_63 ?_
      refine zg_puti (pc := 64) hC (hX 0 rfl) f_0_8 q439 dX5_keep_64 (fun d17 => ?_)
      refine z_aload_n (pc := 67) hC 0 rfl 1 rfl dX5_keep_67 ?_
      refine z_aload_n (pc := 68) hC 0 rfl 1 rfl dX5_keep_68 ?_
      refine zg_geti (pc := 69) hC (hX 0 rfl) f_0_9 q440 dX5_keep_69 ?_
      refine z_iconst (pc := 72) hC (1 : Int32) rfl dX5_keep_72 ?_
      refine z_iadd (pc := 73) hC dX5_keep_73 ?_
      refine z_bipush (pc := 74) hC (20 : Int32) rfl dX5_keep_74 ?_
      refine zx_min (pc := 76) hC q709 q479 q150 q480 (Nat.le_of_ble_eq_true rfl) (Nat.le_of_ble_eq_true rfl) (by decide +kernel) (by decide +kernel) dX5_keep_76 ?_
      refine zg_puti (pc := 79) hC (hX 0 rfl) f_0_9 q440 dX5_keep_79 (fun d18 => ?_)
      refine z_iload_n (pc := 82) hC 1 rfl 2 rfl dX5_keep_82 ?_
      exact zx_iret (pc := 83) hC GE.refl' (fun _ h => absurd h List.not_mem_nil) hX0 (by decide +kernel) (by decide +kernel) dX5_keep_83
theorem c_X5_keep {G : Geo} {n0 : Nat} (hG : GOk G) (hX0 : GX G n0) (hn2 : 2 ≤ n0) {d : Mem} {v1 : Int32} (l : Launch) (t : Int32 × Nat × Mem) (h : Fh_keep n0 d v1 = some t) : MtX l yX5_keep cX5_keep 3 rm_X5_keep G [.inr (0, 0), .inl (.int v1)] d t :=
  mtX_of rfl hG [.inr (0, 0), .inl (.int v1)] (Nat.le_of_ble_eq_true rfl) rfl (fun C hC => r_Fh_keep hC hX0 hn2 d v1) h
-- map
abbrev rm_X5_map : Room := { frames := 5, cells := KC, slots := KS, locals := 140 }
theorem dX5_map_0 : decode cX5_map 0 = .ok (.aload_n 0, 1) := by decide +kernel
theorem dX5_map_1 : decode cX5_map 1 = .ok (.invokevirtual 91, 3) := by decide +kernel
theorem dX5_map_4 : decode cX5_map 4 = .ok (.aload_n 0, 1) := by decide +kernel
theorem dX5_map_5 : decode cX5_map 5 = .ok (.aload_n 0, 1) := by decide +kernel
theorem dX5_map_6 : decode cX5_map 6 = .ok (.getfield 38, 3) := by decide +kernel
theorem dX5_map_9 : decode cX5_map 9 = .ok (.iload_n 1, 1) := by decide +kernel
theorem dX5_map_10 : decode cX5_map 10 = .ok (.iload_n 2, 1) := by decide +kernel
theorem dX5_map_11 : decode cX5_map 11 = .ok (.iload_n 3, 1) := by decide +kernel
theorem dX5_map_12 : decode cX5_map 12 = .ok (.iload 4, 2) := by decide +kernel
theorem dX5_map_14 : decode cX5_map 14 = .ok (.iload 5, 2) := by decide +kernel
theorem dX5_map_16 : decode cX5_map 16 = .ok (.invokevirtual 94, 3) := by decide +kernel
theorem dX5_map_19 : decode cX5_map 19 = .ok (.invokevirtual 98, 3) := by decide +kernel
theorem dX5_map_22 : decode cX5_map 22 = .ok (.ireturn, 1) := by decide +kernel
def Fh_map (n0 : Nat) (d : Mem) (a1 : Int32) (a2 : Int32) (a3 : Int32) (a4 : Int32) (a5 : Int32) : Option (Int32 × Nat × Mem) :=
  bd (Fh_remember d) fun r1 d2 =>
  gref (d2 0 0 4) fun u3 =>
  bd (lft d2 u3 (Wo_handOn d2 (d2 u3) a1 a2 a3 a4 a5)) fun r4 d5 =>
  Fh_keep n0 d5 r4
theorem y_X5_map : YV yX5_map cX5_map 6 (some .int) 5 := ⟨q609, q610, q611, q143, by decide +kernel, by decide +kernel, by decide +kernel, by decide +kernel⟩
theorem r_Fh_map {C : Cxt} {G : Geo} {n0 : Nat} (hC : Cx C cX5_map 6 "FrameHeirs" (some .int) rm_X5_map G) (hX0 : GX G n0) (hn2 : 2 ≤ n0) (hcl : GCl G) (hX : LXx G) (hT : LSt G) (d : Mem) (a1 : Int32) (a2 : Int32) (a3 : Int32) (a4 : Int32) (a5 : Int32) : Rg C 6 G 0 0 gm (QXm C G) 0 [(0, .inr (0, 0)), (1, .inl (.int a1)), (2, .inl (.int a2)), (3, .inl (.int a3)), (4, .inl (.int a4)), (5, .inl (.int a5))] [] d (Fh_map n0 d a1 a2 a3 a4 a5) := by
  unfold Fh_map
  refine z_aload_n (pc := 0) hC 0 rfl 0 rfl dX5_map_0 ?_
  refine z_cvV (pc := 1) (st := []) hC y_X5_remember q612 [] rfl (hX 0 rfl) rfl rfl (c_X5_remember hC.2.2.2.2.2.2.1 hcl hX hT) rfl ⟨rfl, rfl, (Nat.le_of_ble_eq_true rfl), (Nat.le_of_ble_eq_true rfl)⟩ (Nat.le_of_ble_eq_true rfl) dX5_map_1 (fun r1 d2 => ?_)
  refine z_aload_n (pc := 4) hC 0 rfl 0 rfl dX5_map_4 ?_
  refine z_aload_n (pc := 5) hC 0 rfl 0 rfl dX5_map_5 ?_
  refine zg_getW (pc := 6) hC hcl (hX 0 rfl) f_0_4 q435 dX5_map_6 (fun u3 hu3 gu3 => ?_)
  refine z_iload_n (pc := 9) hC 1 rfl 1 rfl dX5_map_9 ?_
  refine z_iload_n (pc := 10) hC 2 rfl 2 rfl dX5_map_10 ?_
  refine z_iload_n (pc := 11) hC 3 rfl 3 rfl dX5_map_11 ?_
  refine z_iload (pc := 12) hC 4 4 rfl dX5_map_12 ?_
  refine z_iload (pc := 14) hC 5 5 rfl dX5_map_14 ?_
  refine z_ciV (pc := 16) (st := [.inr (0, 0)]) hC y_X4_handOn q628 [.inl (.int a1), .inl (.int a2), .inl (.int a3), .inl (.int a4), .inl (.int a5)] rfl (hu3 10 rfl) rfl rfl (lft_m (c_X4_handOn hC.2.2.2.2.2.2.1 hu3 gu3 hcl)) rfl ⟨rfl, rfl, (Nat.le_of_ble_eq_true rfl), (Nat.le_of_ble_eq_true rfl)⟩ (Nat.le_of_ble_eq_true rfl) dX5_map_16 (fun r4 d5 => ?_)
  exact zx_tail (pc := 19) hC y_X5_keep q705 [.inl (.int r4)] rfl (hX 0 rfl) rfl rfl (c_X5_keep hC.2.2.2.2.2.2.1 hX0 hn2) rfl ⟨rfl, rfl, (Nat.le_of_ble_eq_true rfl), (Nat.le_of_ble_eq_true rfl)⟩ ⟨(by decide +kernel), (by decide +kernel)⟩ dX5_map_19 dX5_map_22
theorem c_X5_map {G : Geo} {n0 : Nat} (hG : GOk G) (hX0 : GX G n0) (hn2 : 2 ≤ n0) {d : Mem} {a1 : Int32} {a2 : Int32} {a3 : Int32} {a4 : Int32} {a5 : Int32} (l : Launch) (t : Int32 × Nat × Mem) (h : Fh_map n0 d a1 a2 a3 a4 a5 = some t) : MtX l yX5_map cX5_map 6 rm_X5_map G [.inr (0, 0), .inl (.int a1), .inl (.int a2), .inl (.int a3), .inl (.int a4), .inl (.int a5)] d t :=
  mtX_of rfl hG [.inr (0, 0), .inl (.int a1), .inl (.int a2), .inl (.int a3), .inl (.int a4), .inl (.int a5)] (Nat.le_of_ble_eq_true rfl) rfl (fun C hC => r_Fh_map hC hX0 hn2 hX0.cl hX0.X hX0.T d a1 a2 a3 a4 a5) h
-- grant
abbrev rm_X5_grant : Room := { frames := 5, cells := KC, slots := KS, locals := 134 }
theorem dX5_grant_0 : decode cX5_grant 0 = .ok (.aload_n 0, 1) := by decide +kernel
theorem dX5_grant_1 : decode cX5_grant 1 = .ok (.invokevirtual 91, 3) := by decide +kernel
theorem dX5_grant_4 : decode cX5_grant 4 = .ok (.aload_n 0, 1) := by decide +kernel
theorem dX5_grant_5 : decode cX5_grant 5 = .ok (.aload_n 0, 1) := by decide +kernel
theorem dX5_grant_6 : decode cX5_grant 6 = .ok (.getfield 38, 3) := by decide +kernel
theorem dX5_grant_9 : decode cX5_grant 9 = .ok (.iload_n 1, 1) := by decide +kernel
theorem dX5_grant_10 : decode cX5_grant 10 = .ok (.iload_n 2, 1) := by decide +kernel
theorem dX5_grant_11 : decode cX5_grant 11 = .ok (.iload_n 3, 1) := by decide +kernel
theorem dX5_grant_12 : decode cX5_grant 12 = .ok (.iload 4, 2) := by decide +kernel
theorem dX5_grant_14 : decode cX5_grant 14 = .ok (.invokevirtual 101, 3) := by decide +kernel
theorem dX5_grant_17 : decode cX5_grant 17 = .ok (.invokevirtual 98, 3) := by decide +kernel
theorem dX5_grant_20 : decode cX5_grant 20 = .ok (.ireturn, 1) := by decide +kernel
def Fh_grant (n0 : Nat) (d : Mem) (a1 : Int32) (a2 : Int32) (a3 : Int32) (a4 : Int32) : Option (Int32 × Nat × Mem) :=
  bd (Fh_remember d) fun r1 d2 =>
  gref (d2 0 0 4) fun u3 =>
  bd (lft d2 u3 (Wo_giveAway d2 (d2 u3) a1 a2 a3 a4)) fun r4 d5 =>
  Fh_keep n0 d5 r4
theorem y_X5_grant : YV yX5_grant cX5_grant 5 (some .int) 4 := ⟨q711, q712, q713, q143, by decide +kernel, by decide +kernel, by decide +kernel, by decide +kernel⟩
theorem r_Fh_grant {C : Cxt} {G : Geo} {n0 : Nat} (hC : Cx C cX5_grant 5 "FrameHeirs" (some .int) rm_X5_grant G) (hX0 : GX G n0) (hn2 : 2 ≤ n0) (hcl : GCl G) (hX : LXx G) (hT : LSt G) (d : Mem) (a1 : Int32) (a2 : Int32) (a3 : Int32) (a4 : Int32) : Rg C 5 G 0 0 gm (QXm C G) 0 [(0, .inr (0, 0)), (1, .inl (.int a1)), (2, .inl (.int a2)), (3, .inl (.int a3)), (4, .inl (.int a4))] [] d (Fh_grant n0 d a1 a2 a3 a4) := by
  unfold Fh_grant
  refine z_aload_n (pc := 0) hC 0 rfl 0 rfl dX5_grant_0 ?_
  refine z_cvV (pc := 1) (st := []) hC y_X5_remember q612 [] rfl (hX 0 rfl) rfl rfl (c_X5_remember hC.2.2.2.2.2.2.1 hcl hX hT) rfl ⟨rfl, rfl, (Nat.le_of_ble_eq_true rfl), (Nat.le_of_ble_eq_true rfl)⟩ (Nat.le_of_ble_eq_true rfl) dX5_grant_1 (fun r1 d2 => ?_)
  refine z_aload_n (pc := 4) hC 0 rfl 0 rfl dX5_grant_4 ?_
  refine z_aload_n (pc := 5) hC 0 rfl 0 rfl dX5_grant_5 ?_
  refine zg_getW (pc := 6) hC hcl (hX 0 rfl) f_0_4 q435 dX5_grant_6 (fun u3 hu3 gu3 => ?_)
  refine z_iload_n (pc := 9) hC 1 rfl 1 rfl dX5_grant_9 ?_
  refine z_iload_n (pc := 10) hC 2 rfl 2 rfl dX5_grant_10 ?_
  refine z_iload_n (pc := 11) hC 3 rfl 3 rfl dX5_grant_11 ?_
  refine z_iload (pc := 12) hC 4 4 rfl dX5_grant_12 ?_
  refine z_ciV (pc := 14) (st := [.inr (0, 0)]) hC y_X4_giveAway q714 [.inl (.int a1), .inl (.int a2), .inl (.int a3), .inl (.int a4)] rfl (hu3 10 rfl) rfl rfl (lft_m (c_X4_giveAway hC.2.2.2.2.2.2.1 hu3 gu3 hcl)) rfl ⟨rfl, rfl, (Nat.le_of_ble_eq_true rfl), (Nat.le_of_ble_eq_true rfl)⟩ (Nat.le_of_ble_eq_true rfl) dX5_grant_14 (fun r4 d5 => ?_)
  exact zx_tail (pc := 17) hC y_X5_keep q705 [.inl (.int r4)] rfl (hX 0 rfl) rfl rfl (c_X5_keep hC.2.2.2.2.2.2.1 hX0 hn2) rfl ⟨rfl, rfl, (Nat.le_of_ble_eq_true rfl), (Nat.le_of_ble_eq_true rfl)⟩ ⟨(by decide +kernel), (by decide +kernel)⟩ dX5_grant_17 dX5_grant_20
theorem c_X5_grant {G : Geo} {n0 : Nat} (hG : GOk G) (hX0 : GX G n0) (hn2 : 2 ≤ n0) {d : Mem} {a1 : Int32} {a2 : Int32} {a3 : Int32} {a4 : Int32} (l : Launch) (t : Int32 × Nat × Mem) (h : Fh_grant n0 d a1 a2 a3 a4 = some t) : MtX l yX5_grant cX5_grant 5 rm_X5_grant G [.inr (0, 0), .inl (.int a1), .inl (.int a2), .inl (.int a3), .inl (.int a4)] d t :=
  mtX_of rfl hG [.inr (0, 0), .inl (.int a1), .inl (.int a2), .inl (.int a3), .inl (.int a4)] (Nat.le_of_ble_eq_true rfl) rfl (fun C hC => r_Fh_grant hC hX0 hn2 hX0.cl hX0.X hX0.T d a1 a2 a3 a4) h
-- flush
abbrev rm_X5_flush : Room := { frames := 5, cells := KC, slots := KS, locals := 130 }
theorem dX5_flush_0 : decode cX5_flush 0 = .ok (.aload_n 0, 1) := by decide +kernel
theorem dX5_flush_1 : decode cX5_flush 1 = .ok (.invokevirtual 91, 3) := by decide +kernel
theorem dX5_flush_4 : decode cX5_flush 4 = .ok (.aload_n 0, 1) := by decide +kernel
theorem dX5_flush_5 : decode cX5_flush 5 = .ok (.aload_n 0, 1) := by decide +kernel
theorem dX5_flush_6 : decode cX5_flush 6 = .ok (.getfield 38, 3) := by decide +kernel
theorem dX5_flush_9 : decode cX5_flush 9 = .ok (.iload_n 1, 1) := by decide +kernel
theorem dX5_flush_10 : decode cX5_flush 10 = .ok (.iload_n 2, 1) := by decide +kernel
theorem dX5_flush_11 : decode cX5_flush 11 = .ok (.iload_n 3, 1) := by decide +kernel
theorem dX5_flush_12 : decode cX5_flush 12 = .ok (.iload 4, 2) := by decide +kernel
theorem dX5_flush_14 : decode cX5_flush 14 = .ok (.invokevirtual 105, 3) := by decide +kernel
theorem dX5_flush_17 : decode cX5_flush 17 = .ok (.invokevirtual 98, 3) := by decide +kernel
theorem dX5_flush_20 : decode cX5_flush 20 = .ok (.ireturn, 1) := by decide +kernel
def Fh_flush (n0 : Nat) (d : Mem) (a1 : Int32) (a2 : Int32) (a3 : Int32) (a4 : Int32) : Option (Int32 × Nat × Mem) :=
  bd (Fh_remember d) fun r1 d2 =>
  gref (d2 0 0 4) fun u3 =>
  bd (lft d2 u3 (Wo_startFlush d2 (d2 u3) a1 a2 a3 a4)) fun r4 d5 =>
  Fh_keep n0 d5 r4
theorem y_X5_flush : YV yX5_flush cX5_flush 5 (some .int) 4 := ⟨q746, q747, q748, q143, by decide +kernel, by decide +kernel, by decide +kernel, by decide +kernel⟩
theorem r_Fh_flush {C : Cxt} {G : Geo} {n0 : Nat} (hC : Cx C cX5_flush 5 "FrameHeirs" (some .int) rm_X5_flush G) (hX0 : GX G n0) (hn2 : 2 ≤ n0) (hcl : GCl G) (hX : LXx G) (hT : LSt G) (d : Mem) (a1 : Int32) (a2 : Int32) (a3 : Int32) (a4 : Int32) : Rg C 5 G 0 0 gm (QXm C G) 0 [(0, .inr (0, 0)), (1, .inl (.int a1)), (2, .inl (.int a2)), (3, .inl (.int a3)), (4, .inl (.int a4))] [] d (Fh_flush n0 d a1 a2 a3 a4) := by
  unfold Fh_flush
  refine z_aload_n (pc := 0) hC 0 rfl 0 rfl dX5_flush_0 ?_
  refine z_cvV (pc := 1) (st := []) hC y_X5_remember q612 [] rfl (hX 0 rfl) rfl rfl (c_X5_remember hC.2.2.2.2.2.2.1 hcl hX hT) rfl ⟨rfl, rfl, (Nat.le_of_ble_eq_true rfl), (Nat.le_of_ble_eq_true rfl)⟩ (Nat.le_of_ble_eq_true rfl) dX5_flush_1 (fun r1 d2 => ?_)
  refine z_aload_n (pc := 4) hC 0 rfl 0 rfl dX5_flush_4 ?_
  refine z_aload_n (pc := 5) hC 0 rfl 0 rfl dX5_flush_5 ?_
  refine zg_getW (pc := 6) hC hcl (hX 0 rfl) f_0_4 q435 dX5_flush_6 (fun u3 hu3 gu3 => ?_)
  refine z_iload_n (pc := 9) hC 1 rfl 1 rfl dX5_flush_9 ?_
  refine z_iload_n (pc := 10) hC 2 rfl 2 rfl dX5_flush_10 ?_
  refine z_iload_n (pc := 11) hC 3 rfl 3 rfl dX5_flush_11 ?_
  refine z_iload (pc := 12) hC 4 4 rfl dX5_flush_12 ?_
  refine z_ciV (pc := 14) (st := [.inr (0, 0)]) hC y_X4_startFlush q749 [.inl (.int a1), .inl (.int a2), .inl (.int a3), .inl (.int a4)] rfl (hu3 10 rfl) rfl rfl (lft_m (c_X4_startFlush hC.2.2.2.2.2.2.1 hu3 gu3 hcl)) rfl ⟨rfl, rfl, (Nat.le_of_ble_eq_true rfl), (Nat.le_of_ble_eq_true rfl)⟩ (Nat.le_of_ble_eq_true rfl) dX5_flush_14 (fun r4 d5 => ?_)
  exact zx_tail (pc := 17) hC y_X5_keep q705 [.inl (.int r4)] rfl (hX 0 rfl) rfl rfl (c_X5_keep hC.2.2.2.2.2.2.1 hX0 hn2) rfl ⟨rfl, rfl, (Nat.le_of_ble_eq_true rfl), (Nat.le_of_ble_eq_true rfl)⟩ ⟨(by decide +kernel), (by decide +kernel)⟩ dX5_flush_17 dX5_flush_20
theorem c_X5_flush {G : Geo} {n0 : Nat} (hG : GOk G) (hX0 : GX G n0) (hn2 : 2 ≤ n0) {d : Mem} {a1 : Int32} {a2 : Int32} {a3 : Int32} {a4 : Int32} (l : Launch) (t : Int32 × Nat × Mem) (h : Fh_flush n0 d a1 a2 a3 a4 = some t) : MtX l yX5_flush cX5_flush 5 rm_X5_flush G [.inr (0, 0), .inl (.int a1), .inl (.int a2), .inl (.int a3), .inl (.int a4)] d t :=
  mtX_of rfl hG [.inr (0, 0), .inl (.int a1), .inl (.int a2), .inl (.int a3), .inl (.int a4)] (Nat.le_of_ble_eq_true rfl) rfl (fun C hC => r_Fh_flush hC hX0 hn2 hX0.cl hX0.X hX0.T d a1 a2 a3 a4) h
-- work
abbrev rm_X5_work : Room := { frames := 5, cells := KC, slots := KS, locals := 114 }
theorem dX5_work_0 : decode cX5_work 0 = .ok (.iload_n 1, 1) := by decide +kernel
theorem dX5_work_1 : decode cX5_work 1 = .ok (.ifCond .lt 9, 3) := by decide +kernel
theorem dX5_work_4 : decode cX5_work 4 = .ok (.iload_n 1, 1) := by decide +kernel
theorem dX5_work_5 : decode cX5_work 5 = .ok (.bipush 99, 2) := by decide +kernel
theorem dX5_work_7 : decode cX5_work 7 = .ok (.if_icmp .le 5, 3) := by decide +kernel
theorem dX5_work_10 : decode cX5_work 10 = .ok (.iconst (-1), 1) := by decide +kernel
theorem dX5_work_11 : decode cX5_work 11 = .ok (.ireturn, 1) := by decide +kernel
theorem dX5_work_12 : decode cX5_work 12 = .ok (.aload_n 0, 1) := by decide +kernel
theorem dX5_work_13 : decode cX5_work 13 = .ok (.invokevirtual 91, 3) := by decide +kernel
theorem dX5_work_16 : decode cX5_work 16 = .ok (.aload_n 0, 1) := by decide +kernel
theorem dX5_work_17 : decode cX5_work 17 = .ok (.aload_n 0, 1) := by decide +kernel
theorem dX5_work_18 : decode cX5_work 18 = .ok (.getfield 38, 3) := by decide +kernel
theorem dX5_work_21 : decode cX5_work 21 = .ok (.iload_n 1, 1) := by decide +kernel
theorem dX5_work_22 : decode cX5_work 22 = .ok (.invokevirtual 109, 3) := by decide +kernel
theorem dX5_work_25 : decode cX5_work 25 = .ok (.invokevirtual 98, 3) := by decide +kernel
theorem dX5_work_28 : decode cX5_work 28 = .ok (.ireturn, 1) := by decide +kernel
def Fh_work (n0 : Nat) (d : Mem) (a1 : Int32) : Option (Int32 × Nat × Mem) :=
  if a1 < 0 then
    (some ((-1 : Int32), n0, d))
  else
    (if a1 ≤ (99 : Int32) then
      (bd (Fh_remember d) fun r1 d2 =>
      gref (d2 0 0 4) fun u3 =>
      bd (lft d2 u3 (Wo_workOn d2 (d2 u3) a1)) fun r4 d5 =>
      Fh_keep n0 d5 r4)
    else
      (some ((-1 : Int32), n0, d)))
theorem y_X5_work : YV yX5_work cX5_work 2 (some .int) 1 := ⟨q778, q779, q780, q143, by decide +kernel, by decide +kernel, by decide +kernel, by decide +kernel⟩
theorem r_Fh_work {C : Cxt} {G : Geo} {n0 : Nat} (hC : Cx C cX5_work 2 "FrameHeirs" (some .int) rm_X5_work G) (hX0 : GX G n0) (hn2 : 2 ≤ n0) (hcl : GCl G) (hX : LXx G) (hT : LSt G) (d : Mem) (a1 : Int32) : Rg C 2 G 0 0 gm (QXm C G) 0 [(0, .inr (0, 0)), (1, .inl (.int a1))] [] d (Fh_work n0 d a1) := by
  unfold Fh_work
  refine z_iload_n (pc := 0) hC 1 rfl 1 rfl dX5_work_0 ?_
  refine z_if_lt (pc := 1) hC 10 rfl dX5_work_1 ?_ ?_
  · refine z_iconst (pc := 10) hC (-1 : Int32) rfl dX5_work_10 ?_
    exact zx_iret (pc := 11) hC GE.refl' (fun _ h => absurd h List.not_mem_nil) hX0 (by decide +kernel) (by decide +kernel) dX5_work_11
  · refine z_iload_n (pc := 4) hC 1 rfl 1 rfl dX5_work_4 ?_
    refine z_bipush (pc := 5) hC (99 : Int32) rfl dX5_work_5 ?_
    refine z_icmp_le (pc := 7) hC 12 rfl dX5_work_7 ?_ ?_
    · refine z_aload_n (pc := 12) hC 0 rfl 0 rfl dX5_work_12 ?_
      refine z_cvV (pc := 13) (st := []) hC y_X5_remember q612 [] rfl (hX 0 rfl) rfl rfl (c_X5_remember hC.2.2.2.2.2.2.1 hcl hX hT) rfl ⟨rfl, rfl, (Nat.le_of_ble_eq_true rfl), (Nat.le_of_ble_eq_true rfl)⟩ (Nat.le_of_ble_eq_true rfl) dX5_work_13 (fun r1 d2 => ?_)
      refine z_aload_n (pc := 16) hC 0 rfl 0 rfl dX5_work_16 ?_
      refine z_aload_n (pc := 17) hC 0 rfl 0 rfl dX5_work_17 ?_
      refine zg_getW (pc := 18) hC hcl (hX 0 rfl) f_0_4 q435 dX5_work_18 (fun u3 hu3 gu3 => ?_)
      refine z_iload_n (pc := 21) hC 1 rfl 1 rfl dX5_work_21 ?_
      refine z_ciV (pc := 22) (st := [.inr (0, 0)]) hC y_X4_workOn q781 [.inl (.int a1)] rfl (hu3 10 rfl) rfl rfl (lft_m (c_X4_workOn hC.2.2.2.2.2.2.1 hu3 gu3 hcl)) rfl ⟨rfl, rfl, (Nat.le_of_ble_eq_true rfl), (Nat.le_of_ble_eq_true rfl)⟩ (Nat.le_of_ble_eq_true rfl) dX5_work_22 (fun r4 d5 => ?_)
      exact zx_tail (pc := 25) hC y_X5_keep q705 [.inl (.int r4)] rfl (hX 0 rfl) rfl rfl (c_X5_keep hC.2.2.2.2.2.2.1 hX0 hn2) rfl ⟨rfl, rfl, (Nat.le_of_ble_eq_true rfl), (Nat.le_of_ble_eq_true rfl)⟩ ⟨(by decide +kernel), (by decide +kernel)⟩ dX5_work_25 dX5_work_28
    · refine z_iconst (pc := 10) hC (-1 : Int32) rfl dX5_work_10 ?_
      exact zx_iret (pc := 11) hC GE.refl' (fun _ h => absurd h List.not_mem_nil) hX0 (by decide +kernel) (by decide +kernel) dX5_work_11
theorem c_X5_work {G : Geo} {n0 : Nat} (hG : GOk G) (hX0 : GX G n0) (hn2 : 2 ≤ n0) {d : Mem} {a1 : Int32} (l : Launch) (t : Int32 × Nat × Mem) (h : Fh_work n0 d a1 = some t) : MtX l yX5_work cX5_work 2 rm_X5_work G [.inr (0, 0), .inl (.int a1)] d t :=
  mtX_of rfl hG [.inr (0, 0), .inl (.int a1)] (Nat.le_of_ble_eq_true rfl) rfl (fun C hC => r_Fh_work hC hX0 hn2 hX0.cl hX0.X hX0.T d a1) h
-- touch
abbrev rm_X5_touch : Room := { frames := 4, cells := KC, slots := KS, locals := 102 }
theorem dX5_touch_0 : decode cX5_touch 0 = .ok (.aload_n 0, 1) := by decide +kernel
theorem dX5_touch_1 : decode cX5_touch 1 = .ok (.invokevirtual 91, 3) := by decide +kernel
theorem dX5_touch_4 : decode cX5_touch 4 = .ok (.aload_n 0, 1) := by decide +kernel
theorem dX5_touch_5 : decode cX5_touch 5 = .ok (.aload_n 0, 1) := by decide +kernel
theorem dX5_touch_6 : decode cX5_touch 6 = .ok (.getfield 38, 3) := by decide +kernel
theorem dX5_touch_9 : decode cX5_touch 9 = .ok (.iload_n 1, 1) := by decide +kernel
theorem dX5_touch_10 : decode cX5_touch 10 = .ok (.iload_n 2, 1) := by decide +kernel
theorem dX5_touch_11 : decode cX5_touch 11 = .ok (.iload_n 3, 1) := by decide +kernel
theorem dX5_touch_12 : decode cX5_touch 12 = .ok (.invokevirtual 112, 3) := by decide +kernel
theorem dX5_touch_15 : decode cX5_touch 15 = .ok (.invokevirtual 98, 3) := by decide +kernel
theorem dX5_touch_18 : decode cX5_touch 18 = .ok (.ireturn, 1) := by decide +kernel
def Fh_touch (n0 : Nat) (d : Mem) (a1 : Int32) (a2 : Int32) (a3 : Int32) : Option (Int32 × Nat × Mem) :=
  bd (Fh_remember d) fun r1 d2 =>
  gref (d2 0 0 4) fun u3 =>
  bd (lft d2 u3 (Wo_touchPage d2 (d2 u3) a1 a2 a3)) fun r4 d5 =>
  Fh_keep n0 d5 r4
theorem y_X5_touch : YV yX5_touch cX5_touch 4 (some .int) 3 := ⟨q802, q803, q804, q143, by decide +kernel, by decide +kernel, by decide +kernel, by decide +kernel⟩
theorem r_Fh_touch {C : Cxt} {G : Geo} {n0 : Nat} (hC : Cx C cX5_touch 4 "FrameHeirs" (some .int) rm_X5_touch G) (hX0 : GX G n0) (hn2 : 2 ≤ n0) (hcl : GCl G) (hX : LXx G) (hT : LSt G) (d : Mem) (a1 : Int32) (a2 : Int32) (a3 : Int32) : Rg C 4 G 0 0 gm (QXm C G) 0 [(0, .inr (0, 0)), (1, .inl (.int a1)), (2, .inl (.int a2)), (3, .inl (.int a3))] [] d (Fh_touch n0 d a1 a2 a3) := by
  unfold Fh_touch
  refine z_aload_n (pc := 0) hC 0 rfl 0 rfl dX5_touch_0 ?_
  refine z_cvV (pc := 1) (st := []) hC y_X5_remember q612 [] rfl (hX 0 rfl) rfl rfl (c_X5_remember hC.2.2.2.2.2.2.1 hcl hX hT) rfl ⟨rfl, rfl, (Nat.le_of_ble_eq_true rfl), (Nat.le_of_ble_eq_true rfl)⟩ (Nat.le_of_ble_eq_true rfl) dX5_touch_1 (fun r1 d2 => ?_)
  refine z_aload_n (pc := 4) hC 0 rfl 0 rfl dX5_touch_4 ?_
  refine z_aload_n (pc := 5) hC 0 rfl 0 rfl dX5_touch_5 ?_
  refine zg_getW (pc := 6) hC hcl (hX 0 rfl) f_0_4 q435 dX5_touch_6 (fun u3 hu3 gu3 => ?_)
  refine z_iload_n (pc := 9) hC 1 rfl 1 rfl dX5_touch_9 ?_
  refine z_iload_n (pc := 10) hC 2 rfl 2 rfl dX5_touch_10 ?_
  refine z_iload_n (pc := 11) hC 3 rfl 3 rfl dX5_touch_11 ?_
  refine z_ciV (pc := 12) (st := [.inr (0, 0)]) hC y_X4_touchPage q805 [.inl (.int a1), .inl (.int a2), .inl (.int a3)] rfl (hu3 10 rfl) rfl rfl (lft_m (c_X4_touchPage hC.2.2.2.2.2.2.1 hu3 gu3 hcl)) rfl ⟨rfl, rfl, (Nat.le_of_ble_eq_true rfl), (Nat.le_of_ble_eq_true rfl)⟩ (Nat.le_of_ble_eq_true rfl) dX5_touch_12 (fun r4 d5 => ?_)
  exact zx_tail (pc := 15) hC y_X5_keep q705 [.inl (.int r4)] rfl (hX 0 rfl) rfl rfl (c_X5_keep hC.2.2.2.2.2.2.1 hX0 hn2) rfl ⟨rfl, rfl, (Nat.le_of_ble_eq_true rfl), (Nat.le_of_ble_eq_true rfl)⟩ ⟨(by decide +kernel), (by decide +kernel)⟩ dX5_touch_15 dX5_touch_18
theorem c_X5_touch {G : Geo} {n0 : Nat} (hG : GOk G) (hX0 : GX G n0) (hn2 : 2 ≤ n0) {d : Mem} {a1 : Int32} {a2 : Int32} {a3 : Int32} (l : Launch) (t : Int32 × Nat × Mem) (h : Fh_touch n0 d a1 a2 a3 = some t) : MtX l yX5_touch cX5_touch 4 rm_X5_touch G [.inr (0, 0), .inl (.int a1), .inl (.int a2), .inl (.int a3)] d t :=
  mtX_of rfl hG [.inr (0, 0), .inl (.int a1), .inl (.int a2), .inl (.int a3)] (Nat.le_of_ble_eq_true rfl) rfl (fun C hC => r_Fh_touch hC hX0 hn2 hX0.cl hX0.X hX0.T d a1 a2 a3) h
-- serve
abbrev rm_X5_serve : Room := { frames := 5, cells := KC, slots := KS, locals := 131 }
theorem dX5_serve_0 : decode cX5_serve 0 = .ok (.aload_n 0, 1) := by decide +kernel
theorem dX5_serve_1 : decode cX5_serve 1 = .ok (.invokevirtual 91, 3) := by decide +kernel
theorem dX5_serve_4 : decode cX5_serve 4 = .ok (.aload_n 0, 1) := by decide +kernel
theorem dX5_serve_5 : decode cX5_serve 5 = .ok (.aload_n 0, 1) := by decide +kernel
theorem dX5_serve_6 : decode cX5_serve 6 = .ok (.getfield 38, 3) := by decide +kernel
theorem dX5_serve_9 : decode cX5_serve 9 = .ok (.iload_n 1, 1) := by decide +kernel
theorem dX5_serve_10 : decode cX5_serve 10 = .ok (.invokevirtual 116, 3) := by decide +kernel
theorem dX5_serve_13 : decode cX5_serve 13 = .ok (.invokevirtual 98, 3) := by decide +kernel
theorem dX5_serve_16 : decode cX5_serve 16 = .ok (.ireturn, 1) := by decide +kernel
def Fh_serve (n0 : Nat) (d : Mem) (a1 : Int32) : Option (Int32 × Nat × Mem) :=
  bd (Fh_remember d) fun r1 d2 =>
  gref (d2 0 0 4) fun u3 =>
  bd (lft d2 u3 (Wo_serveFirst d2 (d2 u3) a1)) fun r4 d5 =>
  Fh_keep n0 d5 r4
theorem y_X5_serve : YV yX5_serve cX5_serve 2 (some .int) 1 := ⟨q818, q819, q820, q143, by decide +kernel, by decide +kernel, by decide +kernel, by decide +kernel⟩
theorem r_Fh_serve {C : Cxt} {G : Geo} {n0 : Nat} (hC : Cx C cX5_serve 2 "FrameHeirs" (some .int) rm_X5_serve G) (hX0 : GX G n0) (hn2 : 2 ≤ n0) (hcl : GCl G) (hX : LXx G) (hT : LSt G) (d : Mem) (a1 : Int32) : Rg C 2 G 0 0 gm (QXm C G) 0 [(0, .inr (0, 0)), (1, .inl (.int a1))] [] d (Fh_serve n0 d a1) := by
  unfold Fh_serve
  refine z_aload_n (pc := 0) hC 0 rfl 0 rfl dX5_serve_0 ?_
  refine z_cvV (pc := 1) (st := []) hC y_X5_remember q612 [] rfl (hX 0 rfl) rfl rfl (c_X5_remember hC.2.2.2.2.2.2.1 hcl hX hT) rfl ⟨rfl, rfl, (Nat.le_of_ble_eq_true rfl), (Nat.le_of_ble_eq_true rfl)⟩ (Nat.le_of_ble_eq_true rfl) dX5_serve_1 (fun r1 d2 => ?_)
  refine z_aload_n (pc := 4) hC 0 rfl 0 rfl dX5_serve_4 ?_
  refine z_aload_n (pc := 5) hC 0 rfl 0 rfl dX5_serve_5 ?_
  refine zg_getW (pc := 6) hC hcl (hX 0 rfl) f_0_4 q435 dX5_serve_6 (fun u3 hu3 gu3 => ?_)
  refine z_iload_n (pc := 9) hC 1 rfl 1 rfl dX5_serve_9 ?_
  refine z_ciV (pc := 10) (st := [.inr (0, 0)]) hC y_X4_serveFirst q821 [.inl (.int a1)] rfl (hu3 10 rfl) rfl rfl (lft_m (c_X4_serveFirst hC.2.2.2.2.2.2.1 hu3 gu3 hcl)) rfl ⟨rfl, rfl, (Nat.le_of_ble_eq_true rfl), (Nat.le_of_ble_eq_true rfl)⟩ (Nat.le_of_ble_eq_true rfl) dX5_serve_10 (fun r4 d5 => ?_)
  exact zx_tail (pc := 13) hC y_X5_keep q705 [.inl (.int r4)] rfl (hX 0 rfl) rfl rfl (c_X5_keep hC.2.2.2.2.2.2.1 hX0 hn2) rfl ⟨rfl, rfl, (Nat.le_of_ble_eq_true rfl), (Nat.le_of_ble_eq_true rfl)⟩ ⟨(by decide +kernel), (by decide +kernel)⟩ dX5_serve_13 dX5_serve_16
theorem c_X5_serve {G : Geo} {n0 : Nat} (hG : GOk G) (hX0 : GX G n0) (hn2 : 2 ≤ n0) {d : Mem} {a1 : Int32} (l : Launch) (t : Int32 × Nat × Mem) (h : Fh_serve n0 d a1 = some t) : MtX l yX5_serve cX5_serve 2 rm_X5_serve G [.inr (0, 0), .inl (.int a1)] d t :=
  mtX_of rfl hG [.inr (0, 0), .inl (.int a1)] (Nat.le_of_ble_eq_true rfl) rfl (fun C hC => r_Fh_serve hC hX0 hn2 hX0.cl hX0.X hX0.T d a1) h
-- settle
abbrev rm_X5_settle : Room := { frames := 6, cells := KC, slots := KS, locals := 156 }
theorem dX5_settle_0 : decode cX5_settle 0 = .ok (.aload_n 0, 1) := by decide +kernel
theorem dX5_settle_1 : decode cX5_settle 1 = .ok (.invokevirtual 91, 3) := by decide +kernel
theorem dX5_settle_4 : decode cX5_settle 4 = .ok (.aload_n 0, 1) := by decide +kernel
theorem dX5_settle_5 : decode cX5_settle 5 = .ok (.aload_n 0, 1) := by decide +kernel
theorem dX5_settle_6 : decode cX5_settle 6 = .ok (.getfield 38, 3) := by decide +kernel
theorem dX5_settle_9 : decode cX5_settle 9 = .ok (.invokevirtual 119, 3) := by decide +kernel
theorem dX5_settle_12 : decode cX5_settle 12 = .ok (.invokevirtual 98, 3) := by decide +kernel
theorem dX5_settle_15 : decode cX5_settle 15 = .ok (.ireturn, 1) := by decide +kernel
def Fh_settle (n0 : Nat) (d : Mem) : Option (Int32 × Nat × Mem) :=
  bd (Fh_remember d) fun r1 d2 =>
  gref (d2 0 0 4) fun u3 =>
  bd (lft d2 u3 (Wo_settleAll d2 (d2 u3))) fun r4 d5 =>
  Fh_keep n0 d5 r4
theorem y_X5_settle : YV yX5_settle cX5_settle 1 (some .int) 0 := ⟨q864, q865, q866, q143, by decide +kernel, by decide +kernel, by decide +kernel, by decide +kernel⟩
theorem r_Fh_settle {C : Cxt} {G : Geo} {n0 : Nat} (hC : Cx C cX5_settle 1 "FrameHeirs" (some .int) rm_X5_settle G) (hX0 : GX G n0) (hn2 : 2 ≤ n0) (hcl : GCl G) (hX : LXx G) (hT : LSt G) (d : Mem) : Rg C 1 G 0 0 gm (QXm C G) 0 [(0, .inr (0, 0))] [] d (Fh_settle n0 d) := by
  unfold Fh_settle
  refine z_aload_n (pc := 0) hC 0 rfl 0 rfl dX5_settle_0 ?_
  refine z_cvV (pc := 1) (st := []) hC y_X5_remember q612 [] rfl (hX 0 rfl) rfl rfl (c_X5_remember hC.2.2.2.2.2.2.1 hcl hX hT) rfl ⟨rfl, rfl, (Nat.le_of_ble_eq_true rfl), (Nat.le_of_ble_eq_true rfl)⟩ (Nat.le_of_ble_eq_true rfl) dX5_settle_1 (fun r1 d2 => ?_)
  refine z_aload_n (pc := 4) hC 0 rfl 0 rfl dX5_settle_4 ?_
  refine z_aload_n (pc := 5) hC 0 rfl 0 rfl dX5_settle_5 ?_
  refine zg_getW (pc := 6) hC hcl (hX 0 rfl) f_0_4 q435 dX5_settle_6 (fun u3 hu3 gu3 => ?_)
  refine z_ciV (pc := 9) (st := [.inr (0, 0)]) hC y_X4_settleAll q867 [] rfl (hu3 10 rfl) rfl rfl (lft_m (c_X4_settleAll hC.2.2.2.2.2.2.1 hu3 gu3 hcl)) rfl ⟨rfl, rfl, (Nat.le_of_ble_eq_true rfl), (Nat.le_of_ble_eq_true rfl)⟩ (Nat.le_of_ble_eq_true rfl) dX5_settle_9 (fun r4 d5 => ?_)
  exact zx_tail (pc := 12) hC y_X5_keep q705 [.inl (.int r4)] rfl (hX 0 rfl) rfl rfl (c_X5_keep hC.2.2.2.2.2.2.1 hX0 hn2) rfl ⟨rfl, rfl, (Nat.le_of_ble_eq_true rfl), (Nat.le_of_ble_eq_true rfl)⟩ ⟨(by decide +kernel), (by decide +kernel)⟩ dX5_settle_12 dX5_settle_15
theorem c_X5_settle {G : Geo} {n0 : Nat} (hG : GOk G) (hX0 : GX G n0) (hn2 : 2 ≤ n0) {d : Mem} (l : Launch) (t : Int32 × Nat × Mem) (h : Fh_settle n0 d = some t) : MtX l yX5_settle cX5_settle 1 rm_X5_settle G [.inr (0, 0)] d t :=
  mtX_of rfl hG [.inr (0, 0)] (Nat.le_of_ble_eq_true rfl) rfl (fun C hC => r_Fh_settle hC hX0 hn2 hX0.cl hX0.X hX0.T d) h
-- tick
abbrev rm_X5_tick : Room := { frames := 4, cells := KC, slots := KS, locals := 102 }
theorem dX5_tick_0 : decode cX5_tick 0 = .ok (.aload_n 0, 1) := by decide +kernel
theorem dX5_tick_1 : decode cX5_tick 1 = .ok (.invokevirtual 91, 3) := by decide +kernel
theorem dX5_tick_4 : decode cX5_tick 4 = .ok (.aload_n 0, 1) := by decide +kernel
theorem dX5_tick_5 : decode cX5_tick 5 = .ok (.getfield 38, 3) := by decide +kernel
theorem dX5_tick_8 : decode cX5_tick 8 = .ok (.getfield 123, 3) := by decide +kernel
theorem dX5_tick_11 : decode cX5_tick 11 = .ok (.aload_n 0, 1) := by decide +kernel
theorem dX5_tick_12 : decode cX5_tick 12 = .ok (.getfield 38, 3) := by decide +kernel
theorem dX5_tick_15 : decode cX5_tick 15 = .ok (.getfield 42, 3) := by decide +kernel
theorem dX5_tick_18 : decode cX5_tick 18 = .ok (.getfield 127, 3) := by decide +kernel
theorem dX5_tick_21 : decode cX5_tick 21 = .ok (.invokevirtual 130, 3) := by decide +kernel
theorem dX5_tick_24 : decode cX5_tick 24 = .ok (.aload_n 0, 1) := by decide +kernel
theorem dX5_tick_25 : decode cX5_tick 25 = .ok (.aload_n 0, 1) := by decide +kernel
theorem dX5_tick_26 : decode cX5_tick 26 = .ok (.getfield 38, 3) := by decide +kernel
theorem dX5_tick_29 : decode cX5_tick 29 = .ok (.getfield 123, 3) := by decide +kernel
theorem dX5_tick_32 : decode cX5_tick 32 = .ok (.getfield 135, 3) := by decide +kernel
theorem dX5_tick_35 : decode cX5_tick 35 = .ok (.invokevirtual 98, 3) := by decide +kernel
theorem dX5_tick_38 : decode cX5_tick 38 = .ok (.ireturn, 1) := by decide +kernel
def Fh_tick (n0 : Nat) (d : Mem) : Option (Int32 × Nat × Mem) :=
  bd (Fh_remember d) fun r1 d2 =>
  gref (d2 0 0 4) fun u3 =>
  gref (d2 0 0 4) fun u4 =>
  gref (d2 u4 10 0) fun u5 =>
  bd (lft d2 u3 (De_coolDown (d2 u3) (d2 u5 4 8))) fun r6 d7 =>
  gref (d7 0 0 4) fun u8 =>
  Fh_keep n0 d7 (d7 u8 17 17)
theorem y_X5_tick : YV yX5_tick cX5_tick 1 (some .int) 0 := ⟨q873, q874, q875, q143, by decide +kernel, by decide +kernel, by decide +kernel, by decide +kernel⟩
theorem r_Fh_tick {C : Cxt} {G : Geo} {n0 : Nat} (hC : Cx C cX5_tick 1 "FrameHeirs" (some .int) rm_X5_tick G) (hX0 : GX G n0) (hn2 : 2 ≤ n0) (hcl : GCl G) (hX : LXx G) (hT : LSt G) (d : Mem) : Rg C 1 G 0 0 gm (QXm C G) 0 [(0, .inr (0, 0))] [] d (Fh_tick n0 d) := by
  unfold Fh_tick
  refine z_aload_n (pc := 0) hC 0 rfl 0 rfl dX5_tick_0 ?_
  refine z_cvV (pc := 1) (st := []) hC y_X5_remember q612 [] rfl (hX 0 rfl) rfl rfl (c_X5_remember hC.2.2.2.2.2.2.1 hcl hX hT) rfl ⟨rfl, rfl, (Nat.le_of_ble_eq_true rfl), (Nat.le_of_ble_eq_true rfl)⟩ (Nat.le_of_ble_eq_true rfl) dX5_tick_1 (fun r1 d2 => ?_)
  refine z_aload_n (pc := 4) hC 0 rfl 0 rfl dX5_tick_4 ?_
  refine zg_getW (pc := 5) hC hcl (hX 0 rfl) f_0_4 q435 dX5_tick_5 (fun u3 hu3 gu3 => ?_)
  refine z_getc (pc := 8) hC (hu3 10 rfl) f_10_1 q379 dX5_tick_8 ?_
  refine z_aload_n (pc := 11) hC 0 rfl 0 rfl dX5_tick_11 ?_
  refine zg_getW (pc := 12) hC hcl (hX 0 rfl) f_0_4 q435 dX5_tick_12 (fun u4 hu4 gu4 => ?_)
  refine zg_getS (pc := 15) hC hcl (hu4 10 rfl) f_10_0 q376 dX5_tick_15 (fun u5 hu5 gu5 => ?_)
  refine zg_geti (pc := 18) hC (hu5 4 rfl) f_4_8 q199 dX5_tick_18 ?_
  refine z_cvV (pc := 21) (st := []) hC y_X0_coolDown q876 [.inl (.int (d2 u5 4 8))] rfl (hu3 17 rfl) rfl rfl (lft_m (c_X0_coolDown hC.2.2.2.2.2.2.1 hu3 gu3)) rfl ⟨rfl, rfl, (Nat.le_of_ble_eq_true rfl), (Nat.le_of_ble_eq_true rfl)⟩ (Nat.le_of_ble_eq_true rfl) dX5_tick_21 (fun r6 d7 => ?_)
  refine z_aload_n (pc := 24) hC 0 rfl 0 rfl dX5_tick_24 ?_
  refine z_aload_n (pc := 25) hC 0 rfl 0 rfl dX5_tick_25 ?_
  refine zg_getW (pc := 26) hC hcl (hX 0 rfl) f_0_4 q435 dX5_tick_26 (fun u8 hu8 gu8 => ?_)
  refine z_getc (pc := 29) hC (hu8 10 rfl) f_10_1 q379 dX5_tick_29 ?_
  refine zg_geti (pc := 32) hC (hu8 17 rfl) f_17_17 q330 dX5_tick_32 ?_
  exact zx_tail (pc := 35) hC y_X5_keep q705 [.inl (.int (d7 u8 17 17))] rfl (hX 0 rfl) rfl rfl (c_X5_keep hC.2.2.2.2.2.2.1 hX0 hn2) rfl ⟨rfl, rfl, (Nat.le_of_ble_eq_true rfl), (Nat.le_of_ble_eq_true rfl)⟩ ⟨(by decide +kernel), (by decide +kernel)⟩ dX5_tick_35 dX5_tick_38
theorem c_X5_tick {G : Geo} {n0 : Nat} (hG : GOk G) (hX0 : GX G n0) (hn2 : 2 ≤ n0) {d : Mem} (l : Launch) (t : Int32 × Nat × Mem) (h : Fh_tick n0 d = some t) : MtX l yX5_tick cX5_tick 1 rm_X5_tick G [.inr (0, 0)] d t :=
  mtX_of rfl hG [.inr (0, 0)] (Nat.le_of_ble_eq_true rfl) rfl (fun C hC => r_Fh_tick hC hX0 hn2 hX0.cl hX0.X hX0.T d) h
-- tidy
abbrev rm_X5_tidy : Room := { frames := 5, cells := KC, slots := KS, locals := 121 }
theorem dX5_tidy_0 : decode cX5_tidy 0 = .ok (.aload_n 0, 1) := by decide +kernel
theorem dX5_tidy_1 : decode cX5_tidy 1 = .ok (.invokevirtual 91, 3) := by decide +kernel
theorem dX5_tidy_4 : decode cX5_tidy 4 = .ok (.aload_n 0, 1) := by decide +kernel
theorem dX5_tidy_5 : decode cX5_tidy 5 = .ok (.aload_n 0, 1) := by decide +kernel
theorem dX5_tidy_6 : decode cX5_tidy 6 = .ok (.getfield 38, 3) := by decide +kernel
theorem dX5_tidy_9 : decode cX5_tidy 9 = .ok (.iload_n 1, 1) := by decide +kernel
theorem dX5_tidy_10 : decode cX5_tidy 10 = .ok (.invokevirtual 138, 3) := by decide +kernel
theorem dX5_tidy_13 : decode cX5_tidy 13 = .ok (.invokevirtual 98, 3) := by decide +kernel
theorem dX5_tidy_16 : decode cX5_tidy 16 = .ok (.ireturn, 1) := by decide +kernel
def Fh_tidy (n0 : Nat) (d : Mem) (a1 : Int32) : Option (Int32 × Nat × Mem) :=
  bd (Fh_remember d) fun r1 d2 =>
  gref (d2 0 0 4) fun u3 =>
  bd (lft d2 u3 (Wo_joinAll d2 (d2 u3) a1)) fun r4 d5 =>
  Fh_keep n0 d5 r4
theorem y_X5_tidy : YV yX5_tidy cX5_tidy 2 (some .int) 1 := ⟨q882, q883, q884, q143, by decide +kernel, by decide +kernel, by decide +kernel, by decide +kernel⟩
theorem r_Fh_tidy {C : Cxt} {G : Geo} {n0 : Nat} (hC : Cx C cX5_tidy 2 "FrameHeirs" (some .int) rm_X5_tidy G) (hX0 : GX G n0) (hn2 : 2 ≤ n0) (hcl : GCl G) (hX : LXx G) (hT : LSt G) (d : Mem) (a1 : Int32) : Rg C 2 G 0 0 gm (QXm C G) 0 [(0, .inr (0, 0)), (1, .inl (.int a1))] [] d (Fh_tidy n0 d a1) := by
  unfold Fh_tidy
  refine z_aload_n (pc := 0) hC 0 rfl 0 rfl dX5_tidy_0 ?_
  refine z_cvV (pc := 1) (st := []) hC y_X5_remember q612 [] rfl (hX 0 rfl) rfl rfl (c_X5_remember hC.2.2.2.2.2.2.1 hcl hX hT) rfl ⟨rfl, rfl, (Nat.le_of_ble_eq_true rfl), (Nat.le_of_ble_eq_true rfl)⟩ (Nat.le_of_ble_eq_true rfl) dX5_tidy_1 (fun r1 d2 => ?_)
  refine z_aload_n (pc := 4) hC 0 rfl 0 rfl dX5_tidy_4 ?_
  refine z_aload_n (pc := 5) hC 0 rfl 0 rfl dX5_tidy_5 ?_
  refine zg_getW (pc := 6) hC hcl (hX 0 rfl) f_0_4 q435 dX5_tidy_6 (fun u3 hu3 gu3 => ?_)
  refine z_iload_n (pc := 9) hC 1 rfl 1 rfl dX5_tidy_9 ?_
  refine z_ciV (pc := 10) (st := [.inr (0, 0)]) hC y_X4_joinAll q885 [.inl (.int a1)] rfl (hu3 10 rfl) rfl rfl (lft_m (c_X4_joinAll hC.2.2.2.2.2.2.1 hu3 gu3 hcl)) rfl ⟨rfl, rfl, (Nat.le_of_ble_eq_true rfl), (Nat.le_of_ble_eq_true rfl)⟩ (Nat.le_of_ble_eq_true rfl) dX5_tidy_10 (fun r4 d5 => ?_)
  exact zx_tail (pc := 13) hC y_X5_keep q705 [.inl (.int r4)] rfl (hX 0 rfl) rfl rfl (c_X5_keep hC.2.2.2.2.2.2.1 hX0 hn2) rfl ⟨rfl, rfl, (Nat.le_of_ble_eq_true rfl), (Nat.le_of_ble_eq_true rfl)⟩ ⟨(by decide +kernel), (by decide +kernel)⟩ dX5_tidy_13 dX5_tidy_16
theorem c_X5_tidy {G : Geo} {n0 : Nat} (hG : GOk G) (hX0 : GX G n0) (hn2 : 2 ≤ n0) {d : Mem} {a1 : Int32} (l : Launch) (t : Int32 × Nat × Mem) (h : Fh_tidy n0 d a1 = some t) : MtX l yX5_tidy cX5_tidy 2 rm_X5_tidy G [.inr (0, 0), .inl (.int a1)] d t :=
  mtX_of rfl hG [.inr (0, 0), .inl (.int a1)] (Nat.le_of_ble_eq_true rfl) rfl (fun C hC => r_Fh_tidy hC hX0 hn2 hX0.cl hX0.X hX0.T d a1) h
-- run
abbrev rm_X5_run : Room := { frames := 6, cells := KC, slots := KS, locals := 165 }
theorem dX5_run_0 : decode cX5_run 0 = .ok (.iload_n 1, 1) := by decide +kernel
theorem dX5_run_1 : decode cX5_run 1 = .ok (.ifCond .lt 9, 3) := by decide +kernel
theorem dX5_run_4 : decode cX5_run 4 = .ok (.iload_n 1, 1) := by decide +kernel
theorem dX5_run_5 : decode cX5_run 5 = .ok (.bipush 24, 2) := by decide +kernel
theorem dX5_run_7 : decode cX5_run 7 = .ok (.if_icmp .le 5, 3) := by decide +kernel
theorem dX5_run_10 : decode cX5_run 10 = .ok (.iconst (-1), 1) := by decide +kernel
theorem dX5_run_11 : decode cX5_run 11 = .ok (.ireturn, 1) := by decide +kernel
theorem dX5_run_12 : decode cX5_run 12 = .ok (.aload_n 0, 1) := by decide +kernel
theorem dX5_run_13 : decode cX5_run 13 = .ok (.invokevirtual 91, 3) := by decide +kernel
theorem dX5_run_16 : decode cX5_run 16 = .ok (.iconst 0, 1) := by decide +kernel
theorem dX5_run_17 : decode cX5_run 17 = .ok (.istore_n 2, 1) := by decide +kernel
theorem dX5_run_18 : decode cX5_run 18 = .ok (.iload_n 2, 1) := by decide +kernel
theorem dX5_run_19 : decode cX5_run 19 = .ok (.iload_n 1, 1) := by decide +kernel
theorem dX5_run_20 : decode cX5_run 20 = .ok (.if_icmp .ge 54, 3) := by decide +kernel
theorem dX5_run_23 : decode cX5_run 23 = .ok (.aload_n 0, 1) := by decide +kernel
theorem dX5_run_24 : decode cX5_run 24 = .ok (.getfield 38, 3) := by decide +kernel
theorem dX5_run_27 : decode cX5_run 27 = .ok (.getfield 141, 3) := by decide +kernel
theorem dX5_run_30 : decode cX5_run 30 = .ok (.aload_n 0, 1) := by decide +kernel
theorem dX5_run_31 : decode cX5_run 31 = .ok (.getfield 38, 3) := by decide +kernel
theorem dX5_run_34 : decode cX5_run 34 = .ok (.getfield 42, 3) := by decide +kernel
theorem dX5_run_37 : decode cX5_run 37 = .ok (.getfield 144, 3) := by decide +kernel
theorem dX5_run_40 : decode cX5_run 40 = .ok (.if_icmp .ge 34, 3) := by decide +kernel
theorem dX5_run_43 : decode cX5_run 43 = .ok (.aload_n 0, 1) := by decide +kernel
theorem dX5_run_44 : decode cX5_run 44 = .ok (.getfield 38, 3) := by decide +kernel
theorem dX5_run_47 : decode cX5_run 47 = .ok (.invokevirtual 147, 3) := by decide +kernel
theorem dX5_run_50 : decode cX5_run 50 = .ok (.aload_n 0, 1) := by decide +kernel
theorem dX5_run_51 : decode cX5_run 51 = .ok (.getfield 38, 3) := by decide +kernel
theorem dX5_run_54 : decode cX5_run 54 = .ok (.aload_n 0, 1) := by decide +kernel
theorem dX5_run_55 : decode cX5_run 55 = .ok (.getfield 38, 3) := by decide +kernel
theorem dX5_run_58 : decode cX5_run 58 = .ok (.getfield 42, 3) := by decide +kernel
theorem dX5_run_61 : decode cX5_run 61 = .ok (.getfield 150, 3) := by decide +kernel
theorem dX5_run_64 : decode cX5_run 64 = .ok (.invokevirtual 109, 3) := by decide +kernel
theorem dX5_run_67 : decode cX5_run 67 = .ok (.pop, 1) := by decide +kernel
theorem dX5_run_68 : decode cX5_run 68 = .ok (.iinc 2 1, 3) := by decide +kernel
theorem dX5_run_71 : decode cX5_run 71 = .ok (.goto (-53), 3) := by decide +kernel
theorem dX5_run_74 : decode cX5_run 74 = .ok (.aload_n 0, 1) := by decide +kernel
theorem dX5_run_75 : decode cX5_run 75 = .ok (.iload_n 2, 1) := by decide +kernel
theorem dX5_run_76 : decode cX5_run 76 = .ok (.invokevirtual 98, 3) := by decide +kernel
theorem dX5_run_79 : decode cX5_run 79 = .ok (.ireturn, 1) := by decide +kernel
def Fh_run_74 (n0 : Nat) (v2 : Int32) (d : Mem) : Option (Int32 × Nat × Mem) :=
  Fh_keep n0 d v2
def Fh_run_18 (n0 : Nat) : Nat → Int32 → Int32 → Mem → Option (Int32 × Nat × Mem)
  | 0, _, _, _ => none
  | n + 1, v1, v2, d =>
    if v1 ≤ v2 then
      (Fh_run_74 n0 v2 d)
    else
      (gref (d 0 0 4) fun u1 =>
      gref (d 0 0 4) fun u2 =>
      gref (d u2 10 0) fun u3 =>
      if (d u3 4 10) ≤ (d u1 10 11) then
        (Fh_run_74 n0 v2 d)
      else
        (gref (d 0 0 4) fun u4 =>
        bd (lft d u4 (Wo_performNext d (d u4))) fun r5 d6 =>
        gref (d6 0 0 4) fun u7 =>
        gref (d6 0 0 4) fun u8 =>
        gref (d6 u8 10 0) fun u9 =>
        bd (lft d6 u7 (Wo_workOn d6 (d6 u7) (d6 u9 4 7))) fun r10 d11 =>
        bnd (v2 + (1 : Int32)) fun v2_12 =>
        Fh_run_18 n0 n v1 v2_12 d11))
def Fh_run (n0 : Nat) (d : Mem) (a1 : Int32) : Option (Int32 × Nat × Mem) :=
  if a1 < 0 then
    (some ((-1 : Int32), n0, d))
  else
    (if a1 ≤ (24 : Int32) then
      (bd (Fh_remember d) fun r13 d14 =>
      bnd (0 : Int32) fun v2_15 =>
      Fh_run_18 n0 FU a1 v2_15 d14)
    else
      (some ((-1 : Int32), n0, d)))
theorem y_X5_run : YV yX5_run cX5_run 3 (some .int) 1 := ⟨q902, q903, q904, q143, by decide +kernel, by decide +kernel, by decide +kernel, by decide +kernel⟩
theorem r_Fh_run_74 {C : Cxt} {G : Geo} {n0 : Nat} (hC : Cx C cX5_run 3 "FrameHeirs" (some .int) rm_X5_run G) (hX0 : GX G n0) (hn2 : 2 ≤ n0) (hcl : GCl G) (hX : LXx G) (hT : LSt G) (v2 : Int32) (d : Mem) : Rg C 3 G 0 0 gm (QXm C G) 74 [(0, .inr (0, 0)), (2, .inl (.int v2))] [] d (Fh_run_74 n0 v2 d) := by
  unfold Fh_run_74
  refine z_aload_n (pc := 74) hC 0 rfl 0 rfl dX5_run_74 ?_
  refine z_iload_n (pc := 75) hC 2 rfl 1 rfl dX5_run_75 ?_
  exact zx_tail (pc := 76) hC y_X5_keep q705 [.inl (.int v2)] rfl (hX 0 rfl) rfl rfl (c_X5_keep hC.2.2.2.2.2.2.1 hX0 hn2) rfl ⟨rfl, rfl, (Nat.le_of_ble_eq_true rfl), (Nat.le_of_ble_eq_true rfl)⟩ ⟨(by decide +kernel), (by decide +kernel)⟩ dX5_run_76 dX5_run_79
theorem r_Fh_run_18 {C : Cxt} {G : Geo} {n0 : Nat} (hC : Cx C cX5_run 3 "FrameHeirs" (some .int) rm_X5_run G) (hX0 : GX G n0) (hn2 : 2 ≤ n0) (hcl : GCl G) (hX : LXx G) (hT : LSt G) : ∀ (n : Nat) (v1 : Int32) (v2 : Int32) (d : Mem), Rg C 3 G 0 0 gm (QXm C G) 18 [(0, .inr (0, 0)), (1, .inl (.int v1)), (2, .inl (.int v2))] [] d (Fh_run_18 n0 n v1 v2 d) := by
  intro n
  induction n with
  | zero => intros; exact z_none
  | succ n ih =>
    intro v1 v2 d
    rw [Fh_run_18]
    refine z_iload_n (pc := 18) hC 2 rfl 2 rfl dX5_run_18 ?_
    refine z_iload_n (pc := 19) hC 1 rfl 1 rfl dX5_run_19 ?_
    refine z_icmp_ge (pc := 20) hC 74 rfl dX5_run_20 ?_ ?_
    · exact z_sub [0, 2] rfl (r_Fh_run_74 hC hX0 hn2 hcl hX hT v2 d)
    · refine z_aload_n (pc := 23) hC 0 rfl 0 rfl dX5_run_23 ?_
      refine zg_getW (pc := 24) hC hcl (hX 0 rfl) f_0_4 q435 dX5_run_24 (fun u1 hu1 gu1 => ?_)
      refine zg_geti (pc := 27) hC (hu1 10 rfl) f_10_11 q392 dX5_run_27 ?_
      refine z_aload_n (pc := 30) hC 0 rfl 0 rfl dX5_run_30 ?_
      refine zg_getW (pc := 31) hC hcl (hX 0 rfl) f_0_4 q435 dX5_run_31 (fun u2 hu2 gu2 => ?_)
      refine zg_getS (pc := 34) hC hcl (hu2 10 rfl) f_10_0 q376 dX5_run_34 (fun u3 hu3 gu3 => ?_)
      refine zg_geti (pc := 37) hC (hu3 4 rfl) f_4_10 q205 dX5_run_37 ?_
      refine z_icmp_ge (pc := 40) hC 74 rfl dX5_run_40 ?_ ?_
      · exact z_sub [0, 2] rfl (r_Fh_run_74 hC hX0 hn2 hcl hX hT v2 d)
      · refine z_aload_n (pc := 43) hC 0 rfl 0 rfl dX5_run_43 ?_
        refine zg_getW (pc := 44) hC hcl (hX 0 rfl) f_0_4 q435 dX5_run_44 (fun u4 hu4 gu4 => ?_)
        refine z_cvV (pc := 47) (st := []) hC y_X4_performNext q905 [] rfl (hu4 10 rfl) rfl rfl (lft_m (c_X4_performNext hC.2.2.2.2.2.2.1 hu4 gu4 hcl)) rfl ⟨rfl, rfl, (Nat.le_of_ble_eq_true rfl), (Nat.le_of_ble_eq_true rfl)⟩ (Nat.le_of_ble_eq_true rfl) dX5_run_47 (fun r5 d6 => ?_)
        refine z_aload_n (pc := 50) hC 0 rfl 0 rfl dX5_run_50 ?_
        refine zg_getW (pc := 51) hC hcl (hX 0 rfl) f_0_4 q435 dX5_run_51 (fun u7 hu7 gu7 => ?_)
        refine z_aload_n (pc := 54) hC 0 rfl 0 rfl dX5_run_54 ?_
        refine zg_getW (pc := 55) hC hcl (hX 0 rfl) f_0_4 q435 dX5_run_55 (fun u8 hu8 gu8 => ?_)
        refine zg_getS (pc := 58) hC hcl (hu8 10 rfl) f_10_0 q376 dX5_run_58 (fun u9 hu9 gu9 => ?_)
        refine zg_geti (pc := 61) hC (hu9 4 rfl) f_4_7 q196 dX5_run_61 ?_
        refine z_ciV (pc := 64) (st := []) hC y_X4_workOn q781 [.inl (.int (d6 u9 4 7))] rfl (hu7 10 rfl) rfl rfl (lft_m (c_X4_workOn hC.2.2.2.2.2.2.1 hu7 gu7 hcl)) rfl ⟨rfl, rfl, (Nat.le_of_ble_eq_true rfl), (Nat.le_of_ble_eq_true rfl)⟩ (Nat.le_of_ble_eq_true rfl) dX5_run_64 (fun r10 d11 => ?_)
        refine z_pop (pc := 67) hC rfl dX5_run_67 ?_
        refine z_iinc (pc := 68) (ls1 := fun v => [(2, .inl (.int v)), (0, .inr (0, 0)), (1, .inl (.int v1))]) hC 2 2 (by decide) (1 : Int32) rfl rfl (fun v => rfl) dX5_run_68 (fun v2_12 => ?_)
        refine z_goto (pc := 71) hC 18 rfl dX5_run_71 ?_
        exact z_sub [1, 2, 0] rfl (ih v1 v2_12 d11)
theorem r_Fh_run {C : Cxt} {G : Geo} {n0 : Nat} (hC : Cx C cX5_run 3 "FrameHeirs" (some .int) rm_X5_run G) (hX0 : GX G n0) (hn2 : 2 ≤ n0) (hcl : GCl G) (hX : LXx G) (hT : LSt G) (d : Mem) (a1 : Int32) : Rg C 3 G 0 0 gm (QXm C G) 0 [(0, .inr (0, 0)), (1, .inl (.int a1))] [] d (Fh_run n0 d a1) := by
  unfold Fh_run
  refine z_iload_n (pc := 0) hC 1 rfl 1 rfl dX5_run_0 ?_
  refine z_if_lt (pc := 1) hC 10 rfl dX5_run_1 ?_ ?_
  · refine z_iconst (pc := 10) hC (-1 : Int32) rfl dX5_run_10 ?_
    exact zx_iret (pc := 11) hC GE.refl' (fun _ h => absurd h List.not_mem_nil) hX0 (by decide +kernel) (by decide +kernel) dX5_run_11
  · refine z_iload_n (pc := 4) hC 1 rfl 1 rfl dX5_run_4 ?_
    refine z_bipush (pc := 5) hC (24 : Int32) rfl dX5_run_5 ?_
    refine z_icmp_le (pc := 7) hC 12 rfl dX5_run_7 ?_ ?_
    · refine z_aload_n (pc := 12) hC 0 rfl 0 rfl dX5_run_12 ?_
      refine z_cvV (pc := 13) (st := []) hC y_X5_remember q612 [] rfl (hX 0 rfl) rfl rfl (c_X5_remember hC.2.2.2.2.2.2.1 hcl hX hT) rfl ⟨rfl, rfl, (Nat.le_of_ble_eq_true rfl), (Nat.le_of_ble_eq_true rfl)⟩ (Nat.le_of_ble_eq_true rfl) dX5_run_13 (fun r13 d14 => ?_)
      refine z_iconst (pc := 16) hC (0 : Int32) rfl dX5_run_16 ?_
      refine z_istore_n (pc := 17) (ls1 := fun v => [(2, .inl (.int v)), (0, .inr (0, 0)), (1, .inl (.int a1))]) hC 2 rfl (by decide) (fun v => rfl) dX5_run_17 (fun v2_15 => ?_)
      exact z_sub [1, 2, 0] rfl (r_Fh_run_18 hC hX0 hn2 hcl hX hT FU a1 v2_15 d14)
    · refine z_iconst (pc := 10) hC (-1 : Int32) rfl dX5_run_10 ?_
      exact zx_iret (pc := 11) hC GE.refl' (fun _ h => absurd h List.not_mem_nil) hX0 (by decide +kernel) (by decide +kernel) dX5_run_11
theorem c_X5_run {G : Geo} {n0 : Nat} (hG : GOk G) (hX0 : GX G n0) (hn2 : 2 ≤ n0) {d : Mem} {a1 : Int32} (l : Launch) (t : Int32 × Nat × Mem) (h : Fh_run n0 d a1 = some t) : MtX l yX5_run cX5_run 3 rm_X5_run G [.inr (0, 0), .inl (.int a1)] d t :=
  mtX_of rfl hG [.inr (0, 0), .inl (.int a1)] (Nat.le_of_ble_eq_true rfl) rfl (fun C hC => r_Fh_run hC hX0 hn2 hX0.cl hX0.X hX0.T d a1) h
