/-! ===== the law: its cases, 2 ===== -/
theorem law_20 {p : Program} {l : Launch} {e : Env} {s : State} {m : MethodId} {below : List Frame} {meth : Method} {c : Code} {b L : Nat} {xs : Nat → Int32} {Q : State → Prop} {H : Heap} {locs : List Loc} {cs ss : Nat} {ls : Array Slot} {D : va_G} {cA : ClassId} {qo qx qm n0 i cc : Nat} {M : Mem} {μ : Sl} {Gx Gm : Geo} (hF : LF p s m c b L xs) (hP : KP0 s D cA qo qx qm b L i cc n0 M μ Gx Gm H locs ls cs ss) (kk : KK p l e s m below meth c b Q D cA qo qx qm Gm i cc cs ss) : W p l e room_1 s m #[Value.ref b] below meth c H locs cs ss Q (F0 m 1023 ls []) := by
  obtain ⟨hLS, hqx, hqm, hI, hcc, hl, hi, hLb, hcs⟩ := hP
  obtain ⟨hx, hb, hml, hown, hts, hX, hbl⟩ := id hF
  obtain ⟨⟨a1, a2, a3, a4, a5⟩, ⟨b1, b2, b3⟩, -, -, hS⟩ := id hLS
  have h0 := lv_at hl 0 rfl
  have h4 := lv_at hl 4 rfl
  obtain ⟨r, μ1, e1, e2, hI1⟩ := top_reach hI (xs (i + 1)) (xs (i + 2))
  refine lv_aload_n hx hb d_law_1023 rfl (lv_at hl 1 rfl) ?_
  refine lw_arg (j := 1) hF hLb hS hl h0 h4 (by omega) rfl d_law_1024 d_law_1025 d_law_1027 d_law_1028 d_law_1029 ?_
  refine lw_arg (j := 2) hF hLb hS hl h0 h4 (by omega) rfl d_law_1030 d_law_1031 d_law_1033 d_law_1034 d_law_1035 ?_
  refine lw_q (n := 2) (st := []) (M1 := M) hF hLS y_X5_reach q955 [.inl (.int (xs (i + 1))), .inl (.int (xs (i + 2)))] rfl rfl (r := r) (c_X5_reach a1.2.2.1 a2.cl a2.X a2.T l _ e1) ⟨rfl, rfl, Nat.le_of_ble_eq_true rfl, Nat.le_of_ble_eq_true rfl⟩ (Nat.le_of_ble_eq_true rfl) ⟨by have := hcs.1; omega, by have := hcs.2; omega⟩ hl d_law_1036 (by rw [hqx]; rfl) (fun H1 locs1 hLS1 => ?_)
  have hS2 := hLS1.2.2.2.2
  refine lv_aload_n hx hb d_law_1039 rfl (lv_at hl 2 rfl) ?_
  refine lw_arg (j := 1) hF hLb hS2 hl h0 h4 (by omega) rfl d_law_1040 d_law_1041 d_law_1043 d_law_1044 d_law_1045 ?_
  refine lw_arg (j := 2) hF hLb hS2 hl h0 h4 (by omega) rfl d_law_1046 d_law_1047 d_law_1049 d_law_1050 d_law_1051 ?_
  refine lw_m (n := 2) (st := [.int r]) (μ1 := μ1) hF hLS1 y_X6_reach q1830 [.inl (.int (xs (i + 1))), .inl (.int (xs (i + 2)))] rfl rfl (r := r) (c_X6_reach b1.2.2.1 b2 l _ _ e2) ⟨rfl, rfl, Nat.le_of_ble_eq_true rfl, Nat.le_of_ble_eq_true rfl⟩ (Nat.le_of_ble_eq_true rfl) ⟨by have := hcs.1; omega, by have := hcs.2; omega⟩ hl d_law_1052 (by rw [hqm]; rfl) (fun H2 locs2 hLS2 => ?_)
  refine lv_icmp_eq (tgt := 1630) hx hb d_law_1055 (by decide) (fun _ => ?_) (fun z => absurd rfl z)
  refine W.widen (k := cs + 40) (n := ss + 4000) (by omega) (by omega) ?_
  exact kk _ _ _ _ _ _ _ hLS2 hqx hI1 hl
theorem law_21 {p : Program} {l : Launch} {e : Env} {s : State} {m : MethodId} {below : List Frame} {meth : Method} {c : Code} {b L : Nat} {xs : Nat → Int32} {Q : State → Prop} {H : Heap} {locs : List Loc} {cs ss : Nat} {ls : Array Slot} {D : va_G} {cA : ClassId} {qo qx qm n0 i cc : Nat} {M : Mem} {μ : Sl} {Gx Gm : Geo} (hF : LF p s m c b L xs) (hP : KP0 s D cA qo qx qm b L i cc n0 M μ Gx Gm H locs ls cs ss) (kk : KK p l e s m below meth c b Q D cA qo qx qm Gm i cc cs ss) : W p l e room_1 s m #[Value.ref b] below meth c H locs cs ss Q (F0 m 1060 ls []) := by
  obtain ⟨hLS, hqx, hqm, hI, hcc, hl, hi, hLb, hcs⟩ := hP
  obtain ⟨hx, hb, hml, hown, hts, hX, hbl⟩ := id hF
  obtain ⟨⟨a1, a2, a3, a4, a5⟩, ⟨b1, b2, b3⟩, -, -, hS⟩ := id hLS
  have h0 := lv_at hl 0 rfl
  have h4 := lv_at hl 4 rfl
  obtain ⟨r, μ1, e1, e2, hI1⟩ := top_shared hI (xs (i + 1)) (xs (i + 2))
  refine lv_aload_n hx hb d_law_1060 rfl (lv_at hl 1 rfl) ?_
  refine lw_arg (j := 1) hF hLb hS hl h0 h4 (by omega) rfl d_law_1061 d_law_1062 d_law_1064 d_law_1065 d_law_1066 ?_
  refine lw_arg (j := 2) hF hLb hS hl h0 h4 (by omega) rfl d_law_1067 d_law_1068 d_law_1070 d_law_1071 d_law_1072 ?_
  refine lw_q (n := 2) (st := []) (M1 := M) hF hLS y_X5_shared q965 [.inl (.int (xs (i + 1))), .inl (.int (xs (i + 2)))] rfl rfl (r := r) (c_X5_shared a1.2.2.1 a2.cl a2.X a2.T l _ e1) ⟨rfl, rfl, Nat.le_of_ble_eq_true rfl, Nat.le_of_ble_eq_true rfl⟩ (Nat.le_of_ble_eq_true rfl) ⟨by have := hcs.1; omega, by have := hcs.2; omega⟩ hl d_law_1073 (by rw [hqx]; rfl) (fun H1 locs1 hLS1 => ?_)
  have hS2 := hLS1.2.2.2.2
  refine lv_aload_n hx hb d_law_1076 rfl (lv_at hl 2 rfl) ?_
  refine lw_arg (j := 1) hF hLb hS2 hl h0 h4 (by omega) rfl d_law_1077 d_law_1078 d_law_1080 d_law_1081 d_law_1082 ?_
  refine lw_arg (j := 2) hF hLb hS2 hl h0 h4 (by omega) rfl d_law_1083 d_law_1084 d_law_1086 d_law_1087 d_law_1088 ?_
  refine lw_m (n := 2) (st := [.int r]) (μ1 := μ1) hF hLS1 y_X6_shared q1838 [.inl (.int (xs (i + 1))), .inl (.int (xs (i + 2)))] rfl rfl (r := r) (c_X6_shared b1.2.2.1 b2 l _ _ e2) ⟨rfl, rfl, Nat.le_of_ble_eq_true rfl, Nat.le_of_ble_eq_true rfl⟩ (Nat.le_of_ble_eq_true rfl) ⟨by have := hcs.1; omega, by have := hcs.2; omega⟩ hl d_law_1089 (by rw [hqm]; rfl) (fun H2 locs2 hLS2 => ?_)
  refine lv_icmp_eq (tgt := 1630) hx hb d_law_1092 (by decide) (fun _ => ?_) (fun z => absurd rfl z)
  refine W.widen (k := cs + 40) (n := ss + 4000) (by omega) (by omega) ?_
  exact kk _ _ _ _ _ _ _ hLS2 hqx hI1 hl
theorem law_22 {p : Program} {l : Launch} {e : Env} {s : State} {m : MethodId} {below : List Frame} {meth : Method} {c : Code} {b L : Nat} {xs : Nat → Int32} {Q : State → Prop} {H : Heap} {locs : List Loc} {cs ss : Nat} {ls : Array Slot} {D : va_G} {cA : ClassId} {qo qx qm n0 i cc : Nat} {M : Mem} {μ : Sl} {Gx Gm : Geo} (hF : LF p s m c b L xs) (hP : KP0 s D cA qo qx qm b L i cc n0 M μ Gx Gm H locs ls cs ss) (kk : KK p l e s m below meth c b Q D cA qo qx qm Gm i cc cs ss) : W p l e room_1 s m #[Value.ref b] below meth c H locs cs ss Q (F0 m 1097 ls []) := by
  obtain ⟨hLS, hqx, hqm, hI, hcc, hl, hi, hLb, hcs⟩ := hP
  obtain ⟨hx, hb, hml, hown, hts, hX, hbl⟩ := id hF
  obtain ⟨⟨a1, a2, a3, a4, a5⟩, ⟨b1, b2, b3⟩, -, -, hS⟩ := id hLS
  have h0 := lv_at hl 0 rfl
  have h4 := lv_at hl 4 rfl
  obtain ⟨r, M1, μ1, e1, e2, hI1⟩ := top_gates hI (xs (i + 1)) (xs (i + 2))
  refine lv_aload_n hx hb d_law_1097 rfl (lv_at hl 1 rfl) ?_
  refine lw_arg (j := 1) hF hLb hS hl h0 h4 (by omega) rfl d_law_1098 d_law_1099 d_law_1101 d_law_1102 d_law_1103 ?_
  refine lw_arg (j := 2) hF hLb hS hl h0 h4 (by omega) rfl d_law_1104 d_law_1105 d_law_1107 d_law_1108 d_law_1109 ?_
  refine lw_q (n := 2) (st := []) (M1 := M1) hF hLS y_X5_gates q976 [.inl (.int (xs (i + 1))), .inl (.int (xs (i + 2)))] rfl rfl (r := r) (c_X5_gates a1.2.2.1 a2.cl a2.X a2.T l _ _ e1) ⟨rfl, rfl, Nat.le_of_ble_eq_true rfl, Nat.le_of_ble_eq_true rfl⟩ (Nat.le_of_ble_eq_true rfl) ⟨by have := hcs.1; omega, by have := hcs.2; omega⟩ hl d_law_1110 (by rw [hqx]; rfl) (fun H1 locs1 hLS1 => ?_)
  have hS2 := hLS1.2.2.2.2
  refine lv_aload_n hx hb d_law_1113 rfl (lv_at hl 2 rfl) ?_
  refine lw_arg (j := 1) hF hLb hS2 hl h0 h4 (by omega) rfl d_law_1114 d_law_1115 d_law_1117 d_law_1118 d_law_1119 ?_
  refine lw_arg (j := 2) hF hLb hS2 hl h0 h4 (by omega) rfl d_law_1120 d_law_1121 d_law_1123 d_law_1124 d_law_1125 ?_
  refine lw_m (n := 2) (st := [.int r]) (μ1 := μ1) hF hLS1 y_X6_gates q1842 [.inl (.int (xs (i + 1))), .inl (.int (xs (i + 2)))] rfl rfl (r := r) (c_X6_gates b1.2.2.1 b2 l _ _ e2) ⟨rfl, rfl, Nat.le_of_ble_eq_true rfl, Nat.le_of_ble_eq_true rfl⟩ (Nat.le_of_ble_eq_true rfl) ⟨by have := hcs.1; omega, by have := hcs.2; omega⟩ hl d_law_1126 (by rw [hqm]; rfl) (fun H2 locs2 hLS2 => ?_)
  refine lv_icmp_eq (tgt := 1630) hx hb d_law_1129 (by decide) (fun _ => ?_) (fun z => absurd rfl z)
  refine W.widen (k := cs + 40) (n := ss + 4000) (by omega) (by omega) ?_
  exact kk _ _ _ _ _ _ _ hLS2 hqx hI1 hl
theorem law_23 {p : Program} {l : Launch} {e : Env} {s : State} {m : MethodId} {below : List Frame} {meth : Method} {c : Code} {b L : Nat} {xs : Nat → Int32} {Q : State → Prop} {H : Heap} {locs : List Loc} {cs ss : Nat} {ls : Array Slot} {D : va_G} {cA : ClassId} {qo qx qm n0 i cc : Nat} {M : Mem} {μ : Sl} {Gx Gm : Geo} (hF : LF p s m c b L xs) (hP : KP0 s D cA qo qx qm b L i cc n0 M μ Gx Gm H locs ls cs ss) (kk : KK p l e s m below meth c b Q D cA qo qx qm Gm i cc cs ss) : W p l e room_1 s m #[Value.ref b] below meth c H locs cs ss Q (F0 m 1134 ls []) := by
  obtain ⟨hLS, hqx, hqm, hI, hcc, hl, hi, hLb, hcs⟩ := hP
  obtain ⟨hx, hb, hml, hown, hts, hX, hbl⟩ := id hF
  obtain ⟨⟨a1, a2, a3, a4, a5⟩, ⟨b1, b2, b3⟩, -, -, hS⟩ := id hLS
  have h0 := lv_at hl 0 rfl
  have h4 := lv_at hl 4 rfl
  obtain ⟨r, μ1, e1, e2, hI1⟩ := top_gap hI (xs (i + 1)) (xs (i + 2))
  refine lv_aload_n hx hb d_law_1134 rfl (lv_at hl 1 rfl) ?_
  refine lw_arg (j := 1) hF hLb hS hl h0 h4 (by omega) rfl d_law_1135 d_law_1136 d_law_1138 d_law_1139 d_law_1140 ?_
  refine lw_arg (j := 2) hF hLb hS hl h0 h4 (by omega) rfl d_law_1141 d_law_1142 d_law_1144 d_law_1145 d_law_1146 ?_
  refine lw_q (n := 2) (st := []) (M1 := M) hF hLS y_X5_gap q988 [.inl (.int (xs (i + 1))), .inl (.int (xs (i + 2)))] rfl rfl (r := r) (c_X5_gap a1.2.2.1 a2.cl a2.X a2.T l _ e1) ⟨rfl, rfl, Nat.le_of_ble_eq_true rfl, Nat.le_of_ble_eq_true rfl⟩ (Nat.le_of_ble_eq_true rfl) ⟨by have := hcs.1; omega, by have := hcs.2; omega⟩ hl d_law_1147 (by rw [hqx]; rfl) (fun H1 locs1 hLS1 => ?_)
  have hS2 := hLS1.2.2.2.2
  refine lv_aload_n hx hb d_law_1150 rfl (lv_at hl 2 rfl) ?_
  refine lw_arg (j := 1) hF hLb hS2 hl h0 h4 (by omega) rfl d_law_1151 d_law_1152 d_law_1154 d_law_1155 d_law_1156 ?_
  refine lw_arg (j := 2) hF hLb hS2 hl h0 h4 (by omega) rfl d_law_1157 d_law_1158 d_law_1160 d_law_1161 d_law_1162 ?_
  refine lw_m (n := 2) (st := [.int r]) (μ1 := μ1) hF hLS1 y_X6_gap q1854 [.inl (.int (xs (i + 1))), .inl (.int (xs (i + 2)))] rfl rfl (r := r) (c_X6_gap b1.2.2.1 b2 l _ _ e2) ⟨rfl, rfl, Nat.le_of_ble_eq_true rfl, Nat.le_of_ble_eq_true rfl⟩ (Nat.le_of_ble_eq_true rfl) ⟨by have := hcs.1; omega, by have := hcs.2; omega⟩ hl d_law_1163 (by rw [hqm]; rfl) (fun H2 locs2 hLS2 => ?_)
  refine lv_icmp_eq (tgt := 1630) hx hb d_law_1166 (by decide) (fun _ => ?_) (fun z => absurd rfl z)
  refine W.widen (k := cs + 40) (n := ss + 4000) (by omega) (by omega) ?_
  exact kk _ _ _ _ _ _ _ hLS2 hqx hI1 hl
theorem law_24 {p : Program} {l : Launch} {e : Env} {s : State} {m : MethodId} {below : List Frame} {meth : Method} {c : Code} {b L : Nat} {xs : Nat → Int32} {Q : State → Prop} {H : Heap} {locs : List Loc} {cs ss : Nat} {ls : Array Slot} {D : va_G} {cA : ClassId} {qo qx qm n0 i cc : Nat} {M : Mem} {μ : Sl} {Gx Gm : Geo} (hF : LF p s m c b L xs) (hP : KP0 s D cA qo qx qm b L i cc n0 M μ Gx Gm H locs ls cs ss) (kk : KK p l e s m below meth c b Q D cA qo qx qm Gm i cc cs ss) : W p l e room_1 s m #[Value.ref b] below meth c H locs cs ss Q (F0 m 1171 ls []) := by
  obtain ⟨hLS, hqx, hqm, hI, hcc, hl, hi, hLb, hcs⟩ := hP
  obtain ⟨hx, hb, hml, hown, hts, hX, hbl⟩ := id hF
  obtain ⟨⟨a1, a2, a3, a4, a5⟩, ⟨b1, b2, b3⟩, -, -, hS⟩ := id hLS
  have h0 := lv_at hl 0 rfl
  have h4 := lv_at hl 4 rfl
  obtain ⟨r, μ1, e1, e2, hI1⟩ := top_free hI (xs (i + 1))
  refine lv_aload_n hx hb d_law_1171 rfl (lv_at hl 1 rfl) ?_
  refine lw_arg (j := 1) hF hLb hS hl h0 h4 (by omega) rfl d_law_1172 d_law_1173 d_law_1175 d_law_1176 d_law_1177 ?_
  refine lw_q (n := 1) (st := []) (M1 := M) hF hLS y_X5_free q996 [.inl (.int (xs (i + 1)))] rfl rfl (r := r) (c_X5_free a1.2.2.1 a2.cl a2.X a2.T l _ e1) ⟨rfl, rfl, Nat.le_of_ble_eq_true rfl, Nat.le_of_ble_eq_true rfl⟩ (Nat.le_of_ble_eq_true rfl) ⟨by have := hcs.1; omega, by have := hcs.2; omega⟩ hl d_law_1178 (by rw [hqx]; rfl) (fun H1 locs1 hLS1 => ?_)
  have hS2 := hLS1.2.2.2.2
  refine lv_aload_n hx hb d_law_1181 rfl (lv_at hl 2 rfl) ?_
  refine lw_arg (j := 1) hF hLb hS2 hl h0 h4 (by omega) rfl d_law_1182 d_law_1183 d_law_1185 d_law_1186 d_law_1187 ?_
  refine lw_m (n := 1) (st := [.int r]) (μ1 := μ1) hF hLS1 y_X6_free q1858 [.inl (.int (xs (i + 1)))] rfl rfl (r := r) (c_X6_free b1.2.2.1 b2 l _ _ e2) ⟨rfl, rfl, Nat.le_of_ble_eq_true rfl, Nat.le_of_ble_eq_true rfl⟩ (Nat.le_of_ble_eq_true rfl) ⟨by have := hcs.1; omega, by have := hcs.2; omega⟩ hl d_law_1188 (by rw [hqm]; rfl) (fun H2 locs2 hLS2 => ?_)
  refine lv_icmp_eq (tgt := 1630) hx hb d_law_1191 (by decide) (fun _ => ?_) (fun z => absurd rfl z)
  refine W.widen (k := cs + 40) (n := ss + 4000) (by omega) (by omega) ?_
  exact kk _ _ _ _ _ _ _ hLS2 hqx hI1 hl
theorem law_25 {p : Program} {l : Launch} {e : Env} {s : State} {m : MethodId} {below : List Frame} {meth : Method} {c : Code} {b L : Nat} {xs : Nat → Int32} {Q : State → Prop} {H : Heap} {locs : List Loc} {cs ss : Nat} {ls : Array Slot} {D : va_G} {cA : ClassId} {qo qx qm n0 i cc : Nat} {M : Mem} {μ : Sl} {Gx Gm : Geo} (hF : LF p s m c b L xs) (hP : KP0 s D cA qo qx qm b L i cc n0 M μ Gx Gm H locs ls cs ss) (kk : KK p l e s m below meth c b Q D cA qo qx qm Gm i cc cs ss) : W p l e room_1 s m #[Value.ref b] below meth c H locs cs ss Q (F0 m 1196 ls []) := by
  obtain ⟨hLS, hqx, hqm, hI, hcc, hl, hi, hLb, hcs⟩ := hP
  obtain ⟨hx, hb, hml, hown, hts, hX, hbl⟩ := id hF
  obtain ⟨⟨a1, a2, a3, a4, a5⟩, ⟨b1, b2, b3⟩, -, -, hS⟩ := id hLS
  have h0 := lv_at hl 0 rfl
  have h4 := lv_at hl 4 rfl
  obtain ⟨r, μ1, e1, e2, hI1⟩ := top_coldest hI hcc (xs (i + 1))
  refine lv_aload_n hx hb d_law_1196 rfl (lv_at hl 1 rfl) ?_
  refine lw_arg (j := 1) hF hLb hS hl h0 h4 (by omega) rfl d_law_1197 d_law_1198 d_law_1200 d_law_1201 d_law_1202 ?_
  refine lw_q (n := 1) (st := []) (M1 := M) hF hLS y_X5_coldest q1005 [.inl (.int (xs (i + 1)))] rfl rfl (r := r) (c_X5_coldest a1.2.2.1 a2.cl a2.X a2.T l _ e1) ⟨rfl, rfl, Nat.le_of_ble_eq_true rfl, Nat.le_of_ble_eq_true rfl⟩ (Nat.le_of_ble_eq_true rfl) ⟨by have := hcs.1; omega, by have := hcs.2; omega⟩ hl d_law_1203 (by rw [hqx]; rfl) (fun H1 locs1 hLS1 => ?_)
  have hS2 := hLS1.2.2.2.2
  refine lv_aload_n hx hb d_law_1206 rfl (lv_at hl 2 rfl) ?_
  refine lw_arg (j := 1) hF hLb hS2 hl h0 h4 (by omega) rfl d_law_1207 d_law_1208 d_law_1210 d_law_1211 d_law_1212 ?_
  refine lw_m (n := 1) (st := [.int r]) (μ1 := μ1) hF hLS1 y_X6_coldest q1862 [.inl (.int (xs (i + 1)))] rfl rfl (r := r) (c_X6_coldest b1.2.2.1 b2 l _ _ e2) ⟨rfl, rfl, Nat.le_of_ble_eq_true rfl, Nat.le_of_ble_eq_true rfl⟩ (Nat.le_of_ble_eq_true rfl) ⟨by have := hcs.1; omega, by have := hcs.2; omega⟩ hl d_law_1213 (by rw [hqm]; rfl) (fun H2 locs2 hLS2 => ?_)
  refine lv_icmp_eq (tgt := 1630) hx hb d_law_1216 (by decide) (fun _ => ?_) (fun z => absurd rfl z)
  refine W.widen (k := cs + 40) (n := ss + 4000) (by omega) (by omega) ?_
  exact kk _ _ _ _ _ _ _ hLS2 hqx hI1 hl
theorem law_26 {p : Program} {l : Launch} {e : Env} {s : State} {m : MethodId} {below : List Frame} {meth : Method} {c : Code} {b L : Nat} {xs : Nat → Int32} {Q : State → Prop} {H : Heap} {locs : List Loc} {cs ss : Nat} {ls : Array Slot} {D : va_G} {cA : ClassId} {qo qx qm n0 i cc : Nat} {M : Mem} {μ : Sl} {Gx Gm : Geo} (hF : LF p s m c b L xs) (hP : KP0 s D cA qo qx qm b L i cc n0 M μ Gx Gm H locs ls cs ss) (kk : KK p l e s m below meth c b Q D cA qo qx qm Gm i cc cs ss) : W p l e room_1 s m #[Value.ref b] below meth c H locs cs ss Q (F0 m 1221 ls []) := by
  obtain ⟨hLS, hqx, hqm, hI, hcc, hl, hi, hLb, hcs⟩ := hP
  obtain ⟨hx, hb, hml, hown, hts, hX, hbl⟩ := id hF
  obtain ⟨⟨a1, a2, a3, a4, a5⟩, ⟨b1, b2, b3⟩, -, -, hS⟩ := id hLS
  have h0 := lv_at hl 0 rfl
  have h4 := lv_at hl 4 rfl
  obtain ⟨r, μ1, e1, e2, hI1⟩ := top_age hI (xs (i + 1)) (xs (i + 2))
  refine lv_aload_n hx hb d_law_1221 rfl (lv_at hl 1 rfl) ?_
  refine lw_arg (j := 1) hF hLb hS hl h0 h4 (by omega) rfl d_law_1222 d_law_1223 d_law_1225 d_law_1226 d_law_1227 ?_
  refine lw_arg (j := 2) hF hLb hS hl h0 h4 (by omega) rfl d_law_1228 d_law_1229 d_law_1231 d_law_1232 d_law_1233 ?_
  refine lw_q (n := 2) (st := []) (M1 := M) hF hLS y_X5_age q1010 [.inl (.int (xs (i + 1))), .inl (.int (xs (i + 2)))] rfl rfl (r := r) (c_X5_age a1.2.2.1 a2.cl a2.X a2.T l _ e1) ⟨rfl, rfl, Nat.le_of_ble_eq_true rfl, Nat.le_of_ble_eq_true rfl⟩ (Nat.le_of_ble_eq_true rfl) ⟨by have := hcs.1; omega, by have := hcs.2; omega⟩ hl d_law_1234 (by rw [hqx]; rfl) (fun H1 locs1 hLS1 => ?_)
  have hS2 := hLS1.2.2.2.2
  refine lv_aload_n hx hb d_law_1237 rfl (lv_at hl 2 rfl) ?_
  refine lw_arg (j := 1) hF hLb hS2 hl h0 h4 (by omega) rfl d_law_1238 d_law_1239 d_law_1241 d_law_1242 d_law_1243 ?_
  refine lw_arg (j := 2) hF hLb hS2 hl h0 h4 (by omega) rfl d_law_1244 d_law_1245 d_law_1247 d_law_1248 d_law_1249 ?_
  refine lw_m (n := 2) (st := [.int r]) (μ1 := μ1) hF hLS1 y_X6_age q1866 [.inl (.int (xs (i + 1))), .inl (.int (xs (i + 2)))] rfl rfl (r := r) (c_X6_age b1.2.2.1 b2 l _ _ e2) ⟨rfl, rfl, Nat.le_of_ble_eq_true rfl, Nat.le_of_ble_eq_true rfl⟩ (Nat.le_of_ble_eq_true rfl) ⟨by have := hcs.1; omega, by have := hcs.2; omega⟩ hl d_law_1250 (by rw [hqm]; rfl) (fun H2 locs2 hLS2 => ?_)
  refine lv_icmp_eq (tgt := 1630) hx hb d_law_1253 (by decide) (fun _ => ?_) (fun z => absurd rfl z)
  refine W.widen (k := cs + 40) (n := ss + 4000) (by omega) (by omega) ?_
  exact kk _ _ _ _ _ _ _ hLS2 hqx hI1 hl
theorem law_27 {p : Program} {l : Launch} {e : Env} {s : State} {m : MethodId} {below : List Frame} {meth : Method} {c : Code} {b L : Nat} {xs : Nat → Int32} {Q : State → Prop} {H : Heap} {locs : List Loc} {cs ss : Nat} {ls : Array Slot} {D : va_G} {cA : ClassId} {qo qx qm n0 i cc : Nat} {M : Mem} {μ : Sl} {Gx Gm : Geo} (hF : LF p s m c b L xs) (hP : KP0 s D cA qo qx qm b L i cc n0 M μ Gx Gm H locs ls cs ss) (kk : KK p l e s m below meth c b Q D cA qo qx qm Gm i cc cs ss) : W p l e room_1 s m #[Value.ref b] below meth c H locs cs ss Q (F0 m 1258 ls []) := by
  obtain ⟨hLS, hqx, hqm, hI, hcc, hl, hi, hLb, hcs⟩ := hP
  obtain ⟨hx, hb, hml, hown, hts, hX, hbl⟩ := id hF
  obtain ⟨⟨a1, a2, a3, a4, a5⟩, ⟨b1, b2, b3⟩, -, -, hS⟩ := id hLS
  have h0 := lv_at hl 0 rfl
  have h4 := lv_at hl 4 rfl
  obtain ⟨r, μ1, e1, e2, hI1⟩ := top_warmth hI (xs (i + 1))
  refine lv_aload_n hx hb d_law_1258 rfl (lv_at hl 1 rfl) ?_
  refine lw_arg (j := 1) hF hLb hS hl h0 h4 (by omega) rfl d_law_1259 d_law_1260 d_law_1262 d_law_1263 d_law_1264 ?_
  refine lw_q (n := 1) (st := []) (M1 := M) hF hLS y_X5_warmth q1022 [.inl (.int (xs (i + 1)))] rfl rfl (r := r) (c_X5_warmth a1.2.2.1 a2.cl a2.X a2.T l _ e1) ⟨rfl, rfl, Nat.le_of_ble_eq_true rfl, Nat.le_of_ble_eq_true rfl⟩ (Nat.le_of_ble_eq_true rfl) ⟨by have := hcs.1; omega, by have := hcs.2; omega⟩ hl d_law_1265 (by rw [hqx]; rfl) (fun H1 locs1 hLS1 => ?_)
  have hS2 := hLS1.2.2.2.2
  refine lv_aload_n hx hb d_law_1268 rfl (lv_at hl 2 rfl) ?_
  refine lw_arg (j := 1) hF hLb hS2 hl h0 h4 (by omega) rfl d_law_1269 d_law_1270 d_law_1272 d_law_1273 d_law_1274 ?_
  refine lw_m (n := 1) (st := [.int r]) (μ1 := μ1) hF hLS1 y_X6_warmth q1870 [.inl (.int (xs (i + 1)))] rfl rfl (r := r) (c_X6_warmth b1.2.2.1 b2 l _ _ e2) ⟨rfl, rfl, Nat.le_of_ble_eq_true rfl, Nat.le_of_ble_eq_true rfl⟩ (Nat.le_of_ble_eq_true rfl) ⟨by have := hcs.1; omega, by have := hcs.2; omega⟩ hl d_law_1275 (by rw [hqm]; rfl) (fun H2 locs2 hLS2 => ?_)
  refine lv_icmp_eq (tgt := 1630) hx hb d_law_1278 (by decide) (fun _ => ?_) (fun z => absurd rfl z)
  refine W.widen (k := cs + 40) (n := ss + 4000) (by omega) (by omega) ?_
  exact kk _ _ _ _ _ _ _ hLS2 hqx hI1 hl
theorem law_28 {p : Program} {l : Launch} {e : Env} {s : State} {m : MethodId} {below : List Frame} {meth : Method} {c : Code} {b L : Nat} {xs : Nat → Int32} {Q : State → Prop} {H : Heap} {locs : List Loc} {cs ss : Nat} {ls : Array Slot} {D : va_G} {cA : ClassId} {qo qx qm n0 i cc : Nat} {M : Mem} {μ : Sl} {Gx Gm : Geo} (hF : LF p s m c b L xs) (hP : KP0 s D cA qo qx qm b L i cc n0 M μ Gx Gm H locs ls cs ss) (kk : KK p l e s m below meth c b Q D cA qo qx qm Gm i cc cs ss) : W p l e room_1 s m #[Value.ref b] below meth c H locs cs ss Q (F0 m 1283 ls []) := by
  obtain ⟨hLS, hqx, hqm, hI, hcc, hl, hi, hLb, hcs⟩ := hP
  obtain ⟨hx, hb, hml, hown, hts, hX, hbl⟩ := id hF
  obtain ⟨⟨a1, a2, a3, a4, a5⟩, ⟨b1, b2, b3⟩, -, -, hS⟩ := id hLS
  have h0 := lv_at hl 0 rfl
  have h4 := lv_at hl 4 rfl
  obtain ⟨r, μ1, e1, e2, hI1⟩ := top_ratio hI (xs (i + 1)) (xs (i + 2))
  refine lv_aload_n hx hb d_law_1283 rfl (lv_at hl 1 rfl) ?_
  refine lw_arg (j := 1) hF hLb hS hl h0 h4 (by omega) rfl d_law_1284 d_law_1285 d_law_1287 d_law_1288 d_law_1289 ?_
  refine lw_arg (j := 2) hF hLb hS hl h0 h4 (by omega) rfl d_law_1290 d_law_1291 d_law_1293 d_law_1294 d_law_1295 ?_
  refine lw_q (n := 2) (st := []) (M1 := M) hF hLS y_X5_ratio q1030 [.inl (.int (xs (i + 1))), .inl (.int (xs (i + 2)))] rfl rfl (r := r) (c_X5_ratio a1.2.2.1 a2.cl a2.X a2.T l _ e1) ⟨rfl, rfl, Nat.le_of_ble_eq_true rfl, Nat.le_of_ble_eq_true rfl⟩ (Nat.le_of_ble_eq_true rfl) ⟨by have := hcs.1; omega, by have := hcs.2; omega⟩ hl d_law_1296 (by rw [hqx]; rfl) (fun H1 locs1 hLS1 => ?_)
  have hS2 := hLS1.2.2.2.2
  refine lv_aload_n hx hb d_law_1299 rfl (lv_at hl 2 rfl) ?_
  refine lw_arg (j := 1) hF hLb hS2 hl h0 h4 (by omega) rfl d_law_1300 d_law_1301 d_law_1303 d_law_1304 d_law_1305 ?_
  refine lw_arg (j := 2) hF hLb hS2 hl h0 h4 (by omega) rfl d_law_1306 d_law_1307 d_law_1309 d_law_1310 d_law_1311 ?_
  refine lw_m (n := 2) (st := [.int r]) (μ1 := μ1) hF hLS1 y_X6_ratio q1878 [.inl (.int (xs (i + 1))), .inl (.int (xs (i + 2)))] rfl rfl (r := r) (c_X6_ratio b1.2.2.1 b2 l _ _ e2) ⟨rfl, rfl, Nat.le_of_ble_eq_true rfl, Nat.le_of_ble_eq_true rfl⟩ (Nat.le_of_ble_eq_true rfl) ⟨by have := hcs.1; omega, by have := hcs.2; omega⟩ hl d_law_1312 (by rw [hqm]; rfl) (fun H2 locs2 hLS2 => ?_)
  refine lv_icmp_eq (tgt := 1630) hx hb d_law_1315 (by decide) (fun _ => ?_) (fun z => absurd rfl z)
  refine W.widen (k := cs + 40) (n := ss + 4000) (by omega) (by omega) ?_
  exact kk _ _ _ _ _ _ _ hLS2 hqx hI1 hl
theorem law_29 {p : Program} {l : Launch} {e : Env} {s : State} {m : MethodId} {below : List Frame} {meth : Method} {c : Code} {b L : Nat} {xs : Nat → Int32} {Q : State → Prop} {H : Heap} {locs : List Loc} {cs ss : Nat} {ls : Array Slot} {D : va_G} {cA : ClassId} {qo qx qm n0 i cc : Nat} {M : Mem} {μ : Sl} {Gx Gm : Geo} (hF : LF p s m c b L xs) (hP : KP0 s D cA qo qx qm b L i cc n0 M μ Gx Gm H locs ls cs ss) (kk : KK p l e s m below meth c b Q D cA qo qx qm Gm i cc cs ss) : W p l e room_1 s m #[Value.ref b] below meth c H locs cs ss Q (F0 m 1320 ls []) := by
  obtain ⟨hLS, hqx, hqm, hI, hcc, hl, hi, hLb, hcs⟩ := hP
  obtain ⟨hx, hb, hml, hown, hts, hX, hbl⟩ := id hF
  obtain ⟨⟨a1, a2, a3, a4, a5⟩, ⟨b1, b2, b3⟩, -, -, hS⟩ := id hLS
  have h0 := lv_at hl 0 rfl
  have h4 := lv_at hl 4 rfl
  obtain ⟨r, M1, μ1, e1, e2, hI1⟩ := top_cool hI (xs (i + 1))
  refine lv_aload_n hx hb d_law_1320 rfl (lv_at hl 1 rfl) ?_
  refine lw_arg (j := 1) hF hLb hS hl h0 h4 (by omega) rfl d_law_1321 d_law_1322 d_law_1324 d_law_1325 d_law_1326 ?_
  refine lw_q (n := 1) (st := []) (M1 := M1) hF hLS y_X5_cool q1037 [.inl (.int (xs (i + 1)))] rfl rfl (r := r) (c_X5_cool a1.2.2.1 a2.cl a2.X a2.T l _ _ e1) ⟨rfl, rfl, Nat.le_of_ble_eq_true rfl, Nat.le_of_ble_eq_true rfl⟩ (Nat.le_of_ble_eq_true rfl) ⟨by have := hcs.1; omega, by have := hcs.2; omega⟩ hl d_law_1327 (by rw [hqx]; rfl) (fun H1 locs1 hLS1 => ?_)
  have hS2 := hLS1.2.2.2.2
  refine lv_aload_n hx hb d_law_1330 rfl (lv_at hl 2 rfl) ?_
  refine lw_arg (j := 1) hF hLb hS2 hl h0 h4 (by omega) rfl d_law_1331 d_law_1332 d_law_1334 d_law_1335 d_law_1336 ?_
  refine lw_m (n := 1) (st := [.int r]) (μ1 := μ1) hF hLS1 y_X6_cool q1886 [.inl (.int (xs (i + 1)))] rfl rfl (r := r) (c_X6_cool b1.2.2.1 b2 l _ _ e2) ⟨rfl, rfl, Nat.le_of_ble_eq_true rfl, Nat.le_of_ble_eq_true rfl⟩ (Nat.le_of_ble_eq_true rfl) ⟨by have := hcs.1; omega, by have := hcs.2; omega⟩ hl d_law_1337 (by rw [hqm]; rfl) (fun H2 locs2 hLS2 => ?_)
  refine lv_icmp_eq (tgt := 1630) hx hb d_law_1340 (by decide) (fun _ => ?_) (fun z => absurd rfl z)
  refine W.widen (k := cs + 40) (n := ss + 4000) (by omega) (by omega) ?_
  exact kk _ _ _ _ _ _ _ hLS2 hqx hI1 hl
theorem law_30 {p : Program} {l : Launch} {e : Env} {s : State} {m : MethodId} {below : List Frame} {meth : Method} {c : Code} {b L : Nat} {xs : Nat → Int32} {Q : State → Prop} {H : Heap} {locs : List Loc} {cs ss : Nat} {ls : Array Slot} {D : va_G} {cA : ClassId} {qo qx qm n0 i cc : Nat} {M : Mem} {μ : Sl} {Gx Gm : Geo} (hF : LF p s m c b L xs) (hP : KP0 s D cA qo qx qm b L i cc n0 M μ Gx Gm H locs ls cs ss) (kk : KK p l e s m below meth c b Q D cA qo qx qm Gm i cc cs ss) : W p l e room_1 s m #[Value.ref b] below meth c H locs cs ss Q (F0 m 1345 ls []) := by
  obtain ⟨hLS, hqx, hqm, hI, hcc, hl, hi, hLb, hcs⟩ := hP
  obtain ⟨hx, hb, hml, hown, hts, hX, hbl⟩ := id hF
  obtain ⟨⟨a1, a2, a3, a4, a5⟩, ⟨b1, b2, b3⟩, -, -, hS⟩ := id hLS
  have h0 := lv_at hl 0 rfl
  have h4 := lv_at hl 4 rfl
  obtain ⟨r, μ1, e1, e2, hI1⟩ := top_kept hI (xs (i + 1))
  refine lv_aload_n hx hb d_law_1345 rfl (lv_at hl 1 rfl) ?_
  refine lw_arg (j := 1) hF hLb hS hl h0 h4 (by omega) rfl d_law_1346 d_law_1347 d_law_1349 d_law_1350 d_law_1351 ?_
  refine lw_q (n := 1) (st := []) (M1 := M) hF hLS y_X5_kept q1041 [.inl (.int (xs (i + 1)))] rfl rfl (r := r) (c_X5_kept a1.2.2.1 a2.cl a2.X a2.T l _ e1) ⟨rfl, rfl, Nat.le_of_ble_eq_true rfl, Nat.le_of_ble_eq_true rfl⟩ (Nat.le_of_ble_eq_true rfl) ⟨by have := hcs.1; omega, by have := hcs.2; omega⟩ hl d_law_1352 (by rw [hqx]; rfl) (fun H1 locs1 hLS1 => ?_)
  have hS2 := hLS1.2.2.2.2
  refine lv_aload_n hx hb d_law_1355 rfl (lv_at hl 2 rfl) ?_
  refine lw_arg (j := 1) hF hLb hS2 hl h0 h4 (by omega) rfl d_law_1356 d_law_1357 d_law_1359 d_law_1360 d_law_1361 ?_
  refine lw_m (n := 1) (st := [.int r]) (μ1 := μ1) hF hLS1 y_X6_kept q1894 [.inl (.int (xs (i + 1)))] rfl rfl (r := r) (c_X6_kept b1.2.2.1 b2 l _ _ e2) ⟨rfl, rfl, Nat.le_of_ble_eq_true rfl, Nat.le_of_ble_eq_true rfl⟩ (Nat.le_of_ble_eq_true rfl) ⟨by have := hcs.1; omega, by have := hcs.2; omega⟩ hl d_law_1362 (by rw [hqm]; rfl) (fun H2 locs2 hLS2 => ?_)
  refine lv_icmp_eq (tgt := 1630) hx hb d_law_1365 (by decide) (fun _ => ?_) (fun z => absurd rfl z)
  refine W.widen (k := cs + 40) (n := ss + 4000) (by omega) (by omega) ?_
  exact kk _ _ _ _ _ _ _ hLS2 hqx hI1 hl
theorem law_31 {p : Program} {l : Launch} {e : Env} {s : State} {m : MethodId} {below : List Frame} {meth : Method} {c : Code} {b L : Nat} {xs : Nat → Int32} {Q : State → Prop} {H : Heap} {locs : List Loc} {cs ss : Nat} {ls : Array Slot} {D : va_G} {cA : ClassId} {qo qx qm n0 i cc : Nat} {M : Mem} {μ : Sl} {Gx Gm : Geo} (hF : LF p s m c b L xs) (hP : KP0 s D cA qo qx qm b L i cc n0 M μ Gx Gm H locs ls cs ss) (kk : KK p l e s m below meth c b Q D cA qo qx qm Gm i cc cs ss) : W p l e room_1 s m #[Value.ref b] below meth c H locs cs ss Q (F0 m 1370 ls []) := by
  obtain ⟨hLS, hqx, hqm, hI, hcc, hl, hi, hLb, hcs⟩ := hP
  obtain ⟨hx, hb, hml, hown, hts, hX, hbl⟩ := id hF
  obtain ⟨⟨a1, a2, a3, a4, a5⟩, ⟨b1, b2, b3⟩, -, -, hS⟩ := id hLS
  have h0 := lv_at hl 0 rfl
  have h4 := lv_at hl 4 rfl
  obtain ⟨r, μ1, e1, e2, hI1⟩ := top_job hI hcc (xs (i + 1)) (xs (i + 2))
  refine lv_aload_n hx hb d_law_1370 rfl (lv_at hl 1 rfl) ?_
  refine lw_arg (j := 1) hF hLb hS hl h0 h4 (by omega) rfl d_law_1371 d_law_1372 d_law_1374 d_law_1375 d_law_1376 ?_
  refine lw_arg (j := 2) hF hLb hS hl h0 h4 (by omega) rfl d_law_1377 d_law_1378 d_law_1380 d_law_1381 d_law_1382 ?_
  refine lw_q (n := 2) (st := []) (M1 := M) hF hLS y_X5_job q1049 [.inl (.int (xs (i + 1))), .inl (.int (xs (i + 2)))] rfl rfl (r := r) (c_X5_job a1.2.2.1 a2.cl a2.X a2.T l _ e1) ⟨rfl, rfl, Nat.le_of_ble_eq_true rfl, Nat.le_of_ble_eq_true rfl⟩ (Nat.le_of_ble_eq_true rfl) ⟨by have := hcs.1; omega, by have := hcs.2; omega⟩ hl d_law_1383 (by rw [hqx]; rfl) (fun H1 locs1 hLS1 => ?_)
  have hS2 := hLS1.2.2.2.2
  refine lv_aload_n hx hb d_law_1386 rfl (lv_at hl 2 rfl) ?_
  refine lw_arg (j := 1) hF hLb hS2 hl h0 h4 (by omega) rfl d_law_1387 d_law_1388 d_law_1390 d_law_1391 d_law_1392 ?_
  refine lw_arg (j := 2) hF hLb hS2 hl h0 h4 (by omega) rfl d_law_1393 d_law_1394 d_law_1396 d_law_1397 d_law_1398 ?_
  refine lw_m (n := 2) (st := [.int r]) (μ1 := μ1) hF hLS1 y_X6_job q1898 [.inl (.int (xs (i + 1))), .inl (.int (xs (i + 2)))] rfl rfl (r := r) (c_X6_job b1.2.2.1 b2 l _ _ e2) ⟨rfl, rfl, Nat.le_of_ble_eq_true rfl, Nat.le_of_ble_eq_true rfl⟩ (Nat.le_of_ble_eq_true rfl) ⟨by have := hcs.1; omega, by have := hcs.2; omega⟩ hl d_law_1399 (by rw [hqm]; rfl) (fun H2 locs2 hLS2 => ?_)
  refine lv_icmp_eq (tgt := 1630) hx hb d_law_1402 (by decide) (fun _ => ?_) (fun z => absurd rfl z)
  refine W.widen (k := cs + 40) (n := ss + 4000) (by omega) (by omega) ?_
  exact kk _ _ _ _ _ _ _ hLS2 hqx hI1 hl
theorem law_32 {p : Program} {l : Launch} {e : Env} {s : State} {m : MethodId} {below : List Frame} {meth : Method} {c : Code} {b L : Nat} {xs : Nat → Int32} {Q : State → Prop} {H : Heap} {locs : List Loc} {cs ss : Nat} {ls : Array Slot} {D : va_G} {cA : ClassId} {qo qx qm n0 i cc : Nat} {M : Mem} {μ : Sl} {Gx Gm : Geo} (hF : LF p s m c b L xs) (hP : KP0 s D cA qo qx qm b L i cc n0 M μ Gx Gm H locs ls cs ss) (kk : KK p l e s m below meth c b Q D cA qo qx qm Gm i cc cs ss) : W p l e room_1 s m #[Value.ref b] below meth c H locs cs ss Q (F0 m 1407 ls []) := by
  obtain ⟨hLS, hqx, hqm, hI, hcc, hl, hi, hLb, hcs⟩ := hP
  obtain ⟨hx, hb, hml, hown, hts, hX, hbl⟩ := id hF
  obtain ⟨⟨a1, a2, a3, a4, a5⟩, ⟨b1, b2, b3⟩, -, -, hS⟩ := id hLS
  have h0 := lv_at hl 0 rfl
  have h4 := lv_at hl 4 rfl
  obtain ⟨r, μ1, e1, e2, hI1⟩ := top_waits hI hcc (xs (i + 1)) (xs (i + 2))
  refine lv_aload_n hx hb d_law_1407 rfl (lv_at hl 1 rfl) ?_
  refine lw_arg (j := 1) hF hLb hS hl h0 h4 (by omega) rfl d_law_1408 d_law_1409 d_law_1411 d_law_1412 d_law_1413 ?_
  refine lw_arg (j := 2) hF hLb hS hl h0 h4 (by omega) rfl d_law_1414 d_law_1415 d_law_1417 d_law_1418 d_law_1419 ?_
  refine lw_q (n := 2) (st := []) (M1 := M) hF hLS y_X5_waits q1061 [.inl (.int (xs (i + 1))), .inl (.int (xs (i + 2)))] rfl rfl (r := r) (c_X5_waits a1.2.2.1 a2.cl a2.X a2.T l _ e1) ⟨rfl, rfl, Nat.le_of_ble_eq_true rfl, Nat.le_of_ble_eq_true rfl⟩ (Nat.le_of_ble_eq_true rfl) ⟨by have := hcs.1; omega, by have := hcs.2; omega⟩ hl d_law_1420 (by rw [hqx]; rfl) (fun H1 locs1 hLS1 => ?_)
  have hS2 := hLS1.2.2.2.2
  refine lv_aload_n hx hb d_law_1423 rfl (lv_at hl 2 rfl) ?_
  refine lw_arg (j := 1) hF hLb hS2 hl h0 h4 (by omega) rfl d_law_1424 d_law_1425 d_law_1427 d_law_1428 d_law_1429 ?_
  refine lw_arg (j := 2) hF hLb hS2 hl h0 h4 (by omega) rfl d_law_1430 d_law_1431 d_law_1433 d_law_1434 d_law_1435 ?_
  refine lw_m (n := 2) (st := [.int r]) (μ1 := μ1) hF hLS1 y_X6_waits q1902 [.inl (.int (xs (i + 1))), .inl (.int (xs (i + 2)))] rfl rfl (r := r) (c_X6_waits b1.2.2.1 b2 l _ _ e2) ⟨rfl, rfl, Nat.le_of_ble_eq_true rfl, Nat.le_of_ble_eq_true rfl⟩ (Nat.le_of_ble_eq_true rfl) ⟨by have := hcs.1; omega, by have := hcs.2; omega⟩ hl d_law_1436 (by rw [hqm]; rfl) (fun H2 locs2 hLS2 => ?_)
  refine lv_icmp_eq (tgt := 1630) hx hb d_law_1439 (by decide) (fun _ => ?_) (fun z => absurd rfl z)
  refine W.widen (k := cs + 40) (n := ss + 4000) (by omega) (by omega) ?_
  exact kk _ _ _ _ _ _ _ hLS2 hqx hI1 hl
theorem law_33 {p : Program} {l : Launch} {e : Env} {s : State} {m : MethodId} {below : List Frame} {meth : Method} {c : Code} {b L : Nat} {xs : Nat → Int32} {Q : State → Prop} {H : Heap} {locs : List Loc} {cs ss : Nat} {ls : Array Slot} {D : va_G} {cA : ClassId} {qo qx qm n0 i cc : Nat} {M : Mem} {μ : Sl} {Gx Gm : Geo} (hF : LF p s m c b L xs) (hP : KP0 s D cA qo qx qm b L i cc n0 M μ Gx Gm H locs ls cs ss) (kk : KK p l e s m below meth c b Q D cA qo qx qm Gm i cc cs ss) : W p l e room_1 s m #[Value.ref b] below meth c H locs cs ss Q (F0 m 1444 ls []) := by
  obtain ⟨hLS, hqx, hqm, hI, hcc, hl, hi, hLb, hcs⟩ := hP
  obtain ⟨hx, hb, hml, hown, hts, hX, hbl⟩ := id hF
  obtain ⟨⟨a1, a2, a3, a4, a5⟩, ⟨b1, b2, b3⟩, -, -, hS⟩ := id hLS
  have h0 := lv_at hl 0 rfl
  have h4 := lv_at hl 4 rfl
  obtain ⟨r, μ1, e1, e2, hI1⟩ := top_lost hI (xs (i + 1)) (xs (i + 2)) (xs (i + 3))
  refine lv_aload_n hx hb d_law_1444 rfl (lv_at hl 1 rfl) ?_
  refine lw_arg (j := 1) hF hLb hS hl h0 h4 (by omega) rfl d_law_1445 d_law_1446 d_law_1448 d_law_1449 d_law_1450 ?_
  refine lw_arg (j := 2) hF hLb hS hl h0 h4 (by omega) rfl d_law_1451 d_law_1452 d_law_1454 d_law_1455 d_law_1456 ?_
  refine lw_arg (j := 3) hF hLb hS hl h0 h4 (by omega) rfl d_law_1457 d_law_1458 d_law_1460 d_law_1461 d_law_1462 ?_
  refine lw_q (n := 3) (st := []) (M1 := M) hF hLS y_X5_lost q1073 [.inl (.int (xs (i + 1))), .inl (.int (xs (i + 2))), .inl (.int (xs (i + 3)))] rfl rfl (r := r) (c_X5_lost a1.2.2.1 a2.cl a2.X a2.T l _ e1) ⟨rfl, rfl, Nat.le_of_ble_eq_true rfl, Nat.le_of_ble_eq_true rfl⟩ (Nat.le_of_ble_eq_true rfl) ⟨by have := hcs.1; omega, by have := hcs.2; omega⟩ hl d_law_1463 (by rw [hqx]; rfl) (fun H1 locs1 hLS1 => ?_)
  have hS2 := hLS1.2.2.2.2
  refine lv_aload_n hx hb d_law_1466 rfl (lv_at hl 2 rfl) ?_
  refine lw_arg (j := 1) hF hLb hS2 hl h0 h4 (by omega) rfl d_law_1467 d_law_1468 d_law_1470 d_law_1471 d_law_1472 ?_
  refine lw_arg (j := 2) hF hLb hS2 hl h0 h4 (by omega) rfl d_law_1473 d_law_1474 d_law_1476 d_law_1477 d_law_1478 ?_
  refine lw_arg (j := 3) hF hLb hS2 hl h0 h4 (by omega) rfl d_law_1479 d_law_1480 d_law_1482 d_law_1483 d_law_1484 ?_
  refine lw_m (n := 3) (st := [.int r]) (μ1 := μ1) hF hLS1 y_X6_lost q1906 [.inl (.int (xs (i + 1))), .inl (.int (xs (i + 2))), .inl (.int (xs (i + 3)))] rfl rfl (r := r) (c_X6_lost b1.2.2.1 b2 l _ _ e2) ⟨rfl, rfl, Nat.le_of_ble_eq_true rfl, Nat.le_of_ble_eq_true rfl⟩ (Nat.le_of_ble_eq_true rfl) ⟨by have := hcs.1; omega, by have := hcs.2; omega⟩ hl d_law_1485 (by rw [hqm]; rfl) (fun H2 locs2 hLS2 => ?_)
  refine lv_icmp_eq (tgt := 1630) hx hb d_law_1488 (by decide) (fun _ => ?_) (fun z => absurd rfl z)
  refine W.widen (k := cs + 40) (n := ss + 4000) (by omega) (by omega) ?_
  exact kk _ _ _ _ _ _ _ hLS2 hqx hI1 hl
theorem law_34 {p : Program} {l : Launch} {e : Env} {s : State} {m : MethodId} {below : List Frame} {meth : Method} {c : Code} {b L : Nat} {xs : Nat → Int32} {Q : State → Prop} {H : Heap} {locs : List Loc} {cs ss : Nat} {ls : Array Slot} {D : va_G} {cA : ClassId} {qo qx qm n0 i cc : Nat} {M : Mem} {μ : Sl} {Gx Gm : Geo} (hF : LF p s m c b L xs) (hP : KP0 s D cA qo qx qm b L i cc n0 M μ Gx Gm H locs ls cs ss) (kk : KK p l e s m below meth c b Q D cA qo qx qm Gm i cc cs ss) : W p l e room_1 s m #[Value.ref b] below meth c H locs cs ss Q (F0 m 1493 ls []) := by
  obtain ⟨hLS, hqx, hqm, hI, hcc, hl, hi, hLb, hcs⟩ := hP
  obtain ⟨hx, hb, hml, hown, hts, hX, hbl⟩ := id hF
  obtain ⟨⟨a1, a2, a3, a4, a5⟩, ⟨b1, b2, b3⟩, -, -, hS⟩ := id hLS
  have h0 := lv_at hl 0 rfl
  have h4 := lv_at hl 4 rfl
  obtain ⟨r, M1, μ1, e1, e2, hI1⟩ := top_steps hI hcc (xs (i + 1)) (xs (i + 2))
  refine lv_aload_n hx hb d_law_1493 rfl (lv_at hl 1 rfl) ?_
  refine lw_arg (j := 1) hF hLb hS hl h0 h4 (by omega) rfl d_law_1494 d_law_1495 d_law_1497 d_law_1498 d_law_1499 ?_
  refine lw_arg (j := 2) hF hLb hS hl h0 h4 (by omega) rfl d_law_1500 d_law_1501 d_law_1503 d_law_1504 d_law_1505 ?_
  refine lw_q (n := 2) (st := []) (M1 := M1) hF hLS y_X5_steps q1085 [.inl (.int (xs (i + 1))), .inl (.int (xs (i + 2)))] rfl rfl (r := r) (c_X5_steps a1.2.2.1 a2.cl a2.X a2.T l _ _ e1) ⟨rfl, rfl, Nat.le_of_ble_eq_true rfl, Nat.le_of_ble_eq_true rfl⟩ (Nat.le_of_ble_eq_true rfl) ⟨by have := hcs.1; omega, by have := hcs.2; omega⟩ hl d_law_1506 (by rw [hqx]; rfl) (fun H1 locs1 hLS1 => ?_)
  have hS2 := hLS1.2.2.2.2
  refine lv_aload_n hx hb d_law_1509 rfl (lv_at hl 2 rfl) ?_
  refine lw_arg (j := 1) hF hLb hS2 hl h0 h4 (by omega) rfl d_law_1510 d_law_1511 d_law_1513 d_law_1514 d_law_1515 ?_
  refine lw_arg (j := 2) hF hLb hS2 hl h0 h4 (by omega) rfl d_law_1516 d_law_1517 d_law_1519 d_law_1520 d_law_1521 ?_
  refine lw_m (n := 2) (st := [.int r]) (μ1 := μ1) hF hLS1 y_X6_steps q1914 [.inl (.int (xs (i + 1))), .inl (.int (xs (i + 2)))] rfl rfl (r := r) (c_X6_steps b1.2.2.1 b2 l _ _ e2) ⟨rfl, rfl, Nat.le_of_ble_eq_true rfl, Nat.le_of_ble_eq_true rfl⟩ (Nat.le_of_ble_eq_true rfl) ⟨by have := hcs.1; omega, by have := hcs.2; omega⟩ hl d_law_1522 (by rw [hqm]; rfl) (fun H2 locs2 hLS2 => ?_)
  refine lv_icmp_eq (tgt := 1630) hx hb d_law_1525 (by decide) (fun _ => ?_) (fun z => absurd rfl z)
  refine W.widen (k := cs + 40) (n := ss + 4000) (by omega) (by omega) ?_
  exact kk _ _ _ _ _ _ _ hLS2 hqx hI1 hl
theorem law_35 {p : Program} {l : Launch} {e : Env} {s : State} {m : MethodId} {below : List Frame} {meth : Method} {c : Code} {b L : Nat} {xs : Nat → Int32} {Q : State → Prop} {H : Heap} {locs : List Loc} {cs ss : Nat} {ls : Array Slot} {D : va_G} {cA : ClassId} {qo qx qm n0 i cc : Nat} {M : Mem} {μ : Sl} {Gx Gm : Geo} (hF : LF p s m c b L xs) (hP : KP0 s D cA qo qx qm b L i cc n0 M μ Gx Gm H locs ls cs ss) (kk : KK p l e s m below meth c b Q D cA qo qx qm Gm i cc cs ss) : W p l e room_1 s m #[Value.ref b] below meth c H locs cs ss Q (F0 m 1530 ls []) := by
  obtain ⟨hLS, hqx, hqm, hI, hcc, hl, hi, hLb, hcs⟩ := hP
  obtain ⟨hx, hb, hml, hown, hts, hX, hbl⟩ := id hF
  obtain ⟨⟨a1, a2, a3, a4, a5⟩, ⟨b1, b2, b3⟩, -, -, hS⟩ := id hLS
  have h0 := lv_at hl 0 rfl
  have h4 := lv_at hl 4 rfl
  obtain ⟨r, M1, μ1, e1, e2, hI1⟩ := top_tried hI hcc (xs (i + 1))
  refine lv_aload_n hx hb d_law_1530 rfl (lv_at hl 1 rfl) ?_
  refine lw_arg (j := 1) hF hLb hS hl h0 h4 (by omega) rfl d_law_1531 d_law_1532 d_law_1534 d_law_1535 d_law_1536 ?_
  refine lw_q (n := 1) (st := []) (M1 := M1) hF hLS y_X5_tried q1089 [.inl (.int (xs (i + 1)))] rfl rfl (r := r) (c_X5_tried a1.2.2.1 a2.cl a2.X a2.T l _ _ e1) ⟨rfl, rfl, Nat.le_of_ble_eq_true rfl, Nat.le_of_ble_eq_true rfl⟩ (Nat.le_of_ble_eq_true rfl) ⟨by have := hcs.1; omega, by have := hcs.2; omega⟩ hl d_law_1537 (by rw [hqx]; rfl) (fun H1 locs1 hLS1 => ?_)
  have hS2 := hLS1.2.2.2.2
  refine lv_aload_n hx hb d_law_1540 rfl (lv_at hl 2 rfl) ?_
  refine lw_arg (j := 1) hF hLb hS2 hl h0 h4 (by omega) rfl d_law_1541 d_law_1542 d_law_1544 d_law_1545 d_law_1546 ?_
  refine lw_m (n := 1) (st := [.int r]) (μ1 := μ1) hF hLS1 y_X6_tried q1918 [.inl (.int (xs (i + 1)))] rfl rfl (r := r) (c_X6_tried b1.2.2.1 b2 l _ _ e2) ⟨rfl, rfl, Nat.le_of_ble_eq_true rfl, Nat.le_of_ble_eq_true rfl⟩ (Nat.le_of_ble_eq_true rfl) ⟨by have := hcs.1; omega, by have := hcs.2; omega⟩ hl d_law_1547 (by rw [hqm]; rfl) (fun H2 locs2 hLS2 => ?_)
  refine lv_icmp_eq (tgt := 1630) hx hb d_law_1550 (by decide) (fun _ => ?_) (fun z => absurd rfl z)
  refine W.widen (k := cs + 40) (n := ss + 4000) (by omega) (by omega) ?_
  exact kk _ _ _ _ _ _ _ hLS2 hqx hI1 hl
theorem law_36 {p : Program} {l : Launch} {e : Env} {s : State} {m : MethodId} {below : List Frame} {meth : Method} {c : Code} {b L : Nat} {xs : Nat → Int32} {Q : State → Prop} {H : Heap} {locs : List Loc} {cs ss : Nat} {ls : Array Slot} {D : va_G} {cA : ClassId} {qo qx qm n0 i cc : Nat} {M : Mem} {μ : Sl} {Gx Gm : Geo} (hF : LF p s m c b L xs) (hP : KP0 s D cA qo qx qm b L i cc n0 M μ Gx Gm H locs ls cs ss) (kk : KK p l e s m below meth c b Q D cA qo qx qm Gm i cc cs ss) : W p l e room_1 s m #[Value.ref b] below meth c H locs cs ss Q (F0 m 1555 ls []) := by
  obtain ⟨hLS, hqx, hqm, hI, hcc, hl, hi, hLb, hcs⟩ := hP
  obtain ⟨hx, hb, hml, hown, hts, hX, hbl⟩ := id hF
  obtain ⟨⟨a1, a2, a3, a4, a5⟩, ⟨b1, b2, b3⟩, -, -, hS⟩ := id hLS
  have h0 := lv_at hl 0 rfl
  have h4 := lv_at hl 4 rfl
  obtain ⟨r, M1, μ1, e1, e2, hI1⟩ := top_churn hI hcc (xs (i + 1)) (xs (i + 2))
  refine lv_aload_n hx hb d_law_1555 rfl (lv_at hl 1 rfl) ?_
  refine lw_arg (j := 1) hF hLb hS hl h0 h4 (by omega) rfl d_law_1556 d_law_1557 d_law_1559 d_law_1560 d_law_1561 ?_
  refine lw_arg (j := 2) hF hLb hS hl h0 h4 (by omega) rfl d_law_1562 d_law_1563 d_law_1565 d_law_1566 d_law_1567 ?_
  refine lw_q (n := 2) (st := []) (M1 := M1) hF hLS y_X5_churn q1101 [.inl (.int (xs (i + 1))), .inl (.int (xs (i + 2)))] rfl rfl (r := r) (c_X5_churn a1.2.2.1 a2.cl a2.X a2.T l _ _ e1) ⟨rfl, rfl, Nat.le_of_ble_eq_true rfl, Nat.le_of_ble_eq_true rfl⟩ (Nat.le_of_ble_eq_true rfl) ⟨by have := hcs.1; omega, by have := hcs.2; omega⟩ hl d_law_1568 (by rw [hqx]; rfl) (fun H1 locs1 hLS1 => ?_)
  have hS2 := hLS1.2.2.2.2
  refine lv_aload_n hx hb d_law_1571 rfl (lv_at hl 2 rfl) ?_
  refine lw_arg (j := 1) hF hLb hS2 hl h0 h4 (by omega) rfl d_law_1572 d_law_1573 d_law_1575 d_law_1576 d_law_1577 ?_
  refine lw_arg (j := 2) hF hLb hS2 hl h0 h4 (by omega) rfl d_law_1578 d_law_1579 d_law_1581 d_law_1582 d_law_1583 ?_
  refine lw_m (n := 2) (st := [.int r]) (μ1 := μ1) hF hLS1 y_X6_churn q1926 [.inl (.int (xs (i + 1))), .inl (.int (xs (i + 2)))] rfl rfl (r := r) (c_X6_churn b1.2.2.1 b2 l _ _ e2) ⟨rfl, rfl, Nat.le_of_ble_eq_true rfl, Nat.le_of_ble_eq_true rfl⟩ (Nat.le_of_ble_eq_true rfl) ⟨by have := hcs.1; omega, by have := hcs.2; omega⟩ hl d_law_1584 (by rw [hqm]; rfl) (fun H2 locs2 hLS2 => ?_)
  refine lv_icmp_eq (tgt := 1630) hx hb d_law_1587 (by decide) (fun _ => ?_) (fun z => absurd rfl z)
  refine W.widen (k := cs + 40) (n := ss + 4000) (by omega) (by omega) ?_
  exact kk _ _ _ _ _ _ _ hLS2 hqx hI1 hl
theorem law_37 {p : Program} {l : Launch} {e : Env} {s : State} {m : MethodId} {below : List Frame} {meth : Method} {c : Code} {b L : Nat} {xs : Nat → Int32} {Q : State → Prop} {H : Heap} {locs : List Loc} {cs ss : Nat} {ls : Array Slot} {D : va_G} {cA : ClassId} {qo qx qm n0 i cc : Nat} {M : Mem} {μ : Sl} {Gx Gm : Geo} (hF : LF p s m c b L xs) (hP : KP0 s D cA qo qx qm b L i cc n0 M μ Gx Gm H locs ls cs ss) (kk : KK p l e s m below meth c b Q D cA qo qx qm Gm i cc cs ss) : W p l e room_1 s m #[Value.ref b] below meth c H locs cs ss Q (F0 m 1592 ls []) := by
  obtain ⟨hLS, hqx, hqm, hI, hcc, hl, hi, hLb, hcs⟩ := hP
  obtain ⟨hx, hb, hml, hown, hts, hX, hbl⟩ := id hF
  obtain ⟨⟨a1, a2, a3, a4, a5⟩, ⟨b1, b2, b3⟩, -, -, hS⟩ := id hLS
  have h0 := lv_at hl 0 rfl
  have h4 := lv_at hl 4 rfl
  obtain ⟨r, M1, μ1, e1, e2, hI1⟩ := top_undo hI 
  refine lv_aload_n hx hb d_law_1592 rfl (lv_at hl 1 rfl) ?_
  refine lw_q (n := 0) (st := []) (M1 := M1) hF hLS y_X5_undo q1109 [] rfl rfl (r := r) (c_X5_undo a1.2.2.1 a2.cl a2.X a2.T l _ _ e1) ⟨rfl, rfl, Nat.le_of_ble_eq_true rfl, Nat.le_of_ble_eq_true rfl⟩ (Nat.le_of_ble_eq_true rfl) ⟨by have := hcs.1; omega, by have := hcs.2; omega⟩ hl d_law_1593 (by rw [hqx]; rfl) (fun H1 locs1 hLS1 => ?_)
  have hS2 := hLS1.2.2.2.2
  refine lv_aload_n hx hb d_law_1596 rfl (lv_at hl 2 rfl) ?_
  refine lw_m (n := 0) (st := [.int r]) (μ1 := μ1) hF hLS1 y_X6_undo q1468 [] rfl rfl (r := r) (c_X6_undo b1.2.2.1 b2 l _ _ e2) ⟨rfl, rfl, Nat.le_of_ble_eq_true rfl, Nat.le_of_ble_eq_true rfl⟩ (Nat.le_of_ble_eq_true rfl) ⟨by have := hcs.1; omega, by have := hcs.2; omega⟩ hl d_law_1597 (by rw [hqm]; rfl) (fun H2 locs2 hLS2 => ?_)
  refine lv_icmp_eq (tgt := 1630) hx hb d_law_1600 (by decide) (fun _ => ?_) (fun z => absurd rfl z)
  refine W.widen (k := cs + 40) (n := ss + 4000) (by omega) (by omega) ?_
  exact kk _ _ _ _ _ _ _ hLS2 hqx hI1 hl
theorem law_38 {p : Program} {l : Launch} {e : Env} {s : State} {m : MethodId} {below : List Frame} {meth : Method} {c : Code} {b L : Nat} {xs : Nat → Int32} {Q : State → Prop} {H : Heap} {locs : List Loc} {cs ss : Nat} {ls : Array Slot} {D : va_G} {cA : ClassId} {qo qx qm n0 i cc : Nat} {M : Mem} {μ : Sl} {Gx Gm : Geo} (hF : LF p s m c b L xs) (hP : KP0 s D cA qo qx qm b L i cc n0 M μ Gx Gm H locs ls cs ss) (kk : KK p l e s m below meth c b Q D cA qo qx qm Gm i cc cs ss) : W p l e room_1 s m #[Value.ref b] below meth c H locs cs ss Q (F0 m 1605 ls []) := by
  obtain ⟨hLS, hqx, hqm, hI, hcc, hl, hi, hLb, hcs⟩ := hP
  obtain ⟨hx, hb, hml, hown, hts, hX, hbl⟩ := id hF
  obtain ⟨⟨a1, a2, a3, a4, a5⟩, ⟨b1, b2, b3⟩, -, -, hS⟩ := id hLS
  have h0 := lv_at hl 0 rfl
  have h4 := lv_at hl 4 rfl
  obtain ⟨r, μ1, e1, e2, hI1⟩ := top_count hI (xs (i + 1))
  refine lv_aload_n hx hb d_law_1605 rfl (lv_at hl 1 rfl) ?_
  refine lw_arg (j := 1) hF hLb hS hl h0 h4 (by omega) rfl d_law_1606 d_law_1607 d_law_1609 d_law_1610 d_law_1611 ?_
  refine lw_q (n := 1) (st := []) (M1 := M) hF hLS y_X5_count q1113 [.inl (.int (xs (i + 1)))] rfl rfl (r := r) (c_X5_count a1.2.2.1 a2.cl a2.X a2.T l _ e1) ⟨rfl, rfl, Nat.le_of_ble_eq_true rfl, Nat.le_of_ble_eq_true rfl⟩ (Nat.le_of_ble_eq_true rfl) ⟨by have := hcs.1; omega, by have := hcs.2; omega⟩ hl d_law_1612 (by rw [hqx]; rfl) (fun H1 locs1 hLS1 => ?_)
  have hS2 := hLS1.2.2.2.2
  refine lv_aload_n hx hb d_law_1615 rfl (lv_at hl 2 rfl) ?_
  refine lw_arg (j := 1) hF hLb hS2 hl h0 h4 (by omega) rfl d_law_1616 d_law_1617 d_law_1619 d_law_1620 d_law_1621 ?_
  refine lw_m (n := 1) (st := [.int r]) (μ1 := μ1) hF hLS1 y_X6_count q1938 [.inl (.int (xs (i + 1)))] rfl rfl (r := r) (c_X6_count b1.2.2.1 b2 l _ _ e2) ⟨rfl, rfl, Nat.le_of_ble_eq_true rfl, Nat.le_of_ble_eq_true rfl⟩ (Nat.le_of_ble_eq_true rfl) ⟨by have := hcs.1; omega, by have := hcs.2; omega⟩ hl d_law_1622 (by rw [hqm]; rfl) (fun H2 locs2 hLS2 => ?_)
  refine lv_icmp_eq (tgt := 1630) hx hb d_law_1625 (by decide) (fun _ => ?_) (fun z => absurd rfl z)
  refine W.widen (k := cs + 40) (n := ss + 4000) (by omega) (by omega) ?_
  exact kk _ _ _ _ _ _ _ hLS2 hqx hI1 hl
