theorem df_60 : ∀ (G : Geo) (k j : Nat), j < 12 → defaultValue (tyX3 j) = vp_V (fvs G k (rini cs60) 0 cs60) j := fun G k j hj => by
  match j, hj with
  | 0, _ => rfl
  | 1, _ => rfl
  | 2, _ => rfl
  | 3, _ => rfl
  | 4, _ => rfl
  | 5, _ => rfl
  | 6, _ => rfl
  | 7, _ => rfl
  | 8, _ => rfl
  | 9, _ => rfl
  | 10, _ => rfl
  | 11, _ => rfl
  | j + 12, h => omega
theorem no1_60 : ∀ (j b : Nat), cs60[j]? ≠ some (1, b) := fun j b h => by
  have := List.mem_of_getElem? h
  simp [cs60] at this
theorem df_61 : ∀ (G : Geo) (k j : Nat), j < 15 → defaultValue (tyX4 j) = vp_V (fvs G k (rini cs61) 0 cs61) j := fun G k j hj => by
  match j, hj with
  | 0, _ => rfl
  | 1, _ => rfl
  | 2, _ => rfl
  | 3, _ => rfl
  | 4, _ => rfl
  | 5, _ => rfl
  | 6, _ => rfl
  | 7, _ => rfl
  | 8, _ => rfl
  | 9, _ => rfl
  | 10, _ => rfl
  | 11, _ => rfl
  | 12, _ => rfl
  | 13, _ => rfl
  | 14, _ => rfl
  | j + 15, h => omega
theorem no1_61 : ∀ (j b : Nat), cs61[j]? ≠ some (1, b) := fun j b h => by
  have := List.mem_of_getElem? h
  simp [cs61] at this
theorem df_62 : ∀ (G : Geo) (k j : Nat), j < 20 → defaultValue (tyX0 j) = vp_V (fvs G k (rini cs62) 0 cs62) j := fun G k j hj => by
  match j, hj with
  | 0, _ => rfl
  | 1, _ => rfl
  | 2, _ => rfl
  | 3, _ => rfl
  | 4, _ => rfl
  | 5, _ => rfl
  | 6, _ => rfl
  | 7, _ => rfl
  | 8, _ => rfl
  | 9, _ => rfl
  | 10, _ => rfl
  | 11, _ => rfl
  | 12, _ => rfl
  | 13, _ => rfl
  | 14, _ => rfl
  | 15, _ => rfl
  | 16, _ => rfl
  | 17, _ => rfl
  | 18, _ => rfl
  | 19, _ => rfl
  | j + 20, h => omega
theorem no1_62 : ∀ (j b : Nat), cs62[j]? ≠ some (1, b) := fun j b h => by
  have := List.mem_of_getElem? h
  simp [cs62] at this
theorem df_63 : ∀ (G : Geo) (k j : Nat), j < 11 → defaultValue (tyX2 j) = vp_V (fvs G k (rini cs63) 0 cs63) j := fun G k j hj => by
  match j, hj with
  | 0, _ => rfl
  | 1, _ => rfl
  | 2, _ => rfl
  | 3, _ => rfl
  | 4, _ => rfl
  | 5, _ => rfl
  | 6, _ => rfl
  | 7, _ => rfl
  | 8, _ => rfl
  | 9, _ => rfl
  | 10, _ => rfl
  | j + 11, h => omega
theorem no1_63 : ∀ (j b : Nat), cs63[j]? ≠ some (1, b) := fun j b h => by
  have := List.mem_of_getElem? h
  simp [cs63] at this
theorem df_64 : ∀ (G : Geo) (k j : Nat), j < 10 → defaultValue (tyX5 j) = vp_V (fvs G k (rini cs64) 0 cs64) j := fun G k j hj => by
  match j, hj with
  | 0, _ => rfl
  | 1, _ => rfl
  | 2, _ => rfl
  | 3, _ => rfl
  | 4, _ => rfl
  | 5, _ => rfl
  | 6, _ => rfl
  | 7, _ => rfl
  | 8, _ => rfl
  | 9, _ => rfl
  | j + 10, h => omega
theorem no1_64 : ∀ (j b : Nat), cs64[j]? ≠ some (1, b) := fun j b h => by
  have := List.mem_of_getElem? h
  simp [cs64] at this
theorem df_65 : ∀ (G : Geo) (k j : Nat), j < 32 → defaultValue (tyX6 j) = vp_V (fvs G k (rini cs65) 0 cs65) j := fun G k j hj => by
  match j, hj with
  | 0, _ => rfl
  | 1, _ => rfl
  | 2, _ => rfl
  | 3, _ => rfl
  | 4, _ => rfl
  | 5, _ => rfl
  | 6, _ => rfl
  | 7, _ => rfl
  | 8, _ => rfl
  | 9, _ => rfl
  | 10, _ => rfl
  | 11, _ => rfl
  | 12, _ => rfl
  | 13, _ => rfl
  | 14, _ => rfl
  | 15, _ => rfl
  | 16, _ => rfl
  | 17, _ => rfl
  | 18, _ => rfl
  | 19, _ => rfl
  | 20, _ => rfl
  | 21, _ => rfl
  | 22, _ => rfl
  | 23, _ => rfl
  | 24, _ => rfl
  | 25, _ => rfl
  | 26, _ => rfl
  | 27, _ => rfl
  | 28, _ => rfl
  | 29, _ => rfl
  | 30, _ => rfl
  | 31, _ => rfl
  | j + 32, h => omega
theorem no1_65 : ∀ (j b : Nat), cs65[j]? ≠ some (1, b) := fun j b h => by
  have := List.mem_of_getElem? h
  simp [cs65] at this
theorem f_60_0 : FD 60 0 4 5 "FrameHeirs$Script" "names" "[I" true := ⟨2, cs60, TX3, 12, tyX3, rfl, rfl, rfl, by decide, inwX3, rfl, tyX3_ok, nmX3, rfl, by decide, by decide⟩
theorem f_60_1 : FD 60 1 4 6 "FrameHeirs$Script" "pagers" "[I" true := ⟨2, cs60, TX3, 12, tyX3, rfl, rfl, rfl, by decide, inwX3, rfl, tyX3_ok, nmX3, rfl, by decide, by decide⟩
theorem f_60_2 : FD 60 2 4 7 "FrameHeirs$Script" "ways" "[I" true := ⟨2, cs60, TX3, 12, tyX3, rfl, rfl, rfl, by decide, inwX3, rfl, tyX3_ok, nmX3, rfl, by decide, by decide⟩
theorem f_60_3 : FD 60 3 4 8 "FrameHeirs$Script" "quotas" "[I" true := ⟨2, cs60, TX3, 12, tyX3, rfl, rfl, rfl, by decide, inwX3, rfl, tyX3_ok, nmX3, rfl, by decide, by decide⟩
theorem f_60_4 : FD 60 4 4 9 "FrameHeirs$Script" "stepRows" "[I" true := ⟨2, cs60, TX3, 12, tyX3, rfl, rfl, rfl, by decide, inwX3, rfl, tyX3_ok, nmX3, rfl, by decide, by decide⟩
theorem f_60_5 : FD 60 5 0 0 "FrameHeirs$Script" "spaces" "I" false := ⟨2, cs60, TX3, 12, tyX3, rfl, rfl, rfl, by decide, inwX3, rfl, tyX3_ok, nmX3, rfl, by decide, by decide⟩
theorem f_60_6 : FD 60 6 0 0 "FrameHeirs$Script" "size" "I" false := ⟨2, cs60, TX3, 12, tyX3, rfl, rfl, rfl, by decide, inwX3, rfl, tyX3_ok, nmX3, rfl, by decide, by decide⟩
theorem f_60_7 : FD 60 7 0 0 "FrameHeirs$Script" "budget" "I" false := ⟨2, cs60, TX3, 12, tyX3, rfl, rfl, rfl, by decide, inwX3, rfl, tyX3_ok, nmX3, rfl, by decide, by decide⟩
theorem f_60_8 : FD 60 8 0 0 "FrameHeirs$Script" "decay" "I" false := ⟨2, cs60, TX3, 12, tyX3, rfl, rfl, rfl, by decide, inwX3, rfl, tyX3_ok, nmX3, rfl, by decide, by decide⟩
theorem f_60_9 : FD 60 9 0 0 "FrameHeirs$Script" "seed" "I" false := ⟨2, cs60, TX3, 12, tyX3, rfl, rfl, rfl, by decide, inwX3, rfl, tyX3_ok, nmX3, rfl, by decide, by decide⟩
theorem f_60_10 : FD 60 10 0 0 "FrameHeirs$Script" "stepCount" "I" false := ⟨2, cs60, TX3, 12, tyX3, rfl, rfl, rfl, by decide, inwX3, rfl, tyX3_ok, nmX3, rfl, by decide, by decide⟩
theorem f_60_11 : FD 60 11 0 0 "FrameHeirs$Script" "lines" "I" false := ⟨2, cs60, TX3, 12, tyX3, rfl, rfl, rfl, by decide, inwX3, rfl, tyX3_ok, nmX3, rfl, by decide, by decide⟩
theorem f_61_0 : FD 61 0 2 4 "FrameHeirs$World" "script" "LFrameHeirs$Script;" false := ⟨3, cs61, TX4, 15, tyX4, rfl, rfl, rfl, by decide, inwX4, rfl, tyX4_ok, nmX4, rfl, by decide, by decide⟩
theorem f_61_1 : FD 61 1 4 17 "FrameHeirs$World" "deeds" "LFrameHeirs$Deeds;" true := ⟨3, cs61, TX4, 15, tyX4, rfl, rfl, rfl, by decide, inwX4, rfl, tyX4_ok, nmX4, rfl, by decide, by decide⟩
theorem f_61_2 : FD 61 2 4 11 "FrameHeirs$World" "jobs" "[I" true := ⟨3, cs61, TX4, 15, tyX4, rfl, rfl, rfl, by decide, inwX4, rfl, tyX4_ok, nmX4, rfl, by decide, by decide⟩
theorem f_61_3 : FD 61 3 0 0 "FrameHeirs$World" "jobCount" "I" false := ⟨3, cs61, TX4, 15, tyX4, rfl, rfl, rfl, by decide, inwX4, rfl, tyX4_ok, nmX4, rfl, by decide, by decide⟩
theorem f_61_4 : FD 61 4 0 0 "FrameHeirs$World" "jobsMade" "I" false := ⟨3, cs61, TX4, 15, tyX4, rfl, rfl, rfl, by decide, inwX4, rfl, tyX4_ok, nmX4, rfl, by decide, by decide⟩
theorem f_61_5 : FD 61 5 4 12 "FrameHeirs$World" "waitPlace" "[I" true := ⟨3, cs61, TX4, 15, tyX4, rfl, rfl, rfl, by decide, inwX4, rfl, tyX4_ok, nmX4, rfl, by decide, by decide⟩
theorem f_61_6 : FD 61 6 4 13 "FrameHeirs$World" "waitRight" "[I" true := ⟨3, cs61, TX4, 15, tyX4, rfl, rfl, rfl, by decide, inwX4, rfl, tyX4_ok, nmX4, rfl, by decide, by decide⟩
theorem f_61_7 : FD 61 7 4 14 "FrameHeirs$World" "waitSince" "[I" true := ⟨3, cs61, TX4, 15, tyX4, rfl, rfl, rfl, by decide, inwX4, rfl, tyX4_ok, nmX4, rfl, by decide, by decide⟩
theorem f_61_8 : FD 61 8 0 0 "FrameHeirs$World" "waitsMade" "I" false := ⟨3, cs61, TX4, 15, tyX4, rfl, rfl, rfl, by decide, inwX4, rfl, tyX4_ok, nmX4, rfl, by decide, by decide⟩
theorem f_61_9 : FD 61 9 4 15 "FrameHeirs$World" "wide" "[I" true := ⟨3, cs61, TX4, 15, tyX4, rfl, rfl, rfl, by decide, inwX4, rfl, tyX4_ok, nmX4, rfl, by decide, by decide⟩
theorem f_61_10 : FD 61 10 4 16 "FrameHeirs$World" "answers" "[I" true := ⟨3, cs61, TX4, 15, tyX4, rfl, rfl, rfl, by decide, inwX4, rfl, tyX4_ok, nmX4, rfl, by decide, by decide⟩
theorem f_61_11 : FD 61 11 0 0 "FrameHeirs$World" "done" "I" false := ⟨3, cs61, TX4, 15, tyX4, rfl, rfl, rfl, by decide, inwX4, rfl, tyX4_ok, nmX4, rfl, by decide, by decide⟩
theorem f_61_12 : FD 61 12 0 0 "FrameHeirs$World" "faults" "I" false := ⟨3, cs61, TX4, 15, tyX4, rfl, rfl, rfl, by decide, inwX4, rfl, tyX4_ok, nmX4, rfl, by decide, by decide⟩
theorem f_61_13 : FD 61 13 0 0 "FrameHeirs$World" "refused" "I" false := ⟨3, cs61, TX4, 15, tyX4, rfl, rfl, rfl, by decide, inwX4, rfl, tyX4_ok, nmX4, rfl, by decide, by decide⟩
theorem f_61_14 : FD 61 14 0 0 "FrameHeirs$World" "worked" "I" false := ⟨3, cs61, TX4, 15, tyX4, rfl, rfl, rfl, by decide, inwX4, rfl, tyX4_ok, nmX4, rfl, by decide, by decide⟩
theorem f_62_0 : FD 62 0 4 18 "FrameHeirs$Deeds" "space" "[I" true := ⟨0, cs62, TX0, 20, tyX0, rfl, rfl, rfl, by decide, inwX0, rfl, tyX0_ok, nmX0, rfl, by decide, by decide⟩
theorem f_62_1 : FD 62 1 4 19 "FrameHeirs$Deeds" "place" "[I" true := ⟨0, cs62, TX0, 20, tyX0, rfl, rfl, rfl, by decide, inwX0, rfl, tyX0_ok, nmX0, rfl, by decide, by decide⟩
theorem f_62_2 : FD 62 2 4 20 "FrameHeirs$Deeds" "frame" "[I" true := ⟨0, cs62, TX0, 20, tyX0, rfl, rfl, rfl, by decide, inwX0, rfl, tyX0_ok, nmX0, rfl, by decide, by decide⟩
theorem f_62_3 : FD 62 3 4 21 "FrameHeirs$Deeds" "order" "[I" true := ⟨0, cs62, TX0, 20, tyX0, rfl, rfl, rfl, by decide, inwX0, rfl, tyX0_ok, nmX0, rfl, by decide, by decide⟩
theorem f_62_4 : FD 62 4 4 22 "FrameHeirs$Deeds" "rights" "[I" true := ⟨0, cs62, TX0, 20, tyX0, rfl, rfl, rfl, by decide, inwX0, rfl, tyX0_ok, nmX0, rfl, by decide, by decide⟩
theorem f_62_5 : FD 62 5 4 23 "FrameHeirs$Deeds" "giver" "[I" true := ⟨0, cs62, TX0, 20, tyX0, rfl, rfl, rfl, by decide, inwX0, rfl, tyX0_ok, nmX0, rfl, by decide, by decide⟩
theorem f_62_6 : FD 62 6 4 24 "FrameHeirs$Deeds" "first" "[I" true := ⟨0, cs62, TX0, 20, tyX0, rfl, rfl, rfl, by decide, inwX0, rfl, tyX0_ok, nmX0, rfl, by decide, by decide⟩
theorem f_62_7 : FD 62 7 4 25 "FrameHeirs$Deeds" "last" "[I" true := ⟨0, cs62, TX0, 20, tyX0, rfl, rfl, rfl, by decide, inwX0, rfl, tyX0_ok, nmX0, rfl, by decide, by decide⟩
theorem f_62_8 : FD 62 8 4 26 "FrameHeirs$Deeds" "next" "[I" true := ⟨0, cs62, TX0, 20, tyX0, rfl, rfl, rfl, by decide, inwX0, rfl, tyX0_ok, nmX0, rfl, by decide, by decide⟩
theorem f_62_9 : FD 62 9 4 27 "FrameHeirs$Deeds" "previous" "[I" true := ⟨0, cs62, TX0, 20, tyX0, rfl, rfl, rfl, by decide, inwX0, rfl, tyX0_ok, nmX0, rfl, by decide, by decide⟩
theorem f_62_10 : FD 62 10 4 28 "FrameHeirs$Deeds" "topOf" "[I" true := ⟨0, cs62, TX0, 20, tyX0, rfl, rfl, rfl, by decide, inwX0, rfl, tyX0_ok, nmX0, rfl, by decide, by decide⟩
theorem f_62_11 : FD 62 11 4 29 "FrameHeirs$Deeds" "toDo" "[I" true := ⟨0, cs62, TX0, 20, tyX0, rfl, rfl, rfl, by decide, inwX0, rfl, tyX0_ok, nmX0, rfl, by decide, by decide⟩
theorem f_62_12 : FD 62 12 4 30 "FrameHeirs$Deeds" "turn" "[I" true := ⟨0, cs62, TX0, 20, tyX0, rfl, rfl, rfl, by decide, inwX0, rfl, tyX0_ok, nmX0, rfl, by decide, by decide⟩
theorem f_62_13 : FD 62 13 4 31 "FrameHeirs$Deeds" "ages" "[F" true := ⟨0, cs62, TX0, 20, tyX0, rfl, rfl, rfl, by decide, inwX0, rfl, tyX0_ok, nmX0, rfl, by decide, by decide⟩
theorem f_62_14 : FD 62 14 4 32 "FrameHeirs$Deeds" "slotAt" "[I" true := ⟨0, cs62, TX0, 20, tyX0, rfl, rfl, rfl, by decide, inwX0, rfl, tyX0_ok, nmX0, rfl, by decide, by decide⟩
theorem f_62_15 : FD 62 15 4 33 "FrameHeirs$Deeds" "list" "[I" true := ⟨0, cs62, TX0, 20, tyX0, rfl, rfl, rfl, by decide, inwX0, rfl, tyX0_ok, nmX0, rfl, by decide, by decide⟩
theorem f_62_16 : FD 62 16 0 0 "FrameHeirs$Deeds" "bound" "I" false := ⟨0, cs62, TX0, 20, tyX0, rfl, rfl, rfl, by decide, inwX0, rfl, tyX0_ok, nmX0, rfl, by decide, by decide⟩
theorem f_62_17 : FD 62 17 0 0 "FrameHeirs$Deeds" "used" "I" false := ⟨0, cs62, TX0, 20, tyX0, rfl, rfl, rfl, by decide, inwX0, rfl, tyX0_ok, nmX0, rfl, by decide, by decide⟩
theorem f_62_18 : FD 62 18 0 0 "FrameHeirs$Deeds" "tops" "I" false := ⟨0, cs62, TX0, 20, tyX0, rfl, rfl, rfl, by decide, inwX0, rfl, tyX0_ok, nmX0, rfl, by decide, by decide⟩
theorem f_62_19 : FD 62 19 0 0 "FrameHeirs$Deeds" "splits" "I" false := ⟨0, cs62, TX0, 20, tyX0, rfl, rfl, rfl, by decide, inwX0, rfl, tyX0_ok, nmX0, rfl, by decide, by decide⟩
theorem f_63_0 : FD 63 0 0 0 "FrameHeirs$Reader" "faultKind" "I" false := ⟨1, cs63, TX2, 11, tyX2, rfl, rfl, rfl, by decide, inwX2, rfl, tyX2_ok, nmX2, rfl, by decide, by decide⟩
theorem f_63_1 : FD 63 1 0 0 "FrameHeirs$Reader" "faultPlace" "I" false := ⟨1, cs63, TX2, 11, tyX2, rfl, rfl, rfl, by decide, inwX2, rfl, tyX2_ok, nmX2, rfl, by decide, by decide⟩
theorem f_63_2 : FD 63 2 4 1 "FrameHeirs$Reader" "bytes" "[I" true := ⟨1, cs63, TX2, 11, tyX2, rfl, rfl, rfl, by decide, inwX2, rfl, tyX2_ok, nmX2, rfl, by decide, by decide⟩
theorem f_63_3 : FD 63 3 0 0 "FrameHeirs$Reader" "length" "I" false := ⟨1, cs63, TX2, 11, tyX2, rfl, rfl, rfl, by decide, inwX2, rfl, tyX2_ok, nmX2, rfl, by decide, by decide⟩
theorem f_63_4 : FD 63 4 0 0 "FrameHeirs$Reader" "position" "I" false := ⟨1, cs63, TX2, 11, tyX2, rfl, rfl, rfl, by decide, inwX2, rfl, tyX2_ok, nmX2, rfl, by decide, by decide⟩
theorem f_63_5 : FD 63 5 0 0 "FrameHeirs$Reader" "kind" "I" false := ⟨1, cs63, TX2, 11, tyX2, rfl, rfl, rfl, by decide, inwX2, rfl, tyX2_ok, nmX2, rfl, by decide, by decide⟩
theorem f_63_6 : FD 63 6 0 0 "FrameHeirs$Reader" "start" "I" false := ⟨1, cs63, TX2, 11, tyX2, rfl, rfl, rfl, by decide, inwX2, rfl, tyX2_ok, nmX2, rfl, by decide, by decide⟩
theorem f_63_7 : FD 63 7 0 0 "FrameHeirs$Reader" "value" "I" false := ⟨1, cs63, TX2, 11, tyX2, rfl, rfl, rfl, by decide, inwX2, rfl, tyX2_ok, nmX2, rfl, by decide, by decide⟩
theorem f_63_8 : FD 63 8 0 0 "FrameHeirs$Reader" "toldWords" "I" false := ⟨1, cs63, TX2, 11, tyX2, rfl, rfl, rfl, by decide, inwX2, rfl, tyX2_ok, nmX2, rfl, by decide, by decide⟩
theorem f_63_9 : FD 63 9 0 0 "FrameHeirs$Reader" "toldQuotas" "I" false := ⟨1, cs63, TX2, 11, tyX2, rfl, rfl, rfl, by decide, inwX2, rfl, tyX2_ok, nmX2, rfl, by decide, by decide⟩
theorem f_63_10 : FD 63 10 2 4 "FrameHeirs$Reader" "into" "LFrameHeirs$Script;" false := ⟨1, cs63, TX2, 11, tyX2, rfl, rfl, rfl, by decide, inwX2, rfl, tyX2_ok, nmX2, rfl, by decide, by decide⟩
theorem f_64_0 : FD 64 0 4 1 "FrameHeirs" "tape" "[I" true := ⟨4, cs64, TX5, 10, tyX5, rfl, rfl, rfl, by decide, inwX5, rfl, tyX5_ok, nmX5, rfl, by decide, by decide⟩
theorem f_64_1 : FD 64 1 0 0 "FrameHeirs" "taped" "I" false := ⟨4, cs64, TX5, 10, tyX5, rfl, rfl, rfl, by decide, inwX5, rfl, tyX5_ok, nmX5, rfl, by decide, by decide⟩
theorem f_64_2 : FD 64 2 2 4 "FrameHeirs" "spareScript" "LFrameHeirs$Script;" false := ⟨4, cs64, TX5, 10, tyX5, rfl, rfl, rfl, by decide, inwX5, rfl, tyX5_ok, nmX5, rfl, by decide, by decide⟩
theorem f_64_3 : FD 64 3 4 2 "FrameHeirs" "reader" "LFrameHeirs$Reader;" true := ⟨4, cs64, TX5, 10, tyX5, rfl, rfl, rfl, by decide, inwX5, rfl, tyX5_ok, nmX5, rfl, by decide, by decide⟩
theorem f_64_4 : FD 64 4 2 10 "FrameHeirs" "now" "LFrameHeirs$World;" false := ⟨4, cs64, TX5, 10, tyX5, rfl, rfl, rfl, by decide, inwX5, rfl, tyX5_ok, nmX5, rfl, by decide, by decide⟩
theorem f_64_5 : FD 64 5 2 10 "FrameHeirs" "before" "LFrameHeirs$World;" false := ⟨4, cs64, TX5, 10, tyX5, rfl, rfl, rfl, by decide, inwX5, rfl, tyX5_ok, nmX5, rfl, by decide, by decide⟩
theorem f_64_6 : FD 64 6 2 10 "FrameHeirs" "trial" "LFrameHeirs$World;" true := ⟨4, cs64, TX5, 10, tyX5, rfl, rfl, rfl, by decide, inwX5, rfl, tyX5_ok, nmX5, rfl, by decide, by decide⟩
theorem f_64_7 : FD 64 7 4 3 "FrameHeirs" "past" "[LFrameHeirs$World;" true := ⟨4, cs64, TX5, 10, tyX5, rfl, rfl, rfl, by decide, inwX5, rfl, tyX5_ok, nmX5, rfl, by decide, by decide⟩
theorem f_64_8 : FD 64 8 0 0 "FrameHeirs" "pastNext" "I" false := ⟨4, cs64, TX5, 10, tyX5, rfl, rfl, rfl, by decide, inwX5, rfl, tyX5_ok, nmX5, rfl, by decide, by decide⟩
theorem f_64_9 : FD 64 9 0 0 "FrameHeirs" "pastKept" "I" false := ⟨4, cs64, TX5, 10, tyX5, rfl, rfl, rfl, by decide, inwX5, rfl, tyX5_ok, nmX5, rfl, by decide, by decide⟩
theorem f_65_0 : FD 65 0 4 35 "FrameHeirsModel" "tape" "[I" true := ⟨5, cs65, TX6, 32, tyX6, rfl, rfl, rfl, by decide, inwX6, rfl, tyX6_ok, nmX6, rfl, by decide, by decide⟩
theorem f_65_3 : FD 65 3 4 36 "FrameHeirsModel" "words" "[I" true := ⟨5, cs65, TX6, 32, tyX6, rfl, rfl, rfl, by decide, inwX6, rfl, tyX6_ok, nmX6, rfl, by decide, by decide⟩
theorem f_65_5 : FD 65 5 0 0 "FrameHeirsModel" "faultPlace" "I" false := ⟨5, cs65, TX6, 32, tyX6, rfl, rfl, rfl, by decide, inwX6, rfl, tyX6_ok, nmX6, rfl, by decide, by decide⟩
theorem f_65_15 : FD 65 15 4 37 "FrameHeirsModel" "name" "[I" true := ⟨5, cs65, TX6, 32, tyX6, rfl, rfl, rfl, by decide, inwX6, rfl, tyX6_ok, nmX6, rfl, by decide, by decide⟩
theorem f_65_16 : FD 65 16 4 38 "FrameHeirsModel" "pager" "[I" true := ⟨5, cs65, TX6, 32, tyX6, rfl, rfl, rfl, by decide, inwX6, rfl, tyX6_ok, nmX6, rfl, by decide, by decide⟩
theorem f_65_17 : FD 65 17 4 39 "FrameHeirsModel" "way" "[I" true := ⟨5, cs65, TX6, 32, tyX6, rfl, rfl, rfl, by decide, inwX6, rfl, tyX6_ok, nmX6, rfl, by decide, by decide⟩
theorem f_65_18 : FD 65 18 4 40 "FrameHeirsModel" "quota" "[I" true := ⟨5, cs65, TX6, 32, tyX6, rfl, rfl, rfl, by decide, inwX6, rfl, tyX6_ok, nmX6, rfl, by decide, by decide⟩
theorem f_65_19 : FD 65 19 4 41 "FrameHeirsModel" "told" "[I" true := ⟨5, cs65, TX6, 32, tyX6, rfl, rfl, rfl, by decide, inwX6, rfl, tyX6_ok, nmX6, rfl, by decide, by decide⟩
theorem f_65_20 : FD 65 20 4 42 "FrameHeirsModel" "isTold" "[Z" true := ⟨5, cs65, TX6, 32, tyX6, rfl, rfl, rfl, by decide, inwX6, rfl, tyX6_ok, nmX6, rfl, by decide, by decide⟩
theorem f_65_21 : FD 65 21 4 43 "FrameHeirsModel" "stepWhat" "[I" true := ⟨5, cs65, TX6, 32, tyX6, rfl, rfl, rfl, by decide, inwX6, rfl, tyX6_ok, nmX6, rfl, by decide, by decide⟩
theorem f_65_22 : FD 65 22 4 44 "FrameHeirsModel" "stepBy" "[I" true := ⟨5, cs65, TX6, 32, tyX6, rfl, rfl, rfl, by decide, inwX6, rfl, tyX6_ok, nmX6, rfl, by decide, by decide⟩
theorem f_65_24 : FD 65 24 4 45 "FrameHeirsModel" "all" "[I" true := ⟨5, cs65, TX6, 32, tyX6, rfl, rfl, rfl, by decide, inwX6, rfl, tyX6_ok, nmX6, rfl, by decide, by decide⟩
theorem f_65_27 : FD 65 27 4 46 "FrameHeirsModel" "row" "[I" true := ⟨5, cs65, TX6, 32, tyX6, rfl, rfl, rfl, by decide, inwX6, rfl, tyX6_ok, nmX6, rfl, by decide, by decide⟩
theorem f_65_29 : FD 65 29 4 47 "FrameHeirsModel" "there" "[I" true := ⟨5, cs65, TX6, 32, tyX6, rfl, rfl, rfl, by decide, inwX6, rfl, tyX6_ok, nmX6, rfl, by decide, by decide⟩
theorem lmo_of {G : Geo} {k : Nat} (h34 : G.2.2.2 k 34) (h35 : G.2.2.2 k 35) (h36 : G.2.2.2 k 36) (h37 : G.2.2.2 k 37) (h38 : G.2.2.2 k 38) (h39 : G.2.2.2 k 39) (h40 : G.2.2.2 k 40) (h41 : G.2.2.2 k 41) (h42 : G.2.2.2 k 42) (h43 : G.2.2.2 k 43) (h44 : G.2.2.2 k 44) (h45 : G.2.2.2 k 45) (h46 : G.2.2.2 k 46) (h47 : G.2.2.2 k 47) : LMo G k := fun a ha => by
  match a, ha with
  | 34, _ => exact h34
  | 35, _ => exact h35
  | 36, _ => exact h36
  | 37, _ => exact h37
  | 38, _ => exact h38
  | 39, _ => exact h39
  | 40, _ => exact h40
  | 41, _ => exact h41
  | 42, _ => exact h42
  | 43, _ => exact h43
  | 44, _ => exact h44
  | 45, _ => exact h45
  | 46, _ => exact h46
  | 47, _ => exact h47
-- FrameHeirs$Script.<init>
abbrev rm_X3_init : Room := { frames := 1, cells := 5, slots := 192, locals := 20 }
theorem dX3_init_0 : decode cX3_init 0 = .ok (.aload_n 0, 1) := by decide +kernel
theorem dX3_init_1 : decode cX3_init 1 = .ok (.invokespecial 3, 3) := by decide +kernel
theorem dX3_init_4 : decode cX3_init 4 = .ok (.aload_n 0, 1) := by decide +kernel
theorem dX3_init_5 : decode cX3_init 5 = .ok (.bipush 6, 2) := by decide +kernel
theorem dX3_init_7 : decode cX3_init 7 = .ok (.newarray .int, 2) := by decide +kernel
theorem dX3_init_9 : decode cX3_init 9 = .ok (.putfield 9, 3) := by decide +kernel
theorem dX3_init_12 : decode cX3_init 12 = .ok (.aload_n 0, 1) := by decide +kernel
theorem dX3_init_13 : decode cX3_init 13 = .ok (.bipush 6, 2) := by decide +kernel
theorem dX3_init_15 : decode cX3_init 15 = .ok (.newarray .int, 2) := by decide +kernel
theorem dX3_init_17 : decode cX3_init 17 = .ok (.putfield 15, 3) := by decide +kernel
theorem dX3_init_20 : decode cX3_init 20 = .ok (.aload_n 0, 1) := by decide +kernel
theorem dX3_init_21 : decode cX3_init 21 = .ok (.bipush 6, 2) := by decide +kernel
theorem dX3_init_23 : decode cX3_init 23 = .ok (.newarray .int, 2) := by decide +kernel
theorem dX3_init_25 : decode cX3_init 25 = .ok (.putfield 18, 3) := by decide +kernel
theorem dX3_init_28 : decode cX3_init 28 = .ok (.aload_n 0, 1) := by decide +kernel
theorem dX3_init_29 : decode cX3_init 29 = .ok (.bipush 6, 2) := by decide +kernel
theorem dX3_init_31 : decode cX3_init 31 = .ok (.newarray .int, 2) := by decide +kernel
theorem dX3_init_33 : decode cX3_init 33 = .ok (.putfield 21, 3) := by decide +kernel
theorem dX3_init_36 : decode cX3_init 36 = .ok (.aload_n 0, 1) := by decide +kernel
theorem dX3_init_37 : decode cX3_init 37 = .ok (.sipush 168, 3) := by decide +kernel
theorem dX3_init_40 : decode cX3_init 40 = .ok (.newarray .int, 2) := by decide +kernel
theorem dX3_init_42 : decode cX3_init 42 = .ok (.putfield 24, 3) := by decide +kernel
theorem dX3_init_45 : decode cX3_init 45 = .ok (.aload_n 0, 1) := by decide +kernel
theorem dX3_init_46 : decode cX3_init 46 = .ok (.iconst 0, 1) := by decide +kernel
theorem dX3_init_47 : decode cX3_init 47 = .ok (.putfield 27, 3) := by decide +kernel
theorem dX3_init_50 : decode cX3_init 50 = .ok (.aload_n 0, 1) := by decide +kernel
theorem dX3_init_51 : decode cX3_init 51 = .ok (.bipush 16, 2) := by decide +kernel
theorem dX3_init_53 : decode cX3_init 53 = .ok (.putfield 31, 3) := by decide +kernel
theorem dX3_init_56 : decode cX3_init 56 = .ok (.aload_n 0, 1) := by decide +kernel
theorem dX3_init_57 : decode cX3_init 57 = .ok (.iconst 2, 1) := by decide +kernel
theorem dX3_init_58 : decode cX3_init 58 = .ok (.putfield 34, 3) := by decide +kernel
theorem dX3_init_61 : decode cX3_init 61 = .ok (.aload_n 0, 1) := by decide +kernel
theorem dX3_init_62 : decode cX3_init 62 = .ok (.iconst 5, 1) := by decide +kernel
theorem dX3_init_63 : decode cX3_init 63 = .ok (.putfield 37, 3) := by decide +kernel
theorem dX3_init_66 : decode cX3_init 66 = .ok (.aload_n 0, 1) := by decide +kernel
theorem dX3_init_67 : decode cX3_init 67 = .ok (.iconst 0, 1) := by decide +kernel
theorem dX3_init_68 : decode cX3_init 68 = .ok (.putfield 40, 3) := by decide +kernel
theorem dX3_init_71 : decode cX3_init 71 = .ok (.aload_n 0, 1) := by decide +kernel
theorem dX3_init_72 : decode cX3_init 72 = .ok (.iconst 0, 1) := by decide +kernel
theorem dX3_init_73 : decode cX3_init 73 = .ok (.putfield 43, 3) := by decide +kernel
theorem dX3_init_76 : decode cX3_init 76 = .ok (.aload_n 0, 1) := by decide +kernel
theorem dX3_init_77 : decode cX3_init 77 = .ok (.iconst 0, 1) := by decide +kernel
theorem dX3_init_78 : decode cX3_init 78 = .ok (.putfield 46, 3) := by decide +kernel
theorem dX3_init_81 : decode cX3_init 81 = .ok (.return_, 1) := by decide +kernel
def Sc_init (k : Nat) (d : Mem) : Option (Unit × Mem) :=
  bnd (wrAM d k 5 (fun _ => 0)) fun d2 =>
  bnd (wrM d2 k 60 0 1) fun d3 =>
  bnd (wrAM d3 k 6 (fun _ => 0)) fun d5 =>
  bnd (wrM d5 k 60 1 1) fun d6 =>
  bnd (wrAM d6 k 7 (fun _ => 0)) fun d8 =>
  bnd (wrM d8 k 60 2 1) fun d9 =>
  bnd (wrAM d9 k 8 (fun _ => 0)) fun d11 =>
  bnd (wrM d11 k 60 3 1) fun d12 =>
  bnd (wrAM d12 k 9 (fun _ => 0)) fun d14 =>
  bnd (wrM d14 k 60 4 1) fun d15 =>
  bnd (wrM d15 k 60 5 (0 : Int32)) fun d16 =>
  bnd (wrM d16 k 60 6 (16 : Int32)) fun d17 =>
  bnd (wrM d17 k 60 7 (2 : Int32)) fun d18 =>
  bnd (wrM d18 k 60 8 (5 : Int32)) fun d19 =>
  bnd (wrM d19 k 60 9 (0 : Int32)) fun d20 =>
  bnd (wrM d20 k 60 10 (0 : Int32)) fun d21 =>
  bnd (wrM d21 k 60 11 (0 : Int32)) fun d22 =>
  if cdone cs4 (d22 k 60) then
  bnd (wrAM d22 k 4 (d22 k 60)) fun d23 =>
  some ((), d23)
  else none
theorem yi_X3_init : YI yX3_init cX3_init 1 0 := ⟨q170, rfl, q171, q144, by decide +kernel, by decide +kernel, by decide +kernel, by decide +kernel⟩
theorem r_Sc_init {C : Cxt} {G : Geo} {k : Nat} (hC : Cx C cX3_init 1 "FrameHeirs$Script" none rm_X3_init G) (hnm : C.2.2.2.2.2.2.2.2.1.name = "<init>") (hl : G.2.2.2 k 60) (hn : ∀ b ∈ [4, 5, 6, 7, 8, 9], ¬ G.2.2.2 k b) (hk3 : k < 1000)  (d : Mem) : Rg C 1 G 0 0 gm (QK C G k 60 4 [(k, 9), (k, 8), (k, 7), (k, 6), (k, 5)] 5 192) 0 [(0, .inr (k, 60))] [] d (Sc_init k d) := by
  unfold Sc_init
  refine z_aload_n (pc := 0) hC 0 rfl 0 rfl dX3_init_0 ?_
  refine z_objI (pc := 1) hC q172 q165 q166 (Nat.le_of_ble_eq_true rfl) (Nat.le_of_ble_eq_true rfl) dX3_init_1 ?_
  refine z_aload_n (pc := 4) hC 0 rfl 0 rfl dX3_init_4 ?_
  refine z_bipush (pc := 5) hC (6 : Int32) rfl dX3_init_5 ?_
  refine zg_newa (pc := 7) (k := k) (a := 5) (n := 6) (ty := 0) (fty := .int) hC rfl rfl (by decide) (fun _ _ => rfl) (hC.2.2.2.2.2.1.2 0 _ rfl).2 q235 (hn 5 (by decide)) hk3 (Or.inl (by decide)) rfl (by decide +kernel) (by decide +kernel) (by decide +kernel) (by decide +kernel) (by decide +kernel) dX3_init_7 (fun Ge1 d2 e1 hC => ?_)
  refine zg_putS (pc := 9) (ty := (.array .int)) hC hnm (e1.old hl) (e1.mem (by simp)) f_60_0 q173 (by decide +kernel) (fun _ => rfl) (fun _ => rfl) dX3_init_9 (fun d3 => ?_)
  refine z_aload_n (pc := 12) hC 0 rfl 0 rfl dX3_init_12 ?_
  refine z_bipush (pc := 13) hC (6 : Int32) rfl dX3_init_13 ?_
  refine zg_newa (pc := 15) (k := k) (a := 6) (n := 6) (ty := 0) (fty := .int) hC rfl rfl (by decide) (fun _ _ => rfl) (hC.2.2.2.2.2.1.2 0 _ rfl).2 q235 (e1.not (hn 6 (by decide)) (by simp)) hk3 (Or.inl (by decide)) rfl (by decide +kernel) (by decide +kernel) (by decide +kernel) (by decide +kernel) (by decide +kernel) dX3_init_15 (fun Ge4 d5 e4 hC => ?_)
  refine zg_putS (pc := 17) (ty := (.array .int)) hC hnm (e4.old (e1.old hl)) (e4.mem (by simp)) f_60_1 q174 (by decide +kernel) (fun _ => rfl) (fun _ => rfl) dX3_init_17 (fun d6 => ?_)
  refine z_aload_n (pc := 20) hC 0 rfl 0 rfl dX3_init_20 ?_
  refine z_bipush (pc := 21) hC (6 : Int32) rfl dX3_init_21 ?_
  refine zg_newa (pc := 23) (k := k) (a := 7) (n := 6) (ty := 0) (fty := .int) hC rfl rfl (by decide) (fun _ _ => rfl) (hC.2.2.2.2.2.1.2 0 _ rfl).2 q235 (e4.not (e1.not (hn 7 (by decide)) (by simp)) (by simp)) hk3 (Or.inl (by decide)) rfl (by decide +kernel) (by decide +kernel) (by decide +kernel) (by decide +kernel) (by decide +kernel) dX3_init_23 (fun Ge7 d8 e7 hC => ?_)
  refine zg_putS (pc := 25) (ty := (.array .int)) hC hnm (e7.old (e4.old (e1.old hl))) (e7.mem (by simp)) f_60_2 q177 (by decide +kernel) (fun _ => rfl) (fun _ => rfl) dX3_init_25 (fun d9 => ?_)
  refine z_aload_n (pc := 28) hC 0 rfl 0 rfl dX3_init_28 ?_
  refine z_bipush (pc := 29) hC (6 : Int32) rfl dX3_init_29 ?_
  refine zg_newa (pc := 31) (k := k) (a := 8) (n := 6) (ty := 0) (fty := .int) hC rfl rfl (by decide) (fun _ _ => rfl) (hC.2.2.2.2.2.1.2 0 _ rfl).2 q235 (e7.not (e4.not (e1.not (hn 8 (by decide)) (by simp)) (by simp)) (by simp)) hk3 (Or.inl (by decide)) rfl (by decide +kernel) (by decide +kernel) (by decide +kernel) (by decide +kernel) (by decide +kernel) dX3_init_31 (fun Ge10 d11 e10 hC => ?_)
  refine zg_putS (pc := 33) (ty := (.array .int)) hC hnm (e10.old (e7.old (e4.old (e1.old hl)))) (e10.mem (by simp)) f_60_3 q180 (by decide +kernel) (fun _ => rfl) (fun _ => rfl) dX3_init_33 (fun d12 => ?_)
  refine z_aload_n (pc := 36) hC 0 rfl 0 rfl dX3_init_36 ?_
  refine z_sipush (pc := 37) hC (168 : Int32) rfl dX3_init_37 ?_
  refine zg_newa (pc := 40) (k := k) (a := 9) (n := 168) (ty := 0) (fty := .int) hC rfl rfl (by decide) (fun _ _ => rfl) (hC.2.2.2.2.2.1.2 0 _ rfl).2 q235 (e10.not (e7.not (e4.not (e1.not (hn 9 (by decide)) (by simp)) (by simp)) (by simp)) (by simp)) hk3 (Or.inl (by decide)) rfl (by decide +kernel) (by decide +kernel) (by decide +kernel) (by decide +kernel) (by decide +kernel) dX3_init_40 (fun Ge13 d14 e13 hC => ?_)
  refine zg_putS (pc := 42) (ty := (.array .int)) hC hnm (e13.old (e10.old (e7.old (e4.old (e1.old hl))))) (e13.mem (by simp)) f_60_4 q183 (by decide +kernel) (fun _ => rfl) (fun _ => rfl) dX3_init_42 (fun d15 => ?_)
  refine z_aload_n (pc := 45) hC 0 rfl 0 rfl dX3_init_45 ?_
  refine z_iconst (pc := 46) hC (0 : Int32) rfl dX3_init_46 ?_
  refine zg_puti (pc := 47) hC (e13.old (e10.old (e7.old (e4.old (e1.old hl))))) f_60_5 q186 dX3_init_47 (fun d16 => ?_)
  refine z_aload_n (pc := 50) hC 0 rfl 0 rfl dX3_init_50 ?_
  refine z_bipush (pc := 51) hC (16 : Int32) rfl dX3_init_51 ?_
  refine zg_puti (pc := 53) hC (e13.old (e10.old (e7.old (e4.old (e1.old hl))))) f_60_6 q190 dX3_init_53 (fun d17 => ?_)
  refine z_aload_n (pc := 56) hC 0 rfl 0 rfl dX3_init_56 ?_
  refine z_iconst (pc := 57) hC (2 : Int32) rfl dX3_init_57 ?_
  refine zg_puti (pc := 58) hC (e13.old (e10.old (e7.old (e4.old (e1.old hl))))) f_60_7 q194 dX3_init_58 (fun d18 => ?_)
  refine z_aload_n (pc := 61) hC 0 rfl 0 rfl dX3_init_61 ?_
  refine z_iconst (pc := 62) hC (5 : Int32) rfl dX3_init_62 ?_
  refine zg_puti (pc := 63) hC (e13.old (e10.old (e7.old (e4.old (e1.old hl))))) f_60_8 q197 dX3_init_63 (fun d19 => ?_)
  refine z_aload_n (pc := 66) hC 0 rfl 0 rfl dX3_init_66 ?_
  refine z_iconst (pc := 67) hC (0 : Int32) rfl dX3_init_67 ?_
  refine zg_puti (pc := 68) hC (e13.old (e10.old (e7.old (e4.old (e1.old hl))))) f_60_9 q200 dX3_init_68 (fun d20 => ?_)
  refine z_aload_n (pc := 71) hC 0 rfl 0 rfl dX3_init_71 ?_
  refine z_iconst (pc := 72) hC (0 : Int32) rfl dX3_init_72 ?_
  refine zg_puti (pc := 73) hC (e13.old (e10.old (e7.old (e4.old (e1.old hl))))) f_60_10 q203 dX3_init_73 (fun d21 => ?_)
  refine z_aload_n (pc := 76) hC 0 rfl 0 rfl dX3_init_76 ?_
  refine z_iconst (pc := 77) hC (0 : Int32) rfl dX3_init_77 ?_
  refine zg_puti (pc := 78) hC (e13.old (e10.old (e7.old (e4.old (e1.old hl))))) f_60_11 q207 dX3_init_78 (fun d22 => ?_)
  refine zn_rel (pc := 81) (k := k) (a := 60) (b := 4) (ls1 := [(0, .inr (k, 4))]) (st1 := []) hC (e13.old (e10.old (e7.old (e4.old (e1.old hl))))) (e13.not (e10.not (e7.not (e4.not (e1.not (hn 4 (by decide)) (by simp)) (by simp)) (by simp)) (by simp)) (by simp)) (by decide) (by decide) rfl rfl (by decide) rfl rfl (by exact (List.forall_mem_cons.mpr ⟨⟨fun _ => rfl, (show ((60 : Nat)) ≠ 4 by decide)⟩, (fun _ h => absurd h List.not_mem_nil)⟩)) (by exact (fun _ h => absurd h List.not_mem_nil)) (fun Gg24 d23 g24 hC => ?_)
  exact zk_vret (pc := 81) (L := [(k, 9), (k, 8), (k, 7), (k, 6), (k, 5)]) hC (Or.inr (by decide)) ⟨_, ((((e1.trans e4).trans e7).trans e10).trans e13), g24⟩ dX3_init_81
theorem c_X3_init {G : Geo} (hG : GOk G) {k : Nat} (hl : G.2.2.2 k 60) (hn : ∀ b ∈ [4, 5, 6, 7, 8, 9], ¬ G.2.2.2 k b) (hk3 : k < 1000)  {d : Mem} (l : Launch) (x1 : Mem) (h : Sc_init k d = some ((), x1)) : MtC l yX3_init cX3_init 1 rm_X3_init G k 60 4 [] d [(k, 9), (k, 8), (k, 7), (k, 6), (k, 5)] 5 192 x1 :=
  mtC_of rfl rfl hG [] (Nat.le_of_ble_eq_true rfl) rfl (fun C hC hnm => r_Sc_init hC hnm hl hn hk3 d) h
-- FrameHeirs$Reader.<init>
abbrev rm_X2_init : Room := { frames := 1, cells := 0, slots := 0, locals := 20 }
theorem dX2_init_0 : decode cX2_init 0 = .ok (.aload_n 0, 1) := by decide +kernel
theorem dX2_init_1 : decode cX2_init 1 = .ok (.invokespecial 3, 3) := by decide +kernel
theorem dX2_init_4 : decode cX2_init 4 = .ok (.aload_n 0, 1) := by decide +kernel
theorem dX2_init_5 : decode cX2_init 5 = .ok (.iconst 0, 1) := by decide +kernel
theorem dX2_init_6 : decode cX2_init 6 = .ok (.putfield 9, 3) := by decide +kernel
theorem dX2_init_9 : decode cX2_init 9 = .ok (.aload_n 0, 1) := by decide +kernel
theorem dX2_init_10 : decode cX2_init 10 = .ok (.iconst (-1), 1) := by decide +kernel
theorem dX2_init_11 : decode cX2_init 11 = .ok (.putfield 15, 3) := by decide +kernel
theorem dX2_init_14 : decode cX2_init 14 = .ok (.aload_n 0, 1) := by decide +kernel
theorem dX2_init_15 : decode cX2_init 15 = .ok (.iconst 0, 1) := by decide +kernel
theorem dX2_init_16 : decode cX2_init 16 = .ok (.putfield 18, 3) := by decide +kernel
theorem dX2_init_19 : decode cX2_init 19 = .ok (.aload_n 0, 1) := by decide +kernel
theorem dX2_init_20 : decode cX2_init 20 = .ok (.iconst 0, 1) := by decide +kernel
theorem dX2_init_21 : decode cX2_init 21 = .ok (.putfield 21, 3) := by decide +kernel
theorem dX2_init_24 : decode cX2_init 24 = .ok (.aload_n 0, 1) := by decide +kernel
theorem dX2_init_25 : decode cX2_init 25 = .ok (.iconst 0, 1) := by decide +kernel
theorem dX2_init_26 : decode cX2_init 26 = .ok (.putfield 24, 3) := by decide +kernel
theorem dX2_init_29 : decode cX2_init 29 = .ok (.aload_n 0, 1) := by decide +kernel
theorem dX2_init_30 : decode cX2_init 30 = .ok (.iconst 0, 1) := by decide +kernel
theorem dX2_init_31 : decode cX2_init 31 = .ok (.putfield 27, 3) := by decide +kernel
theorem dX2_init_34 : decode cX2_init 34 = .ok (.aload_n 0, 1) := by decide +kernel
theorem dX2_init_35 : decode cX2_init 35 = .ok (.iconst 0, 1) := by decide +kernel
theorem dX2_init_36 : decode cX2_init 36 = .ok (.putfield 30, 3) := by decide +kernel
theorem dX2_init_39 : decode cX2_init 39 = .ok (.aload_n 0, 1) := by decide +kernel
theorem dX2_init_40 : decode cX2_init 40 = .ok (.iconst 0, 1) := by decide +kernel
theorem dX2_init_41 : decode cX2_init 41 = .ok (.putfield 33, 3) := by decide +kernel
theorem dX2_init_44 : decode cX2_init 44 = .ok (.aload_n 0, 1) := by decide +kernel
theorem dX2_init_45 : decode cX2_init 45 = .ok (.iconst 0, 1) := by decide +kernel
theorem dX2_init_46 : decode cX2_init 46 = .ok (.putfield 36, 3) := by decide +kernel
theorem dX2_init_49 : decode cX2_init 49 = .ok (.aload_n 0, 1) := by decide +kernel
theorem dX2_init_50 : decode cX2_init 50 = .ok (.aload_n 1, 1) := by decide +kernel
theorem dX2_init_51 : decode cX2_init 51 = .ok (.putfield 39, 3) := by decide +kernel
theorem dX2_init_54 : decode cX2_init 54 = .ok (.aload_n 0, 1) := by decide +kernel
theorem dX2_init_55 : decode cX2_init 55 = .ok (.aload_n 2, 1) := by decide +kernel
theorem dX2_init_56 : decode cX2_init 56 = .ok (.putfield 43, 3) := by decide +kernel
theorem dX2_init_59 : decode cX2_init 59 = .ok (.return_, 1) := by decide +kernel
def Re_init (k : Nat) (q2 : Nat) (d : Mem) : Option (Unit × Mem) :=
  bnd (wrM d k 63 0 (0 : Int32)) fun d1 =>
  bnd (wrM d1 k 63 1 (-1 : Int32)) fun d2 =>
  bnd (wrM d2 k 63 3 (0 : Int32)) fun d3 =>
  bnd (wrM d3 k 63 4 (0 : Int32)) fun d4 =>
  bnd (wrM d4 k 63 5 (0 : Int32)) fun d5 =>
  bnd (wrM d5 k 63 6 (0 : Int32)) fun d6 =>
  bnd (wrM d6 k 63 7 (0 : Int32)) fun d7 =>
  bnd (wrM d7 k 63 8 (0 : Int32)) fun d8 =>
  bnd (wrM d8 k 63 9 (0 : Int32)) fun d9 =>
  bnd (wrM d9 k 63 2 1) fun d10 =>
  bnd (wrM d10 k 63 10 (nI q2)) fun d11 =>
  if cdone cs2 (d11 k 63) then
  bnd (wrAM d11 k 2 (d11 k 63)) fun d12 =>
  some ((), d12)
  else none
theorem yi_X2_init : YI yX2_init cX2_init 3 2 := ⟨q239, rfl, q240, q145, by decide +kernel, by decide +kernel, by decide +kernel, by decide +kernel⟩
theorem r_Re_init {C : Cxt} {G : Geo} {k : Nat} {q2 : Nat} (hC : Cx C cX2_init 3 "FrameHeirs$Reader" none rm_X2_init G) (hnm : C.2.2.2.2.2.2.2.2.1.name = "<init>") (hl : G.2.2.2 k 63) (hn : ∀ b ∈ [2], ¬ G.2.2.2 k b) (hk3 : k < 1000) (ht : G.2.2.2 k 1) (hq2 : G.2.2.2 q2 4) (d : Mem) : Rg C 3 G 0 0 gm (QK C G k 63 2 [] 0 0) 0 [(0, .inr (k, 63)), (1, .inr (k, 1)), (2, .inr (q2, 4))] [] d (Re_init k q2 d) := by
  unfold Re_init
  refine z_aload_n (pc := 0) hC 0 rfl 0 rfl dX2_init_0 ?_
  refine z_objI (pc := 1) hC q241 q165 q166 (Nat.le_of_ble_eq_true rfl) (Nat.le_of_ble_eq_true rfl) dX2_init_1 ?_
  refine z_aload_n (pc := 4) hC 0 rfl 0 rfl dX2_init_4 ?_
  refine z_iconst (pc := 5) hC (0 : Int32) rfl dX2_init_5 ?_
  refine zg_puti (pc := 6) hC hl f_63_0 q242 dX2_init_6 (fun d1 => ?_)
  refine z_aload_n (pc := 9) hC 0 rfl 0 rfl dX2_init_9 ?_
  refine z_iconst (pc := 10) hC (-1 : Int32) rfl dX2_init_10 ?_
  refine zg_puti (pc := 11) hC hl f_63_1 q244 dX2_init_11 (fun d2 => ?_)
  refine z_aload_n (pc := 14) hC 0 rfl 0 rfl dX2_init_14 ?_
  refine z_iconst (pc := 15) hC (0 : Int32) rfl dX2_init_15 ?_
  refine zg_puti (pc := 16) hC hl f_63_3 q247 dX2_init_16 (fun d3 => ?_)
  refine z_aload_n (pc := 19) hC 0 rfl 0 rfl dX2_init_19 ?_
  refine z_iconst (pc := 20) hC (0 : Int32) rfl dX2_init_20 ?_
  refine zg_puti (pc := 21) hC hl f_63_4 q248 dX2_init_21 (fun d4 => ?_)
  refine z_aload_n (pc := 24) hC 0 rfl 0 rfl dX2_init_24 ?_
  refine z_iconst (pc := 25) hC (0 : Int32) rfl dX2_init_25 ?_
  refine zg_puti (pc := 26) hC hl f_63_5 q249 dX2_init_26 (fun d5 => ?_)
  refine z_aload_n (pc := 29) hC 0 rfl 0 rfl dX2_init_29 ?_
  refine z_iconst (pc := 30) hC (0 : Int32) rfl dX2_init_30 ?_
  refine zg_puti (pc := 31) hC hl f_63_6 q250 dX2_init_31 (fun d6 => ?_)
  refine z_aload_n (pc := 34) hC 0 rfl 0 rfl dX2_init_34 ?_
  refine z_iconst (pc := 35) hC (0 : Int32) rfl dX2_init_35 ?_
  refine zg_puti (pc := 36) hC hl f_63_7 q251 dX2_init_36 (fun d7 => ?_)
  refine z_aload_n (pc := 39) hC 0 rfl 0 rfl dX2_init_39 ?_
  refine z_iconst (pc := 40) hC (0 : Int32) rfl dX2_init_40 ?_
  refine zg_puti (pc := 41) hC hl f_63_8 q252 dX2_init_41 (fun d8 => ?_)
  refine z_aload_n (pc := 44) hC 0 rfl 0 rfl dX2_init_44 ?_
  refine z_iconst (pc := 45) hC (0 : Int32) rfl dX2_init_45 ?_
  refine zg_puti (pc := 46) hC hl f_63_9 q253 dX2_init_46 (fun d9 => ?_)
  refine z_aload_n (pc := 49) hC 0 rfl 0 rfl dX2_init_49 ?_
  refine z_aload_n (pc := 50) hC 1 rfl 1 rfl dX2_init_50 ?_
  refine zg_putS (pc := 51) (ty := (.array .int)) hC hnm hl ht f_63_2 q246 (by decide +kernel) (fun _ => rfl) (fun _ => rfl) dX2_init_51 (fun d10 => ?_)
  refine z_aload_n (pc := 54) hC 0 rfl 0 rfl dX2_init_54 ?_
  refine z_aload_n (pc := 55) hC 2 rfl 2 rfl dX2_init_55 ?_
  refine zg_putr (pc := 56) (cn := "FrameHeirs$Script") hC hl hq2 f_63_10 q254 (by decide +kernel) dX2_init_56 (fun d11 => ?_)
  refine zn_rel (pc := 59) (k := k) (a := 63) (b := 2) (ls1 := [(0, .inr (k, 2)), (1, .inr (k, 1)), (2, .inr (q2, 4))]) (st1 := []) hC hl (hn 2 (by decide)) (by decide) (by decide) rfl rfl (by decide) rfl rfl (by exact (List.forall_mem_cons.mpr ⟨⟨fun _ => rfl, (show ((63 : Nat)) ≠ 2 by decide)⟩, (List.forall_mem_cons.mpr ⟨⟨fun h => absurd h (show ¬ ((1 : Nat)) = 63 by decide), (show ((1 : Nat)) ≠ 2 by decide)⟩, (List.forall_mem_cons.mpr ⟨⟨fun h => absurd h (show ¬ ((4 : Nat)) = 63 by decide), (show ((4 : Nat)) ≠ 2 by decide)⟩, (fun _ h => absurd h List.not_mem_nil)⟩)⟩)⟩)) (by exact (fun _ h => absurd h List.not_mem_nil)) (fun Gg13 d12 g13 hC => ?_)
  exact zk_vret (pc := 59) (L := []) hC (Or.inr (by decide)) ⟨_, GE.refl', g13⟩ dX2_init_59
theorem c_X2_init {G : Geo} (hG : GOk G) {k : Nat} {q2 : Nat} (hl : G.2.2.2 k 63) (hn : ∀ b ∈ [2], ¬ G.2.2.2 k b) (hk3 : k < 1000) (ht : G.2.2.2 k 1) (hq2 : G.2.2.2 q2 4) {d : Mem} (l : Launch) (x1 : Mem) (h : Re_init k q2 d = some ((), x1)) : MtC l yX2_init cX2_init 3 rm_X2_init G k 63 2 [.inr (k, 1), .inr (q2, 4)] d [] 0 0 x1 :=
  mtC_of rfl rfl hG [.inr (k, 1), .inr (q2, 4)] (Nat.le_of_ble_eq_true rfl) rfl (fun C hC hnm => r_Re_init hC hnm hl hn hk3 ht hq2 d) h
-- FrameHeirs$Deeds.<init>
abbrev rm_X0_init : Room := { frames := 1, cells := 16, slots := 3072, locals := 23 }
theorem dX0_init_0 : decode cX0_init 0 = .ok (.aload_n 0, 1) := by decide +kernel
theorem dX0_init_1 : decode cX0_init 1 = .ok (.invokespecial 3, 3) := by decide +kernel
theorem dX0_init_4 : decode cX0_init 4 = .ok (.aload_n 0, 1) := by decide +kernel
theorem dX0_init_5 : decode cX0_init 5 = .ok (.sipush 192, 3) := by decide +kernel
theorem dX0_init_8 : decode cX0_init 8 = .ok (.newarray .int, 2) := by decide +kernel
theorem dX0_init_10 : decode cX0_init 10 = .ok (.putfield 9, 3) := by decide +kernel
theorem dX0_init_13 : decode cX0_init 13 = .ok (.aload_n 0, 1) := by decide +kernel
theorem dX0_init_14 : decode cX0_init 14 = .ok (.sipush 192, 3) := by decide +kernel
theorem dX0_init_17 : decode cX0_init 17 = .ok (.newarray .int, 2) := by decide +kernel
theorem dX0_init_19 : decode cX0_init 19 = .ok (.putfield 15, 3) := by decide +kernel
theorem dX0_init_22 : decode cX0_init 22 = .ok (.aload_n 0, 1) := by decide +kernel
theorem dX0_init_23 : decode cX0_init 23 = .ok (.sipush 192, 3) := by decide +kernel
theorem dX0_init_26 : decode cX0_init 26 = .ok (.newarray .int, 2) := by decide +kernel
theorem dX0_init_28 : decode cX0_init 28 = .ok (.putfield 18, 3) := by decide +kernel
theorem dX0_init_31 : decode cX0_init 31 = .ok (.aload_n 0, 1) := by decide +kernel
theorem dX0_init_32 : decode cX0_init 32 = .ok (.sipush 192, 3) := by decide +kernel
theorem dX0_init_35 : decode cX0_init 35 = .ok (.newarray .int, 2) := by decide +kernel
theorem dX0_init_37 : decode cX0_init 37 = .ok (.putfield 21, 3) := by decide +kernel
theorem dX0_init_40 : decode cX0_init 40 = .ok (.aload_n 0, 1) := by decide +kernel
theorem dX0_init_41 : decode cX0_init 41 = .ok (.sipush 192, 3) := by decide +kernel
theorem dX0_init_44 : decode cX0_init 44 = .ok (.newarray .int, 2) := by decide +kernel
theorem dX0_init_46 : decode cX0_init 46 = .ok (.putfield 24, 3) := by decide +kernel
theorem dX0_init_49 : decode cX0_init 49 = .ok (.aload_n 0, 1) := by decide +kernel
theorem dX0_init_50 : decode cX0_init 50 = .ok (.sipush 192, 3) := by decide +kernel
theorem dX0_init_53 : decode cX0_init 53 = .ok (.newarray .int, 2) := by decide +kernel
theorem dX0_init_55 : decode cX0_init 55 = .ok (.putfield 27, 3) := by decide +kernel
theorem dX0_init_58 : decode cX0_init 58 = .ok (.aload_n 0, 1) := by decide +kernel
theorem dX0_init_59 : decode cX0_init 59 = .ok (.sipush 192, 3) := by decide +kernel
theorem dX0_init_62 : decode cX0_init 62 = .ok (.newarray .int, 2) := by decide +kernel
theorem dX0_init_64 : decode cX0_init 64 = .ok (.putfield 30, 3) := by decide +kernel
theorem dX0_init_67 : decode cX0_init 67 = .ok (.aload_n 0, 1) := by decide +kernel
theorem dX0_init_68 : decode cX0_init 68 = .ok (.sipush 192, 3) := by decide +kernel
theorem dX0_init_71 : decode cX0_init 71 = .ok (.newarray .int, 2) := by decide +kernel
theorem dX0_init_73 : decode cX0_init 73 = .ok (.putfield 33, 3) := by decide +kernel
theorem dX0_init_76 : decode cX0_init 76 = .ok (.aload_n 0, 1) := by decide +kernel
theorem dX0_init_77 : decode cX0_init 77 = .ok (.sipush 192, 3) := by decide +kernel
theorem dX0_init_80 : decode cX0_init 80 = .ok (.newarray .int, 2) := by decide +kernel
theorem dX0_init_82 : decode cX0_init 82 = .ok (.putfield 36, 3) := by decide +kernel
theorem dX0_init_85 : decode cX0_init 85 = .ok (.aload_n 0, 1) := by decide +kernel
theorem dX0_init_86 : decode cX0_init 86 = .ok (.sipush 192, 3) := by decide +kernel
theorem dX0_init_89 : decode cX0_init 89 = .ok (.newarray .int, 2) := by decide +kernel
theorem dX0_init_91 : decode cX0_init 91 = .ok (.putfield 39, 3) := by decide +kernel
theorem dX0_init_94 : decode cX0_init 94 = .ok (.aload_n 0, 1) := by decide +kernel
theorem dX0_init_95 : decode cX0_init 95 = .ok (.sipush 192, 3) := by decide +kernel
theorem dX0_init_98 : decode cX0_init 98 = .ok (.newarray .int, 2) := by decide +kernel
theorem dX0_init_100 : decode cX0_init 100 = .ok (.putfield 42, 3) := by decide +kernel
theorem dX0_init_103 : decode cX0_init 103 = .ok (.aload_n 0, 1) := by decide +kernel
theorem dX0_init_104 : decode cX0_init 104 = .ok (.sipush 192, 3) := by decide +kernel
theorem dX0_init_107 : decode cX0_init 107 = .ok (.newarray .int, 2) := by decide +kernel
theorem dX0_init_109 : decode cX0_init 109 = .ok (.putfield 45, 3) := by decide +kernel
theorem dX0_init_112 : decode cX0_init 112 = .ok (.aload_n 0, 1) := by decide +kernel
theorem dX0_init_113 : decode cX0_init 113 = .ok (.sipush 192, 3) := by decide +kernel
theorem dX0_init_116 : decode cX0_init 116 = .ok (.newarray .int, 2) := by decide +kernel
theorem dX0_init_118 : decode cX0_init 118 = .ok (.putfield 48, 3) := by decide +kernel
theorem dX0_init_121 : decode cX0_init 121 = .ok (.aload_n 0, 1) := by decide +kernel
theorem dX0_init_122 : decode cX0_init 122 = .ok (.sipush 192, 3) := by decide +kernel
theorem dX0_init_125 : decode cX0_init 125 = .ok (.newarray .float, 2) := by decide +kernel
theorem dX0_init_127 : decode cX0_init 127 = .ok (.putfield 51, 3) := by decide +kernel
theorem dX0_init_130 : decode cX0_init 130 = .ok (.aload_n 0, 1) := by decide +kernel
theorem dX0_init_131 : decode cX0_init 131 = .ok (.sipush 192, 3) := by decide +kernel
theorem dX0_init_134 : decode cX0_init 134 = .ok (.newarray .int, 2) := by decide +kernel
theorem dX0_init_136 : decode cX0_init 136 = .ok (.putfield 55, 3) := by decide +kernel
theorem dX0_init_139 : decode cX0_init 139 = .ok (.aload_n 0, 1) := by decide +kernel
theorem dX0_init_140 : decode cX0_init 140 = .ok (.sipush 192, 3) := by decide +kernel
theorem dX0_init_143 : decode cX0_init 143 = .ok (.newarray .int, 2) := by decide +kernel
theorem dX0_init_145 : decode cX0_init 145 = .ok (.putfield 58, 3) := by decide +kernel
theorem dX0_init_148 : decode cX0_init 148 = .ok (.aload_n 0, 1) := by decide +kernel
theorem dX0_init_149 : decode cX0_init 149 = .ok (.iconst 0, 1) := by decide +kernel
theorem dX0_init_150 : decode cX0_init 150 = .ok (.putfield 61, 3) := by decide +kernel
theorem dX0_init_153 : decode cX0_init 153 = .ok (.aload_n 0, 1) := by decide +kernel
theorem dX0_init_154 : decode cX0_init 154 = .ok (.iconst 0, 1) := by decide +kernel
theorem dX0_init_155 : decode cX0_init 155 = .ok (.putfield 65, 3) := by decide +kernel
theorem dX0_init_158 : decode cX0_init 158 = .ok (.aload_n 0, 1) := by decide +kernel
theorem dX0_init_159 : decode cX0_init 159 = .ok (.iconst 0, 1) := by decide +kernel
theorem dX0_init_160 : decode cX0_init 160 = .ok (.putfield 68, 3) := by decide +kernel
theorem dX0_init_163 : decode cX0_init 163 = .ok (.aload_n 0, 1) := by decide +kernel
theorem dX0_init_164 : decode cX0_init 164 = .ok (.iconst 0, 1) := by decide +kernel
theorem dX0_init_165 : decode cX0_init 165 = .ok (.putfield 71, 3) := by decide +kernel
theorem dX0_init_168 : decode cX0_init 168 = .ok (.aload_n 0, 1) := by decide +kernel
theorem dX0_init_169 : decode cX0_init 169 = .ok (.getfield 55, 3) := by decide +kernel
theorem dX0_init_172 : decode cX0_init 172 = .ok (.iconst (-1), 1) := by decide +kernel
theorem dX0_init_173 : decode cX0_init 173 = .ok (.invokestatic 74, 3) := by decide +kernel
theorem dX0_init_176 : decode cX0_init 176 = .ok (.return_, 1) := by decide +kernel
def De_init (k : Nat) (d : Mem) : Option (Unit × Mem) :=
  bnd (wrAM d k 18 (fun _ => 0)) fun d2 =>
  bnd (wrM d2 k 62 0 1) fun d3 =>
  bnd (wrAM d3 k 19 (fun _ => 0)) fun d5 =>
  bnd (wrM d5 k 62 1 1) fun d6 =>
  bnd (wrAM d6 k 20 (fun _ => 0)) fun d8 =>
  bnd (wrM d8 k 62 2 1) fun d9 =>
  bnd (wrAM d9 k 21 (fun _ => 0)) fun d11 =>
  bnd (wrM d11 k 62 3 1) fun d12 =>
  bnd (wrAM d12 k 22 (fun _ => 0)) fun d14 =>
  bnd (wrM d14 k 62 4 1) fun d15 =>
  bnd (wrAM d15 k 23 (fun _ => 0)) fun d17 =>
  bnd (wrM d17 k 62 5 1) fun d18 =>
  bnd (wrAM d18 k 24 (fun _ => 0)) fun d20 =>
  bnd (wrM d20 k 62 6 1) fun d21 =>
  bnd (wrAM d21 k 25 (fun _ => 0)) fun d23 =>
  bnd (wrM d23 k 62 7 1) fun d24 =>
  bnd (wrAM d24 k 26 (fun _ => 0)) fun d26 =>
  bnd (wrM d26 k 62 8 1) fun d27 =>
  bnd (wrAM d27 k 27 (fun _ => 0)) fun d29 =>
  bnd (wrM d29 k 62 9 1) fun d30 =>
  bnd (wrAM d30 k 28 (fun _ => 0)) fun d32 =>
  bnd (wrM d32 k 62 10 1) fun d33 =>
  bnd (wrAM d33 k 29 (fun _ => 0)) fun d35 =>
  bnd (wrM d35 k 62 11 1) fun d36 =>
  bnd (wrAM d36 k 30 (fun _ => 0)) fun d38 =>
  bnd (wrM d38 k 62 12 1) fun d39 =>
  bnd (wrAM d39 k 31 (fun _ => 0)) fun d41 =>
  bnd (wrM d41 k 62 13 1) fun d42 =>
  bnd (wrAM d42 k 32 (fun _ => 0)) fun d44 =>
  bnd (wrM d44 k 62 14 1) fun d45 =>
  bnd (wrAM d45 k 33 (fun _ => 0)) fun d47 =>
  bnd (wrM d47 k 62 15 1) fun d48 =>
  bnd (wrM d48 k 62 16 (0 : Int32)) fun d49 =>
  bnd (wrM d49 k 62 17 (0 : Int32)) fun d50 =>
  bnd (wrM d50 k 62 18 (0 : Int32)) fun d51 =>
  bnd (wrM d51 k 62 19 (0 : Int32)) fun d52 =>
  if d52 k 62 14 = 0 then none else
  bd (lft d52 k (Jk_fill_53178 32 192 (d52 k) (-1 : Int32))) fun _ d53 =>
  if cdone cs17 (d53 k 62) then
  bnd (wrAM d53 k 17 (d53 k 62)) fun d54 =>
  some ((), d54)
  else none
theorem yi_X0_init : YI yX0_init cX0_init 1 0 := ⟨q287, rfl, q288, q147, by decide +kernel, by decide +kernel, by decide +kernel, by decide +kernel⟩
theorem r_De_init {C : Cxt} {G : Geo} {k : Nat} (hC : Cx C cX0_init 1 "FrameHeirs$Deeds" none rm_X0_init G) (hnm : C.2.2.2.2.2.2.2.2.1.name = "<init>") (hl : G.2.2.2 k 62) (hn : ∀ b ∈ [17, 18, 19, 20, 21, 22, 23, 24, 25, 26, 27, 28, 29, 30, 31, 32, 33], ¬ G.2.2.2 k b) (hk3 : k < 1000)  (d : Mem) : Rg C 1 G 0 0 gm (QK C G k 62 17 [(k, 33), (k, 32), (k, 31), (k, 30), (k, 29), (k, 28), (k, 27), (k, 26), (k, 25), (k, 24), (k, 23), (k, 22), (k, 21), (k, 20), (k, 19), (k, 18)] 16 3072) 0 [(0, .inr (k, 62))] [] d (De_init k d) := by
  unfold De_init
  refine z_aload_n (pc := 0) hC 0 rfl 0 rfl dX0_init_0 ?_
  refine z_objI (pc := 1) hC q289 q165 q166 (Nat.le_of_ble_eq_true rfl) (Nat.le_of_ble_eq_true rfl) dX0_init_1 ?_
  refine z_aload_n (pc := 4) hC 0 rfl 0 rfl dX0_init_4 ?_
  refine z_sipush (pc := 5) hC (192 : Int32) rfl dX0_init_5 ?_
  refine zg_newa (pc := 8) (k := k) (a := 18) (n := 192) (ty := 0) (fty := .int) hC rfl rfl (by decide) (fun _ _ => rfl) (hC.2.2.2.2.2.1.2 0 _ rfl).2 q235 (hn 18 (by decide)) hk3 (Or.inl (by decide)) rfl (by decide +kernel) (by decide +kernel) (by decide +kernel) (by decide +kernel) (by decide +kernel) dX0_init_8 (fun Ge1 d2 e1 hC => ?_)
  refine zg_putS (pc := 10) (ty := (.array .int)) hC hnm (e1.old hl) (e1.mem (by simp)) f_62_0 q293 (by decide +kernel) (fun _ => rfl) (fun _ => rfl) dX0_init_10 (fun d3 => ?_)
  refine z_aload_n (pc := 13) hC 0 rfl 0 rfl dX0_init_13 ?_
  refine z_sipush (pc := 14) hC (192 : Int32) rfl dX0_init_14 ?_
  refine zg_newa (pc := 17) (k := k) (a := 19) (n := 192) (ty := 0) (fty := .int) hC rfl rfl (by decide) (fun _ _ => rfl) (hC.2.2.2.2.2.1.2 0 _ rfl).2 q235 (e1.not (hn 19 (by decide)) (by simp)) hk3 (Or.inl (by decide)) rfl (by decide +kernel) (by decide +kernel) (by decide +kernel) (by decide +kernel) (by decide +kernel) dX0_init_17 (fun Ge4 d5 e4 hC => ?_)
  refine zg_putS (pc := 19) (ty := (.array .int)) hC hnm (e4.old (e1.old hl)) (e4.mem (by simp)) f_62_1 q295 (by decide +kernel) (fun _ => rfl) (fun _ => rfl) dX0_init_19 (fun d6 => ?_)
  refine z_aload_n (pc := 22) hC 0 rfl 0 rfl dX0_init_22 ?_
  refine z_sipush (pc := 23) hC (192 : Int32) rfl dX0_init_23 ?_
  refine zg_newa (pc := 26) (k := k) (a := 20) (n := 192) (ty := 0) (fty := .int) hC rfl rfl (by decide) (fun _ _ => rfl) (hC.2.2.2.2.2.1.2 0 _ rfl).2 q235 (e4.not (e1.not (hn 20 (by decide)) (by simp)) (by simp)) hk3 (Or.inl (by decide)) rfl (by decide +kernel) (by decide +kernel) (by decide +kernel) (by decide +kernel) (by decide +kernel) dX0_init_26 (fun Ge7 d8 e7 hC => ?_)
  refine zg_putS (pc := 28) (ty := (.array .int)) hC hnm (e7.old (e4.old (e1.old hl))) (e7.mem (by simp)) f_62_2 q299 (by decide +kernel) (fun _ => rfl) (fun _ => rfl) dX0_init_28 (fun d9 => ?_)
  refine z_aload_n (pc := 31) hC 0 rfl 0 rfl dX0_init_31 ?_
  refine z_sipush (pc := 32) hC (192 : Int32) rfl dX0_init_32 ?_
  refine zg_newa (pc := 35) (k := k) (a := 21) (n := 192) (ty := 0) (fty := .int) hC rfl rfl (by decide) (fun _ _ => rfl) (hC.2.2.2.2.2.1.2 0 _ rfl).2 q235 (e7.not (e4.not (e1.not (hn 21 (by decide)) (by simp)) (by simp)) (by simp)) hk3 (Or.inl (by decide)) rfl (by decide +kernel) (by decide +kernel) (by decide +kernel) (by decide +kernel) (by decide +kernel) dX0_init_35 (fun Ge10 d11 e10 hC => ?_)
  refine zg_putS (pc := 37) (ty := (.array .int)) hC hnm (e10.old (e7.old (e4.old (e1.old hl)))) (e10.mem (by simp)) f_62_3 q302 (by decide +kernel) (fun _ => rfl) (fun _ => rfl) dX0_init_37 (fun d12 => ?_)
  refine z_aload_n (pc := 40) hC 0 rfl 0 rfl dX0_init_40 ?_
  refine z_sipush (pc := 41) hC (192 : Int32) rfl dX0_init_41 ?_
  refine zg_newa (pc := 44) (k := k) (a := 22) (n := 192) (ty := 0) (fty := .int) hC rfl rfl (by decide) (fun _ _ => rfl) (hC.2.2.2.2.2.1.2 0 _ rfl).2 q235 (e10.not (e7.not (e4.not (e1.not (hn 22 (by decide)) (by simp)) (by simp)) (by simp)) (by simp)) hk3 (Or.inl (by decide)) rfl (by decide +kernel) (by decide +kernel) (by decide +kernel) (by decide +kernel) (by decide +kernel) dX0_init_44 (fun Ge13 d14 e13 hC => ?_)
  refine zg_putS (pc := 46) (ty := (.array .int)) hC hnm (e13.old (e10.old (e7.old (e4.old (e1.old hl))))) (e13.mem (by simp)) f_62_4 q305 (by decide +kernel) (fun _ => rfl) (fun _ => rfl) dX0_init_46 (fun d15 => ?_)
  refine z_aload_n (pc := 49) hC 0 rfl 0 rfl dX0_init_49 ?_
  refine z_sipush (pc := 50) hC (192 : Int32) rfl dX0_init_50 ?_
  refine zg_newa (pc := 53) (k := k) (a := 23) (n := 192) (ty := 0) (fty := .int) hC rfl rfl (by decide) (fun _ _ => rfl) (hC.2.2.2.2.2.1.2 0 _ rfl).2 q235 (e13.not (e10.not (e7.not (e4.not (e1.not (hn 23 (by decide)) (by simp)) (by simp)) (by simp)) (by simp)) (by simp)) hk3 (Or.inl (by decide)) rfl (by decide +kernel) (by decide +kernel) (by decide +kernel) (by decide +kernel) (by decide +kernel) dX0_init_53 (fun Ge16 d17 e16 hC => ?_)
  refine zg_putS (pc := 55) (ty := (.array .int)) hC hnm (e16.old (e13.old (e10.old (e7.old (e4.old (e1.old hl)))))) (e16.mem (by simp)) f_62_5 q308 (by decide +kernel) (fun _ => rfl) (fun _ => rfl) dX0_init_55 (fun d18 => ?_)
  refine z_aload_n (pc := 58) hC 0 rfl 0 rfl dX0_init_58 ?_
  refine z_sipush (pc := 59) hC (192 : Int32) rfl dX0_init_59 ?_
  refine zg_newa (pc := 62) (k := k) (a := 24) (n := 192) (ty := 0) (fty := .int) hC rfl rfl (by decide) (fun _ _ => rfl) (hC.2.2.2.2.2.1.2 0 _ rfl).2 q235 (e16.not (e13.not (e10.not (e7.not (e4.not (e1.not (hn 24 (by decide)) (by simp)) (by simp)) (by simp)) (by simp)) (by simp)) (by simp)) hk3 (Or.inl (by decide)) rfl (by decide +kernel) (by decide +kernel) (by decide +kernel) (by decide +kernel) (by decide +kernel) dX0_init_62 (fun Ge19 d20 e19 hC => ?_)
  refine zg_putS (pc := 64) (ty := (.array .int)) hC hnm (e19.old (e16.old (e13.old (e10.old (e7.old (e4.old (e1.old hl))))))) (e19.mem (by simp)) f_62_6 q311 (by decide +kernel) (fun _ => rfl) (fun _ => rfl) dX0_init_64 (fun d21 => ?_)
  refine z_aload_n (pc := 67) hC 0 rfl 0 rfl dX0_init_67 ?_
  refine z_sipush (pc := 68) hC (192 : Int32) rfl dX0_init_68 ?_
  refine zg_newa (pc := 71) (k := k) (a := 25) (n := 192) (ty := 0) (fty := .int) hC rfl rfl (by decide) (fun _ _ => rfl) (hC.2.2.2.2.2.1.2 0 _ rfl).2 q235 (e19.not (e16.not (e13.not (e10.not (e7.not (e4.not (e1.not (hn 25 (by decide)) (by simp)) (by simp)) (by simp)) (by simp)) (by simp)) (by simp)) (by simp)) hk3 (Or.inl (by decide)) rfl (by decide +kernel) (by decide +kernel) (by decide +kernel) (by decide +kernel) (by decide +kernel) dX0_init_71 (fun Ge22 d23 e22 hC => ?_)
  refine zg_putS (pc := 73) (ty := (.array .int)) hC hnm (e22.old (e19.old (e16.old (e13.old (e10.old (e7.old (e4.old (e1.old hl)))))))) (e22.mem (by simp)) f_62_7 q313 (by decide +kernel) (fun _ => rfl) (fun _ => rfl) dX0_init_73 (fun d24 => ?_)
  refine z_aload_n (pc := 76) hC 0 rfl 0 rfl dX0_init_76 ?_
  refine z_sipush (pc := 77) hC (192 : Int32) rfl dX0_init_77 ?_
  refine zg_newa (pc := 80) (k := k) (a := 26) (n := 192) (ty := 0) (fty := .int) hC rfl rfl (by decide) (fun _ _ => rfl) (hC.2.2.2.2.2.1.2 0 _ rfl).2 q235 (e22.not (e19.not (e16.not (e13.not (e10.not (e7.not (e4.not (e1.not (hn 26 (by decide)) (by simp)) (by simp)) (by simp)) (by simp)) (by simp)) (by simp)) (by simp)) (by simp)) hk3 (Or.inl (by decide)) rfl (by decide +kernel) (by decide +kernel) (by decide +kernel) (by decide +kernel) (by decide +kernel) dX0_init_80 (fun Ge25 d26 e25 hC => ?_)
  refine zg_putS (pc := 82) (ty := (.array .int)) hC hnm (e25.old (e22.old (e19.old (e16.old (e13.old (e10.old (e7.old (e4.old (e1.old hl))))))))) (e25.mem (by simp)) f_62_8 q314 (by decide +kernel) (fun _ => rfl) (fun _ => rfl) dX0_init_82 (fun d27 => ?_)
  refine z_aload_n (pc := 85) hC 0 rfl 0 rfl dX0_init_85 ?_
  refine z_sipush (pc := 86) hC (192 : Int32) rfl dX0_init_86 ?_
  refine zg_newa (pc := 89) (k := k) (a := 27) (n := 192) (ty := 0) (fty := .int) hC rfl rfl (by decide) (fun _ _ => rfl) (hC.2.2.2.2.2.1.2 0 _ rfl).2 q235 (e25.not (e22.not (e19.not (e16.not (e13.not (e10.not (e7.not (e4.not (e1.not (hn 27 (by decide)) (by simp)) (by simp)) (by simp)) (by simp)) (by simp)) (by simp)) (by simp)) (by simp)) (by simp)) hk3 (Or.inl (by decide)) rfl (by decide +kernel) (by decide +kernel) (by decide +kernel) (by decide +kernel) (by decide +kernel) dX0_init_89 (fun Ge28 d29 e28 hC => ?_)
  refine zg_putS (pc := 91) (ty := (.array .int)) hC hnm (e28.old (e25.old (e22.old (e19.old (e16.old (e13.old (e10.old (e7.old (e4.old (e1.old hl)))))))))) (e28.mem (by simp)) f_62_9 q316 (by decide +kernel) (fun _ => rfl) (fun _ => rfl) dX0_init_91 (fun d30 => ?_)
  refine z_aload_n (pc := 94) hC 0 rfl 0 rfl dX0_init_94 ?_
  refine z_sipush (pc := 95) hC (192 : Int32) rfl dX0_init_95 ?_
  refine zg_newa (pc := 98) (k := k) (a := 28) (n := 192) (ty := 0) (fty := .int) hC rfl rfl (by decide) (fun _ _ => rfl) (hC.2.2.2.2.2.1.2 0 _ rfl).2 q235 (e28.not (e25.not (e22.not (e19.not (e16.not (e13.not (e10.not (e7.not (e4.not (e1.not (hn 28 (by decide)) (by simp)) (by simp)) (by simp)) (by simp)) (by simp)) (by simp)) (by simp)) (by simp)) (by simp)) (by simp)) hk3 (Or.inl (by decide)) rfl (by decide +kernel) (by decide +kernel) (by decide +kernel) (by decide +kernel) (by decide +kernel) dX0_init_98 (fun Ge31 d32 e31 hC => ?_)
  refine zg_putS (pc := 100) (ty := (.array .int)) hC hnm (e31.old (e28.old (e25.old (e22.old (e19.old (e16.old (e13.old (e10.old (e7.old (e4.old (e1.old hl))))))))))) (e31.mem (by simp)) f_62_10 q317 (by decide +kernel) (fun _ => rfl) (fun _ => rfl) dX0_init_100 (fun d33 => ?_)
  refine z_aload_n (pc := 103) hC 0 rfl 0 rfl dX0_init_103 ?_
  refine z_sipush (pc := 104) hC (192 : Int32) rfl dX0_init_104 ?_
  refine zg_newa (pc := 107) (k := k) (a := 29) (n := 192) (ty := 0) (fty := .int) hC rfl rfl (by decide) (fun _ _ => rfl) (hC.2.2.2.2.2.1.2 0 _ rfl).2 q235 (e31.not (e28.not (e25.not (e22.not (e19.not (e16.not (e13.not (e10.not (e7.not (e4.not (e1.not (hn 29 (by decide)) (by simp)) (by simp)) (by simp)) (by simp)) (by simp)) (by simp)) (by simp)) (by simp)) (by simp)) (by simp)) (by simp)) hk3 (Or.inl (by decide)) rfl (by decide +kernel) (by decide +kernel) (by decide +kernel) (by decide +kernel) (by decide +kernel) dX0_init_107 (fun Ge34 d35 e34 hC => ?_)
  refine zg_putS (pc := 109) (ty := (.array .int)) hC hnm (e34.old (e31.old (e28.old (e25.old (e22.old (e19.old (e16.old (e13.old (e10.old (e7.old (e4.old (e1.old hl)))))))))))) (e34.mem (by simp)) f_62_11 q318 (by decide +kernel) (fun _ => rfl) (fun _ => rfl) dX0_init_109 (fun d36 => ?_)
  refine z_aload_n (pc := 112) hC 0 rfl 0 rfl dX0_init_112 ?_
  refine z_sipush (pc := 113) hC (192 : Int32) rfl dX0_init_113 ?_
  refine zg_newa (pc := 116) (k := k) (a := 30) (n := 192) (ty := 0) (fty := .int) hC rfl rfl (by decide) (fun _ _ => rfl) (hC.2.2.2.2.2.1.2 0 _ rfl).2 q235 (e34.not (e31.not (e28.not (e25.not (e22.not (e19.not (e16.not (e13.not (e10.not (e7.not (e4.not (e1.not (hn 30 (by decide)) (by simp)) (by simp)) (by simp)) (by simp)) (by simp)) (by simp)) (by simp)) (by simp)) (by simp)) (by simp)) (by simp)) (by simp)) hk3 (Or.inl (by decide)) rfl (by decide +kernel) (by decide +kernel) (by decide +kernel) (by decide +kernel) (by decide +kernel) dX0_init_116 (fun Ge37 d38 e37 hC => ?_)
  refine zg_putS (pc := 118) (ty := (.array .int)) hC hnm (e37.old (e34.old (e31.old (e28.old (e25.old (e22.old (e19.old (e16.old (e13.old (e10.old (e7.old (e4.old (e1.old hl))))))))))))) (e37.mem (by simp)) f_62_12 q320 (by decide +kernel) (fun _ => rfl) (fun _ => rfl) dX0_init_118 (fun d39 => ?_)
  refine z_aload_n (pc := 121) hC 0 rfl 0 rfl dX0_init_121 ?_
  refine z_sipush (pc := 122) hC (192 : Int32) rfl dX0_init_122 ?_
  refine zg_newa (pc := 125) (k := k) (a := 31) (n := 192) (ty := 1) (fty := .float) hC rfl rfl (by decide) (fun _ _ => rfl) (hC.2.2.2.2.2.1.2 1 _ rfl).2 q375 (e37.not (e34.not (e31.not (e28.not (e25.not (e22.not (e19.not (e16.not (e13.not (e10.not (e7.not (e4.not (e1.not (hn 31 (by decide)) (by simp)) (by simp)) (by simp)) (by simp)) (by simp)) (by simp)) (by simp)) (by simp)) (by simp)) (by simp)) (by simp)) (by simp)) (by simp)) hk3 (Or.inl (by decide)) rfl (by decide +kernel) (by decide +kernel) (by decide +kernel) (by decide +kernel) (by decide +kernel) dX0_init_125 (fun Ge40 d41 e40 hC => ?_)
  refine zg_putS (pc := 127) (ty := (.array .float)) hC hnm (e40.old (e37.old (e34.old (e31.old (e28.old (e25.old (e22.old (e19.old (e16.old (e13.old (e10.old (e7.old (e4.old (e1.old hl)))))))))))))) (e40.mem (by simp)) f_62_13 q321 (by decide +kernel) (fun _ => rfl) (fun _ => rfl) dX0_init_127 (fun d42 => ?_)
  refine z_aload_n (pc := 130) hC 0 rfl 0 rfl dX0_init_130 ?_
  refine z_sipush (pc := 131) hC (192 : Int32) rfl dX0_init_131 ?_
  refine zg_newa (pc := 134) (k := k) (a := 32) (n := 192) (ty := 0) (fty := .int) hC rfl rfl (by decide) (fun _ _ => rfl) (hC.2.2.2.2.2.1.2 0 _ rfl).2 q235 (e40.not (e37.not (e34.not (e31.not (e28.not (e25.not (e22.not (e19.not (e16.not (e13.not (e10.not (e7.not (e4.not (e1.not (hn 32 (by decide)) (by simp)) (by simp)) (by simp)) (by simp)) (by simp)) (by simp)) (by simp)) (by simp)) (by simp)) (by simp)) (by simp)) (by simp)) (by simp)) (by simp)) hk3 (Or.inl (by decide)) rfl (by decide +kernel) (by decide +kernel) (by decide +kernel) (by decide +kernel) (by decide +kernel) dX0_init_134 (fun Ge43 d44 e43 hC => ?_)
  refine zg_putS (pc := 136) (ty := (.array .int)) hC hnm (e43.old (e40.old (e37.old (e34.old (e31.old (e28.old (e25.old (e22.old (e19.old (e16.old (e13.old (e10.old (e7.old (e4.old (e1.old hl))))))))))))))) (e43.mem (by simp)) f_62_14 q324 (by decide +kernel) (fun _ => rfl) (fun _ => rfl) dX0_init_136 (fun d45 => ?_)
  refine z_aload_n (pc := 139) hC 0 rfl 0 rfl dX0_init_139 ?_
  refine z_sipush (pc := 140) hC (192 : Int32) rfl dX0_init_140 ?_
  refine zg_newa (pc := 143) (k := k) (a := 33) (n := 192) (ty := 0) (fty := .int) hC rfl rfl (by decide) (fun _ _ => rfl) (hC.2.2.2.2.2.1.2 0 _ rfl).2 q235 (e43.not (e40.not (e37.not (e34.not (e31.not (e28.not (e25.not (e22.not (e19.not (e16.not (e13.not (e10.not (e7.not (e4.not (e1.not (hn 33 (by decide)) (by simp)) (by simp)) (by simp)) (by simp)) (by simp)) (by simp)) (by simp)) (by simp)) (by simp)) (by simp)) (by simp)) (by simp)) (by simp)) (by simp)) (by simp)) hk3 (Or.inl (by decide)) rfl (by decide +kernel) (by decide +kernel) (by decide +kernel) (by decide +kernel) (by decide +kernel) dX0_init_143 (fun Ge46 d47 e46 hC => ?_)
  refine zg_putS (pc := 145) (ty := (.array .int)) hC hnm (e46.old (e43.old (e40.old (e37.old (e34.old (e31.old (e28.old (e25.old (e22.old (e19.old (e16.old (e13.old (e10.old (e7.old (e4.old (e1.old hl)))))))))))))))) (e46.mem (by simp)) f_62_15 q325 (by decide +kernel) (fun _ => rfl) (fun _ => rfl) dX0_init_145 (fun d48 => ?_)
  refine z_aload_n (pc := 148) hC 0 rfl 0 rfl dX0_init_148 ?_
  refine z_iconst (pc := 149) hC (0 : Int32) rfl dX0_init_149 ?_
  refine zg_puti (pc := 150) hC (e46.old (e43.old (e40.old (e37.old (e34.old (e31.old (e28.old (e25.old (e22.old (e19.old (e16.old (e13.old (e10.old (e7.old (e4.old (e1.old hl)))))))))))))))) f_62_16 q327 dX0_init_150 (fun d49 => ?_)
  refine z_aload_n (pc := 153) hC 0 rfl 0 rfl dX0_init_153 ?_
  refine z_iconst (pc := 154) hC (0 : Int32) rfl dX0_init_154 ?_
  refine zg_puti (pc := 155) hC (e46.old (e43.old (e40.old (e37.old (e34.old (e31.old (e28.old (e25.old (e22.old (e19.old (e16.old (e13.old (e10.old (e7.old (e4.old (e1.old hl)))))))))))))))) f_62_17 q329 dX0_init_155 (fun d50 => ?_)
  refine z_aload_n (pc := 158) hC 0 rfl 0 rfl dX0_init_158 ?_
  refine z_iconst (pc := 159) hC (0 : Int32) rfl dX0_init_159 ?_
  refine zg_puti (pc := 160) hC (e46.old (e43.old (e40.old (e37.old (e34.old (e31.old (e28.old (e25.old (e22.old (e19.old (e16.old (e13.old (e10.old (e7.old (e4.old (e1.old hl)))))))))))))))) f_62_18 q331 dX0_init_160 (fun d51 => ?_)
  refine z_aload_n (pc := 163) hC 0 rfl 0 rfl dX0_init_163 ?_
  refine z_iconst (pc := 164) hC (0 : Int32) rfl dX0_init_164 ?_
  refine zg_puti (pc := 165) hC (e46.old (e43.old (e40.old (e37.old (e34.old (e31.old (e28.old (e25.old (e22.old (e19.old (e16.old (e13.old (e10.old (e7.old (e4.old (e1.old hl)))))))))))))))) f_62_19 q332 dX0_init_165 (fun d52 => ?_)
  refine z_aload_n (pc := 168) hC 0 rfl 0 rfl dX0_init_168 ?_
  refine zg_getraw (pc := 169) hC (e46.old (e43.old (e40.old (e37.old (e34.old (e31.old (e28.old (e25.old (e22.old (e19.old (e16.old (e13.old (e10.old (e7.old (e4.old (e1.old hl)))))))))))))))) f_62_14 q324 dX0_init_169 ?_
  refine z_iconst (pc := 172) hC (-1 : Int32) rfl dX0_init_172 ?_
  refine z_cvSA (pc := 173) (st := []) hC y_J7_fill_53178 q290 [.inr (k, 32), .inl (.int (-1 : Int32))] rfl (lft_m (c_J7_fill_53178 (Nb0 := 192) hC.2.2.2.2.2.2.1 (e46.old (e43.mem (by simp))) (by decide) rfl)) rfl ⟨rfl, rfl, (Nat.le_of_ble_eq_true rfl), (Nat.le_of_ble_eq_true rfl)⟩ ⟨(by decide +kernel), (by decide +kernel)⟩ (Nat.le_of_ble_eq_true rfl) dX0_init_173 (fun _ d53 => ?_)
  refine zn_rel (pc := 176) (k := k) (a := 62) (b := 17) (ls1 := [(0, .inr (k, 17))]) (st1 := []) hC (e46.old (e43.old (e40.old (e37.old (e34.old (e31.old (e28.old (e25.old (e22.old (e19.old (e16.old (e13.old (e10.old (e7.old (e4.old (e1.old hl)))))))))))))))) (e46.not (e43.not (e40.not (e37.not (e34.not (e31.not (e28.not (e25.not (e22.not (e19.not (e16.not (e13.not (e10.not (e7.not (e4.not (e1.not (hn 17 (by decide)) (by simp)) (by simp)) (by simp)) (by simp)) (by simp)) (by simp)) (by simp)) (by simp)) (by simp)) (by simp)) (by simp)) (by simp)) (by simp)) (by simp)) (by simp)) (by simp)) (by decide) (by decide) rfl rfl (by decide) rfl rfl (by exact (List.forall_mem_cons.mpr ⟨⟨fun _ => rfl, (show ((62 : Nat)) ≠ 17 by decide)⟩, (fun _ h => absurd h List.not_mem_nil)⟩)) (by exact (fun _ h => absurd h List.not_mem_nil)) (fun Gg55 d54 g55 hC => ?_)
  exact zk_vret (pc := 176) (L := [(k, 33), (k, 32), (k, 31), (k, 30), (k, 29), (k, 28), (k, 27), (k, 26), (k, 25), (k, 24), (k, 23), (k, 22), (k, 21), (k, 20), (k, 19), (k, 18)]) hC (Or.inr (by decide)) ⟨_, (((((((((((((((e1.trans e4).trans e7).trans e10).trans e13).trans e16).trans e19).trans e22).trans e25).trans e28).trans e31).trans e34).trans e37).trans e40).trans e43).trans e46), g55⟩ dX0_init_176
theorem c_X0_init {G : Geo} (hG : GOk G) {k : Nat} (hl : G.2.2.2 k 62) (hn : ∀ b ∈ [17, 18, 19, 20, 21, 22, 23, 24, 25, 26, 27, 28, 29, 30, 31, 32, 33], ¬ G.2.2.2 k b) (hk3 : k < 1000)  {d : Mem} (l : Launch) (x1 : Mem) (h : De_init k d = some ((), x1)) : MtC l yX0_init cX0_init 1 rm_X0_init G k 62 17 [] d [(k, 33), (k, 32), (k, 31), (k, 30), (k, 29), (k, 28), (k, 27), (k, 26), (k, 25), (k, 24), (k, 23), (k, 22), (k, 21), (k, 20), (k, 19), (k, 18)] 16 3072 x1 :=
  mtC_of rfl rfl hG [] (Nat.le_of_ble_eq_true rfl) rfl (fun C hC hnm => r_De_init hC hnm hl hn hk3 d) h
-- FrameHeirs$World.<init>
abbrev rm_X4_init : Room := { frames := 2, cells := 23, slots := 3164, locals := 43 }
theorem dX4_init_0 : decode cX4_init 0 = .ok (.aload_n 0, 1) := by decide +kernel
theorem dX4_init_1 : decode cX4_init 1 = .ok (.invokespecial 3, 3) := by decide +kernel
theorem dX4_init_4 : decode cX4_init 4 = .ok (.aload_n 0, 1) := by decide +kernel
theorem dX4_init_5 : decode cX4_init 5 = .ok (.new 9, 3) := by decide +kernel
theorem dX4_init_8 : decode cX4_init 8 = .ok (.dup, 1) := by decide +kernel
theorem dX4_init_9 : decode cX4_init 9 = .ok (.invokespecial 11, 3) := by decide +kernel
theorem dX4_init_12 : decode cX4_init 12 = .ok (.putfield 12, 3) := by decide +kernel
theorem dX4_init_15 : decode cX4_init 15 = .ok (.aload_n 0, 1) := by decide +kernel
theorem dX4_init_16 : decode cX4_init 16 = .ok (.bipush 24, 2) := by decide +kernel
theorem dX4_init_18 : decode cX4_init 18 = .ok (.newarray .int, 2) := by decide +kernel
theorem dX4_init_20 : decode cX4_init 20 = .ok (.putfield 18, 3) := by decide +kernel
theorem dX4_init_23 : decode cX4_init 23 = .ok (.aload_n 0, 1) := by decide +kernel
theorem dX4_init_24 : decode cX4_init 24 = .ok (.iconst 0, 1) := by decide +kernel
theorem dX4_init_25 : decode cX4_init 25 = .ok (.putfield 22, 3) := by decide +kernel
theorem dX4_init_28 : decode cX4_init 28 = .ok (.aload_n 0, 1) := by decide +kernel
theorem dX4_init_29 : decode cX4_init 29 = .ok (.iconst 0, 1) := by decide +kernel
theorem dX4_init_30 : decode cX4_init 30 = .ok (.putfield 26, 3) := by decide +kernel
theorem dX4_init_33 : decode cX4_init 33 = .ok (.aload_n 0, 1) := by decide +kernel
theorem dX4_init_34 : decode cX4_init 34 = .ok (.bipush 6, 2) := by decide +kernel
theorem dX4_init_36 : decode cX4_init 36 = .ok (.newarray .int, 2) := by decide +kernel
theorem dX4_init_38 : decode cX4_init 38 = .ok (.putfield 29, 3) := by decide +kernel
theorem dX4_init_41 : decode cX4_init 41 = .ok (.aload_n 0, 1) := by decide +kernel
theorem dX4_init_42 : decode cX4_init 42 = .ok (.bipush 6, 2) := by decide +kernel
theorem dX4_init_44 : decode cX4_init 44 = .ok (.newarray .int, 2) := by decide +kernel
theorem dX4_init_46 : decode cX4_init 46 = .ok (.putfield 32, 3) := by decide +kernel
theorem dX4_init_49 : decode cX4_init 49 = .ok (.aload_n 0, 1) := by decide +kernel
theorem dX4_init_50 : decode cX4_init 50 = .ok (.bipush 6, 2) := by decide +kernel
theorem dX4_init_52 : decode cX4_init 52 = .ok (.newarray .int, 2) := by decide +kernel
theorem dX4_init_54 : decode cX4_init 54 = .ok (.putfield 35, 3) := by decide +kernel
theorem dX4_init_57 : decode cX4_init 57 = .ok (.aload_n 0, 1) := by decide +kernel
theorem dX4_init_58 : decode cX4_init 58 = .ok (.iconst 0, 1) := by decide +kernel
theorem dX4_init_59 : decode cX4_init 59 = .ok (.putfield 38, 3) := by decide +kernel
theorem dX4_init_62 : decode cX4_init 62 = .ok (.aload_n 0, 1) := by decide +kernel
theorem dX4_init_63 : decode cX4_init 63 = .ok (.bipush 6, 2) := by decide +kernel
theorem dX4_init_65 : decode cX4_init 65 = .ok (.newarray .int, 2) := by decide +kernel
theorem dX4_init_67 : decode cX4_init 67 = .ok (.putfield 41, 3) := by decide +kernel
theorem dX4_init_70 : decode cX4_init 70 = .ok (.aload_n 0, 1) := by decide +kernel
theorem dX4_init_71 : decode cX4_init 71 = .ok (.bipush 24, 2) := by decide +kernel
theorem dX4_init_73 : decode cX4_init 73 = .ok (.newarray .int, 2) := by decide +kernel
theorem dX4_init_75 : decode cX4_init 75 = .ok (.putfield 44, 3) := by decide +kernel
theorem dX4_init_78 : decode cX4_init 78 = .ok (.aload_n 0, 1) := by decide +kernel
theorem dX4_init_79 : decode cX4_init 79 = .ok (.iconst 0, 1) := by decide +kernel
theorem dX4_init_80 : decode cX4_init 80 = .ok (.putfield 47, 3) := by decide +kernel
theorem dX4_init_83 : decode cX4_init 83 = .ok (.aload_n 0, 1) := by decide +kernel
theorem dX4_init_84 : decode cX4_init 84 = .ok (.iconst 0, 1) := by decide +kernel
theorem dX4_init_85 : decode cX4_init 85 = .ok (.putfield 50, 3) := by decide +kernel
theorem dX4_init_88 : decode cX4_init 88 = .ok (.aload_n 0, 1) := by decide +kernel
theorem dX4_init_89 : decode cX4_init 89 = .ok (.iconst 0, 1) := by decide +kernel
theorem dX4_init_90 : decode cX4_init 90 = .ok (.putfield 53, 3) := by decide +kernel
theorem dX4_init_93 : decode cX4_init 93 = .ok (.aload_n 0, 1) := by decide +kernel
theorem dX4_init_94 : decode cX4_init 94 = .ok (.iconst 0, 1) := by decide +kernel
theorem dX4_init_95 : decode cX4_init 95 = .ok (.putfield 56, 3) := by decide +kernel
theorem dX4_init_98 : decode cX4_init 98 = .ok (.aload_n 0, 1) := by decide +kernel
theorem dX4_init_99 : decode cX4_init 99 = .ok (.aload_n 1, 1) := by decide +kernel
theorem dX4_init_100 : decode cX4_init 100 = .ok (.putfield 59, 3) := by decide +kernel
theorem dX4_init_103 : decode cX4_init 103 = .ok (.return_, 1) := by decide +kernel
def Wo_init (k : Nat) (q1 : Nat) (d : Mem) : Option (Unit × Mem) :=
  bnd (wrAM d k 62 (rini cs62)) fun d2 =>
  bd (De_init k d2) fun _ d5 =>
  bnd (wrM d5 k 61 1 1) fun d6 =>
  bnd (wrAM d6 k 11 (fun _ => 0)) fun d8 =>
  bnd (wrM d8 k 61 2 1) fun d9 =>
  bnd (wrM d9 k 61 3 (0 : Int32)) fun d10 =>
  bnd (wrM d10 k 61 4 (0 : Int32)) fun d11 =>
  bnd (wrAM d11 k 12 (fun _ => 0)) fun d13 =>
  bnd (wrM d13 k 61 5 1) fun d14 =>
  bnd (wrAM d14 k 13 (fun _ => 0)) fun d16 =>
  bnd (wrM d16 k 61 6 1) fun d17 =>
  bnd (wrAM d17 k 14 (fun _ => 0)) fun d19 =>
  bnd (wrM d19 k 61 7 1) fun d20 =>
  bnd (wrM d20 k 61 8 (0 : Int32)) fun d21 =>
  bnd (wrAM d21 k 15 (fun _ => 0)) fun d23 =>
  bnd (wrM d23 k 61 9 1) fun d24 =>
  bnd (wrAM d24 k 16 (fun _ => 0)) fun d26 =>
  bnd (wrM d26 k 61 10 1) fun d27 =>
  bnd (wrM d27 k 61 11 (0 : Int32)) fun d28 =>
  bnd (wrM d28 k 61 12 (0 : Int32)) fun d29 =>
  bnd (wrM d29 k 61 13 (0 : Int32)) fun d30 =>
  bnd (wrM d30 k 61 14 (0 : Int32)) fun d31 =>
  bnd (wrM d31 k 61 0 (nI q1)) fun d32 =>
  if cdone cs10 (d32 k 61) then
  bnd (wrAM d32 k 10 (d32 k 61)) fun d33 =>
  some ((), d33)
  else none
theorem yi_X4_init : YI yX4_init cX4_init 2 1 := ⟨q281, rfl, q282, q146, by decide +kernel, by decide +kernel, by decide +kernel, by decide +kernel⟩
theorem r_Wo_init {C : Cxt} {G : Geo} {k : Nat} {q1 : Nat} (hC : Cx C cX4_init 2 "FrameHeirs$World" none rm_X4_init G) (hnm : C.2.2.2.2.2.2.2.2.1.name = "<init>") (hl : G.2.2.2 k 61) (hn : ∀ b ∈ [10, 11, 12, 13, 14, 15, 16, 17, 18, 19, 20, 21, 22, 23, 24, 25, 26, 27, 28, 29, 30, 31, 32, 33, 62], ¬ G.2.2.2 k b) (hk3 : k < 1000) (hq1 : G.2.2.2 q1 4) (d : Mem) : Rg C 2 G 0 0 gm (QK C G k 61 10 [(k, 16), (k, 15), (k, 14), (k, 13), (k, 12), (k, 11), (k, 17), (k, 33), (k, 32), (k, 31), (k, 30), (k, 29), (k, 28), (k, 27), (k, 26), (k, 25), (k, 24), (k, 23), (k, 22), (k, 21), (k, 20), (k, 19), (k, 18)] 23 3164) 0 [(0, .inr (k, 61)), (1, .inr (q1, 4))] [] d (Wo_init k q1 d) := by
  unfold Wo_init
  refine z_aload_n (pc := 0) hC 0 rfl 0 rfl dX4_init_0 ?_
  refine z_objI (pc := 1) hC q283 q165 q166 (Nat.le_of_ble_eq_true rfl) (Nat.le_of_ble_eq_true rfl) dX4_init_1 ?_
  refine z_aload_n (pc := 4) hC 0 rfl 0 rfl dX4_init_4 ?_
  refine zg_new (pc := 5) (k := k) (a := 62) (ty0 := tyX0) hC rfl rfl inwX0 tyX0_ok q284 q285 q147 df_62 no1_62 (hn 62 (by decide)) hk3 (Or.inr (by decide)) rfl (by decide +kernel) (by decide +kernel) dX4_init_5 (fun Ge1 d2 e1 hC => ?_)
  refine z_dup (pc := 8) hC rfl dX4_init_8 ?_
  refine zk_init (pc := 9) (b := 17) (st := [.inr (k, 62), .inr (k, 61)]) (ls1 := [(0, .inr (k, 61)), (1, .inr (q1, 4))]) (st1 := [.inr (k, 17), .inr (k, 61)]) (L := [(k, 33), (k, 32), (k, 31), (k, 30), (k, 29), (k, 28), (k, 27), (k, 26), (k, 25), (k, 24), (k, 23), (k, 22), (k, 21), (k, 20), (k, 19), (k, 18)]) hC yi_X0_init (Or.inl q286) [] rfl (c_X0_init hC.2.2.2.2.2.2.1 (k := k) (e1.mem (by simp)) (NL.step (S := [10, 11, 12, 13, 14, 15, 16, 17, 18, 19, 20, 21, 22, 23, 24, 25, 26, 27, 28, 29, 30, 31, 32, 33, 62]) (S1 := [17, 18, 19, 20, 21, 22, 23, 24, 25, 26, 27, 28, 29, 30, 31, 32, 33]) [62] e1 hn (by decide)) hk3) rfl (by decide) (by decide) (by simp) (by exact (List.forall_mem_cons.mpr ⟨⟨(e1.old hl), ⟨fun h => absurd h (show ¬ ((61 : Nat)) = 62 by decide), (show ((61 : Nat)) ≠ 17 by decide)⟩⟩, (List.forall_mem_cons.mpr ⟨⟨(e1.old hq1), ⟨fun h => absurd h (show ¬ ((4 : Nat)) = 62 by decide), (show ((4 : Nat)) ≠ 17 by decide)⟩⟩, (fun _ h => absurd h List.not_mem_nil)⟩)⟩)) (by exact (List.forall_mem_cons.mpr ⟨⟨(e1.mem (by simp)), ⟨fun _ => rfl, (show ((62 : Nat)) ≠ 17 by decide)⟩⟩, (List.forall_mem_cons.mpr ⟨⟨(e1.old hl), ⟨fun h => absurd h (show ¬ ((61 : Nat)) = 62 by decide), (show ((61 : Nat)) ≠ 17 by decide)⟩⟩, (fun _ h => absurd h List.not_mem_nil)⟩)⟩)) rfl rfl ⟨rfl, rfl, (Nat.le_of_ble_eq_true rfl), (Nat.le_of_ble_eq_true rfl)⟩ ⟨(by decide +kernel), (by decide +kernel)⟩ (Nat.le_of_ble_eq_true rfl) dX4_init_9 (fun Gh3 d5 h3 hC => ?_)
  have e4 : GE _ _ _ [(k, 17), (k, 33), (k, 32), (k, 31), (k, 30), (k, 29), (k, 28), (k, 27), (k, 26), (k, 25), (k, 24), (k, 23), (k, 22), (k, 21), (k, 20), (k, 19), (k, 18)] := GEL.ge e1 h3 (by simp)
  refine zg_putS (pc := 12) (ty := (.object "FrameHeirs$Deeds")) hC hnm (e4.old hl) (e4.mem (by simp)) f_61_1 q378 (by decide +kernel) (fun _ => rfl) (fun _ => rfl) dX4_init_12 (fun d6 => ?_)
  refine z_aload_n (pc := 15) hC 0 rfl 0 rfl dX4_init_15 ?_
  refine z_bipush (pc := 16) hC (24 : Int32) rfl dX4_init_16 ?_
  refine zg_newa (pc := 18) (k := k) (a := 11) (n := 24) (ty := 0) (fty := .int) hC rfl rfl (by decide) (fun _ _ => rfl) (hC.2.2.2.2.2.1.2 0 _ rfl).2 q235 (e4.not (hn 11 (by decide)) (by simp)) hk3 (Or.inl (by decide)) rfl (by decide +kernel) (by decide +kernel) (by decide +kernel) (by decide +kernel) (by decide +kernel) dX4_init_18 (fun Ge7 d8 e7 hC => ?_)
  refine zg_putS (pc := 20) (ty := (.array .int)) hC hnm (e7.old (e4.old hl)) (e7.mem (by simp)) f_61_2 q380 (by decide +kernel) (fun _ => rfl) (fun _ => rfl) dX4_init_20 (fun d9 => ?_)
  refine z_aload_n (pc := 23) hC 0 rfl 0 rfl dX4_init_23 ?_
  refine z_iconst (pc := 24) hC (0 : Int32) rfl dX4_init_24 ?_
  refine zg_puti (pc := 25) hC (e7.old (e4.old hl)) f_61_3 q381 dX4_init_25 (fun d10 => ?_)
  refine z_aload_n (pc := 28) hC 0 rfl 0 rfl dX4_init_28 ?_
  refine z_iconst (pc := 29) hC (0 : Int32) rfl dX4_init_29 ?_
  refine zg_puti (pc := 30) hC (e7.old (e4.old hl)) f_61_4 q383 dX4_init_30 (fun d11 => ?_)
  refine z_aload_n (pc := 33) hC 0 rfl 0 rfl dX4_init_33 ?_
  refine z_bipush (pc := 34) hC (6 : Int32) rfl dX4_init_34 ?_
  refine zg_newa (pc := 36) (k := k) (a := 12) (n := 6) (ty := 0) (fty := .int) hC rfl rfl (by decide) (fun _ _ => rfl) (hC.2.2.2.2.2.1.2 0 _ rfl).2 q235 (e7.not (e4.not (hn 12 (by decide)) (by simp)) (by simp)) hk3 (Or.inl (by decide)) rfl (by decide +kernel) (by decide +kernel) (by decide +kernel) (by decide +kernel) (by decide +kernel) dX4_init_36 (fun Ge12 d13 e12 hC => ?_)
  refine zg_putS (pc := 38) (ty := (.array .int)) hC hnm (e12.old (e7.old (e4.old hl))) (e12.mem (by simp)) f_61_5 q384 (by decide +kernel) (fun _ => rfl) (fun _ => rfl) dX4_init_38 (fun d14 => ?_)
  refine z_aload_n (pc := 41) hC 0 rfl 0 rfl dX4_init_41 ?_
  refine z_bipush (pc := 42) hC (6 : Int32) rfl dX4_init_42 ?_
  refine zg_newa (pc := 44) (k := k) (a := 13) (n := 6) (ty := 0) (fty := .int) hC rfl rfl (by decide) (fun _ _ => rfl) (hC.2.2.2.2.2.1.2 0 _ rfl).2 q235 (e12.not (e7.not (e4.not (hn 13 (by decide)) (by simp)) (by simp)) (by simp)) hk3 (Or.inl (by decide)) rfl (by decide +kernel) (by decide +kernel) (by decide +kernel) (by decide +kernel) (by decide +kernel) dX4_init_44 (fun Ge15 d16 e15 hC => ?_)
  refine zg_putS (pc := 46) (ty := (.array .int)) hC hnm (e15.old (e12.old (e7.old (e4.old hl)))) (e15.mem (by simp)) f_61_6 q385 (by decide +kernel) (fun _ => rfl) (fun _ => rfl) dX4_init_46 (fun d17 => ?_)
  refine z_aload_n (pc := 49) hC 0 rfl 0 rfl dX4_init_49 ?_
  refine z_bipush (pc := 50) hC (6 : Int32) rfl dX4_init_50 ?_
  refine zg_newa (pc := 52) (k := k) (a := 14) (n := 6) (ty := 0) (fty := .int) hC rfl rfl (by decide) (fun _ _ => rfl) (hC.2.2.2.2.2.1.2 0 _ rfl).2 q235 (e15.not (e12.not (e7.not (e4.not (hn 14 (by decide)) (by simp)) (by simp)) (by simp)) (by simp)) hk3 (Or.inl (by decide)) rfl (by decide +kernel) (by decide +kernel) (by decide +kernel) (by decide +kernel) (by decide +kernel) dX4_init_52 (fun Ge18 d19 e18 hC => ?_)
  refine zg_putS (pc := 54) (ty := (.array .int)) hC hnm (e18.old (e15.old (e12.old (e7.old (e4.old hl))))) (e18.mem (by simp)) f_61_7 q386 (by decide +kernel) (fun _ => rfl) (fun _ => rfl) dX4_init_54 (fun d20 => ?_)
  refine z_aload_n (pc := 57) hC 0 rfl 0 rfl dX4_init_57 ?_
  refine z_iconst (pc := 58) hC (0 : Int32) rfl dX4_init_58 ?_
  refine zg_puti (pc := 59) hC (e18.old (e15.old (e12.old (e7.old (e4.old hl))))) f_61_8 q387 dX4_init_59 (fun d21 => ?_)
  refine z_aload_n (pc := 62) hC 0 rfl 0 rfl dX4_init_62 ?_
  refine z_bipush (pc := 63) hC (6 : Int32) rfl dX4_init_63 ?_
  refine zg_newa (pc := 65) (k := k) (a := 15) (n := 6) (ty := 0) (fty := .int) hC rfl rfl (by decide) (fun _ _ => rfl) (hC.2.2.2.2.2.1.2 0 _ rfl).2 q235 (e18.not (e15.not (e12.not (e7.not (e4.not (hn 15 (by decide)) (by simp)) (by simp)) (by simp)) (by simp)) (by simp)) hk3 (Or.inl (by decide)) rfl (by decide +kernel) (by decide +kernel) (by decide +kernel) (by decide +kernel) (by decide +kernel) dX4_init_65 (fun Ge22 d23 e22 hC => ?_)
  refine zg_putS (pc := 67) (ty := (.array .int)) hC hnm (e22.old (e18.old (e15.old (e12.old (e7.old (e4.old hl)))))) (e22.mem (by simp)) f_61_9 q388 (by decide +kernel) (fun _ => rfl) (fun _ => rfl) dX4_init_67 (fun d24 => ?_)
  refine z_aload_n (pc := 70) hC 0 rfl 0 rfl dX4_init_70 ?_
  refine z_bipush (pc := 71) hC (24 : Int32) rfl dX4_init_71 ?_
  refine zg_newa (pc := 73) (k := k) (a := 16) (n := 24) (ty := 0) (fty := .int) hC rfl rfl (by decide) (fun _ _ => rfl) (hC.2.2.2.2.2.1.2 0 _ rfl).2 q235 (e22.not (e18.not (e15.not (e12.not (e7.not (e4.not (hn 16 (by decide)) (by simp)) (by simp)) (by simp)) (by simp)) (by simp)) (by simp)) hk3 (Or.inl (by decide)) rfl (by decide +kernel) (by decide +kernel) (by decide +kernel) (by decide +kernel) (by decide +kernel) dX4_init_73 (fun Ge25 d26 e25 hC => ?_)
  refine zg_putS (pc := 75) (ty := (.array .int)) hC hnm (e25.old (e22.old (e18.old (e15.old (e12.old (e7.old (e4.old hl))))))) (e25.mem (by simp)) f_61_10 q389 (by decide +kernel) (fun _ => rfl) (fun _ => rfl) dX4_init_75 (fun d27 => ?_)
  refine z_aload_n (pc := 78) hC 0 rfl 0 rfl dX4_init_78 ?_
  refine z_iconst (pc := 79) hC (0 : Int32) rfl dX4_init_79 ?_
  refine zg_puti (pc := 80) hC (e25.old (e22.old (e18.old (e15.old (e12.old (e7.old (e4.old hl))))))) f_61_11 q391 dX4_init_80 (fun d28 => ?_)
  refine z_aload_n (pc := 83) hC 0 rfl 0 rfl dX4_init_83 ?_
  refine z_iconst (pc := 84) hC (0 : Int32) rfl dX4_init_84 ?_
  refine zg_puti (pc := 85) hC (e25.old (e22.old (e18.old (e15.old (e12.old (e7.old (e4.old hl))))))) f_61_12 q393 dX4_init_85 (fun d29 => ?_)
  refine z_aload_n (pc := 88) hC 0 rfl 0 rfl dX4_init_88 ?_
  refine z_iconst (pc := 89) hC (0 : Int32) rfl dX4_init_89 ?_
  refine zg_puti (pc := 90) hC (e25.old (e22.old (e18.old (e15.old (e12.old (e7.old (e4.old hl))))))) f_61_13 q395 dX4_init_90 (fun d30 => ?_)
  refine z_aload_n (pc := 93) hC 0 rfl 0 rfl dX4_init_93 ?_
  refine z_iconst (pc := 94) hC (0 : Int32) rfl dX4_init_94 ?_
  refine zg_puti (pc := 95) hC (e25.old (e22.old (e18.old (e15.old (e12.old (e7.old (e4.old hl))))))) f_61_14 q397 dX4_init_95 (fun d31 => ?_)
  refine z_aload_n (pc := 98) hC 0 rfl 0 rfl dX4_init_98 ?_
  refine z_aload_n (pc := 99) hC 1 rfl 1 rfl dX4_init_99 ?_
  refine zg_putr (pc := 100) (cn := "FrameHeirs$Script") hC (e25.old (e22.old (e18.old (e15.old (e12.old (e7.old (e4.old hl))))))) (e25.old (e22.old (e18.old (e15.old (e12.old (e7.old (e4.old hq1))))))) f_61_0 q377 (by decide +kernel) dX4_init_100 (fun d32 => ?_)
  refine zn_rel (pc := 103) (k := k) (a := 61) (b := 10) (ls1 := [(0, .inr (k, 10)), (1, .inr (q1, 4))]) (st1 := []) hC (e25.old (e22.old (e18.old (e15.old (e12.old (e7.old (e4.old hl))))))) (e25.not (e22.not (e18.not (e15.not (e12.not (e7.not (e4.not (hn 10 (by decide)) (by simp)) (by simp)) (by simp)) (by simp)) (by simp)) (by simp)) (by simp)) (by decide) (by decide) rfl rfl (by decide) rfl rfl (by exact (List.forall_mem_cons.mpr ⟨⟨fun _ => rfl, (show ((61 : Nat)) ≠ 10 by decide)⟩, (List.forall_mem_cons.mpr ⟨⟨fun h => absurd h (show ¬ ((4 : Nat)) = 61 by decide), (show ((4 : Nat)) ≠ 10 by decide)⟩, (fun _ h => absurd h List.not_mem_nil)⟩)⟩)) (by exact (fun _ h => absurd h List.not_mem_nil)) (fun Gg34 d33 g34 hC => ?_)
  exact zk_vret (pc := 103) (L := [(k, 16), (k, 15), (k, 14), (k, 13), (k, 12), (k, 11), (k, 17), (k, 33), (k, 32), (k, 31), (k, 30), (k, 29), (k, 28), (k, 27), (k, 26), (k, 25), (k, 24), (k, 23), (k, 22), (k, 21), (k, 20), (k, 19), (k, 18)]) hC (Or.inr (by decide)) ⟨_, ((((((e4.trans e7).trans e12).trans e15).trans e18).trans e22).trans e25), g34⟩ dX4_init_103
theorem c_X4_init {G : Geo} (hG : GOk G) {k : Nat} {q1 : Nat} (hl : G.2.2.2 k 61) (hn : ∀ b ∈ [10, 11, 12, 13, 14, 15, 16, 17, 18, 19, 20, 21, 22, 23, 24, 25, 26, 27, 28, 29, 30, 31, 32, 33, 62], ¬ G.2.2.2 k b) (hk3 : k < 1000) (hq1 : G.2.2.2 q1 4) {d : Mem} (l : Launch) (x1 : Mem) (h : Wo_init k q1 d = some ((), x1)) : MtC l yX4_init cX4_init 2 rm_X4_init G k 61 10 [.inr (q1, 4)] d [(k, 16), (k, 15), (k, 14), (k, 13), (k, 12), (k, 11), (k, 17), (k, 33), (k, 32), (k, 31), (k, 30), (k, 29), (k, 28), (k, 27), (k, 26), (k, 25), (k, 24), (k, 23), (k, 22), (k, 21), (k, 20), (k, 19), (k, 18)] 23 3164 x1 :=
  mtC_of rfl rfl hG [.inr (q1, 4)] (Nat.le_of_ble_eq_true rfl) rfl (fun C hC hnm => r_Wo_init hC hnm hl hn hk3 hq1 d) h
-- FrameHeirsModel.<init>
abbrev rm_X6_init : Room := { frames := 4, cells := 13, slots := 50368, locals := 93 }
theorem dX6_init_0 : decode cX6_init 0 = .ok (.aload_n 0, 1) := by decide +kernel
theorem dX6_init_1 : decode cX6_init 1 = .ok (.invokespecial 1, 3) := by decide +kernel
theorem dX6_init_4 : decode cX6_init 4 = .ok (.aload_n 0, 1) := by decide +kernel
theorem dX6_init_5 : decode cX6_init 5 = .ok (.sipush 700, 3) := by decide +kernel
theorem dX6_init_8 : decode cX6_init 8 = .ok (.newarray .int, 2) := by decide +kernel
theorem dX6_init_10 : decode cX6_init 10 = .ok (.putfield 7, 3) := by decide +kernel
theorem dX6_init_13 : decode cX6_init 13 = .ok (.aload_n 0, 1) := by decide +kernel
theorem dX6_init_14 : decode cX6_init 14 = .ok (.bipush 69, 2) := by decide +kernel
theorem dX6_init_16 : decode cX6_init 16 = .ok (.newarray .int, 2) := by decide +kernel
theorem dX6_init_18 : decode cX6_init 18 = .ok (.dup, 1) := by decide +kernel
theorem dX6_init_19 : decode cX6_init 19 = .ok (.iconst 0, 1) := by decide +kernel
theorem dX6_init_20 : decode cX6_init 20 = .ok (.bipush 115, 2) := by decide +kernel
theorem dX6_init_22 : decode cX6_init 22 = .ok (.iastore, 1) := by decide +kernel
theorem dX6_init_23 : decode cX6_init 23 = .ok (.dup, 1) := by decide +kernel
theorem dX6_init_24 : decode cX6_init 24 = .ok (.iconst 1, 1) := by decide +kernel
theorem dX6_init_25 : decode cX6_init 25 = .ok (.bipush 112, 2) := by decide +kernel
theorem dX6_init_27 : decode cX6_init 27 = .ok (.iastore, 1) := by decide +kernel
theorem dX6_init_28 : decode cX6_init 28 = .ok (.dup, 1) := by decide +kernel
theorem dX6_init_29 : decode cX6_init 29 = .ok (.iconst 2, 1) := by decide +kernel
theorem dX6_init_30 : decode cX6_init 30 = .ok (.bipush 97, 2) := by decide +kernel
theorem dX6_init_32 : decode cX6_init 32 = .ok (.iastore, 1) := by decide +kernel
theorem dX6_init_33 : decode cX6_init 33 = .ok (.dup, 1) := by decide +kernel
theorem dX6_init_34 : decode cX6_init 34 = .ok (.iconst 3, 1) := by decide +kernel
theorem dX6_init_35 : decode cX6_init 35 = .ok (.bipush 99, 2) := by decide +kernel
theorem dX6_init_37 : decode cX6_init 37 = .ok (.iastore, 1) := by decide +kernel
theorem dX6_init_38 : decode cX6_init 38 = .ok (.dup, 1) := by decide +kernel
theorem dX6_init_39 : decode cX6_init 39 = .ok (.iconst 4, 1) := by decide +kernel
theorem dX6_init_40 : decode cX6_init 40 = .ok (.bipush 101, 2) := by decide +kernel
theorem dX6_init_42 : decode cX6_init 42 = .ok (.iastore, 1) := by decide +kernel
theorem dX6_init_43 : decode cX6_init 43 = .ok (.dup, 1) := by decide +kernel
theorem dX6_init_44 : decode cX6_init 44 = .ok (.iconst 5, 1) := by decide +kernel
theorem dX6_init_45 : decode cX6_init 45 = .ok (.bipush 32, 2) := by decide +kernel
theorem dX6_init_47 : decode cX6_init 47 = .ok (.iastore, 1) := by decide +kernel
theorem dX6_init_48 : decode cX6_init 48 = .ok (.dup, 1) := by decide +kernel
theorem dX6_init_49 : decode cX6_init 49 = .ok (.bipush 6, 2) := by decide +kernel
theorem dX6_init_51 : decode cX6_init 51 = .ok (.bipush 112, 2) := by decide +kernel
theorem dX6_init_53 : decode cX6_init 53 = .ok (.iastore, 1) := by decide +kernel
theorem dX6_init_54 : decode cX6_init 54 = .ok (.dup, 1) := by decide +kernel
theorem dX6_init_55 : decode cX6_init 55 = .ok (.bipush 7, 2) := by decide +kernel
theorem dX6_init_57 : decode cX6_init 57 = .ok (.bipush 97, 2) := by decide +kernel
theorem dX6_init_59 : decode cX6_init 59 = .ok (.iastore, 1) := by decide +kernel
theorem dX6_init_60 : decode cX6_init 60 = .ok (.dup, 1) := by decide +kernel
theorem dX6_init_61 : decode cX6_init 61 = .ok (.bipush 8, 2) := by decide +kernel
theorem dX6_init_63 : decode cX6_init 63 = .ok (.bipush 103, 2) := by decide +kernel
theorem dX6_init_65 : decode cX6_init 65 = .ok (.iastore, 1) := by decide +kernel
theorem dX6_init_66 : decode cX6_init 66 = .ok (.dup, 1) := by decide +kernel
theorem dX6_init_67 : decode cX6_init 67 = .ok (.bipush 9, 2) := by decide +kernel
theorem dX6_init_69 : decode cX6_init 69 = .ok (.bipush 101, 2) := by decide +kernel
theorem dX6_init_71 : decode cX6_init 71 = .ok (.iastore, 1) := by decide +kernel
theorem dX6_init_72 : decode cX6_init 72 = .ok (.dup, 1) := by decide +kernel
theorem dX6_init_73 : decode cX6_init 73 = .ok (.bipush 10, 2) := by decide +kernel
theorem dX6_init_75 : decode cX6_init 75 = .ok (.bipush 114, 2) := by decide +kernel
theorem dX6_init_77 : decode cX6_init 77 = .ok (.iastore, 1) := by decide +kernel
theorem dX6_init_78 : decode cX6_init 78 = .ok (.dup, 1) := by decide +kernel
theorem dX6_init_79 : decode cX6_init 79 = .ok (.bipush 11, 2) := by decide +kernel
theorem dX6_init_81 : decode cX6_init 81 = .ok (.bipush 32, 2) := by decide +kernel
theorem dX6_init_83 : decode cX6_init 83 = .ok (.iastore, 1) := by decide +kernel
theorem dX6_init_84 : decode cX6_init 84 = .ok (.dup, 1) := by decide +kernel
theorem dX6_init_85 : decode cX6_init 85 = .ok (.bipush 12, 2) := by decide +kernel
theorem dX6_init_87 : decode cX6_init 87 = .ok (.bipush 113, 2) := by decide +kernel
theorem dX6_init_89 : decode cX6_init 89 = .ok (.iastore, 1) := by decide +kernel
theorem dX6_init_90 : decode cX6_init 90 = .ok (.dup, 1) := by decide +kernel
theorem dX6_init_91 : decode cX6_init 91 = .ok (.bipush 13, 2) := by decide +kernel
theorem dX6_init_93 : decode cX6_init 93 = .ok (.bipush 117, 2) := by decide +kernel
theorem dX6_init_95 : decode cX6_init 95 = .ok (.iastore, 1) := by decide +kernel
theorem dX6_init_96 : decode cX6_init 96 = .ok (.dup, 1) := by decide +kernel
theorem dX6_init_97 : decode cX6_init 97 = .ok (.bipush 14, 2) := by decide +kernel
theorem dX6_init_99 : decode cX6_init 99 = .ok (.bipush 111, 2) := by decide +kernel
theorem dX6_init_101 : decode cX6_init 101 = .ok (.iastore, 1) := by decide +kernel
theorem dX6_init_102 : decode cX6_init 102 = .ok (.dup, 1) := by decide +kernel
theorem dX6_init_103 : decode cX6_init 103 = .ok (.bipush 15, 2) := by decide +kernel
theorem dX6_init_105 : decode cX6_init 105 = .ok (.bipush 116, 2) := by decide +kernel
theorem dX6_init_107 : decode cX6_init 107 = .ok (.iastore, 1) := by decide +kernel
theorem dX6_init_108 : decode cX6_init 108 = .ok (.dup, 1) := by decide +kernel
theorem dX6_init_109 : decode cX6_init 109 = .ok (.bipush 16, 2) := by decide +kernel
theorem dX6_init_111 : decode cX6_init 111 = .ok (.bipush 97, 2) := by decide +kernel
theorem dX6_init_113 : decode cX6_init 113 = .ok (.iastore, 1) := by decide +kernel
theorem dX6_init_114 : decode cX6_init 114 = .ok (.dup, 1) := by decide +kernel
theorem dX6_init_115 : decode cX6_init 115 = .ok (.bipush 17, 2) := by decide +kernel
theorem dX6_init_117 : decode cX6_init 117 = .ok (.bipush 32, 2) := by decide +kernel
theorem dX6_init_119 : decode cX6_init 119 = .ok (.iastore, 1) := by decide +kernel
theorem dX6_init_120 : decode cX6_init 120 = .ok (.dup, 1) := by decide +kernel
theorem dX6_init_121 : decode cX6_init 121 = .ok (.bipush 18, 2) := by decide +kernel
theorem dX6_init_123 : decode cX6_init 123 = .ok (.bipush 115, 2) := by decide +kernel
theorem dX6_init_125 : decode cX6_init 125 = .ok (.iastore, 1) := by decide +kernel
theorem dX6_init_126 : decode cX6_init 126 = .ok (.dup, 1) := by decide +kernel
theorem dX6_init_127 : decode cX6_init 127 = .ok (.bipush 19, 2) := by decide +kernel
theorem dX6_init_129 : decode cX6_init 129 = .ok (.bipush 105, 2) := by decide +kernel
theorem dX6_init_131 : decode cX6_init 131 = .ok (.iastore, 1) := by decide +kernel
theorem dX6_init_132 : decode cX6_init 132 = .ok (.dup, 1) := by decide +kernel
theorem dX6_init_133 : decode cX6_init 133 = .ok (.bipush 20, 2) := by decide +kernel
theorem dX6_init_135 : decode cX6_init 135 = .ok (.bipush 122, 2) := by decide +kernel
theorem dX6_init_137 : decode cX6_init 137 = .ok (.iastore, 1) := by decide +kernel
theorem dX6_init_138 : decode cX6_init 138 = .ok (.dup, 1) := by decide +kernel
theorem dX6_init_139 : decode cX6_init 139 = .ok (.bipush 21, 2) := by decide +kernel
theorem dX6_init_141 : decode cX6_init 141 = .ok (.bipush 101, 2) := by decide +kernel
theorem dX6_init_143 : decode cX6_init 143 = .ok (.iastore, 1) := by decide +kernel
theorem dX6_init_144 : decode cX6_init 144 = .ok (.dup, 1) := by decide +kernel
theorem dX6_init_145 : decode cX6_init 145 = .ok (.bipush 22, 2) := by decide +kernel
theorem dX6_init_147 : decode cX6_init 147 = .ok (.bipush 32, 2) := by decide +kernel
theorem dX6_init_149 : decode cX6_init 149 = .ok (.iastore, 1) := by decide +kernel
theorem dX6_init_150 : decode cX6_init 150 = .ok (.dup, 1) := by decide +kernel
theorem dX6_init_151 : decode cX6_init 151 = .ok (.bipush 23, 2) := by decide +kernel
theorem dX6_init_153 : decode cX6_init 153 = .ok (.bipush 98, 2) := by decide +kernel
theorem dX6_init_155 : decode cX6_init 155 = .ok (.iastore, 1) := by decide +kernel
theorem dX6_init_156 : decode cX6_init 156 = .ok (.dup, 1) := by decide +kernel
theorem dX6_init_157 : decode cX6_init 157 = .ok (.bipush 24, 2) := by decide +kernel
theorem dX6_init_159 : decode cX6_init 159 = .ok (.bipush 117, 2) := by decide +kernel
theorem dX6_init_161 : decode cX6_init 161 = .ok (.iastore, 1) := by decide +kernel
theorem dX6_init_162 : decode cX6_init 162 = .ok (.dup, 1) := by decide +kernel
theorem dX6_init_163 : decode cX6_init 163 = .ok (.bipush 25, 2) := by decide +kernel
theorem dX6_init_165 : decode cX6_init 165 = .ok (.bipush 100, 2) := by decide +kernel
theorem dX6_init_167 : decode cX6_init 167 = .ok (.iastore, 1) := by decide +kernel
theorem dX6_init_168 : decode cX6_init 168 = .ok (.dup, 1) := by decide +kernel
theorem dX6_init_169 : decode cX6_init 169 = .ok (.bipush 26, 2) := by decide +kernel
theorem dX6_init_171 : decode cX6_init 171 = .ok (.bipush 103, 2) := by decide +kernel
theorem dX6_init_173 : decode cX6_init 173 = .ok (.iastore, 1) := by decide +kernel
theorem dX6_init_174 : decode cX6_init 174 = .ok (.dup, 1) := by decide +kernel
theorem dX6_init_175 : decode cX6_init 175 = .ok (.bipush 27, 2) := by decide +kernel
theorem dX6_init_177 : decode cX6_init 177 = .ok (.bipush 101, 2) := by decide +kernel
theorem dX6_init_179 : decode cX6_init 179 = .ok (.iastore, 1) := by decide +kernel
theorem dX6_init_180 : decode cX6_init 180 = .ok (.dup, 1) := by decide +kernel
theorem dX6_init_181 : decode cX6_init 181 = .ok (.bipush 28, 2) := by decide +kernel
theorem dX6_init_183 : decode cX6_init 183 = .ok (.bipush 116, 2) := by decide +kernel
theorem dX6_init_185 : decode cX6_init 185 = .ok (.iastore, 1) := by decide +kernel
theorem dX6_init_186 : decode cX6_init 186 = .ok (.dup, 1) := by decide +kernel
theorem dX6_init_187 : decode cX6_init 187 = .ok (.bipush 29, 2) := by decide +kernel
theorem dX6_init_189 : decode cX6_init 189 = .ok (.bipush 32, 2) := by decide +kernel
theorem dX6_init_191 : decode cX6_init 191 = .ok (.iastore, 1) := by decide +kernel
theorem dX6_init_192 : decode cX6_init 192 = .ok (.dup, 1) := by decide +kernel
theorem dX6_init_193 : decode cX6_init 193 = .ok (.bipush 30, 2) := by decide +kernel
theorem dX6_init_195 : decode cX6_init 195 = .ok (.bipush 100, 2) := by decide +kernel
theorem dX6_init_197 : decode cX6_init 197 = .ok (.iastore, 1) := by decide +kernel
theorem dX6_init_198 : decode cX6_init 198 = .ok (.dup, 1) := by decide +kernel
theorem dX6_init_199 : decode cX6_init 199 = .ok (.bipush 31, 2) := by decide +kernel
theorem dX6_init_201 : decode cX6_init 201 = .ok (.bipush 101, 2) := by decide +kernel
theorem dX6_init_203 : decode cX6_init 203 = .ok (.iastore, 1) := by decide +kernel
theorem dX6_init_204 : decode cX6_init 204 = .ok (.dup, 1) := by decide +kernel
theorem dX6_init_205 : decode cX6_init 205 = .ok (.bipush 32, 2) := by decide +kernel
theorem dX6_init_207 : decode cX6_init 207 = .ok (.bipush 99, 2) := by decide +kernel
theorem dX6_init_209 : decode cX6_init 209 = .ok (.iastore, 1) := by decide +kernel
theorem dX6_init_210 : decode cX6_init 210 = .ok (.dup, 1) := by decide +kernel
theorem dX6_init_211 : decode cX6_init 211 = .ok (.bipush 33, 2) := by decide +kernel
theorem dX6_init_213 : decode cX6_init 213 = .ok (.bipush 97, 2) := by decide +kernel
theorem dX6_init_215 : decode cX6_init 215 = .ok (.iastore, 1) := by decide +kernel
theorem dX6_init_216 : decode cX6_init 216 = .ok (.dup, 1) := by decide +kernel
theorem dX6_init_217 : decode cX6_init 217 = .ok (.bipush 34, 2) := by decide +kernel
theorem dX6_init_219 : decode cX6_init 219 = .ok (.bipush 121, 2) := by decide +kernel
theorem dX6_init_221 : decode cX6_init 221 = .ok (.iastore, 1) := by decide +kernel
theorem dX6_init_222 : decode cX6_init 222 = .ok (.dup, 1) := by decide +kernel
theorem dX6_init_223 : decode cX6_init 223 = .ok (.bipush 35, 2) := by decide +kernel
theorem dX6_init_225 : decode cX6_init 225 = .ok (.bipush 32, 2) := by decide +kernel
theorem dX6_init_227 : decode cX6_init 227 = .ok (.iastore, 1) := by decide +kernel
theorem dX6_init_228 : decode cX6_init 228 = .ok (.dup, 1) := by decide +kernel
theorem dX6_init_229 : decode cX6_init 229 = .ok (.bipush 36, 2) := by decide +kernel
theorem dX6_init_231 : decode cX6_init 231 = .ok (.bipush 115, 2) := by decide +kernel
theorem dX6_init_233 : decode cX6_init 233 = .ok (.iastore, 1) := by decide +kernel
theorem dX6_init_234 : decode cX6_init 234 = .ok (.dup, 1) := by decide +kernel
theorem dX6_init_235 : decode cX6_init 235 = .ok (.bipush 37, 2) := by decide +kernel
theorem dX6_init_237 : decode cX6_init 237 = .ok (.bipush 101, 2) := by decide +kernel
theorem dX6_init_239 : decode cX6_init 239 = .ok (.iastore, 1) := by decide +kernel
theorem dX6_init_240 : decode cX6_init 240 = .ok (.dup, 1) := by decide +kernel
theorem dX6_init_241 : decode cX6_init 241 = .ok (.bipush 38, 2) := by decide +kernel
theorem dX6_init_243 : decode cX6_init 243 = .ok (.bipush 101, 2) := by decide +kernel
theorem dX6_init_245 : decode cX6_init 245 = .ok (.iastore, 1) := by decide +kernel
theorem dX6_init_246 : decode cX6_init 246 = .ok (.dup, 1) := by decide +kernel
theorem dX6_init_247 : decode cX6_init 247 = .ok (.bipush 39, 2) := by decide +kernel
theorem dX6_init_249 : decode cX6_init 249 = .ok (.bipush 100, 2) := by decide +kernel
theorem dX6_init_251 : decode cX6_init 251 = .ok (.iastore, 1) := by decide +kernel
theorem dX6_init_252 : decode cX6_init 252 = .ok (.dup, 1) := by decide +kernel
theorem dX6_init_253 : decode cX6_init 253 = .ok (.bipush 40, 2) := by decide +kernel
theorem dX6_init_255 : decode cX6_init 255 = .ok (.bipush 32, 2) := by decide +kernel
theorem dX6_init_257 : decode cX6_init 257 = .ok (.iastore, 1) := by decide +kernel
theorem dX6_init_258 : decode cX6_init 258 = .ok (.dup, 1) := by decide +kernel
theorem dX6_init_259 : decode cX6_init 259 = .ok (.bipush 41, 2) := by decide +kernel
theorem dX6_init_261 : decode cX6_init 261 = .ok (.bipush 109, 2) := by decide +kernel
theorem dX6_init_263 : decode cX6_init 263 = .ok (.iastore, 1) := by decide +kernel
theorem dX6_init_264 : decode cX6_init 264 = .ok (.dup, 1) := by decide +kernel
theorem dX6_init_265 : decode cX6_init 265 = .ok (.bipush 42, 2) := by decide +kernel
theorem dX6_init_267 : decode cX6_init 267 = .ok (.bipush 97, 2) := by decide +kernel
theorem dX6_init_269 : decode cX6_init 269 = .ok (.iastore, 1) := by decide +kernel
theorem dX6_init_270 : decode cX6_init 270 = .ok (.dup, 1) := by decide +kernel
theorem dX6_init_271 : decode cX6_init 271 = .ok (.bipush 43, 2) := by decide +kernel
theorem dX6_init_273 : decode cX6_init 273 = .ok (.bipush 112, 2) := by decide +kernel
theorem dX6_init_275 : decode cX6_init 275 = .ok (.iastore, 1) := by decide +kernel
theorem dX6_init_276 : decode cX6_init 276 = .ok (.dup, 1) := by decide +kernel
theorem dX6_init_277 : decode cX6_init 277 = .ok (.bipush 44, 2) := by decide +kernel
theorem dX6_init_279 : decode cX6_init 279 = .ok (.bipush 32, 2) := by decide +kernel
theorem dX6_init_281 : decode cX6_init 281 = .ok (.iastore, 1) := by decide +kernel
theorem dX6_init_282 : decode cX6_init 282 = .ok (.dup, 1) := by decide +kernel
theorem dX6_init_283 : decode cX6_init 283 = .ok (.bipush 45, 2) := by decide +kernel
theorem dX6_init_285 : decode cX6_init 285 = .ok (.bipush 103, 2) := by decide +kernel
theorem dX6_init_287 : decode cX6_init 287 = .ok (.iastore, 1) := by decide +kernel
theorem dX6_init_288 : decode cX6_init 288 = .ok (.dup, 1) := by decide +kernel
theorem dX6_init_289 : decode cX6_init 289 = .ok (.bipush 46, 2) := by decide +kernel
theorem dX6_init_291 : decode cX6_init 291 = .ok (.bipush 114, 2) := by decide +kernel
theorem dX6_init_293 : decode cX6_init 293 = .ok (.iastore, 1) := by decide +kernel
theorem dX6_init_294 : decode cX6_init 294 = .ok (.dup, 1) := by decide +kernel
theorem dX6_init_295 : decode cX6_init 295 = .ok (.bipush 47, 2) := by decide +kernel
theorem dX6_init_297 : decode cX6_init 297 = .ok (.bipush 97, 2) := by decide +kernel
theorem dX6_init_299 : decode cX6_init 299 = .ok (.iastore, 1) := by decide +kernel
theorem dX6_init_300 : decode cX6_init 300 = .ok (.dup, 1) := by decide +kernel
theorem dX6_init_301 : decode cX6_init 301 = .ok (.bipush 48, 2) := by decide +kernel
theorem dX6_init_303 : decode cX6_init 303 = .ok (.bipush 110, 2) := by decide +kernel
theorem dX6_init_305 : decode cX6_init 305 = .ok (.iastore, 1) := by decide +kernel
theorem dX6_init_306 : decode cX6_init 306 = .ok (.dup, 1) := by decide +kernel
theorem dX6_init_307 : decode cX6_init 307 = .ok (.bipush 49, 2) := by decide +kernel
theorem dX6_init_309 : decode cX6_init 309 = .ok (.bipush 116, 2) := by decide +kernel
theorem dX6_init_311 : decode cX6_init 311 = .ok (.iastore, 1) := by decide +kernel
theorem dX6_init_312 : decode cX6_init 312 = .ok (.dup, 1) := by decide +kernel
theorem dX6_init_313 : decode cX6_init 313 = .ok (.bipush 50, 2) := by decide +kernel
theorem dX6_init_315 : decode cX6_init 315 = .ok (.bipush 32, 2) := by decide +kernel
theorem dX6_init_317 : decode cX6_init 317 = .ok (.iastore, 1) := by decide +kernel
theorem dX6_init_318 : decode cX6_init 318 = .ok (.dup, 1) := by decide +kernel
theorem dX6_init_319 : decode cX6_init 319 = .ok (.bipush 51, 2) := by decide +kernel
theorem dX6_init_321 : decode cX6_init 321 = .ok (.bipush 102, 2) := by decide +kernel
theorem dX6_init_323 : decode cX6_init 323 = .ok (.iastore, 1) := by decide +kernel
theorem dX6_init_324 : decode cX6_init 324 = .ok (.dup, 1) := by decide +kernel
theorem dX6_init_325 : decode cX6_init 325 = .ok (.bipush 52, 2) := by decide +kernel
theorem dX6_init_327 : decode cX6_init 327 = .ok (.bipush 108, 2) := by decide +kernel
theorem dX6_init_329 : decode cX6_init 329 = .ok (.iastore, 1) := by decide +kernel
theorem dX6_init_330 : decode cX6_init 330 = .ok (.dup, 1) := by decide +kernel
theorem dX6_init_331 : decode cX6_init 331 = .ok (.bipush 53, 2) := by decide +kernel
theorem dX6_init_333 : decode cX6_init 333 = .ok (.bipush 117, 2) := by decide +kernel
theorem dX6_init_335 : decode cX6_init 335 = .ok (.iastore, 1) := by decide +kernel
theorem dX6_init_336 : decode cX6_init 336 = .ok (.dup, 1) := by decide +kernel
theorem dX6_init_337 : decode cX6_init 337 = .ok (.bipush 54, 2) := by decide +kernel
theorem dX6_init_339 : decode cX6_init 339 = .ok (.bipush 115, 2) := by decide +kernel
theorem dX6_init_341 : decode cX6_init 341 = .ok (.iastore, 1) := by decide +kernel
theorem dX6_init_342 : decode cX6_init 342 = .ok (.dup, 1) := by decide +kernel
theorem dX6_init_343 : decode cX6_init 343 = .ok (.bipush 55, 2) := by decide +kernel
theorem dX6_init_345 : decode cX6_init 345 = .ok (.bipush 104, 2) := by decide +kernel
theorem dX6_init_347 : decode cX6_init 347 = .ok (.iastore, 1) := by decide +kernel
theorem dX6_init_348 : decode cX6_init 348 = .ok (.dup, 1) := by decide +kernel
theorem dX6_init_349 : decode cX6_init 349 = .ok (.bipush 56, 2) := by decide +kernel
theorem dX6_init_351 : decode cX6_init 351 = .ok (.bipush 32, 2) := by decide +kernel
theorem dX6_init_353 : decode cX6_init 353 = .ok (.iastore, 1) := by decide +kernel
theorem dX6_init_354 : decode cX6_init 354 = .ok (.dup, 1) := by decide +kernel
theorem dX6_init_355 : decode cX6_init 355 = .ok (.bipush 57, 2) := by decide +kernel
theorem dX6_init_357 : decode cX6_init 357 = .ok (.bipush 116, 2) := by decide +kernel
theorem dX6_init_359 : decode cX6_init 359 = .ok (.iastore, 1) := by decide +kernel
theorem dX6_init_360 : decode cX6_init 360 = .ok (.dup, 1) := by decide +kernel
theorem dX6_init_361 : decode cX6_init 361 = .ok (.bipush 58, 2) := by decide +kernel
theorem dX6_init_363 : decode cX6_init 363 = .ok (.bipush 111, 2) := by decide +kernel
theorem dX6_init_365 : decode cX6_init 365 = .ok (.iastore, 1) := by decide +kernel
theorem dX6_init_366 : decode cX6_init 366 = .ok (.dup, 1) := by decide +kernel
theorem dX6_init_367 : decode cX6_init 367 = .ok (.bipush 59, 2) := by decide +kernel
theorem dX6_init_369 : decode cX6_init 369 = .ok (.bipush 117, 2) := by decide +kernel
theorem dX6_init_371 : decode cX6_init 371 = .ok (.iastore, 1) := by decide +kernel
theorem dX6_init_372 : decode cX6_init 372 = .ok (.dup, 1) := by decide +kernel
theorem dX6_init_373 : decode cX6_init 373 = .ok (.bipush 60, 2) := by decide +kernel
theorem dX6_init_375 : decode cX6_init 375 = .ok (.bipush 99, 2) := by decide +kernel
theorem dX6_init_377 : decode cX6_init 377 = .ok (.iastore, 1) := by decide +kernel
theorem dX6_init_378 : decode cX6_init 378 = .ok (.dup, 1) := by decide +kernel
theorem dX6_init_379 : decode cX6_init 379 = .ok (.bipush 61, 2) := by decide +kernel
theorem dX6_init_381 : decode cX6_init 381 = .ok (.bipush 104, 2) := by decide +kernel
theorem dX6_init_383 : decode cX6_init 383 = .ok (.iastore, 1) := by decide +kernel
theorem dX6_init_384 : decode cX6_init 384 = .ok (.dup, 1) := by decide +kernel
theorem dX6_init_385 : decode cX6_init 385 = .ok (.bipush 62, 2) := by decide +kernel
theorem dX6_init_387 : decode cX6_init 387 = .ok (.bipush 32, 2) := by decide +kernel
theorem dX6_init_389 : decode cX6_init 389 = .ok (.iastore, 1) := by decide +kernel
theorem dX6_init_390 : decode cX6_init 390 = .ok (.dup, 1) := by decide +kernel
theorem dX6_init_391 : decode cX6_init 391 = .ok (.bipush 63, 2) := by decide +kernel
theorem dX6_init_393 : decode cX6_init 393 = .ok (.bipush 115, 2) := by decide +kernel
theorem dX6_init_395 : decode cX6_init 395 = .ok (.iastore, 1) := by decide +kernel
theorem dX6_init_396 : decode cX6_init 396 = .ok (.dup, 1) := by decide +kernel
theorem dX6_init_397 : decode cX6_init 397 = .ok (.bipush 64, 2) := by decide +kernel
theorem dX6_init_399 : decode cX6_init 399 = .ok (.bipush 101, 2) := by decide +kernel
theorem dX6_init_401 : decode cX6_init 401 = .ok (.iastore, 1) := by decide +kernel
theorem dX6_init_402 : decode cX6_init 402 = .ok (.dup, 1) := by decide +kernel
theorem dX6_init_403 : decode cX6_init 403 = .ok (.bipush 65, 2) := by decide +kernel
theorem dX6_init_405 : decode cX6_init 405 = .ok (.bipush 114, 2) := by decide +kernel
theorem dX6_init_407 : decode cX6_init 407 = .ok (.iastore, 1) := by decide +kernel
theorem dX6_init_408 : decode cX6_init 408 = .ok (.dup, 1) := by decide +kernel
theorem dX6_init_409 : decode cX6_init 409 = .ok (.bipush 66, 2) := by decide +kernel
theorem dX6_init_411 : decode cX6_init 411 = .ok (.bipush 118, 2) := by decide +kernel
theorem dX6_init_413 : decode cX6_init 413 = .ok (.iastore, 1) := by decide +kernel
theorem dX6_init_414 : decode cX6_init 414 = .ok (.dup, 1) := by decide +kernel
theorem dX6_init_415 : decode cX6_init 415 = .ok (.bipush 67, 2) := by decide +kernel
theorem dX6_init_417 : decode cX6_init 417 = .ok (.bipush 101, 2) := by decide +kernel
theorem dX6_init_419 : decode cX6_init 419 = .ok (.iastore, 1) := by decide +kernel
theorem dX6_init_420 : decode cX6_init 420 = .ok (.dup, 1) := by decide +kernel
theorem dX6_init_421 : decode cX6_init 421 = .ok (.bipush 68, 2) := by decide +kernel
theorem dX6_init_423 : decode cX6_init 423 = .ok (.bipush 32, 2) := by decide +kernel
theorem dX6_init_425 : decode cX6_init 425 = .ok (.iastore, 1) := by decide +kernel
theorem dX6_init_426 : decode cX6_init 426 = .ok (.putfield 13, 3) := by decide +kernel
theorem dX6_init_429 : decode cX6_init 429 = .ok (.aload_n 0, 1) := by decide +kernel
theorem dX6_init_430 : decode cX6_init 430 = .ok (.iconst (-1), 1) := by decide +kernel
theorem dX6_init_431 : decode cX6_init 431 = .ok (.putfield 16, 3) := by decide +kernel
theorem dX6_init_434 : decode cX6_init 434 = .ok (.aload_n 0, 1) := by decide +kernel
theorem dX6_init_435 : decode cX6_init 435 = .ok (.bipush 12, 2) := by decide +kernel
theorem dX6_init_437 : decode cX6_init 437 = .ok (.newarray .int, 2) := by decide +kernel
theorem dX6_init_439 : decode cX6_init 439 = .ok (.putfield 20, 3) := by decide +kernel
theorem dX6_init_442 : decode cX6_init 442 = .ok (.aload_n 0, 1) := by decide +kernel
theorem dX6_init_443 : decode cX6_init 443 = .ok (.bipush 12, 2) := by decide +kernel
theorem dX6_init_445 : decode cX6_init 445 = .ok (.newarray .int, 2) := by decide +kernel
theorem dX6_init_447 : decode cX6_init 447 = .ok (.putfield 23, 3) := by decide +kernel
theorem dX6_init_450 : decode cX6_init 450 = .ok (.aload_n 0, 1) := by decide +kernel
theorem dX6_init_451 : decode cX6_init 451 = .ok (.bipush 12, 2) := by decide +kernel
theorem dX6_init_453 : decode cX6_init 453 = .ok (.newarray .int, 2) := by decide +kernel
theorem dX6_init_455 : decode cX6_init 455 = .ok (.putfield 26, 3) := by decide +kernel
theorem dX6_init_458 : decode cX6_init 458 = .ok (.aload_n 0, 1) := by decide +kernel
theorem dX6_init_459 : decode cX6_init 459 = .ok (.bipush 12, 2) := by decide +kernel
theorem dX6_init_461 : decode cX6_init 461 = .ok (.newarray .int, 2) := by decide +kernel
theorem dX6_init_463 : decode cX6_init 463 = .ok (.putfield 29, 3) := by decide +kernel
theorem dX6_init_466 : decode cX6_init 466 = .ok (.aload_n 0, 1) := by decide +kernel
theorem dX6_init_467 : decode cX6_init 467 = .ok (.bipush 14, 2) := by decide +kernel
theorem dX6_init_469 : decode cX6_init 469 = .ok (.newarray .int, 2) := by decide +kernel
theorem dX6_init_471 : decode cX6_init 471 = .ok (.putfield 32, 3) := by decide +kernel
theorem dX6_init_474 : decode cX6_init 474 = .ok (.aload_n 0, 1) := by decide +kernel
theorem dX6_init_475 : decode cX6_init 475 = .ok (.bipush 7, 2) := by decide +kernel
theorem dX6_init_477 : decode cX6_init 477 = .ok (.newarray .boolean, 2) := by decide +kernel
theorem dX6_init_479 : decode cX6_init 479 = .ok (.putfield 35, 3) := by decide +kernel
theorem dX6_init_482 : decode cX6_init 482 = .ok (.aload_n 0, 1) := by decide +kernel
theorem dX6_init_483 : decode cX6_init 483 = .ok (.bipush 48, 2) := by decide +kernel
theorem dX6_init_485 : decode cX6_init 485 = .ok (.newarray .int, 2) := by decide +kernel
theorem dX6_init_487 : decode cX6_init 487 = .ok (.putfield 39, 3) := by decide +kernel
theorem dX6_init_490 : decode cX6_init 490 = .ok (.aload_n 0, 1) := by decide +kernel
theorem dX6_init_491 : decode cX6_init 491 = .ok (.sipush 288, 3) := by decide +kernel
theorem dX6_init_494 : decode cX6_init 494 = .ok (.newarray .int, 2) := by decide +kernel
theorem dX6_init_496 : decode cX6_init 496 = .ok (.putfield 42, 3) := by decide +kernel
theorem dX6_init_499 : decode cX6_init 499 = .ok (.aload_n 0, 1) := by decide +kernel
theorem dX6_init_500 : decode cX6_init 500 = .ok (.ldc 45, 2) := by decide +kernel
theorem dX6_init_502 : decode cX6_init 502 = .ok (.newarray .int, 2) := by decide +kernel
theorem dX6_init_504 : decode cX6_init 504 = .ok (.putfield 46, 3) := by decide +kernel
theorem dX6_init_507 : decode cX6_init 507 = .ok (.aload_n 0, 1) := by decide +kernel
theorem dX6_init_508 : decode cX6_init 508 = .ok (.sipush 192, 3) := by decide +kernel
theorem dX6_init_511 : decode cX6_init 511 = .ok (.newarray .int, 2) := by decide +kernel
theorem dX6_init_513 : decode cX6_init 513 = .ok (.putfield 49, 3) := by decide +kernel
theorem dX6_init_516 : decode cX6_init 516 = .ok (.aload_n 0, 1) := by decide +kernel
theorem dX6_init_517 : decode cX6_init 517 = .ok (.bipush 8, 2) := by decide +kernel
theorem dX6_init_519 : decode cX6_init 519 = .ok (.newarray .int, 2) := by decide +kernel
theorem dX6_init_521 : decode cX6_init 521 = .ok (.putfield 52, 3) := by decide +kernel
theorem dX6_init_524 : decode cX6_init 524 = .ok (.aload_n 0, 1) := by decide +kernel
theorem dX6_init_525 : decode cX6_init 525 = .ok (.invokevirtual 55, 3) := by decide +kernel
theorem dX6_init_528 : decode cX6_init 528 = .ok (.aload_n 0, 1) := by decide +kernel
theorem dX6_init_529 : decode cX6_init 529 = .ok (.invokevirtual 58, 3) := by decide +kernel
theorem dX6_init_532 : decode cX6_init 532 = .ok (.return_, 1) := by decide +kernel
def Mo_init (d : Mem) : Option (Unit × Mem) :=
  bnd (wrAM d 0 35 (fun _ => 0)) fun d2 =>
  bnd (wrM d2 0 65 0 1) fun d3 =>
  bnd (wrAM d3 0 36 (fun _ => 0)) fun d5 =>
  if inb (0 : Int32) 69 then
  bnd (wrM d5 0 36 (ix (0 : Int32)) (115 : Int32)) fun d6 =>
  if inb (1 : Int32) 69 then
  bnd (wrM d6 0 36 (ix (1 : Int32)) (112 : Int32)) fun d7 =>
  if inb (2 : Int32) 69 then
  bnd (wrM d7 0 36 (ix (2 : Int32)) (97 : Int32)) fun d8 =>
  if inb (3 : Int32) 69 then
  bnd (wrM d8 0 36 (ix (3 : Int32)) (99 : Int32)) fun d9 =>
  if inb (4 : Int32) 69 then
  bnd (wrM d9 0 36 (ix (4 : Int32)) (101 : Int32)) fun d10 =>
  if inb (5 : Int32) 69 then
  bnd (wrM d10 0 36 (ix (5 : Int32)) (32 : Int32)) fun d11 =>
  if inb (6 : Int32) 69 then
  bnd (wrM d11 0 36 (ix (6 : Int32)) (112 : Int32)) fun d12 =>
  if inb (7 : Int32) 69 then
  bnd (wrM d12 0 36 (ix (7 : Int32)) (97 : Int32)) fun d13 =>
  if inb (8 : Int32) 69 then
  bnd (wrM d13 0 36 (ix (8 : Int32)) (103 : Int32)) fun d14 =>
  if inb (9 : Int32) 69 then
  bnd (wrM d14 0 36 (ix (9 : Int32)) (101 : Int32)) fun d15 =>
  if inb (10 : Int32) 69 then
  bnd (wrM d15 0 36 (ix (10 : Int32)) (114 : Int32)) fun d16 =>
  if inb (11 : Int32) 69 then
  bnd (wrM d16 0 36 (ix (11 : Int32)) (32 : Int32)) fun d17 =>
  if inb (12 : Int32) 69 then
  bnd (wrM d17 0 36 (ix (12 : Int32)) (113 : Int32)) fun d18 =>
  if inb (13 : Int32) 69 then
  bnd (wrM d18 0 36 (ix (13 : Int32)) (117 : Int32)) fun d19 =>
  if inb (14 : Int32) 69 then
  bnd (wrM d19 0 36 (ix (14 : Int32)) (111 : Int32)) fun d20 =>
  if inb (15 : Int32) 69 then
  bnd (wrM d20 0 36 (ix (15 : Int32)) (116 : Int32)) fun d21 =>
  if inb (16 : Int32) 69 then
  bnd (wrM d21 0 36 (ix (16 : Int32)) (97 : Int32)) fun d22 =>
  if inb (17 : Int32) 69 then
  bnd (wrM d22 0 36 (ix (17 : Int32)) (32 : Int32)) fun d23 =>
  if inb (18 : Int32) 69 then
  bnd (wrM d23 0 36 (ix (18 : Int32)) (115 : Int32)) fun d24 =>
  if inb (19 : Int32) 69 then
  bnd (wrM d24 0 36 (ix (19 : Int32)) (105 : Int32)) fun d25 =>
  if inb (20 : Int32) 69 then
  bnd (wrM d25 0 36 (ix (20 : Int32)) (122 : Int32)) fun d26 =>
  if inb (21 : Int32) 69 then
  bnd (wrM d26 0 36 (ix (21 : Int32)) (101 : Int32)) fun d27 =>
  if inb (22 : Int32) 69 then
  bnd (wrM d27 0 36 (ix (22 : Int32)) (32 : Int32)) fun d28 =>
  if inb (23 : Int32) 69 then
  bnd (wrM d28 0 36 (ix (23 : Int32)) (98 : Int32)) fun d29 =>
  if inb (24 : Int32) 69 then
  bnd (wrM d29 0 36 (ix (24 : Int32)) (117 : Int32)) fun d30 =>
  if inb (25 : Int32) 69 then
  bnd (wrM d30 0 36 (ix (25 : Int32)) (100 : Int32)) fun d31 =>
  if inb (26 : Int32) 69 then
  bnd (wrM d31 0 36 (ix (26 : Int32)) (103 : Int32)) fun d32 =>
  if inb (27 : Int32) 69 then
  bnd (wrM d32 0 36 (ix (27 : Int32)) (101 : Int32)) fun d33 =>
  if inb (28 : Int32) 69 then
  bnd (wrM d33 0 36 (ix (28 : Int32)) (116 : Int32)) fun d34 =>
  if inb (29 : Int32) 69 then
  bnd (wrM d34 0 36 (ix (29 : Int32)) (32 : Int32)) fun d35 =>
  if inb (30 : Int32) 69 then
  bnd (wrM d35 0 36 (ix (30 : Int32)) (100 : Int32)) fun d36 =>
  if inb (31 : Int32) 69 then
  bnd (wrM d36 0 36 (ix (31 : Int32)) (101 : Int32)) fun d37 =>
  if inb (32 : Int32) 69 then
  bnd (wrM d37 0 36 (ix (32 : Int32)) (99 : Int32)) fun d38 =>
  if inb (33 : Int32) 69 then
  bnd (wrM d38 0 36 (ix (33 : Int32)) (97 : Int32)) fun d39 =>
  if inb (34 : Int32) 69 then
  bnd (wrM d39 0 36 (ix (34 : Int32)) (121 : Int32)) fun d40 =>
  if inb (35 : Int32) 69 then
  bnd (wrM d40 0 36 (ix (35 : Int32)) (32 : Int32)) fun d41 =>
  if inb (36 : Int32) 69 then
  bnd (wrM d41 0 36 (ix (36 : Int32)) (115 : Int32)) fun d42 =>
  if inb (37 : Int32) 69 then
  bnd (wrM d42 0 36 (ix (37 : Int32)) (101 : Int32)) fun d43 =>
  if inb (38 : Int32) 69 then
  bnd (wrM d43 0 36 (ix (38 : Int32)) (101 : Int32)) fun d44 =>
  if inb (39 : Int32) 69 then
  bnd (wrM d44 0 36 (ix (39 : Int32)) (100 : Int32)) fun d45 =>
  if inb (40 : Int32) 69 then
  bnd (wrM d45 0 36 (ix (40 : Int32)) (32 : Int32)) fun d46 =>
  if inb (41 : Int32) 69 then
  bnd (wrM d46 0 36 (ix (41 : Int32)) (109 : Int32)) fun d47 =>
  if inb (42 : Int32) 69 then
  bnd (wrM d47 0 36 (ix (42 : Int32)) (97 : Int32)) fun d48 =>
  if inb (43 : Int32) 69 then
  bnd (wrM d48 0 36 (ix (43 : Int32)) (112 : Int32)) fun d49 =>
  if inb (44 : Int32) 69 then
  bnd (wrM d49 0 36 (ix (44 : Int32)) (32 : Int32)) fun d50 =>
  if inb (45 : Int32) 69 then
  bnd (wrM d50 0 36 (ix (45 : Int32)) (103 : Int32)) fun d51 =>
  if inb (46 : Int32) 69 then
  bnd (wrM d51 0 36 (ix (46 : Int32)) (114 : Int32)) fun d52 =>
  if inb (47 : Int32) 69 then
  bnd (wrM d52 0 36 (ix (47 : Int32)) (97 : Int32)) fun d53 =>
  if inb (48 : Int32) 69 then
  bnd (wrM d53 0 36 (ix (48 : Int32)) (110 : Int32)) fun d54 =>
  if inb (49 : Int32) 69 then
  bnd (wrM d54 0 36 (ix (49 : Int32)) (116 : Int32)) fun d55 =>
  if inb (50 : Int32) 69 then
  bnd (wrM d55 0 36 (ix (50 : Int32)) (32 : Int32)) fun d56 =>
  if inb (51 : Int32) 69 then
  bnd (wrM d56 0 36 (ix (51 : Int32)) (102 : Int32)) fun d57 =>
  if inb (52 : Int32) 69 then
  bnd (wrM d57 0 36 (ix (52 : Int32)) (108 : Int32)) fun d58 =>
  if inb (53 : Int32) 69 then
  bnd (wrM d58 0 36 (ix (53 : Int32)) (117 : Int32)) fun d59 =>
  if inb (54 : Int32) 69 then
  bnd (wrM d59 0 36 (ix (54 : Int32)) (115 : Int32)) fun d60 =>
  if inb (55 : Int32) 69 then
  bnd (wrM d60 0 36 (ix (55 : Int32)) (104 : Int32)) fun d61 =>
  if inb (56 : Int32) 69 then
  bnd (wrM d61 0 36 (ix (56 : Int32)) (32 : Int32)) fun d62 =>
  if inb (57 : Int32) 69 then
  bnd (wrM d62 0 36 (ix (57 : Int32)) (116 : Int32)) fun d63 =>
  if inb (58 : Int32) 69 then
  bnd (wrM d63 0 36 (ix (58 : Int32)) (111 : Int32)) fun d64 =>
  if inb (59 : Int32) 69 then
  bnd (wrM d64 0 36 (ix (59 : Int32)) (117 : Int32)) fun d65 =>
  if inb (60 : Int32) 69 then
  bnd (wrM d65 0 36 (ix (60 : Int32)) (99 : Int32)) fun d66 =>
  if inb (61 : Int32) 69 then
  bnd (wrM d66 0 36 (ix (61 : Int32)) (104 : Int32)) fun d67 =>
  if inb (62 : Int32) 69 then
  bnd (wrM d67 0 36 (ix (62 : Int32)) (32 : Int32)) fun d68 =>
  if inb (63 : Int32) 69 then
  bnd (wrM d68 0 36 (ix (63 : Int32)) (115 : Int32)) fun d69 =>
  if inb (64 : Int32) 69 then
  bnd (wrM d69 0 36 (ix (64 : Int32)) (101 : Int32)) fun d70 =>
  if inb (65 : Int32) 69 then
  bnd (wrM d70 0 36 (ix (65 : Int32)) (114 : Int32)) fun d71 =>
  if inb (66 : Int32) 69 then
  bnd (wrM d71 0 36 (ix (66 : Int32)) (118 : Int32)) fun d72 =>
  if inb (67 : Int32) 69 then
  bnd (wrM d72 0 36 (ix (67 : Int32)) (101 : Int32)) fun d73 =>
  if inb (68 : Int32) 69 then
  bnd (wrM d73 0 36 (ix (68 : Int32)) (32 : Int32)) fun d74 =>
  bnd (wrM d74 0 65 3 1) fun d75 =>
  bnd (wrM d75 0 65 5 (-1 : Int32)) fun d76 =>
  bnd (wrAM d76 0 37 (fun _ => 0)) fun d78 =>
  bnd (wrM d78 0 65 15 1) fun d79 =>
  bnd (wrAM d79 0 38 (fun _ => 0)) fun d81 =>
  bnd (wrM d81 0 65 16 1) fun d82 =>
  bnd (wrAM d82 0 39 (fun _ => 0)) fun d84 =>
  bnd (wrM d84 0 65 17 1) fun d85 =>
  bnd (wrAM d85 0 40 (fun _ => 0)) fun d87 =>
  bnd (wrM d87 0 65 18 1) fun d88 =>
  bnd (wrAM d88 0 41 (fun _ => 0)) fun d90 =>
  bnd (wrM d90 0 65 19 1) fun d91 =>
  bnd (wrAM d91 0 42 (fun _ => 0)) fun d93 =>
  bnd (wrM d93 0 65 20 1) fun d94 =>
  bnd (wrAM d94 0 43 (fun _ => 0)) fun d96 =>
  bnd (wrM d96 0 65 21 1) fun d97 =>
  bnd (wrAM d97 0 44 (fun _ => 0)) fun d99 =>
  bnd (wrM d99 0 65 22 1) fun d100 =>
  bnd (wrAM d100 0 45 (fun _ => 0)) fun d102 =>
  bnd (wrM d102 0 65 24 1) fun d103 =>
  bnd (wrAM d103 0 46 (fun _ => 0)) fun d105 =>
  bnd (wrM d105 0 65 27 1) fun d106 =>
  bnd (wrAM d106 0 47 (fun _ => 0)) fun d108 =>
  bnd (wrM d108 0 65 29 1) fun d109 =>
  if cdone cs34 (d109 0 65) then
  bnd (wrAM d109 0 34 (d109 0 65)) fun d110 =>
  bd (lft d110 0 (Mo_plain (d110 0))) fun _ d112 =>
  bd (lft d112 0 (Mo_keepText (d112 0))) fun _ d113 =>
  some ((), d113)
  else none
  else none
  else none
  else none
  else none
  else none
  else none
  else none
  else none
  else none
  else none
  else none
  else none
  else none
  else none
  else none
  else none
  else none
  else none
  else none
  else none
  else none
  else none
  else none
  else none
  else none
  else none
  else none
  else none
  else none
  else none
  else none
  else none
  else none
  else none
  else none
  else none
  else none
  else none
  else none
  else none
  else none
  else none
  else none
  else none
  else none
  else none
  else none
  else none
  else none
  else none
  else none
  else none
  else none
  else none
  else none
  else none
  else none
  else none
  else none
  else none
  else none
  else none
  else none
  else none
  else none
  else none
  else none
  else none
  else none
theorem yi_X6_init : YI yX6_init cX6_init 1 0 := ⟨q1231, rfl, q1232, q149, by decide +kernel, by decide +kernel, by decide +kernel, by decide +kernel⟩
theorem r_Mo_init {C : Cxt} {G : Geo} (hC : Cx C cX6_init 1 "FrameHeirsModel" none rm_X6_init G) (hnm : C.2.2.2.2.2.2.2.2.1.name = "<init>") (hl : G.2.2.2 0 65) (lv0 : LVs G [(0, 65)])  (d : Mem) : Rg C 1 G 0 0 gm (QK C G 0 65 34 [(0, 47), (0, 46), (0, 45), (0, 44), (0, 43), (0, 42), (0, 41), (0, 40), (0, 39), (0, 38), (0, 37), (0, 36), (0, 35)] 13 50368) 0 [(0, .inr (0, 65))] [] d (Mo_init d) := by
  unfold Mo_init
  refine z_aload_n (pc := 0) hC 0 rfl 0 rfl dX6_init_0 ?_
  refine z_objI (pc := 1) hC q1233 q165 q166 (Nat.le_of_ble_eq_true rfl) (Nat.le_of_ble_eq_true rfl) dX6_init_1 ?_
  refine z_aload_n (pc := 4) hC 0 rfl 0 rfl dX6_init_4 ?_
  refine z_sipush (pc := 5) hC (700 : Int32) rfl dX6_init_5 ?_
  refine zg_newa (pc := 8) (k := 0) (a := 35) (n := 700) (ty := 0) (fty := .int) hC rfl rfl (by decide) (fun _ _ => rfl) (hC.2.2.2.2.2.1.2 0 _ rfl).2 q235 (LVs.no lv0 (by decide) (by decide)) (by decide) (Or.inl (by decide)) rfl (by decide +kernel) (by decide +kernel) (by decide +kernel) (by decide +kernel) (by decide +kernel) dX6_init_8 (fun Ge1 d2 e1 hC => ?_)
  refine zg_putS (pc := 10) (ty := (.array .int)) hC hnm (e1.old hl) (e1.mem (by decide)) f_65_0 q1270 (by decide +kernel) (fun _ => rfl) (fun _ => rfl) dX6_init_10 (fun d3 => ?_)
  refine z_aload_n (pc := 13) hC 0 rfl 0 rfl dX6_init_13 ?_
  refine z_bipush (pc := 14) hC (69 : Int32) rfl dX6_init_14 ?_
  refine zg_newa (pc := 16) (k := 0) (a := 36) (n := 69) (ty := 0) (fty := .int) hC rfl rfl (by decide) (fun _ _ => rfl) (hC.2.2.2.2.2.1.2 0 _ rfl).2 q235 (LVs.no (LVs.ge e1 lv0) (by decide) (by decide)) (by decide) (Or.inl (by decide)) rfl (by decide +kernel) (by decide +kernel) (by decide +kernel) (by decide +kernel) (by decide +kernel) dX6_init_16 (fun Ge4 d5 e4 hC => ?_)
  refine z_dup (pc := 18) hC rfl dX6_init_18 ?_
  refine z_iconst (pc := 19) hC (0 : Int32) rfl dX6_init_19 ?_
  refine z_bipush (pc := 20) hC (115 : Int32) rfl dX6_init_20 ?_
  refine zg_iast (pc := 22) hC (e4.mem (by decide)) (by decide) rfl dX6_init_22 (fun d6 => ?_)
  refine z_dup (pc := 23) hC rfl dX6_init_23 ?_
  refine z_iconst (pc := 24) hC (1 : Int32) rfl dX6_init_24 ?_
  refine z_bipush (pc := 25) hC (112 : Int32) rfl dX6_init_25 ?_
  refine zg_iast (pc := 27) hC (e4.mem (by decide)) (by decide) rfl dX6_init_27 (fun d7 => ?_)
  refine z_dup (pc := 28) hC rfl dX6_init_28 ?_
  refine z_iconst (pc := 29) hC (2 : Int32) rfl dX6_init_29 ?_
  refine z_bipush (pc := 30) hC (97 : Int32) rfl dX6_init_30 ?_
  refine zg_iast (pc := 32) hC (e4.mem (by decide)) (by decide) rfl dX6_init_32 (fun d8 => ?_)
  refine z_dup (pc := 33) hC rfl dX6_init_33 ?_
  refine z_iconst (pc := 34) hC (3 : Int32) rfl dX6_init_34 ?_
  refine z_bipush (pc := 35) hC (99 : Int32) rfl dX6_init_35 ?_
  refine zg_iast (pc := 37) hC (e4.mem (by decide)) (by decide) rfl dX6_init_37 (fun d9 => ?_)
  refine z_dup (pc := 38) hC rfl dX6_init_38 ?_
  refine z_iconst (pc := 39) hC (4 : Int32) rfl dX6_init_39 ?_
  refine z_bipush (pc := 40) hC (101 : Int32) rfl dX6_init_40 ?_
  refine zg_iast (pc := 42) hC (e4.mem (by decide)) (by decide) rfl dX6_init_42 (fun d10 => ?_)
  refine z_dup (pc := 43) hC rfl dX6_init_43 ?_
  refine z_iconst (pc := 44) hC (5 : Int32) rfl dX6_init_44 ?_
  refine z_bipush (pc := 45) hC (32 : Int32) rfl dX6_init_45 ?_
  refine zg_iast (pc := 47) hC (e4.mem (by decide)) (by decide) rfl dX6_init_47 (fun d11 => ?_)
  refine z_dup (pc := 48) hC rfl dX6_init_48 ?_
  refine z_bipush (pc := 49) hC (6 : Int32) rfl dX6_init_49 ?_
  refine z_bipush (pc := 51) hC (112 : Int32) rfl dX6_init_51 ?_
  refine zg_iast (pc := 53) hC (e4.mem (by decide)) (by decide) rfl dX6_init_53 (fun d12 => ?_)
  refine z_dup (pc := 54) hC rfl dX6_init_54 ?_
  refine z_bipush (pc := 55) hC (7 : Int32) rfl dX6_init_55 ?_
  refine z_bipush (pc := 57) hC (97 : Int32) rfl dX6_init_57 ?_
  refine zg_iast (pc := 59) hC (e4.mem (by decide)) (by decide) rfl dX6_init_59 (fun d13 => ?_)
  refine z_dup (pc := 60) hC rfl dX6_init_60 ?_
  refine z_bipush (pc := 61) hC (8 : Int32) rfl dX6_init_61 ?_
  refine z_bipush (pc := 63) hC (103 : Int32) rfl dX6_init_63 ?_
  refine zg_iast (pc := 65) hC (e4.mem (by decide)) (by decide) rfl dX6_init_65 (fun d14 => ?_)
  refine z_dup (pc := 66) hC rfl dX6_init_66 ?_
  refine z_bipush (pc := 67) hC (9 : Int32) rfl dX6_init_67 ?_
  refine z_bipush (pc := 69) hC (101 : Int32) rfl dX6_init_69 ?_
  refine zg_iast (pc := 71) hC (e4.mem (by decide)) (by decide) rfl dX6_init_71 (fun d15 => ?_)
  refine z_dup (pc := 72) hC rfl dX6_init_72 ?_
  refine z_bipush (pc := 73) hC (10 : Int32) rfl dX6_init_73 ?_
  refine z_bipush (pc := 75) hC (114 : Int32) rfl dX6_init_75 ?_
  refine zg_iast (pc := 77) hC (e4.mem (by decide)) (by decide) rfl dX6_init_77 (fun d16 => ?_)
  refine z_dup (pc := 78) hC rfl dX6_init_78 ?_
  refine z_bipush (pc := 79) hC (11 : Int32) rfl dX6_init_79 ?_
  refine z_bipush (pc := 81) hC (32 : Int32) rfl dX6_init_81 ?_
  refine zg_iast (pc := 83) hC (e4.mem (by decide)) (by decide) rfl dX6_init_83 (fun d17 => ?_)
  refine z_dup (pc := 84) hC rfl dX6_init_84 ?_
  refine z_bipush (pc := 85) hC (12 : Int32) rfl dX6_init_85 ?_
  refine z_bipush (pc := 87) hC (113 : Int32) rfl dX6_init_87 ?_
  refine zg_iast (pc := 89) hC (e4.mem (by decide)) (by decide) rfl dX6_init_89 (fun d18 => ?_)
  refine z_dup (pc := 90) hC rfl dX6_init_90 ?_
  refine z_bipush (pc := 91) hC (13 : Int32) rfl dX6_init_91 ?_
  refine z_bipush (pc := 93) hC (117 : Int32) rfl dX6_init_93 ?_
  refine zg_iast (pc := 95) hC (e4.mem (by decide)) (by decide) rfl dX6_init_95 (fun d19 => ?_)
  refine z_dup (pc := 96) hC rfl dX6_init_96 ?_
  refine z_bipush (pc := 97) hC (14 : Int32) rfl dX6_init_97 ?_
  refine z_bipush (pc := 99) hC (111 : Int32) rfl dX6_init_99 ?_
  refine zg_iast (pc := 101) hC (e4.mem (by decide)) (by decide) rfl dX6_init_101 (fun d20 => ?_)
  refine z_dup (pc := 102) hC rfl dX6_init_102 ?_
  refine z_bipush (pc := 103) hC (15 : Int32) rfl dX6_init_103 ?_
  refine z_bipush (pc := 105) hC (116 : Int32) rfl dX6_init_105 ?_
  refine zg_iast (pc := 107) hC (e4.mem (by decide)) (by decide) rfl dX6_init_107 (fun d21 => ?_)
  refine z_dup (pc := 108) hC rfl dX6_init_108 ?_
  refine z_bipush (pc := 109) hC (16 : Int32) rfl dX6_init_109 ?_
  refine z_bipush (pc := 111) hC (97 : Int32) rfl dX6_init_111 ?_
  refine zg_iast (pc := 113) hC (e4.mem (by decide)) (by decide) rfl dX6_init_113 (fun d22 => ?_)
  refine z_dup (pc := 114) hC rfl dX6_init_114 ?_
  refine z_bipush (pc := 115) hC (17 : Int32) rfl dX6_init_115 ?_
  refine z_bipush (pc := 117) hC (32 : Int32) rfl dX6_init_117 ?_
  refine zg_iast (pc := 119) hC (e4.mem (by decide)) (by decide) rfl dX6_init_119 (fun d23 => ?_)
  refine z_dup (pc := 120) hC rfl dX6_init_120 ?_
  refine z_bipush (pc := 121) hC (18 : Int32) rfl dX6_init_121 ?_
  refine z_bipush (pc := 123) hC (115 : Int32) rfl dX6_init_123 ?_
  refine zg_iast (pc := 125) hC (e4.mem (by decide)) (by decide) rfl dX6_init_125 (fun d24 => ?_)
  refine z_dup (pc := 126) hC rfl dX6_init_126 ?_
  refine z_bipush (pc := 127) hC (19 : Int32) rfl dX6_init_127 ?_
  refine z_bipush (pc := 129) hC (105 : Int32) rfl dX6_init_129 ?_
  refine zg_iast (pc := 131) hC (e4.mem (by decide)) (by decide) rfl dX6_init_131 (fun d25 => ?_)
  refine z_dup (pc := 132) hC rfl dX6_init_132 ?_
  refine z_bipush (pc := 133) hC (20 : Int32) rfl dX6_init_133 ?_
  refine z_bipush (pc := 135) hC (122 : Int32) rfl dX6_init_135 ?_
  refine zg_iast (pc := 137) hC (e4.mem (by decide)) (by decide) rfl dX6_init_137 (fun d26 => ?_)
  refine z_dup (pc := 138) hC rfl dX6_init_138 ?_
  refine z_bipush (pc := 139) hC (21 : Int32) rfl dX6_init_139 ?_
  refine z_bipush (pc := 141) hC (101 : Int32) rfl dX6_init_141 ?_
  refine zg_iast (pc := 143) hC (e4.mem (by decide)) (by decide) rfl dX6_init_143 (fun d27 => ?_)
  refine z_dup (pc := 144) hC rfl dX6_init_144 ?_
  refine z_bipush (pc := 145) hC (22 : Int32) rfl dX6_init_145 ?_
  refine z_bipush (pc := 147) hC (32 : Int32) rfl dX6_init_147 ?_
  refine zg_iast (pc := 149) hC (e4.mem (by decide)) (by decide) rfl dX6_init_149 (fun d28 => ?_)
  refine z_dup (pc := 150) hC rfl dX6_init_150 ?_
  refine z_bipush (pc := 151) hC (23 : Int32) rfl dX6_init_151 ?_
  refine z_bipush (pc := 153) hC (98 : Int32) rfl dX6_init_153 ?_
  refine zg_iast (pc := 155) hC (e4.mem (by decide)) (by decide) rfl dX6_init_155 (fun d29 => ?_)
  refine z_dup (pc := 156) hC rfl dX6_init_156 ?_
  refine z_bipush (pc := 157) hC (24 : Int32) rfl dX6_init_157 ?_
  refine z_bipush (pc := 159) hC (117 : Int32) rfl dX6_init_159 ?_
  refine zg_iast (pc := 161) hC (e4.mem (by decide)) (by decide) rfl dX6_init_161 (fun d30 => ?_)
  refine z_dup (pc := 162) hC rfl dX6_init_162 ?_
  refine z_bipush (pc := 163) hC (25 : Int32) rfl dX6_init_163 ?_
  refine z_bipush (pc := 165) hC (100 : Int32) rfl dX6_init_165 ?_
  refine zg_iast (pc := 167) hC (e4.mem (by decide)) (by decide) rfl dX6_init_167 (fun d31 => ?_)
  refine z_dup (pc := 168) hC rfl dX6_init_168 ?_
  refine z_bipush (pc := 169) hC (26 : Int32) rfl dX6_init_169 ?_
  refine z_bipush (pc := 171) hC (103 : Int32) rfl dX6_init_171 ?_
  refine zg_iast (pc := 173) hC (e4.mem (by decide)) (by decide) rfl dX6_init_173 (fun d32 => ?_)
  refine z_dup (pc := 174) hC rfl dX6_init_174 ?_
  refine z_bipush (pc := 175) hC (27 : Int32) rfl dX6_init_175 ?_
  refine z_bipush (pc := 177) hC (101 : Int32) rfl dX6_init_177 ?_
  refine zg_iast (pc := 179) hC (e4.mem (by decide)) (by decide) rfl dX6_init_179 (fun d33 => ?_)
  refine z_dup (pc := 180) hC rfl dX6_init_180 ?_
  refine z_bipush (pc := 181) hC (28 : Int32) rfl dX6_init_181 ?_
  refine z_bipush (pc := 183) hC (116 : Int32) rfl dX6_init_183 ?_
  refine zg_iast (pc := 185) hC (e4.mem (by decide)) (by decide) rfl dX6_init_185 (fun d34 => ?_)
  refine z_dup (pc := 186) hC rfl dX6_init_186 ?_
  refine z_bipush (pc := 187) hC (29 : Int32) rfl dX6_init_187 ?_
  refine z_bipush (pc := 189) hC (32 : Int32) rfl dX6_init_189 ?_
  refine zg_iast (pc := 191) hC (e4.mem (by decide)) (by decide) rfl dX6_init_191 (fun d35 => ?_)
  refine z_dup (pc := 192) hC rfl dX6_init_192 ?_
  refine z_bipush (pc := 193) hC (30 : Int32) rfl dX6_init_193 ?_
  refine z_bipush (pc := 195) hC (100 : Int32) rfl dX6_init_195 ?_
  refine zg_iast (pc := 197) hC (e4.mem (by decide)) (by decide) rfl dX6_init_197 (fun d36 => ?_)
  refine z_dup (pc := 198) hC rfl dX6_init_198 ?_
  refine z_bipush (pc := 199) hC (31 : Int32) rfl dX6_init_199 ?_
  refine z_bipush (pc := 201) hC (101 : Int32) rfl dX6_init_201 ?_
  refine zg_iast (pc := 203) hC (e4.mem (by decide)) (by decide) rfl dX6_init_203 (fun d37 => ?_)
  refine z_dup (pc := 204) hC rfl dX6_init_204 ?_
  refine z_bipush (pc := 205) hC (32 : Int32) rfl dX6_init_205 ?_
  refine z_bipush (pc := 207) hC (99 : Int32) rfl dX6_init_207 ?_
  refine zg_iast (pc := 209) hC (e4.mem (by decide)) (by decide) rfl dX6_init_209 (fun d38 => ?_)
  refine z_dup (pc := 210) hC rfl dX6_init_210 ?_
  refine z_bipush (pc := 211) hC (33 : Int32) rfl dX6_init_211 ?_
  refine z_bipush (pc := 213) hC (97 : Int32) rfl dX6_init_213 ?_
  refine zg_iast (pc := 215) hC (e4.mem (by decide)) (by decide) rfl dX6_init_215 (fun d39 => ?_)
  refine z_dup (pc := 216) hC rfl dX6_init_216 ?_
  refine z_bipush (pc := 217) hC (34 : Int32) rfl dX6_init_217 ?_
  refine z_bipush (pc := 219) hC (121 : Int32) rfl dX6_init_219 ?_
  refine zg_iast (pc := 221) hC (e4.mem (by decide)) (by decide) rfl dX6_init_221 (fun d40 => ?_)
  refine z_dup (pc := 222) hC rfl dX6_init_222 ?_
  refine z_bipush (pc := 223) hC (35 : Int32) rfl dX6_init_223 ?_
  refine z_bipush (pc := 225) hC (32 : Int32) rfl dX6_init_225 ?_
  refine zg_iast (pc := 227) hC (e4.mem (by decide)) (by decide) rfl dX6_init_227 (fun d41 => ?_)
  refine z_dup (pc := 228) hC rfl dX6_init_228 ?_
  refine z_bipush (pc := 229) hC (36 : Int32) rfl dX6_init_229 ?_
  refine z_bipush (pc := 231) hC (115 : Int32) rfl dX6_init_231 ?_
  refine zg_iast (pc := 233) hC (e4.mem (by decide)) (by decide) rfl dX6_init_233 (fun d42 => ?_)
  refine z_dup (pc := 234) hC rfl dX6_init_234 ?_
  refine z_bipush (pc := 235) hC (37 : Int32) rfl dX6_init_235 ?_
  refine z_bipush (pc := 237) hC (101 : Int32) rfl dX6_init_237 ?_
  refine zg_iast (pc := 239) hC (e4.mem (by decide)) (by decide) rfl dX6_init_239 (fun d43 => ?_)
  refine z_dup (pc := 240) hC rfl dX6_init_240 ?_
  refine z_bipush (pc := 241) hC (38 : Int32) rfl dX6_init_241 ?_
  refine z_bipush (pc := 243) hC (101 : Int32) rfl dX6_init_243 ?_
  refine zg_iast (pc := 245) hC (e4.mem (by decide)) (by decide) rfl dX6_init_245 (fun d44 => ?_)
  refine z_dup (pc := 246) hC rfl dX6_init_246 ?_
  refine z_bipush (pc := 247) hC (39 : Int32) rfl dX6_init_247 ?_
  refine z_bipush (pc := 249) hC (100 : Int32) rfl dX6_init_249 ?_
  refine zg_iast (pc := 251) hC (e4.mem (by decide)) (by decide) rfl dX6_init_251 (fun d45 => ?_)
  refine z_dup (pc := 252) hC rfl dX6_init_252 ?_
  refine z_bipush (pc := 253) hC (40 : Int32) rfl dX6_init_253 ?_
  refine z_bipush (pc := 255) hC (32 : Int32) rfl dX6_init_255 ?_
  refine zg_iast (pc := 257) hC (e4.mem (by decide)) (by decide) rfl dX6_init_257 (fun d46 => ?_)
  refine z_dup (pc := 258) hC rfl dX6_init_258 ?_
  refine z_bipush (pc := 259) hC (41 : Int32) rfl dX6_init_259 ?_
  refine z_bipush (pc := 261) hC (109 : Int32) rfl dX6_init_261 ?_
  refine zg_iast (pc := 263) hC (e4.mem (by decide)) (by decide) rfl dX6_init_263 (fun d47 => ?_)
  refine z_dup (pc := 264) hC rfl dX6_init_264 ?_
  refine z_bipush (pc := 265) hC (42 : Int32) rfl dX6_init_265 ?_
  refine z_bipush (pc := 267) hC (97 : Int32) rfl dX6_init_267 ?_
  refine zg_iast (pc := 269) hC (e4.mem (by decide)) (by decide) rfl dX6_init_269 (fun d48 => ?_)
  refine z_dup (pc := 270) hC rfl dX6_init_270 ?_
  refine z_bipush (pc := 271) hC (43 : Int32) rfl dX6_init_271 ?_
  refine z_bipush (pc := 273) hC (112 : Int32) rfl dX6_init_273 ?_
  refine zg_iast (pc := 275) hC (e4.mem (by decide)) (by decide) rfl dX6_init_275 (fun d49 => ?_)
  refine z_dup (pc := 276) hC rfl dX6_init_276 ?_
  refine z_bipush (pc := 277) hC (44 : Int32) rfl dX6_init_277 ?_
  refine z_bipush (pc := 279) hC (32 : Int32) rfl dX6_init_279 ?_
  refine zg_iast (pc := 281) hC (e4.mem (by decide)) (by decide) rfl dX6_init_281 (fun d50 => ?_)
  refine z_dup (pc := 282) hC rfl dX6_init_282 ?_
  refine z_bipush (pc := 283) hC (45 : Int32) rfl dX6_init_283 ?_
  refine z_bipush (pc := 285) hC (103 : Int32) rfl dX6_init_285 ?_
  refine zg_iast (pc := 287) hC (e4.mem (by decide)) (by decide) rfl dX6_init_287 (fun d51 => ?_)
  refine z_dup (pc := 288) hC rfl dX6_init_288 ?_
  refine z_bipush (pc := 289) hC (46 : Int32) rfl dX6_init_289 ?_
  refine z_bipush (pc := 291) hC (114 : Int32) rfl dX6_init_291 ?_
  refine zg_iast (pc := 293) hC (e4.mem (by decide)) (by decide) rfl dX6_init_293 (fun d52 => ?_)
  refine z_dup (pc := 294) hC rfl dX6_init_294 ?_
  refine z_bipush (pc := 295) hC (47 : Int32) rfl dX6_init_295 ?_
  refine z_bipush (pc := 297) hC (97 : Int32) rfl dX6_init_297 ?_
  refine zg_iast (pc := 299) hC (e4.mem (by decide)) (by decide) rfl dX6_init_299 (fun d53 => ?_)
  refine z_dup (pc := 300) hC rfl dX6_init_300 ?_
  refine z_bipush (pc := 301) hC (48 : Int32) rfl dX6_init_301 ?_
  refine z_bipush (pc := 303) hC (110 : Int32) rfl dX6_init_303 ?_
  refine zg_iast (pc := 305) hC (e4.mem (by decide)) (by decide) rfl dX6_init_305 (fun d54 => ?_)
  refine z_dup (pc := 306) hC rfl dX6_init_306 ?_
  refine z_bipush (pc := 307) hC (49 : Int32) rfl dX6_init_307 ?_
  refine z_bipush (pc := 309) hC (116 : Int32) rfl dX6_init_309 ?_
  refine zg_iast (pc := 311) hC (e4.mem (by decide)) (by decide) rfl dX6_init_311 (fun d55 => ?_)
  refine z_dup (pc := 312) hC rfl dX6_init_312 ?_
  refine z_bipush (pc := 313) hC (50 : Int32) rfl dX6_init_313 ?_
  refine z_bipush (pc := 315) hC (32 : Int32) rfl dX6_init_315 ?_
  refine zg_iast (pc := 317) hC (e4.mem (by decide)) (by decide) rfl dX6_init_317 (fun d56 => ?_)
  refine z_dup (pc := 318) hC rfl dX6_init_318 ?_
  refine z_bipush (pc := 319) hC (51 : Int32) rfl dX6_init_319 ?_
  refine z_bipush (pc := 321) hC (102 : Int32) rfl dX6_init_321 ?_
  refine zg_iast (pc := 323) hC (e4.mem (by decide)) (by decide) rfl dX6_init_323 (fun d57 => ?_)
  refine z_dup (pc := 324) hC rfl dX6_init_324 ?_
  refine z_bipush (pc := 325) hC (52 : Int32) rfl dX6_init_325 ?_
  refine z_bipush (pc := 327) hC (108 : Int32) rfl dX6_init_327 ?_
  refine zg_iast (pc := 329) hC (e4.mem (by decide)) (by decide) rfl dX6_init_329 (fun d58 => ?_)
  refine z_dup (pc := 330) hC rfl dX6_init_330 ?_
  refine z_bipush (pc := 331) hC (53 : Int32) rfl dX6_init_331 ?_
  refine z_bipush (pc := 333) hC (117 : Int32) rfl dX6_init_333 ?_
  refine zg_iast (pc := 335) hC (e4.mem (by decide)) (by decide) rfl dX6_init_335 (fun d59 => ?_)
  refine z_dup (pc := 336) hC rfl dX6_init_336 ?_
  refine z_bipush (pc := 337) hC (54 : Int32) rfl dX6_init_337 ?_
  refine z_bipush (pc := 339) hC (115 : Int32) rfl dX6_init_339 ?_
  refine zg_iast (pc := 341) hC (e4.mem (by decide)) (by decide) rfl dX6_init_341 (fun d60 => ?_)
  refine z_dup (pc := 342) hC rfl dX6_init_342 ?_
  refine z_bipush (pc := 343) hC (55 : Int32) rfl dX6_init_343 ?_
  refine z_bipush (pc := 345) hC (104 : Int32) rfl dX6_init_345 ?_
  refine zg_iast (pc := 347) hC (e4.mem (by decide)) (by decide) rfl dX6_init_347 (fun d61 => ?_)
  refine z_dup (pc := 348) hC rfl dX6_init_348 ?_
  refine z_bipush (pc := 349) hC (56 : Int32) rfl dX6_init_349 ?_
  refine z_bipush (pc := 351) hC (32 : Int32) rfl dX6_init_351 ?_
  refine zg_iast (pc := 353) hC (e4.mem (by decide)) (by decide) rfl dX6_init_353 (fun d62 => ?_)
  refine z_dup (pc := 354) hC rfl dX6_init_354 ?_
  refine z_bipush (pc := 355) hC (57 : Int32) rfl dX6_init_355 ?_
  refine z_bipush (pc := 357) hC (116 : Int32) rfl dX6_init_357 ?_
  refine zg_iast (pc := 359) hC (e4.mem (by decide)) (by decide) rfl dX6_init_359 (fun d63 => ?_)
  refine z_dup (pc := 360) hC rfl dX6_init_360 ?_
  refine z_bipush (pc := 361) hC (58 : Int32) rfl dX6_init_361 ?_
  refine z_bipush (pc := 363) hC (111 : Int32) rfl dX6_init_363 ?_
  refine zg_iast (pc := 365) hC (e4.mem (by decide)) (by decide) rfl dX6_init_365 (fun d64 => ?_)
  refine z_dup (pc := 366) hC rfl dX6_init_366 ?_
  refine z_bipush (pc := 367) hC (59 : Int32) rfl dX6_init_367 ?_
  refine z_bipush (pc := 369) hC (117 : Int32) rfl dX6_init_369 ?_
  refine zg_iast (pc := 371) hC (e4.mem (by decide)) (by decide) rfl dX6_init_371 (fun d65 => ?_)
  refine z_dup (pc := 372) hC rfl dX6_init_372 ?_
  refine z_bipush (pc := 373) hC (60 : Int32) rfl dX6_init_373 ?_
  refine z_bipush (pc := 375) hC (99 : Int32) rfl dX6_init_375 ?_
  refine zg_iast (pc := 377) hC (e4.mem (by decide)) (by decide) rfl dX6_init_377 (fun d66 => ?_)
  refine z_dup (pc := 378) hC rfl dX6_init_378 ?_
  refine z_bipush (pc := 379) hC (61 : Int32) rfl dX6_init_379 ?_
  refine z_bipush (pc := 381) hC (104 : Int32) rfl dX6_init_381 ?_
  refine zg_iast (pc := 383) hC (e4.mem (by decide)) (by decide) rfl dX6_init_383 (fun d67 => ?_)
  refine z_dup (pc := 384) hC rfl dX6_init_384 ?_
  refine z_bipush (pc := 385) hC (62 : Int32) rfl dX6_init_385 ?_
  refine z_bipush (pc := 387) hC (32 : Int32) rfl dX6_init_387 ?_
  refine zg_iast (pc := 389) hC (e4.mem (by decide)) (by decide) rfl dX6_init_389 (fun d68 => ?_)
  refine z_dup (pc := 390) hC rfl dX6_init_390 ?_
  refine z_bipush (pc := 391) hC (63 : Int32) rfl dX6_init_391 ?_
  refine z_bipush (pc := 393) hC (115 : Int32) rfl dX6_init_393 ?_
  refine zg_iast (pc := 395) hC (e4.mem (by decide)) (by decide) rfl dX6_init_395 (fun d69 => ?_)
  refine z_dup (pc := 396) hC rfl dX6_init_396 ?_
  refine z_bipush (pc := 397) hC (64 : Int32) rfl dX6_init_397 ?_
  refine z_bipush (pc := 399) hC (101 : Int32) rfl dX6_init_399 ?_
  refine zg_iast (pc := 401) hC (e4.mem (by decide)) (by decide) rfl dX6_init_401 (fun d70 => ?_)
  refine z_dup (pc := 402) hC rfl dX6_init_402 ?_
  refine z_bipush (pc := 403) hC (65 : Int32) rfl dX6_init_403 ?_
  refine z_bipush (pc := 405) hC (114 : Int32) rfl dX6_init_405 ?_
  refine zg_iast (pc := 407) hC (e4.mem (by decide)) (by decide) rfl dX6_init_407 (fun d71 => ?_)
  refine z_dup (pc := 408) hC rfl dX6_init_408 ?_
  refine z_bipush (pc := 409) hC (66 : Int32) rfl dX6_init_409 ?_
  refine z_bipush (pc := 411) hC (118 : Int32) rfl dX6_init_411 ?_
  refine zg_iast (pc := 413) hC (e4.mem (by decide)) (by decide) rfl dX6_init_413 (fun d72 => ?_)
  refine z_dup (pc := 414) hC rfl dX6_init_414 ?_
  refine z_bipush (pc := 415) hC (67 : Int32) rfl dX6_init_415 ?_
  refine z_bipush (pc := 417) hC (101 : Int32) rfl dX6_init_417 ?_
  refine zg_iast (pc := 419) hC (e4.mem (by decide)) (by decide) rfl dX6_init_419 (fun d73 => ?_)
  refine z_dup (pc := 420) hC rfl dX6_init_420 ?_
  refine z_bipush (pc := 421) hC (68 : Int32) rfl dX6_init_421 ?_
  refine z_bipush (pc := 423) hC (32 : Int32) rfl dX6_init_423 ?_
  refine zg_iast (pc := 425) hC (e4.mem (by decide)) (by decide) rfl dX6_init_425 (fun d74 => ?_)
  refine zg_putS (pc := 426) (ty := (.array .int)) hC hnm (e4.old (e1.old hl)) (e4.mem (by decide)) f_65_3 q1273 (by decide +kernel) (fun _ => rfl) (fun _ => rfl) dX6_init_426 (fun d75 => ?_)
  refine z_aload_n (pc := 429) hC 0 rfl 0 rfl dX6_init_429 ?_
  refine z_iconst (pc := 430) hC (-1 : Int32) rfl dX6_init_430 ?_
  refine zg_puti (pc := 431) hC (e4.old (e1.old hl)) f_65_5 q1275 dX6_init_431 (fun d76 => ?_)
  refine z_aload_n (pc := 434) hC 0 rfl 0 rfl dX6_init_434 ?_
  refine z_bipush (pc := 435) hC (12 : Int32) rfl dX6_init_435 ?_
  refine zg_newa (pc := 437) (k := 0) (a := 37) (n := 12) (ty := 0) (fty := .int) hC rfl rfl (by decide) (fun _ _ => rfl) (hC.2.2.2.2.2.1.2 0 _ rfl).2 q235 (LVs.no (LVs.ge e4 (LVs.ge e1 lv0)) (by decide) (by decide)) (by decide) (Or.inl (by decide)) rfl (by decide +kernel) (by decide +kernel) (by decide +kernel) (by decide +kernel) (by decide +kernel) dX6_init_437 (fun Ge77 d78 e77 hC => ?_)
  refine zg_putS (pc := 439) (ty := (.array .int)) hC hnm (e77.old (e4.old (e1.old hl))) (e77.mem (by decide)) f_65_15 q1285 (by decide +kernel) (fun _ => rfl) (fun _ => rfl) dX6_init_439 (fun d79 => ?_)
  refine z_aload_n (pc := 442) hC 0 rfl 0 rfl dX6_init_442 ?_
  refine z_bipush (pc := 443) hC (12 : Int32) rfl dX6_init_443 ?_
  refine zg_newa (pc := 445) (k := 0) (a := 38) (n := 12) (ty := 0) (fty := .int) hC rfl rfl (by decide) (fun _ _ => rfl) (hC.2.2.2.2.2.1.2 0 _ rfl).2 q235 (LVs.no (LVs.ge e77 (LVs.ge e4 (LVs.ge e1 lv0))) (by decide) (by decide)) (by decide) (Or.inl (by decide)) rfl (by decide +kernel) (by decide +kernel) (by decide +kernel) (by decide +kernel) (by decide +kernel) dX6_init_445 (fun Ge80 d81 e80 hC => ?_)
  refine zg_putS (pc := 447) (ty := (.array .int)) hC hnm (e80.old (e77.old (e4.old (e1.old hl)))) (e80.mem (by decide)) f_65_16 q1286 (by decide +kernel) (fun _ => rfl) (fun _ => rfl) dX6_init_447 (fun d82 => ?_)
  refine z_aload_n (pc := 450) hC 0 rfl 0 rfl dX6_init_450 ?_
  refine z_bipush (pc := 451) hC (12 : Int32) rfl dX6_init_451 ?_
  refine zg_newa (pc := 453) (k := 0) (a := 39) (n := 12) (ty := 0) (fty := .int) hC rfl rfl (by decide) (fun _ _ => rfl) (hC.2.2.2.2.2.1.2 0 _ rfl).2 q235 (LVs.no (LVs.ge e80 (LVs.ge e77 (LVs.ge e4 (LVs.ge e1 lv0)))) (by decide) (by decide)) (by decide) (Or.inl (by decide)) rfl (by decide +kernel) (by decide +kernel) (by decide +kernel) (by decide +kernel) (by decide +kernel) dX6_init_453 (fun Ge83 d84 e83 hC => ?_)
  refine zg_putS (pc := 455) (ty := (.array .int)) hC hnm (e83.old (e80.old (e77.old (e4.old (e1.old hl))))) (e83.mem (by decide)) f_65_17 q1287 (by decide +kernel) (fun _ => rfl) (fun _ => rfl) dX6_init_455 (fun d85 => ?_)
  refine z_aload_n (pc := 458) hC 0 rfl 0 rfl dX6_init_458 ?_
  refine z_bipush (pc := 459) hC (12 : Int32) rfl dX6_init_459 ?_
  refine zg_newa (pc := 461) (k := 0) (a := 40) (n := 12) (ty := 0) (fty := .int) hC rfl rfl (by decide) (fun _ _ => rfl) (hC.2.2.2.2.2.1.2 0 _ rfl).2 q235 (LVs.no (LVs.ge e83 (LVs.ge e80 (LVs.ge e77 (LVs.ge e4 (LVs.ge e1 lv0))))) (by decide) (by decide)) (by decide) (Or.inl (by decide)) rfl (by decide +kernel) (by decide +kernel) (by decide +kernel) (by decide +kernel) (by decide +kernel) dX6_init_461 (fun Ge86 d87 e86 hC => ?_)
  refine zg_putS (pc := 463) (ty := (.array .int)) hC hnm (e86.old (e83.old (e80.old (e77.old (e4.old (e1.old hl)))))) (e86.mem (by decide)) f_65_18 q1288 (by decide +kernel) (fun _ => rfl) (fun _ => rfl) dX6_init_463 (fun d88 => ?_)
  refine z_aload_n (pc := 466) hC 0 rfl 0 rfl dX6_init_466 ?_
  refine z_bipush (pc := 467) hC (14 : Int32) rfl dX6_init_467 ?_
  refine zg_newa (pc := 469) (k := 0) (a := 41) (n := 14) (ty := 0) (fty := .int) hC rfl rfl (by decide) (fun _ _ => rfl) (hC.2.2.2.2.2.1.2 0 _ rfl).2 q235 (LVs.no (LVs.ge e86 (LVs.ge e83 (LVs.ge e80 (LVs.ge e77 (LVs.ge e4 (LVs.ge e1 lv0)))))) (by decide) (by decide)) (by decide) (Or.inl (by decide)) rfl (by decide +kernel) (by decide +kernel) (by decide +kernel) (by decide +kernel) (by decide +kernel) dX6_init_469 (fun Ge89 d90 e89 hC => ?_)
  refine zg_putS (pc := 471) (ty := (.array .int)) hC hnm (e89.old (e86.old (e83.old (e80.old (e77.old (e4.old (e1.old hl))))))) (e89.mem (by decide)) f_65_19 q1289 (by decide +kernel) (fun _ => rfl) (fun _ => rfl) dX6_init_471 (fun d91 => ?_)
  refine z_aload_n (pc := 474) hC 0 rfl 0 rfl dX6_init_474 ?_
  refine z_bipush (pc := 475) hC (7 : Int32) rfl dX6_init_475 ?_
  refine zg_newa (pc := 477) (k := 0) (a := 42) (n := 7) (ty := 2) (fty := .boolean) hC rfl rfl (by decide) (fun _ _ => rfl) (hC.2.2.2.2.2.1.2 2 _ rfl).2 q1367 (LVs.no (LVs.ge e89 (LVs.ge e86 (LVs.ge e83 (LVs.ge e80 (LVs.ge e77 (LVs.ge e4 (LVs.ge e1 lv0))))))) (by decide) (by decide)) (by decide) (Or.inl (by decide)) rfl (by decide +kernel) (by decide +kernel) (by decide +kernel) (by decide +kernel) (by decide +kernel) dX6_init_477 (fun Ge92 d93 e92 hC => ?_)
  refine zg_putS (pc := 479) (ty := (.array .boolean)) hC hnm (e92.old (e89.old (e86.old (e83.old (e80.old (e77.old (e4.old (e1.old hl)))))))) (e92.mem (by decide)) f_65_20 q1290 (by decide +kernel) (fun _ => rfl) (fun _ => rfl) dX6_init_479 (fun d94 => ?_)
  refine z_aload_n (pc := 482) hC 0 rfl 0 rfl dX6_init_482 ?_
  refine z_bipush (pc := 483) hC (48 : Int32) rfl dX6_init_483 ?_
  refine zg_newa (pc := 485) (k := 0) (a := 43) (n := 48) (ty := 0) (fty := .int) hC rfl rfl (by decide) (fun _ _ => rfl) (hC.2.2.2.2.2.1.2 0 _ rfl).2 q235 (LVs.no (LVs.ge e92 (LVs.ge e89 (LVs.ge e86 (LVs.ge e83 (LVs.ge e80 (LVs.ge e77 (LVs.ge e4 (LVs.ge e1 lv0)))))))) (by decide) (by decide)) (by decide) (Or.inl (by decide)) rfl (by decide +kernel) (by decide +kernel) (by decide +kernel) (by decide +kernel) (by decide +kernel) dX6_init_485 (fun Ge95 d96 e95 hC => ?_)
  refine zg_putS (pc := 487) (ty := (.array .int)) hC hnm (e95.old (e92.old (e89.old (e86.old (e83.old (e80.old (e77.old (e4.old (e1.old hl))))))))) (e95.mem (by decide)) f_65_21 q1291 (by decide +kernel) (fun _ => rfl) (fun _ => rfl) dX6_init_487 (fun d97 => ?_)
  refine z_aload_n (pc := 490) hC 0 rfl 0 rfl dX6_init_490 ?_
  refine z_sipush (pc := 491) hC (288 : Int32) rfl dX6_init_491 ?_
  refine zg_newa (pc := 494) (k := 0) (a := 44) (n := 288) (ty := 0) (fty := .int) hC rfl rfl (by decide) (fun _ _ => rfl) (hC.2.2.2.2.2.1.2 0 _ rfl).2 q235 (LVs.no (LVs.ge e95 (LVs.ge e92 (LVs.ge e89 (LVs.ge e86 (LVs.ge e83 (LVs.ge e80 (LVs.ge e77 (LVs.ge e4 (LVs.ge e1 lv0))))))))) (by decide) (by decide)) (by decide) (Or.inl (by decide)) rfl (by decide +kernel) (by decide +kernel) (by decide +kernel) (by decide +kernel) (by decide +kernel) dX6_init_494 (fun Ge98 d99 e98 hC => ?_)
  refine zg_putS (pc := 496) (ty := (.array .int)) hC hnm (e98.old (e95.old (e92.old (e89.old (e86.old (e83.old (e80.old (e77.old (e4.old (e1.old hl)))))))))) (e98.mem (by decide)) f_65_22 q1292 (by decide +kernel) (fun _ => rfl) (fun _ => rfl) dX6_init_496 (fun d100 => ?_)
  refine z_aload_n (pc := 499) hC 0 rfl 0 rfl dX6_init_499 ?_
  refine z_ldc (pc := 500) hC (48994 : Int32) q1234 dX6_init_500 ?_
  refine zg_newa (pc := 502) (k := 0) (a := 45) (n := 48994) (ty := 0) (fty := .int) hC rfl rfl (by decide) (fun _ _ => rfl) (hC.2.2.2.2.2.1.2 0 _ rfl).2 q235 (LVs.no (LVs.ge e98 (LVs.ge e95 (LVs.ge e92 (LVs.ge e89 (LVs.ge e86 (LVs.ge e83 (LVs.ge e80 (LVs.ge e77 (LVs.ge e4 (LVs.ge e1 lv0)))))))))) (by decide) (by decide)) (by decide) (Or.inl (by decide)) rfl (by decide +kernel) (by decide +kernel) (by decide +kernel) (by decide +kernel) (by decide +kernel) dX6_init_502 (fun Ge101 d102 e101 hC => ?_)
  refine zg_putS (pc := 504) (ty := (.array .int)) hC hnm (e101.old (e98.old (e95.old (e92.old (e89.old (e86.old (e83.old (e80.old (e77.old (e4.old (e1.old hl))))))))))) (e101.mem (by decide)) f_65_24 q1294 (by decide +kernel) (fun _ => rfl) (fun _ => rfl) dX6_init_504 (fun d103 => ?_)
  refine z_aload_n (pc := 507) hC 0 rfl 0 rfl dX6_init_507 ?_
  refine z_sipush (pc := 508) hC (192 : Int32) rfl dX6_init_508 ?_
  refine zg_newa (pc := 511) (k := 0) (a := 46) (n := 192) (ty := 0) (fty := .int) hC rfl rfl (by decide) (fun _ _ => rfl) (hC.2.2.2.2.2.1.2 0 _ rfl).2 q235 (LVs.no (LVs.ge e101 (LVs.ge e98 (LVs.ge e95 (LVs.ge e92 (LVs.ge e89 (LVs.ge e86 (LVs.ge e83 (LVs.ge e80 (LVs.ge e77 (LVs.ge e4 (LVs.ge e1 lv0))))))))))) (by decide) (by decide)) (by decide) (Or.inl (by decide)) rfl (by decide +kernel) (by decide +kernel) (by decide +kernel) (by decide +kernel) (by decide +kernel) dX6_init_511 (fun Ge104 d105 e104 hC => ?_)
  refine zg_putS (pc := 513) (ty := (.array .int)) hC hnm (e104.old (e101.old (e98.old (e95.old (e92.old (e89.old (e86.old (e83.old (e80.old (e77.old (e4.old (e1.old hl)))))))))))) (e104.mem (by decide)) f_65_27 q1297 (by decide +kernel) (fun _ => rfl) (fun _ => rfl) dX6_init_513 (fun d106 => ?_)
  refine z_aload_n (pc := 516) hC 0 rfl 0 rfl dX6_init_516 ?_
  refine z_bipush (pc := 517) hC (8 : Int32) rfl dX6_init_517 ?_
  refine zg_newa (pc := 519) (k := 0) (a := 47) (n := 8) (ty := 0) (fty := .int) hC rfl rfl (by decide) (fun _ _ => rfl) (hC.2.2.2.2.2.1.2 0 _ rfl).2 q235 (LVs.no (LVs.ge e104 (LVs.ge e101 (LVs.ge e98 (LVs.ge e95 (LVs.ge e92 (LVs.ge e89 (LVs.ge e86 (LVs.ge e83 (LVs.ge e80 (LVs.ge e77 (LVs.ge e4 (LVs.ge e1 lv0)))))))))))) (by decide) (by decide)) (by decide) (Or.inl (by decide)) rfl (by decide +kernel) (by decide +kernel) (by decide +kernel) (by decide +kernel) (by decide +kernel) dX6_init_519 (fun Ge107 d108 e107 hC => ?_)
  refine zg_putS (pc := 521) (ty := (.array .int)) hC hnm (e107.old (e104.old (e101.old (e98.old (e95.old (e92.old (e89.old (e86.old (e83.old (e80.old (e77.old (e4.old (e1.old hl))))))))))))) (e107.mem (by decide)) f_65_29 q1299 (by decide +kernel) (fun _ => rfl) (fun _ => rfl) dX6_init_521 (fun d109 => ?_)
  refine z_aload_n (pc := 524) hC 0 rfl 0 rfl dX6_init_524 ?_
  refine zn_rel (pc := 525) (k := 0) (a := 65) (b := 34) (ls1 := [(0, .inr (0, 34))]) (st1 := [.inr (0, 34)]) hC (e107.old (e104.old (e101.old (e98.old (e95.old (e92.old (e89.old (e86.old (e83.old (e80.old (e77.old (e4.old (e1.old hl))))))))))))) (LVs.no (LVs.ge e107 (LVs.ge e104 (LVs.ge e101 (LVs.ge e98 (LVs.ge e95 (LVs.ge e92 (LVs.ge e89 (LVs.ge e86 (LVs.ge e83 (LVs.ge e80 (LVs.ge e77 (LVs.ge e4 (LVs.ge e1 lv0))))))))))))) (by decide) (by decide)) (by decide) (by decide) rfl rfl (by decide) rfl rfl (by exact (List.forall_mem_cons.mpr ⟨⟨fun _ => rfl, (show ((65 : Nat)) ≠ 34 by decide)⟩, (fun _ h => absurd h List.not_mem_nil)⟩)) (by exact (List.forall_mem_cons.mpr ⟨⟨fun _ => rfl, (show ((65 : Nat)) ≠ 34 by decide)⟩, (fun _ h => absurd h List.not_mem_nil)⟩)) (fun Gg111 d110 g111 hC => ?_)
  refine z_cvVA (pc := 525) (st := []) hC y_X6_plain q1235 [] rfl ((g111.2.2.1 _ _).mpr (Or.inl ⟨rfl, rfl⟩)) rfl rfl (lft_m (c_X6_plain hC.2.2.2.2.2.2.1 (lmo_of ((g111.2.2.1 _ _).mpr (Or.inl ⟨rfl, rfl⟩)) ((g111.2.2.1 _ _).mpr (Or.inr ⟨(e107.old (e104.old (e101.old (e98.old (e95.old (e92.old (e89.old (e86.old (e83.old (e80.old (e77.old (e4.old (e1.mem (by decide)))))))))))))), fun h => absurd h.2 (by decide)⟩)) ((g111.2.2.1 _ _).mpr (Or.inr ⟨(e107.old (e104.old (e101.old (e98.old (e95.old (e92.old (e89.old (e86.old (e83.old (e80.old (e77.old (e4.mem (by decide))))))))))))), fun h => absurd h.2 (by decide)⟩)) ((g111.2.2.1 _ _).mpr (Or.inr ⟨(e107.old (e104.old (e101.old (e98.old (e95.old (e92.old (e89.old (e86.old (e83.old (e80.old (e77.mem (by decide)))))))))))), fun h => absurd h.2 (by decide)⟩)) ((g111.2.2.1 _ _).mpr (Or.inr ⟨(e107.old (e104.old (e101.old (e98.old (e95.old (e92.old (e89.old (e86.old (e83.old (e80.mem (by decide))))))))))), fun h => absurd h.2 (by decide)⟩)) ((g111.2.2.1 _ _).mpr (Or.inr ⟨(e107.old (e104.old (e101.old (e98.old (e95.old (e92.old (e89.old (e86.old (e83.mem (by decide)))))))))), fun h => absurd h.2 (by decide)⟩)) ((g111.2.2.1 _ _).mpr (Or.inr ⟨(e107.old (e104.old (e101.old (e98.old (e95.old (e92.old (e89.old (e86.mem (by decide))))))))), fun h => absurd h.2 (by decide)⟩)) ((g111.2.2.1 _ _).mpr (Or.inr ⟨(e107.old (e104.old (e101.old (e98.old (e95.old (e92.old (e89.mem (by decide)))))))), fun h => absurd h.2 (by decide)⟩)) ((g111.2.2.1 _ _).mpr (Or.inr ⟨(e107.old (e104.old (e101.old (e98.old (e95.old (e92.mem (by decide))))))), fun h => absurd h.2 (by decide)⟩)) ((g111.2.2.1 _ _).mpr (Or.inr ⟨(e107.old (e104.old (e101.old (e98.old (e95.mem (by decide)))))), fun h => absurd h.2 (by decide)⟩)) ((g111.2.2.1 _ _).mpr (Or.inr ⟨(e107.old (e104.old (e101.old (e98.mem (by decide))))), fun h => absurd h.2 (by decide)⟩)) ((g111.2.2.1 _ _).mpr (Or.inr ⟨(e107.old (e104.old (e101.mem (by decide)))), fun h => absurd h.2 (by decide)⟩)) ((g111.2.2.1 _ _).mpr (Or.inr ⟨(e107.old (e104.mem (by decide))), fun h => absurd h.2 (by decide)⟩)) ((g111.2.2.1 _ _).mpr (Or.inr ⟨(e107.mem (by decide)), fun h => absurd h.2 (by decide)⟩))))) rfl ⟨rfl, rfl, (Nat.le_of_ble_eq_true rfl), (Nat.le_of_ble_eq_true rfl)⟩ ⟨(by decide +kernel), (by decide +kernel)⟩ (Nat.le_of_ble_eq_true rfl) dX6_init_525 (fun _ d112 => ?_)
  refine z_aload_n (pc := 528) hC 0 rfl 0 rfl dX6_init_528 ?_
  refine z_cvVA (pc := 529) (st := []) hC y_X6_keepText q1239 [] rfl ((g111.2.2.1 _ _).mpr (Or.inl ⟨rfl, rfl⟩)) rfl rfl (lft_m (c_X6_keepText hC.2.2.2.2.2.2.1 (lmo_of ((g111.2.2.1 _ _).mpr (Or.inl ⟨rfl, rfl⟩)) ((g111.2.2.1 _ _).mpr (Or.inr ⟨(e107.old (e104.old (e101.old (e98.old (e95.old (e92.old (e89.old (e86.old (e83.old (e80.old (e77.old (e4.old (e1.mem (by decide)))))))))))))), fun h => absurd h.2 (by decide)⟩)) ((g111.2.2.1 _ _).mpr (Or.inr ⟨(e107.old (e104.old (e101.old (e98.old (e95.old (e92.old (e89.old (e86.old (e83.old (e80.old (e77.old (e4.mem (by decide))))))))))))), fun h => absurd h.2 (by decide)⟩)) ((g111.2.2.1 _ _).mpr (Or.inr ⟨(e107.old (e104.old (e101.old (e98.old (e95.old (e92.old (e89.old (e86.old (e83.old (e80.old (e77.mem (by decide)))))))))))), fun h => absurd h.2 (by decide)⟩)) ((g111.2.2.1 _ _).mpr (Or.inr ⟨(e107.old (e104.old (e101.old (e98.old (e95.old (e92.old (e89.old (e86.old (e83.old (e80.mem (by decide))))))))))), fun h => absurd h.2 (by decide)⟩)) ((g111.2.2.1 _ _).mpr (Or.inr ⟨(e107.old (e104.old (e101.old (e98.old (e95.old (e92.old (e89.old (e86.old (e83.mem (by decide)))))))))), fun h => absurd h.2 (by decide)⟩)) ((g111.2.2.1 _ _).mpr (Or.inr ⟨(e107.old (e104.old (e101.old (e98.old (e95.old (e92.old (e89.old (e86.mem (by decide))))))))), fun h => absurd h.2 (by decide)⟩)) ((g111.2.2.1 _ _).mpr (Or.inr ⟨(e107.old (e104.old (e101.old (e98.old (e95.old (e92.old (e89.mem (by decide)))))))), fun h => absurd h.2 (by decide)⟩)) ((g111.2.2.1 _ _).mpr (Or.inr ⟨(e107.old (e104.old (e101.old (e98.old (e95.old (e92.mem (by decide))))))), fun h => absurd h.2 (by decide)⟩)) ((g111.2.2.1 _ _).mpr (Or.inr ⟨(e107.old (e104.old (e101.old (e98.old (e95.mem (by decide)))))), fun h => absurd h.2 (by decide)⟩)) ((g111.2.2.1 _ _).mpr (Or.inr ⟨(e107.old (e104.old (e101.old (e98.mem (by decide))))), fun h => absurd h.2 (by decide)⟩)) ((g111.2.2.1 _ _).mpr (Or.inr ⟨(e107.old (e104.old (e101.mem (by decide)))), fun h => absurd h.2 (by decide)⟩)) ((g111.2.2.1 _ _).mpr (Or.inr ⟨(e107.old (e104.mem (by decide))), fun h => absurd h.2 (by decide)⟩)) ((g111.2.2.1 _ _).mpr (Or.inr ⟨(e107.mem (by decide)), fun h => absurd h.2 (by decide)⟩))))) rfl ⟨rfl, rfl, (Nat.le_of_ble_eq_true rfl), (Nat.le_of_ble_eq_true rfl)⟩ ⟨(by decide +kernel), (by decide +kernel)⟩ (Nat.le_of_ble_eq_true rfl) dX6_init_529 (fun _ d113 => ?_)
  exact zk_vret (pc := 532) (L := [(0, 47), (0, 46), (0, 45), (0, 44), (0, 43), (0, 42), (0, 41), (0, 40), (0, 39), (0, 38), (0, 37), (0, 36), (0, 35)]) hC (Or.inr (by decide)) ⟨_, ((((((((((((e1.trans e4).trans e77).trans e80).trans e83).trans e86).trans e89).trans e92).trans e95).trans e98).trans e101).trans e104).trans e107), g111⟩ dX6_init_532
theorem c_X6_init {G : Geo} (hG : GOk G) (hl : G.2.2.2 0 65) (lv0 : LVs G [(0, 65)])  {d : Mem} (l : Launch) (x1 : Mem) (h : Mo_init d = some ((), x1)) : MtC l yX6_init cX6_init 1 rm_X6_init G 0 65 34 [] d [(0, 47), (0, 46), (0, 45), (0, 44), (0, 43), (0, 42), (0, 41), (0, 40), (0, 39), (0, 38), (0, 37), (0, 36), (0, 35)] 13 50368 x1 :=
  mtC_of rfl rfl hG [] (Nat.le_of_ble_eq_true rfl) rfl (fun C hC hnm => r_Mo_init hC hnm hl lv0 d) h
-- FrameHeirs.<init>
abbrev rm_X5_init : Room := { frames := 3, cells := 87, slots := 10676, locals := 64 }
theorem dX5_init_0 : decode cX5_init 0 = .ok (.aload_n 0, 1) := by decide +kernel
theorem dX5_init_1 : decode cX5_init 1 = .ok (.invokespecial 1, 3) := by decide +kernel
theorem dX5_init_4 : decode cX5_init 4 = .ok (.aload_n 0, 1) := by decide +kernel
theorem dX5_init_5 : decode cX5_init 5 = .ok (.sipush 700, 3) := by decide +kernel
theorem dX5_init_8 : decode cX5_init 8 = .ok (.newarray .int, 2) := by decide +kernel
theorem dX5_init_10 : decode cX5_init 10 = .ok (.putfield 9, 3) := by decide +kernel
theorem dX5_init_13 : decode cX5_init 13 = .ok (.aload_n 0, 1) := by decide +kernel
theorem dX5_init_14 : decode cX5_init 14 = .ok (.iconst 0, 1) := by decide +kernel
theorem dX5_init_15 : decode cX5_init 15 = .ok (.putfield 13, 3) := by decide +kernel
theorem dX5_init_18 : decode cX5_init 18 = .ok (.aload_n 0, 1) := by decide +kernel
theorem dX5_init_19 : decode cX5_init 19 = .ok (.new 17, 3) := by decide +kernel
theorem dX5_init_22 : decode cX5_init 22 = .ok (.dup, 1) := by decide +kernel
theorem dX5_init_23 : decode cX5_init 23 = .ok (.invokespecial 19, 3) := by decide +kernel
theorem dX5_init_26 : decode cX5_init 26 = .ok (.putfield 20, 3) := by decide +kernel
theorem dX5_init_29 : decode cX5_init 29 = .ok (.aload_n 0, 1) := by decide +kernel
theorem dX5_init_30 : decode cX5_init 30 = .ok (.new 24, 3) := by decide +kernel
theorem dX5_init_33 : decode cX5_init 33 = .ok (.dup, 1) := by decide +kernel
theorem dX5_init_34 : decode cX5_init 34 = .ok (.aload_n 0, 1) := by decide +kernel
theorem dX5_init_35 : decode cX5_init 35 = .ok (.getfield 9, 3) := by decide +kernel
theorem dX5_init_38 : decode cX5_init 38 = .ok (.aload_n 0, 1) := by decide +kernel
theorem dX5_init_39 : decode cX5_init 39 = .ok (.getfield 20, 3) := by decide +kernel
theorem dX5_init_42 : decode cX5_init 42 = .ok (.invokespecial 26, 3) := by decide +kernel
theorem dX5_init_45 : decode cX5_init 45 = .ok (.putfield 29, 3) := by decide +kernel
theorem dX5_init_48 : decode cX5_init 48 = .ok (.aload_n 0, 1) := by decide +kernel
theorem dX5_init_49 : decode cX5_init 49 = .ok (.new 33, 3) := by decide +kernel
theorem dX5_init_52 : decode cX5_init 52 = .ok (.dup, 1) := by decide +kernel
theorem dX5_init_53 : decode cX5_init 53 = .ok (.new 17, 3) := by decide +kernel
theorem dX5_init_56 : decode cX5_init 56 = .ok (.dup, 1) := by decide +kernel
theorem dX5_init_57 : decode cX5_init 57 = .ok (.invokespecial 19, 3) := by decide +kernel
theorem dX5_init_60 : decode cX5_init 60 = .ok (.invokespecial 35, 3) := by decide +kernel
theorem dX5_init_63 : decode cX5_init 63 = .ok (.putfield 38, 3) := by decide +kernel
theorem dX5_init_66 : decode cX5_init 66 = .ok (.aload_n 0, 1) := by decide +kernel
theorem dX5_init_67 : decode cX5_init 67 = .ok (.new 33, 3) := by decide +kernel
theorem dX5_init_70 : decode cX5_init 70 = .ok (.dup, 1) := by decide +kernel
theorem dX5_init_71 : decode cX5_init 71 = .ok (.aload_n 0, 1) := by decide +kernel
theorem dX5_init_72 : decode cX5_init 72 = .ok (.getfield 38, 3) := by decide +kernel
theorem dX5_init_75 : decode cX5_init 75 = .ok (.getfield 42, 3) := by decide +kernel
theorem dX5_init_78 : decode cX5_init 78 = .ok (.invokespecial 35, 3) := by decide +kernel
theorem dX5_init_81 : decode cX5_init 81 = .ok (.putfield 45, 3) := by decide +kernel
theorem dX5_init_84 : decode cX5_init 84 = .ok (.aload_n 0, 1) := by decide +kernel
theorem dX5_init_85 : decode cX5_init 85 = .ok (.new 33, 3) := by decide +kernel
theorem dX5_init_88 : decode cX5_init 88 = .ok (.dup, 1) := by decide +kernel
theorem dX5_init_89 : decode cX5_init 89 = .ok (.aload_n 0, 1) := by decide +kernel
theorem dX5_init_90 : decode cX5_init 90 = .ok (.getfield 38, 3) := by decide +kernel
theorem dX5_init_93 : decode cX5_init 93 = .ok (.getfield 42, 3) := by decide +kernel
theorem dX5_init_96 : decode cX5_init 96 = .ok (.invokespecial 35, 3) := by decide +kernel
theorem dX5_init_99 : decode cX5_init 99 = .ok (.putfield 48, 3) := by decide +kernel
theorem dX5_init_102 : decode cX5_init 102 = .ok (.aload_n 0, 1) := by decide +kernel
theorem dX5_init_103 : decode cX5_init 103 = .ok (.bipush 20, 2) := by decide +kernel
theorem dX5_init_105 : decode cX5_init 105 = .ok (.anewarray 33, 3) := by decide +kernel
theorem dX5_init_108 : decode cX5_init 108 = .ok (.putfield 51, 3) := by decide +kernel
theorem dX5_init_111 : decode cX5_init 111 = .ok (.aload_n 0, 1) := by decide +kernel
theorem dX5_init_112 : decode cX5_init 112 = .ok (.iconst 0, 1) := by decide +kernel
theorem dX5_init_113 : decode cX5_init 113 = .ok (.putfield 55, 3) := by decide +kernel
theorem dX5_init_116 : decode cX5_init 116 = .ok (.aload_n 0, 1) := by decide +kernel
theorem dX5_init_117 : decode cX5_init 117 = .ok (.iconst 0, 1) := by decide +kernel
theorem dX5_init_118 : decode cX5_init 118 = .ok (.putfield 58, 3) := by decide +kernel
theorem dX5_init_121 : decode cX5_init 121 = .ok (.return_, 1) := by decide +kernel
def Fh_init (d : Mem) : Option (Unit × Mem) :=
  bnd (wrAM d 0 1 (fun _ => 0)) fun d2 =>
  bnd (wrM d2 0 64 0 1) fun d3 =>
  bnd (wrM d3 0 64 1 (0 : Int32)) fun d4 =>
  bnd (wrAM d4 0 60 (rini cs60)) fun d6 =>
  bd (Sc_init 0 d6) fun _ d9 =>
  bnd (wrM d9 0 64 2 (nI 0)) fun d10 =>
  bnd (wrAM d10 0 63 (rini cs63)) fun d12 =>
  if d12 0 64 0 = 0 then none else
  gref (d12 0 64 2) fun u13 =>
  bd (Re_init 0 u13 d12) fun _ d16 =>
  bnd (wrM d16 0 64 3 1) fun d17 =>
  bnd (wrAM d17 2 61 (rini cs61)) fun d19 =>
  bnd (wrAM d19 1 60 (rini cs60)) fun d21 =>
  bd (Sc_init 1 d21) fun _ d24 =>
  bd (Wo_init 2 1 d24) fun _ d27 =>
  bnd (wrM d27 0 64 4 (nI 2)) fun d28 =>
  bnd (wrAM d28 3 61 (rini cs61)) fun d30 =>
  gref (d30 0 64 4) fun u31 =>
  gref (d30 u31 10 0) fun u32 =>
  bd (Wo_init 3 u32 d30) fun _ d35 =>
  bnd (wrM d35 0 64 5 (nI 3)) fun d36 =>
  bnd (wrAM d36 4 61 (rini cs61)) fun d38 =>
  gref (d38 0 64 4) fun u39 =>
  gref (d38 u39 10 0) fun u40 =>
  bd (Wo_init 4 u40 d38) fun _ d43 =>
  bnd (wrM d43 0 64 6 (nI 4)) fun d44 =>
  bnd (wrAM d44 0 3 (fun _ => -1)) fun d46 =>
  bnd (wrM d46 0 64 7 1) fun d47 =>
  bnd (wrM d47 0 64 8 (0 : Int32)) fun d48 =>
  bnd (wrM d48 0 64 9 (0 : Int32)) fun d49 =>
  if cdone cs0 (d49 0 64) then
  bnd (wrAM d49 0 0 (d49 0 64)) fun d50 =>
  some ((), d50)
  else none
theorem yi_X5_init : YI yX5_init cX5_init 1 0 := ⟨q162, rfl, q163, q143, by decide +kernel, by decide +kernel, by decide +kernel, by decide +kernel⟩
theorem r_Fh_init {C : Cxt} {G : Geo} (hC : Cx C cX5_init 1 "FrameHeirs" none rm_X5_init G) (hnm : C.2.2.2.2.2.2.2.2.1.name = "<init>") (hao : va_AO RX4 C.2.2.2.2.1) (hl : G.2.2.2 0 64) (lv0 : LVs G [(0, 64)])  (d : Mem) : Rg C 1 G 0 0 gm (QK C G 0 64 0 [(0, 3), (4, 10), (4, 16), (4, 15), (4, 14), (4, 13), (4, 12), (4, 11), (4, 17), (4, 33), (4, 32), (4, 31), (4, 30), (4, 29), (4, 28), (4, 27), (4, 26), (4, 25), (4, 24), (4, 23), (4, 22), (4, 21), (4, 20), (4, 19), (4, 18), (3, 10), (3, 16), (3, 15), (3, 14), (3, 13), (3, 12), (3, 11), (3, 17), (3, 33), (3, 32), (3, 31), (3, 30), (3, 29), (3, 28), (3, 27), (3, 26), (3, 25), (3, 24), (3, 23), (3, 22), (3, 21), (3, 20), (3, 19), (3, 18), (2, 10), (2, 16), (2, 15), (2, 14), (2, 13), (2, 12), (2, 11), (2, 17), (2, 33), (2, 32), (2, 31), (2, 30), (2, 29), (2, 28), (2, 27), (2, 26), (2, 25), (2, 24), (2, 23), (2, 22), (2, 21), (2, 20), (2, 19), (2, 18), (1, 4), (1, 9), (1, 8), (1, 7), (1, 6), (1, 5), (0, 2), (0, 4), (0, 9), (0, 8), (0, 7), (0, 6), (0, 5), (0, 1)] 87 10676) 0 [(0, .inr (0, 64))] [] d (Fh_init d) := by
  unfold Fh_init
  refine z_aload_n (pc := 0) hC 0 rfl 0 rfl dX5_init_0 ?_
  refine z_objI (pc := 1) hC q164 q165 q166 (Nat.le_of_ble_eq_true rfl) (Nat.le_of_ble_eq_true rfl) dX5_init_1 ?_
  refine z_aload_n (pc := 4) hC 0 rfl 0 rfl dX5_init_4 ?_
  refine z_sipush (pc := 5) hC (700 : Int32) rfl dX5_init_5 ?_
  refine zg_newa (pc := 8) (k := 0) (a := 1) (n := 700) (ty := 0) (fty := .int) hC rfl rfl (by decide) (fun _ _ => rfl) (hC.2.2.2.2.2.1.2 0 _ rfl).2 q235 (LVs.no lv0 (by decide) (by decide)) (by decide) (Or.inl (by decide)) rfl (by decide +kernel) (by decide +kernel) (by decide +kernel) (by decide +kernel) (by decide +kernel) dX5_init_8 (fun Ge1 d2 e1 hC => ?_)
  refine zg_putS (pc := 10) (ty := (.array .int)) hC hnm (e1.old hl) (e1.mem (by decide)) f_64_0 q431 (by decide +kernel) (fun _ => rfl) (fun _ => rfl) dX5_init_10 (fun d3 => ?_)
  refine z_aload_n (pc := 13) hC 0 rfl 0 rfl dX5_init_13 ?_
  refine z_iconst (pc := 14) hC (0 : Int32) rfl dX5_init_14 ?_
  refine zg_puti (pc := 15) hC (e1.old hl) f_64_1 q432 dX5_init_15 (fun d4 => ?_)
  refine z_aload_n (pc := 18) hC 0 rfl 0 rfl dX5_init_18 ?_
  refine zg_new (pc := 19) (k := 0) (a := 60) (ty0 := tyX3) hC rfl rfl inwX3 tyX3_ok q167 q168 q144 df_60 no1_60 (LVs.no (LVs.ge e1 lv0) (by decide) (by decide)) (by decide) (Or.inr (by decide)) rfl (by decide +kernel) (by decide +kernel) dX5_init_19 (fun Ge5 d6 e5 hC => ?_)
  refine z_dup (pc := 22) hC rfl dX5_init_22 ?_
  refine zk_init (pc := 23) (b := 4) (st := [.inr (0, 60), .inr (0, 64)]) (ls1 := [(0, .inr (0, 64))]) (st1 := [.inr (0, 4), .inr (0, 64)]) (L := [(0, 9), (0, 8), (0, 7), (0, 6), (0, 5)]) hC yi_X3_init (Or.inr ⟨_, fun U h => h.1⟩) [] rfl (c_X3_init hC.2.2.2.2.2.2.1 (k := 0) (e5.mem (by decide)) (fun b hb => LVs.no (LVs.ge e5 (LVs.ge e1 lv0)) ((show ∀ b ∈ [4, 5, 6, 7, 8, 9], (0, b) ∉ [(0, 60), (0, 1), (0, 64)] ∧ ¬ (48 ≤ b ∧ b < 56) by decide) b hb).1 ((show ∀ b ∈ [4, 5, 6, 7, 8, 9], (0, b) ∉ [(0, 60), (0, 1), (0, 64)] ∧ ¬ (48 ≤ b ∧ b < 56) by decide) b hb).2) (by decide)) rfl (by decide) (by decide) (by decide) (by exact (List.forall_mem_cons.mpr ⟨⟨(e5.old (e1.old hl)), ⟨fun h => absurd h (show ¬ ((64 : Nat)) = 60 by decide), (show ((64 : Nat)) ≠ 4 by decide)⟩⟩, (fun _ h => absurd h List.not_mem_nil)⟩)) (by exact (List.forall_mem_cons.mpr ⟨⟨(e5.mem (by decide)), ⟨fun _ => rfl, (show ((60 : Nat)) ≠ 4 by decide)⟩⟩, (List.forall_mem_cons.mpr ⟨⟨(e5.old (e1.old hl)), ⟨fun h => absurd h (show ¬ ((64 : Nat)) = 60 by decide), (show ((64 : Nat)) ≠ 4 by decide)⟩⟩, (fun _ h => absurd h List.not_mem_nil)⟩)⟩)) rfl rfl ⟨rfl, rfl, (Nat.le_of_ble_eq_true rfl), (Nat.le_of_ble_eq_true rfl)⟩ ⟨(by decide +kernel), (by decide +kernel)⟩ (Nat.le_of_ble_eq_true rfl) dX5_init_23 (fun Gh7 d9 h7 hC => ?_)
  have e8 : GE _ _ _ [(0, 4), (0, 9), (0, 8), (0, 7), (0, 6), (0, 5)] := GEL.ge e5 h7 (by decide)
  refine zg_putr (pc := 26) (cn := "FrameHeirs$Script") hC (e8.old (e1.old hl)) (e8.mem (by decide)) f_64_2 q433 (by decide +kernel) dX5_init_26 (fun d10 => ?_)
  refine z_aload_n (pc := 29) hC 0 rfl 0 rfl dX5_init_29 ?_
  refine zg_new (pc := 30) (k := 0) (a := 63) (ty0 := tyX2) hC rfl rfl inwX2 tyX2_ok q236 q237 q145 df_63 no1_63 (LVs.no (LVs.ge e8 (LVs.ge e1 lv0)) (by decide) (by decide)) (by decide) (Or.inr (by decide)) rfl (by decide +kernel) (by decide +kernel) dX5_init_30 (fun Ge11 d12 e11 hC => ?_)
  refine z_dup (pc := 33) hC rfl dX5_init_33 ?_
  refine z_aload_n (pc := 34) hC 0 rfl 0 rfl dX5_init_34 ?_
  refine zg_getraw (pc := 35) hC (e11.old (e8.old (e1.old hl))) f_64_0 q431 dX5_init_35 ?_
  refine z_aload_n (pc := 38) hC 0 rfl 0 rfl dX5_init_38 ?_
  refine zg_getr (pc := 39) hC (e11.old (e8.old (e1.old hl))) f_64_2 q433 dX5_init_39 (fun u13 hu13 => ?_)
  refine zk_init (pc := 42) (b := 2) (st := [.inr (0, 63), .inr (0, 64)]) (ls1 := [(0, .inr (0, 64))]) (st1 := [.inr (0, 2), .inr (0, 64)]) (L := []) hC yi_X2_init (Or.inl q238) [.inr (0, 1), .inr (u13, 4)] rfl (c_X2_init hC.2.2.2.2.2.2.1 (k := 0) (e11.mem (by decide)) (fun b hb => LVs.no (LVs.ge e11 (LVs.ge e8 (LVs.ge e1 lv0))) ((show ∀ b ∈ [2], (0, b) ∉ [(0, 63), (0, 4), (0, 9), (0, 8), (0, 7), (0, 6), (0, 5), (0, 1), (0, 64)] ∧ ¬ (48 ≤ b ∧ b < 56) by decide) b hb).1 ((show ∀ b ∈ [2], (0, b) ∉ [(0, 63), (0, 4), (0, 9), (0, 8), (0, 7), (0, 6), (0, 5), (0, 1), (0, 64)] ∧ ¬ (48 ≤ b ∧ b < 56) by decide) b hb).2) (by decide) (e11.old (e8.old (e1.mem (by decide)))) hu13) rfl (by decide) (by decide) (by decide) (by exact (List.forall_mem_cons.mpr ⟨⟨(e11.old (e8.old (e1.old hl))), ⟨fun h => absurd h (show ¬ ((64 : Nat)) = 63 by decide), (show ((64 : Nat)) ≠ 2 by decide)⟩⟩, (fun _ h => absurd h List.not_mem_nil)⟩)) (by exact (List.forall_mem_cons.mpr ⟨⟨(e11.mem (by decide)), ⟨fun _ => rfl, (show ((63 : Nat)) ≠ 2 by decide)⟩⟩, (List.forall_mem_cons.mpr ⟨⟨(e11.old (e8.old (e1.old hl))), ⟨fun h => absurd h (show ¬ ((64 : Nat)) = 63 by decide), (show ((64 : Nat)) ≠ 2 by decide)⟩⟩, (fun _ h => absurd h List.not_mem_nil)⟩)⟩)) rfl rfl ⟨rfl, rfl, (Nat.le_of_ble_eq_true rfl), (Nat.le_of_ble_eq_true rfl)⟩ ⟨(by decide +kernel), (by decide +kernel)⟩ (Nat.le_of_ble_eq_true rfl) dX5_init_42 (fun Gh14 d16 h14 hC => ?_)
  have e15 : GE _ _ _ [(0, 2)] := GEL.ge e11 h14 (by decide)
  refine zg_putS (pc := 45) (ty := (.object "FrameHeirs$Reader")) hC hnm (e15.old (e8.old (e1.old hl))) (e15.mem (by decide)) f_64_3 q434 (by decide +kernel) (fun _ => rfl) (fun _ => rfl) dX5_init_45 (fun d17 => ?_)
  refine z_aload_n (pc := 48) hC 0 rfl 0 rfl dX5_init_48 ?_
  refine zg_new (pc := 49) (k := 2) (a := 61) (ty0 := tyX4) hC rfl rfl inwX4 tyX4_ok q278 q279 q146 df_61 no1_61 (LVs.no (LVs.ge e15 (LVs.ge e8 (LVs.ge e1 lv0))) (by decide) (by decide)) (by decide) (Or.inr (by decide)) rfl (by decide +kernel) (by decide +kernel) dX5_init_49 (fun Ge18 d19 e18 hC => ?_)
  refine z_dup (pc := 52) hC rfl dX5_init_52 ?_
  refine zg_new (pc := 53) (k := 1) (a := 60) (ty0 := tyX3) hC rfl rfl inwX3 tyX3_ok q167 q168 q144 df_60 no1_60 (LVs.no (LVs.ge e18 (LVs.ge e15 (LVs.ge e8 (LVs.ge e1 lv0)))) (by decide) (by decide)) (by decide) (Or.inr (by decide)) rfl (by decide +kernel) (by decide +kernel) dX5_init_53 (fun Ge20 d21 e20 hC => ?_)
  refine z_dup (pc := 56) hC rfl dX5_init_56 ?_
  refine zk_init (pc := 57) (b := 4) (st := [.inr (1, 60), .inr (2, 61), .inr (2, 61), .inr (0, 64)]) (ls1 := [(0, .inr (0, 64))]) (st1 := [.inr (1, 4), .inr (2, 61), .inr (2, 61), .inr (0, 64)]) (L := [(1, 9), (1, 8), (1, 7), (1, 6), (1, 5)]) hC yi_X3_init (Or.inr ⟨_, fun U h => h.1⟩) [] rfl (c_X3_init hC.2.2.2.2.2.2.1 (k := 1) (e20.mem (by decide)) (fun b hb => LVs.no (LVs.ge e20 (LVs.ge e18 (LVs.ge e15 (LVs.ge e8 (LVs.ge e1 lv0))))) ((show ∀ b ∈ [4, 5, 6, 7, 8, 9], (1, b) ∉ [(1, 60), (2, 61), (0, 2), (0, 4), (0, 9), (0, 8), (0, 7), (0, 6), (0, 5), (0, 1), (0, 64)] ∧ ¬ (48 ≤ b ∧ b < 56) by decide) b hb).1 ((show ∀ b ∈ [4, 5, 6, 7, 8, 9], (1, b) ∉ [(1, 60), (2, 61), (0, 2), (0, 4), (0, 9), (0, 8), (0, 7), (0, 6), (0, 5), (0, 1), (0, 64)] ∧ ¬ (48 ≤ b ∧ b < 56) by decide) b hb).2) (by decide)) rfl (by decide) (by decide) (by decide) (by exact (List.forall_mem_cons.mpr ⟨⟨(e20.old (e18.old (e15.old (e8.old (e1.old hl))))), ⟨fun h => absurd h (show ¬ ((64 : Nat)) = 60 by decide), (show ((64 : Nat)) ≠ 4 by decide)⟩⟩, (fun _ h => absurd h List.not_mem_nil)⟩)) (by exact (List.forall_mem_cons.mpr ⟨⟨(e20.mem (by decide)), ⟨fun _ => rfl, (show ((60 : Nat)) ≠ 4 by decide)⟩⟩, (List.forall_mem_cons.mpr ⟨⟨(e20.old (e18.mem (by decide))), ⟨fun h => absurd h (show ¬ ((61 : Nat)) = 60 by decide), (show ((61 : Nat)) ≠ 4 by decide)⟩⟩, (List.forall_mem_cons.mpr ⟨⟨(e20.old (e18.mem (by decide))), ⟨fun h => absurd h (show ¬ ((61 : Nat)) = 60 by decide), (show ((61 : Nat)) ≠ 4 by decide)⟩⟩, (List.forall_mem_cons.mpr ⟨⟨(e20.old (e18.old (e15.old (e8.old (e1.old hl))))), ⟨fun h => absurd h (show ¬ ((64 : Nat)) = 60 by decide), (show ((64 : Nat)) ≠ 4 by decide)⟩⟩, (fun _ h => absurd h List.not_mem_nil)⟩)⟩)⟩)⟩)) rfl rfl ⟨rfl, rfl, (Nat.le_of_ble_eq_true rfl), (Nat.le_of_ble_eq_true rfl)⟩ ⟨(by decide +kernel), (by decide +kernel)⟩ (Nat.le_of_ble_eq_true rfl) dX5_init_57 (fun Gh22 d24 h22 hC => ?_)
  have e23 : GE _ _ _ [(1, 4), (1, 9), (1, 8), (1, 7), (1, 6), (1, 5)] := GEL.ge e20 h22 (by decide)
  refine zk_init (pc := 60) (b := 10) (st := [.inr (2, 61), .inr (0, 64)]) (ls1 := [(0, .inr (0, 64))]) (st1 := [.inr (2, 10), .inr (0, 64)]) (L := [(2, 16), (2, 15), (2, 14), (2, 13), (2, 12), (2, 11), (2, 17), (2, 33), (2, 32), (2, 31), (2, 30), (2, 29), (2, 28), (2, 27), (2, 26), (2, 25), (2, 24), (2, 23), (2, 22), (2, 21), (2, 20), (2, 19), (2, 18)]) hC yi_X4_init (Or.inl q280) [.inr (1, 4)] rfl (c_X4_init hC.2.2.2.2.2.2.1 (k := 2) (e23.old (e18.mem (by decide))) (fun b hb => LVs.no (LVs.ge e23 (LVs.ge e18 (LVs.ge e15 (LVs.ge e8 (LVs.ge e1 lv0))))) ((show ∀ b ∈ [10, 11, 12, 13, 14, 15, 16, 17, 18, 19, 20, 21, 22, 23, 24, 25, 26, 27, 28, 29, 30, 31, 32, 33, 62], (2, b) ∉ [(1, 4), (1, 9), (1, 8), (1, 7), (1, 6), (1, 5), (2, 61), (0, 2), (0, 4), (0, 9), (0, 8), (0, 7), (0, 6), (0, 5), (0, 1), (0, 64)] ∧ ¬ (48 ≤ b ∧ b < 56) by decide) b hb).1 ((show ∀ b ∈ [10, 11, 12, 13, 14, 15, 16, 17, 18, 19, 20, 21, 22, 23, 24, 25, 26, 27, 28, 29, 30, 31, 32, 33, 62], (2, b) ∉ [(1, 4), (1, 9), (1, 8), (1, 7), (1, 6), (1, 5), (2, 61), (0, 2), (0, 4), (0, 9), (0, 8), (0, 7), (0, 6), (0, 5), (0, 1), (0, 64)] ∧ ¬ (48 ≤ b ∧ b < 56) by decide) b hb).2) (by decide) (e23.mem (by decide))) rfl (by decide) (by decide) (by decide) (by exact (List.forall_mem_cons.mpr ⟨⟨(e23.old (e18.old (e15.old (e8.old (e1.old hl))))), ⟨fun h => absurd h (show ¬ ((64 : Nat)) = 61 by decide), (show ((64 : Nat)) ≠ 10 by decide)⟩⟩, (fun _ h => absurd h List.not_mem_nil)⟩)) (by exact (List.forall_mem_cons.mpr ⟨⟨(e23.old (e18.mem (by decide))), ⟨fun _ => rfl, (show ((61 : Nat)) ≠ 10 by decide)⟩⟩, (List.forall_mem_cons.mpr ⟨⟨(e23.old (e18.old (e15.old (e8.old (e1.old hl))))), ⟨fun h => absurd h (show ¬ ((64 : Nat)) = 61 by decide), (show ((64 : Nat)) ≠ 10 by decide)⟩⟩, (fun _ h => absurd h List.not_mem_nil)⟩)⟩)) rfl rfl ⟨rfl, rfl, (Nat.le_of_ble_eq_true rfl), (Nat.le_of_ble_eq_true rfl)⟩ ⟨(by decide +kernel), (by decide +kernel)⟩ (Nat.le_of_ble_eq_true rfl) dX5_init_60 (fun Gh25 d27 h25 hC => ?_)
  have e26 : GE _ _ _ [(2, 10), (2, 16), (2, 15), (2, 14), (2, 13), (2, 12), (2, 11), (2, 17), (2, 33), (2, 32), (2, 31), (2, 30), (2, 29), (2, 28), (2, 27), (2, 26), (2, 25), (2, 24), (2, 23), (2, 22), (2, 21), (2, 20), (2, 19), (2, 18), (1, 4), (1, 9), (1, 8), (1, 7), (1, 6), (1, 5)] := GEL.ge e18 (GEL.pre e23 h25) (by decide)
  refine zg_putr (pc := 63) (cn := "FrameHeirs$World") hC (e26.old (e15.old (e8.old (e1.old hl)))) (e26.mem (by decide)) f_64_4 q435 (by decide +kernel) dX5_init_63 (fun d28 => ?_)
  refine z_aload_n (pc := 66) hC 0 rfl 0 rfl dX5_init_66 ?_
  refine zg_new (pc := 67) (k := 3) (a := 61) (ty0 := tyX4) hC rfl rfl inwX4 tyX4_ok q278 q279 q146 df_61 no1_61 (LVs.no (LVs.ge e26 (LVs.ge e15 (LVs.ge e8 (LVs.ge e1 lv0)))) (by decide) (by decide)) (by decide) (Or.inr (by decide)) rfl (by decide +kernel) (by decide +kernel) dX5_init_67 (fun Ge29 d30 e29 hC => ?_)
  refine z_dup (pc := 70) hC rfl dX5_init_70 ?_
  refine z_aload_n (pc := 71) hC 0 rfl 0 rfl dX5_init_71 ?_
  refine zg_getr (pc := 72) hC (e29.old (e26.old (e15.old (e8.old (e1.old hl))))) f_64_4 q435 dX5_init_72 (fun u31 hu31 => ?_)
  refine zg_getr (pc := 75) hC hu31 f_10_0 q376 dX5_init_75 (fun u32 hu32 => ?_)
  refine zk_init (pc := 78) (b := 10) (st := [.inr (3, 61), .inr (0, 64)]) (ls1 := [(0, .inr (0, 64))]) (st1 := [.inr (3, 10), .inr (0, 64)]) (L := [(3, 16), (3, 15), (3, 14), (3, 13), (3, 12), (3, 11), (3, 17), (3, 33), (3, 32), (3, 31), (3, 30), (3, 29), (3, 28), (3, 27), (3, 26), (3, 25), (3, 24), (3, 23), (3, 22), (3, 21), (3, 20), (3, 19), (3, 18)]) hC yi_X4_init (Or.inl q280) [.inr (u32, 4)] rfl (c_X4_init hC.2.2.2.2.2.2.1 (k := 3) (e29.mem (by decide)) (fun b hb => LVs.no (LVs.ge e29 (LVs.ge e26 (LVs.ge e15 (LVs.ge e8 (LVs.ge e1 lv0))))) ((show ∀ b ∈ [10, 11, 12, 13, 14, 15, 16, 17, 18, 19, 20, 21, 22, 23, 24, 25, 26, 27, 28, 29, 30, 31, 32, 33, 62], (3, b) ∉ [(3, 61), (2, 10), (2, 16), (2, 15), (2, 14), (2, 13), (2, 12), (2, 11), (2, 17), (2, 33), (2, 32), (2, 31), (2, 30), (2, 29), (2, 28), (2, 27), (2, 26), (2, 25), (2, 24), (2, 23), (2, 22), (2, 21), (2, 20), (2, 19), (2, 18), (1, 4), (1, 9), (1, 8), (1, 7), (1, 6), (1, 5), (0, 2), (0, 4), (0, 9), (0, 8), (0, 7), (0, 6), (0, 5), (0, 1), (0, 64)] ∧ ¬ (48 ≤ b ∧ b < 56) by decide) b hb).1 ((show ∀ b ∈ [10, 11, 12, 13, 14, 15, 16, 17, 18, 19, 20, 21, 22, 23, 24, 25, 26, 27, 28, 29, 30, 31, 32, 33, 62], (3, b) ∉ [(3, 61), (2, 10), (2, 16), (2, 15), (2, 14), (2, 13), (2, 12), (2, 11), (2, 17), (2, 33), (2, 32), (2, 31), (2, 30), (2, 29), (2, 28), (2, 27), (2, 26), (2, 25), (2, 24), (2, 23), (2, 22), (2, 21), (2, 20), (2, 19), (2, 18), (1, 4), (1, 9), (1, 8), (1, 7), (1, 6), (1, 5), (0, 2), (0, 4), (0, 9), (0, 8), (0, 7), (0, 6), (0, 5), (0, 1), (0, 64)] ∧ ¬ (48 ≤ b ∧ b < 56) by decide) b hb).2) (by decide) hu32) rfl (by decide) (by decide) (by decide) (by exact (List.forall_mem_cons.mpr ⟨⟨(e29.old (e26.old (e15.old (e8.old (e1.old hl))))), ⟨fun h => absurd h (show ¬ ((64 : Nat)) = 61 by decide), (show ((64 : Nat)) ≠ 10 by decide)⟩⟩, (fun _ h => absurd h List.not_mem_nil)⟩)) (by exact (List.forall_mem_cons.mpr ⟨⟨(e29.mem (by decide)), ⟨fun _ => rfl, (show ((61 : Nat)) ≠ 10 by decide)⟩⟩, (List.forall_mem_cons.mpr ⟨⟨(e29.old (e26.old (e15.old (e8.old (e1.old hl))))), ⟨fun h => absurd h (show ¬ ((64 : Nat)) = 61 by decide), (show ((64 : Nat)) ≠ 10 by decide)⟩⟩, (fun _ h => absurd h List.not_mem_nil)⟩)⟩)) rfl rfl ⟨rfl, rfl, (Nat.le_of_ble_eq_true rfl), (Nat.le_of_ble_eq_true rfl)⟩ ⟨(by decide +kernel), (by decide +kernel)⟩ (Nat.le_of_ble_eq_true rfl) dX5_init_78 (fun Gh33 d35 h33 hC => ?_)
  have e34 : GE _ _ _ [(3, 10), (3, 16), (3, 15), (3, 14), (3, 13), (3, 12), (3, 11), (3, 17), (3, 33), (3, 32), (3, 31), (3, 30), (3, 29), (3, 28), (3, 27), (3, 26), (3, 25), (3, 24), (3, 23), (3, 22), (3, 21), (3, 20), (3, 19), (3, 18)] := GEL.ge e29 h33 (by decide)
  refine zg_putr (pc := 81) (cn := "FrameHeirs$World") hC (e34.old (e26.old (e15.old (e8.old (e1.old hl))))) (e34.mem (by decide)) f_64_5 q436 (by decide +kernel) dX5_init_81 (fun d36 => ?_)
  refine z_aload_n (pc := 84) hC 0 rfl 0 rfl dX5_init_84 ?_
  refine zg_new (pc := 85) (k := 4) (a := 61) (ty0 := tyX4) hC rfl rfl inwX4 tyX4_ok q278 q279 q146 df_61 no1_61 (LVs.no (LVs.ge e34 (LVs.ge e26 (LVs.ge e15 (LVs.ge e8 (LVs.ge e1 lv0))))) (by decide) (by decide)) (by decide) (Or.inr (by decide)) rfl (by decide +kernel) (by decide +kernel) dX5_init_85 (fun Ge37 d38 e37 hC => ?_)
  refine z_dup (pc := 88) hC rfl dX5_init_88 ?_
  refine z_aload_n (pc := 89) hC 0 rfl 0 rfl dX5_init_89 ?_
  refine zg_getr (pc := 90) hC (e37.old (e34.old (e26.old (e15.old (e8.old (e1.old hl)))))) f_64_4 q435 dX5_init_90 (fun u39 hu39 => ?_)
  refine zg_getr (pc := 93) hC hu39 f_10_0 q376 dX5_init_93 (fun u40 hu40 => ?_)
  refine zk_init (pc := 96) (b := 10) (st := [.inr (4, 61), .inr (0, 64)]) (ls1 := [(0, .inr (0, 64))]) (st1 := [.inr (4, 10), .inr (0, 64)]) (L := [(4, 16), (4, 15), (4, 14), (4, 13), (4, 12), (4, 11), (4, 17), (4, 33), (4, 32), (4, 31), (4, 30), (4, 29), (4, 28), (4, 27), (4, 26), (4, 25), (4, 24), (4, 23), (4, 22), (4, 21), (4, 20), (4, 19), (4, 18)]) hC yi_X4_init (Or.inl q280) [.inr (u40, 4)] rfl (c_X4_init hC.2.2.2.2.2.2.1 (k := 4) (e37.mem (by decide)) (fun b hb => LVs.no (LVs.ge e37 (LVs.ge e34 (LVs.ge e26 (LVs.ge e15 (LVs.ge e8 (LVs.ge e1 lv0)))))) ((show ∀ b ∈ [10, 11, 12, 13, 14, 15, 16, 17, 18, 19, 20, 21, 22, 23, 24, 25, 26, 27, 28, 29, 30, 31, 32, 33, 62], (4, b) ∉ [(4, 61), (3, 10), (3, 16), (3, 15), (3, 14), (3, 13), (3, 12), (3, 11), (3, 17), (3, 33), (3, 32), (3, 31), (3, 30), (3, 29), (3, 28), (3, 27), (3, 26), (3, 25), (3, 24), (3, 23), (3, 22), (3, 21), (3, 20), (3, 19), (3, 18), (2, 10), (2, 16), (2, 15), (2, 14), (2, 13), (2, 12), (2, 11), (2, 17), (2, 33), (2, 32), (2, 31), (2, 30), (2, 29), (2, 28), (2, 27), (2, 26), (2, 25), (2, 24), (2, 23), (2, 22), (2, 21), (2, 20), (2, 19), (2, 18), (1, 4), (1, 9), (1, 8), (1, 7), (1, 6), (1, 5), (0, 2), (0, 4), (0, 9), (0, 8), (0, 7), (0, 6), (0, 5), (0, 1), (0, 64)] ∧ ¬ (48 ≤ b ∧ b < 56) by decide) b hb).1 ((show ∀ b ∈ [10, 11, 12, 13, 14, 15, 16, 17, 18, 19, 20, 21, 22, 23, 24, 25, 26, 27, 28, 29, 30, 31, 32, 33, 62], (4, b) ∉ [(4, 61), (3, 10), (3, 16), (3, 15), (3, 14), (3, 13), (3, 12), (3, 11), (3, 17), (3, 33), (3, 32), (3, 31), (3, 30), (3, 29), (3, 28), (3, 27), (3, 26), (3, 25), (3, 24), (3, 23), (3, 22), (3, 21), (3, 20), (3, 19), (3, 18), (2, 10), (2, 16), (2, 15), (2, 14), (2, 13), (2, 12), (2, 11), (2, 17), (2, 33), (2, 32), (2, 31), (2, 30), (2, 29), (2, 28), (2, 27), (2, 26), (2, 25), (2, 24), (2, 23), (2, 22), (2, 21), (2, 20), (2, 19), (2, 18), (1, 4), (1, 9), (1, 8), (1, 7), (1, 6), (1, 5), (0, 2), (0, 4), (0, 9), (0, 8), (0, 7), (0, 6), (0, 5), (0, 1), (0, 64)] ∧ ¬ (48 ≤ b ∧ b < 56) by decide) b hb).2) (by decide) hu40) rfl (by decide) (by decide) (by decide) (by exact (List.forall_mem_cons.mpr ⟨⟨(e37.old (e34.old (e26.old (e15.old (e8.old (e1.old hl)))))), ⟨fun h => absurd h (show ¬ ((64 : Nat)) = 61 by decide), (show ((64 : Nat)) ≠ 10 by decide)⟩⟩, (fun _ h => absurd h List.not_mem_nil)⟩)) (by exact (List.forall_mem_cons.mpr ⟨⟨(e37.mem (by decide)), ⟨fun _ => rfl, (show ((61 : Nat)) ≠ 10 by decide)⟩⟩, (List.forall_mem_cons.mpr ⟨⟨(e37.old (e34.old (e26.old (e15.old (e8.old (e1.old hl)))))), ⟨fun h => absurd h (show ¬ ((64 : Nat)) = 61 by decide), (show ((64 : Nat)) ≠ 10 by decide)⟩⟩, (fun _ h => absurd h List.not_mem_nil)⟩)⟩)) rfl rfl ⟨rfl, rfl, (Nat.le_of_ble_eq_true rfl), (Nat.le_of_ble_eq_true rfl)⟩ ⟨(by decide +kernel), (by decide +kernel)⟩ (Nat.le_of_ble_eq_true rfl) dX5_init_96 (fun Gh41 d43 h41 hC => ?_)
  have e42 : GE _ _ _ [(4, 10), (4, 16), (4, 15), (4, 14), (4, 13), (4, 12), (4, 11), (4, 17), (4, 33), (4, 32), (4, 31), (4, 30), (4, 29), (4, 28), (4, 27), (4, 26), (4, 25), (4, 24), (4, 23), (4, 22), (4, 21), (4, 20), (4, 19), (4, 18)] := GEL.ge e37 h41 (by decide)
  refine zg_putrF (pc := 99) (cn := "FrameHeirs$World") hC hnm (e42.old (e34.old (e26.old (e15.old (e8.old (e1.old hl)))))) (e42.mem (by decide)) f_64_6 q437 (by decide +kernel) dX5_init_99 (fun d44 => ?_)
  refine z_aload_n (pc := 102) hC 0 rfl 0 rfl dX5_init_102 ?_
  refine z_bipush (pc := 103) hC (20 : Int32) rfl dX5_init_103 ?_
  refine zg_newq (pc := 105) (k := 0) (a := 3) (n := 20) hC rfl q278 hao (LVs.no (LVs.ge e42 (LVs.ge e34 (LVs.ge e26 (LVs.ge e15 (LVs.ge e8 (LVs.ge e1 lv0)))))) (by decide) (by decide)) (by decide) (Or.inl (by decide)) rfl (by decide +kernel) (by decide +kernel) (by decide +kernel) (by decide +kernel) (by decide +kernel) dX5_init_105 (fun Ge45 d46 e45 hC => ?_)
  refine zg_putS (pc := 108) (ty := (.array (.object "FrameHeirs$World"))) hC hnm (e45.old (e42.old (e34.old (e26.old (e15.old (e8.old (e1.old hl))))))) (e45.mem (by decide)) f_64_7 q438 (by decide +kernel) (fun _ => rfl) (fun _ => rfl) dX5_init_108 (fun d47 => ?_)
  refine z_aload_n (pc := 111) hC 0 rfl 0 rfl dX5_init_111 ?_
  refine z_iconst (pc := 112) hC (0 : Int32) rfl dX5_init_112 ?_
  refine zg_puti (pc := 113) hC (e45.old (e42.old (e34.old (e26.old (e15.old (e8.old (e1.old hl))))))) f_64_8 q439 dX5_init_113 (fun d48 => ?_)
  refine z_aload_n (pc := 116) hC 0 rfl 0 rfl dX5_init_116 ?_
  refine z_iconst (pc := 117) hC (0 : Int32) rfl dX5_init_117 ?_
  refine zg_puti (pc := 118) hC (e45.old (e42.old (e34.old (e26.old (e15.old (e8.old (e1.old hl))))))) f_64_9 q440 dX5_init_118 (fun d49 => ?_)
  refine zn_rel (pc := 121) (k := 0) (a := 64) (b := 0) (ls1 := [(0, .inr (0, 0))]) (st1 := []) hC (e45.old (e42.old (e34.old (e26.old (e15.old (e8.old (e1.old hl))))))) (LVs.no (LVs.ge e45 (LVs.ge e42 (LVs.ge e34 (LVs.ge e26 (LVs.ge e15 (LVs.ge e8 (LVs.ge e1 lv0))))))) (by decide) (by decide)) (by decide) (by decide) rfl rfl (by decide) rfl rfl (by exact (List.forall_mem_cons.mpr ⟨⟨fun _ => rfl, (show ((64 : Nat)) ≠ 0 by decide)⟩, (fun _ h => absurd h List.not_mem_nil)⟩)) (by exact (fun _ h => absurd h List.not_mem_nil)) (fun Gg51 d50 g51 hC => ?_)
  exact zk_vret (pc := 121) (L := [(0, 3), (4, 10), (4, 16), (4, 15), (4, 14), (4, 13), (4, 12), (4, 11), (4, 17), (4, 33), (4, 32), (4, 31), (4, 30), (4, 29), (4, 28), (4, 27), (4, 26), (4, 25), (4, 24), (4, 23), (4, 22), (4, 21), (4, 20), (4, 19), (4, 18), (3, 10), (3, 16), (3, 15), (3, 14), (3, 13), (3, 12), (3, 11), (3, 17), (3, 33), (3, 32), (3, 31), (3, 30), (3, 29), (3, 28), (3, 27), (3, 26), (3, 25), (3, 24), (3, 23), (3, 22), (3, 21), (3, 20), (3, 19), (3, 18), (2, 10), (2, 16), (2, 15), (2, 14), (2, 13), (2, 12), (2, 11), (2, 17), (2, 33), (2, 32), (2, 31), (2, 30), (2, 29), (2, 28), (2, 27), (2, 26), (2, 25), (2, 24), (2, 23), (2, 22), (2, 21), (2, 20), (2, 19), (2, 18), (1, 4), (1, 9), (1, 8), (1, 7), (1, 6), (1, 5), (0, 2), (0, 4), (0, 9), (0, 8), (0, 7), (0, 6), (0, 5), (0, 1)]) hC (Or.inr (by decide)) ⟨_, ((((((e1.trans e8).trans e15).trans e26).trans e34).trans e42).trans e45), g51⟩ dX5_init_121
theorem c_X5_init {G : Geo} (hG : GOk G) (hl : G.2.2.2 0 64) (lv0 : LVs G [(0, 64)])  {d : Mem} (l : Launch) (x1 : Mem) (h : Fh_init d = some ((), x1)) : MtCa l yX5_init cX5_init 1 rm_X5_init G 0 64 0 [] d [(0, 3), (4, 10), (4, 16), (4, 15), (4, 14), (4, 13), (4, 12), (4, 11), (4, 17), (4, 33), (4, 32), (4, 31), (4, 30), (4, 29), (4, 28), (4, 27), (4, 26), (4, 25), (4, 24), (4, 23), (4, 22), (4, 21), (4, 20), (4, 19), (4, 18), (3, 10), (3, 16), (3, 15), (3, 14), (3, 13), (3, 12), (3, 11), (3, 17), (3, 33), (3, 32), (3, 31), (3, 30), (3, 29), (3, 28), (3, 27), (3, 26), (3, 25), (3, 24), (3, 23), (3, 22), (3, 21), (3, 20), (3, 19), (3, 18), (2, 10), (2, 16), (2, 15), (2, 14), (2, 13), (2, 12), (2, 11), (2, 17), (2, 33), (2, 32), (2, 31), (2, 30), (2, 29), (2, 28), (2, 27), (2, 26), (2, 25), (2, 24), (2, 23), (2, 22), (2, 21), (2, 20), (2, 19), (2, 18), (1, 4), (1, 9), (1, 8), (1, 7), (1, 6), (1, 5), (0, 2), (0, 4), (0, 9), (0, 8), (0, 7), (0, 6), (0, 5), (0, 1)] 87 10676 x1 :=
  mtCa_of rfl rfl hG [] (Nat.le_of_ble_eq_true rfl) rfl (fun C hC hnm hao => r_Fh_init hC hnm hao hl lv0 d) h
