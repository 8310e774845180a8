theorem mT1 {i : Nat} {w : Cond} (h : tables_1_1[i]? = some w) : w ∈ lw_tbl := List.mem_append_right _ (List.mem_append_left _ (List.mem_of_getElem? h))
theorem mT2 {i : Nat} {w : Cond} (h : tables_1_2[i]? = some w) : w ∈ lw_tbl := List.mem_append_right _ (List.mem_append_right _ (List.mem_append_left _ (List.mem_of_getElem? h)))
theorem mT3 {i : Nat} {w : Cond} (h : tables_1_3[i]? = some w) : w ∈ lw_tbl := List.mem_append_right _ (List.mem_append_right _ (List.mem_append_right _ (List.mem_append_left _ (List.mem_of_getElem? h))))
theorem mT4 {i : Nat} {w : Cond} (h : tables_1_4[i]? = some w) : w ∈ lw_tbl := List.mem_append_right _ (List.mem_append_right _ (List.mem_append_right _ (List.mem_append_right _ (List.mem_append_left _ (List.mem_of_getElem? h)))))
theorem mT5 {i : Nat} {w : Cond} (h : tables_1_5[i]? = some w) : w ∈ lw_tbl := List.mem_append_right _ (List.mem_append_right _ (List.mem_append_right _ (List.mem_append_right _ (List.mem_append_right _ (List.mem_append_left _ (List.mem_of_getElem? h))))))
theorem mT6 {i : Nat} {w : Cond} (h : tables_1_6[i]? = some w) : w ∈ lw_tbl := List.mem_append_right _ (List.mem_append_right _ (List.mem_append_right _ (List.mem_append_right _ (List.mem_append_right _ (List.mem_append_right _ (List.mem_append_left _ (List.mem_of_getElem? h)))))))
theorem mT7 {i : Nat} {w : Cond} (h : tables_1_7[i]? = some w) : w ∈ lw_tbl := List.mem_append_right _ (List.mem_append_right _ (List.mem_append_right _ (List.mem_append_right _ (List.mem_append_right _ (List.mem_append_right _ (List.mem_append_right _ (List.mem_append_left _ (List.mem_of_getElem? h))))))))
theorem mT8 {i : Nat} {w : Cond} (h : tables_1_8[i]? = some w) : w ∈ lw_tbl := List.mem_append_right _ (List.mem_append_right _ (List.mem_append_right _ (List.mem_append_right _ (List.mem_append_right _ (List.mem_append_right _ (List.mem_append_right _ (List.mem_append_right _ (List.mem_of_getElem? h))))))))
theorem mP1 {i : Nat} {w : Cond} (h : (k2_sels lw_privs_1)[i]? = some w) : w ∈ lw_tbl := List.mem_append_left _ (by
  show w ∈ k2_sels lw_privs
  unfold k2_sels lw_privs
  rw [List.map_append, List.map_append, List.map_append, List.map_append, List.map_append, List.map_append, List.map_append, List.map_append]
  exact List.mem_append_left _ (List.mem_of_getElem? h))
theorem mP2 {i : Nat} {w : Cond} (h : (k2_sels lw_privs_2)[i]? = some w) : w ∈ lw_tbl := List.mem_append_left _ (by
  show w ∈ k2_sels lw_privs
  unfold k2_sels lw_privs
  rw [List.map_append, List.map_append, List.map_append, List.map_append, List.map_append, List.map_append, List.map_append, List.map_append]
  exact List.mem_append_right _ (List.mem_append_left _ (List.mem_of_getElem? h)))
theorem mP3 {i : Nat} {w : Cond} (h : (k2_sels lw_privs_3)[i]? = some w) : w ∈ lw_tbl := List.mem_append_left _ (by
  show w ∈ k2_sels lw_privs
  unfold k2_sels lw_privs
  rw [List.map_append, List.map_append, List.map_append, List.map_append, List.map_append, List.map_append, List.map_append, List.map_append]
  exact List.mem_append_right _ (List.mem_append_right _ (List.mem_append_left _ (List.mem_of_getElem? h))))
theorem mP4 {i : Nat} {w : Cond} (h : (k2_sels lw_privs_4)[i]? = some w) : w ∈ lw_tbl := List.mem_append_left _ (by
  show w ∈ k2_sels lw_privs
  unfold k2_sels lw_privs
  rw [List.map_append, List.map_append, List.map_append, List.map_append, List.map_append, List.map_append, List.map_append, List.map_append]
  exact List.mem_append_right _ (List.mem_append_right _ (List.mem_append_right _ (List.mem_append_left _ (List.mem_of_getElem? h)))))
theorem mP5 {i : Nat} {w : Cond} (h : (k2_sels lw_privs_5)[i]? = some w) : w ∈ lw_tbl := List.mem_append_left _ (by
  show w ∈ k2_sels lw_privs
  unfold k2_sels lw_privs
  rw [List.map_append, List.map_append, List.map_append, List.map_append, List.map_append, List.map_append, List.map_append, List.map_append]
  exact List.mem_append_right _ (List.mem_append_right _ (List.mem_append_right _ (List.mem_append_right _ (List.mem_append_left _ (List.mem_of_getElem? h))))))
theorem mP6 {i : Nat} {w : Cond} (h : (k2_sels lw_privs_6)[i]? = some w) : w ∈ lw_tbl := List.mem_append_left _ (by
  show w ∈ k2_sels lw_privs
  unfold k2_sels lw_privs
  rw [List.map_append, List.map_append, List.map_append, List.map_append, List.map_append, List.map_append, List.map_append, List.map_append]
  exact List.mem_append_right _ (List.mem_append_right _ (List.mem_append_right _ (List.mem_append_right _ (List.mem_append_right _ (List.mem_append_left _ (List.mem_of_getElem? h)))))))
theorem mP7 {i : Nat} {w : Cond} (h : (k2_sels lw_privs_7)[i]? = some w) : w ∈ lw_tbl := List.mem_append_left _ (by
  show w ∈ k2_sels lw_privs
  unfold k2_sels lw_privs
  rw [List.map_append, List.map_append, List.map_append, List.map_append, List.map_append, List.map_append, List.map_append, List.map_append]
  exact List.mem_append_right _ (List.mem_append_right _ (List.mem_append_right _ (List.mem_append_right _ (List.mem_append_right _ (List.mem_append_right _ (List.mem_append_left _ (List.mem_of_getElem? h))))))))
theorem mP8 {i : Nat} {w : Cond} (h : (k2_sels lw_privs_8)[i]? = some w) : w ∈ lw_tbl := List.mem_append_left _ (by
  show w ∈ k2_sels lw_privs
  unfold k2_sels lw_privs
  rw [List.map_append, List.map_append, List.map_append, List.map_append, List.map_append, List.map_append, List.map_append, List.map_append]
  exact List.mem_append_right _ (List.mem_append_right _ (List.mem_append_right _ (List.mem_append_right _ (List.mem_append_right _ (List.mem_append_right _ (List.mem_append_right _ (List.mem_append_left _ (List.mem_of_getElem? h)))))))))
theorem mP9 {i : Nat} {w : Cond} (h : (k2_sels lw_privs_9)[i]? = some w) : w ∈ lw_tbl := List.mem_append_left _ (by
  show w ∈ k2_sels lw_privs
  unfold k2_sels lw_privs
  rw [List.map_append, List.map_append, List.map_append, List.map_append, List.map_append, List.map_append, List.map_append, List.map_append]
  exact List.mem_append_right _ (List.mem_append_right _ (List.mem_append_right _ (List.mem_append_right _ (List.mem_append_right _ (List.mem_append_right _ (List.mem_append_right _ (List.mem_append_right _ (List.mem_of_getElem? h)))))))))
theorem q0 : (Jvm.Cond.selects "FrameHeirs" ({ cls := "FrameHeirs", name := "tapeNumber", desc := "(I)V" } : Jvm.MethodName) ({ cls := "FrameHeirs", name := "tapeNumber", desc := "(I)V" } : Jvm.MethodName)) ∈ gw := gw_mem (mP1 (i := 0) rfl) rfl
theorem q1 : (Jvm.Cond.selects "FrameHeirs$Reader" ({ cls := "FrameHeirs$Reader", name := "take", desc := "()V" } : Jvm.MethodName) ({ cls := "FrameHeirs$Reader", name := "take", desc := "()V" } : Jvm.MethodName)) ∈ gw := gw_mem (mP1 (i := 1) rfl) rfl
theorem q2 : (Jvm.Cond.selects "FrameHeirs$Reader" ({ cls := "FrameHeirs$Reader", name := "takeWord", desc := "()V" } : Jvm.MethodName) ({ cls := "FrameHeirs$Reader", name := "takeWord", desc := "()V" } : Jvm.MethodName)) ∈ gw := gw_mem (mP1 (i := 2) rfl) rfl
theorem q3 : (Jvm.Cond.selects "FrameHeirs$Reader" ({ cls := "FrameHeirs$Reader", name := "takeDigits", desc := "()V" } : Jvm.MethodName) ({ cls := "FrameHeirs$Reader", name := "takeDigits", desc := "()V" } : Jvm.MethodName)) ∈ gw := gw_mem (mP1 (i := 3) rfl) rfl
theorem q4 : (Jvm.Cond.selects "FrameHeirs$Reader" ({ cls := "FrameHeirs$Reader", name := "fail", desc := "(I)Z" } : Jvm.MethodName) ({ cls := "FrameHeirs$Reader", name := "fail", desc := "(I)Z" } : Jvm.MethodName)) ∈ gw := gw_mem (mP1 (i := 4) rfl) rfl
theorem q5 : (Jvm.Cond.selects "FrameHeirs$Reader" ({ cls := "FrameHeirs$Reader", name := "readSpace", desc := "()Z" } : Jvm.MethodName) ({ cls := "FrameHeirs$Reader", name := "readSpace", desc := "()Z" } : Jvm.MethodName)) ∈ gw := gw_mem (mP1 (i := 5) rfl) rfl
theorem q6 : (Jvm.Cond.selects "FrameHeirs$Reader" ({ cls := "FrameHeirs$Reader", name := "readPager", desc := "()Z" } : Jvm.MethodName) ({ cls := "FrameHeirs$Reader", name := "readPager", desc := "()Z" } : Jvm.MethodName)) ∈ gw := gw_mem (mP1 (i := 6) rfl) rfl
theorem q7 : (Jvm.Cond.selects "FrameHeirs$Reader" ({ cls := "FrameHeirs$Reader", name := "takeSpace", desc := "()I" } : Jvm.MethodName) ({ cls := "FrameHeirs$Reader", name := "takeSpace", desc := "()I" } : Jvm.MethodName)) ∈ gw := gw_mem (mP1 (i := 7) rfl) rfl
theorem q8 : (Jvm.Cond.selects "FrameHeirs$Reader" ({ cls := "FrameHeirs$Reader", name := "takeNumber", desc := "(II)I" } : Jvm.MethodName) ({ cls := "FrameHeirs$Reader", name := "takeNumber", desc := "(II)I" } : Jvm.MethodName)) ∈ gw := gw_mem (mP1 (i := 8) rfl) rfl
theorem q9 : (Jvm.Cond.selects "FrameHeirs$Reader" ({ cls := "FrameHeirs$Reader", name := "readQuota", desc := "()Z" } : Jvm.MethodName) ({ cls := "FrameHeirs$Reader", name := "readQuota", desc := "()Z" } : Jvm.MethodName)) ∈ gw := gw_mem (mP1 (i := 9) rfl) rfl
theorem q10 : (Jvm.Cond.selects "FrameHeirs$Reader" ({ cls := "FrameHeirs$Reader", name := "readSetting", desc := "(I)Z" } : Jvm.MethodName) ({ cls := "FrameHeirs$Reader", name := "readSetting", desc := "(I)Z" } : Jvm.MethodName)) ∈ gw := gw_mem (mP1 (i := 10) rfl) rfl
theorem q11 : (Jvm.Cond.selects "FrameHeirs$Reader" ({ cls := "FrameHeirs$Reader", name := "readStep", desc := "(I)Z" } : Jvm.MethodName) ({ cls := "FrameHeirs$Reader", name := "readStep", desc := "(I)Z" } : Jvm.MethodName)) ∈ gw := gw_mem (mP1 (i := 11) rfl) rfl
theorem q12 : (Jvm.Cond.selects "FrameHeirs$Deeds" ({ cls := "FrameHeirs$Deeds", name := "settleAt", desc := "(II)V" } : Jvm.MethodName) ({ cls := "FrameHeirs$Deeds", name := "settleAt", desc := "(II)V" } : Jvm.MethodName)) ∈ gw := gw_mem (mP1 (i := 12) rfl) rfl
theorem q13 : (Jvm.Cond.selects "FrameHeirs$World" ({ cls := "FrameHeirs$World", name := "widen", desc := "(III)V" } : Jvm.MethodName) ({ cls := "FrameHeirs$World", name := "widen", desc := "(III)V" } : Jvm.MethodName)) ∈ gw := gw_mem (mP1 (i := 13) rfl) rfl
theorem q14 : (Jvm.Cond.selects "FrameHeirs" ({ cls := "FrameHeirs", name := "remember", desc := "()V" } : Jvm.MethodName) ({ cls := "FrameHeirs", name := "remember", desc := "()V" } : Jvm.MethodName)) ∈ gw := gw_mem (mP1 (i := 14) rfl) rfl
theorem q15 : (Jvm.Cond.selects "FrameHeirs$World" ({ cls := "FrameHeirs$World", name := "isRegion", desc := "(II)Z" } : Jvm.MethodName) ({ cls := "FrameHeirs$World", name := "isRegion", desc := "(II)Z" } : Jvm.MethodName)) ∈ gw := gw_mem (mP1 (i := 15) rfl) rfl
theorem q16 : (Jvm.Cond.selects "FrameHeirs$World" ({ cls := "FrameHeirs$World", name := "seenIn", desc := "(III)I" } : Jvm.MethodName) ({ cls := "FrameHeirs$World", name := "seenIn", desc := "(III)I" } : Jvm.MethodName)) ∈ gw := gw_mem (mP2 (i := 0) rfl) rfl
theorem q17 : (Jvm.Cond.selects "FrameHeirs$World" ({ cls := "FrameHeirs$World", name := "pagesWith", desc := "(IIII)I" } : Jvm.MethodName) ({ cls := "FrameHeirs$World", name := "pagesWith", desc := "(IIII)I" } : Jvm.MethodName)) ∈ gw := gw_mem (mP2 (i := 1) rfl) rfl
theorem q18 : (Jvm.Cond.selects "FrameHeirs$World" ({ cls := "FrameHeirs$World", name := "exceedsQuota", desc := "(II)Z" } : Jvm.MethodName) ({ cls := "FrameHeirs$World", name := "exceedsQuota", desc := "(II)Z" } : Jvm.MethodName)) ∈ gw := gw_mem (mP2 (i := 2) rfl) rfl
theorem q19 : (Jvm.Cond.selects "FrameHeirs$World" ({ cls := "FrameHeirs$World", name := "makeHeirs", desc := "(IIIII)I" } : Jvm.MethodName) ({ cls := "FrameHeirs$World", name := "makeHeirs", desc := "(IIIII)I" } : Jvm.MethodName)) ∈ gw := gw_mem (mP2 (i := 3) rfl) rfl
theorem q20 : (Jvm.Cond.selects "FrameHeirs$World" ({ cls := "FrameHeirs$World", name := "addHeir", desc := "(IIIIII)I" } : Jvm.MethodName) ({ cls := "FrameHeirs$World", name := "addHeir", desc := "(IIIIII)I" } : Jvm.MethodName)) ∈ gw := gw_mem (mP2 (i := 4) rfl) rfl
theorem q21 : (Jvm.Cond.selects "FrameHeirs" ({ cls := "FrameHeirs", name := "keep", desc := "(I)I" } : Jvm.MethodName) ({ cls := "FrameHeirs", name := "keep", desc := "(I)I" } : Jvm.MethodName)) ∈ gw := gw_mem (mP2 (i := 5) rfl) rfl
theorem q22 : (Jvm.Cond.selects "FrameHeirs$Deeds" ({ cls := "FrameHeirs$Deeds", name := "listAlike", desc := "(I)I" } : Jvm.MethodName) ({ cls := "FrameHeirs$Deeds", name := "listAlike", desc := "(I)I" } : Jvm.MethodName)) ∈ gw := gw_mem (mP2 (i := 6) rfl) rfl
theorem q23 : (Jvm.Cond.selects "FrameHeirs$Deeds" ({ cls := "FrameHeirs$Deeds", name := "halve", desc := "(I)V" } : Jvm.MethodName) ({ cls := "FrameHeirs$Deeds", name := "halve", desc := "(I)V" } : Jvm.MethodName)) ∈ gw := gw_mem (mP2 (i := 7) rfl) rfl
theorem q24 : (Jvm.Cond.selects "FrameHeirs$Deeds" ({ cls := "FrameHeirs$Deeds", name := "putBehind", desc := "(II)V" } : Jvm.MethodName) ({ cls := "FrameHeirs$Deeds", name := "putBehind", desc := "(II)V" } : Jvm.MethodName)) ∈ gw := gw_mem (mP2 (i := 8) rfl) rfl
theorem q25 : (Jvm.Cond.selects "FrameHeirs$Deeds" ({ cls := "FrameHeirs$Deeds", name := "takeFromGiver", desc := "(I)V" } : Jvm.MethodName) ({ cls := "FrameHeirs$Deeds", name := "takeFromGiver", desc := "(I)V" } : Jvm.MethodName)) ∈ gw := gw_mem (mP2 (i := 9) rfl) rfl
theorem q26 : (Jvm.Cond.selects "FrameHeirs$World" ({ cls := "FrameHeirs$World", name := "queueJob", desc := "(IIIZ)I" } : Jvm.MethodName) ({ cls := "FrameHeirs$World", name := "queueJob", desc := "(IIIZ)I" } : Jvm.MethodName)) ∈ gw := gw_mem (mP2 (i := 10) rfl) rfl
theorem q27 : (Jvm.Cond.selects "FrameHeirs$World" ({ cls := "FrameHeirs$World", name := "workOnce", desc := "()V" } : Jvm.MethodName) ({ cls := "FrameHeirs$World", name := "workOnce", desc := "()V" } : Jvm.MethodName)) ∈ gw := gw_mem (mP2 (i := 11) rfl) rfl
theorem q28 : (Jvm.Cond.selects "FrameHeirs$Deeds" ({ cls := "FrameHeirs$Deeds", name := "release", desc := "(I)V" } : Jvm.MethodName) ({ cls := "FrameHeirs$Deeds", name := "release", desc := "(I)V" } : Jvm.MethodName)) ∈ gw := gw_mem (mP2 (i := 12) rfl) rfl
theorem q29 : (Jvm.Cond.selects "FrameHeirs$World" ({ cls := "FrameHeirs$World", name := "startWait", desc := "(III)V" } : Jvm.MethodName) ({ cls := "FrameHeirs$World", name := "startWait", desc := "(III)V" } : Jvm.MethodName)) ∈ gw := gw_mem (mP2 (i := 13) rfl) rfl
theorem q30 : (Jvm.Cond.selects "FrameHeirs$World" ({ cls := "FrameHeirs$World", name := "firstWaiting", desc := "(I)I" } : Jvm.MethodName) ({ cls := "FrameHeirs$World", name := "firstWaiting", desc := "(I)I" } : Jvm.MethodName)) ∈ gw := gw_mem (mP2 (i := 14) rfl) rfl
theorem q31 : (Jvm.Cond.selects "FrameHeirs$World" ({ cls := "FrameHeirs$World", name := "sourceFor", desc := "(II)I" } : Jvm.MethodName) ({ cls := "FrameHeirs$World", name := "sourceFor", desc := "(II)I" } : Jvm.MethodName)) ∈ gw := gw_mem (mP2 (i := 15) rfl) rfl
theorem q32 : (Jvm.Cond.selects "FrameHeirs$World" ({ cls := "FrameHeirs$World", name := "firstFresh", desc := "(III)I" } : Jvm.MethodName) ({ cls := "FrameHeirs$World", name := "firstFresh", desc := "(III)I" } : Jvm.MethodName)) ∈ gw := gw_mem (mP3 (i := 0) rfl) rfl
theorem q33 : (Jvm.Cond.selects "FrameHeirs$World" ({ cls := "FrameHeirs$World", name := "withRight", desc := "(III)I" } : Jvm.MethodName) ({ cls := "FrameHeirs$World", name := "withRight", desc := "(III)I" } : Jvm.MethodName)) ∈ gw := gw_mem (mP3 (i := 1) rfl) rfl
theorem q34 : (Jvm.Cond.selects "FrameHeirs$World" ({ cls := "FrameHeirs$World", name := "passOn", desc := "(IIII)I" } : Jvm.MethodName) ({ cls := "FrameHeirs$World", name := "passOn", desc := "(IIII)I" } : Jvm.MethodName)) ∈ gw := gw_mem (mP3 (i := 2) rfl) rfl
theorem q35 : (Jvm.Cond.selects "FrameHeirs$World" ({ cls := "FrameHeirs$World", name := "refuse", desc := "(I)I" } : Jvm.MethodName) ({ cls := "FrameHeirs$World", name := "refuse", desc := "(I)I" } : Jvm.MethodName)) ∈ gw := gw_mem (mP3 (i := 3) rfl) rfl
theorem q36 : (Jvm.Cond.selects "FrameHeirs$World" ({ cls := "FrameHeirs$World", name := "makeRoom", desc := "(I)Z" } : Jvm.MethodName) ({ cls := "FrameHeirs$World", name := "makeRoom", desc := "(I)Z" } : Jvm.MethodName)) ∈ gw := gw_mem (mP3 (i := 4) rfl) rfl
theorem q37 : (Jvm.Cond.selects "FrameHeirs$Deeds" ({ cls := "FrameHeirs$Deeds", name := "areHalves", desc := "(III)Z" } : Jvm.MethodName) ({ cls := "FrameHeirs$Deeds", name := "areHalves", desc := "(III)Z" } : Jvm.MethodName)) ∈ gw := gw_mem (mP3 (i := 5) rfl) rfl
theorem q38 : (Jvm.Cond.selects "FrameHeirs$Deeds" ({ cls := "FrameHeirs$Deeds", name := "join", desc := "(II)V" } : Jvm.MethodName) ({ cls := "FrameHeirs$Deeds", name := "join", desc := "(II)V" } : Jvm.MethodName)) ∈ gw := gw_mem (mP3 (i := 6) rfl) rfl
theorem q39 : (Jvm.Cond.selects "FrameHeirs$World" ({ cls := "FrameHeirs$World", name := "waitingAhead", desc := "(I)I" } : Jvm.MethodName) ({ cls := "FrameHeirs$World", name := "waitingAhead", desc := "(I)I" } : Jvm.MethodName)) ∈ gw := gw_mem (mP3 (i := 7) rfl) rfl
theorem q40 : (Jvm.Cond.selects "java/lang/Throwable" ({ cls := "java/lang/Throwable", name := "fillInStackTrace", desc := "(I)Ljava/lang/Throwable;" } : Jvm.MethodName) ({ cls := "java/lang/Throwable", name := "fillInStackTrace", desc := "(I)Ljava/lang/Throwable;" } : Jvm.MethodName)) ∈ gw := gw_mem (mP3 (i := 8) rfl) rfl
theorem q41 : (Jvm.Cond.selects "FrameHeirsModel" ({ cls := "FrameHeirsModel", name := "plain", desc := "()V" } : Jvm.MethodName) ({ cls := "FrameHeirsModel", name := "plain", desc := "()V" } : Jvm.MethodName)) ∈ gw := gw_mem (mP3 (i := 9) rfl) rfl
theorem q42 : (Jvm.Cond.selects "FrameHeirsModel" ({ cls := "FrameHeirsModel", name := "keepText", desc := "()V" } : Jvm.MethodName) ({ cls := "FrameHeirsModel", name := "keepText", desc := "()V" } : Jvm.MethodName)) ∈ gw := gw_mem (mP3 (i := 10) rfl) rfl
theorem q43 : (Jvm.Cond.selects "FrameHeirsModel" ({ cls := "FrameHeirsModel", name := "lay", desc := "(II)V" } : Jvm.MethodName) ({ cls := "FrameHeirsModel", name := "lay", desc := "(II)V" } : Jvm.MethodName)) ∈ gw := gw_mem (mP3 (i := 11) rfl) rfl
theorem q44 : (Jvm.Cond.selects "FrameHeirsModel" ({ cls := "FrameHeirsModel", name := "size", desc := "()I" } : Jvm.MethodName) ({ cls := "FrameHeirsModel", name := "size", desc := "()I" } : Jvm.MethodName)) ∈ gw := gw_mem (mP3 (i := 12) rfl) rfl
theorem q45 : (Jvm.Cond.selects "FrameHeirsModel" ({ cls := "FrameHeirsModel", name := "comes", desc := "(IIIIII)V" } : Jvm.MethodName) ({ cls := "FrameHeirsModel", name := "comes", desc := "(IIIIII)V" } : Jvm.MethodName)) ∈ gw := gw_mem (mP3 (i := 13) rfl) rfl
theorem q46 : (Jvm.Cond.selects "FrameHeirsModel" ({ cls := "FrameHeirsModel", name := "widens", desc := "(I)V" } : Jvm.MethodName) ({ cls := "FrameHeirsModel", name := "widens", desc := "(I)V" } : Jvm.MethodName)) ∈ gw := gw_mem (mP3 (i := 14) rfl) rfl
theorem q47 : (Jvm.Cond.selects "FrameHeirsModel" ({ cls := "FrameHeirsModel", name := "of", desc := "(I)I" } : Jvm.MethodName) ({ cls := "FrameHeirsModel", name := "of", desc := "(I)I" } : Jvm.MethodName)) ∈ gw := gw_mem (mP3 (i := 15) rfl) rfl
theorem q48 : (Jvm.Cond.selects "FrameHeirsModel" ({ cls := "FrameHeirsModel", name := "linked", desc := "(III)V" } : Jvm.MethodName) ({ cls := "FrameHeirsModel", name := "linked", desc := "(III)V" } : Jvm.MethodName)) ∈ gw := gw_mem (mP4 (i := 0) rfl) rfl
theorem q49 : (Jvm.Cond.selects "FrameHeirsModel" ({ cls := "FrameHeirsModel", name := "token", desc := "()V" } : Jvm.MethodName) ({ cls := "FrameHeirsModel", name := "token", desc := "()V" } : Jvm.MethodName)) ∈ gw := gw_mem (mP4 (i := 1) rfl) rfl
theorem q50 : (Jvm.Cond.selects "FrameHeirsModel" ({ cls := "FrameHeirsModel", name := "isSmall", desc := "(I)Z" } : Jvm.MethodName) ({ cls := "FrameHeirsModel", name := "isSmall", desc := "(I)Z" } : Jvm.MethodName)) ∈ gw := gw_mem (mP4 (i := 2) rfl) rfl
theorem q51 : (Jvm.Cond.selects "FrameHeirsModel" ({ cls := "FrameHeirsModel", name := "wordAt", desc := "(II)I" } : Jvm.MethodName) ({ cls := "FrameHeirsModel", name := "wordAt", desc := "(II)I" } : Jvm.MethodName)) ∈ gw := gw_mem (mP4 (i := 3) rfl) rfl
theorem q52 : (Jvm.Cond.selects "FrameHeirsModel" ({ cls := "FrameHeirsModel", name := "packed", desc := "(II)I" } : Jvm.MethodName) ({ cls := "FrameHeirsModel", name := "packed", desc := "(II)I" } : Jvm.MethodName)) ∈ gw := gw_mem (mP4 (i := 4) rfl) rfl
theorem q53 : (Jvm.Cond.selects "FrameHeirsModel" ({ cls := "FrameHeirsModel", name := "isDigit", desc := "(I)Z" } : Jvm.MethodName) ({ cls := "FrameHeirsModel", name := "isDigit", desc := "(I)Z" } : Jvm.MethodName)) ∈ gw := gw_mem (mP4 (i := 5) rfl) rfl
theorem q54 : (Jvm.Cond.selects "FrameHeirsModel" ({ cls := "FrameHeirsModel", name := "lineRead", desc := "()Z" } : Jvm.MethodName) ({ cls := "FrameHeirsModel", name := "lineRead", desc := "()Z" } : Jvm.MethodName)) ∈ gw := gw_mem (mP4 (i := 6) rfl) rfl
theorem q55 : (Jvm.Cond.selects "FrameHeirsModel" ({ cls := "FrameHeirsModel", name := "wrong", desc := "(I)Z" } : Jvm.MethodName) ({ cls := "FrameHeirsModel", name := "wrong", desc := "(I)Z" } : Jvm.MethodName)) ∈ gw := gw_mem (mP4 (i := 7) rfl) rfl
theorem q56 : (Jvm.Cond.selects "FrameHeirsModel" ({ cls := "FrameHeirsModel", name := "spaceLine", desc := "()Z" } : Jvm.MethodName) ({ cls := "FrameHeirsModel", name := "spaceLine", desc := "()Z" } : Jvm.MethodName)) ∈ gw := gw_mem (mP4 (i := 8) rfl) rfl
theorem q57 : (Jvm.Cond.selects "FrameHeirsModel" ({ cls := "FrameHeirsModel", name := "find", desc := "(III)I" } : Jvm.MethodName) ({ cls := "FrameHeirsModel", name := "find", desc := "(III)I" } : Jvm.MethodName)) ∈ gw := gw_mem (mP4 (i := 9) rfl) rfl
theorem q58 : (Jvm.Cond.selects "FrameHeirsModel" ({ cls := "FrameHeirsModel", name := "pagerLine", desc := "()Z" } : Jvm.MethodName) ({ cls := "FrameHeirsModel", name := "pagerLine", desc := "()Z" } : Jvm.MethodName)) ∈ gw := gw_mem (mP4 (i := 10) rfl) rfl
theorem q59 : (Jvm.Cond.selects "FrameHeirsModel" ({ cls := "FrameHeirsModel", name := "spaceRead", desc := "()Z" } : Jvm.MethodName) ({ cls := "FrameHeirsModel", name := "spaceRead", desc := "()Z" } : Jvm.MethodName)) ∈ gw := gw_mem (mP4 (i := 11) rfl) rfl
theorem q60 : (Jvm.Cond.selects "FrameHeirsModel" ({ cls := "FrameHeirsModel", name := "number", desc := "(II)Z" } : Jvm.MethodName) ({ cls := "FrameHeirsModel", name := "number", desc := "(II)Z" } : Jvm.MethodName)) ∈ gw := gw_mem (mP4 (i := 12) rfl) rfl
theorem q61 : (Jvm.Cond.selects "FrameHeirsModel" ({ cls := "FrameHeirsModel", name := "quotaLine", desc := "()Z" } : Jvm.MethodName) ({ cls := "FrameHeirsModel", name := "quotaLine", desc := "()Z" } : Jvm.MethodName)) ∈ gw := gw_mem (mP4 (i := 13) rfl) rfl
theorem q62 : (Jvm.Cond.selects "FrameHeirsModel" ({ cls := "FrameHeirsModel", name := "sizeLine", desc := "()Z" } : Jvm.MethodName) ({ cls := "FrameHeirsModel", name := "sizeLine", desc := "()Z" } : Jvm.MethodName)) ∈ gw := gw_mem (mP4 (i := 14) rfl) rfl
theorem q63 : (Jvm.Cond.selects "FrameHeirsModel" ({ cls := "FrameHeirsModel", name := "wordLine", desc := "()Z" } : Jvm.MethodName) ({ cls := "FrameHeirsModel", name := "wordLine", desc := "()Z" } : Jvm.MethodName)) ∈ gw := gw_mem (mP4 (i := 15) rfl) rfl
theorem q64 : (Jvm.Cond.selects "FrameHeirsModel" ({ cls := "FrameHeirsModel", name := "stepLine", desc := "()Z" } : Jvm.MethodName) ({ cls := "FrameHeirsModel", name := "stepLine", desc := "()Z" } : Jvm.MethodName)) ∈ gw := gw_mem (mP5 (i := 0) rfl) rfl
theorem q65 : (Jvm.Cond.selects "FrameHeirsModel" ({ cls := "FrameHeirsModel", name := "stepSpace", desc := "(I)Z" } : Jvm.MethodName) ({ cls := "FrameHeirsModel", name := "stepSpace", desc := "(I)Z" } : Jvm.MethodName)) ∈ gw := gw_mem (mP5 (i := 1) rfl) rfl
theorem q66 : (Jvm.Cond.selects "FrameHeirsModel" ({ cls := "FrameHeirsModel", name := "passing", desc := "(I)Z" } : Jvm.MethodName) ({ cls := "FrameHeirsModel", name := "passing", desc := "(I)Z" } : Jvm.MethodName)) ∈ gw := gw_mem (mP5 (i := 2) rfl) rfl
theorem q67 : (Jvm.Cond.selects "FrameHeirsModel" ({ cls := "FrameHeirsModel", name := "stepNumber", desc := "(III)Z" } : Jvm.MethodName) ({ cls := "FrameHeirsModel", name := "stepNumber", desc := "(III)Z" } : Jvm.MethodName)) ∈ gw := gw_mem (mP5 (i := 3) rfl) rfl
theorem q68 : (Jvm.Cond.selects "FrameHeirsModel" ({ cls := "FrameHeirsModel", name := "copyBank", desc := "(II)V" } : Jvm.MethodName) ({ cls := "FrameHeirsModel", name := "copyBank", desc := "(II)V" } : Jvm.MethodName)) ∈ gw := gw_mem (mP5 (i := 4) rfl) rfl
theorem q69 : (Jvm.Cond.selects "FrameHeirsModel" ({ cls := "FrameHeirsModel", name := "isPassing", desc := "(IIII)Z" } : Jvm.MethodName) ({ cls := "FrameHeirsModel", name := "isPassing", desc := "(IIII)Z" } : Jvm.MethodName)) ∈ gw := gw_mem (mP5 (i := 5) rfl) rfl
theorem q70 : (Jvm.Cond.selects "FrameHeirsModel" ({ cls := "FrameHeirsModel", name := "isSpace", desc := "(I)Z" } : Jvm.MethodName) ({ cls := "FrameHeirsModel", name := "isSpace", desc := "(I)Z" } : Jvm.MethodName)) ∈ gw := gw_mem (mP5 (i := 6) rfl) rfl
theorem q71 : (Jvm.Cond.selects "FrameHeirsModel" ({ cls := "FrameHeirsModel", name := "isRegion", desc := "(I)Z" } : Jvm.MethodName) ({ cls := "FrameHeirsModel", name := "isRegion", desc := "(I)Z" } : Jvm.MethodName)) ∈ gw := gw_mem (mP5 (i := 7) rfl) rfl
theorem q72 : (Jvm.Cond.selects "FrameHeirsModel" ({ cls := "FrameHeirsModel", name := "isFit", desc := "(II)Z" } : Jvm.MethodName) ({ cls := "FrameHeirsModel", name := "isFit", desc := "(II)Z" } : Jvm.MethodName)) ∈ gw := gw_mem (mP5 (i := 8) rfl) rfl
theorem q73 : (Jvm.Cond.selects "FrameHeirsModel" ({ cls := "FrameHeirsModel", name := "isPlace", desc := "(I)Z" } : Jvm.MethodName) ({ cls := "FrameHeirsModel", name := "isPlace", desc := "(I)Z" } : Jvm.MethodName)) ∈ gw := gw_mem (mP5 (i := 9) rfl) rfl
theorem q74 : (Jvm.Cond.selects "FrameHeirsModel" ({ cls := "FrameHeirsModel", name := "canUndo", desc := "()V" } : Jvm.MethodName) ({ cls := "FrameHeirsModel", name := "canUndo", desc := "()V" } : Jvm.MethodName)) ∈ gw := gw_mem (mP5 (i := 10) rfl) rfl
theorem q75 : (Jvm.Cond.selects "FrameHeirsModel" ({ cls := "FrameHeirsModel", name := "mapped", desc := "(IIIII)I" } : Jvm.MethodName) ({ cls := "FrameHeirsModel", name := "mapped", desc := "(IIIII)I" } : Jvm.MethodName)) ∈ gw := gw_mem (mP5 (i := 11) rfl) rfl
theorem q76 : (Jvm.Cond.selects "FrameHeirsModel" ({ cls := "FrameHeirsModel", name := "looks", desc := "(III)V" } : Jvm.MethodName) ({ cls := "FrameHeirsModel", name := "looks", desc := "(III)V" } : Jvm.MethodName)) ∈ gw := gw_mem (mP5 (i := 12) rfl) rfl
theorem q77 : (Jvm.Cond.selects "FrameHeirsModel" ({ cls := "FrameHeirsModel", name := "cover", desc := "(II)I" } : Jvm.MethodName) ({ cls := "FrameHeirsModel", name := "cover", desc := "(II)I" } : Jvm.MethodName)) ∈ gw := gw_mem (mP5 (i := 13) rfl) rfl
theorem q78 : (Jvm.Cond.selects "FrameHeirsModel" ({ cls := "FrameHeirsModel", name := "orderOf", desc := "(I)I" } : Jvm.MethodName) ({ cls := "FrameHeirsModel", name := "orderOf", desc := "(I)I" } : Jvm.MethodName)) ∈ gw := gw_mem (mP5 (i := 14) rfl) rfl
theorem q79 : (Jvm.Cond.selects "FrameHeirsModel" ({ cls := "FrameHeirsModel", name := "isDeed", desc := "(I)Z" } : Jvm.MethodName) ({ cls := "FrameHeirsModel", name := "isDeed", desc := "(I)Z" } : Jvm.MethodName)) ∈ gw := gw_mem (mP5 (i := 15) rfl) rfl
theorem q80 : (Jvm.Cond.selects "FrameHeirsModel" ({ cls := "FrameHeirsModel", name := "isBusyThere", desc := "()Z" } : Jvm.MethodName) ({ cls := "FrameHeirsModel", name := "isBusyThere", desc := "()Z" } : Jvm.MethodName)) ∈ gw := gw_mem (mP6 (i := 0) rfl) rfl
theorem q81 : (Jvm.Cond.selects "FrameHeirsModel" ({ cls := "FrameHeirsModel", name := "isBusy", desc := "(I)Z" } : Jvm.MethodName) ({ cls := "FrameHeirsModel", name := "isBusy", desc := "(I)Z" } : Jvm.MethodName)) ∈ gw := gw_mem (mP6 (i := 1) rfl) rfl
theorem q82 : (Jvm.Cond.selects "FrameHeirsModel" ({ cls := "FrameHeirsModel", name := "giverOf", desc := "(I)I" } : Jvm.MethodName) ({ cls := "FrameHeirsModel", name := "giverOf", desc := "(I)I" } : Jvm.MethodName)) ∈ gw := gw_mem (mP6 (i := 2) rfl) rfl
theorem q83 : (Jvm.Cond.selects "FrameHeirsModel" ({ cls := "FrameHeirsModel", name := "isFree", desc := "(III)Z" } : Jvm.MethodName) ({ cls := "FrameHeirsModel", name := "isFree", desc := "(III)Z" } : Jvm.MethodName)) ∈ gw := gw_mem (mP6 (i := 3) rfl) rfl
theorem q84 : (Jvm.Cond.selects "FrameHeirsModel" ({ cls := "FrameHeirsModel", name := "pagesOf", desc := "(I)I" } : Jvm.MethodName) ({ cls := "FrameHeirsModel", name := "pagesOf", desc := "(I)I" } : Jvm.MethodName)) ∈ gw := gw_mem (mP6 (i := 4) rfl) rfl
theorem q85 : (Jvm.Cond.selects "FrameHeirsModel" ({ cls := "FrameHeirsModel", name := "pagesIn", desc := "(I)I" } : Jvm.MethodName) ({ cls := "FrameHeirsModel", name := "pagesIn", desc := "(I)I" } : Jvm.MethodName)) ∈ gw := gw_mem (mP6 (i := 5) rfl) rfl
theorem q86 : (Jvm.Cond.selects "FrameHeirsModel" ({ cls := "FrameHeirsModel", name := "mostOf", desc := "(I)I" } : Jvm.MethodName) ({ cls := "FrameHeirsModel", name := "mostOf", desc := "(I)I" } : Jvm.MethodName)) ∈ gw := gw_mem (mP6 (i := 6) rfl) rfl
theorem q87 : (Jvm.Cond.selects "FrameHeirsModel" ({ cls := "FrameHeirsModel", name := "granted", desc := "(IIII)I" } : Jvm.MethodName) ({ cls := "FrameHeirsModel", name := "granted", desc := "(IIII)I" } : Jvm.MethodName)) ∈ gw := gw_mem (mP6 (i := 7) rfl) rfl
theorem q88 : (Jvm.Cond.selects "FrameHeirsModel" ({ cls := "FrameHeirsModel", name := "isBusyBelowThere", desc := "()Z" } : Jvm.MethodName) ({ cls := "FrameHeirsModel", name := "isBusyBelowThere", desc := "()Z" } : Jvm.MethodName)) ∈ gw := gw_mem (mP6 (i := 8) rfl) rfl
theorem q89 : (Jvm.Cond.selects "FrameHeirsModel" ({ cls := "FrameHeirsModel", name := "isBusyBelow", desc := "(I)Z" } : Jvm.MethodName) ({ cls := "FrameHeirsModel", name := "isBusyBelow", desc := "(I)Z" } : Jvm.MethodName)) ∈ gw := gw_mem (mP6 (i := 9) rfl) rfl
theorem q90 : (Jvm.Cond.selects "FrameHeirsModel" ({ cls := "FrameHeirsModel", name := "isAbove", desc := "(II)Z" } : Jvm.MethodName) ({ cls := "FrameHeirsModel", name := "isAbove", desc := "(II)Z" } : Jvm.MethodName)) ∈ gw := gw_mem (mP6 (i := 10) rfl) rfl
theorem q91 : (Jvm.Cond.selects "FrameHeirsModel" ({ cls := "FrameHeirsModel", name := "cuts", desc := "(III)V" } : Jvm.MethodName) ({ cls := "FrameHeirsModel", name := "cuts", desc := "(III)V" } : Jvm.MethodName)) ∈ gw := gw_mem (mP6 (i := 11) rfl) rfl
theorem q92 : (Jvm.Cond.selects "FrameHeirsModel" ({ cls := "FrameHeirsModel", name := "splits", desc := "(I)V" } : Jvm.MethodName) ({ cls := "FrameHeirsModel", name := "splits", desc := "(I)V" } : Jvm.MethodName)) ∈ gw := gw_mem (mP6 (i := 12) rfl) rfl
theorem q93 : (Jvm.Cond.selects "FrameHeirsModel" ({ cls := "FrameHeirsModel", name := "adds", desc := "(I)V" } : Jvm.MethodName) ({ cls := "FrameHeirsModel", name := "adds", desc := "(I)V" } : Jvm.MethodName)) ∈ gw := gw_mem (mP6 (i := 13) rfl) rfl
theorem q94 : (Jvm.Cond.selects "FrameHeirsModel" ({ cls := "FrameHeirsModel", name := "firstOf", desc := "(I)I" } : Jvm.MethodName) ({ cls := "FrameHeirsModel", name := "firstOf", desc := "(I)I" } : Jvm.MethodName)) ∈ gw := gw_mem (mP6 (i := 14) rfl) rfl
theorem q95 : (Jvm.Cond.selects "FrameHeirsModel" ({ cls := "FrameHeirsModel", name := "nextOf", desc := "(I)I" } : Jvm.MethodName) ({ cls := "FrameHeirsModel", name := "nextOf", desc := "(I)I" } : Jvm.MethodName)) ∈ gw := gw_mem (mP6 (i := 15) rfl) rfl
theorem q96 : (Jvm.Cond.selects "FrameHeirsModel" ({ cls := "FrameHeirsModel", name := "halves", desc := "(I)V" } : Jvm.MethodName) ({ cls := "FrameHeirsModel", name := "halves", desc := "(I)V" } : Jvm.MethodName)) ∈ gw := gw_mem (mP7 (i := 0) rfl) rfl
theorem q97 : (Jvm.Cond.selects "FrameHeirsModel" ({ cls := "FrameHeirsModel", name := "more", desc := "(I)V" } : Jvm.MethodName) ({ cls := "FrameHeirsModel", name := "more", desc := "(I)V" } : Jvm.MethodName)) ∈ gw := gw_mem (mP7 (i := 1) rfl) rfl
theorem q98 : (Jvm.Cond.selects "FrameHeirsModel" ({ cls := "FrameHeirsModel", name := "movesTo", desc := "(II)V" } : Jvm.MethodName) ({ cls := "FrameHeirsModel", name := "movesTo", desc := "(II)V" } : Jvm.MethodName)) ∈ gw := gw_mem (mP7 (i := 2) rfl) rfl
theorem q99 : (Jvm.Cond.selects "FrameHeirsModel" ({ cls := "FrameHeirsModel", name := "flushed", desc := "(IIIZ)I" } : Jvm.MethodName) ({ cls := "FrameHeirsModel", name := "flushed", desc := "(IIIZ)I" } : Jvm.MethodName)) ∈ gw := gw_mem (mP7 (i := 3) rfl) rfl
theorem q100 : (Jvm.Cond.selects "FrameHeirsModel" ({ cls := "FrameHeirsModel", name := "pendingMany", desc := "()I" } : Jvm.MethodName) ({ cls := "FrameHeirsModel", name := "pendingMany", desc := "()I" } : Jvm.MethodName)) ∈ gw := gw_mem (mP7 (i := 4) rfl) rfl
theorem q101 : (Jvm.Cond.selects "FrameHeirsModel" ({ cls := "FrameHeirsModel", name := "listsTop", desc := "(IZII)I" } : Jvm.MethodName) ({ cls := "FrameHeirsModel", name := "listsTop", desc := "(IZII)I" } : Jvm.MethodName)) ∈ gw := gw_mem (mP7 (i := 5) rfl) rfl
theorem q102 : (Jvm.Cond.selects "FrameHeirsModel" ({ cls := "FrameHeirsModel", name := "lists", desc := "(III)I" } : Jvm.MethodName) ({ cls := "FrameHeirsModel", name := "lists", desc := "(III)I" } : Jvm.MethodName)) ∈ gw := gw_mem (mP7 (i := 6) rfl) rfl
theorem q103 : (Jvm.Cond.selects "FrameHeirsModel" ({ cls := "FrameHeirsModel", name := "worked", desc := "(I)I" } : Jvm.MethodName) ({ cls := "FrameHeirsModel", name := "worked", desc := "(I)I" } : Jvm.MethodName)) ∈ gw := gw_mem (mP7 (i := 7) rfl) rfl
theorem q104 : (Jvm.Cond.selects "FrameHeirsModel" ({ cls := "FrameHeirsModel", name := "isWorking", desc := "()Z" } : Jvm.MethodName) ({ cls := "FrameHeirsModel", name := "isWorking", desc := "()Z" } : Jvm.MethodName)) ∈ gw := gw_mem (mP7 (i := 8) rfl) rfl
theorem q105 : (Jvm.Cond.selects "FrameHeirsModel" ({ cls := "FrameHeirsModel", name := "goes", desc := "(I)V" } : Jvm.MethodName) ({ cls := "FrameHeirsModel", name := "goes", desc := "(I)V" } : Jvm.MethodName)) ∈ gw := gw_mem (mP7 (i := 9) rfl) rfl
theorem q106 : (Jvm.Cond.selects "FrameHeirsModel" ({ cls := "FrameHeirsModel", name := "leaves", desc := "(I)V" } : Jvm.MethodName) ({ cls := "FrameHeirsModel", name := "leaves", desc := "(I)V" } : Jvm.MethodName)) ∈ gw := gw_mem (mP7 (i := 10) rfl) rfl
theorem q107 : (Jvm.Cond.selects "FrameHeirsModel" ({ cls := "FrameHeirsModel", name := "tree", desc := "(I)V" } : Jvm.MethodName) ({ cls := "FrameHeirsModel", name := "tree", desc := "(I)V" } : Jvm.MethodName)) ∈ gw := gw_mem (mP7 (i := 11) rfl) rfl
theorem q108 : (Jvm.Cond.selects "FrameHeirsModel" ({ cls := "FrameHeirsModel", name := "jobOver", desc := "()V" } : Jvm.MethodName) ({ cls := "FrameHeirsModel", name := "jobOver", desc := "()V" } : Jvm.MethodName)) ∈ gw := gw_mem (mP7 (i := 12) rfl) rfl
theorem q109 : (Jvm.Cond.selects "FrameHeirsModel" ({ cls := "FrameHeirsModel", name := "ticks", desc := "()V" } : Jvm.MethodName) ({ cls := "FrameHeirsModel", name := "ticks", desc := "()V" } : Jvm.MethodName)) ∈ gw := gw_mem (mP7 (i := 13) rfl) rfl
theorem q110 : (Jvm.Cond.selects "FrameHeirsModel" ({ cls := "FrameHeirsModel", name := "deedsMany", desc := "()I" } : Jvm.MethodName) ({ cls := "FrameHeirsModel", name := "deedsMany", desc := "()I" } : Jvm.MethodName)) ∈ gw := gw_mem (mP7 (i := 14) rfl) rfl
theorem q111 : (Jvm.Cond.selects "FrameHeirsModel" ({ cls := "FrameHeirsModel", name := "isTouch", desc := "(III)Z" } : Jvm.MethodName) ({ cls := "FrameHeirsModel", name := "isTouch", desc := "(III)Z" } : Jvm.MethodName)) ∈ gw := gw_mem (mP7 (i := 15) rfl) rfl
theorem q112 : (Jvm.Cond.selects "FrameHeirsModel" ({ cls := "FrameHeirsModel", name := "isWaiting", desc := "(I)Z" } : Jvm.MethodName) ({ cls := "FrameHeirsModel", name := "isWaiting", desc := "(I)Z" } : Jvm.MethodName)) ∈ gw := gw_mem (mP8 (i := 0) rfl) rfl
theorem q113 : (Jvm.Cond.selects "FrameHeirsModel" ({ cls := "FrameHeirsModel", name := "touched", desc := "(III)I" } : Jvm.MethodName) ({ cls := "FrameHeirsModel", name := "touched", desc := "(III)I" } : Jvm.MethodName)) ∈ gw := gw_mem (mP8 (i := 1) rfl) rfl
theorem q114 : (Jvm.Cond.selects "FrameHeirsModel" ({ cls := "FrameHeirsModel", name := "has", desc := "(III)Z" } : Jvm.MethodName) ({ cls := "FrameHeirsModel", name := "has", desc := "(III)Z" } : Jvm.MethodName)) ∈ gw := gw_mem (mP8 (i := 2) rfl) rfl
theorem q115 : (Jvm.Cond.selects "FrameHeirsModel" ({ cls := "FrameHeirsModel", name := "frameAt", desc := "(II)I" } : Jvm.MethodName) ({ cls := "FrameHeirsModel", name := "frameAt", desc := "(II)I" } : Jvm.MethodName)) ∈ gw := gw_mem (mP8 (i := 3) rfl) rfl
theorem q116 : (Jvm.Cond.selects "FrameHeirsModel" ({ cls := "FrameHeirsModel", name := "waitsFor", desc := "(III)V" } : Jvm.MethodName) ({ cls := "FrameHeirsModel", name := "waitsFor", desc := "(III)V" } : Jvm.MethodName)) ∈ gw := gw_mem (mP8 (i := 4) rfl) rfl
theorem q117 : (Jvm.Cond.selects "FrameHeirsModel" ({ cls := "FrameHeirsModel", name := "served", desc := "(I)I" } : Jvm.MethodName) ({ cls := "FrameHeirsModel", name := "served", desc := "(I)I" } : Jvm.MethodName)) ∈ gw := gw_mem (mP8 (i := 5) rfl) rfl
theorem q118 : (Jvm.Cond.selects "FrameHeirsModel" ({ cls := "FrameHeirsModel", name := "firstFor", desc := "(I)I" } : Jvm.MethodName) ({ cls := "FrameHeirsModel", name := "firstFor", desc := "(I)I" } : Jvm.MethodName)) ∈ gw := gw_mem (mP8 (i := 6) rfl) rfl
theorem q119 : (Jvm.Cond.selects "FrameHeirsModel" ({ cls := "FrameHeirsModel", name := "placeBy", desc := "(IIII)I" } : Jvm.MethodName) ({ cls := "FrameHeirsModel", name := "placeBy", desc := "(IIII)I" } : Jvm.MethodName)) ∈ gw := gw_mem (mP8 (i := 7) rfl) rfl
theorem q120 : (Jvm.Cond.selects "FrameHeirsModel" ({ cls := "FrameHeirsModel", name := "aliasesOf", desc := "(II)I" } : Jvm.MethodName) ({ cls := "FrameHeirsModel", name := "aliasesOf", desc := "(II)I" } : Jvm.MethodName)) ∈ gw := gw_mem (mP8 (i := 8) rfl) rfl
theorem q121 : (Jvm.Cond.selects "FrameHeirsModel" ({ cls := "FrameHeirsModel", name := "refuses", desc := "(I)I" } : Jvm.MethodName) ({ cls := "FrameHeirsModel", name := "refuses", desc := "(I)I" } : Jvm.MethodName)) ∈ gw := gw_mem (mP8 (i := 9) rfl) rfl
theorem q122 : (Jvm.Cond.selects "FrameHeirsModel" ({ cls := "FrameHeirsModel", name := "coldestOf", desc := "(IZ)I" } : Jvm.MethodName) ({ cls := "FrameHeirsModel", name := "coldestOf", desc := "(IZ)I" } : Jvm.MethodName)) ∈ gw := gw_mem (mP8 (i := 10) rfl) rfl
theorem q123 : (Jvm.Cond.selects "FrameHeirsModel" ({ cls := "FrameHeirsModel", name := "settles", desc := "()I" } : Jvm.MethodName) ({ cls := "FrameHeirsModel", name := "settles", desc := "()I" } : Jvm.MethodName)) ∈ gw := gw_mem (mP8 (i := 11) rfl) rfl
theorem q124 : (Jvm.Cond.selects "FrameHeirsModel" ({ cls := "FrameHeirsModel", name := "tidies", desc := "(I)I" } : Jvm.MethodName) ({ cls := "FrameHeirsModel", name := "tidies", desc := "(I)I" } : Jvm.MethodName)) ∈ gw := gw_mem (mP8 (i := 12) rfl) rfl
theorem q125 : (Jvm.Cond.selects "FrameHeirsModel" ({ cls := "FrameHeirsModel", name := "pairIn", desc := "(I)I" } : Jvm.MethodName) ({ cls := "FrameHeirsModel", name := "pairIn", desc := "(I)I" } : Jvm.MethodName)) ∈ gw := gw_mem (mP8 (i := 13) rfl) rfl
theorem q126 : (Jvm.Cond.selects "FrameHeirsModel" ({ cls := "FrameHeirsModel", name := "isPair", desc := "(II)Z" } : Jvm.MethodName) ({ cls := "FrameHeirsModel", name := "isPair", desc := "(II)Z" } : Jvm.MethodName)) ∈ gw := gw_mem (mP8 (i := 14) rfl) rfl
theorem q127 : (Jvm.Cond.selects "FrameHeirsModel" ({ cls := "FrameHeirsModel", name := "oneOf", desc := "(II)V" } : Jvm.MethodName) ({ cls := "FrameHeirsModel", name := "oneOf", desc := "(II)V" } : Jvm.MethodName)) ∈ gw := gw_mem (mP8 (i := 15) rfl) rfl
theorem q128 : (Jvm.Cond.selects "FrameHeirsModel" ({ cls := "FrameHeirsModel", name := "isSmallLine", desc := "(II)Z" } : Jvm.MethodName) ({ cls := "FrameHeirsModel", name := "isSmallLine", desc := "(II)Z" } : Jvm.MethodName)) ∈ gw := gw_mem (mP9 (i := 0) rfl) rfl
theorem q129 : (Jvm.Cond.selects "FrameHeirsModel" ({ cls := "FrameHeirsModel", name := "stepDone", desc := "(I)I" } : Jvm.MethodName) ({ cls := "FrameHeirsModel", name := "stepDone", desc := "(I)I" } : Jvm.MethodName)) ∈ gw := gw_mem (mP9 (i := 1) rfl) rfl
theorem q130 : (Jvm.Cond.selects "FrameHeirsModel" ({ cls := "FrameHeirsModel", name := "fails", desc := "(I)I" } : Jvm.MethodName) ({ cls := "FrameHeirsModel", name := "fails", desc := "(I)I" } : Jvm.MethodName)) ∈ gw := gw_mem (mP9 (i := 2) rfl) rfl
theorem q131 : (Jvm.Cond.selects "FrameHeirsModel" ({ cls := "FrameHeirsModel", name := "aboveMany", desc := "(I)I" } : Jvm.MethodName) ({ cls := "FrameHeirsModel", name := "aboveMany", desc := "(I)I" } : Jvm.MethodName)) ∈ gw := gw_mem (mP9 (i := 3) rfl) rfl
theorem q132 : (Jvm.Cond.selects "FrameHeirsModel" ({ cls := "FrameHeirsModel", name := "heirsMany", desc := "(I)I" } : Jvm.MethodName) ({ cls := "FrameHeirsModel", name := "heirsMany", desc := "(I)I" } : Jvm.MethodName)) ∈ gw := gw_mem (mP9 (i := 4) rfl) rfl
theorem q133 : (Jvm.Cond.selects "FrameHeirsModel" ({ cls := "FrameHeirsModel", name := "belowMany", desc := "(I)I" } : Jvm.MethodName) ({ cls := "FrameHeirsModel", name := "belowMany", desc := "(I)I" } : Jvm.MethodName)) ∈ gw := gw_mem (mP9 (i := 5) rfl) rfl
theorem q134 : (Jvm.Cond.selects "FrameHeirsModel" ({ cls := "FrameHeirsModel", name := "isBelow", desc := "(II)Z" } : Jvm.MethodName) ({ cls := "FrameHeirsModel", name := "isBelow", desc := "(II)Z" } : Jvm.MethodName)) ∈ gw := gw_mem (mP9 (i := 6) rfl) rfl
theorem q135 : (Jvm.Cond.selects "FrameHeirsModel" ({ cls := "FrameHeirsModel", name := "isTopGate", desc := "(II)Z" } : Jvm.MethodName) ({ cls := "FrameHeirsModel", name := "isTopGate", desc := "(II)Z" } : Jvm.MethodName)) ∈ gw := gw_mem (mP9 (i := 7) rfl) rfl
theorem q136 : (Jvm.Cond.selects "FrameHeirsModel" ({ cls := "FrameHeirsModel", name := "isGate", desc := "(II)Z" } : Jvm.MethodName) ({ cls := "FrameHeirsModel", name := "isGate", desc := "(II)Z" } : Jvm.MethodName)) ∈ gw := gw_mem (mP9 (i := 8) rfl) rfl
theorem q137 : (Jvm.Cond.selects "FrameHeirsModel" ({ cls := "FrameHeirsModel", name := "warmthOf", desc := "(I)I" } : Jvm.MethodName) ({ cls := "FrameHeirsModel", name := "warmthOf", desc := "(I)I" } : Jvm.MethodName)) ∈ gw := gw_mem (mP9 (i := 9) rfl) rfl
theorem q138 : (Jvm.Cond.selects "FrameHeirsModel" ({ cls := "FrameHeirsModel", name := "asNow", desc := "()V" } : Jvm.MethodName) ({ cls := "FrameHeirsModel", name := "asNow", desc := "()V" } : Jvm.MethodName)) ∈ gw := gw_mem (mP9 (i := 10) rfl) rfl
theorem q139 : (Jvm.Cond.selects "FrameHeirsModel" ({ cls := "FrameHeirsModel", name := "isBelowThere", desc := "(I)Z" } : Jvm.MethodName) ({ cls := "FrameHeirsModel", name := "isBelowThere", desc := "(I)Z" } : Jvm.MethodName)) ∈ gw := gw_mem (mP9 (i := 11) rfl) rfl
theorem q140 : (Jvm.Cond.selects "FrameHeirsModel" ({ cls := "FrameHeirsModel", name := "pagesAll", desc := "()I" } : Jvm.MethodName) ({ cls := "FrameHeirsModel", name := "pagesAll", desc := "()I" } : Jvm.MethodName)) ∈ gw := gw_mem (mP9 (i := 12) rfl) rfl
theorem q141 : (Jvm.Cond.selects "FrameHeirsModel" ({ cls := "FrameHeirsModel", name := "drawnBy", desc := "(I)I" } : Jvm.MethodName) ({ cls := "FrameHeirsModel", name := "drawnBy", desc := "(I)I" } : Jvm.MethodName)) ∈ gw := gw_mem (mP9 (i := 13) rfl) rfl
theorem q142 : (Jvm.Cond.initialized "FrameHeirsLaw") ∈ gw := gw_mem (mT1 (i := 0) rfl) rfl
theorem q143 : (Jvm.Cond.initialized "FrameHeirs") ∈ gw := gw_mem (mT1 (i := 1) rfl) rfl
theorem q144 : (Jvm.Cond.initialized "FrameHeirs$Script") ∈ gw := gw_mem (mT1 (i := 2) rfl) rfl
theorem q145 : (Jvm.Cond.initialized "FrameHeirs$Reader") ∈ gw := gw_mem (mT1 (i := 3) rfl) rfl
theorem q146 : (Jvm.Cond.initialized "FrameHeirs$World") ∈ gw := gw_mem (mT1 (i := 4) rfl) rfl
theorem q147 : (Jvm.Cond.initialized "FrameHeirs$Deeds") ∈ gw := gw_mem (mT1 (i := 5) rfl) rfl
theorem q148 : (Jvm.Cond.initialized "java/util/Arrays") ∈ gw := gw_mem (mT1 (i := 6) rfl) rfl
theorem q149 : (Jvm.Cond.initialized "FrameHeirsModel") ∈ gw := gw_mem (mT1 (i := 7) rfl) rfl
theorem q150 : (Jvm.Cond.initialized "java/lang/Math") ∈ gw := gw_mem (mT1 (i := 8) rfl) rfl
theorem q151 : (Jvm.Cond.initialized "java/lang/System") ∈ gw := gw_mem (mT1 (i := 9) rfl) rfl
theorem q152 : (Jvm.Cond.initialized "FrameHeirs$Questions") ∈ gw := gw_mem (mT1 (i := 10) rfl) rfl
theorem q153 : (Jvm.Cond.initialized "java/lang/Throwable") ∈ gw := gw_mem (mT1 (i := 11) rfl) rfl
theorem q154 : (Jvm.Cond.initialized "java/lang/Exception") ∈ gw := gw_mem (mT1 (i := 12) rfl) rfl
theorem q155 : (Jvm.Cond.initialized "java/lang/RuntimeException") ∈ gw := gw_mem (mT1 (i := 13) rfl) rfl
theorem q156 : (Jvm.Cond.initialized "java/lang/IndexOutOfBoundsException") ∈ gw := gw_mem (mT1 (i := 14) rfl) rfl
theorem q157 : (Jvm.Cond.initialized "java/util/NoSuchElementException") ∈ gw := gw_mem (mT1 (i := 15) rfl) rfl
theorem q158 : (Jvm.Cond.initialized "java/lang/Integer") ∈ gw := gw_mem (mT1 (i := 16) rfl) rfl
theorem q159 : (Jvm.Cond.classLink "FrameHeirsLaw" (8 : Nat) "FrameHeirs") ∈ gw := gw_mem (mT1 (i := 17) rfl) rfl
theorem q160 : (Jvm.Cond.instantiable "FrameHeirs" (10 : Nat)) ∈ gw := gw_mem (mT1 (i := 18) rfl) rfl
theorem q161 : (Jvm.Cond.methodLink "FrameHeirsLaw" (17 : Nat) ({ cls := "FrameHeirs", name := "<init>", desc := "()V" } : Jvm.MethodName)) ∈ gw := gw_mem (mT1 (i := 19) rfl) rfl
theorem q162 : (Jvm.Cond.instanceMethod ({ cls := "FrameHeirs", name := "<init>", desc := "()V" } : Jvm.MethodName)) ∈ gw := gw_mem (mT1 (i := 20) rfl) rfl
theorem q163 : (Jvm.Cond.code ({ cls := "FrameHeirs", name := "<init>", desc := "()V" } : Jvm.MethodName) prog_1_method_1_code (1 : Nat) (Option.none : Option Jvm.ClassFile.FieldType)) ∈ gw := gw_mem (mT1 (i := 21) rfl) rfl
theorem q164 : (Jvm.Cond.methodLink "FrameHeirs" (1 : Nat) ({ cls := "java/lang/Object", name := "<init>", desc := "()V" } : Jvm.MethodName)) ∈ gw := gw_mem (mT1 (i := 22) rfl) rfl
theorem q165 : (Jvm.Cond.instanceMethod ({ cls := "java/lang/Object", name := "<init>", desc := "()V" } : Jvm.MethodName)) ∈ gw := gw_mem (mT1 (i := 23) rfl) rfl
theorem q166 : (Jvm.Cond.code ({ cls := "java/lang/Object", name := "<init>", desc := "()V" } : Jvm.MethodName) object_method_1_code (1 : Nat) (Option.none : Option Jvm.ClassFile.FieldType)) ∈ gw := gw_mem (mT1 (i := 24) rfl) rfl
theorem q167 : (Jvm.Cond.classLink "FrameHeirs" (17 : Nat) "FrameHeirs$Script") ∈ gw := gw_mem (mT1 (i := 25) rfl) rfl
theorem q168 : (Jvm.Cond.instantiable "FrameHeirs$Script" (12 : Nat)) ∈ gw := gw_mem (mT1 (i := 26) rfl) rfl
theorem q170 : (Jvm.Cond.instanceMethod ({ cls := "FrameHeirs$Script", name := "<init>", desc := "()V" } : Jvm.MethodName)) ∈ gw := gw_mem (mT1 (i := 28) rfl) rfl
theorem q171 : (Jvm.Cond.code ({ cls := "FrameHeirs$Script", name := "<init>", desc := "()V" } : Jvm.MethodName) prog_5_method_1_code (1 : Nat) (Option.none : Option Jvm.ClassFile.FieldType)) ∈ gw := gw_mem (mT1 (i := 29) rfl) rfl
theorem q172 : (Jvm.Cond.methodLink "FrameHeirs$Script" (3 : Nat) ({ cls := "java/lang/Object", name := "<init>", desc := "()V" } : Jvm.MethodName)) ∈ gw := gw_mem (mT1 (i := 30) rfl) rfl
theorem q173 : (Jvm.Cond.fieldLink "FrameHeirs$Script" (9 : Nat) "FrameHeirs$Script" "names" "[I") ∈ gw := gw_mem (mT1 (i := 31) rfl) rfl
theorem q174 : (Jvm.Cond.fieldLink "FrameHeirs$Script" (15 : Nat) "FrameHeirs$Script" "pagers" "[I") ∈ gw := gw_mem (mT1 (i := 32) rfl) rfl
theorem q175 : (Jvm.Cond.fieldLink "FrameHeirs$Reader" (99 : Nat) "FrameHeirs$Script" "pagers" "[I") ∈ gw := gw_mem (mT1 (i := 33) rfl) rfl
theorem q176 : (Jvm.Cond.fieldLink "FrameHeirs$World" (223 : Nat) "FrameHeirs$Script" "pagers" "[I") ∈ gw := gw_mem (mT1 (i := 34) rfl) rfl
theorem q177 : (Jvm.Cond.fieldLink "FrameHeirs$Script" (18 : Nat) "FrameHeirs$Script" "ways" "[I") ∈ gw := gw_mem (mT1 (i := 35) rfl) rfl
theorem q178 : (Jvm.Cond.fieldLink "FrameHeirs$Reader" (105 : Nat) "FrameHeirs$Script" "ways" "[I") ∈ gw := gw_mem (mT1 (i := 36) rfl) rfl
theorem q179 : (Jvm.Cond.fieldLink "FrameHeirs$World" (253 : Nat) "FrameHeirs$Script" "ways" "[I") ∈ gw := gw_mem (mT1 (i := 37) rfl) rfl
theorem q180 : (Jvm.Cond.fieldLink "FrameHeirs$Script" (21 : Nat) "FrameHeirs$Script" "quotas" "[I") ∈ gw := gw_mem (mT1 (i := 38) rfl) rfl
theorem q181 : (Jvm.Cond.fieldLink "FrameHeirs$Reader" (108 : Nat) "FrameHeirs$Script" "quotas" "[I") ∈ gw := gw_mem (mT1 (i := 39) rfl) rfl
theorem q182 : (Jvm.Cond.fieldLink "FrameHeirs$World" (126 : Nat) "FrameHeirs$Script" "quotas" "[I") ∈ gw := gw_mem (mT1 (i := 40) rfl) rfl
theorem q183 : (Jvm.Cond.fieldLink "FrameHeirs$Script" (24 : Nat) "FrameHeirs$Script" "stepRows" "[I") ∈ gw := gw_mem (mT1 (i := 41) rfl) rfl
theorem q184 : (Jvm.Cond.fieldLink "FrameHeirs$Reader" (131 : Nat) "FrameHeirs$Script" "stepRows" "[I") ∈ gw := gw_mem (mT1 (i := 42) rfl) rfl
theorem q185 : (Jvm.Cond.fieldLink "FrameHeirs$World" (279 : Nat) "FrameHeirs$Script" "stepRows" "[I") ∈ gw := gw_mem (mT1 (i := 43) rfl) rfl
theorem q186 : (Jvm.Cond.fieldLink "FrameHeirs$Script" (27 : Nat) "FrameHeirs$Script" "spaces" "I") ∈ gw := gw_mem (mT1 (i := 44) rfl) rfl
theorem q187 : (Jvm.Cond.fieldLink "FrameHeirs$World" (77 : Nat) "FrameHeirs$Script" "spaces" "I") ∈ gw := gw_mem (mT1 (i := 45) rfl) rfl
theorem q188 : (Jvm.Cond.fieldLink "FrameHeirs$Reader" (84 : Nat) "FrameHeirs$Script" "spaces" "I") ∈ gw := gw_mem (mT1 (i := 46) rfl) rfl
theorem q189 : (Jvm.Cond.fieldLink "FrameHeirs" (282 : Nat) "FrameHeirs$Script" "spaces" "I") ∈ gw := gw_mem (mT1 (i := 47) rfl) rfl
theorem q190 : (Jvm.Cond.fieldLink "FrameHeirs$Script" (31 : Nat) "FrameHeirs$Script" "size" "I") ∈ gw := gw_mem (mT1 (i := 48) rfl) rfl
theorem q191 : (Jvm.Cond.fieldLink "FrameHeirs$World" (72 : Nat) "FrameHeirs$Script" "size" "I") ∈ gw := gw_mem (mT1 (i := 49) rfl) rfl
theorem q192 : (Jvm.Cond.fieldLink "FrameHeirs$Reader" (114 : Nat) "FrameHeirs$Script" "size" "I") ∈ gw := gw_mem (mT1 (i := 50) rfl) rfl
theorem q193 : (Jvm.Cond.fieldLink "FrameHeirs" (285 : Nat) "FrameHeirs$Script" "size" "I") ∈ gw := gw_mem (mT1 (i := 51) rfl) rfl
theorem q194 : (Jvm.Cond.fieldLink "FrameHeirs$Script" (34 : Nat) "FrameHeirs$Script" "budget" "I") ∈ gw := gw_mem (mT1 (i := 52) rfl) rfl
theorem q195 : (Jvm.Cond.fieldLink "FrameHeirs$Reader" (117 : Nat) "FrameHeirs$Script" "budget" "I") ∈ gw := gw_mem (mT1 (i := 53) rfl) rfl
theorem q196 : (Jvm.Cond.fieldLink "FrameHeirs" (150 : Nat) "FrameHeirs$Script" "budget" "I") ∈ gw := gw_mem (mT1 (i := 54) rfl) rfl
theorem q197 : (Jvm.Cond.fieldLink "FrameHeirs$Script" (37 : Nat) "FrameHeirs$Script" "decay" "I") ∈ gw := gw_mem (mT1 (i := 55) rfl) rfl
theorem q198 : (Jvm.Cond.fieldLink "FrameHeirs$Reader" (120 : Nat) "FrameHeirs$Script" "decay" "I") ∈ gw := gw_mem (mT1 (i := 56) rfl) rfl
theorem q199 : (Jvm.Cond.fieldLink "FrameHeirs" (127 : Nat) "FrameHeirs$Script" "decay" "I") ∈ gw := gw_mem (mT1 (i := 57) rfl) rfl
theorem q200 : (Jvm.Cond.fieldLink "FrameHeirs$Script" (40 : Nat) "FrameHeirs$Script" "seed" "I") ∈ gw := gw_mem (mT1 (i := 58) rfl) rfl
theorem q201 : (Jvm.Cond.fieldLink "FrameHeirs$Reader" (124 : Nat) "FrameHeirs$Script" "seed" "I") ∈ gw := gw_mem (mT1 (i := 59) rfl) rfl
theorem q202 : (Jvm.Cond.fieldLink "FrameHeirs" (288 : Nat) "FrameHeirs$Script" "seed" "I") ∈ gw := gw_mem (mT1 (i := 60) rfl) rfl
theorem q203 : (Jvm.Cond.fieldLink "FrameHeirs$Script" (43 : Nat) "FrameHeirs$Script" "stepCount" "I") ∈ gw := gw_mem (mT1 (i := 61) rfl) rfl
theorem q204 : (Jvm.Cond.fieldLink "FrameHeirs$Reader" (111 : Nat) "FrameHeirs$Script" "stepCount" "I") ∈ gw := gw_mem (mT1 (i := 62) rfl) rfl
theorem q205 : (Jvm.Cond.fieldLink "FrameHeirs" (144 : Nat) "FrameHeirs$Script" "stepCount" "I") ∈ gw := gw_mem (mT1 (i := 63) rfl) rfl
theorem q206 : (Jvm.Cond.fieldLink "FrameHeirs$World" (276 : Nat) "FrameHeirs$Script" "stepCount" "I") ∈ gw := gw_mem (mT1 (i := 64) rfl) rfl
theorem q207 : (Jvm.Cond.fieldLink "FrameHeirs$Script" (46 : Nat) "FrameHeirs$Script" "lines" "I") ∈ gw := gw_mem (mT1 (i := 65) rfl) rfl
theorem q208 : (Jvm.Cond.fieldLink "FrameHeirs" (78 : Nat) "FrameHeirs$Script" "lines" "I") ∈ gw := gw_mem (mT1 (i := 66) rfl) rfl
theorem q209 : (Jvm.Cond.fieldLink "FrameHeirs$Reader" (81 : Nat) "FrameHeirs$Script" "lines" "I") ∈ gw := gw_mem (mT1 (i := 67) rfl) rfl
theorem q210 : (Jvm.Cond.laysFinal "FrameHeirs$Script" "FrameHeirs$Script" "names" "[I") ∈ gw := gw_mem (mT1 (i := 68) rfl) rfl
theorem q212 : (Jvm.Cond.laysFinal "FrameHeirs$Script" "FrameHeirs$Script" "pagers" "[I") ∈ gw := gw_mem (mT1 (i := 70) rfl) rfl
theorem q214 : (Jvm.Cond.laysFinal "FrameHeirs$Script" "FrameHeirs$Script" "ways" "[I") ∈ gw := gw_mem (mT1 (i := 72) rfl) rfl
theorem q216 : (Jvm.Cond.laysFinal "FrameHeirs$Script" "FrameHeirs$Script" "quotas" "[I") ∈ gw := gw_mem (mT1 (i := 74) rfl) rfl
theorem q218 : (Jvm.Cond.laysFinal "FrameHeirs$Script" "FrameHeirs$Script" "stepRows" "[I") ∈ gw := gw_mem (mT1 (i := 76) rfl) rfl
theorem q220 : (Jvm.Cond.lays "FrameHeirs$Script" "FrameHeirs$Script" "spaces" "I") ∈ gw := gw_mem (mT1 (i := 78) rfl) rfl
theorem q222 : (Jvm.Cond.lays "FrameHeirs$Script" "FrameHeirs$Script" "size" "I") ∈ gw := gw_mem (mT1 (i := 80) rfl) rfl
theorem q224 : (Jvm.Cond.lays "FrameHeirs$Script" "FrameHeirs$Script" "budget" "I") ∈ gw := gw_mem (mT1 (i := 82) rfl) rfl
theorem q226 : (Jvm.Cond.lays "FrameHeirs$Script" "FrameHeirs$Script" "decay" "I") ∈ gw := gw_mem (mT1 (i := 84) rfl) rfl
theorem q228 : (Jvm.Cond.lays "FrameHeirs$Script" "FrameHeirs$Script" "seed" "I") ∈ gw := gw_mem (mT1 (i := 86) rfl) rfl
theorem q230 : (Jvm.Cond.lays "FrameHeirs$Script" "FrameHeirs$Script" "stepCount" "I") ∈ gw := gw_mem (mT1 (i := 88) rfl) rfl
theorem q232 : (Jvm.Cond.lays "FrameHeirs$Script" "FrameHeirs$Script" "lines" "I") ∈ gw := gw_mem (mT1 (i := 90) rfl) rfl
theorem q235 : (Jvm.Cond.arrayClass Jvm.ClassFile.FieldType.int) ∈ gw := gw_mem (mT1 (i := 93) rfl) rfl
theorem q236 : (Jvm.Cond.classLink "FrameHeirs" (24 : Nat) "FrameHeirs$Reader") ∈ gw := gw_mem (mT1 (i := 94) rfl) rfl
theorem q237 : (Jvm.Cond.instantiable "FrameHeirs$Reader" (11 : Nat)) ∈ gw := gw_mem (mT1 (i := 95) rfl) rfl
theorem q238 : (Jvm.Cond.methodLink "FrameHeirs" (26 : Nat) ({ cls := "FrameHeirs$Reader", name := "<init>", desc := "([ILFrameHeirs$Script;)V" } : Jvm.MethodName)) ∈ gw := gw_mem (mT1 (i := 96) rfl) rfl
theorem q239 : (Jvm.Cond.instanceMethod ({ cls := "FrameHeirs$Reader", name := "<init>", desc := "([ILFrameHeirs$Script;)V" } : Jvm.MethodName)) ∈ gw := gw_mem (mT1 (i := 97) rfl) rfl
theorem q240 : (Jvm.Cond.code ({ cls := "FrameHeirs$Reader", name := "<init>", desc := "([ILFrameHeirs$Script;)V" } : Jvm.MethodName) prog_4_method_1_code (3 : Nat) (Option.none : Option Jvm.ClassFile.FieldType)) ∈ gw := gw_mem (mT1 (i := 98) rfl) rfl
theorem q241 : (Jvm.Cond.methodLink "FrameHeirs$Reader" (3 : Nat) ({ cls := "java/lang/Object", name := "<init>", desc := "()V" } : Jvm.MethodName)) ∈ gw := gw_mem (mT1 (i := 99) rfl) rfl
theorem q242 : (Jvm.Cond.fieldLink "FrameHeirs$Reader" (9 : Nat) "FrameHeirs$Reader" "faultKind" "I") ∈ gw := gw_mem (mT1 (i := 100) rfl) rfl
theorem q243 : (Jvm.Cond.fieldLink "FrameHeirs" (81 : Nat) "FrameHeirs$Reader" "faultKind" "I") ∈ gw := gw_mem (mT1 (i := 101) rfl) rfl
theorem q244 : (Jvm.Cond.fieldLink "FrameHeirs$Reader" (15 : Nat) "FrameHeirs$Reader" "faultPlace" "I") ∈ gw := gw_mem (mT1 (i := 102) rfl) rfl
theorem q245 : (Jvm.Cond.fieldLink "FrameHeirs" (84 : Nat) "FrameHeirs$Reader" "faultPlace" "I") ∈ gw := gw_mem (mT1 (i := 103) rfl) rfl
theorem q246 : (Jvm.Cond.fieldLink "FrameHeirs$Reader" (39 : Nat) "FrameHeirs$Reader" "bytes" "[I") ∈ gw := gw_mem (mT1 (i := 104) rfl) rfl
theorem q247 : (Jvm.Cond.fieldLink "FrameHeirs$Reader" (18 : Nat) "FrameHeirs$Reader" "length" "I") ∈ gw := gw_mem (mT1 (i := 105) rfl) rfl
theorem q248 : (Jvm.Cond.fieldLink "FrameHeirs$Reader" (21 : Nat) "FrameHeirs$Reader" "position" "I") ∈ gw := gw_mem (mT1 (i := 106) rfl) rfl
theorem q249 : (Jvm.Cond.fieldLink "FrameHeirs$Reader" (24 : Nat) "FrameHeirs$Reader" "kind" "I") ∈ gw := gw_mem (mT1 (i := 107) rfl) rfl
theorem q250 : (Jvm.Cond.fieldLink "FrameHeirs$Reader" (27 : Nat) "FrameHeirs$Reader" "start" "I") ∈ gw := gw_mem (mT1 (i := 108) rfl) rfl
theorem q251 : (Jvm.Cond.fieldLink "FrameHeirs$Reader" (30 : Nat) "FrameHeirs$Reader" "value" "I") ∈ gw := gw_mem (mT1 (i := 109) rfl) rfl
theorem q252 : (Jvm.Cond.fieldLink "FrameHeirs$Reader" (33 : Nat) "FrameHeirs$Reader" "toldWords" "I") ∈ gw := gw_mem (mT1 (i := 110) rfl) rfl
theorem q253 : (Jvm.Cond.fieldLink "FrameHeirs$Reader" (36 : Nat) "FrameHeirs$Reader" "toldQuotas" "I") ∈ gw := gw_mem (mT1 (i := 111) rfl) rfl
theorem q254 : (Jvm.Cond.fieldLink "FrameHeirs$Reader" (43 : Nat) "FrameHeirs$Reader" "into" "LFrameHeirs$Script;") ∈ gw := gw_mem (mT1 (i := 112) rfl) rfl
theorem q255 : (Jvm.Cond.lays "FrameHeirs$Reader" "FrameHeirs$Reader" "faultKind" "I") ∈ gw := gw_mem (mT1 (i := 113) rfl) rfl
theorem q257 : (Jvm.Cond.lays "FrameHeirs$Reader" "FrameHeirs$Reader" "faultPlace" "I") ∈ gw := gw_mem (mT1 (i := 115) rfl) rfl
theorem q259 : (Jvm.Cond.laysFinal "FrameHeirs$Reader" "FrameHeirs$Reader" "bytes" "[I") ∈ gw := gw_mem (mT1 (i := 117) rfl) rfl
theorem q261 : (Jvm.Cond.lays "FrameHeirs$Reader" "FrameHeirs$Reader" "length" "I") ∈ gw := gw_mem (mT1 (i := 119) rfl) rfl
theorem q263 : (Jvm.Cond.lays "FrameHeirs$Reader" "FrameHeirs$Reader" "position" "I") ∈ gw := gw_mem (mT1 (i := 121) rfl) rfl
theorem q265 : (Jvm.Cond.lays "FrameHeirs$Reader" "FrameHeirs$Reader" "kind" "I") ∈ gw := gw_mem (mT1 (i := 123) rfl) rfl
theorem q267 : (Jvm.Cond.lays "FrameHeirs$Reader" "FrameHeirs$Reader" "start" "I") ∈ gw := gw_mem (mT1 (i := 125) rfl) rfl
theorem q269 : (Jvm.Cond.lays "FrameHeirs$Reader" "FrameHeirs$Reader" "value" "I") ∈ gw := gw_mem (mT1 (i := 127) rfl) rfl
theorem q271 : (Jvm.Cond.lays "FrameHeirs$Reader" "FrameHeirs$Reader" "toldWords" "I") ∈ gw := gw_mem (mT1 (i := 129) rfl) rfl
theorem q273 : (Jvm.Cond.lays "FrameHeirs$Reader" "FrameHeirs$Reader" "toldQuotas" "I") ∈ gw := gw_mem (mT1 (i := 131) rfl) rfl
theorem q275 : (Jvm.Cond.lays "FrameHeirs$Reader" "FrameHeirs$Reader" "into" "LFrameHeirs$Script;") ∈ gw := gw_mem (mT1 (i := 133) rfl) rfl
theorem q278 : (Jvm.Cond.classLink "FrameHeirs" (33 : Nat) "FrameHeirs$World") ∈ gw := gw_mem (mT1 (i := 136) rfl) rfl
theorem q279 : (Jvm.Cond.instantiable "FrameHeirs$World" (15 : Nat)) ∈ gw := gw_mem (mT1 (i := 137) rfl) rfl
theorem q280 : (Jvm.Cond.methodLink "FrameHeirs" (35 : Nat) ({ cls := "FrameHeirs$World", name := "<init>", desc := "(LFrameHeirs$Script;)V" } : Jvm.MethodName)) ∈ gw := gw_mem (mT1 (i := 138) rfl) rfl
theorem q281 : (Jvm.Cond.instanceMethod ({ cls := "FrameHeirs$World", name := "<init>", desc := "(LFrameHeirs$Script;)V" } : Jvm.MethodName)) ∈ gw := gw_mem (mT1 (i := 139) rfl) rfl
theorem q282 : (Jvm.Cond.code ({ cls := "FrameHeirs$World", name := "<init>", desc := "(LFrameHeirs$Script;)V" } : Jvm.MethodName) prog_6_method_1_code (2 : Nat) (Option.none : Option Jvm.ClassFile.FieldType)) ∈ gw := gw_mem (mT1 (i := 140) rfl) rfl
theorem q283 : (Jvm.Cond.methodLink "FrameHeirs$World" (3 : Nat) ({ cls := "java/lang/Object", name := "<init>", desc := "()V" } : Jvm.MethodName)) ∈ gw := gw_mem (mT1 (i := 141) rfl) rfl
theorem q284 : (Jvm.Cond.classLink "FrameHeirs$World" (9 : Nat) "FrameHeirs$Deeds") ∈ gw := gw_mem (mT1 (i := 142) rfl) rfl
theorem q285 : (Jvm.Cond.instantiable "FrameHeirs$Deeds" (20 : Nat)) ∈ gw := gw_mem (mT1 (i := 143) rfl) rfl
theorem q286 : (Jvm.Cond.methodLink "FrameHeirs$World" (11 : Nat) ({ cls := "FrameHeirs$Deeds", name := "<init>", desc := "()V" } : Jvm.MethodName)) ∈ gw := gw_mem (mT1 (i := 144) rfl) rfl
theorem q287 : (Jvm.Cond.instanceMethod ({ cls := "FrameHeirs$Deeds", name := "<init>", desc := "()V" } : Jvm.MethodName)) ∈ gw := gw_mem (mT1 (i := 145) rfl) rfl
theorem q288 : (Jvm.Cond.code ({ cls := "FrameHeirs$Deeds", name := "<init>", desc := "()V" } : Jvm.MethodName) prog_2_method_1_code (1 : Nat) (Option.none : Option Jvm.ClassFile.FieldType)) ∈ gw := gw_mem (mT1 (i := 146) rfl) rfl
theorem q289 : (Jvm.Cond.methodLink "FrameHeirs$Deeds" (3 : Nat) ({ cls := "java/lang/Object", name := "<init>", desc := "()V" } : Jvm.MethodName)) ∈ gw := gw_mem (mT1 (i := 147) rfl) rfl
theorem q290 : (Jvm.Cond.methodLink "FrameHeirs$Deeds" (74 : Nat) ({ cls := "java/util/Arrays", name := "fill", desc := "([II)V" } : Jvm.MethodName)) ∈ gw := gw_mem (mT1 (i := 148) rfl) rfl
theorem q291 : (Jvm.Cond.static ({ cls := "java/util/Arrays", name := "fill", desc := "([II)V" } : Jvm.MethodName)) ∈ gw := gw_mem (mT1 (i := 149) rfl) rfl
theorem q292 : (Jvm.Cond.code ({ cls := "java/util/Arrays", name := "fill", desc := "([II)V" } : Jvm.MethodName) prog_18_method_103_code (4 : Nat) (Option.none : Option Jvm.ClassFile.FieldType)) ∈ gw := gw_mem (mT1 (i := 150) rfl) rfl
theorem q293 : (Jvm.Cond.fieldLink "FrameHeirs$Deeds" (9 : Nat) "FrameHeirs$Deeds" "space" "[I") ∈ gw := gw_mem (mT1 (i := 151) rfl) rfl
theorem q294 : (Jvm.Cond.fieldLink "FrameHeirs$Questions" (73 : Nat) "FrameHeirs$Deeds" "space" "[I") ∈ gw := gw_mem (mT1 (i := 152) rfl) rfl
theorem q295 : (Jvm.Cond.fieldLink "FrameHeirs$Deeds" (15 : Nat) "FrameHeirs$Deeds" "place" "[I") ∈ gw := gw_mem (mT1 (i := 153) rfl) rfl
theorem q296 : (Jvm.Cond.fieldLink "FrameHeirs$Questions" (24 : Nat) "FrameHeirs$Deeds" "place" "[I") ∈ gw := gw_mem (mT1 (i := 154) rfl) rfl
theorem q297 : (Jvm.Cond.fieldLink "FrameHeirs$World" (110 : Nat) "FrameHeirs$Deeds" "place" "[I") ∈ gw := gw_mem (mT1 (i := 155) rfl) rfl
theorem q298 : (Jvm.Cond.fieldLink "FrameHeirs" (233 : Nat) "FrameHeirs$Deeds" "place" "[I") ∈ gw := gw_mem (mT1 (i := 156) rfl) rfl
theorem q299 : (Jvm.Cond.fieldLink "FrameHeirs$Deeds" (18 : Nat) "FrameHeirs$Deeds" "frame" "[I") ∈ gw := gw_mem (mT1 (i := 157) rfl) rfl
theorem q300 : (Jvm.Cond.fieldLink "FrameHeirs$Questions" (41 : Nat) "FrameHeirs$Deeds" "frame" "[I") ∈ gw := gw_mem (mT1 (i := 158) rfl) rfl
theorem q301 : (Jvm.Cond.fieldLink "FrameHeirs$World" (250 : Nat) "FrameHeirs$Deeds" "frame" "[I") ∈ gw := gw_mem (mT1 (i := 159) rfl) rfl
theorem q302 : (Jvm.Cond.fieldLink "FrameHeirs$Deeds" (21 : Nat) "FrameHeirs$Deeds" "order" "[I") ∈ gw := gw_mem (mT1 (i := 160) rfl) rfl
theorem q303 : (Jvm.Cond.fieldLink "FrameHeirs$Questions" (21 : Nat) "FrameHeirs$Deeds" "order" "[I") ∈ gw := gw_mem (mT1 (i := 161) rfl) rfl
theorem q304 : (Jvm.Cond.fieldLink "FrameHeirs$World" (158 : Nat) "FrameHeirs$Deeds" "order" "[I") ∈ gw := gw_mem (mT1 (i := 162) rfl) rfl
theorem q305 : (Jvm.Cond.fieldLink "FrameHeirs$Deeds" (24 : Nat) "FrameHeirs$Deeds" "rights" "[I") ∈ gw := gw_mem (mT1 (i := 163) rfl) rfl
theorem q306 : (Jvm.Cond.fieldLink "FrameHeirs$Questions" (15 : Nat) "FrameHeirs$Deeds" "rights" "[I") ∈ gw := gw_mem (mT1 (i := 164) rfl) rfl
theorem q307 : (Jvm.Cond.fieldLink "FrameHeirs$World" (155 : Nat) "FrameHeirs$Deeds" "rights" "[I") ∈ gw := gw_mem (mT1 (i := 165) rfl) rfl
theorem q308 : (Jvm.Cond.fieldLink "FrameHeirs$Deeds" (27 : Nat) "FrameHeirs$Deeds" "giver" "[I") ∈ gw := gw_mem (mT1 (i := 166) rfl) rfl
theorem q309 : (Jvm.Cond.fieldLink "FrameHeirs$Questions" (44 : Nat) "FrameHeirs$Deeds" "giver" "[I") ∈ gw := gw_mem (mT1 (i := 167) rfl) rfl
theorem q310 : (Jvm.Cond.fieldLink "FrameHeirs$World" (119 : Nat) "FrameHeirs$Deeds" "giver" "[I") ∈ gw := gw_mem (mT1 (i := 168) rfl) rfl
theorem q311 : (Jvm.Cond.fieldLink "FrameHeirs$Deeds" (30 : Nat) "FrameHeirs$Deeds" "first" "[I") ∈ gw := gw_mem (mT1 (i := 169) rfl) rfl
theorem q312 : (Jvm.Cond.fieldLink "FrameHeirs$Questions" (47 : Nat) "FrameHeirs$Deeds" "first" "[I") ∈ gw := gw_mem (mT1 (i := 170) rfl) rfl
theorem q313 : (Jvm.Cond.fieldLink "FrameHeirs$Deeds" (33 : Nat) "FrameHeirs$Deeds" "last" "[I") ∈ gw := gw_mem (mT1 (i := 171) rfl) rfl
theorem q314 : (Jvm.Cond.fieldLink "FrameHeirs$Deeds" (36 : Nat) "FrameHeirs$Deeds" "next" "[I") ∈ gw := gw_mem (mT1 (i := 172) rfl) rfl
theorem q315 : (Jvm.Cond.fieldLink "FrameHeirs$Questions" (50 : Nat) "FrameHeirs$Deeds" "next" "[I") ∈ gw := gw_mem (mT1 (i := 173) rfl) rfl
theorem q316 : (Jvm.Cond.fieldLink "FrameHeirs$Deeds" (39 : Nat) "FrameHeirs$Deeds" "previous" "[I") ∈ gw := gw_mem (mT1 (i := 174) rfl) rfl
theorem q317 : (Jvm.Cond.fieldLink "FrameHeirs$Deeds" (42 : Nat) "FrameHeirs$Deeds" "topOf" "[I") ∈ gw := gw_mem (mT1 (i := 175) rfl) rfl
theorem q318 : (Jvm.Cond.fieldLink "FrameHeirs$Deeds" (45 : Nat) "FrameHeirs$Deeds" "toDo" "[I") ∈ gw := gw_mem (mT1 (i := 176) rfl) rfl
theorem q319 : (Jvm.Cond.fieldLink "FrameHeirs$World" (207 : Nat) "FrameHeirs$Deeds" "toDo" "[I") ∈ gw := gw_mem (mT1 (i := 177) rfl) rfl
theorem q320 : (Jvm.Cond.fieldLink "FrameHeirs$Deeds" (48 : Nat) "FrameHeirs$Deeds" "turn" "[I") ∈ gw := gw_mem (mT1 (i := 178) rfl) rfl
theorem q321 : (Jvm.Cond.fieldLink "FrameHeirs$Deeds" (51 : Nat) "FrameHeirs$Deeds" "ages" "[F") ∈ gw := gw_mem (mT1 (i := 179) rfl) rfl
theorem q322 : (Jvm.Cond.fieldLink "FrameHeirs$World" (219 : Nat) "FrameHeirs$Deeds" "ages" "[F") ∈ gw := gw_mem (mT1 (i := 180) rfl) rfl
theorem q323 : (Jvm.Cond.fieldLink "FrameHeirs" (236 : Nat) "FrameHeirs$Deeds" "ages" "[F") ∈ gw := gw_mem (mT1 (i := 181) rfl) rfl
theorem q324 : (Jvm.Cond.fieldLink "FrameHeirs$Deeds" (55 : Nat) "FrameHeirs$Deeds" "slotAt" "[I") ∈ gw := gw_mem (mT1 (i := 182) rfl) rfl
theorem q325 : (Jvm.Cond.fieldLink "FrameHeirs$Deeds" (58 : Nat) "FrameHeirs$Deeds" "list" "[I") ∈ gw := gw_mem (mT1 (i := 183) rfl) rfl
theorem q326 : (Jvm.Cond.fieldLink "FrameHeirs$Questions" (83 : Nat) "FrameHeirs$Deeds" "list" "[I") ∈ gw := gw_mem (mT1 (i := 184) rfl) rfl
theorem q327 : (Jvm.Cond.fieldLink "FrameHeirs$Deeds" (61 : Nat) "FrameHeirs$Deeds" "bound" "I") ∈ gw := gw_mem (mT1 (i := 185) rfl) rfl
theorem q328 : (Jvm.Cond.fieldLink "FrameHeirs$Questions" (60 : Nat) "FrameHeirs$Deeds" "bound" "I") ∈ gw := gw_mem (mT1 (i := 186) rfl) rfl
theorem q329 : (Jvm.Cond.fieldLink "FrameHeirs$Deeds" (65 : Nat) "FrameHeirs$Deeds" "used" "I") ∈ gw := gw_mem (mT1 (i := 187) rfl) rfl
theorem q330 : (Jvm.Cond.fieldLink "FrameHeirs" (135 : Nat) "FrameHeirs$Deeds" "used" "I") ∈ gw := gw_mem (mT1 (i := 188) rfl) rfl
theorem q331 : (Jvm.Cond.fieldLink "FrameHeirs$Deeds" (68 : Nat) "FrameHeirs$Deeds" "tops" "I") ∈ gw := gw_mem (mT1 (i := 189) rfl) rfl
theorem q332 : (Jvm.Cond.fieldLink "FrameHeirs$Deeds" (71 : Nat) "FrameHeirs$Deeds" "splits" "I") ∈ gw := gw_mem (mT1 (i := 190) rfl) rfl
theorem q333 : (Jvm.Cond.fieldLink "FrameHeirs" (294 : Nat) "FrameHeirs$Deeds" "splits" "I") ∈ gw := gw_mem (mT1 (i := 191) rfl) rfl
theorem q334 : (Jvm.Cond.laysFinal "FrameHeirs$Deeds" "FrameHeirs$Deeds" "space" "[I") ∈ gw := gw_mem (mT1 (i := 192) rfl) rfl
theorem q336 : (Jvm.Cond.laysFinal "FrameHeirs$Deeds" "FrameHeirs$Deeds" "place" "[I") ∈ gw := gw_mem (mT1 (i := 194) rfl) rfl
theorem q338 : (Jvm.Cond.laysFinal "FrameHeirs$Deeds" "FrameHeirs$Deeds" "frame" "[I") ∈ gw := gw_mem (mT1 (i := 196) rfl) rfl
theorem q340 : (Jvm.Cond.laysFinal "FrameHeirs$Deeds" "FrameHeirs$Deeds" "order" "[I") ∈ gw := gw_mem (mT1 (i := 198) rfl) rfl
theorem q342 : (Jvm.Cond.laysFinal "FrameHeirs$Deeds" "FrameHeirs$Deeds" "rights" "[I") ∈ gw := gw_mem (mT1 (i := 200) rfl) rfl
theorem q344 : (Jvm.Cond.laysFinal "FrameHeirs$Deeds" "FrameHeirs$Deeds" "giver" "[I") ∈ gw := gw_mem (mT1 (i := 202) rfl) rfl
theorem q346 : (Jvm.Cond.laysFinal "FrameHeirs$Deeds" "FrameHeirs$Deeds" "first" "[I") ∈ gw := gw_mem (mT1 (i := 204) rfl) rfl
theorem q348 : (Jvm.Cond.laysFinal "FrameHeirs$Deeds" "FrameHeirs$Deeds" "last" "[I") ∈ gw := gw_mem (mT1 (i := 206) rfl) rfl
theorem q350 : (Jvm.Cond.laysFinal "FrameHeirs$Deeds" "FrameHeirs$Deeds" "next" "[I") ∈ gw := gw_mem (mT1 (i := 208) rfl) rfl
theorem q352 : (Jvm.Cond.laysFinal "FrameHeirs$Deeds" "FrameHeirs$Deeds" "previous" "[I") ∈ gw := gw_mem (mT1 (i := 210) rfl) rfl
theorem q354 : (Jvm.Cond.laysFinal "FrameHeirs$Deeds" "FrameHeirs$Deeds" "topOf" "[I") ∈ gw := gw_mem (mT1 (i := 212) rfl) rfl
theorem q356 : (Jvm.Cond.laysFinal "FrameHeirs$Deeds" "FrameHeirs$Deeds" "toDo" "[I") ∈ gw := gw_mem (mT1 (i := 214) rfl) rfl
theorem q358 : (Jvm.Cond.laysFinal "FrameHeirs$Deeds" "FrameHeirs$Deeds" "turn" "[I") ∈ gw := gw_mem (mT1 (i := 216) rfl) rfl
theorem q360 : (Jvm.Cond.laysFinal "FrameHeirs$Deeds" "FrameHeirs$Deeds" "ages" "[F") ∈ gw := gw_mem (mT1 (i := 218) rfl) rfl
theorem q362 : (Jvm.Cond.laysFinal "FrameHeirs$Deeds" "FrameHeirs$Deeds" "slotAt" "[I") ∈ gw := gw_mem (mT1 (i := 220) rfl) rfl
theorem q364 : (Jvm.Cond.laysFinal "FrameHeirs$Deeds" "FrameHeirs$Deeds" "list" "[I") ∈ gw := gw_mem (mT1 (i := 222) rfl) rfl
theorem q366 : (Jvm.Cond.lays "FrameHeirs$Deeds" "FrameHeirs$Deeds" "bound" "I") ∈ gw := gw_mem (mT1 (i := 224) rfl) rfl
theorem q368 : (Jvm.Cond.lays "FrameHeirs$Deeds" "FrameHeirs$Deeds" "used" "I") ∈ gw := gw_mem (mT1 (i := 226) rfl) rfl
theorem q370 : (Jvm.Cond.lays "FrameHeirs$Deeds" "FrameHeirs$Deeds" "tops" "I") ∈ gw := gw_mem (mT1 (i := 228) rfl) rfl
theorem q372 : (Jvm.Cond.lays "FrameHeirs$Deeds" "FrameHeirs$Deeds" "splits" "I") ∈ gw := gw_mem (mT1 (i := 230) rfl) rfl
theorem q375 : (Jvm.Cond.arrayClass Jvm.ClassFile.FieldType.float) ∈ gw := gw_mem (mT1 (i := 233) rfl) rfl
theorem q376 : (Jvm.Cond.fieldLink "FrameHeirs" (42 : Nat) "FrameHeirs$World" "script" "LFrameHeirs$Script;") ∈ gw := gw_mem (mT1 (i := 234) rfl) rfl
theorem q377 : (Jvm.Cond.fieldLink "FrameHeirs$World" (59 : Nat) "FrameHeirs$World" "script" "LFrameHeirs$Script;") ∈ gw := gw_mem (mT1 (i := 235) rfl) rfl
theorem q378 : (Jvm.Cond.fieldLink "FrameHeirs$World" (12 : Nat) "FrameHeirs$World" "deeds" "LFrameHeirs$Deeds;") ∈ gw := gw_mem (mT1 (i := 236) rfl) rfl
theorem q379 : (Jvm.Cond.fieldLink "FrameHeirs" (123 : Nat) "FrameHeirs$World" "deeds" "LFrameHeirs$Deeds;") ∈ gw := gw_mem (mT1 (i := 237) rfl) rfl
theorem q380 : (Jvm.Cond.fieldLink "FrameHeirs$World" (18 : Nat) "FrameHeirs$World" "jobs" "[I") ∈ gw := gw_mem (mT1 (i := 238) rfl) rfl
theorem q381 : (Jvm.Cond.fieldLink "FrameHeirs$World" (22 : Nat) "FrameHeirs$World" "jobCount" "I") ∈ gw := gw_mem (mT1 (i := 239) rfl) rfl
theorem q382 : (Jvm.Cond.fieldLink "FrameHeirs" (258 : Nat) "FrameHeirs$World" "jobCount" "I") ∈ gw := gw_mem (mT2 (i := 0) rfl) rfl
theorem q383 : (Jvm.Cond.fieldLink "FrameHeirs$World" (26 : Nat) "FrameHeirs$World" "jobsMade" "I") ∈ gw := gw_mem (mT2 (i := 1) rfl) rfl
theorem q384 : (Jvm.Cond.fieldLink "FrameHeirs$World" (29 : Nat) "FrameHeirs$World" "waitPlace" "[I") ∈ gw := gw_mem (mT2 (i := 2) rfl) rfl
theorem q385 : (Jvm.Cond.fieldLink "FrameHeirs$World" (32 : Nat) "FrameHeirs$World" "waitRight" "[I") ∈ gw := gw_mem (mT2 (i := 3) rfl) rfl
theorem q386 : (Jvm.Cond.fieldLink "FrameHeirs$World" (35 : Nat) "FrameHeirs$World" "waitSince" "[I") ∈ gw := gw_mem (mT2 (i := 4) rfl) rfl
theorem q387 : (Jvm.Cond.fieldLink "FrameHeirs$World" (38 : Nat) "FrameHeirs$World" "waitsMade" "I") ∈ gw := gw_mem (mT2 (i := 5) rfl) rfl
theorem q388 : (Jvm.Cond.fieldLink "FrameHeirs$World" (41 : Nat) "FrameHeirs$World" "wide" "[I") ∈ gw := gw_mem (mT2 (i := 6) rfl) rfl
theorem q389 : (Jvm.Cond.fieldLink "FrameHeirs$World" (44 : Nat) "FrameHeirs$World" "answers" "[I") ∈ gw := gw_mem (mT2 (i := 7) rfl) rfl
theorem q390 : (Jvm.Cond.fieldLink "FrameHeirs" (153 : Nat) "FrameHeirs$World" "answers" "[I") ∈ gw := gw_mem (mT2 (i := 8) rfl) rfl
theorem q391 : (Jvm.Cond.fieldLink "FrameHeirs$World" (47 : Nat) "FrameHeirs$World" "done" "I") ∈ gw := gw_mem (mT2 (i := 9) rfl) rfl
theorem q392 : (Jvm.Cond.fieldLink "FrameHeirs" (141 : Nat) "FrameHeirs$World" "done" "I") ∈ gw := gw_mem (mT2 (i := 10) rfl) rfl
theorem q393 : (Jvm.Cond.fieldLink "FrameHeirs$World" (50 : Nat) "FrameHeirs$World" "faults" "I") ∈ gw := gw_mem (mT2 (i := 11) rfl) rfl
theorem q394 : (Jvm.Cond.fieldLink "FrameHeirs" (297 : Nat) "FrameHeirs$World" "faults" "I") ∈ gw := gw_mem (mT2 (i := 12) rfl) rfl
theorem q395 : (Jvm.Cond.fieldLink "FrameHeirs$World" (53 : Nat) "FrameHeirs$World" "refused" "I") ∈ gw := gw_mem (mT2 (i := 13) rfl) rfl
theorem q396 : (Jvm.Cond.fieldLink "FrameHeirs" (276 : Nat) "FrameHeirs$World" "refused" "I") ∈ gw := gw_mem (mT2 (i := 14) rfl) rfl
theorem q397 : (Jvm.Cond.fieldLink "FrameHeirs$World" (56 : Nat) "FrameHeirs$World" "worked" "I") ∈ gw := gw_mem (mT2 (i := 15) rfl) rfl
theorem q398 : (Jvm.Cond.fieldLink "FrameHeirs" (300 : Nat) "FrameHeirs$World" "worked" "I") ∈ gw := gw_mem (mT2 (i := 16) rfl) rfl
theorem q399 : (Jvm.Cond.lays "FrameHeirs$World" "FrameHeirs$World" "script" "LFrameHeirs$Script;") ∈ gw := gw_mem (mT2 (i := 17) rfl) rfl
theorem q401 : (Jvm.Cond.laysFinal "FrameHeirs$World" "FrameHeirs$World" "deeds" "LFrameHeirs$Deeds;") ∈ gw := gw_mem (mT2 (i := 19) rfl) rfl
theorem q403 : (Jvm.Cond.laysFinal "FrameHeirs$World" "FrameHeirs$World" "jobs" "[I") ∈ gw := gw_mem (mT2 (i := 21) rfl) rfl
theorem q405 : (Jvm.Cond.lays "FrameHeirs$World" "FrameHeirs$World" "jobCount" "I") ∈ gw := gw_mem (mT2 (i := 23) rfl) rfl
theorem q407 : (Jvm.Cond.lays "FrameHeirs$World" "FrameHeirs$World" "jobsMade" "I") ∈ gw := gw_mem (mT2 (i := 25) rfl) rfl
theorem q409 : (Jvm.Cond.laysFinal "FrameHeirs$World" "FrameHeirs$World" "waitPlace" "[I") ∈ gw := gw_mem (mT2 (i := 27) rfl) rfl
theorem q411 : (Jvm.Cond.laysFinal "FrameHeirs$World" "FrameHeirs$World" "waitRight" "[I") ∈ gw := gw_mem (mT2 (i := 29) rfl) rfl
theorem q413 : (Jvm.Cond.laysFinal "FrameHeirs$World" "FrameHeirs$World" "waitSince" "[I") ∈ gw := gw_mem (mT2 (i := 31) rfl) rfl
theorem q415 : (Jvm.Cond.lays "FrameHeirs$World" "FrameHeirs$World" "waitsMade" "I") ∈ gw := gw_mem (mT2 (i := 33) rfl) rfl
theorem q417 : (Jvm.Cond.laysFinal "FrameHeirs$World" "FrameHeirs$World" "wide" "[I") ∈ gw := gw_mem (mT2 (i := 35) rfl) rfl
theorem q419 : (Jvm.Cond.laysFinal "FrameHeirs$World" "FrameHeirs$World" "answers" "[I") ∈ gw := gw_mem (mT2 (i := 37) rfl) rfl
theorem q421 : (Jvm.Cond.lays "FrameHeirs$World" "FrameHeirs$World" "done" "I") ∈ gw := gw_mem (mT2 (i := 39) rfl) rfl
theorem q423 : (Jvm.Cond.lays "FrameHeirs$World" "FrameHeirs$World" "faults" "I") ∈ gw := gw_mem (mT2 (i := 41) rfl) rfl
theorem q425 : (Jvm.Cond.lays "FrameHeirs$World" "FrameHeirs$World" "refused" "I") ∈ gw := gw_mem (mT2 (i := 43) rfl) rfl
theorem q427 : (Jvm.Cond.lays "FrameHeirs$World" "FrameHeirs$World" "worked" "I") ∈ gw := gw_mem (mT2 (i := 45) rfl) rfl
theorem q431 : (Jvm.Cond.fieldLink "FrameHeirs" (9 : Nat) "FrameHeirs" "tape" "[I") ∈ gw := gw_mem (mT2 (i := 49) rfl) rfl
theorem q432 : (Jvm.Cond.fieldLink "FrameHeirs" (13 : Nat) "FrameHeirs" "taped" "I") ∈ gw := gw_mem (mT2 (i := 50) rfl) rfl
theorem q433 : (Jvm.Cond.fieldLink "FrameHeirs" (20 : Nat) "FrameHeirs" "spareScript" "LFrameHeirs$Script;") ∈ gw := gw_mem (mT2 (i := 51) rfl) rfl
theorem q434 : (Jvm.Cond.fieldLink "FrameHeirs" (29 : Nat) "FrameHeirs" "reader" "LFrameHeirs$Reader;") ∈ gw := gw_mem (mT2 (i := 52) rfl) rfl
theorem q435 : (Jvm.Cond.fieldLink "FrameHeirs" (38 : Nat) "FrameHeirs" "now" "LFrameHeirs$World;") ∈ gw := gw_mem (mT2 (i := 53) rfl) rfl
theorem q436 : (Jvm.Cond.fieldLink "FrameHeirs" (45 : Nat) "FrameHeirs" "before" "LFrameHeirs$World;") ∈ gw := gw_mem (mT2 (i := 54) rfl) rfl
theorem q437 : (Jvm.Cond.fieldLink "FrameHeirs" (48 : Nat) "FrameHeirs" "trial" "LFrameHeirs$World;") ∈ gw := gw_mem (mT2 (i := 55) rfl) rfl
theorem q438 : (Jvm.Cond.fieldLink "FrameHeirs" (51 : Nat) "FrameHeirs" "past" "[LFrameHeirs$World;") ∈ gw := gw_mem (mT2 (i := 56) rfl) rfl
theorem q439 : (Jvm.Cond.fieldLink "FrameHeirs" (55 : Nat) "FrameHeirs" "pastNext" "I") ∈ gw := gw_mem (mT2 (i := 57) rfl) rfl
theorem q440 : (Jvm.Cond.fieldLink "FrameHeirs" (58 : Nat) "FrameHeirs" "pastKept" "I") ∈ gw := gw_mem (mT2 (i := 58) rfl) rfl
theorem q441 : (Jvm.Cond.laysFinal "FrameHeirs" "FrameHeirs" "tape" "[I") ∈ gw := gw_mem (mT2 (i := 59) rfl) rfl
theorem q443 : (Jvm.Cond.lays "FrameHeirs" "FrameHeirs" "taped" "I") ∈ gw := gw_mem (mT2 (i := 61) rfl) rfl
theorem q445 : (Jvm.Cond.lays "FrameHeirs" "FrameHeirs" "spareScript" "LFrameHeirs$Script;") ∈ gw := gw_mem (mT2 (i := 63) rfl) rfl
theorem q447 : (Jvm.Cond.laysFinal "FrameHeirs" "FrameHeirs" "reader" "LFrameHeirs$Reader;") ∈ gw := gw_mem (mT2 (i := 65) rfl) rfl
theorem q449 : (Jvm.Cond.lays "FrameHeirs" "FrameHeirs" "now" "LFrameHeirs$World;") ∈ gw := gw_mem (mT2 (i := 67) rfl) rfl
theorem q451 : (Jvm.Cond.lays "FrameHeirs" "FrameHeirs" "before" "LFrameHeirs$World;") ∈ gw := gw_mem (mT2 (i := 69) rfl) rfl
theorem q453 : (Jvm.Cond.laysFinal "FrameHeirs" "FrameHeirs" "trial" "LFrameHeirs$World;") ∈ gw := gw_mem (mT2 (i := 71) rfl) rfl
theorem q455 : (Jvm.Cond.laysFinal "FrameHeirs" "FrameHeirs" "past" "[LFrameHeirs$World;") ∈ gw := gw_mem (mT2 (i := 73) rfl) rfl
theorem q457 : (Jvm.Cond.lays "FrameHeirs" "FrameHeirs" "pastNext" "I") ∈ gw := gw_mem (mT2 (i := 75) rfl) rfl
theorem q459 : (Jvm.Cond.lays "FrameHeirs" "FrameHeirs" "pastKept" "I") ∈ gw := gw_mem (mT2 (i := 77) rfl) rfl
theorem q462 : (Jvm.Cond.methodLink "FrameHeirsLaw" (21 : Nat) ({ cls := "FrameHeirs", name := "feed", desc := "(IIIII)I" } : Jvm.MethodName)) ∈ gw := gw_mem (mT2 (i := 80) rfl) rfl
theorem q463 : (Jvm.Cond.instanceMethod ({ cls := "FrameHeirs", name := "feed", desc := "(IIIII)I" } : Jvm.MethodName)) ∈ gw := gw_mem (mT2 (i := 81) rfl) rfl
theorem q464 : (Jvm.Cond.selects "FrameHeirs" ({ cls := "FrameHeirs", name := "feed", desc := "(IIIII)I" } : Jvm.MethodName) ({ cls := "FrameHeirs", name := "feed", desc := "(IIIII)I" } : Jvm.MethodName)) ∈ gw := gw_mem (mT2 (i := 82) rfl) rfl
theorem q465 : (Jvm.Cond.code ({ cls := "FrameHeirs", name := "feed", desc := "(IIIII)I" } : Jvm.MethodName) prog_1_method_2_code (6 : Nat) (Option.some Jvm.ClassFile.FieldType.int)) ∈ gw := gw_mem (mT2 (i := 83) rfl) rfl
theorem q466 : (Jvm.Cond.methodLink "FrameHeirs" (61 : Nat) ({ cls := "FrameHeirs", name := "tapeNumber", desc := "(I)V" } : Jvm.MethodName)) ∈ gw := gw_mem (mT2 (i := 84) rfl) rfl
theorem q468 : (Jvm.Cond.instanceMethod ({ cls := "FrameHeirs", name := "tapeNumber", desc := "(I)V" } : Jvm.MethodName)) ∈ gw := gw_mem (mT2 (i := 86) rfl) rfl
theorem q469 : (Jvm.Cond.code ({ cls := "FrameHeirs", name := "tapeNumber", desc := "(I)V" } : Jvm.MethodName) prog_1_method_41_code (3 : Nat) (Option.none : Option Jvm.ClassFile.FieldType)) ∈ gw := gw_mem (mT2 (i := 87) rfl) rfl
theorem q470 : (Jvm.Cond.methodLink "FrameHeirsLaw" (26 : Nat) ({ cls := "FrameHeirs", name := "text", desc := "(I)I" } : Jvm.MethodName)) ∈ gw := gw_mem (mT2 (i := 88) rfl) rfl
theorem q471 : (Jvm.Cond.instanceMethod ({ cls := "FrameHeirs", name := "text", desc := "(I)I" } : Jvm.MethodName)) ∈ gw := gw_mem (mT2 (i := 89) rfl) rfl
theorem q472 : (Jvm.Cond.selects "FrameHeirs" ({ cls := "FrameHeirs", name := "text", desc := "(I)I" } : Jvm.MethodName) ({ cls := "FrameHeirs", name := "text", desc := "(I)I" } : Jvm.MethodName)) ∈ gw := gw_mem (mT2 (i := 90) rfl) rfl
theorem q473 : (Jvm.Cond.code ({ cls := "FrameHeirs", name := "text", desc := "(I)I" } : Jvm.MethodName) prog_1_method_3_code (3 : Nat) (Option.some Jvm.ClassFile.FieldType.int)) ∈ gw := gw_mem (mT2 (i := 91) rfl) rfl
theorem q474 : (Jvm.Cond.methodLink "FrameHeirs" (65 : Nat) ({ cls := "FrameHeirs$Reader", name := "begin", desc := "(ILFrameHeirs$Script;)V" } : Jvm.MethodName)) ∈ gw := gw_mem (mT2 (i := 92) rfl) rfl
theorem q475 : (Jvm.Cond.instanceMethod ({ cls := "FrameHeirs$Reader", name := "begin", desc := "(ILFrameHeirs$Script;)V" } : Jvm.MethodName)) ∈ gw := gw_mem (mT2 (i := 93) rfl) rfl
theorem q476 : (Jvm.Cond.selects "FrameHeirs$Reader" ({ cls := "FrameHeirs$Reader", name := "begin", desc := "(ILFrameHeirs$Script;)V" } : Jvm.MethodName) ({ cls := "FrameHeirs$Reader", name := "begin", desc := "(ILFrameHeirs$Script;)V" } : Jvm.MethodName)) ∈ gw := gw_mem (mT2 (i := 94) rfl) rfl
theorem q477 : (Jvm.Cond.code ({ cls := "FrameHeirs$Reader", name := "begin", desc := "(ILFrameHeirs$Script;)V" } : Jvm.MethodName) prog_4_method_2_code (3 : Nat) (Option.none : Option Jvm.ClassFile.FieldType)) ∈ gw := gw_mem (mT2 (i := 95) rfl) rfl
theorem q478 : (Jvm.Cond.methodLink "FrameHeirs$Reader" (47 : Nat) ({ cls := "java/lang/Math", name := "min", desc := "(II)I" } : Jvm.MethodName)) ∈ gw := gw_mem (mT2 (i := 96) rfl) rfl
theorem q479 : (Jvm.Cond.static ({ cls := "java/lang/Math", name := "min", desc := "(II)I" } : Jvm.MethodName)) ∈ gw := gw_mem (mT2 (i := 97) rfl) rfl
theorem q480 : (Jvm.Cond.code ({ cls := "java/lang/Math", name := "min", desc := "(II)I" } : Jvm.MethodName) prog_13_method_69_code (2 : Nat) (Option.some Jvm.ClassFile.FieldType.int)) ∈ gw := gw_mem (mT2 (i := 98) rfl) rfl
theorem q481 : (Jvm.Cond.methodLink "FrameHeirs$Reader" (53 : Nat) ({ cls := "FrameHeirs$Script", name := "clear", desc := "()V" } : Jvm.MethodName)) ∈ gw := gw_mem (mT2 (i := 99) rfl) rfl
theorem q482 : (Jvm.Cond.instanceMethod ({ cls := "FrameHeirs$Script", name := "clear", desc := "()V" } : Jvm.MethodName)) ∈ gw := gw_mem (mT2 (i := 100) rfl) rfl
theorem q483 : (Jvm.Cond.selects "FrameHeirs$Script" ({ cls := "FrameHeirs$Script", name := "clear", desc := "()V" } : Jvm.MethodName) ({ cls := "FrameHeirs$Script", name := "clear", desc := "()V" } : Jvm.MethodName)) ∈ gw := gw_mem (mT2 (i := 101) rfl) rfl
theorem q484 : (Jvm.Cond.code ({ cls := "FrameHeirs$Script", name := "clear", desc := "()V" } : Jvm.MethodName) prog_5_method_2_code (1 : Nat) (Option.none : Option Jvm.ClassFile.FieldType)) ∈ gw := gw_mem (mT2 (i := 102) rfl) rfl
theorem q485 : (Jvm.Cond.methodLink "FrameHeirs" (69 : Nat) ({ cls := "FrameHeirs$Reader", name := "hasMore", desc := "()Z" } : Jvm.MethodName)) ∈ gw := gw_mem (mT2 (i := 103) rfl) rfl
theorem q486 : (Jvm.Cond.instanceMethod ({ cls := "FrameHeirs$Reader", name := "hasMore", desc := "()Z" } : Jvm.MethodName)) ∈ gw := gw_mem (mT2 (i := 104) rfl) rfl
theorem q487 : (Jvm.Cond.selects "FrameHeirs$Reader" ({ cls := "FrameHeirs$Reader", name := "hasMore", desc := "()Z" } : Jvm.MethodName) ({ cls := "FrameHeirs$Reader", name := "hasMore", desc := "()Z" } : Jvm.MethodName)) ∈ gw := gw_mem (mT2 (i := 105) rfl) rfl
theorem q488 : (Jvm.Cond.code ({ cls := "FrameHeirs$Reader", name := "hasMore", desc := "()Z" } : Jvm.MethodName) prog_4_method_3_code (1 : Nat) (Option.some Jvm.ClassFile.FieldType.boolean)) ∈ gw := gw_mem (mT2 (i := 106) rfl) rfl
theorem q489 : (Jvm.Cond.methodLink "FrameHeirs$Reader" (58 : Nat) ({ cls := "FrameHeirs$Reader", name := "take", desc := "()V" } : Jvm.MethodName)) ∈ gw := gw_mem (mT2 (i := 107) rfl) rfl
theorem q491 : (Jvm.Cond.instanceMethod ({ cls := "FrameHeirs$Reader", name := "take", desc := "()V" } : Jvm.MethodName)) ∈ gw := gw_mem (mT2 (i := 109) rfl) rfl
theorem q492 : (Jvm.Cond.code ({ cls := "FrameHeirs$Reader", name := "take", desc := "()V" } : Jvm.MethodName) prog_4_method_14_code (1 : Nat) (Option.none : Option Jvm.ClassFile.FieldType)) ∈ gw := gw_mem (mT2 (i := 110) rfl) rfl
theorem q493 : (Jvm.Cond.methodLink "FrameHeirs$Reader" (155 : Nat) ({ cls := "FrameHeirs$Reader", name := "isBlank", desc := "(I)Z" } : Jvm.MethodName)) ∈ gw := gw_mem (mT2 (i := 111) rfl) rfl
theorem q494 : (Jvm.Cond.static ({ cls := "FrameHeirs$Reader", name := "isBlank", desc := "(I)Z" } : Jvm.MethodName)) ∈ gw := gw_mem (mT2 (i := 112) rfl) rfl
theorem q495 : (Jvm.Cond.code ({ cls := "FrameHeirs$Reader", name := "isBlank", desc := "(I)Z" } : Jvm.MethodName) prog_4_method_17_code (1 : Nat) (Option.some Jvm.ClassFile.FieldType.boolean)) ∈ gw := gw_mem (mT2 (i := 113) rfl) rfl
theorem q496 : (Jvm.Cond.methodLink "FrameHeirs$Reader" (158 : Nat) ({ cls := "FrameHeirs$Reader", name := "isLetter", desc := "(I)Z" } : Jvm.MethodName)) ∈ gw := gw_mem (mT2 (i := 114) rfl) rfl
theorem q497 : (Jvm.Cond.static ({ cls := "FrameHeirs$Reader", name := "isLetter", desc := "(I)Z" } : Jvm.MethodName)) ∈ gw := gw_mem (mT2 (i := 115) rfl) rfl
theorem q498 : (Jvm.Cond.code ({ cls := "FrameHeirs$Reader", name := "isLetter", desc := "(I)Z" } : Jvm.MethodName) prog_4_method_18_code (1 : Nat) (Option.some Jvm.ClassFile.FieldType.boolean)) ∈ gw := gw_mem (mT2 (i := 116) rfl) rfl
theorem q499 : (Jvm.Cond.methodLink "FrameHeirs$Reader" (161 : Nat) ({ cls := "FrameHeirs$Reader", name := "takeWord", desc := "()V" } : Jvm.MethodName)) ∈ gw := gw_mem (mT2 (i := 117) rfl) rfl
theorem q501 : (Jvm.Cond.instanceMethod ({ cls := "FrameHeirs$Reader", name := "takeWord", desc := "()V" } : Jvm.MethodName)) ∈ gw := gw_mem (mT2 (i := 119) rfl) rfl
theorem q502 : (Jvm.Cond.code ({ cls := "FrameHeirs$Reader", name := "takeWord", desc := "()V" } : Jvm.MethodName) prog_4_method_15_code (4 : Nat) (Option.none : Option Jvm.ClassFile.FieldType)) ∈ gw := gw_mem (mT2 (i := 120) rfl) rfl
theorem q503 : (Jvm.Cond.fieldLink "FrameHeirs$Reader" (170 : Nat) "FrameHeirs$Reader" "WORDS" "[I") ∈ gw := gw_mem (mT2 (i := 121) rfl) rfl
theorem q505 : (Jvm.Cond.methodLink "FrameHeirs$Reader" (164 : Nat) ({ cls := "FrameHeirs$Reader", name := "isDigit", desc := "(I)Z" } : Jvm.MethodName)) ∈ gw := gw_mem (mT2 (i := 123) rfl) rfl
theorem q506 : (Jvm.Cond.static ({ cls := "FrameHeirs$Reader", name := "isDigit", desc := "(I)Z" } : Jvm.MethodName)) ∈ gw := gw_mem (mT2 (i := 124) rfl) rfl
theorem q507 : (Jvm.Cond.code ({ cls := "FrameHeirs$Reader", name := "isDigit", desc := "(I)Z" } : Jvm.MethodName) prog_4_method_19_code (1 : Nat) (Option.some Jvm.ClassFile.FieldType.boolean)) ∈ gw := gw_mem (mT2 (i := 125) rfl) rfl
theorem q508 : (Jvm.Cond.methodLink "FrameHeirs$Reader" (167 : Nat) ({ cls := "FrameHeirs$Reader", name := "takeDigits", desc := "()V" } : Jvm.MethodName)) ∈ gw := gw_mem (mT2 (i := 126) rfl) rfl
theorem q510 : (Jvm.Cond.instanceMethod ({ cls := "FrameHeirs$Reader", name := "takeDigits", desc := "()V" } : Jvm.MethodName)) ∈ gw := gw_mem (mT2 (i := 128) rfl) rfl
theorem q511 : (Jvm.Cond.code ({ cls := "FrameHeirs$Reader", name := "takeDigits", desc := "()V" } : Jvm.MethodName) prog_4_method_16_code (2 : Nat) (Option.none : Option Jvm.ClassFile.FieldType)) ∈ gw := gw_mem (mT2 (i := 129) rfl) rfl
theorem q512 : (Jvm.Cond.constant "FrameHeirs$Reader" (173 : Nat) (1000000 : Int32)) ∈ gw := gw_mem (mT2 (i := 130) rfl) rfl
theorem q513 : (Jvm.Cond.methodLink "FrameHeirs" (73 : Nat) ({ cls := "FrameHeirs$Reader", name := "readLine", desc := "()Z" } : Jvm.MethodName)) ∈ gw := gw_mem (mT2 (i := 131) rfl) rfl
theorem q514 : (Jvm.Cond.instanceMethod ({ cls := "FrameHeirs$Reader", name := "readLine", desc := "()Z" } : Jvm.MethodName)) ∈ gw := gw_mem (mT2 (i := 132) rfl) rfl
theorem q515 : (Jvm.Cond.selects "FrameHeirs$Reader" ({ cls := "FrameHeirs$Reader", name := "readLine", desc := "()Z" } : Jvm.MethodName) ({ cls := "FrameHeirs$Reader", name := "readLine", desc := "()Z" } : Jvm.MethodName)) ∈ gw := gw_mem (mT2 (i := 133) rfl) rfl
theorem q516 : (Jvm.Cond.code ({ cls := "FrameHeirs$Reader", name := "readLine", desc := "()Z" } : Jvm.MethodName) prog_4_method_4_code (2 : Nat) (Option.some Jvm.ClassFile.FieldType.boolean)) ∈ gw := gw_mem (mT2 (i := 134) rfl) rfl
theorem q517 : (Jvm.Cond.methodLink "FrameHeirs$Reader" (61 : Nat) ({ cls := "FrameHeirs$Reader", name := "fail", desc := "(I)Z" } : Jvm.MethodName)) ∈ gw := gw_mem (mT2 (i := 135) rfl) rfl
theorem q519 : (Jvm.Cond.instanceMethod ({ cls := "FrameHeirs$Reader", name := "fail", desc := "(I)Z" } : Jvm.MethodName)) ∈ gw := gw_mem (mT2 (i := 137) rfl) rfl
theorem q520 : (Jvm.Cond.code ({ cls := "FrameHeirs$Reader", name := "fail", desc := "(I)Z" } : Jvm.MethodName) prog_4_method_13_code (2 : Nat) (Option.some Jvm.ClassFile.FieldType.boolean)) ∈ gw := gw_mem (mT2 (i := 138) rfl) rfl
theorem q521 : (Jvm.Cond.methodLink "FrameHeirs$Reader" (65 : Nat) ({ cls := "FrameHeirs$Reader", name := "readSpace", desc := "()Z" } : Jvm.MethodName)) ∈ gw := gw_mem (mT2 (i := 139) rfl) rfl
theorem q523 : (Jvm.Cond.instanceMethod ({ cls := "FrameHeirs$Reader", name := "readSpace", desc := "()Z" } : Jvm.MethodName)) ∈ gw := gw_mem (mT2 (i := 141) rfl) rfl
theorem q524 : (Jvm.Cond.code ({ cls := "FrameHeirs$Reader", name := "readSpace", desc := "()Z" } : Jvm.MethodName) prog_4_method_5_code (1 : Nat) (Option.some Jvm.ClassFile.FieldType.boolean)) ∈ gw := gw_mem (mT2 (i := 142) rfl) rfl
theorem q525 : (Jvm.Cond.methodLink "FrameHeirs$Reader" (87 : Nat) ({ cls := "FrameHeirs$Script", name := "spaceNamed", desc := "(I)I" } : Jvm.MethodName)) ∈ gw := gw_mem (mT2 (i := 143) rfl) rfl
theorem q526 : (Jvm.Cond.instanceMethod ({ cls := "FrameHeirs$Script", name := "spaceNamed", desc := "(I)I" } : Jvm.MethodName)) ∈ gw := gw_mem (mT2 (i := 144) rfl) rfl
theorem q527 : (Jvm.Cond.selects "FrameHeirs$Script" ({ cls := "FrameHeirs$Script", name := "spaceNamed", desc := "(I)I" } : Jvm.MethodName) ({ cls := "FrameHeirs$Script", name := "spaceNamed", desc := "(I)I" } : Jvm.MethodName)) ∈ gw := gw_mem (mT2 (i := 145) rfl) rfl
theorem q528 : (Jvm.Cond.code ({ cls := "FrameHeirs$Script", name := "spaceNamed", desc := "(I)I" } : Jvm.MethodName) prog_5_method_4_code (3 : Nat) (Option.some Jvm.ClassFile.FieldType.int)) ∈ gw := gw_mem (mT2 (i := 146) rfl) rfl
theorem q529 : (Jvm.Cond.methodLink "FrameHeirs$Reader" (91 : Nat) ({ cls := "FrameHeirs$Script", name := "addSpace", desc := "(I)V" } : Jvm.MethodName)) ∈ gw := gw_mem (mT2 (i := 147) rfl) rfl
theorem q530 : (Jvm.Cond.instanceMethod ({ cls := "FrameHeirs$Script", name := "addSpace", desc := "(I)V" } : Jvm.MethodName)) ∈ gw := gw_mem (mT2 (i := 148) rfl) rfl
theorem q531 : (Jvm.Cond.selects "FrameHeirs$Script" ({ cls := "FrameHeirs$Script", name := "addSpace", desc := "(I)V" } : Jvm.MethodName) ({ cls := "FrameHeirs$Script", name := "addSpace", desc := "(I)V" } : Jvm.MethodName)) ∈ gw := gw_mem (mT2 (i := 149) rfl) rfl
theorem q532 : (Jvm.Cond.code ({ cls := "FrameHeirs$Script", name := "addSpace", desc := "(I)V" } : Jvm.MethodName) prog_5_method_3_code (2 : Nat) (Option.none : Option Jvm.ClassFile.FieldType)) ∈ gw := gw_mem (mT2 (i := 150) rfl) rfl
theorem q533 : (Jvm.Cond.methodLink "FrameHeirs$Reader" (69 : Nat) ({ cls := "FrameHeirs$Reader", name := "readPager", desc := "()Z" } : Jvm.MethodName)) ∈ gw := gw_mem (mT2 (i := 151) rfl) rfl
theorem q535 : (Jvm.Cond.instanceMethod ({ cls := "FrameHeirs$Reader", name := "readPager", desc := "()Z" } : Jvm.MethodName)) ∈ gw := gw_mem (mT2 (i := 153) rfl) rfl
theorem q536 : (Jvm.Cond.code ({ cls := "FrameHeirs$Reader", name := "readPager", desc := "()Z" } : Jvm.MethodName) prog_4_method_6_code (4 : Nat) (Option.some Jvm.ClassFile.FieldType.boolean)) ∈ gw := gw_mem (mT2 (i := 154) rfl) rfl
theorem q537 : (Jvm.Cond.methodLink "FrameHeirs$Reader" (95 : Nat) ({ cls := "FrameHeirs$Reader", name := "takeSpace", desc := "()I" } : Jvm.MethodName)) ∈ gw := gw_mem (mT2 (i := 155) rfl) rfl
theorem q539 : (Jvm.Cond.instanceMethod ({ cls := "FrameHeirs$Reader", name := "takeSpace", desc := "()I" } : Jvm.MethodName)) ∈ gw := gw_mem (mT2 (i := 157) rfl) rfl
theorem q540 : (Jvm.Cond.code ({ cls := "FrameHeirs$Reader", name := "takeSpace", desc := "()I" } : Jvm.MethodName) prog_4_method_11_code (2 : Nat) (Option.some Jvm.ClassFile.FieldType.int)) ∈ gw := gw_mem (mT2 (i := 158) rfl) rfl
theorem q541 : (Jvm.Cond.methodLink "FrameHeirs$Reader" (102 : Nat) ({ cls := "FrameHeirs$Reader", name := "takeNumber", desc := "(II)I" } : Jvm.MethodName)) ∈ gw := gw_mem (mT2 (i := 159) rfl) rfl
theorem q543 : (Jvm.Cond.instanceMethod ({ cls := "FrameHeirs$Reader", name := "takeNumber", desc := "(II)I" } : Jvm.MethodName)) ∈ gw := gw_mem (mT2 (i := 161) rfl) rfl
theorem q544 : (Jvm.Cond.code ({ cls := "FrameHeirs$Reader", name := "takeNumber", desc := "(II)I" } : Jvm.MethodName) prog_4_method_12_code (3 : Nat) (Option.some Jvm.ClassFile.FieldType.int)) ∈ gw := gw_mem (mT2 (i := 162) rfl) rfl
theorem q545 : (Jvm.Cond.methodLink "FrameHeirs$Reader" (72 : Nat) ({ cls := "FrameHeirs$Reader", name := "readQuota", desc := "()Z" } : Jvm.MethodName)) ∈ gw := gw_mem (mT2 (i := 163) rfl) rfl
theorem q547 : (Jvm.Cond.instanceMethod ({ cls := "FrameHeirs$Reader", name := "readQuota", desc := "()Z" } : Jvm.MethodName)) ∈ gw := gw_mem (mT2 (i := 165) rfl) rfl
theorem q548 : (Jvm.Cond.code ({ cls := "FrameHeirs$Reader", name := "readQuota", desc := "()Z" } : Jvm.MethodName) prog_4_method_7_code (3 : Nat) (Option.some Jvm.ClassFile.FieldType.boolean)) ∈ gw := gw_mem (mT2 (i := 166) rfl) rfl
theorem q549 : (Jvm.Cond.methodLink "FrameHeirs$Reader" (75 : Nat) ({ cls := "FrameHeirs$Reader", name := "readSetting", desc := "(I)Z" } : Jvm.MethodName)) ∈ gw := gw_mem (mT2 (i := 167) rfl) rfl
theorem q551 : (Jvm.Cond.instanceMethod ({ cls := "FrameHeirs$Reader", name := "readSetting", desc := "(I)Z" } : Jvm.MethodName)) ∈ gw := gw_mem (mT2 (i := 169) rfl) rfl
theorem q552 : (Jvm.Cond.code ({ cls := "FrameHeirs$Reader", name := "readSetting", desc := "(I)Z" } : Jvm.MethodName) prog_4_method_8_code (3 : Nat) (Option.some Jvm.ClassFile.FieldType.boolean)) ∈ gw := gw_mem (mT2 (i := 170) rfl) rfl
theorem q553 : (Jvm.Cond.constant "FrameHeirs$Reader" (123 : Nat) (99999 : Int32)) ∈ gw := gw_mem (mT2 (i := 171) rfl) rfl
theorem q554 : (Jvm.Cond.methodLink "FrameHeirs$Reader" (78 : Nat) ({ cls := "FrameHeirs$Reader", name := "readStep", desc := "(I)Z" } : Jvm.MethodName)) ∈ gw := gw_mem (mT2 (i := 172) rfl) rfl
theorem q556 : (Jvm.Cond.instanceMethod ({ cls := "FrameHeirs$Reader", name := "readStep", desc := "(I)Z" } : Jvm.MethodName)) ∈ gw := gw_mem (mT2 (i := 174) rfl) rfl
theorem q557 : (Jvm.Cond.code ({ cls := "FrameHeirs$Reader", name := "readStep", desc := "(I)Z" } : Jvm.MethodName) prog_4_method_9_code (7 : Nat) (Option.some Jvm.ClassFile.FieldType.boolean)) ∈ gw := gw_mem (mT2 (i := 175) rfl) rfl
theorem q558 : (Jvm.Cond.methodLink "FrameHeirs$Reader" (127 : Nat) ({ cls := "FrameHeirs$Reader", name := "formOf", desc := "(I)[I" } : Jvm.MethodName)) ∈ gw := gw_mem (mT2 (i := 176) rfl) rfl
theorem q559 : (Jvm.Cond.static ({ cls := "FrameHeirs$Reader", name := "formOf", desc := "(I)[I" } : Jvm.MethodName)) ∈ gw := gw_mem (mT2 (i := 177) rfl) rfl
theorem q560 : (Jvm.Cond.code ({ cls := "FrameHeirs$Reader", name := "formOf", desc := "(I)[I" } : Jvm.MethodName) prog_4_method_10_code (1 : Nat) (Option.some (Jvm.ClassFile.FieldType.array Jvm.ClassFile.FieldType.int))) ∈ gw := gw_mem (mT2 (i := 178) rfl) rfl
theorem q561 : (Jvm.Cond.fieldLink "FrameHeirs$Reader" (140 : Nat) "FrameHeirs$Reader" "MAP_FORM" "[I") ∈ gw := gw_mem (mT2 (i := 179) rfl) rfl
theorem q563 : (Jvm.Cond.fieldLink "FrameHeirs$Reader" (143 : Nat) "FrameHeirs$Reader" "GRANT_FORM" "[I") ∈ gw := gw_mem (mT2 (i := 181) rfl) rfl
theorem q565 : (Jvm.Cond.fieldLink "FrameHeirs$Reader" (146 : Nat) "FrameHeirs$Reader" "FLUSH_FORM" "[I") ∈ gw := gw_mem (mT2 (i := 183) rfl) rfl
theorem q567 : (Jvm.Cond.fieldLink "FrameHeirs$Reader" (149 : Nat) "FrameHeirs$Reader" "TOUCH_FORM" "[I") ∈ gw := gw_mem (mT2 (i := 185) rfl) rfl
theorem q569 : (Jvm.Cond.fieldLink "FrameHeirs$Reader" (152 : Nat) "FrameHeirs$Reader" "SERVE_FORM" "[I") ∈ gw := gw_mem (mT2 (i := 187) rfl) rfl
theorem q571 : (Jvm.Cond.fieldLink "FrameHeirs$Reader" (134 : Nat) "FrameHeirs$Reader" "LOWEST" "[I") ∈ gw := gw_mem (mT2 (i := 189) rfl) rfl
theorem q573 : (Jvm.Cond.fieldLink "FrameHeirs$Reader" (137 : Nat) "FrameHeirs$Reader" "HIGHEST" "[I") ∈ gw := gw_mem (mT2 (i := 191) rfl) rfl
theorem q575 : (Jvm.Cond.methodLink "FrameHeirs" (76 : Nat) ({ cls := "FrameHeirs$World", name := "begin", desc := "(LFrameHeirs$Script;)V" } : Jvm.MethodName)) ∈ gw := gw_mem (mT2 (i := 193) rfl) rfl
theorem q576 : (Jvm.Cond.instanceMethod ({ cls := "FrameHeirs$World", name := "begin", desc := "(LFrameHeirs$Script;)V" } : Jvm.MethodName)) ∈ gw := gw_mem (mT2 (i := 194) rfl) rfl
theorem q577 : (Jvm.Cond.selects "FrameHeirs$World" ({ cls := "FrameHeirs$World", name := "begin", desc := "(LFrameHeirs$Script;)V" } : Jvm.MethodName) ({ cls := "FrameHeirs$World", name := "begin", desc := "(LFrameHeirs$Script;)V" } : Jvm.MethodName)) ∈ gw := gw_mem (mT2 (i := 195) rfl) rfl
theorem q578 : (Jvm.Cond.code ({ cls := "FrameHeirs$World", name := "begin", desc := "(LFrameHeirs$Script;)V" } : Jvm.MethodName) prog_6_method_2_code (3 : Nat) (Option.none : Option Jvm.ClassFile.FieldType)) ∈ gw := gw_mem (mT2 (i := 196) rfl) rfl
theorem q579 : (Jvm.Cond.methodLink "FrameHeirs$World" (63 : Nat) ({ cls := "FrameHeirs$Deeds", name := "clear", desc := "()V" } : Jvm.MethodName)) ∈ gw := gw_mem (mT2 (i := 197) rfl) rfl
theorem q580 : (Jvm.Cond.instanceMethod ({ cls := "FrameHeirs$Deeds", name := "clear", desc := "()V" } : Jvm.MethodName)) ∈ gw := gw_mem (mT2 (i := 198) rfl) rfl
theorem q581 : (Jvm.Cond.selects "FrameHeirs$Deeds" ({ cls := "FrameHeirs$Deeds", name := "clear", desc := "()V" } : Jvm.MethodName) ({ cls := "FrameHeirs$Deeds", name := "clear", desc := "()V" } : Jvm.MethodName)) ∈ gw := gw_mem (mT2 (i := 199) rfl) rfl
theorem q582 : (Jvm.Cond.code ({ cls := "FrameHeirs$Deeds", name := "clear", desc := "()V" } : Jvm.MethodName) prog_2_method_2_code (1 : Nat) (Option.none : Option Jvm.ClassFile.FieldType)) ∈ gw := gw_mem (mT2 (i := 200) rfl) rfl
theorem q583 : (Jvm.Cond.methodLink "FrameHeirs$World" (66 : Nat) ({ cls := "java/util/Arrays", name := "fill", desc := "([II)V" } : Jvm.MethodName)) ∈ gw := gw_mem (mT2 (i := 201) rfl) rfl
theorem q584 : (Jvm.Cond.methodLink "FrameHeirs$World" (80 : Nat) ({ cls := "FrameHeirs$Deeds", name := "make", desc := "(IIIII)I" } : Jvm.MethodName)) ∈ gw := gw_mem (mT2 (i := 202) rfl) rfl
theorem q585 : (Jvm.Cond.instanceMethod ({ cls := "FrameHeirs$Deeds", name := "make", desc := "(IIIII)I" } : Jvm.MethodName)) ∈ gw := gw_mem (mT2 (i := 203) rfl) rfl
theorem q586 : (Jvm.Cond.selects "FrameHeirs$Deeds" ({ cls := "FrameHeirs$Deeds", name := "make", desc := "(IIIII)I" } : Jvm.MethodName) ({ cls := "FrameHeirs$Deeds", name := "make", desc := "(IIIII)I" } : Jvm.MethodName)) ∈ gw := gw_mem (mT2 (i := 204) rfl) rfl
theorem q587 : (Jvm.Cond.code ({ cls := "FrameHeirs$Deeds", name := "make", desc := "(IIIII)I" } : Jvm.MethodName) prog_2_method_8_code (7 : Nat) (Option.some Jvm.ClassFile.FieldType.int)) ∈ gw := gw_mem (mT2 (i := 205) rfl) rfl
theorem q588 : (Jvm.Cond.methodLink "FrameHeirs$Deeds" (90 : Nat) ({ cls := "java/lang/Math", name := "max", desc := "(II)I" } : Jvm.MethodName)) ∈ gw := gw_mem (mT2 (i := 206) rfl) rfl
theorem q589 : (Jvm.Cond.static ({ cls := "java/lang/Math", name := "max", desc := "(II)I" } : Jvm.MethodName)) ∈ gw := gw_mem (mT2 (i := 207) rfl) rfl
theorem q590 : (Jvm.Cond.code ({ cls := "java/lang/Math", name := "max", desc := "(II)I" } : Jvm.MethodName) prog_13_method_65_code (2 : Nat) (Option.some Jvm.ClassFile.FieldType.int)) ∈ gw := gw_mem (mT2 (i := 208) rfl) rfl
theorem q591 : (Jvm.Cond.methodLink "FrameHeirs$Deeds" (96 : Nat) ({ cls := "FrameHeirs$Deeds", name := "settleAt", desc := "(II)V" } : Jvm.MethodName)) ∈ gw := gw_mem (mT2 (i := 209) rfl) rfl
theorem q593 : (Jvm.Cond.instanceMethod ({ cls := "FrameHeirs$Deeds", name := "settleAt", desc := "(II)V" } : Jvm.MethodName)) ∈ gw := gw_mem (mT2 (i := 211) rfl) rfl
theorem q594 : (Jvm.Cond.code ({ cls := "FrameHeirs$Deeds", name := "settleAt", desc := "(II)V" } : Jvm.MethodName) prog_2_method_9_code (6 : Nat) (Option.none : Option Jvm.ClassFile.FieldType)) ∈ gw := gw_mem (mT2 (i := 212) rfl) rfl
theorem q595 : (Jvm.Cond.methodLink "FrameHeirs$World" (84 : Nat) ({ cls := "FrameHeirs$World", name := "widen", desc := "(III)V" } : Jvm.MethodName)) ∈ gw := gw_mem (mT2 (i := 213) rfl) rfl
theorem q597 : (Jvm.Cond.instanceMethod ({ cls := "FrameHeirs$World", name := "widen", desc := "(III)V" } : Jvm.MethodName)) ∈ gw := gw_mem (mT2 (i := 215) rfl) rfl
theorem q598 : (Jvm.Cond.code ({ cls := "FrameHeirs$World", name := "widen", desc := "(III)V" } : Jvm.MethodName) prog_6_method_16_code (4 : Nat) (Option.none : Option Jvm.ClassFile.FieldType)) ∈ gw := gw_mem (mT2 (i := 216) rfl) rfl
theorem q599 : (Jvm.Cond.methodLink "FrameHeirsLaw" (31 : Nat) ({ cls := "FrameHeirs", name := "fault", desc := "(I)I" } : Jvm.MethodName)) ∈ gw := gw_mem (mT2 (i := 217) rfl) rfl
theorem q600 : (Jvm.Cond.instanceMethod ({ cls := "FrameHeirs", name := "fault", desc := "(I)I" } : Jvm.MethodName)) ∈ gw := gw_mem (mT2 (i := 218) rfl) rfl
theorem q601 : (Jvm.Cond.selects "FrameHeirs" ({ cls := "FrameHeirs", name := "fault", desc := "(I)I" } : Jvm.MethodName) ({ cls := "FrameHeirs", name := "fault", desc := "(I)I" } : Jvm.MethodName)) ∈ gw := gw_mem (mT2 (i := 219) rfl) rfl
theorem q602 : (Jvm.Cond.code ({ cls := "FrameHeirs", name := "fault", desc := "(I)I" } : Jvm.MethodName) prog_1_method_4_code (2 : Nat) (Option.some Jvm.ClassFile.FieldType.int)) ∈ gw := gw_mem (mT2 (i := 220) rfl) rfl
theorem q603 : (Jvm.Cond.methodLink "FrameHeirsLaw" (35 : Nat) ({ cls := "FrameHeirs", name := "named", desc := "(I)I" } : Jvm.MethodName)) ∈ gw := gw_mem (mT2 (i := 221) rfl) rfl
theorem q604 : (Jvm.Cond.instanceMethod ({ cls := "FrameHeirs", name := "named", desc := "(I)I" } : Jvm.MethodName)) ∈ gw := gw_mem (mT2 (i := 222) rfl) rfl
theorem q605 : (Jvm.Cond.selects "FrameHeirs" ({ cls := "FrameHeirs", name := "named", desc := "(I)I" } : Jvm.MethodName) ({ cls := "FrameHeirs", name := "named", desc := "(I)I" } : Jvm.MethodName)) ∈ gw := gw_mem (mT2 (i := 223) rfl) rfl
theorem q606 : (Jvm.Cond.code ({ cls := "FrameHeirs", name := "named", desc := "(I)I" } : Jvm.MethodName) prog_1_method_5_code (2 : Nat) (Option.some Jvm.ClassFile.FieldType.int)) ∈ gw := gw_mem (mT2 (i := 224) rfl) rfl
theorem q607 : (Jvm.Cond.methodLink "FrameHeirs" (87 : Nat) ({ cls := "FrameHeirs$Script", name := "spaceNamed", desc := "(I)I" } : Jvm.MethodName)) ∈ gw := gw_mem (mT2 (i := 225) rfl) rfl
theorem q608 : (Jvm.Cond.methodLink "FrameHeirsLaw" (39 : Nat) ({ cls := "FrameHeirs", name := "map", desc := "(IIIII)I" } : Jvm.MethodName)) ∈ gw := gw_mem (mT2 (i := 226) rfl) rfl
theorem q609 : (Jvm.Cond.instanceMethod ({ cls := "FrameHeirs", name := "map", desc := "(IIIII)I" } : Jvm.MethodName)) ∈ gw := gw_mem (mT2 (i := 227) rfl) rfl
theorem q610 : (Jvm.Cond.selects "FrameHeirs" ({ cls := "FrameHeirs", name := "map", desc := "(IIIII)I" } : Jvm.MethodName) ({ cls := "FrameHeirs", name := "map", desc := "(IIIII)I" } : Jvm.MethodName)) ∈ gw := gw_mem (mT2 (i := 228) rfl) rfl
theorem q611 : (Jvm.Cond.code ({ cls := "FrameHeirs", name := "map", desc := "(IIIII)I" } : Jvm.MethodName) prog_1_method_6_code (6 : Nat) (Option.some Jvm.ClassFile.FieldType.int)) ∈ gw := gw_mem (mT2 (i := 229) rfl) rfl
theorem q612 : (Jvm.Cond.methodLink "FrameHeirs" (91 : Nat) ({ cls := "FrameHeirs", name := "remember", desc := "()V" } : Jvm.MethodName)) ∈ gw := gw_mem (mT2 (i := 230) rfl) rfl
theorem q614 : (Jvm.Cond.instanceMethod ({ cls := "FrameHeirs", name := "remember", desc := "()V" } : Jvm.MethodName)) ∈ gw := gw_mem (mT2 (i := 232) rfl) rfl
theorem q615 : (Jvm.Cond.code ({ cls := "FrameHeirs", name := "remember", desc := "()V" } : Jvm.MethodName) prog_1_method_42_code (1 : Nat) (Option.none : Option Jvm.ClassFile.FieldType)) ∈ gw := gw_mem (mT2 (i := 233) rfl) rfl
theorem q616 : (Jvm.Cond.methodLink "FrameHeirs" (251 : Nat) ({ cls := "FrameHeirs$World", name := "copyFrom", desc := "(LFrameHeirs$World;)V" } : Jvm.MethodName)) ∈ gw := gw_mem (mT2 (i := 234) rfl) rfl
theorem q617 : (Jvm.Cond.instanceMethod ({ cls := "FrameHeirs$World", name := "copyFrom", desc := "(LFrameHeirs$World;)V" } : Jvm.MethodName)) ∈ gw := gw_mem (mT2 (i := 235) rfl) rfl
theorem q618 : (Jvm.Cond.selects "FrameHeirs$World" ({ cls := "FrameHeirs$World", name := "copyFrom", desc := "(LFrameHeirs$World;)V" } : Jvm.MethodName) ({ cls := "FrameHeirs$World", name := "copyFrom", desc := "(LFrameHeirs$World;)V" } : Jvm.MethodName)) ∈ gw := gw_mem (mT2 (i := 236) rfl) rfl
theorem q619 : (Jvm.Cond.code ({ cls := "FrameHeirs$World", name := "copyFrom", desc := "(LFrameHeirs$World;)V" } : Jvm.MethodName) prog_6_method_3_code (2 : Nat) (Option.none : Option Jvm.ClassFile.FieldType)) ∈ gw := gw_mem (mT2 (i := 237) rfl) rfl
theorem q620 : (Jvm.Cond.methodLink "FrameHeirs$World" (88 : Nat) ({ cls := "FrameHeirs$Deeds", name := "copyFrom", desc := "(LFrameHeirs$Deeds;)V" } : Jvm.MethodName)) ∈ gw := gw_mem (mT2 (i := 238) rfl) rfl
theorem q621 : (Jvm.Cond.instanceMethod ({ cls := "FrameHeirs$Deeds", name := "copyFrom", desc := "(LFrameHeirs$Deeds;)V" } : Jvm.MethodName)) ∈ gw := gw_mem (mT2 (i := 239) rfl) rfl
theorem q622 : (Jvm.Cond.selects "FrameHeirs$Deeds" ({ cls := "FrameHeirs$Deeds", name := "copyFrom", desc := "(LFrameHeirs$Deeds;)V" } : Jvm.MethodName) ({ cls := "FrameHeirs$Deeds", name := "copyFrom", desc := "(LFrameHeirs$Deeds;)V" } : Jvm.MethodName)) ∈ gw := gw_mem (mT3 (i := 0) rfl) rfl
theorem q623 : (Jvm.Cond.code ({ cls := "FrameHeirs$Deeds", name := "copyFrom", desc := "(LFrameHeirs$Deeds;)V" } : Jvm.MethodName) prog_2_method_3_code (2 : Nat) (Option.none : Option Jvm.ClassFile.FieldType)) ∈ gw := gw_mem (mT3 (i := 1) rfl) rfl
theorem q624 : (Jvm.Cond.methodLink "FrameHeirs$Deeds" (80 : Nat) ({ cls := "java/lang/System", name := "arraycopy", desc := "(Ljava/lang/Object;ILjava/lang/Object;II)V" } : Jvm.MethodName)) ∈ gw := gw_mem (mT3 (i := 2) rfl) rfl
theorem q625 : (Jvm.Cond.static ({ cls := "java/lang/System", name := "arraycopy", desc := "(Ljava/lang/Object;ILjava/lang/Object;II)V" } : Jvm.MethodName)) ∈ gw := gw_mem (mT3 (i := 3) rfl) rfl
theorem q626 : (Jvm.Cond.native ({ cls := "java/lang/System", name := "arraycopy", desc := "(Ljava/lang/Object;ILjava/lang/Object;II)V" } : Jvm.MethodName)) ∈ gw := gw_mem (mT3 (i := 4) rfl) rfl
theorem q627 : (Jvm.Cond.methodLink "FrameHeirs$World" (92 : Nat) ({ cls := "java/lang/System", name := "arraycopy", desc := "(Ljava/lang/Object;ILjava/lang/Object;II)V" } : Jvm.MethodName)) ∈ gw := gw_mem (mT3 (i := 5) rfl) rfl
theorem q628 : (Jvm.Cond.methodLink "FrameHeirs" (94 : Nat) ({ cls := "FrameHeirs$World", name := "handOn", desc := "(IIIII)I" } : Jvm.MethodName)) ∈ gw := gw_mem (mT3 (i := 6) rfl) rfl
theorem q629 : (Jvm.Cond.instanceMethod ({ cls := "FrameHeirs$World", name := "handOn", desc := "(IIIII)I" } : Jvm.MethodName)) ∈ gw := gw_mem (mT3 (i := 7) rfl) rfl
theorem q630 : (Jvm.Cond.selects "FrameHeirs$World" ({ cls := "FrameHeirs$World", name := "handOn", desc := "(IIIII)I" } : Jvm.MethodName) ({ cls := "FrameHeirs$World", name := "handOn", desc := "(IIIII)I" } : Jvm.MethodName)) ∈ gw := gw_mem (mT3 (i := 8) rfl) rfl
theorem q631 : (Jvm.Cond.code ({ cls := "FrameHeirs$World", name := "handOn", desc := "(IIIII)I" } : Jvm.MethodName) prog_6_method_12_code (10 : Nat) (Option.some Jvm.ClassFile.FieldType.int)) ∈ gw := gw_mem (mT3 (i := 9) rfl) rfl
theorem q632 : (Jvm.Cond.methodLink "FrameHeirs$World" (129 : Nat) ({ cls := "FrameHeirs$World", name := "areTwo", desc := "(II)Z" } : Jvm.MethodName)) ∈ gw := gw_mem (mT3 (i := 10) rfl) rfl
theorem q633 : (Jvm.Cond.instanceMethod ({ cls := "FrameHeirs$World", name := "areTwo", desc := "(II)Z" } : Jvm.MethodName)) ∈ gw := gw_mem (mT3 (i := 11) rfl) rfl
theorem q634 : (Jvm.Cond.selects "FrameHeirs$World" ({ cls := "FrameHeirs$World", name := "areTwo", desc := "(II)Z" } : Jvm.MethodName) ({ cls := "FrameHeirs$World", name := "areTwo", desc := "(II)Z" } : Jvm.MethodName)) ∈ gw := gw_mem (mT3 (i := 12) rfl) rfl
theorem q635 : (Jvm.Cond.code ({ cls := "FrameHeirs$World", name := "areTwo", desc := "(II)Z" } : Jvm.MethodName) prog_6_method_5_code (3 : Nat) (Option.some Jvm.ClassFile.FieldType.boolean)) ∈ gw := gw_mem (mT3 (i := 13) rfl) rfl
theorem q636 : (Jvm.Cond.methodLink "FrameHeirs$World" (98 : Nat) ({ cls := "FrameHeirs$World", name := "isSpace", desc := "(I)Z" } : Jvm.MethodName)) ∈ gw := gw_mem (mT3 (i := 14) rfl) rfl
theorem q637 : (Jvm.Cond.instanceMethod ({ cls := "FrameHeirs$World", name := "isSpace", desc := "(I)Z" } : Jvm.MethodName)) ∈ gw := gw_mem (mT3 (i := 15) rfl) rfl
theorem q638 : (Jvm.Cond.selects "FrameHeirs$World" ({ cls := "FrameHeirs$World", name := "isSpace", desc := "(I)Z" } : Jvm.MethodName) ({ cls := "FrameHeirs$World", name := "isSpace", desc := "(I)Z" } : Jvm.MethodName)) ∈ gw := gw_mem (mT3 (i := 16) rfl) rfl
theorem q639 : (Jvm.Cond.code ({ cls := "FrameHeirs$World", name := "isSpace", desc := "(I)Z" } : Jvm.MethodName) prog_6_method_4_code (2 : Nat) (Option.some Jvm.ClassFile.FieldType.boolean)) ∈ gw := gw_mem (mT3 (i := 17) rfl) rfl
theorem q640 : (Jvm.Cond.methodLink "FrameHeirs$World" (132 : Nat) ({ cls := "FrameHeirs$World", name := "isRegionOf", desc := "(II)Z" } : Jvm.MethodName)) ∈ gw := gw_mem (mT3 (i := 18) rfl) rfl
theorem q641 : (Jvm.Cond.instanceMethod ({ cls := "FrameHeirs$World", name := "isRegionOf", desc := "(II)Z" } : Jvm.MethodName)) ∈ gw := gw_mem (mT3 (i := 19) rfl) rfl
theorem q642 : (Jvm.Cond.selects "FrameHeirs$World" ({ cls := "FrameHeirs$World", name := "isRegionOf", desc := "(II)Z" } : Jvm.MethodName) ({ cls := "FrameHeirs$World", name := "isRegionOf", desc := "(II)Z" } : Jvm.MethodName)) ∈ gw := gw_mem (mT3 (i := 20) rfl) rfl
theorem q643 : (Jvm.Cond.code ({ cls := "FrameHeirs$World", name := "isRegionOf", desc := "(II)Z" } : Jvm.MethodName) prog_6_method_9_code (3 : Nat) (Option.some Jvm.ClassFile.FieldType.boolean)) ∈ gw := gw_mem (mT3 (i := 21) rfl) rfl
theorem q644 : (Jvm.Cond.methodLink "FrameHeirs$World" (102 : Nat) ({ cls := "FrameHeirs$World", name := "isRegion", desc := "(II)Z" } : Jvm.MethodName)) ∈ gw := gw_mem (mT3 (i := 22) rfl) rfl
theorem q646 : (Jvm.Cond.instanceMethod ({ cls := "FrameHeirs$World", name := "isRegion", desc := "(II)Z" } : Jvm.MethodName)) ∈ gw := gw_mem (mT3 (i := 24) rfl) rfl
theorem q647 : (Jvm.Cond.code ({ cls := "FrameHeirs$World", name := "isRegion", desc := "(II)Z" } : Jvm.MethodName) prog_6_method_8_code (4 : Nat) (Option.some Jvm.ClassFile.FieldType.boolean)) ∈ gw := gw_mem (mT3 (i := 25) rfl) rfl
theorem q649 : (Jvm.Cond.static ({ cls := "FrameHeirs", name := "areRights", desc := "(I)Z" } : Jvm.MethodName)) ∈ gw := gw_mem (mT3 (i := 27) rfl) rfl
theorem q650 : (Jvm.Cond.code ({ cls := "FrameHeirs", name := "areRights", desc := "(I)Z" } : Jvm.MethodName) prog_1_method_45_code (1 : Nat) (Option.some Jvm.ClassFile.FieldType.boolean)) ∈ gw := gw_mem (mT3 (i := 28) rfl) rfl
theorem q651 : (Jvm.Cond.methodLink "FrameHeirs$World" (138 : Nat) ({ cls := "FrameHeirs$World", name := "seenIn", desc := "(III)I" } : Jvm.MethodName)) ∈ gw := gw_mem (mT3 (i := 29) rfl) rfl
theorem q653 : (Jvm.Cond.instanceMethod ({ cls := "FrameHeirs$World", name := "seenIn", desc := "(III)I" } : Jvm.MethodName)) ∈ gw := gw_mem (mT3 (i := 31) rfl) rfl
theorem q654 : (Jvm.Cond.code ({ cls := "FrameHeirs$World", name := "seenIn", desc := "(III)I" } : Jvm.MethodName) prog_6_method_10_code (8 : Nat) (Option.some Jvm.ClassFile.FieldType.int)) ∈ gw := gw_mem (mT3 (i := 32) rfl) rfl
theorem q655 : (Jvm.Cond.methodLink "FrameHeirs$World" (106 : Nat) ({ cls := "FrameHeirs$Deeds", name := "find", desc := "(II)I" } : Jvm.MethodName)) ∈ gw := gw_mem (mT3 (i := 33) rfl) rfl
theorem q656 : (Jvm.Cond.instanceMethod ({ cls := "FrameHeirs$Deeds", name := "find", desc := "(II)I" } : Jvm.MethodName)) ∈ gw := gw_mem (mT3 (i := 34) rfl) rfl
theorem q657 : (Jvm.Cond.selects "FrameHeirs$Deeds" ({ cls := "FrameHeirs$Deeds", name := "find", desc := "(II)I" } : Jvm.MethodName) ({ cls := "FrameHeirs$Deeds", name := "find", desc := "(II)I" } : Jvm.MethodName)) ∈ gw := gw_mem (mT3 (i := 35) rfl) rfl
theorem q658 : (Jvm.Cond.code ({ cls := "FrameHeirs$Deeds", name := "find", desc := "(II)I" } : Jvm.MethodName) prog_2_method_4_code (3 : Nat) (Option.some Jvm.ClassFile.FieldType.int)) ∈ gw := gw_mem (mT3 (i := 36) rfl) rfl
theorem q659 : (Jvm.Cond.methodLink "FrameHeirs$World" (113 : Nat) ({ cls := "FrameHeirs$Deeds", name := "isBusy", desc := "(I)Z" } : Jvm.MethodName)) ∈ gw := gw_mem (mT3 (i := 37) rfl) rfl
theorem q660 : (Jvm.Cond.instanceMethod ({ cls := "FrameHeirs$Deeds", name := "isBusy", desc := "(I)Z" } : Jvm.MethodName)) ∈ gw := gw_mem (mT3 (i := 38) rfl) rfl
theorem q661 : (Jvm.Cond.selects "FrameHeirs$Deeds" ({ cls := "FrameHeirs$Deeds", name := "isBusy", desc := "(I)Z" } : Jvm.MethodName) ({ cls := "FrameHeirs$Deeds", name := "isBusy", desc := "(I)Z" } : Jvm.MethodName)) ∈ gw := gw_mem (mT3 (i := 39) rfl) rfl
theorem q662 : (Jvm.Cond.code ({ cls := "FrameHeirs$Deeds", name := "isBusy", desc := "(I)Z" } : Jvm.MethodName) prog_2_method_25_code (4 : Nat) (Option.some Jvm.ClassFile.FieldType.boolean)) ∈ gw := gw_mem (mT3 (i := 40) rfl) rfl
theorem q663 : (Jvm.Cond.methodLink "FrameHeirs$World" (116 : Nat) ({ cls := "FrameHeirs$Deeds", name := "isTied", desc := "(I)Z" } : Jvm.MethodName)) ∈ gw := gw_mem (mT3 (i := 41) rfl) rfl
theorem q664 : (Jvm.Cond.instanceMethod ({ cls := "FrameHeirs$Deeds", name := "isTied", desc := "(I)Z" } : Jvm.MethodName)) ∈ gw := gw_mem (mT3 (i := 42) rfl) rfl
theorem q665 : (Jvm.Cond.selects "FrameHeirs$Deeds" ({ cls := "FrameHeirs$Deeds", name := "isTied", desc := "(I)Z" } : Jvm.MethodName) ({ cls := "FrameHeirs$Deeds", name := "isTied", desc := "(I)Z" } : Jvm.MethodName)) ∈ gw := gw_mem (mT3 (i := 43) rfl) rfl
theorem q666 : (Jvm.Cond.code ({ cls := "FrameHeirs$Deeds", name := "isTied", desc := "(I)Z" } : Jvm.MethodName) prog_2_method_26_code (3 : Nat) (Option.some Jvm.ClassFile.FieldType.boolean)) ∈ gw := gw_mem (mT3 (i := 44) rfl) rfl
theorem q667 : (Jvm.Cond.methodLink "FrameHeirs$Deeds" (140 : Nat) ({ cls := "FrameHeirs$Deeds", name := "isBusy", desc := "(I)Z" } : Jvm.MethodName)) ∈ gw := gw_mem (mT3 (i := 45) rfl) rfl
theorem q668 : (Jvm.Cond.methodLink "FrameHeirs$Deeds" (144 : Nat) ({ cls := "FrameHeirs$Deeds", name := "isBeneath", desc := "(II)Z" } : Jvm.MethodName)) ∈ gw := gw_mem (mT3 (i := 46) rfl) rfl
theorem q669 : (Jvm.Cond.instanceMethod ({ cls := "FrameHeirs$Deeds", name := "isBeneath", desc := "(II)Z" } : Jvm.MethodName)) ∈ gw := gw_mem (mT3 (i := 47) rfl) rfl
theorem q670 : (Jvm.Cond.selects "FrameHeirs$Deeds" ({ cls := "FrameHeirs$Deeds", name := "isBeneath", desc := "(II)Z" } : Jvm.MethodName) ({ cls := "FrameHeirs$Deeds", name := "isBeneath", desc := "(II)Z" } : Jvm.MethodName)) ∈ gw := gw_mem (mT3 (i := 48) rfl) rfl
theorem q671 : (Jvm.Cond.code ({ cls := "FrameHeirs$Deeds", name := "isBeneath", desc := "(II)Z" } : Jvm.MethodName) prog_2_method_24_code (5 : Nat) (Option.some Jvm.ClassFile.FieldType.boolean)) ∈ gw := gw_mem (mT3 (i := 49) rfl) rfl
theorem q672 : (Jvm.Cond.methodLink "FrameHeirs$World" (142 : Nat) ({ cls := "FrameHeirs$Deeds", name := "pagesIn", desc := "(III)I" } : Jvm.MethodName)) ∈ gw := gw_mem (mT3 (i := 50) rfl) rfl
theorem q673 : (Jvm.Cond.instanceMethod ({ cls := "FrameHeirs$Deeds", name := "pagesIn", desc := "(III)I" } : Jvm.MethodName)) ∈ gw := gw_mem (mT3 (i := 51) rfl) rfl
theorem q674 : (Jvm.Cond.selects "FrameHeirs$Deeds" ({ cls := "FrameHeirs$Deeds", name := "pagesIn", desc := "(III)I" } : Jvm.MethodName) ({ cls := "FrameHeirs$Deeds", name := "pagesIn", desc := "(III)I" } : Jvm.MethodName)) ∈ gw := gw_mem (mT3 (i := 52) rfl) rfl
theorem q675 : (Jvm.Cond.code ({ cls := "FrameHeirs$Deeds", name := "pagesIn", desc := "(III)I" } : Jvm.MethodName) prog_2_method_5_code (6 : Nat) (Option.some Jvm.ClassFile.FieldType.int)) ∈ gw := gw_mem (mT3 (i := 53) rfl) rfl
theorem q676 : (Jvm.Cond.methodLink "FrameHeirs$World" (145 : Nat) ({ cls := "FrameHeirs$World", name := "pagesWith", desc := "(IIII)I" } : Jvm.MethodName)) ∈ gw := gw_mem (mT3 (i := 54) rfl) rfl
theorem q678 : (Jvm.Cond.instanceMethod ({ cls := "FrameHeirs$World", name := "pagesWith", desc := "(IIII)I" } : Jvm.MethodName)) ∈ gw := gw_mem (mT3 (i := 56) rfl) rfl
theorem q679 : (Jvm.Cond.code ({ cls := "FrameHeirs$World", name := "pagesWith", desc := "(IIII)I" } : Jvm.MethodName) prog_6_method_13_code (9 : Nat) (Option.some Jvm.ClassFile.FieldType.int)) ∈ gw := gw_mem (mT3 (i := 57) rfl) rfl
theorem q680 : (Jvm.Cond.methodLink "FrameHeirs$World" (149 : Nat) ({ cls := "FrameHeirs$World", name := "exceedsQuota", desc := "(II)Z" } : Jvm.MethodName)) ∈ gw := gw_mem (mT3 (i := 58) rfl) rfl
theorem q682 : (Jvm.Cond.instanceMethod ({ cls := "FrameHeirs$World", name := "exceedsQuota", desc := "(II)Z" } : Jvm.MethodName)) ∈ gw := gw_mem (mT3 (i := 60) rfl) rfl
theorem q683 : (Jvm.Cond.code ({ cls := "FrameHeirs$World", name := "exceedsQuota", desc := "(II)Z" } : Jvm.MethodName) prog_6_method_11_code (3 : Nat) (Option.some Jvm.ClassFile.FieldType.boolean)) ∈ gw := gw_mem (mT3 (i := 61) rfl) rfl
theorem q684 : (Jvm.Cond.methodLink "FrameHeirs$World" (122 : Nat) ({ cls := "FrameHeirs$Deeds", name := "pagesOf", desc := "(I)I" } : Jvm.MethodName)) ∈ gw := gw_mem (mT3 (i := 62) rfl) rfl
theorem q685 : (Jvm.Cond.instanceMethod ({ cls := "FrameHeirs$Deeds", name := "pagesOf", desc := "(I)I" } : Jvm.MethodName)) ∈ gw := gw_mem (mT3 (i := 63) rfl) rfl
theorem q686 : (Jvm.Cond.selects "FrameHeirs$Deeds" ({ cls := "FrameHeirs$Deeds", name := "pagesOf", desc := "(I)I" } : Jvm.MethodName) ({ cls := "FrameHeirs$Deeds", name := "pagesOf", desc := "(I)I" } : Jvm.MethodName)) ∈ gw := gw_mem (mT3 (i := 64) rfl) rfl
theorem q687 : (Jvm.Cond.code ({ cls := "FrameHeirs$Deeds", name := "pagesOf", desc := "(I)I" } : Jvm.MethodName) prog_2_method_6_code (2 : Nat) (Option.some Jvm.ClassFile.FieldType.int)) ∈ gw := gw_mem (mT3 (i := 65) rfl) rfl
theorem q688 : (Jvm.Cond.methodLink "FrameHeirs$Deeds" (86 : Nat) ({ cls := "FrameHeirs$Deeds", name := "pagesIn", desc := "(III)I" } : Jvm.MethodName)) ∈ gw := gw_mem (mT3 (i := 66) rfl) rfl
theorem q689 : (Jvm.Cond.methodLink "FrameHeirs$World" (152 : Nat) ({ cls := "FrameHeirs$World", name := "makeHeirs", desc := "(IIIII)I" } : Jvm.MethodName)) ∈ gw := gw_mem (mT3 (i := 67) rfl) rfl
theorem q691 : (Jvm.Cond.instanceMethod ({ cls := "FrameHeirs$World", name := "makeHeirs", desc := "(IIIII)I" } : Jvm.MethodName)) ∈ gw := gw_mem (mT3 (i := 69) rfl) rfl
theorem q692 : (Jvm.Cond.code ({ cls := "FrameHeirs$World", name := "makeHeirs", desc := "(IIIII)I" } : Jvm.MethodName) prog_6_method_14_code (13 : Nat) (Option.some Jvm.ClassFile.FieldType.int)) ∈ gw := gw_mem (mT3 (i := 70) rfl) rfl
theorem q693 : (Jvm.Cond.methodLink "FrameHeirs$World" (161 : Nat) ({ cls := "java/lang/Math", name := "min", desc := "(II)I" } : Jvm.MethodName)) ∈ gw := gw_mem (mT3 (i := 71) rfl) rfl
theorem q694 : (Jvm.Cond.methodLink "FrameHeirs$World" (166 : Nat) ({ cls := "FrameHeirs$World", name := "addHeir", desc := "(IIIIII)I" } : Jvm.MethodName)) ∈ gw := gw_mem (mT3 (i := 72) rfl) rfl
theorem q696 : (Jvm.Cond.instanceMethod ({ cls := "FrameHeirs$World", name := "addHeir", desc := "(IIIIII)I" } : Jvm.MethodName)) ∈ gw := gw_mem (mT3 (i := 74) rfl) rfl
theorem q697 : (Jvm.Cond.code ({ cls := "FrameHeirs$World", name := "addHeir", desc := "(IIIIII)I" } : Jvm.MethodName) prog_6_method_15_code (9 : Nat) (Option.some Jvm.ClassFile.FieldType.int)) ∈ gw := gw_mem (mT3 (i := 75) rfl) rfl
theorem q698 : (Jvm.Cond.methodLink "FrameHeirs$World" (170 : Nat) ({ cls := "FrameHeirs$Questions", name := "frameAt", desc := "(LFrameHeirs$Deeds;II)I" } : Jvm.MethodName)) ∈ gw := gw_mem (mT3 (i := 76) rfl) rfl
theorem q699 : (Jvm.Cond.static ({ cls := "FrameHeirs$Questions", name := "frameAt", desc := "(LFrameHeirs$Deeds;II)I" } : Jvm.MethodName)) ∈ gw := gw_mem (mT3 (i := 77) rfl) rfl
theorem q700 : (Jvm.Cond.code ({ cls := "FrameHeirs$Questions", name := "frameAt", desc := "(LFrameHeirs$Deeds;II)I" } : Jvm.MethodName) prog_3_method_3_code (3 : Nat) (Option.some Jvm.ClassFile.FieldType.int)) ∈ gw := gw_mem (mT3 (i := 78) rfl) rfl
theorem q701 : (Jvm.Cond.methodLink "FrameHeirs$World" (176 : Nat) ({ cls := "FrameHeirs$Deeds", name := "append", desc := "(II)V" } : Jvm.MethodName)) ∈ gw := gw_mem (mT3 (i := 79) rfl) rfl
theorem q702 : (Jvm.Cond.instanceMethod ({ cls := "FrameHeirs$Deeds", name := "append", desc := "(II)V" } : Jvm.MethodName)) ∈ gw := gw_mem (mT3 (i := 80) rfl) rfl
theorem q703 : (Jvm.Cond.selects "FrameHeirs$Deeds" ({ cls := "FrameHeirs$Deeds", name := "append", desc := "(II)V" } : Jvm.MethodName) ({ cls := "FrameHeirs$Deeds", name := "append", desc := "(II)V" } : Jvm.MethodName)) ∈ gw := gw_mem (mT3 (i := 81) rfl) rfl
theorem q704 : (Jvm.Cond.code ({ cls := "FrameHeirs$Deeds", name := "append", desc := "(II)V" } : Jvm.MethodName) prog_2_method_12_code (4 : Nat) (Option.none : Option Jvm.ClassFile.FieldType)) ∈ gw := gw_mem (mT3 (i := 82) rfl) rfl
theorem q705 : (Jvm.Cond.methodLink "FrameHeirs" (98 : Nat) ({ cls := "FrameHeirs", name := "keep", desc := "(I)I" } : Jvm.MethodName)) ∈ gw := gw_mem (mT3 (i := 83) rfl) rfl
theorem q707 : (Jvm.Cond.instanceMethod ({ cls := "FrameHeirs", name := "keep", desc := "(I)I" } : Jvm.MethodName)) ∈ gw := gw_mem (mT3 (i := 85) rfl) rfl
theorem q708 : (Jvm.Cond.code ({ cls := "FrameHeirs", name := "keep", desc := "(I)I" } : Jvm.MethodName) prog_1_method_43_code (3 : Nat) (Option.some Jvm.ClassFile.FieldType.int)) ∈ gw := gw_mem (mT3 (i := 86) rfl) rfl
theorem q709 : (Jvm.Cond.methodLink "FrameHeirs" (307 : Nat) ({ cls := "java/lang/Math", name := "min", desc := "(II)I" } : Jvm.MethodName)) ∈ gw := gw_mem (mT3 (i := 87) rfl) rfl
theorem q710 : (Jvm.Cond.methodLink "FrameHeirsLaw" (43 : Nat) ({ cls := "FrameHeirs", name := "grant", desc := "(IIII)I" } : Jvm.MethodName)) ∈ gw := gw_mem (mT3 (i := 88) rfl) rfl
theorem q711 : (Jvm.Cond.instanceMethod ({ cls := "FrameHeirs", name := "grant", desc := "(IIII)I" } : Jvm.MethodName)) ∈ gw := gw_mem (mT3 (i := 89) rfl) rfl
theorem q712 : (Jvm.Cond.selects "FrameHeirs" ({ cls := "FrameHeirs", name := "grant", desc := "(IIII)I" } : Jvm.MethodName) ({ cls := "FrameHeirs", name := "grant", desc := "(IIII)I" } : Jvm.MethodName)) ∈ gw := gw_mem (mT3 (i := 90) rfl) rfl
theorem q713 : (Jvm.Cond.code ({ cls := "FrameHeirs", name := "grant", desc := "(IIII)I" } : Jvm.MethodName) prog_1_method_7_code (5 : Nat) (Option.some Jvm.ClassFile.FieldType.int)) ∈ gw := gw_mem (mT3 (i := 91) rfl) rfl
theorem q714 : (Jvm.Cond.methodLink "FrameHeirs" (101 : Nat) ({ cls := "FrameHeirs$World", name := "giveAway", desc := "(IIII)I" } : Jvm.MethodName)) ∈ gw := gw_mem (mT3 (i := 92) rfl) rfl
theorem q715 : (Jvm.Cond.instanceMethod ({ cls := "FrameHeirs$World", name := "giveAway", desc := "(IIII)I" } : Jvm.MethodName)) ∈ gw := gw_mem (mT3 (i := 93) rfl) rfl
theorem q716 : (Jvm.Cond.selects "FrameHeirs$World" ({ cls := "FrameHeirs$World", name := "giveAway", desc := "(IIII)I" } : Jvm.MethodName) ({ cls := "FrameHeirs$World", name := "giveAway", desc := "(IIII)I" } : Jvm.MethodName)) ∈ gw := gw_mem (mT3 (i := 94) rfl) rfl
theorem q717 : (Jvm.Cond.code ({ cls := "FrameHeirs$World", name := "giveAway", desc := "(IIII)I" } : Jvm.MethodName) prog_6_method_17_code (12 : Nat) (Option.some Jvm.ClassFile.FieldType.int)) ∈ gw := gw_mem (mT3 (i := 95) rfl) rfl
theorem q718 : (Jvm.Cond.methodLink "FrameHeirs$World" (180 : Nat) ({ cls := "FrameHeirs$Deeds", name := "cut", desc := "(III)V" } : Jvm.MethodName)) ∈ gw := gw_mem (mT3 (i := 96) rfl) rfl
theorem q719 : (Jvm.Cond.instanceMethod ({ cls := "FrameHeirs$Deeds", name := "cut", desc := "(III)V" } : Jvm.MethodName)) ∈ gw := gw_mem (mT3 (i := 97) rfl) rfl
theorem q720 : (Jvm.Cond.selects "FrameHeirs$Deeds" ({ cls := "FrameHeirs$Deeds", name := "cut", desc := "(III)V" } : Jvm.MethodName) ({ cls := "FrameHeirs$Deeds", name := "cut", desc := "(III)V" } : Jvm.MethodName)) ∈ gw := gw_mem (mT3 (i := 98) rfl) rfl
theorem q721 : (Jvm.Cond.code ({ cls := "FrameHeirs$Deeds", name := "cut", desc := "(III)V" } : Jvm.MethodName) prog_2_method_18_code (7 : Nat) (Option.none : Option Jvm.ClassFile.FieldType)) ∈ gw := gw_mem (mT3 (i := 99) rfl) rfl
theorem q722 : (Jvm.Cond.methodLink "FrameHeirs$Deeds" (114 : Nat) ({ cls := "FrameHeirs$Deeds", name := "find", desc := "(II)I" } : Jvm.MethodName)) ∈ gw := gw_mem (mT3 (i := 100) rfl) rfl
theorem q723 : (Jvm.Cond.methodLink "FrameHeirs$Deeds" (117 : Nat) ({ cls := "FrameHeirs$Deeds", name := "listAlike", desc := "(I)I" } : Jvm.MethodName)) ∈ gw := gw_mem (mT3 (i := 101) rfl) rfl
theorem q725 : (Jvm.Cond.instanceMethod ({ cls := "FrameHeirs$Deeds", name := "listAlike", desc := "(I)I" } : Jvm.MethodName)) ∈ gw := gw_mem (mT3 (i := 103) rfl) rfl
theorem q726 : (Jvm.Cond.code ({ cls := "FrameHeirs$Deeds", name := "listAlike", desc := "(I)I" } : Jvm.MethodName) prog_2_method_19_code (7 : Nat) (Option.some Jvm.ClassFile.FieldType.int)) ∈ gw := gw_mem (mT3 (i := 104) rfl) rfl
theorem q727 : (Jvm.Cond.methodLink "FrameHeirs$Deeds" (120 : Nat) ({ cls := "FrameHeirs$Deeds", name := "halve", desc := "(I)V" } : Jvm.MethodName)) ∈ gw := gw_mem (mT3 (i := 105) rfl) rfl
theorem q729 : (Jvm.Cond.instanceMethod ({ cls := "FrameHeirs$Deeds", name := "halve", desc := "(I)V" } : Jvm.MethodName)) ∈ gw := gw_mem (mT3 (i := 107) rfl) rfl
theorem q730 : (Jvm.Cond.code ({ cls := "FrameHeirs$Deeds", name := "halve", desc := "(I)V" } : Jvm.MethodName) prog_2_method_20_code (7 : Nat) (Option.none : Option Jvm.ClassFile.FieldType)) ∈ gw := gw_mem (mT3 (i := 108) rfl) rfl
theorem q731 : (Jvm.Cond.methodLink "FrameHeirs$Deeds" (123 : Nat) ({ cls := "FrameHeirs$Deeds", name := "make", desc := "(IIIII)I" } : Jvm.MethodName)) ∈ gw := gw_mem (mT3 (i := 109) rfl) rfl
theorem q732 : (Jvm.Cond.methodLink "FrameHeirs$Deeds" (127 : Nat) ({ cls := "FrameHeirs$Deeds", name := "putBehind", desc := "(II)V" } : Jvm.MethodName)) ∈ gw := gw_mem (mT3 (i := 110) rfl) rfl
theorem q734 : (Jvm.Cond.instanceMethod ({ cls := "FrameHeirs$Deeds", name := "putBehind", desc := "(II)V" } : Jvm.MethodName)) ∈ gw := gw_mem (mT3 (i := 112) rfl) rfl
theorem q735 : (Jvm.Cond.code ({ cls := "FrameHeirs$Deeds", name := "putBehind", desc := "(II)V" } : Jvm.MethodName) prog_2_method_13_code (5 : Nat) (Option.none : Option Jvm.ClassFile.FieldType)) ∈ gw := gw_mem (mT3 (i := 113) rfl) rfl
theorem q736 : (Jvm.Cond.methodLink "FrameHeirs$Deeds" (100 : Nat) ({ cls := "FrameHeirs$Deeds", name := "takeFromGiver", desc := "(I)V" } : Jvm.MethodName)) ∈ gw := gw_mem (mT3 (i := 114) rfl) rfl
theorem q738 : (Jvm.Cond.instanceMethod ({ cls := "FrameHeirs$Deeds", name := "takeFromGiver", desc := "(I)V" } : Jvm.MethodName)) ∈ gw := gw_mem (mT3 (i := 116) rfl) rfl
theorem q739 : (Jvm.Cond.code ({ cls := "FrameHeirs$Deeds", name := "takeFromGiver", desc := "(I)V" } : Jvm.MethodName) prog_2_method_14_code (5 : Nat) (Option.none : Option Jvm.ClassFile.FieldType)) ∈ gw := gw_mem (mT3 (i := 117) rfl) rfl
theorem q740 : (Jvm.Cond.methodLink "FrameHeirs$Deeds" (130 : Nat) ({ cls := "FrameHeirs$Deeds", name := "append", desc := "(II)V" } : Jvm.MethodName)) ∈ gw := gw_mem (mT3 (i := 118) rfl) rfl
theorem q741 : (Jvm.Cond.methodLink "FrameHeirs$World" (183 : Nat) ({ cls := "FrameHeirs$Deeds", name := "moveTo", desc := "(III)V" } : Jvm.MethodName)) ∈ gw := gw_mem (mT3 (i := 119) rfl) rfl
theorem q742 : (Jvm.Cond.instanceMethod ({ cls := "FrameHeirs$Deeds", name := "moveTo", desc := "(III)V" } : Jvm.MethodName)) ∈ gw := gw_mem (mT3 (i := 120) rfl) rfl
theorem q743 : (Jvm.Cond.selects "FrameHeirs$Deeds" ({ cls := "FrameHeirs$Deeds", name := "moveTo", desc := "(III)V" } : Jvm.MethodName) ({ cls := "FrameHeirs$Deeds", name := "moveTo", desc := "(III)V" } : Jvm.MethodName)) ∈ gw := gw_mem (mT3 (i := 121) rfl) rfl
theorem q744 : (Jvm.Cond.code ({ cls := "FrameHeirs$Deeds", name := "moveTo", desc := "(III)V" } : Jvm.MethodName) prog_2_method_11_code (4 : Nat) (Option.none : Option Jvm.ClassFile.FieldType)) ∈ gw := gw_mem (mT3 (i := 122) rfl) rfl
theorem q745 : (Jvm.Cond.methodLink "FrameHeirsLaw" (48 : Nat) ({ cls := "FrameHeirs", name := "flush", desc := "(IIIZ)I" } : Jvm.MethodName)) ∈ gw := gw_mem (mT3 (i := 123) rfl) rfl
theorem q746 : (Jvm.Cond.instanceMethod ({ cls := "FrameHeirs", name := "flush", desc := "(IIIZ)I" } : Jvm.MethodName)) ∈ gw := gw_mem (mT3 (i := 124) rfl) rfl
theorem q747 : (Jvm.Cond.selects "FrameHeirs" ({ cls := "FrameHeirs", name := "flush", desc := "(IIIZ)I" } : Jvm.MethodName) ({ cls := "FrameHeirs", name := "flush", desc := "(IIIZ)I" } : Jvm.MethodName)) ∈ gw := gw_mem (mT3 (i := 125) rfl) rfl
theorem q748 : (Jvm.Cond.code ({ cls := "FrameHeirs", name := "flush", desc := "(IIIZ)I" } : Jvm.MethodName) prog_1_method_8_code (5 : Nat) (Option.some Jvm.ClassFile.FieldType.int)) ∈ gw := gw_mem (mT3 (i := 126) rfl) rfl
theorem q749 : (Jvm.Cond.methodLink "FrameHeirs" (105 : Nat) ({ cls := "FrameHeirs$World", name := "startFlush", desc := "(IIIZ)I" } : Jvm.MethodName)) ∈ gw := gw_mem (mT3 (i := 127) rfl) rfl
theorem q750 : (Jvm.Cond.instanceMethod ({ cls := "FrameHeirs$World", name := "startFlush", desc := "(IIIZ)I" } : Jvm.MethodName)) ∈ gw := gw_mem (mT3 (i := 128) rfl) rfl
theorem q751 : (Jvm.Cond.selects "FrameHeirs$World" ({ cls := "FrameHeirs$World", name := "startFlush", desc := "(IIIZ)I" } : Jvm.MethodName) ({ cls := "FrameHeirs$World", name := "startFlush", desc := "(IIIZ)I" } : Jvm.MethodName)) ∈ gw := gw_mem (mT3 (i := 129) rfl) rfl
theorem q752 : (Jvm.Cond.code ({ cls := "FrameHeirs$World", name := "startFlush", desc := "(IIIZ)I" } : Jvm.MethodName) prog_6_method_18_code (8 : Nat) (Option.some Jvm.ClassFile.FieldType.int)) ∈ gw := gw_mem (mT3 (i := 130) rfl) rfl
theorem q753 : (Jvm.Cond.methodLink "FrameHeirs$World" (186 : Nat) ({ cls := "FrameHeirs$World", name := "queueJob", desc := "(IIIZ)I" } : Jvm.MethodName)) ∈ gw := gw_mem (mT3 (i := 131) rfl) rfl
theorem q755 : (Jvm.Cond.instanceMethod ({ cls := "FrameHeirs$World", name := "queueJob", desc := "(IIIZ)I" } : Jvm.MethodName)) ∈ gw := gw_mem (mT3 (i := 133) rfl) rfl
theorem q756 : (Jvm.Cond.code ({ cls := "FrameHeirs$World", name := "queueJob", desc := "(IIIZ)I" } : Jvm.MethodName) prog_6_method_19_code (11 : Nat) (Option.some Jvm.ClassFile.FieldType.int)) ∈ gw := gw_mem (mT3 (i := 134) rfl) rfl
theorem q757 : (Jvm.Cond.methodLink "FrameHeirs$World" (190 : Nat) ({ cls := "FrameHeirs$Deeds", name := "markTop", desc := "(II)V" } : Jvm.MethodName)) ∈ gw := gw_mem (mT3 (i := 135) rfl) rfl
theorem q758 : (Jvm.Cond.instanceMethod ({ cls := "FrameHeirs$Deeds", name := "markTop", desc := "(II)V" } : Jvm.MethodName)) ∈ gw := gw_mem (mT3 (i := 136) rfl) rfl
theorem q759 : (Jvm.Cond.selects "FrameHeirs$Deeds" ({ cls := "FrameHeirs$Deeds", name := "markTop", desc := "(II)V" } : Jvm.MethodName) ({ cls := "FrameHeirs$Deeds", name := "markTop", desc := "(II)V" } : Jvm.MethodName)) ∈ gw := gw_mem (mT3 (i := 137) rfl) rfl
theorem q760 : (Jvm.Cond.code ({ cls := "FrameHeirs$Deeds", name := "markTop", desc := "(II)V" } : Jvm.MethodName) prog_2_method_34_code (3 : Nat) (Option.none : Option Jvm.ClassFile.FieldType)) ∈ gw := gw_mem (mT3 (i := 138) rfl) rfl
theorem q761 : (Jvm.Cond.methodLink "FrameHeirs$World" (193 : Nat) ({ cls := "FrameHeirs$Deeds", name := "queueBeneath", desc := "(IZII)I" } : Jvm.MethodName)) ∈ gw := gw_mem (mT3 (i := 139) rfl) rfl
theorem q762 : (Jvm.Cond.instanceMethod ({ cls := "FrameHeirs$Deeds", name := "queueBeneath", desc := "(IZII)I" } : Jvm.MethodName)) ∈ gw := gw_mem (mT3 (i := 140) rfl) rfl
theorem q763 : (Jvm.Cond.selects "FrameHeirs$Deeds" ({ cls := "FrameHeirs$Deeds", name := "queueBeneath", desc := "(IZII)I" } : Jvm.MethodName) ({ cls := "FrameHeirs$Deeds", name := "queueBeneath", desc := "(IZII)I" } : Jvm.MethodName)) ∈ gw := gw_mem (mT3 (i := 141) rfl) rfl
theorem q764 : (Jvm.Cond.code ({ cls := "FrameHeirs$Deeds", name := "queueBeneath", desc := "(IZII)I" } : Jvm.MethodName) prog_2_method_33_code (8 : Nat) (Option.some Jvm.ClassFile.FieldType.int)) ∈ gw := gw_mem (mT3 (i := 142) rfl) rfl
theorem q765 : (Jvm.Cond.methodLink "FrameHeirs$Deeds" (104 : Nat) ({ cls := "FrameHeirs$Deeds", name := "deepest", desc := "(I)I" } : Jvm.MethodName)) ∈ gw := gw_mem (mT3 (i := 143) rfl) rfl
theorem q766 : (Jvm.Cond.instanceMethod ({ cls := "FrameHeirs$Deeds", name := "deepest", desc := "(I)I" } : Jvm.MethodName)) ∈ gw := gw_mem (mT3 (i := 144) rfl) rfl
theorem q767 : (Jvm.Cond.selects "FrameHeirs$Deeds" ({ cls := "FrameHeirs$Deeds", name := "deepest", desc := "(I)I" } : Jvm.MethodName) ({ cls := "FrameHeirs$Deeds", name := "deepest", desc := "(I)I" } : Jvm.MethodName)) ∈ gw := gw_mem (mT3 (i := 145) rfl) rfl
theorem q768 : (Jvm.Cond.code ({ cls := "FrameHeirs$Deeds", name := "deepest", desc := "(I)I" } : Jvm.MethodName) prog_2_method_16_code (4 : Nat) (Option.some Jvm.ClassFile.FieldType.int)) ∈ gw := gw_mem (mT3 (i := 146) rfl) rfl
theorem q769 : (Jvm.Cond.methodLink "FrameHeirs$Deeds" (108 : Nat) ({ cls := "FrameHeirs$Deeds", name := "afterwards", desc := "(I)I" } : Jvm.MethodName)) ∈ gw := gw_mem (mT3 (i := 147) rfl) rfl
theorem q770 : (Jvm.Cond.instanceMethod ({ cls := "FrameHeirs$Deeds", name := "afterwards", desc := "(I)I" } : Jvm.MethodName)) ∈ gw := gw_mem (mT3 (i := 148) rfl) rfl
theorem q771 : (Jvm.Cond.selects "FrameHeirs$Deeds" ({ cls := "FrameHeirs$Deeds", name := "afterwards", desc := "(I)I" } : Jvm.MethodName) ({ cls := "FrameHeirs$Deeds", name := "afterwards", desc := "(I)I" } : Jvm.MethodName)) ∈ gw := gw_mem (mT3 (i := 149) rfl) rfl
theorem q772 : (Jvm.Cond.code ({ cls := "FrameHeirs$Deeds", name := "afterwards", desc := "(I)I" } : Jvm.MethodName) prog_2_method_17_code (2 : Nat) (Option.some Jvm.ClassFile.FieldType.int)) ∈ gw := gw_mem (mT3 (i := 150) rfl) rfl
theorem q773 : (Jvm.Cond.methodLink "FrameHeirs$World" (197 : Nat) ({ cls := "FrameHeirs$Deeds", name := "endJob", desc := "(I)V" } : Jvm.MethodName)) ∈ gw := gw_mem (mT3 (i := 151) rfl) rfl
theorem q774 : (Jvm.Cond.instanceMethod ({ cls := "FrameHeirs$Deeds", name := "endJob", desc := "(I)V" } : Jvm.MethodName)) ∈ gw := gw_mem (mT3 (i := 152) rfl) rfl
theorem q775 : (Jvm.Cond.selects "FrameHeirs$Deeds" ({ cls := "FrameHeirs$Deeds", name := "endJob", desc := "(I)V" } : Jvm.MethodName) ({ cls := "FrameHeirs$Deeds", name := "endJob", desc := "(I)V" } : Jvm.MethodName)) ∈ gw := gw_mem (mT3 (i := 153) rfl) rfl
theorem q776 : (Jvm.Cond.code ({ cls := "FrameHeirs$Deeds", name := "endJob", desc := "(I)V" } : Jvm.MethodName) prog_2_method_35_code (3 : Nat) (Option.none : Option Jvm.ClassFile.FieldType)) ∈ gw := gw_mem (mT3 (i := 154) rfl) rfl
theorem q777 : (Jvm.Cond.methodLink "FrameHeirsLaw" (53 : Nat) ({ cls := "FrameHeirs", name := "work", desc := "(I)I" } : Jvm.MethodName)) ∈ gw := gw_mem (mT3 (i := 155) rfl) rfl
theorem q778 : (Jvm.Cond.instanceMethod ({ cls := "FrameHeirs", name := "work", desc := "(I)I" } : Jvm.MethodName)) ∈ gw := gw_mem (mT3 (i := 156) rfl) rfl
theorem q779 : (Jvm.Cond.selects "FrameHeirs" ({ cls := "FrameHeirs", name := "work", desc := "(I)I" } : Jvm.MethodName) ({ cls := "FrameHeirs", name := "work", desc := "(I)I" } : Jvm.MethodName)) ∈ gw := gw_mem (mT3 (i := 157) rfl) rfl
theorem q780 : (Jvm.Cond.code ({ cls := "FrameHeirs", name := "work", desc := "(I)I" } : Jvm.MethodName) prog_1_method_9_code (2 : Nat) (Option.some Jvm.ClassFile.FieldType.int)) ∈ gw := gw_mem (mT3 (i := 158) rfl) rfl
theorem q781 : (Jvm.Cond.methodLink "FrameHeirs" (109 : Nat) ({ cls := "FrameHeirs$World", name := "workOn", desc := "(I)I" } : Jvm.MethodName)) ∈ gw := gw_mem (mT3 (i := 159) rfl) rfl
theorem q782 : (Jvm.Cond.instanceMethod ({ cls := "FrameHeirs$World", name := "workOn", desc := "(I)I" } : Jvm.MethodName)) ∈ gw := gw_mem (mT3 (i := 160) rfl) rfl
theorem q783 : (Jvm.Cond.selects "FrameHeirs$World" ({ cls := "FrameHeirs$World", name := "workOn", desc := "(I)I" } : Jvm.MethodName) ({ cls := "FrameHeirs$World", name := "workOn", desc := "(I)I" } : Jvm.MethodName)) ∈ gw := gw_mem (mT3 (i := 161) rfl) rfl
theorem q784 : (Jvm.Cond.code ({ cls := "FrameHeirs$World", name := "workOn", desc := "(I)I" } : Jvm.MethodName) prog_6_method_20_code (3 : Nat) (Option.some Jvm.ClassFile.FieldType.int)) ∈ gw := gw_mem (mT3 (i := 162) rfl) rfl
theorem q785 : (Jvm.Cond.methodLink "FrameHeirs$World" (201 : Nat) ({ cls := "FrameHeirs$World", name := "workOnce", desc := "()V" } : Jvm.MethodName)) ∈ gw := gw_mem (mT3 (i := 163) rfl) rfl
theorem q787 : (Jvm.Cond.instanceMethod ({ cls := "FrameHeirs$World", name := "workOnce", desc := "()V" } : Jvm.MethodName)) ∈ gw := gw_mem (mT3 (i := 165) rfl) rfl
theorem q788 : (Jvm.Cond.code ({ cls := "FrameHeirs$World", name := "workOnce", desc := "()V" } : Jvm.MethodName) prog_6_method_21_code (3 : Nat) (Option.none : Option Jvm.ClassFile.FieldType)) ∈ gw := gw_mem (mT3 (i := 166) rfl) rfl
theorem q789 : (Jvm.Cond.methodLink "FrameHeirs$World" (204 : Nat) ({ cls := "FrameHeirs$Deeds", name := "firstToDo", desc := "(I)I" } : Jvm.MethodName)) ∈ gw := gw_mem (mT3 (i := 167) rfl) rfl
theorem q790 : (Jvm.Cond.instanceMethod ({ cls := "FrameHeirs$Deeds", name := "firstToDo", desc := "(I)I" } : Jvm.MethodName)) ∈ gw := gw_mem (mT3 (i := 168) rfl) rfl
theorem q791 : (Jvm.Cond.selects "FrameHeirs$Deeds" ({ cls := "FrameHeirs$Deeds", name := "firstToDo", desc := "(I)I" } : Jvm.MethodName) ({ cls := "FrameHeirs$Deeds", name := "firstToDo", desc := "(I)I" } : Jvm.MethodName)) ∈ gw := gw_mem (mT3 (i := 169) rfl) rfl
theorem q792 : (Jvm.Cond.code ({ cls := "FrameHeirs$Deeds", name := "firstToDo", desc := "(I)I" } : Jvm.MethodName) prog_2_method_31_code (4 : Nat) (Option.some Jvm.ClassFile.FieldType.int)) ∈ gw := gw_mem (mT3 (i := 170) rfl) rfl
theorem q793 : (Jvm.Cond.methodLink "FrameHeirs$World" (210 : Nat) ({ cls := "FrameHeirs$Deeds", name := "remove", desc := "(I)V" } : Jvm.MethodName)) ∈ gw := gw_mem (mT3 (i := 171) rfl) rfl
theorem q794 : (Jvm.Cond.instanceMethod ({ cls := "FrameHeirs$Deeds", name := "remove", desc := "(I)V" } : Jvm.MethodName)) ∈ gw := gw_mem (mT3 (i := 172) rfl) rfl
theorem q795 : (Jvm.Cond.selects "FrameHeirs$Deeds" ({ cls := "FrameHeirs$Deeds", name := "remove", desc := "(I)V" } : Jvm.MethodName) ({ cls := "FrameHeirs$Deeds", name := "remove", desc := "(I)V" } : Jvm.MethodName)) ∈ gw := gw_mem (mT3 (i := 173) rfl) rfl
theorem q796 : (Jvm.Cond.code ({ cls := "FrameHeirs$Deeds", name := "remove", desc := "(I)V" } : Jvm.MethodName) prog_2_method_15_code (5 : Nat) (Option.none : Option Jvm.ClassFile.FieldType)) ∈ gw := gw_mem (mT3 (i := 174) rfl) rfl
theorem q797 : (Jvm.Cond.methodLink "FrameHeirs$Deeds" (111 : Nat) ({ cls := "FrameHeirs$Deeds", name := "release", desc := "(I)V" } : Jvm.MethodName)) ∈ gw := gw_mem (mT3 (i := 175) rfl) rfl
theorem q799 : (Jvm.Cond.instanceMethod ({ cls := "FrameHeirs$Deeds", name := "release", desc := "(I)V" } : Jvm.MethodName)) ∈ gw := gw_mem (mT3 (i := 177) rfl) rfl
theorem q800 : (Jvm.Cond.code ({ cls := "FrameHeirs$Deeds", name := "release", desc := "(I)V" } : Jvm.MethodName) prog_2_method_10_code (2 : Nat) (Option.none : Option Jvm.ClassFile.FieldType)) ∈ gw := gw_mem (mT3 (i := 178) rfl) rfl
theorem q801 : (Jvm.Cond.methodLink "FrameHeirsLaw" (57 : Nat) ({ cls := "FrameHeirs", name := "touch", desc := "(III)I" } : Jvm.MethodName)) ∈ gw := gw_mem (mT3 (i := 179) rfl) rfl
theorem q802 : (Jvm.Cond.instanceMethod ({ cls := "FrameHeirs", name := "touch", desc := "(III)I" } : Jvm.MethodName)) ∈ gw := gw_mem (mT3 (i := 180) rfl) rfl
theorem q803 : (Jvm.Cond.selects "FrameHeirs" ({ cls := "FrameHeirs", name := "touch", desc := "(III)I" } : Jvm.MethodName) ({ cls := "FrameHeirs", name := "touch", desc := "(III)I" } : Jvm.MethodName)) ∈ gw := gw_mem (mT3 (i := 181) rfl) rfl
theorem q804 : (Jvm.Cond.code ({ cls := "FrameHeirs", name := "touch", desc := "(III)I" } : Jvm.MethodName) prog_1_method_10_code (4 : Nat) (Option.some Jvm.ClassFile.FieldType.int)) ∈ gw := gw_mem (mT3 (i := 182) rfl) rfl
theorem q805 : (Jvm.Cond.methodLink "FrameHeirs" (112 : Nat) ({ cls := "FrameHeirs$World", name := "touchPage", desc := "(III)I" } : Jvm.MethodName)) ∈ gw := gw_mem (mT3 (i := 183) rfl) rfl
theorem q806 : (Jvm.Cond.instanceMethod ({ cls := "FrameHeirs$World", name := "touchPage", desc := "(III)I" } : Jvm.MethodName)) ∈ gw := gw_mem (mT3 (i := 184) rfl) rfl
theorem q807 : (Jvm.Cond.selects "FrameHeirs$World" ({ cls := "FrameHeirs$World", name := "touchPage", desc := "(III)I" } : Jvm.MethodName) ({ cls := "FrameHeirs$World", name := "touchPage", desc := "(III)I" } : Jvm.MethodName)) ∈ gw := gw_mem (mT3 (i := 185) rfl) rfl
theorem q808 : (Jvm.Cond.code ({ cls := "FrameHeirs$World", name := "touchPage", desc := "(III)I" } : Jvm.MethodName) prog_6_method_23_code (5 : Nat) (Option.some Jvm.ClassFile.FieldType.int)) ∈ gw := gw_mem (mT3 (i := 186) rfl) rfl
theorem q809 : (Jvm.Cond.methodLink "FrameHeirs$World" (216 : Nat) ({ cls := "FrameHeirs$World", name := "isPlace", desc := "(II)Z" } : Jvm.MethodName)) ∈ gw := gw_mem (mT3 (i := 187) rfl) rfl
theorem q810 : (Jvm.Cond.instanceMethod ({ cls := "FrameHeirs$World", name := "isPlace", desc := "(II)Z" } : Jvm.MethodName)) ∈ gw := gw_mem (mT3 (i := 188) rfl) rfl
theorem q811 : (Jvm.Cond.selects "FrameHeirs$World" ({ cls := "FrameHeirs$World", name := "isPlace", desc := "(II)Z" } : Jvm.MethodName) ({ cls := "FrameHeirs$World", name := "isPlace", desc := "(II)Z" } : Jvm.MethodName)) ∈ gw := gw_mem (mT3 (i := 189) rfl) rfl
theorem q812 : (Jvm.Cond.code ({ cls := "FrameHeirs$World", name := "isPlace", desc := "(II)Z" } : Jvm.MethodName) prog_6_method_7_code (3 : Nat) (Option.some Jvm.ClassFile.FieldType.boolean)) ∈ gw := gw_mem (mT3 (i := 190) rfl) rfl
theorem q813 : (Jvm.Cond.methodLink "FrameHeirs$World" (226 : Nat) ({ cls := "FrameHeirs$World", name := "startWait", desc := "(III)V" } : Jvm.MethodName)) ∈ gw := gw_mem (mT3 (i := 191) rfl) rfl
theorem q815 : (Jvm.Cond.instanceMethod ({ cls := "FrameHeirs$World", name := "startWait", desc := "(III)V" } : Jvm.MethodName)) ∈ gw := gw_mem (mT3 (i := 193) rfl) rfl
theorem q816 : (Jvm.Cond.code ({ cls := "FrameHeirs$World", name := "startWait", desc := "(III)V" } : Jvm.MethodName) prog_6_method_24_code (4 : Nat) (Option.none : Option Jvm.ClassFile.FieldType)) ∈ gw := gw_mem (mT3 (i := 194) rfl) rfl
theorem q817 : (Jvm.Cond.methodLink "FrameHeirsLaw" (61 : Nat) ({ cls := "FrameHeirs", name := "serve", desc := "(I)I" } : Jvm.MethodName)) ∈ gw := gw_mem (mT3 (i := 195) rfl) rfl
theorem q818 : (Jvm.Cond.instanceMethod ({ cls := "FrameHeirs", name := "serve", desc := "(I)I" } : Jvm.MethodName)) ∈ gw := gw_mem (mT3 (i := 196) rfl) rfl
theorem q819 : (Jvm.Cond.selects "FrameHeirs" ({ cls := "FrameHeirs", name := "serve", desc := "(I)I" } : Jvm.MethodName) ({ cls := "FrameHeirs", name := "serve", desc := "(I)I" } : Jvm.MethodName)) ∈ gw := gw_mem (mT3 (i := 197) rfl) rfl
theorem q820 : (Jvm.Cond.code ({ cls := "FrameHeirs", name := "serve", desc := "(I)I" } : Jvm.MethodName) prog_1_method_11_code (2 : Nat) (Option.some Jvm.ClassFile.FieldType.int)) ∈ gw := gw_mem (mT3 (i := 198) rfl) rfl
theorem q821 : (Jvm.Cond.methodLink "FrameHeirs" (116 : Nat) ({ cls := "FrameHeirs$World", name := "serveFirst", desc := "(I)I" } : Jvm.MethodName)) ∈ gw := gw_mem (mT3 (i := 199) rfl) rfl
theorem q822 : (Jvm.Cond.instanceMethod ({ cls := "FrameHeirs$World", name := "serveFirst", desc := "(I)I" } : Jvm.MethodName)) ∈ gw := gw_mem (mT3 (i := 200) rfl) rfl
theorem q823 : (Jvm.Cond.selects "FrameHeirs$World" ({ cls := "FrameHeirs$World", name := "serveFirst", desc := "(I)I" } : Jvm.MethodName) ({ cls := "FrameHeirs$World", name := "serveFirst", desc := "(I)I" } : Jvm.MethodName)) ∈ gw := gw_mem (mT3 (i := 201) rfl) rfl
theorem q824 : (Jvm.Cond.code ({ cls := "FrameHeirs$World", name := "serveFirst", desc := "(I)I" } : Jvm.MethodName) prog_6_method_28_code (9 : Nat) (Option.some Jvm.ClassFile.FieldType.int)) ∈ gw := gw_mem (mT3 (i := 202) rfl) rfl
theorem q825 : (Jvm.Cond.methodLink "FrameHeirs$World" (232 : Nat) ({ cls := "FrameHeirs$World", name := "firstWaiting", desc := "(I)I" } : Jvm.MethodName)) ∈ gw := gw_mem (mT3 (i := 203) rfl) rfl
theorem q827 : (Jvm.Cond.instanceMethod ({ cls := "FrameHeirs$World", name := "firstWaiting", desc := "(I)I" } : Jvm.MethodName)) ∈ gw := gw_mem (mT3 (i := 205) rfl) rfl
theorem q828 : (Jvm.Cond.code ({ cls := "FrameHeirs$World", name := "firstWaiting", desc := "(I)I" } : Jvm.MethodName) prog_6_method_25_code (4 : Nat) (Option.some Jvm.ClassFile.FieldType.int)) ∈ gw := gw_mem (mT3 (i := 206) rfl) rfl
theorem q829 : (Jvm.Cond.methodLink "FrameHeirs$World" (235 : Nat) ({ cls := "FrameHeirs$World", name := "sourceFor", desc := "(II)I" } : Jvm.MethodName)) ∈ gw := gw_mem (mT3 (i := 207) rfl) rfl
theorem q831 : (Jvm.Cond.instanceMethod ({ cls := "FrameHeirs$World", name := "sourceFor", desc := "(II)I" } : Jvm.MethodName)) ∈ gw := gw_mem (mT3 (i := 209) rfl) rfl
theorem q832 : (Jvm.Cond.code ({ cls := "FrameHeirs$World", name := "sourceFor", desc := "(II)I" } : Jvm.MethodName) prog_6_method_29_code (5 : Nat) (Option.some Jvm.ClassFile.FieldType.int)) ∈ gw := gw_mem (mT3 (i := 210) rfl) rfl
theorem q833 : (Jvm.Cond.methodLink "FrameHeirs$World" (256 : Nat) ({ cls := "FrameHeirs$World", name := "firstFresh", desc := "(III)I" } : Jvm.MethodName)) ∈ gw := gw_mem (mT3 (i := 211) rfl) rfl
theorem q835 : (Jvm.Cond.instanceMethod ({ cls := "FrameHeirs$World", name := "firstFresh", desc := "(III)I" } : Jvm.MethodName)) ∈ gw := gw_mem (mT3 (i := 213) rfl) rfl
theorem q836 : (Jvm.Cond.code ({ cls := "FrameHeirs$World", name := "firstFresh", desc := "(III)I" } : Jvm.MethodName) prog_6_method_30_code (7 : Nat) (Option.some Jvm.ClassFile.FieldType.int)) ∈ gw := gw_mem (mT3 (i := 214) rfl) rfl
theorem q837 : (Jvm.Cond.methodLink "FrameHeirs$World" (259 : Nat) ({ cls := "FrameHeirs$Questions", name := "framesOf", desc := "(LFrameHeirs$Deeds;I)I" } : Jvm.MethodName)) ∈ gw := gw_mem (mT3 (i := 215) rfl) rfl
theorem q838 : (Jvm.Cond.static ({ cls := "FrameHeirs$Questions", name := "framesOf", desc := "(LFrameHeirs$Deeds;I)I" } : Jvm.MethodName)) ∈ gw := gw_mem (mT3 (i := 216) rfl) rfl
theorem q839 : (Jvm.Cond.code ({ cls := "FrameHeirs$Questions", name := "framesOf", desc := "(LFrameHeirs$Deeds;I)I" } : Jvm.MethodName) prog_3_method_11_code (5 : Nat) (Option.some Jvm.ClassFile.FieldType.int)) ∈ gw := gw_mem (mT3 (i := 217) rfl) rfl
theorem q840 : (Jvm.Cond.methodLink "FrameHeirs$Questions" (70 : Nat) ({ cls := "FrameHeirs$Deeds", name := "find", desc := "(II)I" } : Jvm.MethodName)) ∈ gw := gw_mem (mT3 (i := 218) rfl) rfl
theorem q841 : (Jvm.Cond.methodLink "FrameHeirs$Questions" (9 : Nat) ({ cls := "FrameHeirs$Questions", name := "frameAt", desc := "(LFrameHeirs$Deeds;II)I" } : Jvm.MethodName)) ∈ gw := gw_mem (mT3 (i := 219) rfl) rfl
theorem q842 : (Jvm.Cond.methodLink "FrameHeirs$World" (238 : Nat) ({ cls := "FrameHeirs$World", name := "withRight", desc := "(III)I" } : Jvm.MethodName)) ∈ gw := gw_mem (mT3 (i := 220) rfl) rfl
theorem q844 : (Jvm.Cond.instanceMethod ({ cls := "FrameHeirs$World", name := "withRight", desc := "(III)I" } : Jvm.MethodName)) ∈ gw := gw_mem (mT3 (i := 222) rfl) rfl
theorem q845 : (Jvm.Cond.code ({ cls := "FrameHeirs$World", name := "withRight", desc := "(III)I" } : Jvm.MethodName) prog_6_method_31_code (5 : Nat) (Option.some Jvm.ClassFile.FieldType.int)) ∈ gw := gw_mem (mT3 (i := 223) rfl) rfl
theorem q846 : (Jvm.Cond.methodLink "FrameHeirs$World" (241 : Nat) ({ cls := "FrameHeirs$World", name := "passOn", desc := "(IIII)I" } : Jvm.MethodName)) ∈ gw := gw_mem (mT3 (i := 224) rfl) rfl
theorem q848 : (Jvm.Cond.instanceMethod ({ cls := "FrameHeirs$World", name := "passOn", desc := "(IIII)I" } : Jvm.MethodName)) ∈ gw := gw_mem (mT3 (i := 226) rfl) rfl
theorem q849 : (Jvm.Cond.code ({ cls := "FrameHeirs$World", name := "passOn", desc := "(IIII)I" } : Jvm.MethodName) prog_6_method_32_code (5 : Nat) (Option.some Jvm.ClassFile.FieldType.int)) ∈ gw := gw_mem (mT3 (i := 227) rfl) rfl
theorem q850 : (Jvm.Cond.methodLink "FrameHeirs$World" (244 : Nat) ({ cls := "FrameHeirs$World", name := "refuse", desc := "(I)I" } : Jvm.MethodName)) ∈ gw := gw_mem (mT3 (i := 228) rfl) rfl
theorem q852 : (Jvm.Cond.instanceMethod ({ cls := "FrameHeirs$World", name := "refuse", desc := "(I)I" } : Jvm.MethodName)) ∈ gw := gw_mem (mT3 (i := 230) rfl) rfl
theorem q853 : (Jvm.Cond.code ({ cls := "FrameHeirs$World", name := "refuse", desc := "(I)I" } : Jvm.MethodName) prog_6_method_33_code (2 : Nat) (Option.some Jvm.ClassFile.FieldType.int)) ∈ gw := gw_mem (mT3 (i := 231) rfl) rfl
theorem q854 : (Jvm.Cond.methodLink "FrameHeirs$World" (247 : Nat) ({ cls := "FrameHeirs$World", name := "makeRoom", desc := "(I)Z" } : Jvm.MethodName)) ∈ gw := gw_mem (mT3 (i := 232) rfl) rfl
theorem q856 : (Jvm.Cond.instanceMethod ({ cls := "FrameHeirs$World", name := "makeRoom", desc := "(I)Z" } : Jvm.MethodName)) ∈ gw := gw_mem (mT3 (i := 234) rfl) rfl
theorem q857 : (Jvm.Cond.code ({ cls := "FrameHeirs$World", name := "makeRoom", desc := "(I)Z" } : Jvm.MethodName) prog_6_method_34_code (4 : Nat) (Option.some Jvm.ClassFile.FieldType.boolean)) ∈ gw := gw_mem (mT3 (i := 235) rfl) rfl
theorem q858 : (Jvm.Cond.methodLink "FrameHeirs$World" (263 : Nat) ({ cls := "FrameHeirs$Deeds", name := "coldestOf", desc := "(IZ)I" } : Jvm.MethodName)) ∈ gw := gw_mem (mT3 (i := 236) rfl) rfl
theorem q859 : (Jvm.Cond.instanceMethod ({ cls := "FrameHeirs$Deeds", name := "coldestOf", desc := "(IZ)I" } : Jvm.MethodName)) ∈ gw := gw_mem (mT3 (i := 237) rfl) rfl
theorem q860 : (Jvm.Cond.selects "FrameHeirs$Deeds" ({ cls := "FrameHeirs$Deeds", name := "coldestOf", desc := "(IZ)I" } : Jvm.MethodName) ({ cls := "FrameHeirs$Deeds", name := "coldestOf", desc := "(IZ)I" } : Jvm.MethodName)) ∈ gw := gw_mem (mT3 (i := 238) rfl) rfl
theorem q861 : (Jvm.Cond.code ({ cls := "FrameHeirs$Deeds", name := "coldestOf", desc := "(IZ)I" } : Jvm.MethodName) prog_2_method_27_code (6 : Nat) (Option.some Jvm.ClassFile.FieldType.int)) ∈ gw := gw_mem (mT3 (i := 239) rfl) rfl
theorem q862 : (Jvm.Cond.methodLink "FrameHeirs$Deeds" (148 : Nat) ({ cls := "FrameHeirs$Deeds", name := "isTied", desc := "(I)Z" } : Jvm.MethodName)) ∈ gw := gw_mem (mT4 (i := 0) rfl) rfl
theorem q863 : (Jvm.Cond.methodLink "FrameHeirsLaw" (65 : Nat) ({ cls := "FrameHeirs", name := "settle", desc := "()I" } : Jvm.MethodName)) ∈ gw := gw_mem (mT4 (i := 1) rfl) rfl
theorem q864 : (Jvm.Cond.instanceMethod ({ cls := "FrameHeirs", name := "settle", desc := "()I" } : Jvm.MethodName)) ∈ gw := gw_mem (mT4 (i := 2) rfl) rfl
theorem q865 : (Jvm.Cond.selects "FrameHeirs" ({ cls := "FrameHeirs", name := "settle", desc := "()I" } : Jvm.MethodName) ({ cls := "FrameHeirs", name := "settle", desc := "()I" } : Jvm.MethodName)) ∈ gw := gw_mem (mT4 (i := 3) rfl) rfl
theorem q866 : (Jvm.Cond.code ({ cls := "FrameHeirs", name := "settle", desc := "()I" } : Jvm.MethodName) prog_1_method_12_code (1 : Nat) (Option.some Jvm.ClassFile.FieldType.int)) ∈ gw := gw_mem (mT4 (i := 4) rfl) rfl
theorem q867 : (Jvm.Cond.methodLink "FrameHeirs" (119 : Nat) ({ cls := "FrameHeirs$World", name := "settleAll", desc := "()I" } : Jvm.MethodName)) ∈ gw := gw_mem (mT4 (i := 5) rfl) rfl
theorem q868 : (Jvm.Cond.instanceMethod ({ cls := "FrameHeirs$World", name := "settleAll", desc := "()I" } : Jvm.MethodName)) ∈ gw := gw_mem (mT4 (i := 6) rfl) rfl
theorem q869 : (Jvm.Cond.selects "FrameHeirs$World" ({ cls := "FrameHeirs$World", name := "settleAll", desc := "()I" } : Jvm.MethodName) ({ cls := "FrameHeirs$World", name := "settleAll", desc := "()I" } : Jvm.MethodName)) ∈ gw := gw_mem (mT4 (i := 7) rfl) rfl
theorem q870 : (Jvm.Cond.code ({ cls := "FrameHeirs$World", name := "settleAll", desc := "()I" } : Jvm.MethodName) prog_6_method_35_code (6 : Nat) (Option.some Jvm.ClassFile.FieldType.int)) ∈ gw := gw_mem (mT4 (i := 8) rfl) rfl
theorem q871 : (Jvm.Cond.methodLink "FrameHeirs$World" (267 : Nat) ({ cls := "FrameHeirs$World", name := "serveFirst", desc := "(I)I" } : Jvm.MethodName)) ∈ gw := gw_mem (mT4 (i := 9) rfl) rfl
theorem q872 : (Jvm.Cond.methodLink "FrameHeirsLaw" (70 : Nat) ({ cls := "FrameHeirs", name := "tick", desc := "()I" } : Jvm.MethodName)) ∈ gw := gw_mem (mT4 (i := 10) rfl) rfl
theorem q873 : (Jvm.Cond.instanceMethod ({ cls := "FrameHeirs", name := "tick", desc := "()I" } : Jvm.MethodName)) ∈ gw := gw_mem (mT4 (i := 11) rfl) rfl
theorem q874 : (Jvm.Cond.selects "FrameHeirs" ({ cls := "FrameHeirs", name := "tick", desc := "()I" } : Jvm.MethodName) ({ cls := "FrameHeirs", name := "tick", desc := "()I" } : Jvm.MethodName)) ∈ gw := gw_mem (mT4 (i := 12) rfl) rfl
theorem q875 : (Jvm.Cond.code ({ cls := "FrameHeirs", name := "tick", desc := "()I" } : Jvm.MethodName) prog_1_method_13_code (1 : Nat) (Option.some Jvm.ClassFile.FieldType.int)) ∈ gw := gw_mem (mT4 (i := 13) rfl) rfl
theorem q876 : (Jvm.Cond.methodLink "FrameHeirs" (130 : Nat) ({ cls := "FrameHeirs$Deeds", name := "coolDown", desc := "(I)V" } : Jvm.MethodName)) ∈ gw := gw_mem (mT4 (i := 14) rfl) rfl
theorem q877 : (Jvm.Cond.instanceMethod ({ cls := "FrameHeirs$Deeds", name := "coolDown", desc := "(I)V" } : Jvm.MethodName)) ∈ gw := gw_mem (mT4 (i := 15) rfl) rfl
theorem q878 : (Jvm.Cond.selects "FrameHeirs$Deeds" ({ cls := "FrameHeirs$Deeds", name := "coolDown", desc := "(I)V" } : Jvm.MethodName) ({ cls := "FrameHeirs$Deeds", name := "coolDown", desc := "(I)V" } : Jvm.MethodName)) ∈ gw := gw_mem (mT4 (i := 16) rfl) rfl
theorem q879 : (Jvm.Cond.code ({ cls := "FrameHeirs$Deeds", name := "coolDown", desc := "(I)V" } : Jvm.MethodName) prog_2_method_29_code (4 : Nat) (Option.none : Option Jvm.ClassFile.FieldType)) ∈ gw := gw_mem (mT4 (i := 17) rfl) rfl
theorem q880 : (Jvm.Cond.constantFloat "FrameHeirs$Deeds" (151 : Nat) (1092616192 : UInt32)) ∈ gw := gw_mem (mT4 (i := 18) rfl) rfl
theorem q881 : (Jvm.Cond.methodLink "FrameHeirsLaw" (74 : Nat) ({ cls := "FrameHeirs", name := "tidy", desc := "(I)I" } : Jvm.MethodName)) ∈ gw := gw_mem (mT4 (i := 19) rfl) rfl
theorem q882 : (Jvm.Cond.instanceMethod ({ cls := "FrameHeirs", name := "tidy", desc := "(I)I" } : Jvm.MethodName)) ∈ gw := gw_mem (mT4 (i := 20) rfl) rfl
theorem q883 : (Jvm.Cond.selects "FrameHeirs" ({ cls := "FrameHeirs", name := "tidy", desc := "(I)I" } : Jvm.MethodName) ({ cls := "FrameHeirs", name := "tidy", desc := "(I)I" } : Jvm.MethodName)) ∈ gw := gw_mem (mT4 (i := 21) rfl) rfl
theorem q884 : (Jvm.Cond.code ({ cls := "FrameHeirs", name := "tidy", desc := "(I)I" } : Jvm.MethodName) prog_1_method_14_code (2 : Nat) (Option.some Jvm.ClassFile.FieldType.int)) ∈ gw := gw_mem (mT4 (i := 22) rfl) rfl
theorem q885 : (Jvm.Cond.methodLink "FrameHeirs" (138 : Nat) ({ cls := "FrameHeirs$World", name := "joinAll", desc := "(I)I" } : Jvm.MethodName)) ∈ gw := gw_mem (mT4 (i := 23) rfl) rfl
theorem q886 : (Jvm.Cond.instanceMethod ({ cls := "FrameHeirs$World", name := "joinAll", desc := "(I)I" } : Jvm.MethodName)) ∈ gw := gw_mem (mT4 (i := 24) rfl) rfl
theorem q887 : (Jvm.Cond.selects "FrameHeirs$World" ({ cls := "FrameHeirs$World", name := "joinAll", desc := "(I)I" } : Jvm.MethodName) ({ cls := "FrameHeirs$World", name := "joinAll", desc := "(I)I" } : Jvm.MethodName)) ∈ gw := gw_mem (mT4 (i := 25) rfl) rfl
theorem q888 : (Jvm.Cond.code ({ cls := "FrameHeirs$World", name := "joinAll", desc := "(I)I" } : Jvm.MethodName) prog_6_method_36_code (5 : Nat) (Option.some Jvm.ClassFile.FieldType.int)) ∈ gw := gw_mem (mT4 (i := 26) rfl) rfl
theorem q889 : (Jvm.Cond.methodLink "FrameHeirs$World" (270 : Nat) ({ cls := "FrameHeirs$Deeds", name := "joinTwo", desc := "(I)Z" } : Jvm.MethodName)) ∈ gw := gw_mem (mT4 (i := 27) rfl) rfl
theorem q890 : (Jvm.Cond.instanceMethod ({ cls := "FrameHeirs$Deeds", name := "joinTwo", desc := "(I)Z" } : Jvm.MethodName)) ∈ gw := gw_mem (mT4 (i := 28) rfl) rfl
theorem q891 : (Jvm.Cond.selects "FrameHeirs$Deeds" ({ cls := "FrameHeirs$Deeds", name := "joinTwo", desc := "(I)Z" } : Jvm.MethodName) ({ cls := "FrameHeirs$Deeds", name := "joinTwo", desc := "(I)Z" } : Jvm.MethodName)) ∈ gw := gw_mem (mT4 (i := 29) rfl) rfl
theorem q892 : (Jvm.Cond.code ({ cls := "FrameHeirs$Deeds", name := "joinTwo", desc := "(I)Z" } : Jvm.MethodName) prog_2_method_21_code (7 : Nat) (Option.some Jvm.ClassFile.FieldType.boolean)) ∈ gw := gw_mem (mT4 (i := 30) rfl) rfl
theorem q893 : (Jvm.Cond.methodLink "FrameHeirs$Deeds" (133 : Nat) ({ cls := "FrameHeirs$Deeds", name := "areHalves", desc := "(III)Z" } : Jvm.MethodName)) ∈ gw := gw_mem (mT4 (i := 31) rfl) rfl
theorem q895 : (Jvm.Cond.instanceMethod ({ cls := "FrameHeirs$Deeds", name := "areHalves", desc := "(III)Z" } : Jvm.MethodName)) ∈ gw := gw_mem (mT4 (i := 33) rfl) rfl
theorem q896 : (Jvm.Cond.code ({ cls := "FrameHeirs$Deeds", name := "areHalves", desc := "(III)Z" } : Jvm.MethodName) prog_2_method_22_code (5 : Nat) (Option.some Jvm.ClassFile.FieldType.boolean)) ∈ gw := gw_mem (mT4 (i := 34) rfl) rfl
theorem q897 : (Jvm.Cond.methodLink "FrameHeirs$Deeds" (137 : Nat) ({ cls := "FrameHeirs$Deeds", name := "join", desc := "(II)V" } : Jvm.MethodName)) ∈ gw := gw_mem (mT4 (i := 35) rfl) rfl
theorem q899 : (Jvm.Cond.instanceMethod ({ cls := "FrameHeirs$Deeds", name := "join", desc := "(II)V" } : Jvm.MethodName)) ∈ gw := gw_mem (mT4 (i := 37) rfl) rfl
theorem q900 : (Jvm.Cond.code ({ cls := "FrameHeirs$Deeds", name := "join", desc := "(II)V" } : Jvm.MethodName) prog_2_method_23_code (6 : Nat) (Option.none : Option Jvm.ClassFile.FieldType)) ∈ gw := gw_mem (mT4 (i := 38) rfl) rfl
theorem q901 : (Jvm.Cond.methodLink "FrameHeirsLaw" (78 : Nat) ({ cls := "FrameHeirs", name := "run", desc := "(I)I" } : Jvm.MethodName)) ∈ gw := gw_mem (mT4 (i := 39) rfl) rfl
theorem q902 : (Jvm.Cond.instanceMethod ({ cls := "FrameHeirs", name := "run", desc := "(I)I" } : Jvm.MethodName)) ∈ gw := gw_mem (mT4 (i := 40) rfl) rfl
theorem q903 : (Jvm.Cond.selects "FrameHeirs" ({ cls := "FrameHeirs", name := "run", desc := "(I)I" } : Jvm.MethodName) ({ cls := "FrameHeirs", name := "run", desc := "(I)I" } : Jvm.MethodName)) ∈ gw := gw_mem (mT4 (i := 41) rfl) rfl
theorem q904 : (Jvm.Cond.code ({ cls := "FrameHeirs", name := "run", desc := "(I)I" } : Jvm.MethodName) prog_1_method_15_code (3 : Nat) (Option.some Jvm.ClassFile.FieldType.int)) ∈ gw := gw_mem (mT4 (i := 42) rfl) rfl
theorem q905 : (Jvm.Cond.methodLink "FrameHeirs" (147 : Nat) ({ cls := "FrameHeirs$World", name := "performNext", desc := "()V" } : Jvm.MethodName)) ∈ gw := gw_mem (mT4 (i := 43) rfl) rfl
theorem q906 : (Jvm.Cond.instanceMethod ({ cls := "FrameHeirs$World", name := "performNext", desc := "()V" } : Jvm.MethodName)) ∈ gw := gw_mem (mT4 (i := 44) rfl) rfl
theorem q907 : (Jvm.Cond.selects "FrameHeirs$World" ({ cls := "FrameHeirs$World", name := "performNext", desc := "()V" } : Jvm.MethodName) ({ cls := "FrameHeirs$World", name := "performNext", desc := "()V" } : Jvm.MethodName)) ∈ gw := gw_mem (mT4 (i := 45) rfl) rfl
theorem q908 : (Jvm.Cond.code ({ cls := "FrameHeirs$World", name := "performNext", desc := "()V" } : Jvm.MethodName) prog_6_method_40_code (6 : Nat) (Option.none : Option Jvm.ClassFile.FieldType)) ∈ gw := gw_mem (mT4 (i := 46) rfl) rfl
theorem q909 : (Jvm.Cond.methodLink "FrameHeirs$World" (282 : Nat) ({ cls := "FrameHeirs$World", name := "handOn", desc := "(IIIII)I" } : Jvm.MethodName)) ∈ gw := gw_mem (mT4 (i := 47) rfl) rfl
theorem q910 : (Jvm.Cond.methodLink "FrameHeirs$World" (285 : Nat) ({ cls := "FrameHeirs$World", name := "giveAway", desc := "(IIII)I" } : Jvm.MethodName)) ∈ gw := gw_mem (mT4 (i := 48) rfl) rfl
theorem q911 : (Jvm.Cond.methodLink "FrameHeirs$World" (288 : Nat) ({ cls := "FrameHeirs$World", name := "startFlush", desc := "(IIIZ)I" } : Jvm.MethodName)) ∈ gw := gw_mem (mT4 (i := 49) rfl) rfl
theorem q912 : (Jvm.Cond.methodLink "FrameHeirs$World" (291 : Nat) ({ cls := "FrameHeirs$World", name := "touchPage", desc := "(III)I" } : Jvm.MethodName)) ∈ gw := gw_mem (mT4 (i := 50) rfl) rfl
theorem q913 : (Jvm.Cond.methodLink "FrameHeirsLaw" (82 : Nat) ({ cls := "FrameHeirs", name := "answer", desc := "(I)I" } : Jvm.MethodName)) ∈ gw := gw_mem (mT4 (i := 51) rfl) rfl
theorem q914 : (Jvm.Cond.instanceMethod ({ cls := "FrameHeirs", name := "answer", desc := "(I)I" } : Jvm.MethodName)) ∈ gw := gw_mem (mT4 (i := 52) rfl) rfl
theorem q915 : (Jvm.Cond.selects "FrameHeirs" ({ cls := "FrameHeirs", name := "answer", desc := "(I)I" } : Jvm.MethodName) ({ cls := "FrameHeirs", name := "answer", desc := "(I)I" } : Jvm.MethodName)) ∈ gw := gw_mem (mT4 (i := 53) rfl) rfl
theorem q916 : (Jvm.Cond.code ({ cls := "FrameHeirs", name := "answer", desc := "(I)I" } : Jvm.MethodName) prog_1_method_16_code (2 : Nat) (Option.some Jvm.ClassFile.FieldType.int)) ∈ gw := gw_mem (mT4 (i := 54) rfl) rfl
theorem q917 : (Jvm.Cond.methodLink "FrameHeirsLaw" (95 : Nat) ({ cls := "FrameHeirs", name := "above", desc := "(III)I" } : Jvm.MethodName)) ∈ gw := gw_mem (mT4 (i := 55) rfl) rfl
theorem q918 : (Jvm.Cond.instanceMethod ({ cls := "FrameHeirs", name := "above", desc := "(III)I" } : Jvm.MethodName)) ∈ gw := gw_mem (mT4 (i := 56) rfl) rfl
theorem q919 : (Jvm.Cond.selects "FrameHeirs" ({ cls := "FrameHeirs", name := "above", desc := "(III)I" } : Jvm.MethodName) ({ cls := "FrameHeirs", name := "above", desc := "(III)I" } : Jvm.MethodName)) ∈ gw := gw_mem (mT4 (i := 57) rfl) rfl
theorem q920 : (Jvm.Cond.code ({ cls := "FrameHeirs", name := "above", desc := "(III)I" } : Jvm.MethodName) prog_1_method_18_code (4 : Nat) (Option.some Jvm.ClassFile.FieldType.int)) ∈ gw := gw_mem (mT4 (i := 58) rfl) rfl
theorem q921 : (Jvm.Cond.methodLink "FrameHeirs" (156 : Nat) ({ cls := "FrameHeirs$World", name := "isPlace", desc := "(II)Z" } : Jvm.MethodName)) ∈ gw := gw_mem (mT4 (i := 59) rfl) rfl
theorem q922 : (Jvm.Cond.methodLink "FrameHeirs" (182 : Nat) ({ cls := "FrameHeirs$Questions", name := "placeAbove", desc := "(LFrameHeirs$Deeds;III)I" } : Jvm.MethodName)) ∈ gw := gw_mem (mT4 (i := 60) rfl) rfl
theorem q923 : (Jvm.Cond.static ({ cls := "FrameHeirs$Questions", name := "placeAbove", desc := "(LFrameHeirs$Deeds;III)I" } : Jvm.MethodName)) ∈ gw := gw_mem (mT4 (i := 61) rfl) rfl
theorem q924 : (Jvm.Cond.code ({ cls := "FrameHeirs$Questions", name := "placeAbove", desc := "(LFrameHeirs$Deeds;III)I" } : Jvm.MethodName) prog_3_method_8_code (7 : Nat) (Option.some Jvm.ClassFile.FieldType.int)) ∈ gw := gw_mem (mT4 (i := 62) rfl) rfl
theorem q925 : (Jvm.Cond.methodLink "FrameHeirsLaw" (99 : Nat) ({ cls := "FrameHeirs", name := "heir", desc := "(III)I" } : Jvm.MethodName)) ∈ gw := gw_mem (mT4 (i := 63) rfl) rfl
theorem q926 : (Jvm.Cond.instanceMethod ({ cls := "FrameHeirs", name := "heir", desc := "(III)I" } : Jvm.MethodName)) ∈ gw := gw_mem (mT4 (i := 64) rfl) rfl
theorem q927 : (Jvm.Cond.selects "FrameHeirs" ({ cls := "FrameHeirs", name := "heir", desc := "(III)I" } : Jvm.MethodName) ({ cls := "FrameHeirs", name := "heir", desc := "(III)I" } : Jvm.MethodName)) ∈ gw := gw_mem (mT4 (i := 65) rfl) rfl
theorem q928 : (Jvm.Cond.code ({ cls := "FrameHeirs", name := "heir", desc := "(III)I" } : Jvm.MethodName) prog_1_method_19_code (4 : Nat) (Option.some Jvm.ClassFile.FieldType.int)) ∈ gw := gw_mem (mT4 (i := 66) rfl) rfl
theorem q929 : (Jvm.Cond.methodLink "FrameHeirs" (185 : Nat) ({ cls := "FrameHeirs$Questions", name := "placeOfHeir", desc := "(LFrameHeirs$Deeds;III)I" } : Jvm.MethodName)) ∈ gw := gw_mem (mT4 (i := 67) rfl) rfl
theorem q930 : (Jvm.Cond.static ({ cls := "FrameHeirs$Questions", name := "placeOfHeir", desc := "(LFrameHeirs$Deeds;III)I" } : Jvm.MethodName)) ∈ gw := gw_mem (mT4 (i := 68) rfl) rfl
theorem q931 : (Jvm.Cond.code ({ cls := "FrameHeirs$Questions", name := "placeOfHeir", desc := "(LFrameHeirs$Deeds;III)I" } : Jvm.MethodName) prog_3_method_9_code (7 : Nat) (Option.some Jvm.ClassFile.FieldType.int)) ∈ gw := gw_mem (mT4 (i := 69) rfl) rfl
theorem q932 : (Jvm.Cond.methodLink "FrameHeirsLaw" (103 : Nat) ({ cls := "FrameHeirs", name := "holds", desc := "(II)I" } : Jvm.MethodName)) ∈ gw := gw_mem (mT4 (i := 70) rfl) rfl
theorem q933 : (Jvm.Cond.instanceMethod ({ cls := "FrameHeirs", name := "holds", desc := "(II)I" } : Jvm.MethodName)) ∈ gw := gw_mem (mT4 (i := 71) rfl) rfl
theorem q934 : (Jvm.Cond.selects "FrameHeirs" ({ cls := "FrameHeirs", name := "holds", desc := "(II)I" } : Jvm.MethodName) ({ cls := "FrameHeirs", name := "holds", desc := "(II)I" } : Jvm.MethodName)) ∈ gw := gw_mem (mT4 (i := 72) rfl) rfl
theorem q935 : (Jvm.Cond.code ({ cls := "FrameHeirs", name := "holds", desc := "(II)I" } : Jvm.MethodName) prog_1_method_20_code (3 : Nat) (Option.some Jvm.ClassFile.FieldType.int)) ∈ gw := gw_mem (mT4 (i := 73) rfl) rfl
theorem q936 : (Jvm.Cond.methodLink "FrameHeirs" (188 : Nat) ({ cls := "FrameHeirs$World", name := "isFrame", desc := "(I)Z" } : Jvm.MethodName)) ∈ gw := gw_mem (mT4 (i := 74) rfl) rfl
theorem q937 : (Jvm.Cond.instanceMethod ({ cls := "FrameHeirs$World", name := "isFrame", desc := "(I)Z" } : Jvm.MethodName)) ∈ gw := gw_mem (mT4 (i := 75) rfl) rfl
theorem q938 : (Jvm.Cond.selects "FrameHeirs$World" ({ cls := "FrameHeirs$World", name := "isFrame", desc := "(I)Z" } : Jvm.MethodName) ({ cls := "FrameHeirs$World", name := "isFrame", desc := "(I)Z" } : Jvm.MethodName)) ∈ gw := gw_mem (mT4 (i := 76) rfl) rfl
theorem q939 : (Jvm.Cond.code ({ cls := "FrameHeirs$World", name := "isFrame", desc := "(I)Z" } : Jvm.MethodName) prog_6_method_6_code (2 : Nat) (Option.some Jvm.ClassFile.FieldType.boolean)) ∈ gw := gw_mem (mT4 (i := 77) rfl) rfl
theorem q940 : (Jvm.Cond.methodLink "FrameHeirs" (192 : Nat) ({ cls := "FrameHeirs", name := "areRights", desc := "(I)Z" } : Jvm.MethodName)) ∈ gw := gw_mem (mT4 (i := 78) rfl) rfl
theorem q941 : (Jvm.Cond.methodLink "FrameHeirs" (195 : Nat) ({ cls := "FrameHeirs$Questions", name := "holders", desc := "(LFrameHeirs$Deeds;II)I" } : Jvm.MethodName)) ∈ gw := gw_mem (mT4 (i := 79) rfl) rfl
theorem q942 : (Jvm.Cond.static ({ cls := "FrameHeirs$Questions", name := "holders", desc := "(LFrameHeirs$Deeds;II)I" } : Jvm.MethodName)) ∈ gw := gw_mem (mT4 (i := 80) rfl) rfl
theorem q943 : (Jvm.Cond.code ({ cls := "FrameHeirs$Questions", name := "holders", desc := "(LFrameHeirs$Deeds;II)I" } : Jvm.MethodName) prog_3_method_12_code (5 : Nat) (Option.some Jvm.ClassFile.FieldType.int)) ∈ gw := gw_mem (mT4 (i := 81) rfl) rfl
theorem q944 : (Jvm.Cond.methodLink "FrameHeirs$Questions" (76 : Nat) ({ cls := "FrameHeirs$Questions", name := "framesIn", desc := "(LFrameHeirs$Deeds;I)I" } : Jvm.MethodName)) ∈ gw := gw_mem (mT4 (i := 82) rfl) rfl
theorem q945 : (Jvm.Cond.static ({ cls := "FrameHeirs$Questions", name := "framesIn", desc := "(LFrameHeirs$Deeds;I)I" } : Jvm.MethodName)) ∈ gw := gw_mem (mT4 (i := 83) rfl) rfl
theorem q946 : (Jvm.Cond.code ({ cls := "FrameHeirs$Questions", name := "framesIn", desc := "(LFrameHeirs$Deeds;I)I" } : Jvm.MethodName) prog_3_method_10_code (2 : Nat) (Option.some Jvm.ClassFile.FieldType.int)) ∈ gw := gw_mem (mT4 (i := 84) rfl) rfl
theorem q947 : (Jvm.Cond.methodLink "FrameHeirsLaw" (108 : Nat) ({ cls := "FrameHeirs", name := "aliases", desc := "(II)I" } : Jvm.MethodName)) ∈ gw := gw_mem (mT4 (i := 85) rfl) rfl
theorem q948 : (Jvm.Cond.instanceMethod ({ cls := "FrameHeirs", name := "aliases", desc := "(II)I" } : Jvm.MethodName)) ∈ gw := gw_mem (mT4 (i := 86) rfl) rfl
theorem q949 : (Jvm.Cond.selects "FrameHeirs" ({ cls := "FrameHeirs", name := "aliases", desc := "(II)I" } : Jvm.MethodName) ({ cls := "FrameHeirs", name := "aliases", desc := "(II)I" } : Jvm.MethodName)) ∈ gw := gw_mem (mT4 (i := 87) rfl) rfl
theorem q950 : (Jvm.Cond.code ({ cls := "FrameHeirs", name := "aliases", desc := "(II)I" } : Jvm.MethodName) prog_1_method_21_code (3 : Nat) (Option.some Jvm.ClassFile.FieldType.int)) ∈ gw := gw_mem (mT4 (i := 88) rfl) rfl
theorem q951 : (Jvm.Cond.methodLink "FrameHeirs" (199 : Nat) ({ cls := "FrameHeirs$World", name := "isSpace", desc := "(I)Z" } : Jvm.MethodName)) ∈ gw := gw_mem (mT4 (i := 89) rfl) rfl
theorem q952 : (Jvm.Cond.methodLink "FrameHeirs" (202 : Nat) ({ cls := "FrameHeirs$Questions", name := "placesOf", desc := "(LFrameHeirs$Deeds;II)I" } : Jvm.MethodName)) ∈ gw := gw_mem (mT4 (i := 90) rfl) rfl
theorem q953 : (Jvm.Cond.static ({ cls := "FrameHeirs$Questions", name := "placesOf", desc := "(LFrameHeirs$Deeds;II)I" } : Jvm.MethodName)) ∈ gw := gw_mem (mT4 (i := 91) rfl) rfl
theorem q954 : (Jvm.Cond.code ({ cls := "FrameHeirs$Questions", name := "placesOf", desc := "(LFrameHeirs$Deeds;II)I" } : Jvm.MethodName) prog_3_method_13_code (5 : Nat) (Option.some Jvm.ClassFile.FieldType.int)) ∈ gw := gw_mem (mT4 (i := 92) rfl) rfl
theorem q955 : (Jvm.Cond.methodLink "FrameHeirsLaw" (112 : Nat) ({ cls := "FrameHeirs", name := "reach", desc := "(II)I" } : Jvm.MethodName)) ∈ gw := gw_mem (mT4 (i := 93) rfl) rfl
theorem q956 : (Jvm.Cond.instanceMethod ({ cls := "FrameHeirs", name := "reach", desc := "(II)I" } : Jvm.MethodName)) ∈ gw := gw_mem (mT4 (i := 94) rfl) rfl
theorem q957 : (Jvm.Cond.selects "FrameHeirs" ({ cls := "FrameHeirs", name := "reach", desc := "(II)I" } : Jvm.MethodName) ({ cls := "FrameHeirs", name := "reach", desc := "(II)I" } : Jvm.MethodName)) ∈ gw := gw_mem (mT4 (i := 95) rfl) rfl
theorem q958 : (Jvm.Cond.code ({ cls := "FrameHeirs", name := "reach", desc := "(II)I" } : Jvm.MethodName) prog_1_method_22_code (3 : Nat) (Option.some Jvm.ClassFile.FieldType.int)) ∈ gw := gw_mem (mT4 (i := 96) rfl) rfl
theorem q959 : (Jvm.Cond.methodLink "FrameHeirs" (205 : Nat) ({ cls := "FrameHeirs$Questions", name := "pagesBeneath", desc := "(LFrameHeirs$Deeds;II)I" } : Jvm.MethodName)) ∈ gw := gw_mem (mT4 (i := 97) rfl) rfl
theorem q960 : (Jvm.Cond.static ({ cls := "FrameHeirs$Questions", name := "pagesBeneath", desc := "(LFrameHeirs$Deeds;II)I" } : Jvm.MethodName)) ∈ gw := gw_mem (mT4 (i := 98) rfl) rfl
theorem q961 : (Jvm.Cond.code ({ cls := "FrameHeirs$Questions", name := "pagesBeneath", desc := "(LFrameHeirs$Deeds;II)I" } : Jvm.MethodName) prog_3_method_14_code (5 : Nat) (Option.some Jvm.ClassFile.FieldType.int)) ∈ gw := gw_mem (mT4 (i := 99) rfl) rfl
theorem q962 : (Jvm.Cond.methodLink "FrameHeirs$Questions" (79 : Nat) ({ cls := "FrameHeirs$Questions", name := "hasAbove", desc := "(LFrameHeirs$Deeds;II)Z" } : Jvm.MethodName)) ∈ gw := gw_mem (mT4 (i := 100) rfl) rfl
theorem q963 : (Jvm.Cond.static ({ cls := "FrameHeirs$Questions", name := "hasAbove", desc := "(LFrameHeirs$Deeds;II)Z" } : Jvm.MethodName)) ∈ gw := gw_mem (mT4 (i := 101) rfl) rfl
theorem q964 : (Jvm.Cond.code ({ cls := "FrameHeirs$Questions", name := "hasAbove", desc := "(LFrameHeirs$Deeds;II)Z" } : Jvm.MethodName) prog_3_method_15_code (5 : Nat) (Option.some Jvm.ClassFile.FieldType.boolean)) ∈ gw := gw_mem (mT4 (i := 102) rfl) rfl
theorem q965 : (Jvm.Cond.methodLink "FrameHeirsLaw" (116 : Nat) ({ cls := "FrameHeirs", name := "shared", desc := "(II)I" } : Jvm.MethodName)) ∈ gw := gw_mem (mT4 (i := 103) rfl) rfl
theorem q966 : (Jvm.Cond.instanceMethod ({ cls := "FrameHeirs", name := "shared", desc := "(II)I" } : Jvm.MethodName)) ∈ gw := gw_mem (mT4 (i := 104) rfl) rfl
theorem q967 : (Jvm.Cond.selects "FrameHeirs" ({ cls := "FrameHeirs", name := "shared", desc := "(II)I" } : Jvm.MethodName) ({ cls := "FrameHeirs", name := "shared", desc := "(II)I" } : Jvm.MethodName)) ∈ gw := gw_mem (mT4 (i := 105) rfl) rfl
theorem q968 : (Jvm.Cond.code ({ cls := "FrameHeirs", name := "shared", desc := "(II)I" } : Jvm.MethodName) prog_1_method_23_code (3 : Nat) (Option.some Jvm.ClassFile.FieldType.int)) ∈ gw := gw_mem (mT4 (i := 106) rfl) rfl
theorem q969 : (Jvm.Cond.methodLink "FrameHeirs" (208 : Nat) ({ cls := "FrameHeirs$Questions", name := "framesOf", desc := "(LFrameHeirs$Deeds;I)I" } : Jvm.MethodName)) ∈ gw := gw_mem (mT4 (i := 107) rfl) rfl
theorem q970 : (Jvm.Cond.methodLink "FrameHeirs" (212 : Nat) ({ cls := "java/lang/Integer", name := "bitCount", desc := "(I)I" } : Jvm.MethodName)) ∈ gw := gw_mem (mT4 (i := 108) rfl) rfl
theorem q971 : (Jvm.Cond.static ({ cls := "java/lang/Integer", name := "bitCount", desc := "(I)I" } : Jvm.MethodName)) ∈ gw := gw_mem (mT4 (i := 109) rfl) rfl
theorem q972 : (Jvm.Cond.code ({ cls := "java/lang/Integer", name := "bitCount", desc := "(I)I" } : Jvm.MethodName) prog_12_method_49_code (1 : Nat) (Option.some Jvm.ClassFile.FieldType.int)) ∈ gw := gw_mem (mT4 (i := 110) rfl) rfl
theorem q973 : (Jvm.Cond.constant "java/lang/Integer" (265 : Nat) (1431655765 : Int32)) ∈ gw := gw_mem (mT4 (i := 111) rfl) rfl
theorem q974 : (Jvm.Cond.constant "java/lang/Integer" (266 : Nat) (858993459 : Int32)) ∈ gw := gw_mem (mT4 (i := 112) rfl) rfl
theorem q975 : (Jvm.Cond.constant "java/lang/Integer" (267 : Nat) (252645135 : Int32)) ∈ gw := gw_mem (mT4 (i := 113) rfl) rfl
theorem q976 : (Jvm.Cond.methodLink "FrameHeirsLaw" (120 : Nat) ({ cls := "FrameHeirs", name := "gates", desc := "(II)I" } : Jvm.MethodName)) ∈ gw := gw_mem (mT4 (i := 114) rfl) rfl
theorem q977 : (Jvm.Cond.instanceMethod ({ cls := "FrameHeirs", name := "gates", desc := "(II)I" } : Jvm.MethodName)) ∈ gw := gw_mem (mT4 (i := 115) rfl) rfl
theorem q978 : (Jvm.Cond.selects "FrameHeirs" ({ cls := "FrameHeirs", name := "gates", desc := "(II)I" } : Jvm.MethodName) ({ cls := "FrameHeirs", name := "gates", desc := "(II)I" } : Jvm.MethodName)) ∈ gw := gw_mem (mT4 (i := 116) rfl) rfl
theorem q979 : (Jvm.Cond.code ({ cls := "FrameHeirs", name := "gates", desc := "(II)I" } : Jvm.MethodName) prog_1_method_24_code (3 : Nat) (Option.some Jvm.ClassFile.FieldType.int)) ∈ gw := gw_mem (mT4 (i := 117) rfl) rfl
theorem q980 : (Jvm.Cond.methodLink "FrameHeirs" (217 : Nat) ({ cls := "FrameHeirs$World", name := "areTwo", desc := "(II)Z" } : Jvm.MethodName)) ∈ gw := gw_mem (mT4 (i := 118) rfl) rfl
theorem q981 : (Jvm.Cond.methodLink "FrameHeirs" (220 : Nat) ({ cls := "FrameHeirs$Questions", name := "partings", desc := "(LFrameHeirs$Deeds;II)I" } : Jvm.MethodName)) ∈ gw := gw_mem (mT4 (i := 119) rfl) rfl
theorem q982 : (Jvm.Cond.static ({ cls := "FrameHeirs$Questions", name := "partings", desc := "(LFrameHeirs$Deeds;II)I" } : Jvm.MethodName)) ∈ gw := gw_mem (mT4 (i := 120) rfl) rfl
theorem q983 : (Jvm.Cond.code ({ cls := "FrameHeirs$Questions", name := "partings", desc := "(LFrameHeirs$Deeds;II)I" } : Jvm.MethodName) prog_3_method_16_code (6 : Nat) (Option.some Jvm.ClassFile.FieldType.int)) ∈ gw := gw_mem (mT4 (i := 121) rfl) rfl
theorem q984 : (Jvm.Cond.methodLink "FrameHeirs$Questions" (86 : Nat) ({ cls := "java/util/Arrays", name := "fill", desc := "([II)V" } : Jvm.MethodName)) ∈ gw := gw_mem (mT4 (i := 122) rfl) rfl
theorem q985 : (Jvm.Cond.methodLink "FrameHeirs$Questions" (92 : Nat) ({ cls := "FrameHeirs$Questions", name := "highestGate", desc := "(LFrameHeirs$Deeds;II)I" } : Jvm.MethodName)) ∈ gw := gw_mem (mT4 (i := 123) rfl) rfl
theorem q986 : (Jvm.Cond.static ({ cls := "FrameHeirs$Questions", name := "highestGate", desc := "(LFrameHeirs$Deeds;II)I" } : Jvm.MethodName)) ∈ gw := gw_mem (mT4 (i := 124) rfl) rfl
theorem q987 : (Jvm.Cond.code ({ cls := "FrameHeirs$Questions", name := "highestGate", desc := "(LFrameHeirs$Deeds;II)I" } : Jvm.MethodName) prog_3_method_17_code (7 : Nat) (Option.some Jvm.ClassFile.FieldType.int)) ∈ gw := gw_mem (mT4 (i := 125) rfl) rfl
theorem q988 : (Jvm.Cond.methodLink "FrameHeirsLaw" (124 : Nat) ({ cls := "FrameHeirs", name := "gap", desc := "(II)I" } : Jvm.MethodName)) ∈ gw := gw_mem (mT4 (i := 126) rfl) rfl
theorem q989 : (Jvm.Cond.instanceMethod ({ cls := "FrameHeirs", name := "gap", desc := "(II)I" } : Jvm.MethodName)) ∈ gw := gw_mem (mT4 (i := 127) rfl) rfl
theorem q990 : (Jvm.Cond.selects "FrameHeirs" ({ cls := "FrameHeirs", name := "gap", desc := "(II)I" } : Jvm.MethodName) ({ cls := "FrameHeirs", name := "gap", desc := "(II)I" } : Jvm.MethodName)) ∈ gw := gw_mem (mT4 (i := 128) rfl) rfl
theorem q991 : (Jvm.Cond.code ({ cls := "FrameHeirs", name := "gap", desc := "(II)I" } : Jvm.MethodName) prog_1_method_25_code (3 : Nat) (Option.some Jvm.ClassFile.FieldType.int)) ∈ gw := gw_mem (mT4 (i := 129) rfl) rfl
theorem q992 : (Jvm.Cond.methodLink "FrameHeirs" (223 : Nat) ({ cls := "FrameHeirs$World", name := "firstGap", desc := "(II)I" } : Jvm.MethodName)) ∈ gw := gw_mem (mT4 (i := 130) rfl) rfl
theorem q993 : (Jvm.Cond.instanceMethod ({ cls := "FrameHeirs$World", name := "firstGap", desc := "(II)I" } : Jvm.MethodName)) ∈ gw := gw_mem (mT4 (i := 131) rfl) rfl
theorem q994 : (Jvm.Cond.selects "FrameHeirs$World" ({ cls := "FrameHeirs$World", name := "firstGap", desc := "(II)I" } : Jvm.MethodName) ({ cls := "FrameHeirs$World", name := "firstGap", desc := "(II)I" } : Jvm.MethodName)) ∈ gw := gw_mem (mT4 (i := 132) rfl) rfl
theorem q995 : (Jvm.Cond.code ({ cls := "FrameHeirs$World", name := "firstGap", desc := "(II)I" } : Jvm.MethodName) prog_6_method_38_code (5 : Nat) (Option.some Jvm.ClassFile.FieldType.int)) ∈ gw := gw_mem (mT4 (i := 133) rfl) rfl
theorem q996 : (Jvm.Cond.methodLink "FrameHeirsLaw" (128 : Nat) ({ cls := "FrameHeirs", name := "free", desc := "(I)I" } : Jvm.MethodName)) ∈ gw := gw_mem (mT4 (i := 134) rfl) rfl
theorem q997 : (Jvm.Cond.instanceMethod ({ cls := "FrameHeirs", name := "free", desc := "(I)I" } : Jvm.MethodName)) ∈ gw := gw_mem (mT4 (i := 135) rfl) rfl
theorem q998 : (Jvm.Cond.selects "FrameHeirs" ({ cls := "FrameHeirs", name := "free", desc := "(I)I" } : Jvm.MethodName) ({ cls := "FrameHeirs", name := "free", desc := "(I)I" } : Jvm.MethodName)) ∈ gw := gw_mem (mT4 (i := 136) rfl) rfl
theorem q999 : (Jvm.Cond.code ({ cls := "FrameHeirs", name := "free", desc := "(I)I" } : Jvm.MethodName) prog_1_method_26_code (2 : Nat) (Option.some Jvm.ClassFile.FieldType.int)) ∈ gw := gw_mem (mT4 (i := 137) rfl) rfl
theorem q1000 : (Jvm.Cond.methodLink "FrameHeirs" (226 : Nat) ({ cls := "FrameHeirs$World", name := "roomOf", desc := "(I)I" } : Jvm.MethodName)) ∈ gw := gw_mem (mT4 (i := 138) rfl) rfl
theorem q1001 : (Jvm.Cond.instanceMethod ({ cls := "FrameHeirs$World", name := "roomOf", desc := "(I)I" } : Jvm.MethodName)) ∈ gw := gw_mem (mT4 (i := 139) rfl) rfl
theorem q1002 : (Jvm.Cond.selects "FrameHeirs$World" ({ cls := "FrameHeirs$World", name := "roomOf", desc := "(I)I" } : Jvm.MethodName) ({ cls := "FrameHeirs$World", name := "roomOf", desc := "(I)I" } : Jvm.MethodName)) ∈ gw := gw_mem (mT4 (i := 140) rfl) rfl
theorem q1003 : (Jvm.Cond.code ({ cls := "FrameHeirs$World", name := "roomOf", desc := "(I)I" } : Jvm.MethodName) prog_6_method_39_code (3 : Nat) (Option.some Jvm.ClassFile.FieldType.int)) ∈ gw := gw_mem (mT4 (i := 141) rfl) rfl
theorem q1004 : (Jvm.Cond.methodLink "FrameHeirs$World" (273 : Nat) ({ cls := "java/lang/Math", name := "max", desc := "(II)I" } : Jvm.MethodName)) ∈ gw := gw_mem (mT4 (i := 142) rfl) rfl
theorem q1005 : (Jvm.Cond.methodLink "FrameHeirsLaw" (132 : Nat) ({ cls := "FrameHeirs", name := "coldest", desc := "(I)I" } : Jvm.MethodName)) ∈ gw := gw_mem (mT4 (i := 143) rfl) rfl
theorem q1006 : (Jvm.Cond.instanceMethod ({ cls := "FrameHeirs", name := "coldest", desc := "(I)I" } : Jvm.MethodName)) ∈ gw := gw_mem (mT4 (i := 144) rfl) rfl
theorem q1007 : (Jvm.Cond.selects "FrameHeirs" ({ cls := "FrameHeirs", name := "coldest", desc := "(I)I" } : Jvm.MethodName) ({ cls := "FrameHeirs", name := "coldest", desc := "(I)I" } : Jvm.MethodName)) ∈ gw := gw_mem (mT4 (i := 145) rfl) rfl
theorem q1008 : (Jvm.Cond.code ({ cls := "FrameHeirs", name := "coldest", desc := "(I)I" } : Jvm.MethodName) prog_1_method_27_code (3 : Nat) (Option.some Jvm.ClassFile.FieldType.int)) ∈ gw := gw_mem (mT4 (i := 146) rfl) rfl
theorem q1009 : (Jvm.Cond.methodLink "FrameHeirs" (229 : Nat) ({ cls := "FrameHeirs$Deeds", name := "coldestOf", desc := "(IZ)I" } : Jvm.MethodName)) ∈ gw := gw_mem (mT4 (i := 147) rfl) rfl
theorem q1010 : (Jvm.Cond.methodLink "FrameHeirsLaw" (136 : Nat) ({ cls := "FrameHeirs", name := "age", desc := "(II)I" } : Jvm.MethodName)) ∈ gw := gw_mem (mT4 (i := 148) rfl) rfl
theorem q1011 : (Jvm.Cond.instanceMethod ({ cls := "FrameHeirs", name := "age", desc := "(II)I" } : Jvm.MethodName)) ∈ gw := gw_mem (mT4 (i := 149) rfl) rfl
theorem q1012 : (Jvm.Cond.selects "FrameHeirs" ({ cls := "FrameHeirs", name := "age", desc := "(II)I" } : Jvm.MethodName) ({ cls := "FrameHeirs", name := "age", desc := "(II)I" } : Jvm.MethodName)) ∈ gw := gw_mem (mT4 (i := 150) rfl) rfl
theorem q1013 : (Jvm.Cond.code ({ cls := "FrameHeirs", name := "age", desc := "(II)I" } : Jvm.MethodName) prog_1_method_28_code (4 : Nat) (Option.some Jvm.ClassFile.FieldType.int)) ∈ gw := gw_mem (mT4 (i := 151) rfl) rfl
theorem q1014 : (Jvm.Cond.methodLink "FrameHeirs" (172 : Nat) ({ cls := "FrameHeirs$Deeds", name := "find", desc := "(II)I" } : Jvm.MethodName)) ∈ gw := gw_mem (mT4 (i := 152) rfl) rfl
theorem q1015 : (Jvm.Cond.methodLink "FrameHeirs" (240 : Nat) ({ cls := "FrameHeirs", name := "bitsOf", desc := "(F)I" } : Jvm.MethodName)) ∈ gw := gw_mem (mT4 (i := 153) rfl) rfl
theorem q1016 : (Jvm.Cond.static ({ cls := "FrameHeirs", name := "bitsOf", desc := "(F)I" } : Jvm.MethodName)) ∈ gw := gw_mem (mT4 (i := 154) rfl) rfl
theorem q1017 : (Jvm.Cond.code ({ cls := "FrameHeirs", name := "bitsOf", desc := "(F)I" } : Jvm.MethodName) prog_1_method_46_code (5 : Nat) (Option.some Jvm.ClassFile.FieldType.int)) ∈ gw := gw_mem (mT4 (i := 155) rfl) rfl
theorem q1018 : (Jvm.Cond.constantFloat "FrameHeirs" (313 : Nat) (2139095039 : UInt32)) ∈ gw := gw_mem (mT4 (i := 156) rfl) rfl
theorem q1019 : (Jvm.Cond.constant "FrameHeirs" (314 : Nat) (2139095040 : Int32)) ∈ gw := gw_mem (mT4 (i := 157) rfl) rfl
theorem q1020 : (Jvm.Cond.constantDouble "FrameHeirs" (315 : Nat) (4611686018427387904 : UInt64)) ∈ gw := gw_mem (mT4 (i := 158) rfl) rfl
theorem q1021 : (Jvm.Cond.constantDouble "FrameHeirs" (317 : Nat) (4710765210229538816 : UInt64)) ∈ gw := gw_mem (mT4 (i := 159) rfl) rfl
theorem q1022 : (Jvm.Cond.methodLink "FrameHeirsLaw" (140 : Nat) ({ cls := "FrameHeirs", name := "warmth", desc := "(I)I" } : Jvm.MethodName)) ∈ gw := gw_mem (mT4 (i := 160) rfl) rfl
theorem q1023 : (Jvm.Cond.instanceMethod ({ cls := "FrameHeirs", name := "warmth", desc := "(I)I" } : Jvm.MethodName)) ∈ gw := gw_mem (mT4 (i := 161) rfl) rfl
theorem q1024 : (Jvm.Cond.selects "FrameHeirs" ({ cls := "FrameHeirs", name := "warmth", desc := "(I)I" } : Jvm.MethodName) ({ cls := "FrameHeirs", name := "warmth", desc := "(I)I" } : Jvm.MethodName)) ∈ gw := gw_mem (mT4 (i := 162) rfl) rfl
theorem q1025 : (Jvm.Cond.code ({ cls := "FrameHeirs", name := "warmth", desc := "(I)I" } : Jvm.MethodName) prog_1_method_29_code (2 : Nat) (Option.some Jvm.ClassFile.FieldType.int)) ∈ gw := gw_mem (mT4 (i := 163) rfl) rfl
theorem q1026 : (Jvm.Cond.methodLink "FrameHeirs" (244 : Nat) ({ cls := "FrameHeirs$Deeds", name := "warmthOf", desc := "(I)F" } : Jvm.MethodName)) ∈ gw := gw_mem (mT4 (i := 164) rfl) rfl
theorem q1027 : (Jvm.Cond.instanceMethod ({ cls := "FrameHeirs$Deeds", name := "warmthOf", desc := "(I)F" } : Jvm.MethodName)) ∈ gw := gw_mem (mT4 (i := 165) rfl) rfl
theorem q1028 : (Jvm.Cond.selects "FrameHeirs$Deeds" ({ cls := "FrameHeirs$Deeds", name := "warmthOf", desc := "(I)F" } : Jvm.MethodName) ({ cls := "FrameHeirs$Deeds", name := "warmthOf", desc := "(I)F" } : Jvm.MethodName)) ∈ gw := gw_mem (mT4 (i := 166) rfl) rfl
theorem q1029 : (Jvm.Cond.code ({ cls := "FrameHeirs$Deeds", name := "warmthOf", desc := "(I)F" } : Jvm.MethodName) prog_2_method_28_code (7 : Nat) (Option.some Jvm.ClassFile.FieldType.float)) ∈ gw := gw_mem (mT4 (i := 167) rfl) rfl
theorem q1030 : (Jvm.Cond.methodLink "FrameHeirsLaw" (144 : Nat) ({ cls := "FrameHeirs", name := "ratio", desc := "(II)I" } : Jvm.MethodName)) ∈ gw := gw_mem (mT4 (i := 168) rfl) rfl
theorem q1031 : (Jvm.Cond.instanceMethod ({ cls := "FrameHeirs", name := "ratio", desc := "(II)I" } : Jvm.MethodName)) ∈ gw := gw_mem (mT4 (i := 169) rfl) rfl
theorem q1032 : (Jvm.Cond.selects "FrameHeirs" ({ cls := "FrameHeirs", name := "ratio", desc := "(II)I" } : Jvm.MethodName) ({ cls := "FrameHeirs", name := "ratio", desc := "(II)I" } : Jvm.MethodName)) ∈ gw := gw_mem (mT4 (i := 170) rfl) rfl
theorem q1033 : (Jvm.Cond.code ({ cls := "FrameHeirs", name := "ratio", desc := "(II)I" } : Jvm.MethodName) prog_1_method_30_code (6 : Nat) (Option.some Jvm.ClassFile.FieldType.int)) ∈ gw := gw_mem (mT4 (i := 171) rfl) rfl
theorem q1034 : (Jvm.Cond.constantFloat "FrameHeirs" (248 : Nat) (1120403456 : UInt32)) ∈ gw := gw_mem (mT4 (i := 172) rfl) rfl
theorem q1035 : (Jvm.Cond.constantFloat "FrameHeirs" (249 : Nat) (1325400064 : UInt32)) ∈ gw := gw_mem (mT4 (i := 173) rfl) rfl
theorem q1036 : (Jvm.Cond.constant "FrameHeirs" (250 : Nat) (2147483647 : Int32)) ∈ gw := gw_mem (mT4 (i := 174) rfl) rfl
theorem q1037 : (Jvm.Cond.methodLink "FrameHeirsLaw" (148 : Nat) ({ cls := "FrameHeirs", name := "cool", desc := "(I)I" } : Jvm.MethodName)) ∈ gw := gw_mem (mT4 (i := 175) rfl) rfl
theorem q1038 : (Jvm.Cond.instanceMethod ({ cls := "FrameHeirs", name := "cool", desc := "(I)I" } : Jvm.MethodName)) ∈ gw := gw_mem (mT4 (i := 176) rfl) rfl
theorem q1039 : (Jvm.Cond.selects "FrameHeirs" ({ cls := "FrameHeirs", name := "cool", desc := "(I)I" } : Jvm.MethodName) ({ cls := "FrameHeirs", name := "cool", desc := "(I)I" } : Jvm.MethodName)) ∈ gw := gw_mem (mT4 (i := 177) rfl) rfl
theorem q1040 : (Jvm.Cond.code ({ cls := "FrameHeirs", name := "cool", desc := "(I)I" } : Jvm.MethodName) prog_1_method_31_code (3 : Nat) (Option.some Jvm.ClassFile.FieldType.int)) ∈ gw := gw_mem (mT4 (i := 178) rfl) rfl
theorem q1041 : (Jvm.Cond.methodLink "FrameHeirsLaw" (152 : Nat) ({ cls := "FrameHeirs", name := "kept", desc := "(I)I" } : Jvm.MethodName)) ∈ gw := gw_mem (mT4 (i := 179) rfl) rfl
theorem q1042 : (Jvm.Cond.instanceMethod ({ cls := "FrameHeirs", name := "kept", desc := "(I)I" } : Jvm.MethodName)) ∈ gw := gw_mem (mT4 (i := 180) rfl) rfl
theorem q1043 : (Jvm.Cond.selects "FrameHeirs" ({ cls := "FrameHeirs", name := "kept", desc := "(I)I" } : Jvm.MethodName) ({ cls := "FrameHeirs", name := "kept", desc := "(I)I" } : Jvm.MethodName)) ∈ gw := gw_mem (mT4 (i := 181) rfl) rfl
theorem q1044 : (Jvm.Cond.code ({ cls := "FrameHeirs", name := "kept", desc := "(I)I" } : Jvm.MethodName) prog_1_method_32_code (2 : Nat) (Option.some Jvm.ClassFile.FieldType.int)) ∈ gw := gw_mem (mT4 (i := 182) rfl) rfl
theorem q1045 : (Jvm.Cond.methodLink "FrameHeirs" (255 : Nat) ({ cls := "FrameHeirs$World", name := "keptFor", desc := "(I)I" } : Jvm.MethodName)) ∈ gw := gw_mem (mT4 (i := 183) rfl) rfl
theorem q1046 : (Jvm.Cond.instanceMethod ({ cls := "FrameHeirs$World", name := "keptFor", desc := "(I)I" } : Jvm.MethodName)) ∈ gw := gw_mem (mT4 (i := 184) rfl) rfl
theorem q1047 : (Jvm.Cond.selects "FrameHeirs$World" ({ cls := "FrameHeirs$World", name := "keptFor", desc := "(I)I" } : Jvm.MethodName) ({ cls := "FrameHeirs$World", name := "keptFor", desc := "(I)I" } : Jvm.MethodName)) ∈ gw := gw_mem (mT4 (i := 185) rfl) rfl
theorem q1048 : (Jvm.Cond.code ({ cls := "FrameHeirs$World", name := "keptFor", desc := "(I)I" } : Jvm.MethodName) prog_6_method_37_code (4 : Nat) (Option.some Jvm.ClassFile.FieldType.int)) ∈ gw := gw_mem (mT4 (i := 186) rfl) rfl
theorem q1049 : (Jvm.Cond.methodLink "FrameHeirsLaw" (156 : Nat) ({ cls := "FrameHeirs", name := "job", desc := "(II)I" } : Jvm.MethodName)) ∈ gw := gw_mem (mT4 (i := 187) rfl) rfl
theorem q1050 : (Jvm.Cond.instanceMethod ({ cls := "FrameHeirs", name := "job", desc := "(II)I" } : Jvm.MethodName)) ∈ gw := gw_mem (mT4 (i := 188) rfl) rfl
theorem q1051 : (Jvm.Cond.selects "FrameHeirs" ({ cls := "FrameHeirs", name := "job", desc := "(II)I" } : Jvm.MethodName) ({ cls := "FrameHeirs", name := "job", desc := "(II)I" } : Jvm.MethodName)) ∈ gw := gw_mem (mT4 (i := 189) rfl) rfl
theorem q1052 : (Jvm.Cond.code ({ cls := "FrameHeirs", name := "job", desc := "(II)I" } : Jvm.MethodName) prog_1_method_33_code (3 : Nat) (Option.some Jvm.ClassFile.FieldType.int)) ∈ gw := gw_mem (mT4 (i := 190) rfl) rfl
theorem q1053 : (Jvm.Cond.methodLink "FrameHeirs" (261 : Nat) ({ cls := "FrameHeirs$World", name := "tellJob", desc := "(II)I" } : Jvm.MethodName)) ∈ gw := gw_mem (mT4 (i := 191) rfl) rfl
theorem q1054 : (Jvm.Cond.instanceMethod ({ cls := "FrameHeirs$World", name := "tellJob", desc := "(II)I" } : Jvm.MethodName)) ∈ gw := gw_mem (mT4 (i := 192) rfl) rfl
theorem q1055 : (Jvm.Cond.selects "FrameHeirs$World" ({ cls := "FrameHeirs$World", name := "tellJob", desc := "(II)I" } : Jvm.MethodName) ({ cls := "FrameHeirs$World", name := "tellJob", desc := "(II)I" } : Jvm.MethodName)) ∈ gw := gw_mem (mT4 (i := 193) rfl) rfl
theorem q1056 : (Jvm.Cond.code ({ cls := "FrameHeirs$World", name := "tellJob", desc := "(II)I" } : Jvm.MethodName) prog_6_method_22_code (4 : Nat) (Option.some Jvm.ClassFile.FieldType.int)) ∈ gw := gw_mem (mT4 (i := 194) rfl) rfl
theorem q1057 : (Jvm.Cond.methodLink "FrameHeirs$World" (213 : Nat) ({ cls := "FrameHeirs$Deeds", name := "leftToDo", desc := "(I)I" } : Jvm.MethodName)) ∈ gw := gw_mem (mT4 (i := 195) rfl) rfl
theorem q1058 : (Jvm.Cond.instanceMethod ({ cls := "FrameHeirs$Deeds", name := "leftToDo", desc := "(I)I" } : Jvm.MethodName)) ∈ gw := gw_mem (mT4 (i := 196) rfl) rfl
theorem q1059 : (Jvm.Cond.selects "FrameHeirs$Deeds" ({ cls := "FrameHeirs$Deeds", name := "leftToDo", desc := "(I)I" } : Jvm.MethodName) ({ cls := "FrameHeirs$Deeds", name := "leftToDo", desc := "(I)I" } : Jvm.MethodName)) ∈ gw := gw_mem (mT4 (i := 197) rfl) rfl
theorem q1060 : (Jvm.Cond.code ({ cls := "FrameHeirs$Deeds", name := "leftToDo", desc := "(I)I" } : Jvm.MethodName) prog_2_method_30_code (4 : Nat) (Option.some Jvm.ClassFile.FieldType.int)) ∈ gw := gw_mem (mT4 (i := 198) rfl) rfl
theorem q1061 : (Jvm.Cond.methodLink "FrameHeirsLaw" (160 : Nat) ({ cls := "FrameHeirs", name := "waits", desc := "(II)I" } : Jvm.MethodName)) ∈ gw := gw_mem (mT4 (i := 199) rfl) rfl
theorem q1062 : (Jvm.Cond.instanceMethod ({ cls := "FrameHeirs", name := "waits", desc := "(II)I" } : Jvm.MethodName)) ∈ gw := gw_mem (mT4 (i := 200) rfl) rfl
theorem q1063 : (Jvm.Cond.selects "FrameHeirs" ({ cls := "FrameHeirs", name := "waits", desc := "(II)I" } : Jvm.MethodName) ({ cls := "FrameHeirs", name := "waits", desc := "(II)I" } : Jvm.MethodName)) ∈ gw := gw_mem (mT4 (i := 201) rfl) rfl
theorem q1064 : (Jvm.Cond.code ({ cls := "FrameHeirs", name := "waits", desc := "(II)I" } : Jvm.MethodName) prog_1_method_34_code (3 : Nat) (Option.some Jvm.ClassFile.FieldType.int)) ∈ gw := gw_mem (mT4 (i := 202) rfl) rfl
theorem q1065 : (Jvm.Cond.methodLink "FrameHeirs" (264 : Nat) ({ cls := "FrameHeirs$World", name := "tellWait", desc := "(II)I" } : Jvm.MethodName)) ∈ gw := gw_mem (mT4 (i := 203) rfl) rfl
theorem q1066 : (Jvm.Cond.instanceMethod ({ cls := "FrameHeirs$World", name := "tellWait", desc := "(II)I" } : Jvm.MethodName)) ∈ gw := gw_mem (mT4 (i := 204) rfl) rfl
theorem q1067 : (Jvm.Cond.selects "FrameHeirs$World" ({ cls := "FrameHeirs$World", name := "tellWait", desc := "(II)I" } : Jvm.MethodName) ({ cls := "FrameHeirs$World", name := "tellWait", desc := "(II)I" } : Jvm.MethodName)) ∈ gw := gw_mem (mT4 (i := 205) rfl) rfl
theorem q1068 : (Jvm.Cond.code ({ cls := "FrameHeirs$World", name := "tellWait", desc := "(II)I" } : Jvm.MethodName) prog_6_method_26_code (4 : Nat) (Option.some Jvm.ClassFile.FieldType.int)) ∈ gw := gw_mem (mT4 (i := 206) rfl) rfl
theorem q1069 : (Jvm.Cond.methodLink "FrameHeirs$World" (229 : Nat) ({ cls := "FrameHeirs$World", name := "waitingAhead", desc := "(I)I" } : Jvm.MethodName)) ∈ gw := gw_mem (mT4 (i := 207) rfl) rfl
theorem q1071 : (Jvm.Cond.instanceMethod ({ cls := "FrameHeirs$World", name := "waitingAhead", desc := "(I)I" } : Jvm.MethodName)) ∈ gw := gw_mem (mT4 (i := 209) rfl) rfl
theorem q1072 : (Jvm.Cond.code ({ cls := "FrameHeirs$World", name := "waitingAhead", desc := "(I)I" } : Jvm.MethodName) prog_6_method_27_code (4 : Nat) (Option.some Jvm.ClassFile.FieldType.int)) ∈ gw := gw_mem (mT4 (i := 210) rfl) rfl
theorem q1073 : (Jvm.Cond.methodLink "FrameHeirsLaw" (164 : Nat) ({ cls := "FrameHeirs", name := "lost", desc := "(III)I" } : Jvm.MethodName)) ∈ gw := gw_mem (mT4 (i := 211) rfl) rfl
theorem q1074 : (Jvm.Cond.instanceMethod ({ cls := "FrameHeirs", name := "lost", desc := "(III)I" } : Jvm.MethodName)) ∈ gw := gw_mem (mT4 (i := 212) rfl) rfl
theorem q1075 : (Jvm.Cond.selects "FrameHeirs" ({ cls := "FrameHeirs", name := "lost", desc := "(III)I" } : Jvm.MethodName) ({ cls := "FrameHeirs", name := "lost", desc := "(III)I" } : Jvm.MethodName)) ∈ gw := gw_mem (mT4 (i := 213) rfl) rfl
theorem q1076 : (Jvm.Cond.code ({ cls := "FrameHeirs", name := "lost", desc := "(III)I" } : Jvm.MethodName) prog_1_method_35_code (4 : Nat) (Option.some Jvm.ClassFile.FieldType.int)) ∈ gw := gw_mem (mT4 (i := 214) rfl) rfl
theorem q1077 : (Jvm.Cond.methodLink "FrameHeirs" (267 : Nat) ({ cls := "FrameHeirs$World", name := "isRegionOf", desc := "(II)Z" } : Jvm.MethodName)) ∈ gw := gw_mem (mT4 (i := 215) rfl) rfl
theorem q1078 : (Jvm.Cond.methodLink "FrameHeirs" (270 : Nat) ({ cls := "FrameHeirs$Questions", name := "loss", desc := "(LFrameHeirs$Deeds;III)I" } : Jvm.MethodName)) ∈ gw := gw_mem (mT4 (i := 216) rfl) rfl
theorem q1079 : (Jvm.Cond.static ({ cls := "FrameHeirs$Questions", name := "loss", desc := "(LFrameHeirs$Deeds;III)I" } : Jvm.MethodName)) ∈ gw := gw_mem (mT4 (i := 217) rfl) rfl
theorem q1080 : (Jvm.Cond.code ({ cls := "FrameHeirs$Questions", name := "loss", desc := "(LFrameHeirs$Deeds;III)I" } : Jvm.MethodName) prog_3_method_18_code (11 : Nat) (Option.some Jvm.ClassFile.FieldType.int)) ∈ gw := gw_mem (mT4 (i := 218) rfl) rfl
theorem q1081 : (Jvm.Cond.methodLink "FrameHeirs$Questions" (95 : Nat) ({ cls := "FrameHeirs$Questions", name := "isBeneathRegion", desc := "(LFrameHeirs$Deeds;IIII)Z" } : Jvm.MethodName)) ∈ gw := gw_mem (mT4 (i := 219) rfl) rfl
theorem q1082 : (Jvm.Cond.static ({ cls := "FrameHeirs$Questions", name := "isBeneathRegion", desc := "(LFrameHeirs$Deeds;IIII)Z" } : Jvm.MethodName)) ∈ gw := gw_mem (mT4 (i := 220) rfl) rfl
theorem q1083 : (Jvm.Cond.code ({ cls := "FrameHeirs$Questions", name := "isBeneathRegion", desc := "(LFrameHeirs$Deeds;IIII)Z" } : Jvm.MethodName) prog_3_method_19_code (8 : Nat) (Option.some Jvm.ClassFile.FieldType.boolean)) ∈ gw := gw_mem (mT4 (i := 221) rfl) rfl
theorem q1084 : (Jvm.Cond.methodLink "FrameHeirs$Questions" (99 : Nat) ({ cls := "java/lang/Integer", name := "bitCount", desc := "(I)I" } : Jvm.MethodName)) ∈ gw := gw_mem (mT4 (i := 222) rfl) rfl
theorem q1085 : (Jvm.Cond.methodLink "FrameHeirsLaw" (168 : Nat) ({ cls := "FrameHeirs", name := "steps", desc := "(II)I" } : Jvm.MethodName)) ∈ gw := gw_mem (mT4 (i := 223) rfl) rfl
theorem q1086 : (Jvm.Cond.instanceMethod ({ cls := "FrameHeirs", name := "steps", desc := "(II)I" } : Jvm.MethodName)) ∈ gw := gw_mem (mT4 (i := 224) rfl) rfl
theorem q1087 : (Jvm.Cond.selects "FrameHeirs" ({ cls := "FrameHeirs", name := "steps", desc := "(II)I" } : Jvm.MethodName) ({ cls := "FrameHeirs", name := "steps", desc := "(II)I" } : Jvm.MethodName)) ∈ gw := gw_mem (mT4 (i := 225) rfl) rfl
theorem q1088 : (Jvm.Cond.code ({ cls := "FrameHeirs", name := "steps", desc := "(II)I" } : Jvm.MethodName) prog_1_method_36_code (3 : Nat) (Option.some Jvm.ClassFile.FieldType.int)) ∈ gw := gw_mem (mT4 (i := 226) rfl) rfl
theorem q1089 : (Jvm.Cond.methodLink "FrameHeirsLaw" (172 : Nat) ({ cls := "FrameHeirs", name := "tried", desc := "(I)I" } : Jvm.MethodName)) ∈ gw := gw_mem (mT4 (i := 227) rfl) rfl
theorem q1090 : (Jvm.Cond.instanceMethod ({ cls := "FrameHeirs", name := "tried", desc := "(I)I" } : Jvm.MethodName)) ∈ gw := gw_mem (mT4 (i := 228) rfl) rfl
theorem q1091 : (Jvm.Cond.selects "FrameHeirs" ({ cls := "FrameHeirs", name := "tried", desc := "(I)I" } : Jvm.MethodName) ({ cls := "FrameHeirs", name := "tried", desc := "(I)I" } : Jvm.MethodName)) ∈ gw := gw_mem (mT4 (i := 229) rfl) rfl
theorem q1092 : (Jvm.Cond.code ({ cls := "FrameHeirs", name := "tried", desc := "(I)I" } : Jvm.MethodName) prog_1_method_37_code (3 : Nat) (Option.some Jvm.ClassFile.FieldType.int)) ∈ gw := gw_mem (mT4 (i := 230) rfl) rfl
theorem q1093 : (Jvm.Cond.methodLink "FrameHeirs" (273 : Nat) ({ cls := "FrameHeirs$Deeds", name := "pagesOfAll", desc := "()I" } : Jvm.MethodName)) ∈ gw := gw_mem (mT4 (i := 231) rfl) rfl
theorem q1094 : (Jvm.Cond.instanceMethod ({ cls := "FrameHeirs$Deeds", name := "pagesOfAll", desc := "()I" } : Jvm.MethodName)) ∈ gw := gw_mem (mT4 (i := 232) rfl) rfl
theorem q1095 : (Jvm.Cond.selects "FrameHeirs$Deeds" ({ cls := "FrameHeirs$Deeds", name := "pagesOfAll", desc := "()I" } : Jvm.MethodName) ({ cls := "FrameHeirs$Deeds", name := "pagesOfAll", desc := "()I" } : Jvm.MethodName)) ∈ gw := gw_mem (mT4 (i := 233) rfl) rfl
theorem q1096 : (Jvm.Cond.code ({ cls := "FrameHeirs$Deeds", name := "pagesOfAll", desc := "()I" } : Jvm.MethodName) prog_2_method_7_code (3 : Nat) (Option.some Jvm.ClassFile.FieldType.int)) ∈ gw := gw_mem (mT4 (i := 234) rfl) rfl
theorem q1097 : (Jvm.Cond.methodLink "FrameHeirs" (279 : Nat) ({ cls := "FrameHeirs$Deeds", name := "allToDo", desc := "()I" } : Jvm.MethodName)) ∈ gw := gw_mem (mT4 (i := 235) rfl) rfl
theorem q1098 : (Jvm.Cond.instanceMethod ({ cls := "FrameHeirs$Deeds", name := "allToDo", desc := "()I" } : Jvm.MethodName)) ∈ gw := gw_mem (mT4 (i := 236) rfl) rfl
theorem q1099 : (Jvm.Cond.selects "FrameHeirs$Deeds" ({ cls := "FrameHeirs$Deeds", name := "allToDo", desc := "()I" } : Jvm.MethodName) ({ cls := "FrameHeirs$Deeds", name := "allToDo", desc := "()I" } : Jvm.MethodName)) ∈ gw := gw_mem (mT4 (i := 237) rfl) rfl
theorem q1100 : (Jvm.Cond.code ({ cls := "FrameHeirs$Deeds", name := "allToDo", desc := "()I" } : Jvm.MethodName) prog_2_method_32_code (3 : Nat) (Option.some Jvm.ClassFile.FieldType.int)) ∈ gw := gw_mem (mT4 (i := 238) rfl) rfl
theorem q1101 : (Jvm.Cond.methodLink "FrameHeirsLaw" (176 : Nat) ({ cls := "FrameHeirs", name := "churn", desc := "(II)I" } : Jvm.MethodName)) ∈ gw := gw_mem (mT4 (i := 239) rfl) rfl
theorem q1102 : (Jvm.Cond.instanceMethod ({ cls := "FrameHeirs", name := "churn", desc := "(II)I" } : Jvm.MethodName)) ∈ gw := gw_mem (mT5 (i := 0) rfl) rfl
theorem q1103 : (Jvm.Cond.selects "FrameHeirs" ({ cls := "FrameHeirs", name := "churn", desc := "(II)I" } : Jvm.MethodName) ({ cls := "FrameHeirs", name := "churn", desc := "(II)I" } : Jvm.MethodName)) ∈ gw := gw_mem (mT5 (i := 1) rfl) rfl
theorem q1104 : (Jvm.Cond.code ({ cls := "FrameHeirs", name := "churn", desc := "(II)I" } : Jvm.MethodName) prog_1_method_38_code (10 : Nat) (Option.some Jvm.ClassFile.FieldType.int)) ∈ gw := gw_mem (mT5 (i := 2) rfl) rfl
theorem q1105 : (Jvm.Cond.methodLink "FrameHeirs" (291 : Nat) ({ cls := "FrameHeirs", name := "drawnAfter", desc := "(I)I" } : Jvm.MethodName)) ∈ gw := gw_mem (mT5 (i := 3) rfl) rfl
theorem q1106 : (Jvm.Cond.static ({ cls := "FrameHeirs", name := "drawnAfter", desc := "(I)I" } : Jvm.MethodName)) ∈ gw := gw_mem (mT5 (i := 4) rfl) rfl
theorem q1107 : (Jvm.Cond.code ({ cls := "FrameHeirs", name := "drawnAfter", desc := "(I)I" } : Jvm.MethodName) prog_1_method_44_code (1 : Nat) (Option.some Jvm.ClassFile.FieldType.int)) ∈ gw := gw_mem (mT5 (i := 5) rfl) rfl
theorem q1108 : (Jvm.Cond.constant "FrameHeirs" (312 : Nat) (1103515245 : Int32)) ∈ gw := gw_mem (mT5 (i := 6) rfl) rfl
theorem q1109 : (Jvm.Cond.methodLink "FrameHeirsLaw" (180 : Nat) ({ cls := "FrameHeirs", name := "undo", desc := "()I" } : Jvm.MethodName)) ∈ gw := gw_mem (mT5 (i := 7) rfl) rfl
theorem q1110 : (Jvm.Cond.instanceMethod ({ cls := "FrameHeirs", name := "undo", desc := "()I" } : Jvm.MethodName)) ∈ gw := gw_mem (mT5 (i := 8) rfl) rfl
theorem q1111 : (Jvm.Cond.selects "FrameHeirs" ({ cls := "FrameHeirs", name := "undo", desc := "()I" } : Jvm.MethodName) ({ cls := "FrameHeirs", name := "undo", desc := "()I" } : Jvm.MethodName)) ∈ gw := gw_mem (mT5 (i := 9) rfl) rfl
theorem q1112 : (Jvm.Cond.code ({ cls := "FrameHeirs", name := "undo", desc := "()I" } : Jvm.MethodName) prog_1_method_39_code (3 : Nat) (Option.some Jvm.ClassFile.FieldType.int)) ∈ gw := gw_mem (mT5 (i := 10) rfl) rfl
theorem q1113 : (Jvm.Cond.methodLink "FrameHeirsLaw" (184 : Nat) ({ cls := "FrameHeirs", name := "count", desc := "(I)I" } : Jvm.MethodName)) ∈ gw := gw_mem (mT5 (i := 11) rfl) rfl
theorem q1114 : (Jvm.Cond.instanceMethod ({ cls := "FrameHeirs", name := "count", desc := "(I)I" } : Jvm.MethodName)) ∈ gw := gw_mem (mT5 (i := 12) rfl) rfl
theorem q1115 : (Jvm.Cond.selects "FrameHeirs" ({ cls := "FrameHeirs", name := "count", desc := "(I)I" } : Jvm.MethodName) ({ cls := "FrameHeirs", name := "count", desc := "(I)I" } : Jvm.MethodName)) ∈ gw := gw_mem (mT5 (i := 13) rfl) rfl
theorem q1116 : (Jvm.Cond.code ({ cls := "FrameHeirs", name := "count", desc := "(I)I" } : Jvm.MethodName) prog_1_method_40_code (2 : Nat) (Option.some Jvm.ClassFile.FieldType.int)) ∈ gw := gw_mem (mT5 (i := 14) rfl) rfl
theorem q1117 : (Jvm.Cond.methodLink "FrameHeirs" (303 : Nat) ({ cls := "FrameHeirs$Questions", name := "mostAbove", desc := "(LFrameHeirs$Deeds;)I" } : Jvm.MethodName)) ∈ gw := gw_mem (mT5 (i := 15) rfl) rfl
theorem q1118 : (Jvm.Cond.static ({ cls := "FrameHeirs$Questions", name := "mostAbove", desc := "(LFrameHeirs$Deeds;)I" } : Jvm.MethodName)) ∈ gw := gw_mem (mT5 (i := 16) rfl) rfl
theorem q1119 : (Jvm.Cond.code ({ cls := "FrameHeirs$Questions", name := "mostAbove", desc := "(LFrameHeirs$Deeds;)I" } : Jvm.MethodName) prog_3_method_7_code (3 : Nat) (Option.some Jvm.ClassFile.FieldType.int)) ∈ gw := gw_mem (mT5 (i := 17) rfl) rfl
theorem q1120 : (Jvm.Cond.methodLink "FrameHeirs$Questions" (27 : Nat) ({ cls := "FrameHeirs$Questions", name := "aboveOf", desc := "(LFrameHeirs$Deeds;I)I" } : Jvm.MethodName)) ∈ gw := gw_mem (mT5 (i := 18) rfl) rfl
theorem q1121 : (Jvm.Cond.static ({ cls := "FrameHeirs$Questions", name := "aboveOf", desc := "(LFrameHeirs$Deeds;I)I" } : Jvm.MethodName)) ∈ gw := gw_mem (mT5 (i := 19) rfl) rfl
theorem q1122 : (Jvm.Cond.code ({ cls := "FrameHeirs$Questions", name := "aboveOf", desc := "(LFrameHeirs$Deeds;I)I" } : Jvm.MethodName) prog_3_method_4_code (4 : Nat) (Option.some Jvm.ClassFile.FieldType.int)) ∈ gw := gw_mem (mT5 (i := 20) rfl) rfl
theorem q1123 : (Jvm.Cond.methodLink "FrameHeirs$Questions" (64 : Nat) ({ cls := "java/lang/Math", name := "max", desc := "(II)I" } : Jvm.MethodName)) ∈ gw := gw_mem (mT5 (i := 21) rfl) rfl
theorem q1124 : (Jvm.Cond.methodLink "FrameHeirsLaw" (86 : Nat) ({ cls := "FrameHeirsLaw", name := "deed", desc := "(LFrameHeirs;III[J)I" } : Jvm.MethodName)) ∈ gw := gw_mem (mT5 (i := 22) rfl) rfl
theorem q1125 : (Jvm.Cond.static ({ cls := "FrameHeirsLaw", name := "deed", desc := "(LFrameHeirs;III[J)I" } : Jvm.MethodName)) ∈ gw := gw_mem (mT5 (i := 23) rfl) rfl
theorem q1127 : (Jvm.Cond.classLink "FrameHeirsLaw" (13 : Nat) "java/lang/IndexOutOfBoundsException") ∈ gw := gw_mem (mT5 (i := 25) rfl) rfl
theorem q1128 : (Jvm.Cond.classLink "FrameHeirsLaw" (15 : Nat) "java/util/NoSuchElementException") ∈ gw := gw_mem (mT5 (i := 26) rfl) rfl
theorem q1129 : (Jvm.Cond.methodLink "FrameHeirsLaw" (7 : Nat) ({ cls := "FrameHeirs", name := "deed", desc := "(III)I" } : Jvm.MethodName)) ∈ gw := gw_mem (mT5 (i := 27) rfl) rfl
theorem q1130 : (Jvm.Cond.instanceMethod ({ cls := "FrameHeirs", name := "deed", desc := "(III)I" } : Jvm.MethodName)) ∈ gw := gw_mem (mT5 (i := 28) rfl) rfl
theorem q1131 : (Jvm.Cond.selects "FrameHeirs" ({ cls := "FrameHeirs", name := "deed", desc := "(III)I" } : Jvm.MethodName) ({ cls := "FrameHeirs", name := "deed", desc := "(III)I" } : Jvm.MethodName)) ∈ gw := gw_mem (mT5 (i := 29) rfl) rfl
theorem q1132 : (Jvm.Cond.code ({ cls := "FrameHeirs", name := "deed", desc := "(III)I" } : Jvm.MethodName) prog_1_method_17_code (5 : Nat) (Option.some Jvm.ClassFile.FieldType.int)) ∈ gw := gw_mem (mT5 (i := 30) rfl) rfl
theorem q1133 : (Jvm.Cond.classLink "FrameHeirs" (160 : Nat) "java/lang/IndexOutOfBoundsException") ∈ gw := gw_mem (mT5 (i := 31) rfl) rfl
theorem q1134 : (Jvm.Cond.instantiable "java/lang/IndexOutOfBoundsException" (6 : Nat)) ∈ gw := gw_mem (mT5 (i := 32) rfl) rfl
theorem q1142 : (Jvm.Cond.selects "java/lang/IndexOutOfBoundsException" ({ cls := "java/lang/Throwable", name := "fillInStackTrace", desc := "(I)Ljava/lang/Throwable;" } : Jvm.MethodName) ({ cls := "java/lang/Throwable", name := "fillInStackTrace", desc := "(I)Ljava/lang/Throwable;" } : Jvm.MethodName)) ∈ gw := gw_mem (mT5 (i := 40) rfl) rfl
theorem q1143 : (Jvm.Cond.selects "java/lang/IndexOutOfBoundsException" ({ cls := "java/lang/Throwable", name := "fillInStackTrace", desc := "()Ljava/lang/Throwable;" } : Jvm.MethodName) ({ cls := "java/lang/Throwable", name := "fillInStackTrace", desc := "()Ljava/lang/Throwable;" } : Jvm.MethodName)) ∈ gw := gw_mem (mT5 (i := 41) rfl) rfl
theorem q1144 : (Jvm.Cond.lays "java/lang/IndexOutOfBoundsException" "java/lang/Throwable" "cause" "Ljava/lang/Throwable;") ∈ gw := gw_mem (mT5 (i := 42) rfl) rfl
theorem q1145 : (Jvm.Cond.lays "java/lang/Throwable" "java/lang/Throwable" "cause" "Ljava/lang/Throwable;") ∈ gw := gw_mem (mT5 (i := 43) rfl) rfl
theorem q1146 : (Jvm.Cond.lays "java/lang/IndexOutOfBoundsException" "java/lang/Throwable" "stackTrace" "[Ljava/lang/StackTraceElement;") ∈ gw := gw_mem (mT5 (i := 44) rfl) rfl
theorem q1147 : (Jvm.Cond.lays "java/lang/Throwable" "java/lang/Throwable" "stackTrace" "[Ljava/lang/StackTraceElement;") ∈ gw := gw_mem (mT5 (i := 45) rfl) rfl
theorem q1148 : (Jvm.Cond.lays "java/lang/IndexOutOfBoundsException" "java/lang/Throwable" "suppressedExceptions" "Ljava/util/List;") ∈ gw := gw_mem (mT5 (i := 46) rfl) rfl
theorem q1149 : (Jvm.Cond.lays "java/lang/Throwable" "java/lang/Throwable" "suppressedExceptions" "Ljava/util/List;") ∈ gw := gw_mem (mT5 (i := 47) rfl) rfl
theorem q1150 : (Jvm.Cond.lays "java/lang/IndexOutOfBoundsException" "java/lang/Throwable" "detailMessage" "Ljava/lang/String;") ∈ gw := gw_mem (mT5 (i := 48) rfl) rfl
theorem q1151 : (Jvm.Cond.lays "java/lang/Throwable" "java/lang/Throwable" "detailMessage" "Ljava/lang/String;") ∈ gw := gw_mem (mT5 (i := 49) rfl) rfl
theorem q1152 : (Jvm.Cond.lays "java/lang/IndexOutOfBoundsException" "java/lang/Throwable" "backtrace" "Ljava/lang/Object;") ∈ gw := gw_mem (mT5 (i := 50) rfl) rfl
theorem q1153 : (Jvm.Cond.lays "java/lang/Throwable" "java/lang/Throwable" "backtrace" "Ljava/lang/Object;") ∈ gw := gw_mem (mT5 (i := 51) rfl) rfl
theorem q1154 : (Jvm.Cond.fieldLink "java/lang/Throwable" (198 : Nat) "java/lang/Throwable" "backtrace" "Ljava/lang/Object;") ∈ gw := gw_mem (mT5 (i := 52) rfl) rfl
theorem q1156 : (Jvm.Cond.instanceMethod ({ cls := "java/lang/Throwable", name := "<init>", desc := "()V" } : Jvm.MethodName)) ∈ gw := gw_mem (mT5 (i := 54) rfl) rfl
theorem q1157 : (Jvm.Cond.code ({ cls := "java/lang/Throwable", name := "<init>", desc := "()V" } : Jvm.MethodName) prog_17_method_1_code (1 : Nat) (Option.none : Option Jvm.ClassFile.FieldType)) ∈ gw := gw_mem (mT5 (i := 55) rfl) rfl
theorem q1158 : (Jvm.Cond.methodLink "java/lang/Throwable" (1 : Nat) ({ cls := "java/lang/Object", name := "<init>", desc := "()V" } : Jvm.MethodName)) ∈ gw := gw_mem (mT5 (i := 56) rfl) rfl
theorem q1159 : (Jvm.Cond.fieldLink "java/lang/Throwable" (13 : Nat) "java/lang/Throwable" "UNASSIGNED_STACK" "[Ljava/lang/StackTraceElement;") ∈ gw := gw_mem (mT5 (i := 57) rfl) rfl
theorem q1161 : (Jvm.Cond.fieldLink "java/lang/Throwable" (20 : Nat) "java/lang/Throwable" "SUPPRESSED_SENTINEL" "Ljava/util/List;") ∈ gw := gw_mem (mT5 (i := 59) rfl) rfl
theorem q1163 : (Jvm.Cond.methodLink "java/lang/Throwable" (27 : Nat) ({ cls := "java/lang/Throwable", name := "fillInStackTrace", desc := "()Ljava/lang/Throwable;" } : Jvm.MethodName)) ∈ gw := gw_mem (mT5 (i := 61) rfl) rfl
theorem q1164 : (Jvm.Cond.instanceMethod ({ cls := "java/lang/Throwable", name := "fillInStackTrace", desc := "()Ljava/lang/Throwable;" } : Jvm.MethodName)) ∈ gw := gw_mem (mT5 (i := 62) rfl) rfl
theorem q1166 : (Jvm.Cond.selects "java/util/NoSuchElementException" ({ cls := "java/lang/Throwable", name := "fillInStackTrace", desc := "()Ljava/lang/Throwable;" } : Jvm.MethodName) ({ cls := "java/lang/Throwable", name := "fillInStackTrace", desc := "()Ljava/lang/Throwable;" } : Jvm.MethodName)) ∈ gw := gw_mem (mT5 (i := 64) rfl) rfl
theorem q1168 : (Jvm.Cond.methodLink "java/lang/Throwable" (202 : Nat) ({ cls := "java/lang/Throwable", name := "fillInStackTrace", desc := "(I)Ljava/lang/Throwable;" } : Jvm.MethodName)) ∈ gw := gw_mem (mT5 (i := 66) rfl) rfl
theorem q1170 : (Jvm.Cond.instanceMethod ({ cls := "java/lang/Throwable", name := "fillInStackTrace", desc := "(I)Ljava/lang/Throwable;" } : Jvm.MethodName)) ∈ gw := gw_mem (mT5 (i := 68) rfl) rfl
theorem q1171 : (Jvm.Cond.instantiable "java/lang/Throwable" (6 : Nat)) ∈ gw := gw_mem (mT5 (i := 69) rfl) rfl
theorem q1172 : (Jvm.Cond.native ({ cls := "java/lang/Throwable", name := "fillInStackTrace", desc := "(I)Ljava/lang/Throwable;" } : Jvm.MethodName)) ∈ gw := gw_mem (mT5 (i := 70) rfl) rfl
theorem q1174 : (Jvm.Cond.methodLink "FrameHeirs" (164 : Nat) ({ cls := "java/lang/IndexOutOfBoundsException", name := "<init>", desc := "(Ljava/lang/String;)V" } : Jvm.MethodName)) ∈ gw := gw_mem (mT5 (i := 72) rfl) rfl
theorem q1175 : (Jvm.Cond.instanceMethod ({ cls := "java/lang/IndexOutOfBoundsException", name := "<init>", desc := "(Ljava/lang/String;)V" } : Jvm.MethodName)) ∈ gw := gw_mem (mT5 (i := 73) rfl) rfl
theorem q1176 : (Jvm.Cond.code ({ cls := "java/lang/IndexOutOfBoundsException", name := "<init>", desc := "(Ljava/lang/String;)V" } : Jvm.MethodName) prog_11_method_2_code (2 : Nat) (Option.none : Option Jvm.ClassFile.FieldType)) ∈ gw := gw_mem (mT5 (i := 74) rfl) rfl
theorem q1177 : (Jvm.Cond.methodLink "java/lang/IndexOutOfBoundsException" (7 : Nat) ({ cls := "java/lang/RuntimeException", name := "<init>", desc := "(Ljava/lang/String;)V" } : Jvm.MethodName)) ∈ gw := gw_mem (mT5 (i := 75) rfl) rfl
theorem q1178 : (Jvm.Cond.instanceMethod ({ cls := "java/lang/RuntimeException", name := "<init>", desc := "(Ljava/lang/String;)V" } : Jvm.MethodName)) ∈ gw := gw_mem (mT5 (i := 76) rfl) rfl
theorem q1179 : (Jvm.Cond.code ({ cls := "java/lang/RuntimeException", name := "<init>", desc := "(Ljava/lang/String;)V" } : Jvm.MethodName) prog_14_method_2_code (2 : Nat) (Option.none : Option Jvm.ClassFile.FieldType)) ∈ gw := gw_mem (mT5 (i := 77) rfl) rfl
theorem q1180 : (Jvm.Cond.methodLink "java/lang/RuntimeException" (7 : Nat) ({ cls := "java/lang/Exception", name := "<init>", desc := "(Ljava/lang/String;)V" } : Jvm.MethodName)) ∈ gw := gw_mem (mT5 (i := 78) rfl) rfl
theorem q1181 : (Jvm.Cond.instanceMethod ({ cls := "java/lang/Exception", name := "<init>", desc := "(Ljava/lang/String;)V" } : Jvm.MethodName)) ∈ gw := gw_mem (mT5 (i := 79) rfl) rfl
theorem q1182 : (Jvm.Cond.code ({ cls := "java/lang/Exception", name := "<init>", desc := "(Ljava/lang/String;)V" } : Jvm.MethodName) prog_10_method_2_code (2 : Nat) (Option.none : Option Jvm.ClassFile.FieldType)) ∈ gw := gw_mem (mT5 (i := 80) rfl) rfl
theorem q1183 : (Jvm.Cond.methodLink "java/lang/Exception" (7 : Nat) ({ cls := "java/lang/Throwable", name := "<init>", desc := "(Ljava/lang/String;)V" } : Jvm.MethodName)) ∈ gw := gw_mem (mT5 (i := 81) rfl) rfl
theorem q1184 : (Jvm.Cond.instanceMethod ({ cls := "java/lang/Throwable", name := "<init>", desc := "(Ljava/lang/String;)V" } : Jvm.MethodName)) ∈ gw := gw_mem (mT5 (i := 82) rfl) rfl
theorem q1185 : (Jvm.Cond.code ({ cls := "java/lang/Throwable", name := "<init>", desc := "(Ljava/lang/String;)V" } : Jvm.MethodName) prog_17_method_2_code (2 : Nat) (Option.none : Option Jvm.ClassFile.FieldType)) ∈ gw := gw_mem (mT5 (i := 83) rfl) rfl
theorem q1186 : (Jvm.Cond.fieldLink "java/lang/Throwable" (198 : Nat) "java/lang/Throwable" "backtrace" "Ljava/lang/Object;") ∈ gw := gw_mem (mT5 (i := 84) rfl) rfl
theorem q1187 : (Jvm.Cond.fieldLink "java/lang/Throwable" (31 : Nat) "java/lang/Throwable" "detailMessage" "Ljava/lang/String;") ∈ gw := gw_mem (mT5 (i := 85) rfl) rfl
theorem q1188 : (Jvm.Cond.fieldLink "java/lang/Throwable" (7 : Nat) "java/lang/Throwable" "cause" "Ljava/lang/Throwable;") ∈ gw := gw_mem (mT5 (i := 86) rfl) rfl
theorem q1189 : (Jvm.Cond.fieldLink "java/lang/Throwable" (17 : Nat) "java/lang/Throwable" "stackTrace" "[Ljava/lang/StackTraceElement;") ∈ gw := gw_mem (mT5 (i := 87) rfl) rfl
theorem q1190 : (Jvm.Cond.fieldLink "java/lang/Throwable" (24 : Nat) "java/lang/Throwable" "suppressedExceptions" "Ljava/util/List;") ∈ gw := gw_mem (mT5 (i := 88) rfl) rfl
theorem q1195 : (Jvm.Cond.lays "java/lang/IndexOutOfBoundsException" "java/lang/Throwable" "depth" "I") ∈ gw := gw_mem (mT5 (i := 93) rfl) rfl
theorem q1199 : (Jvm.Cond.arrayClass Jvm.ClassFile.FieldType.byte) ∈ gw := gw_mem (mT5 (i := 97) rfl) rfl
theorem q1200 : (Jvm.Cond.classLink "FrameHeirs" (167 : Nat) "java/util/NoSuchElementException") ∈ gw := gw_mem (mT5 (i := 98) rfl) rfl
theorem q1201 : (Jvm.Cond.instantiable "java/util/NoSuchElementException" (6 : Nat)) ∈ gw := gw_mem (mT5 (i := 99) rfl) rfl
theorem q1203 : (Jvm.Cond.selects "java/util/NoSuchElementException" ({ cls := "java/lang/Throwable", name := "fillInStackTrace", desc := "(I)Ljava/lang/Throwable;" } : Jvm.MethodName) ({ cls := "java/lang/Throwable", name := "fillInStackTrace", desc := "(I)Ljava/lang/Throwable;" } : Jvm.MethodName)) ∈ gw := gw_mem (mT5 (i := 101) rfl) rfl
theorem q1204 : (Jvm.Cond.lays "java/util/NoSuchElementException" "java/lang/Throwable" "cause" "Ljava/lang/Throwable;") ∈ gw := gw_mem (mT5 (i := 102) rfl) rfl
theorem q1205 : (Jvm.Cond.lays "java/util/NoSuchElementException" "java/lang/Throwable" "stackTrace" "[Ljava/lang/StackTraceElement;") ∈ gw := gw_mem (mT5 (i := 103) rfl) rfl
theorem q1206 : (Jvm.Cond.lays "java/util/NoSuchElementException" "java/lang/Throwable" "suppressedExceptions" "Ljava/util/List;") ∈ gw := gw_mem (mT5 (i := 104) rfl) rfl
theorem q1207 : (Jvm.Cond.lays "java/util/NoSuchElementException" "java/lang/Throwable" "detailMessage" "Ljava/lang/String;") ∈ gw := gw_mem (mT5 (i := 105) rfl) rfl
theorem q1208 : (Jvm.Cond.lays "java/util/NoSuchElementException" "java/lang/Throwable" "backtrace" "Ljava/lang/Object;") ∈ gw := gw_mem (mT5 (i := 106) rfl) rfl
theorem q1210 : (Jvm.Cond.methodLink "FrameHeirs" (171 : Nat) ({ cls := "java/util/NoSuchElementException", name := "<init>", desc := "(Ljava/lang/String;)V" } : Jvm.MethodName)) ∈ gw := gw_mem (mT5 (i := 108) rfl) rfl
theorem q1211 : (Jvm.Cond.instanceMethod ({ cls := "java/util/NoSuchElementException", name := "<init>", desc := "(Ljava/lang/String;)V" } : Jvm.MethodName)) ∈ gw := gw_mem (mT5 (i := 109) rfl) rfl
theorem q1212 : (Jvm.Cond.code ({ cls := "java/util/NoSuchElementException", name := "<init>", desc := "(Ljava/lang/String;)V" } : Jvm.MethodName) prog_19_method_4_code (2 : Nat) (Option.none : Option Jvm.ClassFile.FieldType)) ∈ gw := gw_mem (mT5 (i := 110) rfl) rfl
theorem q1213 : (Jvm.Cond.methodLink "java/util/NoSuchElementException" (13 : Nat) ({ cls := "java/lang/RuntimeException", name := "<init>", desc := "(Ljava/lang/String;)V" } : Jvm.MethodName)) ∈ gw := gw_mem (mT5 (i := 111) rfl) rfl
theorem q1214 : (Jvm.Cond.lays "java/util/NoSuchElementException" "java/lang/Throwable" "depth" "I") ∈ gw := gw_mem (mT5 (i := 112) rfl) rfl
theorem q1216 : (Jvm.Cond.methodLink "FrameHeirs" (176 : Nat) ({ cls := "FrameHeirs$Questions", name := "tell", desc := "(LFrameHeirs$Deeds;III)I" } : Jvm.MethodName)) ∈ gw := gw_mem (mT5 (i := 114) rfl) rfl
theorem q1217 : (Jvm.Cond.static ({ cls := "FrameHeirs$Questions", name := "tell", desc := "(LFrameHeirs$Deeds;III)I" } : Jvm.MethodName)) ∈ gw := gw_mem (mT5 (i := 115) rfl) rfl
theorem q1218 : (Jvm.Cond.code ({ cls := "FrameHeirs$Questions", name := "tell", desc := "(LFrameHeirs$Deeds;III)I" } : Jvm.MethodName) prog_3_method_2_code (4 : Nat) (Option.some Jvm.ClassFile.FieldType.int)) ∈ gw := gw_mem (mT5 (i := 116) rfl) rfl
theorem q1219 : (Jvm.Cond.methodLink "FrameHeirs$Questions" (31 : Nat) ({ cls := "FrameHeirs$Questions", name := "heirsOf", desc := "(LFrameHeirs$Deeds;I)I" } : Jvm.MethodName)) ∈ gw := gw_mem (mT5 (i := 117) rfl) rfl
theorem q1220 : (Jvm.Cond.static ({ cls := "FrameHeirs$Questions", name := "heirsOf", desc := "(LFrameHeirs$Deeds;I)I" } : Jvm.MethodName)) ∈ gw := gw_mem (mT5 (i := 118) rfl) rfl
theorem q1221 : (Jvm.Cond.code ({ cls := "FrameHeirs$Questions", name := "heirsOf", desc := "(LFrameHeirs$Deeds;I)I" } : Jvm.MethodName) prog_3_method_5_code (4 : Nat) (Option.some Jvm.ClassFile.FieldType.int)) ∈ gw := gw_mem (mT5 (i := 119) rfl) rfl
theorem q1222 : (Jvm.Cond.methodLink "FrameHeirs$Questions" (34 : Nat) ({ cls := "FrameHeirs$Questions", name := "beneathOf", desc := "(LFrameHeirs$Deeds;I)I" } : Jvm.MethodName)) ∈ gw := gw_mem (mT5 (i := 120) rfl) rfl
theorem q1223 : (Jvm.Cond.static ({ cls := "FrameHeirs$Questions", name := "beneathOf", desc := "(LFrameHeirs$Deeds;I)I" } : Jvm.MethodName)) ∈ gw := gw_mem (mT5 (i := 121) rfl) rfl
theorem q1224 : (Jvm.Cond.code ({ cls := "FrameHeirs$Questions", name := "beneathOf", desc := "(LFrameHeirs$Deeds;I)I" } : Jvm.MethodName) prog_3_method_6_code (4 : Nat) (Option.some Jvm.ClassFile.FieldType.int)) ∈ gw := gw_mem (mT5 (i := 122) rfl) rfl
theorem q1225 : (Jvm.Cond.methodLink "FrameHeirs$Questions" (53 : Nat) ({ cls := "FrameHeirs$Deeds", name := "deepest", desc := "(I)I" } : Jvm.MethodName)) ∈ gw := gw_mem (mT5 (i := 123) rfl) rfl
theorem q1226 : (Jvm.Cond.methodLink "FrameHeirs$Questions" (57 : Nat) ({ cls := "FrameHeirs$Deeds", name := "afterwards", desc := "(I)I" } : Jvm.MethodName)) ∈ gw := gw_mem (mT5 (i := 124) rfl) rfl
theorem q1227 : (Jvm.Cond.methodLink "FrameHeirs$Questions" (37 : Nat) ({ cls := "FrameHeirs$Deeds", name := "isBusy", desc := "(I)Z" } : Jvm.MethodName)) ∈ gw := gw_mem (mT5 (i := 125) rfl) rfl
theorem q1228 : (Jvm.Cond.classLink "FrameHeirsLaw" (18 : Nat) "FrameHeirsModel") ∈ gw := gw_mem (mT5 (i := 126) rfl) rfl
theorem q1229 : (Jvm.Cond.instantiable "FrameHeirsModel" (32 : Nat)) ∈ gw := gw_mem (mT5 (i := 127) rfl) rfl
theorem q1230 : (Jvm.Cond.methodLink "FrameHeirsLaw" (20 : Nat) ({ cls := "FrameHeirsModel", name := "<init>", desc := "()V" } : Jvm.MethodName)) ∈ gw := gw_mem (mT5 (i := 128) rfl) rfl
theorem q1231 : (Jvm.Cond.instanceMethod ({ cls := "FrameHeirsModel", name := "<init>", desc := "()V" } : Jvm.MethodName)) ∈ gw := gw_mem (mT5 (i := 129) rfl) rfl
theorem q1232 : (Jvm.Cond.code ({ cls := "FrameHeirsModel", name := "<init>", desc := "()V" } : Jvm.MethodName) prog_8_method_1_code (1 : Nat) (Option.none : Option Jvm.ClassFile.FieldType)) ∈ gw := gw_mem (mT5 (i := 130) rfl) rfl
theorem q1233 : (Jvm.Cond.methodLink "FrameHeirsModel" (1 : Nat) ({ cls := "java/lang/Object", name := "<init>", desc := "()V" } : Jvm.MethodName)) ∈ gw := gw_mem (mT5 (i := 131) rfl) rfl
theorem q1234 : (Jvm.Cond.constant "FrameHeirsModel" (45 : Nat) (48994 : Int32)) ∈ gw := gw_mem (mT5 (i := 132) rfl) rfl
theorem q1235 : (Jvm.Cond.methodLink "FrameHeirsModel" (55 : Nat) ({ cls := "FrameHeirsModel", name := "plain", desc := "()V" } : Jvm.MethodName)) ∈ gw := gw_mem (mT5 (i := 133) rfl) rfl
theorem q1237 : (Jvm.Cond.instanceMethod ({ cls := "FrameHeirsModel", name := "plain", desc := "()V" } : Jvm.MethodName)) ∈ gw := gw_mem (mT5 (i := 135) rfl) rfl
theorem q1238 : (Jvm.Cond.code ({ cls := "FrameHeirsModel", name := "plain", desc := "()V" } : Jvm.MethodName) prog_8_method_11_code (2 : Nat) (Option.none : Option Jvm.ClassFile.FieldType)) ∈ gw := gw_mem (mT5 (i := 136) rfl) rfl
theorem q1239 : (Jvm.Cond.methodLink "FrameHeirsModel" (58 : Nat) ({ cls := "FrameHeirsModel", name := "keepText", desc := "()V" } : Jvm.MethodName)) ∈ gw := gw_mem (mT5 (i := 137) rfl) rfl
theorem q1241 : (Jvm.Cond.instanceMethod ({ cls := "FrameHeirsModel", name := "keepText", desc := "()V" } : Jvm.MethodName)) ∈ gw := gw_mem (mT5 (i := 139) rfl) rfl
theorem q1242 : (Jvm.Cond.code ({ cls := "FrameHeirsModel", name := "keepText", desc := "()V" } : Jvm.MethodName) prog_8_method_13_code (2 : Nat) (Option.none : Option Jvm.ClassFile.FieldType)) ∈ gw := gw_mem (mT5 (i := 140) rfl) rfl
theorem q1243 : (Jvm.Cond.methodLink "FrameHeirsModel" (112 : Nat) ({ cls := "FrameHeirsModel", name := "copies", desc := "([II)V" } : Jvm.MethodName)) ∈ gw := gw_mem (mT5 (i := 141) rfl) rfl
theorem q1244 : (Jvm.Cond.static ({ cls := "FrameHeirsModel", name := "copies", desc := "([II)V" } : Jvm.MethodName)) ∈ gw := gw_mem (mT5 (i := 142) rfl) rfl
theorem q1245 : (Jvm.Cond.code ({ cls := "FrameHeirsModel", name := "copies", desc := "([II)V" } : Jvm.MethodName) prog_8_method_12_code (3 : Nat) (Option.none : Option Jvm.ClassFile.FieldType)) ∈ gw := gw_mem (mT5 (i := 143) rfl) rfl
theorem q1246 : (Jvm.Cond.methodLink "FrameHeirsModel" (122 : Nat) ({ cls := "FrameHeirsModel", name := "lay", desc := "(II)V" } : Jvm.MethodName)) ∈ gw := gw_mem (mT5 (i := 144) rfl) rfl
theorem q1248 : (Jvm.Cond.instanceMethod ({ cls := "FrameHeirsModel", name := "lay", desc := "(II)V" } : Jvm.MethodName)) ∈ gw := gw_mem (mT5 (i := 146) rfl) rfl
theorem q1249 : (Jvm.Cond.code ({ cls := "FrameHeirsModel", name := "lay", desc := "(II)V" } : Jvm.MethodName) prog_8_method_31_code (3 : Nat) (Option.none : Option Jvm.ClassFile.FieldType)) ∈ gw := gw_mem (mT5 (i := 147) rfl) rfl
theorem q1250 : (Jvm.Cond.methodLink "FrameHeirsModel" (126 : Nat) ({ cls := "FrameHeirsModel", name := "size", desc := "()I" } : Jvm.MethodName)) ∈ gw := gw_mem (mT5 (i := 148) rfl) rfl
theorem q1252 : (Jvm.Cond.instanceMethod ({ cls := "FrameHeirsModel", name := "size", desc := "()I" } : Jvm.MethodName)) ∈ gw := gw_mem (mT5 (i := 150) rfl) rfl
theorem q1253 : (Jvm.Cond.code ({ cls := "FrameHeirsModel", name := "size", desc := "()I" } : Jvm.MethodName) prog_8_method_37_code (1 : Nat) (Option.some Jvm.ClassFile.FieldType.int)) ∈ gw := gw_mem (mT5 (i := 151) rfl) rfl
theorem q1254 : (Jvm.Cond.methodLink "FrameHeirsModel" (130 : Nat) ({ cls := "FrameHeirsModel", name := "comes", desc := "(IIIIII)V" } : Jvm.MethodName)) ∈ gw := gw_mem (mT5 (i := 152) rfl) rfl
theorem q1256 : (Jvm.Cond.instanceMethod ({ cls := "FrameHeirsModel", name := "comes", desc := "(IIIIII)V" } : Jvm.MethodName)) ∈ gw := gw_mem (mT5 (i := 154) rfl) rfl
theorem q1257 : (Jvm.Cond.code ({ cls := "FrameHeirsModel", name := "comes", desc := "(IIIIII)V" } : Jvm.MethodName) prog_8_method_49_code (8 : Nat) (Option.none : Option Jvm.ClassFile.FieldType)) ∈ gw := gw_mem (mT5 (i := 155) rfl) rfl
theorem q1258 : (Jvm.Cond.methodLink "FrameHeirsModel" (202 : Nat) ({ cls := "FrameHeirsModel", name := "widens", desc := "(I)V" } : Jvm.MethodName)) ∈ gw := gw_mem (mT5 (i := 156) rfl) rfl
theorem q1260 : (Jvm.Cond.instanceMethod ({ cls := "FrameHeirsModel", name := "widens", desc := "(I)V" } : Jvm.MethodName)) ∈ gw := gw_mem (mT5 (i := 158) rfl) rfl
theorem q1261 : (Jvm.Cond.code ({ cls := "FrameHeirsModel", name := "widens", desc := "(I)V" } : Jvm.MethodName) prog_8_method_50_code (2 : Nat) (Option.none : Option Jvm.ClassFile.FieldType)) ∈ gw := gw_mem (mT5 (i := 159) rfl) rfl
theorem q1262 : (Jvm.Cond.methodLink "FrameHeirsModel" (189 : Nat) ({ cls := "FrameHeirsModel", name := "of", desc := "(I)I" } : Jvm.MethodName)) ∈ gw := gw_mem (mT5 (i := 160) rfl) rfl
theorem q1264 : (Jvm.Cond.instanceMethod ({ cls := "FrameHeirsModel", name := "of", desc := "(I)I" } : Jvm.MethodName)) ∈ gw := gw_mem (mT5 (i := 162) rfl) rfl
theorem q1265 : (Jvm.Cond.code ({ cls := "FrameHeirsModel", name := "of", desc := "(I)I" } : Jvm.MethodName) prog_8_method_30_code (2 : Nat) (Option.some Jvm.ClassFile.FieldType.int)) ∈ gw := gw_mem (mT5 (i := 163) rfl) rfl
theorem q1266 : (Jvm.Cond.methodLink "FrameHeirsModel" (206 : Nat) ({ cls := "FrameHeirsModel", name := "linked", desc := "(III)V" } : Jvm.MethodName)) ∈ gw := gw_mem (mT5 (i := 164) rfl) rfl
theorem q1268 : (Jvm.Cond.instanceMethod ({ cls := "FrameHeirsModel", name := "linked", desc := "(III)V" } : Jvm.MethodName)) ∈ gw := gw_mem (mT5 (i := 166) rfl) rfl
theorem q1269 : (Jvm.Cond.code ({ cls := "FrameHeirsModel", name := "linked", desc := "(III)V" } : Jvm.MethodName) prog_8_method_48_code (4 : Nat) (Option.none : Option Jvm.ClassFile.FieldType)) ∈ gw := gw_mem (mT5 (i := 167) rfl) rfl
theorem q1270 : (Jvm.Cond.fieldLink "FrameHeirsModel" (7 : Nat) "FrameHeirsModel" "tape" "[I") ∈ gw := gw_mem (mT5 (i := 168) rfl) rfl
theorem q1271 : (Jvm.Cond.fieldLink "FrameHeirsModel" (64 : Nat) "FrameHeirsModel" "tapeSize" "I") ∈ gw := gw_mem (mT5 (i := 169) rfl) rfl
theorem q1272 : (Jvm.Cond.fieldLink "FrameHeirsModel" (61 : Nat) "FrameHeirsModel" "thrown" "I") ∈ gw := gw_mem (mT5 (i := 170) rfl) rfl
theorem q1273 : (Jvm.Cond.fieldLink "FrameHeirsModel" (13 : Nat) "FrameHeirsModel" "words" "[I") ∈ gw := gw_mem (mT5 (i := 171) rfl) rfl
theorem q1274 : (Jvm.Cond.fieldLink "FrameHeirsModel" (67 : Nat) "FrameHeirsModel" "fault" "I") ∈ gw := gw_mem (mT5 (i := 172) rfl) rfl
theorem q1275 : (Jvm.Cond.fieldLink "FrameHeirsModel" (16 : Nat) "FrameHeirsModel" "faultPlace" "I") ∈ gw := gw_mem (mT5 (i := 173) rfl) rfl
theorem q1276 : (Jvm.Cond.fieldLink "FrameHeirsModel" (73 : Nat) "FrameHeirsModel" "stop" "I") ∈ gw := gw_mem (mT5 (i := 174) rfl) rfl
theorem q1277 : (Jvm.Cond.fieldLink "FrameHeirsModel" (76 : Nat) "FrameHeirsModel" "next" "I") ∈ gw := gw_mem (mT5 (i := 175) rfl) rfl
theorem q1278 : (Jvm.Cond.fieldLink "FrameHeirsModel" (79 : Nat) "FrameHeirsModel" "kind" "I") ∈ gw := gw_mem (mT5 (i := 176) rfl) rfl
theorem q1279 : (Jvm.Cond.fieldLink "FrameHeirsModel" (90 : Nat) "FrameHeirsModel" "which" "I") ∈ gw := gw_mem (mT5 (i := 177) rfl) rfl
theorem q1280 : (Jvm.Cond.fieldLink "FrameHeirsModel" (70 : Nat) "FrameHeirsModel" "at" "I") ∈ gw := gw_mem (mT5 (i := 178) rfl) rfl
theorem q1281 : (Jvm.Cond.fieldLink "FrameHeirsModel" (106 : Nat) "FrameHeirsModel" "spaces" "I") ∈ gw := gw_mem (mT5 (i := 179) rfl) rfl
theorem q1282 : (Jvm.Cond.fieldLink "FrameHeirsModel" (100 : Nat) "FrameHeirsModel" "spacesRead" "I") ∈ gw := gw_mem (mT5 (i := 180) rfl) rfl
theorem q1283 : (Jvm.Cond.fieldLink "FrameHeirsModel" (109 : Nat) "FrameHeirsModel" "steps1" "I") ∈ gw := gw_mem (mT5 (i := 181) rfl) rfl
theorem q1284 : (Jvm.Cond.fieldLink "FrameHeirsModel" (103 : Nat) "FrameHeirsModel" "stepsRead" "I") ∈ gw := gw_mem (mT5 (i := 182) rfl) rfl
theorem q1285 : (Jvm.Cond.fieldLink "FrameHeirsModel" (20 : Nat) "FrameHeirsModel" "name" "[I") ∈ gw := gw_mem (mT5 (i := 183) rfl) rfl
theorem q1286 : (Jvm.Cond.fieldLink "FrameHeirsModel" (23 : Nat) "FrameHeirsModel" "pager" "[I") ∈ gw := gw_mem (mT5 (i := 184) rfl) rfl
theorem q1287 : (Jvm.Cond.fieldLink "FrameHeirsModel" (26 : Nat) "FrameHeirsModel" "way" "[I") ∈ gw := gw_mem (mT5 (i := 185) rfl) rfl
theorem q1288 : (Jvm.Cond.fieldLink "FrameHeirsModel" (29 : Nat) "FrameHeirsModel" "quota" "[I") ∈ gw := gw_mem (mT5 (i := 186) rfl) rfl
theorem q1289 : (Jvm.Cond.fieldLink "FrameHeirsModel" (32 : Nat) "FrameHeirsModel" "told" "[I") ∈ gw := gw_mem (mT5 (i := 187) rfl) rfl
theorem q1290 : (Jvm.Cond.fieldLink "FrameHeirsModel" (35 : Nat) "FrameHeirsModel" "isTold" "[Z") ∈ gw := gw_mem (mT5 (i := 188) rfl) rfl
theorem q1291 : (Jvm.Cond.fieldLink "FrameHeirsModel" (39 : Nat) "FrameHeirsModel" "stepWhat" "[I") ∈ gw := gw_mem (mT5 (i := 189) rfl) rfl
theorem q1292 : (Jvm.Cond.fieldLink "FrameHeirsModel" (42 : Nat) "FrameHeirsModel" "stepBy" "[I") ∈ gw := gw_mem (mT5 (i := 190) rfl) rfl
theorem q1293 : (Jvm.Cond.fieldLink "FrameHeirsModel" (141 : Nat) "FrameHeirsModel" "got" "I") ∈ gw := gw_mem (mT5 (i := 191) rfl) rfl
theorem q1294 : (Jvm.Cond.fieldLink "FrameHeirsModel" (46 : Nat) "FrameHeirsModel" "all" "[I") ∈ gw := gw_mem (mT5 (i := 192) rfl) rfl
theorem q1295 : (Jvm.Cond.fieldLink "FrameHeirsModel" (116 : Nat) "FrameHeirsModel" "bank" "I") ∈ gw := gw_mem (mT5 (i := 193) rfl) rfl
theorem q1296 : (Jvm.Cond.fieldLink "FrameHeirsModel" (119 : Nat) "FrameHeirsModel" "undos" "I") ∈ gw := gw_mem (mT5 (i := 194) rfl) rfl
theorem q1297 : (Jvm.Cond.fieldLink "FrameHeirsModel" (49 : Nat) "FrameHeirsModel" "row" "[I") ∈ gw := gw_mem (mT5 (i := 195) rfl) rfl
theorem q1298 : (Jvm.Cond.fieldLink "FrameHeirsModel" (222 : Nat) "FrameHeirsModel" "rowSize" "I") ∈ gw := gw_mem (mT5 (i := 196) rfl) rfl
theorem q1299 : (Jvm.Cond.fieldLink "FrameHeirsModel" (52 : Nat) "FrameHeirsModel" "there" "[I") ∈ gw := gw_mem (mT5 (i := 197) rfl) rfl
theorem q1300 : (Jvm.Cond.fieldLink "FrameHeirsModel" (255 : Nat) "FrameHeirsModel" "thereMany" "I") ∈ gw := gw_mem (mT5 (i := 198) rfl) rfl
theorem q1301 : (Jvm.Cond.fieldLink "FrameHeirsModel" (472 : Nat) "FrameHeirsModel" "drawn" "J") ∈ gw := gw_mem (mT5 (i := 199) rfl) rfl
theorem q1302 : (Jvm.Cond.laysFinal "FrameHeirsModel" "FrameHeirsModel" "tape" "[I") ∈ gw := gw_mem (mT5 (i := 200) rfl) rfl
theorem q1304 : (Jvm.Cond.lays "FrameHeirsModel" "FrameHeirsModel" "tapeSize" "I") ∈ gw := gw_mem (mT5 (i := 202) rfl) rfl
theorem q1306 : (Jvm.Cond.lays "FrameHeirsModel" "FrameHeirsModel" "thrown" "I") ∈ gw := gw_mem (mT5 (i := 204) rfl) rfl
theorem q1308 : (Jvm.Cond.laysFinal "FrameHeirsModel" "FrameHeirsModel" "words" "[I") ∈ gw := gw_mem (mT5 (i := 206) rfl) rfl
theorem q1310 : (Jvm.Cond.lays "FrameHeirsModel" "FrameHeirsModel" "fault" "I") ∈ gw := gw_mem (mT5 (i := 208) rfl) rfl
theorem q1312 : (Jvm.Cond.lays "FrameHeirsModel" "FrameHeirsModel" "faultPlace" "I") ∈ gw := gw_mem (mT5 (i := 210) rfl) rfl
theorem q1314 : (Jvm.Cond.lays "FrameHeirsModel" "FrameHeirsModel" "stop" "I") ∈ gw := gw_mem (mT5 (i := 212) rfl) rfl
theorem q1316 : (Jvm.Cond.lays "FrameHeirsModel" "FrameHeirsModel" "next" "I") ∈ gw := gw_mem (mT5 (i := 214) rfl) rfl
theorem q1318 : (Jvm.Cond.lays "FrameHeirsModel" "FrameHeirsModel" "kind" "I") ∈ gw := gw_mem (mT5 (i := 216) rfl) rfl
theorem q1320 : (Jvm.Cond.lays "FrameHeirsModel" "FrameHeirsModel" "which" "I") ∈ gw := gw_mem (mT5 (i := 218) rfl) rfl
theorem q1322 : (Jvm.Cond.lays "FrameHeirsModel" "FrameHeirsModel" "at" "I") ∈ gw := gw_mem (mT5 (i := 220) rfl) rfl
theorem q1324 : (Jvm.Cond.lays "FrameHeirsModel" "FrameHeirsModel" "spaces" "I") ∈ gw := gw_mem (mT5 (i := 222) rfl) rfl
theorem q1326 : (Jvm.Cond.lays "FrameHeirsModel" "FrameHeirsModel" "spacesRead" "I") ∈ gw := gw_mem (mT5 (i := 224) rfl) rfl
theorem q1328 : (Jvm.Cond.lays "FrameHeirsModel" "FrameHeirsModel" "steps1" "I") ∈ gw := gw_mem (mT5 (i := 226) rfl) rfl
theorem q1330 : (Jvm.Cond.lays "FrameHeirsModel" "FrameHeirsModel" "stepsRead" "I") ∈ gw := gw_mem (mT5 (i := 228) rfl) rfl
theorem q1332 : (Jvm.Cond.laysFinal "FrameHeirsModel" "FrameHeirsModel" "name" "[I") ∈ gw := gw_mem (mT5 (i := 230) rfl) rfl
theorem q1334 : (Jvm.Cond.laysFinal "FrameHeirsModel" "FrameHeirsModel" "pager" "[I") ∈ gw := gw_mem (mT5 (i := 232) rfl) rfl
theorem q1336 : (Jvm.Cond.laysFinal "FrameHeirsModel" "FrameHeirsModel" "way" "[I") ∈ gw := gw_mem (mT5 (i := 234) rfl) rfl
theorem q1338 : (Jvm.Cond.laysFinal "FrameHeirsModel" "FrameHeirsModel" "quota" "[I") ∈ gw := gw_mem (mT5 (i := 236) rfl) rfl
theorem q1340 : (Jvm.Cond.laysFinal "FrameHeirsModel" "FrameHeirsModel" "told" "[I") ∈ gw := gw_mem (mT5 (i := 238) rfl) rfl
theorem q1342 : (Jvm.Cond.laysFinal "FrameHeirsModel" "FrameHeirsModel" "isTold" "[Z") ∈ gw := gw_mem (mT6 (i := 0) rfl) rfl
theorem q1344 : (Jvm.Cond.laysFinal "FrameHeirsModel" "FrameHeirsModel" "stepWhat" "[I") ∈ gw := gw_mem (mT6 (i := 2) rfl) rfl
theorem q1346 : (Jvm.Cond.laysFinal "FrameHeirsModel" "FrameHeirsModel" "stepBy" "[I") ∈ gw := gw_mem (mT6 (i := 4) rfl) rfl
theorem q1348 : (Jvm.Cond.lays "FrameHeirsModel" "FrameHeirsModel" "got" "I") ∈ gw := gw_mem (mT6 (i := 6) rfl) rfl
theorem q1350 : (Jvm.Cond.laysFinal "FrameHeirsModel" "FrameHeirsModel" "all" "[I") ∈ gw := gw_mem (mT6 (i := 8) rfl) rfl
theorem q1352 : (Jvm.Cond.lays "FrameHeirsModel" "FrameHeirsModel" "bank" "I") ∈ gw := gw_mem (mT6 (i := 10) rfl) rfl
theorem q1354 : (Jvm.Cond.lays "FrameHeirsModel" "FrameHeirsModel" "undos" "I") ∈ gw := gw_mem (mT6 (i := 12) rfl) rfl
theorem q1356 : (Jvm.Cond.laysFinal "FrameHeirsModel" "FrameHeirsModel" "row" "[I") ∈ gw := gw_mem (mT6 (i := 14) rfl) rfl
theorem q1358 : (Jvm.Cond.lays "FrameHeirsModel" "FrameHeirsModel" "rowSize" "I") ∈ gw := gw_mem (mT6 (i := 16) rfl) rfl
theorem q1360 : (Jvm.Cond.laysFinal "FrameHeirsModel" "FrameHeirsModel" "there" "[I") ∈ gw := gw_mem (mT6 (i := 18) rfl) rfl
theorem q1362 : (Jvm.Cond.lays "FrameHeirsModel" "FrameHeirsModel" "thereMany" "I") ∈ gw := gw_mem (mT6 (i := 20) rfl) rfl
theorem q1364 : (Jvm.Cond.lays "FrameHeirsModel" "FrameHeirsModel" "drawn" "J") ∈ gw := gw_mem (mT6 (i := 22) rfl) rfl
theorem q1367 : (Jvm.Cond.arrayClass Jvm.ClassFile.FieldType.boolean) ∈ gw := gw_mem (mT6 (i := 25) rfl) rfl
theorem q1368 : (Jvm.Cond.methodLink "FrameHeirsLaw" (92 : Nat) ({ cls := "FrameHeirsModel", name := "thrown", desc := "()I" } : Jvm.MethodName)) ∈ gw := gw_mem (mT6 (i := 26) rfl) rfl
theorem q1369 : (Jvm.Cond.instanceMethod ({ cls := "FrameHeirsModel", name := "thrown", desc := "()I" } : Jvm.MethodName)) ∈ gw := gw_mem (mT6 (i := 27) rfl) rfl
theorem q1370 : (Jvm.Cond.selects "FrameHeirsModel" ({ cls := "FrameHeirsModel", name := "thrown", desc := "()I" } : Jvm.MethodName) ({ cls := "FrameHeirsModel", name := "thrown", desc := "()I" } : Jvm.MethodName)) ∈ gw := gw_mem (mT6 (i := 28) rfl) rfl
theorem q1371 : (Jvm.Cond.code ({ cls := "FrameHeirsModel", name := "thrown", desc := "()I" } : Jvm.MethodName) prog_8_method_2_code (1 : Nat) (Option.some Jvm.ClassFile.FieldType.int)) ∈ gw := gw_mem (mT6 (i := 29) rfl) rfl
theorem q1372 : (Jvm.Cond.methodLink "FrameHeirsLaw" (25 : Nat) ({ cls := "FrameHeirsModel", name := "feed", desc := "(IIIII)I" } : Jvm.MethodName)) ∈ gw := gw_mem (mT6 (i := 30) rfl) rfl
theorem q1373 : (Jvm.Cond.instanceMethod ({ cls := "FrameHeirsModel", name := "feed", desc := "(IIIII)I" } : Jvm.MethodName)) ∈ gw := gw_mem (mT6 (i := 31) rfl) rfl
theorem q1374 : (Jvm.Cond.selects "FrameHeirsModel" ({ cls := "FrameHeirsModel", name := "feed", desc := "(IIIII)I" } : Jvm.MethodName) ({ cls := "FrameHeirsModel", name := "feed", desc := "(IIIII)I" } : Jvm.MethodName)) ∈ gw := gw_mem (mT6 (i := 32) rfl) rfl
theorem q1375 : (Jvm.Cond.code ({ cls := "FrameHeirsModel", name := "feed", desc := "(IIIII)I" } : Jvm.MethodName) prog_8_method_3_code (8 : Nat) (Option.some Jvm.ClassFile.FieldType.int)) ∈ gw := gw_mem (mT6 (i := 33) rfl) rfl
theorem q1376 : (Jvm.Cond.methodLink "FrameHeirsLaw" (30 : Nat) ({ cls := "FrameHeirsModel", name := "text", desc := "(I)I" } : Jvm.MethodName)) ∈ gw := gw_mem (mT6 (i := 34) rfl) rfl
theorem q1377 : (Jvm.Cond.instanceMethod ({ cls := "FrameHeirsModel", name := "text", desc := "(I)I" } : Jvm.MethodName)) ∈ gw := gw_mem (mT6 (i := 35) rfl) rfl
theorem q1378 : (Jvm.Cond.selects "FrameHeirsModel" ({ cls := "FrameHeirsModel", name := "text", desc := "(I)I" } : Jvm.MethodName) ({ cls := "FrameHeirsModel", name := "text", desc := "(I)I" } : Jvm.MethodName)) ∈ gw := gw_mem (mT6 (i := 36) rfl) rfl
theorem q1379 : (Jvm.Cond.code ({ cls := "FrameHeirsModel", name := "text", desc := "(I)I" } : Jvm.MethodName) prog_8_method_27_code (3 : Nat) (Option.some Jvm.ClassFile.FieldType.int)) ∈ gw := gw_mem (mT6 (i := 37) rfl) rfl
theorem q1380 : (Jvm.Cond.methodLink "FrameHeirsModel" (144 : Nat) ({ cls := "FrameHeirsModel", name := "token", desc := "()V" } : Jvm.MethodName)) ∈ gw := gw_mem (mT6 (i := 38) rfl) rfl
theorem q1382 : (Jvm.Cond.instanceMethod ({ cls := "FrameHeirsModel", name := "token", desc := "()V" } : Jvm.MethodName)) ∈ gw := gw_mem (mT6 (i := 40) rfl) rfl
theorem q1383 : (Jvm.Cond.code ({ cls := "FrameHeirsModel", name := "token", desc := "()V" } : Jvm.MethodName) prog_8_method_9_code (1 : Nat) (Option.none : Option Jvm.ClassFile.FieldType)) ∈ gw := gw_mem (mT6 (i := 41) rfl) rfl
theorem q1384 : (Jvm.Cond.methodLink "FrameHeirsModel" (82 : Nat) ({ cls := "FrameHeirsModel", name := "isSmall", desc := "(I)Z" } : Jvm.MethodName)) ∈ gw := gw_mem (mT6 (i := 42) rfl) rfl
theorem q1386 : (Jvm.Cond.instanceMethod ({ cls := "FrameHeirsModel", name := "isSmall", desc := "(I)Z" } : Jvm.MethodName)) ∈ gw := gw_mem (mT6 (i := 44) rfl) rfl
theorem q1387 : (Jvm.Cond.code ({ cls := "FrameHeirsModel", name := "isSmall", desc := "(I)Z" } : Jvm.MethodName) prog_8_method_7_code (2 : Nat) (Option.some Jvm.ClassFile.FieldType.boolean)) ∈ gw := gw_mem (mT6 (i := 45) rfl) rfl
theorem q1388 : (Jvm.Cond.methodLink "FrameHeirsModel" (86 : Nat) ({ cls := "FrameHeirsModel", name := "wordAt", desc := "(II)I" } : Jvm.MethodName)) ∈ gw := gw_mem (mT6 (i := 46) rfl) rfl
theorem q1390 : (Jvm.Cond.instanceMethod ({ cls := "FrameHeirsModel", name := "wordAt", desc := "(II)I" } : Jvm.MethodName)) ∈ gw := gw_mem (mT6 (i := 48) rfl) rfl
theorem q1391 : (Jvm.Cond.code ({ cls := "FrameHeirsModel", name := "wordAt", desc := "(II)I" } : Jvm.MethodName) prog_8_method_6_code (8 : Nat) (Option.some Jvm.ClassFile.FieldType.int)) ∈ gw := gw_mem (mT6 (i := 49) rfl) rfl
theorem q1392 : (Jvm.Cond.methodLink "FrameHeirsModel" (93 : Nat) ({ cls := "FrameHeirsModel", name := "packed", desc := "(II)I" } : Jvm.MethodName)) ∈ gw := gw_mem (mT6 (i := 50) rfl) rfl
theorem q1394 : (Jvm.Cond.instanceMethod ({ cls := "FrameHeirsModel", name := "packed", desc := "(II)I" } : Jvm.MethodName)) ∈ gw := gw_mem (mT6 (i := 52) rfl) rfl
theorem q1395 : (Jvm.Cond.code ({ cls := "FrameHeirsModel", name := "packed", desc := "(II)I" } : Jvm.MethodName) prog_8_method_10_code (5 : Nat) (Option.some Jvm.ClassFile.FieldType.int)) ∈ gw := gw_mem (mT6 (i := 53) rfl) rfl
theorem q1396 : (Jvm.Cond.methodLink "FrameHeirsModel" (96 : Nat) ({ cls := "FrameHeirsModel", name := "isDigit", desc := "(I)Z" } : Jvm.MethodName)) ∈ gw := gw_mem (mT6 (i := 54) rfl) rfl
theorem q1398 : (Jvm.Cond.instanceMethod ({ cls := "FrameHeirsModel", name := "isDigit", desc := "(I)Z" } : Jvm.MethodName)) ∈ gw := gw_mem (mT6 (i := 56) rfl) rfl
theorem q1399 : (Jvm.Cond.code ({ cls := "FrameHeirsModel", name := "isDigit", desc := "(I)Z" } : Jvm.MethodName) prog_8_method_8_code (2 : Nat) (Option.some Jvm.ClassFile.FieldType.boolean)) ∈ gw := gw_mem (mT6 (i := 57) rfl) rfl
theorem q1400 : (Jvm.Cond.constant "FrameHeirsModel" (99 : Nat) (99999 : Int32)) ∈ gw := gw_mem (mT6 (i := 58) rfl) rfl
theorem q1401 : (Jvm.Cond.methodLink "FrameHeirsModel" (186 : Nat) ({ cls := "FrameHeirsModel", name := "lineRead", desc := "()Z" } : Jvm.MethodName)) ∈ gw := gw_mem (mT6 (i := 59) rfl) rfl
theorem q1403 : (Jvm.Cond.instanceMethod ({ cls := "FrameHeirsModel", name := "lineRead", desc := "()Z" } : Jvm.MethodName)) ∈ gw := gw_mem (mT6 (i := 61) rfl) rfl
theorem q1404 : (Jvm.Cond.code ({ cls := "FrameHeirsModel", name := "lineRead", desc := "()Z" } : Jvm.MethodName) prog_8_method_26_code (2 : Nat) (Option.some Jvm.ClassFile.FieldType.boolean)) ∈ gw := gw_mem (mT6 (i := 62) rfl) rfl
theorem q1405 : (Jvm.Cond.methodLink "FrameHeirsModel" (134 : Nat) ({ cls := "FrameHeirsModel", name := "wrong", desc := "(I)Z" } : Jvm.MethodName)) ∈ gw := gw_mem (mT6 (i := 63) rfl) rfl
theorem q1407 : (Jvm.Cond.instanceMethod ({ cls := "FrameHeirsModel", name := "wrong", desc := "(I)Z" } : Jvm.MethodName)) ∈ gw := gw_mem (mT6 (i := 65) rfl) rfl
theorem q1408 : (Jvm.Cond.code ({ cls := "FrameHeirsModel", name := "wrong", desc := "(I)Z" } : Jvm.MethodName) prog_8_method_5_code (2 : Nat) (Option.some Jvm.ClassFile.FieldType.boolean)) ∈ gw := gw_mem (mT6 (i := 66) rfl) rfl
theorem q1409 : (Jvm.Cond.methodLink "FrameHeirsModel" (168 : Nat) ({ cls := "FrameHeirsModel", name := "spaceLine", desc := "()Z" } : Jvm.MethodName)) ∈ gw := gw_mem (mT6 (i := 67) rfl) rfl
theorem q1411 : (Jvm.Cond.instanceMethod ({ cls := "FrameHeirsModel", name := "spaceLine", desc := "()Z" } : Jvm.MethodName)) ∈ gw := gw_mem (mT6 (i := 69) rfl) rfl
theorem q1412 : (Jvm.Cond.code ({ cls := "FrameHeirsModel", name := "spaceLine", desc := "()Z" } : Jvm.MethodName) prog_8_method_17_code (1 : Nat) (Option.some Jvm.ClassFile.FieldType.boolean)) ∈ gw := gw_mem (mT6 (i := 70) rfl) rfl
theorem q1413 : (Jvm.Cond.methodLink "FrameHeirsModel" (147 : Nat) ({ cls := "FrameHeirsModel", name := "find", desc := "(III)I" } : Jvm.MethodName)) ∈ gw := gw_mem (mT6 (i := 71) rfl) rfl
theorem q1415 : (Jvm.Cond.instanceMethod ({ cls := "FrameHeirsModel", name := "find", desc := "(III)I" } : Jvm.MethodName)) ∈ gw := gw_mem (mT6 (i := 73) rfl) rfl
theorem q1416 : (Jvm.Cond.code ({ cls := "FrameHeirsModel", name := "find", desc := "(III)I" } : Jvm.MethodName) prog_8_method_14_code (5 : Nat) (Option.some Jvm.ClassFile.FieldType.int)) ∈ gw := gw_mem (mT6 (i := 74) rfl) rfl
theorem q1417 : (Jvm.Cond.methodLink "FrameHeirsModel" (171 : Nat) ({ cls := "FrameHeirsModel", name := "pagerLine", desc := "()Z" } : Jvm.MethodName)) ∈ gw := gw_mem (mT6 (i := 75) rfl) rfl
theorem q1419 : (Jvm.Cond.instanceMethod ({ cls := "FrameHeirsModel", name := "pagerLine", desc := "()Z" } : Jvm.MethodName)) ∈ gw := gw_mem (mT6 (i := 77) rfl) rfl
theorem q1420 : (Jvm.Cond.code ({ cls := "FrameHeirsModel", name := "pagerLine", desc := "()Z" } : Jvm.MethodName) prog_8_method_18_code (2 : Nat) (Option.some Jvm.ClassFile.FieldType.boolean)) ∈ gw := gw_mem (mT6 (i := 78) rfl) rfl
theorem q1421 : (Jvm.Cond.methodLink "FrameHeirsModel" (151 : Nat) ({ cls := "FrameHeirsModel", name := "spaceRead", desc := "()Z" } : Jvm.MethodName)) ∈ gw := gw_mem (mT6 (i := 79) rfl) rfl
theorem q1423 : (Jvm.Cond.instanceMethod ({ cls := "FrameHeirsModel", name := "spaceRead", desc := "()Z" } : Jvm.MethodName)) ∈ gw := gw_mem (mT6 (i := 81) rfl) rfl
theorem q1424 : (Jvm.Cond.code ({ cls := "FrameHeirsModel", name := "spaceRead", desc := "()Z" } : Jvm.MethodName) prog_8_method_16_code (1 : Nat) (Option.some Jvm.ClassFile.FieldType.boolean)) ∈ gw := gw_mem (mT6 (i := 82) rfl) rfl
theorem q1425 : (Jvm.Cond.methodLink "FrameHeirsModel" (155 : Nat) ({ cls := "FrameHeirsModel", name := "number", desc := "(II)Z" } : Jvm.MethodName)) ∈ gw := gw_mem (mT6 (i := 83) rfl) rfl
theorem q1427 : (Jvm.Cond.instanceMethod ({ cls := "FrameHeirsModel", name := "number", desc := "(II)Z" } : Jvm.MethodName)) ∈ gw := gw_mem (mT6 (i := 85) rfl) rfl
theorem q1428 : (Jvm.Cond.code ({ cls := "FrameHeirsModel", name := "number", desc := "(II)Z" } : Jvm.MethodName) prog_8_method_15_code (3 : Nat) (Option.some Jvm.ClassFile.FieldType.boolean)) ∈ gw := gw_mem (mT6 (i := 86) rfl) rfl
theorem q1429 : (Jvm.Cond.methodLink "FrameHeirsModel" (137 : Nat) ({ cls := "FrameHeirsModel", name := "isIn", desc := "(III)Z" } : Jvm.MethodName)) ∈ gw := gw_mem (mT6 (i := 87) rfl) rfl
theorem q1430 : (Jvm.Cond.static ({ cls := "FrameHeirsModel", name := "isIn", desc := "(III)Z" } : Jvm.MethodName)) ∈ gw := gw_mem (mT6 (i := 88) rfl) rfl
theorem q1431 : (Jvm.Cond.code ({ cls := "FrameHeirsModel", name := "isIn", desc := "(III)Z" } : Jvm.MethodName) prog_8_method_4_code (3 : Nat) (Option.some Jvm.ClassFile.FieldType.boolean)) ∈ gw := gw_mem (mT6 (i := 89) rfl) rfl
theorem q1432 : (Jvm.Cond.methodLink "FrameHeirsModel" (174 : Nat) ({ cls := "FrameHeirsModel", name := "quotaLine", desc := "()Z" } : Jvm.MethodName)) ∈ gw := gw_mem (mT6 (i := 90) rfl) rfl
theorem q1434 : (Jvm.Cond.instanceMethod ({ cls := "FrameHeirsModel", name := "quotaLine", desc := "()Z" } : Jvm.MethodName)) ∈ gw := gw_mem (mT6 (i := 92) rfl) rfl
theorem q1435 : (Jvm.Cond.code ({ cls := "FrameHeirsModel", name := "quotaLine", desc := "()Z" } : Jvm.MethodName) prog_8_method_19_code (2 : Nat) (Option.some Jvm.ClassFile.FieldType.boolean)) ∈ gw := gw_mem (mT6 (i := 93) rfl) rfl
theorem q1436 : (Jvm.Cond.methodLink "FrameHeirsModel" (177 : Nat) ({ cls := "FrameHeirsModel", name := "sizeLine", desc := "()Z" } : Jvm.MethodName)) ∈ gw := gw_mem (mT6 (i := 94) rfl) rfl
theorem q1438 : (Jvm.Cond.instanceMethod ({ cls := "FrameHeirsModel", name := "sizeLine", desc := "()Z" } : Jvm.MethodName)) ∈ gw := gw_mem (mT6 (i := 96) rfl) rfl
theorem q1439 : (Jvm.Cond.code ({ cls := "FrameHeirsModel", name := "sizeLine", desc := "()Z" } : Jvm.MethodName) prog_8_method_21_code (2 : Nat) (Option.some Jvm.ClassFile.FieldType.boolean)) ∈ gw := gw_mem (mT6 (i := 97) rfl) rfl
theorem q1440 : (Jvm.Cond.methodLink "FrameHeirsModel" (180 : Nat) ({ cls := "FrameHeirsModel", name := "wordLine", desc := "()Z" } : Jvm.MethodName)) ∈ gw := gw_mem (mT6 (i := 98) rfl) rfl
theorem q1442 : (Jvm.Cond.instanceMethod ({ cls := "FrameHeirsModel", name := "wordLine", desc := "()Z" } : Jvm.MethodName)) ∈ gw := gw_mem (mT6 (i := 100) rfl) rfl
theorem q1443 : (Jvm.Cond.code ({ cls := "FrameHeirsModel", name := "wordLine", desc := "()Z" } : Jvm.MethodName) prog_8_method_20_code (3 : Nat) (Option.some Jvm.ClassFile.FieldType.boolean)) ∈ gw := gw_mem (mT6 (i := 101) rfl) rfl
theorem q1444 : (Jvm.Cond.methodLink "FrameHeirsModel" (183 : Nat) ({ cls := "FrameHeirsModel", name := "stepLine", desc := "()Z" } : Jvm.MethodName)) ∈ gw := gw_mem (mT6 (i := 102) rfl) rfl
theorem q1446 : (Jvm.Cond.instanceMethod ({ cls := "FrameHeirsModel", name := "stepLine", desc := "()Z" } : Jvm.MethodName)) ∈ gw := gw_mem (mT6 (i := 104) rfl) rfl
theorem q1447 : (Jvm.Cond.code ({ cls := "FrameHeirsModel", name := "stepLine", desc := "()Z" } : Jvm.MethodName) prog_8_method_25_code (3 : Nat) (Option.some Jvm.ClassFile.FieldType.boolean)) ∈ gw := gw_mem (mT6 (i := 105) rfl) rfl
theorem q1448 : (Jvm.Cond.methodLink "FrameHeirsModel" (162 : Nat) ({ cls := "FrameHeirsModel", name := "stepSpace", desc := "(I)Z" } : Jvm.MethodName)) ∈ gw := gw_mem (mT6 (i := 106) rfl) rfl
theorem q1450 : (Jvm.Cond.instanceMethod ({ cls := "FrameHeirsModel", name := "stepSpace", desc := "(I)Z" } : Jvm.MethodName)) ∈ gw := gw_mem (mT6 (i := 108) rfl) rfl
theorem q1451 : (Jvm.Cond.code ({ cls := "FrameHeirsModel", name := "stepSpace", desc := "(I)Z" } : Jvm.MethodName) prog_8_method_23_code (2 : Nat) (Option.some Jvm.ClassFile.FieldType.boolean)) ∈ gw := gw_mem (mT6 (i := 109) rfl) rfl
theorem q1452 : (Jvm.Cond.methodLink "FrameHeirsModel" (165 : Nat) ({ cls := "FrameHeirsModel", name := "passing", desc := "(I)Z" } : Jvm.MethodName)) ∈ gw := gw_mem (mT6 (i := 110) rfl) rfl
theorem q1454 : (Jvm.Cond.instanceMethod ({ cls := "FrameHeirsModel", name := "passing", desc := "(I)Z" } : Jvm.MethodName)) ∈ gw := gw_mem (mT6 (i := 112) rfl) rfl
theorem q1455 : (Jvm.Cond.code ({ cls := "FrameHeirsModel", name := "passing", desc := "(I)Z" } : Jvm.MethodName) prog_8_method_24_code (2 : Nat) (Option.some Jvm.ClassFile.FieldType.boolean)) ∈ gw := gw_mem (mT6 (i := 113) rfl) rfl
theorem q1456 : (Jvm.Cond.methodLink "FrameHeirsModel" (159 : Nat) ({ cls := "FrameHeirsModel", name := "stepNumber", desc := "(III)Z" } : Jvm.MethodName)) ∈ gw := gw_mem (mT6 (i := 114) rfl) rfl
theorem q1458 : (Jvm.Cond.instanceMethod ({ cls := "FrameHeirsModel", name := "stepNumber", desc := "(III)Z" } : Jvm.MethodName)) ∈ gw := gw_mem (mT6 (i := 116) rfl) rfl
theorem q1459 : (Jvm.Cond.code ({ cls := "FrameHeirsModel", name := "stepNumber", desc := "(III)Z" } : Jvm.MethodName) prog_8_method_22_code (4 : Nat) (Option.some Jvm.ClassFile.FieldType.boolean)) ∈ gw := gw_mem (mT6 (i := 117) rfl) rfl
theorem q1460 : (Jvm.Cond.methodLink "FrameHeirsLaw" (34 : Nat) ({ cls := "FrameHeirsModel", name := "fault", desc := "(I)I" } : Jvm.MethodName)) ∈ gw := gw_mem (mT6 (i := 118) rfl) rfl
theorem q1461 : (Jvm.Cond.instanceMethod ({ cls := "FrameHeirsModel", name := "fault", desc := "(I)I" } : Jvm.MethodName)) ∈ gw := gw_mem (mT6 (i := 119) rfl) rfl
theorem q1462 : (Jvm.Cond.selects "FrameHeirsModel" ({ cls := "FrameHeirsModel", name := "fault", desc := "(I)I" } : Jvm.MethodName) ({ cls := "FrameHeirsModel", name := "fault", desc := "(I)I" } : Jvm.MethodName)) ∈ gw := gw_mem (mT6 (i := 120) rfl) rfl
theorem q1463 : (Jvm.Cond.code ({ cls := "FrameHeirsModel", name := "fault", desc := "(I)I" } : Jvm.MethodName) prog_8_method_28_code (2 : Nat) (Option.some Jvm.ClassFile.FieldType.int)) ∈ gw := gw_mem (mT6 (i := 121) rfl) rfl
theorem q1464 : (Jvm.Cond.methodLink "FrameHeirsLaw" (38 : Nat) ({ cls := "FrameHeirsModel", name := "named", desc := "(I)I" } : Jvm.MethodName)) ∈ gw := gw_mem (mT6 (i := 122) rfl) rfl
theorem q1465 : (Jvm.Cond.instanceMethod ({ cls := "FrameHeirsModel", name := "named", desc := "(I)I" } : Jvm.MethodName)) ∈ gw := gw_mem (mT6 (i := 123) rfl) rfl
theorem q1466 : (Jvm.Cond.selects "FrameHeirsModel" ({ cls := "FrameHeirsModel", name := "named", desc := "(I)I" } : Jvm.MethodName) ({ cls := "FrameHeirsModel", name := "named", desc := "(I)I" } : Jvm.MethodName)) ∈ gw := gw_mem (mT6 (i := 124) rfl) rfl
theorem q1467 : (Jvm.Cond.code ({ cls := "FrameHeirsModel", name := "named", desc := "(I)I" } : Jvm.MethodName) prog_8_method_29_code (2 : Nat) (Option.some Jvm.ClassFile.FieldType.int)) ∈ gw := gw_mem (mT6 (i := 125) rfl) rfl
theorem q1468 : (Jvm.Cond.methodLink "FrameHeirsLaw" (183 : Nat) ({ cls := "FrameHeirsModel", name := "undo", desc := "()I" } : Jvm.MethodName)) ∈ gw := gw_mem (mT6 (i := 126) rfl) rfl
theorem q1469 : (Jvm.Cond.instanceMethod ({ cls := "FrameHeirsModel", name := "undo", desc := "()I" } : Jvm.MethodName)) ∈ gw := gw_mem (mT6 (i := 127) rfl) rfl
theorem q1470 : (Jvm.Cond.selects "FrameHeirsModel" ({ cls := "FrameHeirsModel", name := "undo", desc := "()I" } : Jvm.MethodName) ({ cls := "FrameHeirsModel", name := "undo", desc := "()I" } : Jvm.MethodName)) ∈ gw := gw_mem (mT6 (i := 128) rfl) rfl
theorem q1471 : (Jvm.Cond.code ({ cls := "FrameHeirsModel", name := "undo", desc := "()I" } : Jvm.MethodName) prog_8_method_36_code (1 : Nat) (Option.some Jvm.ClassFile.FieldType.int)) ∈ gw := gw_mem (mT6 (i := 129) rfl) rfl
theorem q1472 : (Jvm.Cond.methodLink "FrameHeirsModel" (193 : Nat) ({ cls := "FrameHeirsModel", name := "copyBank", desc := "(II)V" } : Jvm.MethodName)) ∈ gw := gw_mem (mT6 (i := 130) rfl) rfl
theorem q1474 : (Jvm.Cond.instanceMethod ({ cls := "FrameHeirsModel", name := "copyBank", desc := "(II)V" } : Jvm.MethodName)) ∈ gw := gw_mem (mT6 (i := 132) rfl) rfl
theorem q1475 : (Jvm.Cond.code ({ cls := "FrameHeirsModel", name := "copyBank", desc := "(II)V" } : Jvm.MethodName) prog_8_method_33_code (4 : Nat) (Option.none : Option Jvm.ClassFile.FieldType)) ∈ gw := gw_mem (mT6 (i := 133) rfl) rfl
theorem q1476 : (Jvm.Cond.methodLink "FrameHeirsLaw" (42 : Nat) ({ cls := "FrameHeirsModel", name := "map", desc := "(IIIII)I" } : Jvm.MethodName)) ∈ gw := gw_mem (mT6 (i := 134) rfl) rfl
theorem q1477 : (Jvm.Cond.instanceMethod ({ cls := "FrameHeirsModel", name := "map", desc := "(IIIII)I" } : Jvm.MethodName)) ∈ gw := gw_mem (mT6 (i := 135) rfl) rfl
theorem q1478 : (Jvm.Cond.selects "FrameHeirsModel" ({ cls := "FrameHeirsModel", name := "map", desc := "(IIIII)I" } : Jvm.MethodName) ({ cls := "FrameHeirsModel", name := "map", desc := "(IIIII)I" } : Jvm.MethodName)) ∈ gw := gw_mem (mT6 (i := 136) rfl) rfl
theorem q1479 : (Jvm.Cond.code ({ cls := "FrameHeirsModel", name := "map", desc := "(IIIII)I" } : Jvm.MethodName) prog_8_method_71_code (6 : Nat) (Option.some Jvm.ClassFile.FieldType.int)) ∈ gw := gw_mem (mT6 (i := 137) rfl) rfl
theorem q1480 : (Jvm.Cond.methodLink "FrameHeirsModel" (285 : Nat) ({ cls := "FrameHeirsModel", name := "isPassing", desc := "(IIII)Z" } : Jvm.MethodName)) ∈ gw := gw_mem (mT6 (i := 138) rfl) rfl
theorem q1482 : (Jvm.Cond.instanceMethod ({ cls := "FrameHeirsModel", name := "isPassing", desc := "(IIII)Z" } : Jvm.MethodName)) ∈ gw := gw_mem (mT6 (i := 140) rfl) rfl
theorem q1483 : (Jvm.Cond.code ({ cls := "FrameHeirsModel", name := "isPassing", desc := "(IIII)Z" } : Jvm.MethodName) prog_8_method_69_code (5 : Nat) (Option.some Jvm.ClassFile.FieldType.boolean)) ∈ gw := gw_mem (mT6 (i := 141) rfl) rfl
theorem q1484 : (Jvm.Cond.methodLink "FrameHeirsModel" (264 : Nat) ({ cls := "FrameHeirsModel", name := "isSpace", desc := "(I)Z" } : Jvm.MethodName)) ∈ gw := gw_mem (mT6 (i := 142) rfl) rfl
theorem q1486 : (Jvm.Cond.instanceMethod ({ cls := "FrameHeirsModel", name := "isSpace", desc := "(I)Z" } : Jvm.MethodName)) ∈ gw := gw_mem (mT6 (i := 144) rfl) rfl
theorem q1487 : (Jvm.Cond.code ({ cls := "FrameHeirsModel", name := "isSpace", desc := "(I)Z" } : Jvm.MethodName) prog_8_method_38_code (2 : Nat) (Option.some Jvm.ClassFile.FieldType.boolean)) ∈ gw := gw_mem (mT6 (i := 145) rfl) rfl
theorem q1488 : (Jvm.Cond.methodLink "FrameHeirsModel" (267 : Nat) ({ cls := "FrameHeirsModel", name := "isRegion", desc := "(I)Z" } : Jvm.MethodName)) ∈ gw := gw_mem (mT6 (i := 146) rfl) rfl
theorem q1490 : (Jvm.Cond.instanceMethod ({ cls := "FrameHeirsModel", name := "isRegion", desc := "(I)Z" } : Jvm.MethodName)) ∈ gw := gw_mem (mT6 (i := 148) rfl) rfl
theorem q1491 : (Jvm.Cond.code ({ cls := "FrameHeirsModel", name := "isRegion", desc := "(I)Z" } : Jvm.MethodName) prog_8_method_61_code (3 : Nat) (Option.some Jvm.ClassFile.FieldType.boolean)) ∈ gw := gw_mem (mT6 (i := 149) rfl) rfl
theorem q1492 : (Jvm.Cond.methodLink "FrameHeirsModel" (249 : Nat) ({ cls := "FrameHeirsModel", name := "isFit", desc := "(II)Z" } : Jvm.MethodName)) ∈ gw := gw_mem (mT6 (i := 150) rfl) rfl
theorem q1494 : (Jvm.Cond.instanceMethod ({ cls := "FrameHeirsModel", name := "isFit", desc := "(II)Z" } : Jvm.MethodName)) ∈ gw := gw_mem (mT6 (i := 152) rfl) rfl
theorem q1495 : (Jvm.Cond.code ({ cls := "FrameHeirsModel", name := "isFit", desc := "(II)Z" } : Jvm.MethodName) prog_8_method_62_code (3 : Nat) (Option.some Jvm.ClassFile.FieldType.boolean)) ∈ gw := gw_mem (mT6 (i := 153) rfl) rfl
theorem q1496 : (Jvm.Cond.methodLink "FrameHeirsModel" (252 : Nat) ({ cls := "FrameHeirsModel", name := "isPlace", desc := "(I)Z" } : Jvm.MethodName)) ∈ gw := gw_mem (mT6 (i := 154) rfl) rfl
theorem q1498 : (Jvm.Cond.instanceMethod ({ cls := "FrameHeirsModel", name := "isPlace", desc := "(I)Z" } : Jvm.MethodName)) ∈ gw := gw_mem (mT6 (i := 156) rfl) rfl
theorem q1499 : (Jvm.Cond.code ({ cls := "FrameHeirsModel", name := "isPlace", desc := "(I)Z" } : Jvm.MethodName) prog_8_method_39_code (2 : Nat) (Option.some Jvm.ClassFile.FieldType.boolean)) ∈ gw := gw_mem (mT6 (i := 157) rfl) rfl
theorem q1500 : (Jvm.Cond.methodLink "FrameHeirsModel" (289 : Nat) ({ cls := "FrameHeirsModel", name := "canUndo", desc := "()V" } : Jvm.MethodName)) ∈ gw := gw_mem (mT6 (i := 158) rfl) rfl
theorem q1502 : (Jvm.Cond.instanceMethod ({ cls := "FrameHeirsModel", name := "canUndo", desc := "()V" } : Jvm.MethodName)) ∈ gw := gw_mem (mT6 (i := 160) rfl) rfl
theorem q1503 : (Jvm.Cond.code ({ cls := "FrameHeirsModel", name := "canUndo", desc := "()V" } : Jvm.MethodName) prog_8_method_35_code (2 : Nat) (Option.none : Option Jvm.ClassFile.FieldType)) ∈ gw := gw_mem (mT6 (i := 161) rfl) rfl
theorem q1504 : (Jvm.Cond.methodLink "FrameHeirsModel" (292 : Nat) ({ cls := "FrameHeirsModel", name := "mapped", desc := "(IIIII)I" } : Jvm.MethodName)) ∈ gw := gw_mem (mT6 (i := 162) rfl) rfl
theorem q1506 : (Jvm.Cond.instanceMethod ({ cls := "FrameHeirsModel", name := "mapped", desc := "(IIIII)I" } : Jvm.MethodName)) ∈ gw := gw_mem (mT6 (i := 164) rfl) rfl
theorem q1507 : (Jvm.Cond.code ({ cls := "FrameHeirsModel", name := "mapped", desc := "(IIIII)I" } : Jvm.MethodName) prog_8_method_70_code (16 : Nat) (Option.some Jvm.ClassFile.FieldType.int)) ∈ gw := gw_mem (mT6 (i := 165) rfl) rfl
theorem q1508 : (Jvm.Cond.methodLink "FrameHeirsModel" (270 : Nat) ({ cls := "FrameHeirsModel", name := "looks", desc := "(III)V" } : Jvm.MethodName)) ∈ gw := gw_mem (mT6 (i := 166) rfl) rfl
theorem q1510 : (Jvm.Cond.instanceMethod ({ cls := "FrameHeirsModel", name := "looks", desc := "(III)V" } : Jvm.MethodName)) ∈ gw := gw_mem (mT6 (i := 168) rfl) rfl
theorem q1511 : (Jvm.Cond.code ({ cls := "FrameHeirsModel", name := "looks", desc := "(III)V" } : Jvm.MethodName) prog_8_method_63_code (6 : Nat) (Option.none : Option Jvm.ClassFile.FieldType)) ∈ gw := gw_mem (mT6 (i := 169) rfl) rfl
theorem q1512 : (Jvm.Cond.methodLink "FrameHeirsModel" (199 : Nat) ({ cls := "FrameHeirsModel", name := "cover", desc := "(II)I" } : Jvm.MethodName)) ∈ gw := gw_mem (mT6 (i := 170) rfl) rfl
theorem q1514 : (Jvm.Cond.instanceMethod ({ cls := "FrameHeirsModel", name := "cover", desc := "(II)I" } : Jvm.MethodName)) ∈ gw := gw_mem (mT6 (i := 172) rfl) rfl
theorem q1515 : (Jvm.Cond.code ({ cls := "FrameHeirsModel", name := "cover", desc := "(II)I" } : Jvm.MethodName) prog_8_method_46_code (5 : Nat) (Option.some Jvm.ClassFile.FieldType.int)) ∈ gw := gw_mem (mT6 (i := 173) rfl) rfl
theorem q1516 : (Jvm.Cond.methodLink "FrameHeirsModel" (196 : Nat) ({ cls := "FrameHeirsModel", name := "orderOf", desc := "(I)I" } : Jvm.MethodName)) ∈ gw := gw_mem (mT6 (i := 174) rfl) rfl
theorem q1518 : (Jvm.Cond.instanceMethod ({ cls := "FrameHeirsModel", name := "orderOf", desc := "(I)I" } : Jvm.MethodName)) ∈ gw := gw_mem (mT6 (i := 176) rfl) rfl
theorem q1519 : (Jvm.Cond.code ({ cls := "FrameHeirsModel", name := "orderOf", desc := "(I)I" } : Jvm.MethodName) prog_8_method_41_code (2 : Nat) (Option.some Jvm.ClassFile.FieldType.int)) ∈ gw := gw_mem (mT6 (i := 177) rfl) rfl
theorem q1520 : (Jvm.Cond.methodLink "FrameHeirsModel" (216 : Nat) ({ cls := "FrameHeirsModel", name := "isDeed", desc := "(I)Z" } : Jvm.MethodName)) ∈ gw := gw_mem (mT6 (i := 178) rfl) rfl
theorem q1522 : (Jvm.Cond.instanceMethod ({ cls := "FrameHeirsModel", name := "isDeed", desc := "(I)Z" } : Jvm.MethodName)) ∈ gw := gw_mem (mT6 (i := 180) rfl) rfl
theorem q1523 : (Jvm.Cond.code ({ cls := "FrameHeirsModel", name := "isDeed", desc := "(I)Z" } : Jvm.MethodName) prog_8_method_40_code (2 : Nat) (Option.some Jvm.ClassFile.FieldType.boolean)) ∈ gw := gw_mem (mT6 (i := 181) rfl) rfl
theorem q1524 : (Jvm.Cond.methodLink "FrameHeirsModel" (273 : Nat) ({ cls := "FrameHeirsModel", name := "isBusyThere", desc := "()Z" } : Jvm.MethodName)) ∈ gw := gw_mem (mT6 (i := 182) rfl) rfl
theorem q1526 : (Jvm.Cond.instanceMethod ({ cls := "FrameHeirsModel", name := "isBusyThere", desc := "()Z" } : Jvm.MethodName)) ∈ gw := gw_mem (mT6 (i := 184) rfl) rfl
theorem q1527 : (Jvm.Cond.code ({ cls := "FrameHeirsModel", name := "isBusyThere", desc := "()Z" } : Jvm.MethodName) prog_8_method_67_code (2 : Nat) (Option.some Jvm.ClassFile.FieldType.boolean)) ∈ gw := gw_mem (mT6 (i := 185) rfl) rfl
theorem q1528 : (Jvm.Cond.methodLink "FrameHeirsModel" (213 : Nat) ({ cls := "FrameHeirsModel", name := "isBusy", desc := "(I)Z" } : Jvm.MethodName)) ∈ gw := gw_mem (mT6 (i := 186) rfl) rfl
theorem q1530 : (Jvm.Cond.instanceMethod ({ cls := "FrameHeirsModel", name := "isBusy", desc := "(I)Z" } : Jvm.MethodName)) ∈ gw := gw_mem (mT6 (i := 188) rfl) rfl
theorem q1531 : (Jvm.Cond.code ({ cls := "FrameHeirsModel", name := "isBusy", desc := "(I)Z" } : Jvm.MethodName) prog_8_method_53_code (3 : Nat) (Option.some Jvm.ClassFile.FieldType.boolean)) ∈ gw := gw_mem (mT6 (i := 189) rfl) rfl
theorem q1532 : (Jvm.Cond.methodLink "FrameHeirsModel" (210 : Nat) ({ cls := "FrameHeirsModel", name := "giverOf", desc := "(I)I" } : Jvm.MethodName)) ∈ gw := gw_mem (mT6 (i := 190) rfl) rfl
theorem q1534 : (Jvm.Cond.instanceMethod ({ cls := "FrameHeirsModel", name := "giverOf", desc := "(I)I" } : Jvm.MethodName)) ∈ gw := gw_mem (mT6 (i := 192) rfl) rfl
theorem q1535 : (Jvm.Cond.code ({ cls := "FrameHeirsModel", name := "giverOf", desc := "(I)I" } : Jvm.MethodName) prog_8_method_43_code (2 : Nat) (Option.some Jvm.ClassFile.FieldType.int)) ∈ gw := gw_mem (mT6 (i := 193) rfl) rfl
theorem q1536 : (Jvm.Cond.methodLink "FrameHeirsModel" (276 : Nat) ({ cls := "FrameHeirsModel", name := "isFree", desc := "(III)Z" } : Jvm.MethodName)) ∈ gw := gw_mem (mT6 (i := 194) rfl) rfl
theorem q1538 : (Jvm.Cond.instanceMethod ({ cls := "FrameHeirsModel", name := "isFree", desc := "(III)Z" } : Jvm.MethodName)) ∈ gw := gw_mem (mT6 (i := 196) rfl) rfl
theorem q1539 : (Jvm.Cond.code ({ cls := "FrameHeirsModel", name := "isFree", desc := "(III)Z" } : Jvm.MethodName) prog_8_method_64_code (5 : Nat) (Option.some Jvm.ClassFile.FieldType.boolean)) ∈ gw := gw_mem (mT6 (i := 197) rfl) rfl
theorem q1540 : (Jvm.Cond.methodLink "FrameHeirsModel" (258 : Nat) ({ cls := "FrameHeirsModel", name := "pagesOf", desc := "(I)I" } : Jvm.MethodName)) ∈ gw := gw_mem (mT6 (i := 198) rfl) rfl
theorem q1542 : (Jvm.Cond.instanceMethod ({ cls := "FrameHeirsModel", name := "pagesOf", desc := "(I)I" } : Jvm.MethodName)) ∈ gw := gw_mem (mT6 (i := 200) rfl) rfl
theorem q1543 : (Jvm.Cond.code ({ cls := "FrameHeirsModel", name := "pagesOf", desc := "(I)I" } : Jvm.MethodName) prog_8_method_42_code (2 : Nat) (Option.some Jvm.ClassFile.FieldType.int)) ∈ gw := gw_mem (mT6 (i := 201) rfl) rfl
theorem q1544 : (Jvm.Cond.methodLink "FrameHeirsModel" (279 : Nat) ({ cls := "FrameHeirsModel", name := "pagesIn", desc := "(I)I" } : Jvm.MethodName)) ∈ gw := gw_mem (mT6 (i := 202) rfl) rfl
theorem q1546 : (Jvm.Cond.instanceMethod ({ cls := "FrameHeirsModel", name := "pagesIn", desc := "(I)I" } : Jvm.MethodName)) ∈ gw := gw_mem (mT6 (i := 204) rfl) rfl
theorem q1547 : (Jvm.Cond.code ({ cls := "FrameHeirsModel", name := "pagesIn", desc := "(I)I" } : Jvm.MethodName) prog_8_method_65_code (4 : Nat) (Option.some Jvm.ClassFile.FieldType.int)) ∈ gw := gw_mem (mT6 (i := 205) rfl) rfl
theorem q1548 : (Jvm.Cond.methodLink "FrameHeirsModel" (282 : Nat) ({ cls := "FrameHeirsModel", name := "mostOf", desc := "(I)I" } : Jvm.MethodName)) ∈ gw := gw_mem (mT6 (i := 206) rfl) rfl
theorem q1550 : (Jvm.Cond.instanceMethod ({ cls := "FrameHeirsModel", name := "mostOf", desc := "(I)I" } : Jvm.MethodName)) ∈ gw := gw_mem (mT6 (i := 208) rfl) rfl
theorem q1551 : (Jvm.Cond.code ({ cls := "FrameHeirsModel", name := "mostOf", desc := "(I)I" } : Jvm.MethodName) prog_8_method_66_code (2 : Nat) (Option.some Jvm.ClassFile.FieldType.int)) ∈ gw := gw_mem (mT6 (i := 209) rfl) rfl
theorem q1552 : (Jvm.Cond.methodLink "FrameHeirsLaw" (47 : Nat) ({ cls := "FrameHeirsModel", name := "grant", desc := "(IIII)I" } : Jvm.MethodName)) ∈ gw := gw_mem (mT6 (i := 210) rfl) rfl
theorem q1553 : (Jvm.Cond.instanceMethod ({ cls := "FrameHeirsModel", name := "grant", desc := "(IIII)I" } : Jvm.MethodName)) ∈ gw := gw_mem (mT6 (i := 211) rfl) rfl
theorem q1554 : (Jvm.Cond.selects "FrameHeirsModel" ({ cls := "FrameHeirsModel", name := "grant", desc := "(IIII)I" } : Jvm.MethodName) ({ cls := "FrameHeirsModel", name := "grant", desc := "(IIII)I" } : Jvm.MethodName)) ∈ gw := gw_mem (mT6 (i := 212) rfl) rfl
theorem q1555 : (Jvm.Cond.code ({ cls := "FrameHeirsModel", name := "grant", desc := "(IIII)I" } : Jvm.MethodName) prog_8_method_74_code (5 : Nat) (Option.some Jvm.ClassFile.FieldType.int)) ∈ gw := gw_mem (mT6 (i := 213) rfl) rfl
theorem q1556 : (Jvm.Cond.methodLink "FrameHeirsModel" (305 : Nat) ({ cls := "FrameHeirsModel", name := "granted", desc := "(IIII)I" } : Jvm.MethodName)) ∈ gw := gw_mem (mT6 (i := 214) rfl) rfl
theorem q1558 : (Jvm.Cond.instanceMethod ({ cls := "FrameHeirsModel", name := "granted", desc := "(IIII)I" } : Jvm.MethodName)) ∈ gw := gw_mem (mT6 (i := 216) rfl) rfl
theorem q1559 : (Jvm.Cond.code ({ cls := "FrameHeirsModel", name := "granted", desc := "(IIII)I" } : Jvm.MethodName) prog_8_method_73_code (9 : Nat) (Option.some Jvm.ClassFile.FieldType.int)) ∈ gw := gw_mem (mT6 (i := 217) rfl) rfl
theorem q1560 : (Jvm.Cond.methodLink "FrameHeirsModel" (296 : Nat) ({ cls := "FrameHeirsModel", name := "isBusyBelowThere", desc := "()Z" } : Jvm.MethodName)) ∈ gw := gw_mem (mT6 (i := 218) rfl) rfl
theorem q1562 : (Jvm.Cond.instanceMethod ({ cls := "FrameHeirsModel", name := "isBusyBelowThere", desc := "()Z" } : Jvm.MethodName)) ∈ gw := gw_mem (mT6 (i := 220) rfl) rfl
theorem q1563 : (Jvm.Cond.code ({ cls := "FrameHeirsModel", name := "isBusyBelowThere", desc := "()Z" } : Jvm.MethodName) prog_8_method_68_code (2 : Nat) (Option.some Jvm.ClassFile.FieldType.boolean)) ∈ gw := gw_mem (mT6 (i := 221) rfl) rfl
theorem q1564 : (Jvm.Cond.methodLink "FrameHeirsModel" (261 : Nat) ({ cls := "FrameHeirsModel", name := "isBusyBelow", desc := "(I)Z" } : Jvm.MethodName)) ∈ gw := gw_mem (mT6 (i := 222) rfl) rfl
theorem q1566 : (Jvm.Cond.instanceMethod ({ cls := "FrameHeirsModel", name := "isBusyBelow", desc := "(I)Z" } : Jvm.MethodName)) ∈ gw := gw_mem (mT6 (i := 224) rfl) rfl
theorem q1567 : (Jvm.Cond.code ({ cls := "FrameHeirsModel", name := "isBusyBelow", desc := "(I)Z" } : Jvm.MethodName) prog_8_method_54_code (3 : Nat) (Option.some Jvm.ClassFile.FieldType.boolean)) ∈ gw := gw_mem (mT6 (i := 225) rfl) rfl
theorem q1568 : (Jvm.Cond.methodLink "FrameHeirsModel" (219 : Nat) ({ cls := "FrameHeirsModel", name := "isAbove", desc := "(II)Z" } : Jvm.MethodName)) ∈ gw := gw_mem (mT6 (i := 226) rfl) rfl
theorem q1570 : (Jvm.Cond.instanceMethod ({ cls := "FrameHeirsModel", name := "isAbove", desc := "(II)Z" } : Jvm.MethodName)) ∈ gw := gw_mem (mT6 (i := 228) rfl) rfl
theorem q1571 : (Jvm.Cond.code ({ cls := "FrameHeirsModel", name := "isAbove", desc := "(II)Z" } : Jvm.MethodName) prog_8_method_52_code (4 : Nat) (Option.some Jvm.ClassFile.FieldType.boolean)) ∈ gw := gw_mem (mT6 (i := 229) rfl) rfl
theorem q1572 : (Jvm.Cond.methodLink "FrameHeirsModel" (299 : Nat) ({ cls := "FrameHeirsModel", name := "cuts", desc := "(III)V" } : Jvm.MethodName)) ∈ gw := gw_mem (mT6 (i := 230) rfl) rfl
theorem q1574 : (Jvm.Cond.instanceMethod ({ cls := "FrameHeirsModel", name := "cuts", desc := "(III)V" } : Jvm.MethodName)) ∈ gw := gw_mem (mT6 (i := 232) rfl) rfl
theorem q1575 : (Jvm.Cond.code ({ cls := "FrameHeirsModel", name := "cuts", desc := "(III)V" } : Jvm.MethodName) prog_8_method_60_code (5 : Nat) (Option.none : Option Jvm.ClassFile.FieldType)) ∈ gw := gw_mem (mT6 (i := 233) rfl) rfl
theorem q1576 : (Jvm.Cond.methodLink "FrameHeirsModel" (246 : Nat) ({ cls := "FrameHeirsModel", name := "splits", desc := "(I)V" } : Jvm.MethodName)) ∈ gw := gw_mem (mT6 (i := 234) rfl) rfl
theorem q1578 : (Jvm.Cond.instanceMethod ({ cls := "FrameHeirsModel", name := "splits", desc := "(I)V" } : Jvm.MethodName)) ∈ gw := gw_mem (mT6 (i := 236) rfl) rfl
theorem q1579 : (Jvm.Cond.code ({ cls := "FrameHeirsModel", name := "splits", desc := "(I)V" } : Jvm.MethodName) prog_8_method_59_code (5 : Nat) (Option.none : Option Jvm.ClassFile.FieldType)) ∈ gw := gw_mem (mT6 (i := 237) rfl) rfl
theorem q1580 : (Jvm.Cond.methodLink "FrameHeirsModel" (225 : Nat) ({ cls := "FrameHeirsModel", name := "adds", desc := "(I)V" } : Jvm.MethodName)) ∈ gw := gw_mem (mT6 (i := 238) rfl) rfl
theorem q1582 : (Jvm.Cond.instanceMethod ({ cls := "FrameHeirsModel", name := "adds", desc := "(I)V" } : Jvm.MethodName)) ∈ gw := gw_mem (mT7 (i := 0) rfl) rfl
theorem q1583 : (Jvm.Cond.code ({ cls := "FrameHeirsModel", name := "adds", desc := "(I)V" } : Jvm.MethodName) prog_8_method_55_code (2 : Nat) (Option.none : Option Jvm.ClassFile.FieldType)) ∈ gw := gw_mem (mT7 (i := 1) rfl) rfl
theorem q1584 : (Jvm.Cond.methodLink "FrameHeirsModel" (228 : Nat) ({ cls := "FrameHeirsModel", name := "firstOf", desc := "(I)I" } : Jvm.MethodName)) ∈ gw := gw_mem (mT7 (i := 2) rfl) rfl
theorem q1586 : (Jvm.Cond.instanceMethod ({ cls := "FrameHeirsModel", name := "firstOf", desc := "(I)I" } : Jvm.MethodName)) ∈ gw := gw_mem (mT7 (i := 4) rfl) rfl
theorem q1587 : (Jvm.Cond.code ({ cls := "FrameHeirsModel", name := "firstOf", desc := "(I)I" } : Jvm.MethodName) prog_8_method_44_code (2 : Nat) (Option.some Jvm.ClassFile.FieldType.int)) ∈ gw := gw_mem (mT7 (i := 5) rfl) rfl
theorem q1588 : (Jvm.Cond.methodLink "FrameHeirsModel" (231 : Nat) ({ cls := "FrameHeirsModel", name := "nextOf", desc := "(I)I" } : Jvm.MethodName)) ∈ gw := gw_mem (mT7 (i := 6) rfl) rfl
theorem q1590 : (Jvm.Cond.instanceMethod ({ cls := "FrameHeirsModel", name := "nextOf", desc := "(I)I" } : Jvm.MethodName)) ∈ gw := gw_mem (mT7 (i := 8) rfl) rfl
theorem q1591 : (Jvm.Cond.code ({ cls := "FrameHeirsModel", name := "nextOf", desc := "(I)I" } : Jvm.MethodName) prog_8_method_45_code (2 : Nat) (Option.some Jvm.ClassFile.FieldType.int)) ∈ gw := gw_mem (mT7 (i := 9) rfl) rfl
theorem q1592 : (Jvm.Cond.methodLink "FrameHeirsModel" (243 : Nat) ({ cls := "FrameHeirsModel", name := "halves", desc := "(I)V" } : Jvm.MethodName)) ∈ gw := gw_mem (mT7 (i := 10) rfl) rfl
theorem q1594 : (Jvm.Cond.instanceMethod ({ cls := "FrameHeirsModel", name := "halves", desc := "(I)V" } : Jvm.MethodName)) ∈ gw := gw_mem (mT7 (i := 12) rfl) rfl
theorem q1595 : (Jvm.Cond.code ({ cls := "FrameHeirsModel", name := "halves", desc := "(I)V" } : Jvm.MethodName) prog_8_method_58_code (12 : Nat) (Option.none : Option Jvm.ClassFile.FieldType)) ∈ gw := gw_mem (mT7 (i := 13) rfl) rfl
theorem q1596 : (Jvm.Cond.methodLink "FrameHeirsModel" (240 : Nat) ({ cls := "FrameHeirsModel", name := "more", desc := "(I)V" } : Jvm.MethodName)) ∈ gw := gw_mem (mT7 (i := 14) rfl) rfl
theorem q1598 : (Jvm.Cond.instanceMethod ({ cls := "FrameHeirsModel", name := "more", desc := "(I)V" } : Jvm.MethodName)) ∈ gw := gw_mem (mT7 (i := 16) rfl) rfl
theorem q1599 : (Jvm.Cond.code ({ cls := "FrameHeirsModel", name := "more", desc := "(I)V" } : Jvm.MethodName) prog_8_method_32_code (2 : Nat) (Option.none : Option Jvm.ClassFile.FieldType)) ∈ gw := gw_mem (mT7 (i := 17) rfl) rfl
theorem q1600 : (Jvm.Cond.methodLink "FrameHeirsModel" (302 : Nat) ({ cls := "FrameHeirsModel", name := "movesTo", desc := "(II)V" } : Jvm.MethodName)) ∈ gw := gw_mem (mT7 (i := 18) rfl) rfl
theorem q1602 : (Jvm.Cond.instanceMethod ({ cls := "FrameHeirsModel", name := "movesTo", desc := "(II)V" } : Jvm.MethodName)) ∈ gw := gw_mem (mT7 (i := 20) rfl) rfl
theorem q1603 : (Jvm.Cond.code ({ cls := "FrameHeirsModel", name := "movesTo", desc := "(II)V" } : Jvm.MethodName) prog_8_method_72_code (7 : Nat) (Option.none : Option Jvm.ClassFile.FieldType)) ∈ gw := gw_mem (mT7 (i := 21) rfl) rfl
theorem q1604 : (Jvm.Cond.methodLink "FrameHeirsLaw" (52 : Nat) ({ cls := "FrameHeirsModel", name := "flush", desc := "(IIIZ)I" } : Jvm.MethodName)) ∈ gw := gw_mem (mT7 (i := 22) rfl) rfl
theorem q1605 : (Jvm.Cond.instanceMethod ({ cls := "FrameHeirsModel", name := "flush", desc := "(IIIZ)I" } : Jvm.MethodName)) ∈ gw := gw_mem (mT7 (i := 23) rfl) rfl
theorem q1606 : (Jvm.Cond.selects "FrameHeirsModel" ({ cls := "FrameHeirsModel", name := "flush", desc := "(IIIZ)I" } : Jvm.MethodName) ({ cls := "FrameHeirsModel", name := "flush", desc := "(IIIZ)I" } : Jvm.MethodName)) ∈ gw := gw_mem (mT7 (i := 24) rfl) rfl
theorem q1607 : (Jvm.Cond.code ({ cls := "FrameHeirsModel", name := "flush", desc := "(IIIZ)I" } : Jvm.MethodName) prog_8_method_79_code (5 : Nat) (Option.some Jvm.ClassFile.FieldType.int)) ∈ gw := gw_mem (mT7 (i := 25) rfl) rfl
theorem q1608 : (Jvm.Cond.methodLink "FrameHeirsModel" (319 : Nat) ({ cls := "FrameHeirsModel", name := "flushed", desc := "(IIIZ)I" } : Jvm.MethodName)) ∈ gw := gw_mem (mT7 (i := 26) rfl) rfl
theorem q1610 : (Jvm.Cond.instanceMethod ({ cls := "FrameHeirsModel", name := "flushed", desc := "(IIIZ)I" } : Jvm.MethodName)) ∈ gw := gw_mem (mT7 (i := 28) rfl) rfl
theorem q1611 : (Jvm.Cond.code ({ cls := "FrameHeirsModel", name := "flushed", desc := "(IIIZ)I" } : Jvm.MethodName) prog_8_method_78_code (11 : Nat) (Option.some Jvm.ClassFile.FieldType.int)) ∈ gw := gw_mem (mT7 (i := 29) rfl) rfl
theorem q1612 : (Jvm.Cond.methodLink "FrameHeirsModel" (312 : Nat) ({ cls := "FrameHeirsModel", name := "pendingMany", desc := "()I" } : Jvm.MethodName)) ∈ gw := gw_mem (mT7 (i := 30) rfl) rfl
theorem q1614 : (Jvm.Cond.instanceMethod ({ cls := "FrameHeirsModel", name := "pendingMany", desc := "()I" } : Jvm.MethodName)) ∈ gw := gw_mem (mT7 (i := 32) rfl) rfl
theorem q1615 : (Jvm.Cond.code ({ cls := "FrameHeirsModel", name := "pendingMany", desc := "()I" } : Jvm.MethodName) prog_8_method_75_code (3 : Nat) (Option.some Jvm.ClassFile.FieldType.int)) ∈ gw := gw_mem (mT7 (i := 33) rfl) rfl
theorem q1616 : (Jvm.Cond.methodLink "FrameHeirsModel" (315 : Nat) ({ cls := "FrameHeirsModel", name := "listsTop", desc := "(IZII)I" } : Jvm.MethodName)) ∈ gw := gw_mem (mT7 (i := 34) rfl) rfl
theorem q1618 : (Jvm.Cond.instanceMethod ({ cls := "FrameHeirsModel", name := "listsTop", desc := "(IZII)I" } : Jvm.MethodName)) ∈ gw := gw_mem (mT7 (i := 36) rfl) rfl
theorem q1619 : (Jvm.Cond.code ({ cls := "FrameHeirsModel", name := "listsTop", desc := "(IZII)I" } : Jvm.MethodName) prog_8_method_76_code (8 : Nat) (Option.some Jvm.ClassFile.FieldType.int)) ∈ gw := gw_mem (mT7 (i := 37) rfl) rfl
theorem q1620 : (Jvm.Cond.methodLink "FrameHeirsModel" (309 : Nat) ({ cls := "FrameHeirsModel", name := "lists", desc := "(III)I" } : Jvm.MethodName)) ∈ gw := gw_mem (mT7 (i := 38) rfl) rfl
theorem q1622 : (Jvm.Cond.instanceMethod ({ cls := "FrameHeirsModel", name := "lists", desc := "(III)I" } : Jvm.MethodName)) ∈ gw := gw_mem (mT7 (i := 40) rfl) rfl
theorem q1623 : (Jvm.Cond.code ({ cls := "FrameHeirsModel", name := "lists", desc := "(III)I" } : Jvm.MethodName) prog_8_method_77_code (5 : Nat) (Option.some Jvm.ClassFile.FieldType.int)) ∈ gw := gw_mem (mT7 (i := 41) rfl) rfl
theorem q1624 : (Jvm.Cond.methodLink "FrameHeirsLaw" (56 : Nat) ({ cls := "FrameHeirsModel", name := "work", desc := "(I)I" } : Jvm.MethodName)) ∈ gw := gw_mem (mT7 (i := 42) rfl) rfl
theorem q1625 : (Jvm.Cond.instanceMethod ({ cls := "FrameHeirsModel", name := "work", desc := "(I)I" } : Jvm.MethodName)) ∈ gw := gw_mem (mT7 (i := 43) rfl) rfl
theorem q1626 : (Jvm.Cond.selects "FrameHeirsModel" ({ cls := "FrameHeirsModel", name := "work", desc := "(I)I" } : Jvm.MethodName) ({ cls := "FrameHeirsModel", name := "work", desc := "(I)I" } : Jvm.MethodName)) ∈ gw := gw_mem (mT7 (i := 44) rfl) rfl
theorem q1627 : (Jvm.Cond.code ({ cls := "FrameHeirsModel", name := "work", desc := "(I)I" } : Jvm.MethodName) prog_8_method_83_code (2 : Nat) (Option.some Jvm.ClassFile.FieldType.int)) ∈ gw := gw_mem (mT7 (i := 45) rfl) rfl
theorem q1628 : (Jvm.Cond.methodLink "FrameHeirsModel" (332 : Nat) ({ cls := "FrameHeirsModel", name := "worked", desc := "(I)I" } : Jvm.MethodName)) ∈ gw := gw_mem (mT7 (i := 46) rfl) rfl
theorem q1630 : (Jvm.Cond.instanceMethod ({ cls := "FrameHeirsModel", name := "worked", desc := "(I)I" } : Jvm.MethodName)) ∈ gw := gw_mem (mT7 (i := 48) rfl) rfl
theorem q1631 : (Jvm.Cond.code ({ cls := "FrameHeirsModel", name := "worked", desc := "(I)I" } : Jvm.MethodName) prog_8_method_82_code (3 : Nat) (Option.some Jvm.ClassFile.FieldType.int)) ∈ gw := gw_mem (mT7 (i := 49) rfl) rfl
theorem q1632 : (Jvm.Cond.methodLink "FrameHeirsModel" (329 : Nat) ({ cls := "FrameHeirsModel", name := "isWorking", desc := "()Z" } : Jvm.MethodName)) ∈ gw := gw_mem (mT7 (i := 50) rfl) rfl
theorem q1634 : (Jvm.Cond.instanceMethod ({ cls := "FrameHeirsModel", name := "isWorking", desc := "()Z" } : Jvm.MethodName)) ∈ gw := gw_mem (mT7 (i := 52) rfl) rfl
theorem q1635 : (Jvm.Cond.code ({ cls := "FrameHeirsModel", name := "isWorking", desc := "()Z" } : Jvm.MethodName) prog_8_method_81_code (4 : Nat) (Option.some Jvm.ClassFile.FieldType.boolean)) ∈ gw := gw_mem (mT7 (i := 53) rfl) rfl
theorem q1636 : (Jvm.Cond.methodLink "FrameHeirsModel" (323 : Nat) ({ cls := "FrameHeirsModel", name := "goes", desc := "(I)V" } : Jvm.MethodName)) ∈ gw := gw_mem (mT7 (i := 54) rfl) rfl
theorem q1638 : (Jvm.Cond.instanceMethod ({ cls := "FrameHeirsModel", name := "goes", desc := "(I)V" } : Jvm.MethodName)) ∈ gw := gw_mem (mT7 (i := 56) rfl) rfl
theorem q1639 : (Jvm.Cond.code ({ cls := "FrameHeirsModel", name := "goes", desc := "(I)V" } : Jvm.MethodName) prog_8_method_57_code (3 : Nat) (Option.none : Option Jvm.ClassFile.FieldType)) ∈ gw := gw_mem (mT7 (i := 57) rfl) rfl
theorem q1640 : (Jvm.Cond.methodLink "FrameHeirsModel" (234 : Nat) ({ cls := "FrameHeirsModel", name := "leaves", desc := "(I)V" } : Jvm.MethodName)) ∈ gw := gw_mem (mT7 (i := 58) rfl) rfl
theorem q1642 : (Jvm.Cond.instanceMethod ({ cls := "FrameHeirsModel", name := "leaves", desc := "(I)V" } : Jvm.MethodName)) ∈ gw := gw_mem (mT7 (i := 60) rfl) rfl
theorem q1643 : (Jvm.Cond.code ({ cls := "FrameHeirsModel", name := "leaves", desc := "(I)V" } : Jvm.MethodName) prog_8_method_51_code (2 : Nat) (Option.none : Option Jvm.ClassFile.FieldType)) ∈ gw := gw_mem (mT7 (i := 61) rfl) rfl
theorem q1644 : (Jvm.Cond.methodLink "FrameHeirsModel" (237 : Nat) ({ cls := "FrameHeirsModel", name := "tree", desc := "(I)V" } : Jvm.MethodName)) ∈ gw := gw_mem (mT7 (i := 62) rfl) rfl
theorem q1646 : (Jvm.Cond.instanceMethod ({ cls := "FrameHeirsModel", name := "tree", desc := "(I)V" } : Jvm.MethodName)) ∈ gw := gw_mem (mT7 (i := 64) rfl) rfl
theorem q1647 : (Jvm.Cond.code ({ cls := "FrameHeirsModel", name := "tree", desc := "(I)V" } : Jvm.MethodName) prog_8_method_56_code (4 : Nat) (Option.none : Option Jvm.ClassFile.FieldType)) ∈ gw := gw_mem (mT7 (i := 65) rfl) rfl
theorem q1648 : (Jvm.Cond.methodLink "FrameHeirsModel" (326 : Nat) ({ cls := "FrameHeirsModel", name := "jobOver", desc := "()V" } : Jvm.MethodName)) ∈ gw := gw_mem (mT7 (i := 66) rfl) rfl
theorem q1650 : (Jvm.Cond.instanceMethod ({ cls := "FrameHeirsModel", name := "jobOver", desc := "()V" } : Jvm.MethodName)) ∈ gw := gw_mem (mT7 (i := 68) rfl) rfl
theorem q1651 : (Jvm.Cond.code ({ cls := "FrameHeirsModel", name := "jobOver", desc := "()V" } : Jvm.MethodName) prog_8_method_80_code (2 : Nat) (Option.none : Option Jvm.ClassFile.FieldType)) ∈ gw := gw_mem (mT7 (i := 69) rfl) rfl
theorem q1652 : (Jvm.Cond.methodLink "FrameHeirsLaw" (73 : Nat) ({ cls := "FrameHeirsModel", name := "tick", desc := "()I" } : Jvm.MethodName)) ∈ gw := gw_mem (mT7 (i := 70) rfl) rfl
theorem q1653 : (Jvm.Cond.instanceMethod ({ cls := "FrameHeirsModel", name := "tick", desc := "()I" } : Jvm.MethodName)) ∈ gw := gw_mem (mT7 (i := 71) rfl) rfl
theorem q1654 : (Jvm.Cond.selects "FrameHeirsModel" ({ cls := "FrameHeirsModel", name := "tick", desc := "()I" } : Jvm.MethodName) ({ cls := "FrameHeirsModel", name := "tick", desc := "()I" } : Jvm.MethodName)) ∈ gw := gw_mem (mT7 (i := 72) rfl) rfl
theorem q1655 : (Jvm.Cond.code ({ cls := "FrameHeirsModel", name := "tick", desc := "()I" } : Jvm.MethodName) prog_8_method_96_code (1 : Nat) (Option.some Jvm.ClassFile.FieldType.int)) ∈ gw := gw_mem (mT7 (i := 73) rfl) rfl
theorem q1656 : (Jvm.Cond.methodLink "FrameHeirsModel" (370 : Nat) ({ cls := "FrameHeirsModel", name := "ticks", desc := "()V" } : Jvm.MethodName)) ∈ gw := gw_mem (mT7 (i := 74) rfl) rfl
theorem q1658 : (Jvm.Cond.instanceMethod ({ cls := "FrameHeirsModel", name := "ticks", desc := "()V" } : Jvm.MethodName)) ∈ gw := gw_mem (mT7 (i := 76) rfl) rfl
theorem q1659 : (Jvm.Cond.code ({ cls := "FrameHeirsModel", name := "ticks", desc := "()V" } : Jvm.MethodName) prog_8_method_93_code (3 : Nat) (Option.none : Option Jvm.ClassFile.FieldType)) ∈ gw := gw_mem (mT7 (i := 77) rfl) rfl
theorem q1660 : (Jvm.Cond.methodLink "FrameHeirsModel" (358 : Nat) ({ cls := "FrameHeirsModel", name := "floatOf", desc := "(I)I" } : Jvm.MethodName)) ∈ gw := gw_mem (mT7 (i := 78) rfl) rfl
theorem q1661 : (Jvm.Cond.static ({ cls := "FrameHeirsModel", name := "floatOf", desc := "(I)I" } : Jvm.MethodName)) ∈ gw := gw_mem (mT7 (i := 79) rfl) rfl
theorem q1662 : (Jvm.Cond.code ({ cls := "FrameHeirsModel", name := "floatOf", desc := "(I)I" } : Jvm.MethodName) prog_8_method_87_code (1 : Nat) (Option.some Jvm.ClassFile.FieldType.int)) ∈ gw := gw_mem (mT7 (i := 80) rfl) rfl
theorem q1663 : (Jvm.Cond.methodLink "FrameHeirsModel" (342 : Nat) ({ cls := "FrameHeirsModel", name := "packedFloat", desc := "(JI)I" } : Jvm.MethodName)) ∈ gw := gw_mem (mT7 (i := 81) rfl) rfl
theorem q1664 : (Jvm.Cond.static ({ cls := "FrameHeirsModel", name := "packedFloat", desc := "(JI)I" } : Jvm.MethodName)) ∈ gw := gw_mem (mT7 (i := 82) rfl) rfl
theorem q1665 : (Jvm.Cond.code ({ cls := "FrameHeirsModel", name := "packedFloat", desc := "(JI)I" } : Jvm.MethodName) prog_8_method_84_code (11 : Nat) (Option.some Jvm.ClassFile.FieldType.int)) ∈ gw := gw_mem (mT7 (i := 83) rfl) rfl
theorem q1666 : (Jvm.Cond.constantLong "FrameHeirsModel" (335 : Nat) (16777216 : Int64)) ∈ gw := gw_mem (mT7 (i := 84) rfl) rfl
theorem q1667 : (Jvm.Cond.constantLong "FrameHeirsModel" (337 : Nat) (8388608 : Int64)) ∈ gw := gw_mem (mT7 (i := 85) rfl) rfl
theorem q1668 : (Jvm.Cond.constant "FrameHeirsModel" (339 : Nat) (2139095040 : Int32)) ∈ gw := gw_mem (mT7 (i := 86) rfl) rfl
theorem q1669 : (Jvm.Cond.methodLink "FrameHeirsModel" (367 : Nat) ({ cls := "FrameHeirsModel", name := "divided", desc := "(II)I" } : Jvm.MethodName)) ∈ gw := gw_mem (mT7 (i := 87) rfl) rfl
theorem q1670 : (Jvm.Cond.static ({ cls := "FrameHeirsModel", name := "divided", desc := "(II)I" } : Jvm.MethodName)) ∈ gw := gw_mem (mT7 (i := 88) rfl) rfl
theorem q1671 : (Jvm.Cond.code ({ cls := "FrameHeirsModel", name := "divided", desc := "(II)I" } : Jvm.MethodName) prog_8_method_90_code (8 : Nat) (Option.some Jvm.ClassFile.FieldType.int)) ∈ gw := gw_mem (mT7 (i := 89) rfl) rfl
theorem q1672 : (Jvm.Cond.methodLink "FrameHeirsModel" (349 : Nat) ({ cls := "FrameHeirsModel", name := "wholeOf", desc := "(I)J" } : Jvm.MethodName)) ∈ gw := gw_mem (mT7 (i := 90) rfl) rfl
theorem q1673 : (Jvm.Cond.static ({ cls := "FrameHeirsModel", name := "wholeOf", desc := "(I)J" } : Jvm.MethodName)) ∈ gw := gw_mem (mT7 (i := 91) rfl) rfl
theorem q1674 : (Jvm.Cond.code ({ cls := "FrameHeirsModel", name := "wholeOf", desc := "(I)J" } : Jvm.MethodName) prog_8_method_85_code (1 : Nat) (Option.some Jvm.ClassFile.FieldType.long)) ∈ gw := gw_mem (mT7 (i := 92) rfl) rfl
theorem q1675 : (Jvm.Cond.constant "FrameHeirsModel" (340 : Nat) (8388607 : Int32)) ∈ gw := gw_mem (mT7 (i := 93) rfl) rfl
theorem q1676 : (Jvm.Cond.constant "FrameHeirsModel" (341 : Nat) (8388608 : Int32)) ∈ gw := gw_mem (mT7 (i := 94) rfl) rfl
theorem q1677 : (Jvm.Cond.methodLink "FrameHeirsModel" (346 : Nat) ({ cls := "FrameHeirsModel", name := "powerOf", desc := "(I)I" } : Jvm.MethodName)) ∈ gw := gw_mem (mT7 (i := 95) rfl) rfl
theorem q1678 : (Jvm.Cond.static ({ cls := "FrameHeirsModel", name := "powerOf", desc := "(I)I" } : Jvm.MethodName)) ∈ gw := gw_mem (mT7 (i := 96) rfl) rfl
theorem q1679 : (Jvm.Cond.code ({ cls := "FrameHeirsModel", name := "powerOf", desc := "(I)I" } : Jvm.MethodName) prog_8_method_86_code (1 : Nat) (Option.some Jvm.ClassFile.FieldType.int)) ∈ gw := gw_mem (mT7 (i := 97) rfl) rfl
theorem q1680 : (Jvm.Cond.constantLong "FrameHeirsModel" (353 : Nat) (2 : Int64)) ∈ gw := gw_mem (mT7 (i := 98) rfl) rfl
theorem q1681 : (Jvm.Cond.constantLong "FrameHeirsModel" (355 : Nat) (1152921504606846976 : Int64)) ∈ gw := gw_mem (mT7 (i := 99) rfl) rfl
theorem q1682 : (Jvm.Cond.methodLink "FrameHeirsModel" (361 : Nat) ({ cls := "FrameHeirsModel", name := "times", desc := "(II)I" } : Jvm.MethodName)) ∈ gw := gw_mem (mT7 (i := 100) rfl) rfl
theorem q1683 : (Jvm.Cond.static ({ cls := "FrameHeirsModel", name := "times", desc := "(II)I" } : Jvm.MethodName)) ∈ gw := gw_mem (mT7 (i := 101) rfl) rfl
theorem q1684 : (Jvm.Cond.code ({ cls := "FrameHeirsModel", name := "times", desc := "(II)I" } : Jvm.MethodName) prog_8_method_89_code (2 : Nat) (Option.some Jvm.ClassFile.FieldType.int)) ∈ gw := gw_mem (mT7 (i := 102) rfl) rfl
theorem q1685 : (Jvm.Cond.methodLink "FrameHeirsModel" (373 : Nat) ({ cls := "FrameHeirsModel", name := "deedsMany", desc := "()I" } : Jvm.MethodName)) ∈ gw := gw_mem (mT7 (i := 103) rfl) rfl
theorem q1687 : (Jvm.Cond.instanceMethod ({ cls := "FrameHeirsModel", name := "deedsMany", desc := "()I" } : Jvm.MethodName)) ∈ gw := gw_mem (mT7 (i := 105) rfl) rfl
theorem q1688 : (Jvm.Cond.code ({ cls := "FrameHeirsModel", name := "deedsMany", desc := "()I" } : Jvm.MethodName) prog_8_method_94_code (3 : Nat) (Option.some Jvm.ClassFile.FieldType.int)) ∈ gw := gw_mem (mT7 (i := 106) rfl) rfl
theorem q1689 : (Jvm.Cond.methodLink "FrameHeirsLaw" (60 : Nat) ({ cls := "FrameHeirsModel", name := "touch", desc := "(III)I" } : Jvm.MethodName)) ∈ gw := gw_mem (mT7 (i := 107) rfl) rfl
theorem q1690 : (Jvm.Cond.instanceMethod ({ cls := "FrameHeirsModel", name := "touch", desc := "(III)I" } : Jvm.MethodName)) ∈ gw := gw_mem (mT7 (i := 108) rfl) rfl
theorem q1691 : (Jvm.Cond.selects "FrameHeirsModel" ({ cls := "FrameHeirsModel", name := "touch", desc := "(III)I" } : Jvm.MethodName) ({ cls := "FrameHeirsModel", name := "touch", desc := "(III)I" } : Jvm.MethodName)) ∈ gw := gw_mem (mT7 (i := 109) rfl) rfl
theorem q1692 : (Jvm.Cond.code ({ cls := "FrameHeirsModel", name := "touch", desc := "(III)I" } : Jvm.MethodName) prog_8_method_102_code (4 : Nat) (Option.some Jvm.ClassFile.FieldType.int)) ∈ gw := gw_mem (mT7 (i := 110) rfl) rfl
theorem q1693 : (Jvm.Cond.methodLink "FrameHeirsModel" (389 : Nat) ({ cls := "FrameHeirsModel", name := "isTouch", desc := "(III)Z" } : Jvm.MethodName)) ∈ gw := gw_mem (mT7 (i := 111) rfl) rfl
theorem q1695 : (Jvm.Cond.instanceMethod ({ cls := "FrameHeirsModel", name := "isTouch", desc := "(III)Z" } : Jvm.MethodName)) ∈ gw := gw_mem (mT7 (i := 113) rfl) rfl
theorem q1696 : (Jvm.Cond.code ({ cls := "FrameHeirsModel", name := "isTouch", desc := "(III)Z" } : Jvm.MethodName) prog_8_method_100_code (4 : Nat) (Option.some Jvm.ClassFile.FieldType.boolean)) ∈ gw := gw_mem (mT7 (i := 114) rfl) rfl
theorem q1697 : (Jvm.Cond.methodLink "FrameHeirsModel" (376 : Nat) ({ cls := "FrameHeirsModel", name := "isWaiting", desc := "(I)Z" } : Jvm.MethodName)) ∈ gw := gw_mem (mT7 (i := 115) rfl) rfl
theorem q1699 : (Jvm.Cond.instanceMethod ({ cls := "FrameHeirsModel", name := "isWaiting", desc := "(I)Z" } : Jvm.MethodName)) ∈ gw := gw_mem (mT7 (i := 117) rfl) rfl
theorem q1700 : (Jvm.Cond.code ({ cls := "FrameHeirsModel", name := "isWaiting", desc := "(I)Z" } : Jvm.MethodName) prog_8_method_99_code (2 : Nat) (Option.some Jvm.ClassFile.FieldType.boolean)) ∈ gw := gw_mem (mT7 (i := 118) rfl) rfl
theorem q1701 : (Jvm.Cond.methodLink "FrameHeirsModel" (392 : Nat) ({ cls := "FrameHeirsModel", name := "touched", desc := "(III)I" } : Jvm.MethodName)) ∈ gw := gw_mem (mT7 (i := 119) rfl) rfl
theorem q1703 : (Jvm.Cond.instanceMethod ({ cls := "FrameHeirsModel", name := "touched", desc := "(III)I" } : Jvm.MethodName)) ∈ gw := gw_mem (mT7 (i := 121) rfl) rfl
theorem q1704 : (Jvm.Cond.code ({ cls := "FrameHeirsModel", name := "touched", desc := "(III)I" } : Jvm.MethodName) prog_8_method_101_code (5 : Nat) (Option.some Jvm.ClassFile.FieldType.int)) ∈ gw := gw_mem (mT7 (i := 122) rfl) rfl
theorem q1705 : (Jvm.Cond.methodLink "FrameHeirsModel" (379 : Nat) ({ cls := "FrameHeirsModel", name := "has", desc := "(III)Z" } : Jvm.MethodName)) ∈ gw := gw_mem (mT7 (i := 123) rfl) rfl
theorem q1707 : (Jvm.Cond.instanceMethod ({ cls := "FrameHeirsModel", name := "has", desc := "(III)Z" } : Jvm.MethodName)) ∈ gw := gw_mem (mT7 (i := 125) rfl) rfl
theorem q1708 : (Jvm.Cond.code ({ cls := "FrameHeirsModel", name := "has", desc := "(III)Z" } : Jvm.MethodName) prog_8_method_97_code (5 : Nat) (Option.some Jvm.ClassFile.FieldType.boolean)) ∈ gw := gw_mem (mT7 (i := 126) rfl) rfl
theorem q1709 : (Jvm.Cond.constant "FrameHeirsModel" (382 : Nat) (1065353216 : Int32)) ∈ gw := gw_mem (mT7 (i := 127) rfl) rfl
theorem q1710 : (Jvm.Cond.methodLink "FrameHeirsModel" (364 : Nat) ({ cls := "FrameHeirsModel", name := "added", desc := "(II)I" } : Jvm.MethodName)) ∈ gw := gw_mem (mT7 (i := 128) rfl) rfl
theorem q1711 : (Jvm.Cond.static ({ cls := "FrameHeirsModel", name := "added", desc := "(II)I" } : Jvm.MethodName)) ∈ gw := gw_mem (mT7 (i := 129) rfl) rfl
theorem q1712 : (Jvm.Cond.code ({ cls := "FrameHeirsModel", name := "added", desc := "(II)I" } : Jvm.MethodName) prog_8_method_88_code (12 : Nat) (Option.some Jvm.ClassFile.FieldType.int)) ∈ gw := gw_mem (mT7 (i := 130) rfl) rfl
theorem q1713 : (Jvm.Cond.methodLink "FrameHeirsModel" (383 : Nat) ({ cls := "FrameHeirsModel", name := "frameAt", desc := "(II)I" } : Jvm.MethodName)) ∈ gw := gw_mem (mT7 (i := 131) rfl) rfl
theorem q1715 : (Jvm.Cond.instanceMethod ({ cls := "FrameHeirsModel", name := "frameAt", desc := "(II)I" } : Jvm.MethodName)) ∈ gw := gw_mem (mT7 (i := 133) rfl) rfl
theorem q1716 : (Jvm.Cond.code ({ cls := "FrameHeirsModel", name := "frameAt", desc := "(II)I" } : Jvm.MethodName) prog_8_method_47_code (4 : Nat) (Option.some Jvm.ClassFile.FieldType.int)) ∈ gw := gw_mem (mT7 (i := 134) rfl) rfl
theorem q1717 : (Jvm.Cond.methodLink "FrameHeirsModel" (386 : Nat) ({ cls := "FrameHeirsModel", name := "waitsFor", desc := "(III)V" } : Jvm.MethodName)) ∈ gw := gw_mem (mT7 (i := 135) rfl) rfl
theorem q1719 : (Jvm.Cond.instanceMethod ({ cls := "FrameHeirsModel", name := "waitsFor", desc := "(III)V" } : Jvm.MethodName)) ∈ gw := gw_mem (mT7 (i := 137) rfl) rfl
theorem q1720 : (Jvm.Cond.code ({ cls := "FrameHeirsModel", name := "waitsFor", desc := "(III)V" } : Jvm.MethodName) prog_8_method_98_code (4 : Nat) (Option.none : Option Jvm.ClassFile.FieldType)) ∈ gw := gw_mem (mT7 (i := 138) rfl) rfl
theorem q1721 : (Jvm.Cond.methodLink "FrameHeirsLaw" (64 : Nat) ({ cls := "FrameHeirsModel", name := "serve", desc := "(I)I" } : Jvm.MethodName)) ∈ gw := gw_mem (mT7 (i := 139) rfl) rfl
theorem q1722 : (Jvm.Cond.instanceMethod ({ cls := "FrameHeirsModel", name := "serve", desc := "(I)I" } : Jvm.MethodName)) ∈ gw := gw_mem (mT7 (i := 140) rfl) rfl
theorem q1723 : (Jvm.Cond.selects "FrameHeirsModel" ({ cls := "FrameHeirsModel", name := "serve", desc := "(I)I" } : Jvm.MethodName) ({ cls := "FrameHeirsModel", name := "serve", desc := "(I)I" } : Jvm.MethodName)) ∈ gw := gw_mem (mT7 (i := 141) rfl) rfl
theorem q1724 : (Jvm.Cond.code ({ cls := "FrameHeirsModel", name := "serve", desc := "(I)I" } : Jvm.MethodName) prog_8_method_109_code (2 : Nat) (Option.some Jvm.ClassFile.FieldType.int)) ∈ gw := gw_mem (mT7 (i := 142) rfl) rfl
theorem q1725 : (Jvm.Cond.methodLink "FrameHeirsModel" (411 : Nat) ({ cls := "FrameHeirsModel", name := "served", desc := "(I)I" } : Jvm.MethodName)) ∈ gw := gw_mem (mT7 (i := 143) rfl) rfl
theorem q1727 : (Jvm.Cond.instanceMethod ({ cls := "FrameHeirsModel", name := "served", desc := "(I)I" } : Jvm.MethodName)) ∈ gw := gw_mem (mT7 (i := 145) rfl) rfl
theorem q1728 : (Jvm.Cond.code ({ cls := "FrameHeirsModel", name := "served", desc := "(I)I" } : Jvm.MethodName) prog_8_method_108_code (8 : Nat) (Option.some Jvm.ClassFile.FieldType.int)) ∈ gw := gw_mem (mT7 (i := 146) rfl) rfl
theorem q1729 : (Jvm.Cond.methodLink "FrameHeirsModel" (398 : Nat) ({ cls := "FrameHeirsModel", name := "firstFor", desc := "(I)I" } : Jvm.MethodName)) ∈ gw := gw_mem (mT7 (i := 147) rfl) rfl
theorem q1731 : (Jvm.Cond.instanceMethod ({ cls := "FrameHeirsModel", name := "firstFor", desc := "(I)I" } : Jvm.MethodName)) ∈ gw := gw_mem (mT7 (i := 149) rfl) rfl
theorem q1732 : (Jvm.Cond.code ({ cls := "FrameHeirsModel", name := "firstFor", desc := "(I)I" } : Jvm.MethodName) prog_8_method_103_code (4 : Nat) (Option.some Jvm.ClassFile.FieldType.int)) ∈ gw := gw_mem (mT7 (i := 150) rfl) rfl
theorem q1733 : (Jvm.Cond.methodLink "FrameHeirsModel" (401 : Nat) ({ cls := "FrameHeirsModel", name := "placeBy", desc := "(IIII)I" } : Jvm.MethodName)) ∈ gw := gw_mem (mT7 (i := 151) rfl) rfl
theorem q1735 : (Jvm.Cond.instanceMethod ({ cls := "FrameHeirsModel", name := "placeBy", desc := "(IIII)I" } : Jvm.MethodName)) ∈ gw := gw_mem (mT7 (i := 153) rfl) rfl
theorem q1736 : (Jvm.Cond.code ({ cls := "FrameHeirsModel", name := "placeBy", desc := "(IIII)I" } : Jvm.MethodName) prog_8_method_105_code (6 : Nat) (Option.some Jvm.ClassFile.FieldType.int)) ∈ gw := gw_mem (mT7 (i := 154) rfl) rfl
theorem q1737 : (Jvm.Cond.methodLink "FrameHeirsModel" (395 : Nat) ({ cls := "FrameHeirsModel", name := "aliasesOf", desc := "(II)I" } : Jvm.MethodName)) ∈ gw := gw_mem (mT7 (i := 155) rfl) rfl
theorem q1739 : (Jvm.Cond.instanceMethod ({ cls := "FrameHeirsModel", name := "aliasesOf", desc := "(II)I" } : Jvm.MethodName)) ∈ gw := gw_mem (mT7 (i := 157) rfl) rfl
theorem q1740 : (Jvm.Cond.code ({ cls := "FrameHeirsModel", name := "aliasesOf", desc := "(II)I" } : Jvm.MethodName) prog_8_method_104_code (5 : Nat) (Option.some Jvm.ClassFile.FieldType.int)) ∈ gw := gw_mem (mT7 (i := 158) rfl) rfl
theorem q1741 : (Jvm.Cond.methodLink "FrameHeirsModel" (404 : Nat) ({ cls := "FrameHeirsModel", name := "refuses", desc := "(I)I" } : Jvm.MethodName)) ∈ gw := gw_mem (mT7 (i := 159) rfl) rfl
theorem q1743 : (Jvm.Cond.instanceMethod ({ cls := "FrameHeirsModel", name := "refuses", desc := "(I)I" } : Jvm.MethodName)) ∈ gw := gw_mem (mT7 (i := 161) rfl) rfl
theorem q1744 : (Jvm.Cond.code ({ cls := "FrameHeirsModel", name := "refuses", desc := "(I)I" } : Jvm.MethodName) prog_8_method_107_code (2 : Nat) (Option.some Jvm.ClassFile.FieldType.int)) ∈ gw := gw_mem (mT7 (i := 162) rfl) rfl
theorem q1745 : (Jvm.Cond.methodLink "FrameHeirsModel" (407 : Nat) ({ cls := "FrameHeirsModel", name := "coldestOf", desc := "(IZ)I" } : Jvm.MethodName)) ∈ gw := gw_mem (mT7 (i := 163) rfl) rfl
theorem q1747 : (Jvm.Cond.instanceMethod ({ cls := "FrameHeirsModel", name := "coldestOf", desc := "(IZ)I" } : Jvm.MethodName)) ∈ gw := gw_mem (mT7 (i := 165) rfl) rfl
theorem q1748 : (Jvm.Cond.code ({ cls := "FrameHeirsModel", name := "coldestOf", desc := "(IZ)I" } : Jvm.MethodName) prog_8_method_106_code (6 : Nat) (Option.some Jvm.ClassFile.FieldType.int)) ∈ gw := gw_mem (mT7 (i := 166) rfl) rfl
theorem q1749 : (Jvm.Cond.methodLink "FrameHeirsLaw" (69 : Nat) ({ cls := "FrameHeirsModel", name := "settle", desc := "()I" } : Jvm.MethodName)) ∈ gw := gw_mem (mT7 (i := 167) rfl) rfl
theorem q1750 : (Jvm.Cond.instanceMethod ({ cls := "FrameHeirsModel", name := "settle", desc := "()I" } : Jvm.MethodName)) ∈ gw := gw_mem (mT7 (i := 168) rfl) rfl
theorem q1751 : (Jvm.Cond.selects "FrameHeirsModel" ({ cls := "FrameHeirsModel", name := "settle", desc := "()I" } : Jvm.MethodName) ({ cls := "FrameHeirsModel", name := "settle", desc := "()I" } : Jvm.MethodName)) ∈ gw := gw_mem (mT7 (i := 169) rfl) rfl
theorem q1752 : (Jvm.Cond.code ({ cls := "FrameHeirsModel", name := "settle", desc := "()I" } : Jvm.MethodName) prog_8_method_111_code (1 : Nat) (Option.some Jvm.ClassFile.FieldType.int)) ∈ gw := gw_mem (mT7 (i := 170) rfl) rfl
theorem q1753 : (Jvm.Cond.methodLink "FrameHeirsModel" (414 : Nat) ({ cls := "FrameHeirsModel", name := "settles", desc := "()I" } : Jvm.MethodName)) ∈ gw := gw_mem (mT7 (i := 171) rfl) rfl
theorem q1755 : (Jvm.Cond.instanceMethod ({ cls := "FrameHeirsModel", name := "settles", desc := "()I" } : Jvm.MethodName)) ∈ gw := gw_mem (mT7 (i := 173) rfl) rfl
theorem q1756 : (Jvm.Cond.code ({ cls := "FrameHeirsModel", name := "settles", desc := "()I" } : Jvm.MethodName) prog_8_method_110_code (4 : Nat) (Option.some Jvm.ClassFile.FieldType.int)) ∈ gw := gw_mem (mT7 (i := 174) rfl) rfl
theorem q1757 : (Jvm.Cond.methodLink "FrameHeirsLaw" (77 : Nat) ({ cls := "FrameHeirsModel", name := "tidy", desc := "(I)I" } : Jvm.MethodName)) ∈ gw := gw_mem (mT7 (i := 175) rfl) rfl
theorem q1758 : (Jvm.Cond.instanceMethod ({ cls := "FrameHeirsModel", name := "tidy", desc := "(I)I" } : Jvm.MethodName)) ∈ gw := gw_mem (mT7 (i := 176) rfl) rfl
theorem q1759 : (Jvm.Cond.selects "FrameHeirsModel" ({ cls := "FrameHeirsModel", name := "tidy", desc := "(I)I" } : Jvm.MethodName) ({ cls := "FrameHeirsModel", name := "tidy", desc := "(I)I" } : Jvm.MethodName)) ∈ gw := gw_mem (mT7 (i := 177) rfl) rfl
theorem q1760 : (Jvm.Cond.code ({ cls := "FrameHeirsModel", name := "tidy", desc := "(I)I" } : Jvm.MethodName) prog_8_method_117_code (2 : Nat) (Option.some Jvm.ClassFile.FieldType.int)) ∈ gw := gw_mem (mT7 (i := 178) rfl) rfl
theorem q1761 : (Jvm.Cond.methodLink "FrameHeirsModel" (430 : Nat) ({ cls := "FrameHeirsModel", name := "tidies", desc := "(I)I" } : Jvm.MethodName)) ∈ gw := gw_mem (mT7 (i := 179) rfl) rfl
theorem q1763 : (Jvm.Cond.instanceMethod ({ cls := "FrameHeirsModel", name := "tidies", desc := "(I)I" } : Jvm.MethodName)) ∈ gw := gw_mem (mT7 (i := 181) rfl) rfl
theorem q1764 : (Jvm.Cond.code ({ cls := "FrameHeirsModel", name := "tidies", desc := "(I)I" } : Jvm.MethodName) prog_8_method_116_code (5 : Nat) (Option.some Jvm.ClassFile.FieldType.int)) ∈ gw := gw_mem (mT7 (i := 182) rfl) rfl
theorem q1765 : (Jvm.Cond.methodLink "FrameHeirsModel" (421 : Nat) ({ cls := "FrameHeirsModel", name := "pairIn", desc := "(I)I" } : Jvm.MethodName)) ∈ gw := gw_mem (mT7 (i := 183) rfl) rfl
theorem q1767 : (Jvm.Cond.instanceMethod ({ cls := "FrameHeirsModel", name := "pairIn", desc := "(I)I" } : Jvm.MethodName)) ∈ gw := gw_mem (mT7 (i := 185) rfl) rfl
theorem q1768 : (Jvm.Cond.code ({ cls := "FrameHeirsModel", name := "pairIn", desc := "(I)I" } : Jvm.MethodName) prog_8_method_113_code (5 : Nat) (Option.some Jvm.ClassFile.FieldType.int)) ∈ gw := gw_mem (mT7 (i := 186) rfl) rfl
theorem q1769 : (Jvm.Cond.methodLink "FrameHeirsModel" (417 : Nat) ({ cls := "FrameHeirsModel", name := "isPair", desc := "(II)Z" } : Jvm.MethodName)) ∈ gw := gw_mem (mT7 (i := 187) rfl) rfl
theorem q1771 : (Jvm.Cond.instanceMethod ({ cls := "FrameHeirsModel", name := "isPair", desc := "(II)Z" } : Jvm.MethodName)) ∈ gw := gw_mem (mT7 (i := 189) rfl) rfl
theorem q1772 : (Jvm.Cond.code ({ cls := "FrameHeirsModel", name := "isPair", desc := "(II)Z" } : Jvm.MethodName) prog_8_method_112_code (4 : Nat) (Option.some Jvm.ClassFile.FieldType.boolean)) ∈ gw := gw_mem (mT7 (i := 190) rfl) rfl
theorem q1773 : (Jvm.Cond.methodLink "FrameHeirsModel" (424 : Nat) ({ cls := "FrameHeirsModel", name := "oneOf", desc := "(II)V" } : Jvm.MethodName)) ∈ gw := gw_mem (mT7 (i := 191) rfl) rfl
theorem q1775 : (Jvm.Cond.instanceMethod ({ cls := "FrameHeirsModel", name := "oneOf", desc := "(II)V" } : Jvm.MethodName)) ∈ gw := gw_mem (mT7 (i := 193) rfl) rfl
theorem q1776 : (Jvm.Cond.code ({ cls := "FrameHeirsModel", name := "oneOf", desc := "(II)V" } : Jvm.MethodName) prog_8_method_114_code (6 : Nat) (Option.none : Option Jvm.ClassFile.FieldType)) ∈ gw := gw_mem (mT7 (i := 194) rfl) rfl
theorem q1777 : (Jvm.Cond.constant "FrameHeirsModel" (420 : Nat) (1056964608 : Int32)) ∈ gw := gw_mem (mT7 (i := 195) rfl) rfl
theorem q1778 : (Jvm.Cond.methodLink "FrameHeirsModel" (427 : Nat) ({ cls := "FrameHeirsModel", name := "isSmallLine", desc := "(II)Z" } : Jvm.MethodName)) ∈ gw := gw_mem (mT7 (i := 196) rfl) rfl
theorem q1780 : (Jvm.Cond.instanceMethod ({ cls := "FrameHeirsModel", name := "isSmallLine", desc := "(II)Z" } : Jvm.MethodName)) ∈ gw := gw_mem (mT7 (i := 198) rfl) rfl
theorem q1781 : (Jvm.Cond.code ({ cls := "FrameHeirsModel", name := "isSmallLine", desc := "(II)Z" } : Jvm.MethodName) prog_8_method_115_code (4 : Nat) (Option.some Jvm.ClassFile.FieldType.boolean)) ∈ gw := gw_mem (mT7 (i := 199) rfl) rfl
theorem q1782 : (Jvm.Cond.methodLink "FrameHeirsLaw" (81 : Nat) ({ cls := "FrameHeirsModel", name := "run", desc := "(I)I" } : Jvm.MethodName)) ∈ gw := gw_mem (mT7 (i := 200) rfl) rfl
theorem q1783 : (Jvm.Cond.instanceMethod ({ cls := "FrameHeirsModel", name := "run", desc := "(I)I" } : Jvm.MethodName)) ∈ gw := gw_mem (mT7 (i := 201) rfl) rfl
theorem q1784 : (Jvm.Cond.selects "FrameHeirsModel" ({ cls := "FrameHeirsModel", name := "run", desc := "(I)I" } : Jvm.MethodName) ({ cls := "FrameHeirsModel", name := "run", desc := "(I)I" } : Jvm.MethodName)) ∈ gw := gw_mem (mT7 (i := 202) rfl) rfl
theorem q1785 : (Jvm.Cond.code ({ cls := "FrameHeirsModel", name := "run", desc := "(I)I" } : Jvm.MethodName) prog_8_method_119_code (4 : Nat) (Option.some Jvm.ClassFile.FieldType.int)) ∈ gw := gw_mem (mT7 (i := 203) rfl) rfl
theorem q1786 : (Jvm.Cond.methodLink "FrameHeirsModel" (433 : Nat) ({ cls := "FrameHeirsModel", name := "stepDone", desc := "(I)I" } : Jvm.MethodName)) ∈ gw := gw_mem (mT7 (i := 204) rfl) rfl
theorem q1788 : (Jvm.Cond.instanceMethod ({ cls := "FrameHeirsModel", name := "stepDone", desc := "(I)I" } : Jvm.MethodName)) ∈ gw := gw_mem (mT7 (i := 206) rfl) rfl
theorem q1789 : (Jvm.Cond.code ({ cls := "FrameHeirsModel", name := "stepDone", desc := "(I)I" } : Jvm.MethodName) prog_8_method_118_code (8 : Nat) (Option.some Jvm.ClassFile.FieldType.int)) ∈ gw := gw_mem (mT7 (i := 207) rfl) rfl
theorem q1790 : (Jvm.Cond.methodLink "FrameHeirsLaw" (85 : Nat) ({ cls := "FrameHeirsModel", name := "answer", desc := "(I)I" } : Jvm.MethodName)) ∈ gw := gw_mem (mT7 (i := 208) rfl) rfl
theorem q1791 : (Jvm.Cond.instanceMethod ({ cls := "FrameHeirsModel", name := "answer", desc := "(I)I" } : Jvm.MethodName)) ∈ gw := gw_mem (mT7 (i := 209) rfl) rfl
theorem q1792 : (Jvm.Cond.selects "FrameHeirsModel" ({ cls := "FrameHeirsModel", name := "answer", desc := "(I)I" } : Jvm.MethodName) ({ cls := "FrameHeirsModel", name := "answer", desc := "(I)I" } : Jvm.MethodName)) ∈ gw := gw_mem (mT7 (i := 210) rfl) rfl
theorem q1793 : (Jvm.Cond.code ({ cls := "FrameHeirsModel", name := "answer", desc := "(I)I" } : Jvm.MethodName) prog_8_method_120_code (2 : Nat) (Option.some Jvm.ClassFile.FieldType.int)) ∈ gw := gw_mem (mT7 (i := 211) rfl) rfl
theorem q1794 : (Jvm.Cond.methodLink "FrameHeirsLaw" (91 : Nat) ({ cls := "FrameHeirsModel", name := "deed", desc := "(III)I" } : Jvm.MethodName)) ∈ gw := gw_mem (mT7 (i := 212) rfl) rfl
theorem q1795 : (Jvm.Cond.instanceMethod ({ cls := "FrameHeirsModel", name := "deed", desc := "(III)I" } : Jvm.MethodName)) ∈ gw := gw_mem (mT7 (i := 213) rfl) rfl
theorem q1796 : (Jvm.Cond.selects "FrameHeirsModel" ({ cls := "FrameHeirsModel", name := "deed", desc := "(III)I" } : Jvm.MethodName) ({ cls := "FrameHeirsModel", name := "deed", desc := "(III)I" } : Jvm.MethodName)) ∈ gw := gw_mem (mT7 (i := 214) rfl) rfl
theorem q1797 : (Jvm.Cond.code ({ cls := "FrameHeirsModel", name := "deed", desc := "(III)I" } : Jvm.MethodName) prog_8_method_125_code (5 : Nat) (Option.some Jvm.ClassFile.FieldType.int)) ∈ gw := gw_mem (mT7 (i := 215) rfl) rfl
theorem q1798 : (Jvm.Cond.methodLink "FrameHeirsModel" (436 : Nat) ({ cls := "FrameHeirsModel", name := "fails", desc := "(I)I" } : Jvm.MethodName)) ∈ gw := gw_mem (mT7 (i := 216) rfl) rfl
theorem q1800 : (Jvm.Cond.instanceMethod ({ cls := "FrameHeirsModel", name := "fails", desc := "(I)I" } : Jvm.MethodName)) ∈ gw := gw_mem (mT7 (i := 218) rfl) rfl
theorem q1801 : (Jvm.Cond.code ({ cls := "FrameHeirsModel", name := "fails", desc := "(I)I" } : Jvm.MethodName) prog_8_method_121_code (2 : Nat) (Option.some Jvm.ClassFile.FieldType.int)) ∈ gw := gw_mem (mT7 (i := 219) rfl) rfl
theorem q1802 : (Jvm.Cond.methodLink "FrameHeirsModel" (439 : Nat) ({ cls := "FrameHeirsModel", name := "aboveMany", desc := "(I)I" } : Jvm.MethodName)) ∈ gw := gw_mem (mT7 (i := 220) rfl) rfl
theorem q1804 : (Jvm.Cond.instanceMethod ({ cls := "FrameHeirsModel", name := "aboveMany", desc := "(I)I" } : Jvm.MethodName)) ∈ gw := gw_mem (mT7 (i := 222) rfl) rfl
theorem q1805 : (Jvm.Cond.code ({ cls := "FrameHeirsModel", name := "aboveMany", desc := "(I)I" } : Jvm.MethodName) prog_8_method_122_code (4 : Nat) (Option.some Jvm.ClassFile.FieldType.int)) ∈ gw := gw_mem (mT7 (i := 223) rfl) rfl
theorem q1806 : (Jvm.Cond.methodLink "FrameHeirsModel" (442 : Nat) ({ cls := "FrameHeirsModel", name := "heirsMany", desc := "(I)I" } : Jvm.MethodName)) ∈ gw := gw_mem (mT7 (i := 224) rfl) rfl
theorem q1808 : (Jvm.Cond.instanceMethod ({ cls := "FrameHeirsModel", name := "heirsMany", desc := "(I)I" } : Jvm.MethodName)) ∈ gw := gw_mem (mT7 (i := 226) rfl) rfl
theorem q1809 : (Jvm.Cond.code ({ cls := "FrameHeirsModel", name := "heirsMany", desc := "(I)I" } : Jvm.MethodName) prog_8_method_124_code (4 : Nat) (Option.some Jvm.ClassFile.FieldType.int)) ∈ gw := gw_mem (mT7 (i := 227) rfl) rfl
theorem q1810 : (Jvm.Cond.methodLink "FrameHeirsModel" (445 : Nat) ({ cls := "FrameHeirsModel", name := "belowMany", desc := "(I)I" } : Jvm.MethodName)) ∈ gw := gw_mem (mT7 (i := 228) rfl) rfl
theorem q1812 : (Jvm.Cond.instanceMethod ({ cls := "FrameHeirsModel", name := "belowMany", desc := "(I)I" } : Jvm.MethodName)) ∈ gw := gw_mem (mT7 (i := 230) rfl) rfl
theorem q1813 : (Jvm.Cond.code ({ cls := "FrameHeirsModel", name := "belowMany", desc := "(I)I" } : Jvm.MethodName) prog_8_method_123_code (2 : Nat) (Option.some Jvm.ClassFile.FieldType.int)) ∈ gw := gw_mem (mT7 (i := 231) rfl) rfl
theorem q1814 : (Jvm.Cond.methodLink "FrameHeirsLaw" (98 : Nat) ({ cls := "FrameHeirsModel", name := "above", desc := "(III)I" } : Jvm.MethodName)) ∈ gw := gw_mem (mT7 (i := 232) rfl) rfl
theorem q1815 : (Jvm.Cond.instanceMethod ({ cls := "FrameHeirsModel", name := "above", desc := "(III)I" } : Jvm.MethodName)) ∈ gw := gw_mem (mT7 (i := 233) rfl) rfl
theorem q1816 : (Jvm.Cond.selects "FrameHeirsModel" ({ cls := "FrameHeirsModel", name := "above", desc := "(III)I" } : Jvm.MethodName) ({ cls := "FrameHeirsModel", name := "above", desc := "(III)I" } : Jvm.MethodName)) ∈ gw := gw_mem (mT7 (i := 234) rfl) rfl
theorem q1817 : (Jvm.Cond.code ({ cls := "FrameHeirsModel", name := "above", desc := "(III)I" } : Jvm.MethodName) prog_8_method_126_code (6 : Nat) (Option.some Jvm.ClassFile.FieldType.int)) ∈ gw := gw_mem (mT7 (i := 235) rfl) rfl
theorem q1818 : (Jvm.Cond.methodLink "FrameHeirsLaw" (102 : Nat) ({ cls := "FrameHeirsModel", name := "heir", desc := "(III)I" } : Jvm.MethodName)) ∈ gw := gw_mem (mT7 (i := 236) rfl) rfl
theorem q1819 : (Jvm.Cond.instanceMethod ({ cls := "FrameHeirsModel", name := "heir", desc := "(III)I" } : Jvm.MethodName)) ∈ gw := gw_mem (mT7 (i := 237) rfl) rfl
theorem q1820 : (Jvm.Cond.selects "FrameHeirsModel" ({ cls := "FrameHeirsModel", name := "heir", desc := "(III)I" } : Jvm.MethodName) ({ cls := "FrameHeirsModel", name := "heir", desc := "(III)I" } : Jvm.MethodName)) ∈ gw := gw_mem (mT7 (i := 238) rfl) rfl
theorem q1821 : (Jvm.Cond.code ({ cls := "FrameHeirsModel", name := "heir", desc := "(III)I" } : Jvm.MethodName) prog_8_method_127_code (7 : Nat) (Option.some Jvm.ClassFile.FieldType.int)) ∈ gw := gw_mem (mT7 (i := 239) rfl) rfl
theorem q1822 : (Jvm.Cond.methodLink "FrameHeirsLaw" (107 : Nat) ({ cls := "FrameHeirsModel", name := "holds", desc := "(II)I" } : Jvm.MethodName)) ∈ gw := gw_mem (mT8 (i := 0) rfl) rfl
theorem q1823 : (Jvm.Cond.instanceMethod ({ cls := "FrameHeirsModel", name := "holds", desc := "(II)I" } : Jvm.MethodName)) ∈ gw := gw_mem (mT8 (i := 1) rfl) rfl
theorem q1824 : (Jvm.Cond.selects "FrameHeirsModel" ({ cls := "FrameHeirsModel", name := "holds", desc := "(II)I" } : Jvm.MethodName) ({ cls := "FrameHeirsModel", name := "holds", desc := "(II)I" } : Jvm.MethodName)) ∈ gw := gw_mem (mT8 (i := 2) rfl) rfl
theorem q1825 : (Jvm.Cond.code ({ cls := "FrameHeirsModel", name := "holds", desc := "(II)I" } : Jvm.MethodName) prog_8_method_128_code (7 : Nat) (Option.some Jvm.ClassFile.FieldType.int)) ∈ gw := gw_mem (mT8 (i := 3) rfl) rfl
theorem q1826 : (Jvm.Cond.methodLink "FrameHeirsLaw" (111 : Nat) ({ cls := "FrameHeirsModel", name := "aliases", desc := "(II)I" } : Jvm.MethodName)) ∈ gw := gw_mem (mT8 (i := 4) rfl) rfl
theorem q1827 : (Jvm.Cond.instanceMethod ({ cls := "FrameHeirsModel", name := "aliases", desc := "(II)I" } : Jvm.MethodName)) ∈ gw := gw_mem (mT8 (i := 5) rfl) rfl
theorem q1828 : (Jvm.Cond.selects "FrameHeirsModel" ({ cls := "FrameHeirsModel", name := "aliases", desc := "(II)I" } : Jvm.MethodName) ({ cls := "FrameHeirsModel", name := "aliases", desc := "(II)I" } : Jvm.MethodName)) ∈ gw := gw_mem (mT8 (i := 6) rfl) rfl
theorem q1829 : (Jvm.Cond.code ({ cls := "FrameHeirsModel", name := "aliases", desc := "(II)I" } : Jvm.MethodName) prog_8_method_129_code (3 : Nat) (Option.some Jvm.ClassFile.FieldType.int)) ∈ gw := gw_mem (mT8 (i := 7) rfl) rfl
theorem q1830 : (Jvm.Cond.methodLink "FrameHeirsLaw" (115 : Nat) ({ cls := "FrameHeirsModel", name := "reach", desc := "(II)I" } : Jvm.MethodName)) ∈ gw := gw_mem (mT8 (i := 8) rfl) rfl
theorem q1831 : (Jvm.Cond.instanceMethod ({ cls := "FrameHeirsModel", name := "reach", desc := "(II)I" } : Jvm.MethodName)) ∈ gw := gw_mem (mT8 (i := 9) rfl) rfl
theorem q1832 : (Jvm.Cond.selects "FrameHeirsModel" ({ cls := "FrameHeirsModel", name := "reach", desc := "(II)I" } : Jvm.MethodName) ({ cls := "FrameHeirsModel", name := "reach", desc := "(II)I" } : Jvm.MethodName)) ∈ gw := gw_mem (mT8 (i := 10) rfl) rfl
theorem q1833 : (Jvm.Cond.code ({ cls := "FrameHeirsModel", name := "reach", desc := "(II)I" } : Jvm.MethodName) prog_8_method_131_code (5 : Nat) (Option.some Jvm.ClassFile.FieldType.int)) ∈ gw := gw_mem (mT8 (i := 11) rfl) rfl
theorem q1834 : (Jvm.Cond.methodLink "FrameHeirsModel" (448 : Nat) ({ cls := "FrameHeirsModel", name := "isBelow", desc := "(II)Z" } : Jvm.MethodName)) ∈ gw := gw_mem (mT8 (i := 12) rfl) rfl
theorem q1836 : (Jvm.Cond.instanceMethod ({ cls := "FrameHeirsModel", name := "isBelow", desc := "(II)Z" } : Jvm.MethodName)) ∈ gw := gw_mem (mT8 (i := 14) rfl) rfl
theorem q1837 : (Jvm.Cond.code ({ cls := "FrameHeirsModel", name := "isBelow", desc := "(II)Z" } : Jvm.MethodName) prog_8_method_130_code (4 : Nat) (Option.some Jvm.ClassFile.FieldType.boolean)) ∈ gw := gw_mem (mT8 (i := 15) rfl) rfl
theorem q1838 : (Jvm.Cond.methodLink "FrameHeirsLaw" (119 : Nat) ({ cls := "FrameHeirsModel", name := "shared", desc := "(II)I" } : Jvm.MethodName)) ∈ gw := gw_mem (mT8 (i := 16) rfl) rfl
theorem q1839 : (Jvm.Cond.instanceMethod ({ cls := "FrameHeirsModel", name := "shared", desc := "(II)I" } : Jvm.MethodName)) ∈ gw := gw_mem (mT8 (i := 17) rfl) rfl
theorem q1840 : (Jvm.Cond.selects "FrameHeirsModel" ({ cls := "FrameHeirsModel", name := "shared", desc := "(II)I" } : Jvm.MethodName) ({ cls := "FrameHeirsModel", name := "shared", desc := "(II)I" } : Jvm.MethodName)) ∈ gw := gw_mem (mT8 (i := 18) rfl) rfl
theorem q1841 : (Jvm.Cond.code ({ cls := "FrameHeirsModel", name := "shared", desc := "(II)I" } : Jvm.MethodName) prog_8_method_132_code (5 : Nat) (Option.some Jvm.ClassFile.FieldType.int)) ∈ gw := gw_mem (mT8 (i := 19) rfl) rfl
theorem q1842 : (Jvm.Cond.methodLink "FrameHeirsLaw" (123 : Nat) ({ cls := "FrameHeirsModel", name := "gates", desc := "(II)I" } : Jvm.MethodName)) ∈ gw := gw_mem (mT8 (i := 20) rfl) rfl
theorem q1843 : (Jvm.Cond.instanceMethod ({ cls := "FrameHeirsModel", name := "gates", desc := "(II)I" } : Jvm.MethodName)) ∈ gw := gw_mem (mT8 (i := 21) rfl) rfl
theorem q1844 : (Jvm.Cond.selects "FrameHeirsModel" ({ cls := "FrameHeirsModel", name := "gates", desc := "(II)I" } : Jvm.MethodName) ({ cls := "FrameHeirsModel", name := "gates", desc := "(II)I" } : Jvm.MethodName)) ∈ gw := gw_mem (mT8 (i := 22) rfl) rfl
theorem q1845 : (Jvm.Cond.code ({ cls := "FrameHeirsModel", name := "gates", desc := "(II)I" } : Jvm.MethodName) prog_8_method_135_code (7 : Nat) (Option.some Jvm.ClassFile.FieldType.int)) ∈ gw := gw_mem (mT8 (i := 23) rfl) rfl
theorem q1846 : (Jvm.Cond.methodLink "FrameHeirsModel" (454 : Nat) ({ cls := "FrameHeirsModel", name := "isTopGate", desc := "(II)Z" } : Jvm.MethodName)) ∈ gw := gw_mem (mT8 (i := 24) rfl) rfl
theorem q1848 : (Jvm.Cond.instanceMethod ({ cls := "FrameHeirsModel", name := "isTopGate", desc := "(II)Z" } : Jvm.MethodName)) ∈ gw := gw_mem (mT8 (i := 26) rfl) rfl
theorem q1849 : (Jvm.Cond.code ({ cls := "FrameHeirsModel", name := "isTopGate", desc := "(II)Z" } : Jvm.MethodName) prog_8_method_134_code (4 : Nat) (Option.some Jvm.ClassFile.FieldType.boolean)) ∈ gw := gw_mem (mT8 (i := 27) rfl) rfl
theorem q1850 : (Jvm.Cond.methodLink "FrameHeirsModel" (451 : Nat) ({ cls := "FrameHeirsModel", name := "isGate", desc := "(II)Z" } : Jvm.MethodName)) ∈ gw := gw_mem (mT8 (i := 28) rfl) rfl
theorem q1852 : (Jvm.Cond.instanceMethod ({ cls := "FrameHeirsModel", name := "isGate", desc := "(II)Z" } : Jvm.MethodName)) ∈ gw := gw_mem (mT8 (i := 30) rfl) rfl
theorem q1853 : (Jvm.Cond.code ({ cls := "FrameHeirsModel", name := "isGate", desc := "(II)Z" } : Jvm.MethodName) prog_8_method_133_code (3 : Nat) (Option.some Jvm.ClassFile.FieldType.boolean)) ∈ gw := gw_mem (mT8 (i := 31) rfl) rfl
theorem q1854 : (Jvm.Cond.methodLink "FrameHeirsLaw" (127 : Nat) ({ cls := "FrameHeirsModel", name := "gap", desc := "(II)I" } : Jvm.MethodName)) ∈ gw := gw_mem (mT8 (i := 32) rfl) rfl
theorem q1855 : (Jvm.Cond.instanceMethod ({ cls := "FrameHeirsModel", name := "gap", desc := "(II)I" } : Jvm.MethodName)) ∈ gw := gw_mem (mT8 (i := 33) rfl) rfl
theorem q1856 : (Jvm.Cond.selects "FrameHeirsModel" ({ cls := "FrameHeirsModel", name := "gap", desc := "(II)I" } : Jvm.MethodName) ({ cls := "FrameHeirsModel", name := "gap", desc := "(II)I" } : Jvm.MethodName)) ∈ gw := gw_mem (mT8 (i := 34) rfl) rfl
theorem q1857 : (Jvm.Cond.code ({ cls := "FrameHeirsModel", name := "gap", desc := "(II)I" } : Jvm.MethodName) prog_8_method_136_code (4 : Nat) (Option.some Jvm.ClassFile.FieldType.int)) ∈ gw := gw_mem (mT8 (i := 35) rfl) rfl
theorem q1858 : (Jvm.Cond.methodLink "FrameHeirsLaw" (131 : Nat) ({ cls := "FrameHeirsModel", name := "free", desc := "(I)I" } : Jvm.MethodName)) ∈ gw := gw_mem (mT8 (i := 36) rfl) rfl
theorem q1859 : (Jvm.Cond.instanceMethod ({ cls := "FrameHeirsModel", name := "free", desc := "(I)I" } : Jvm.MethodName)) ∈ gw := gw_mem (mT8 (i := 37) rfl) rfl
theorem q1860 : (Jvm.Cond.selects "FrameHeirsModel" ({ cls := "FrameHeirsModel", name := "free", desc := "(I)I" } : Jvm.MethodName) ({ cls := "FrameHeirsModel", name := "free", desc := "(I)I" } : Jvm.MethodName)) ∈ gw := gw_mem (mT8 (i := 38) rfl) rfl
theorem q1861 : (Jvm.Cond.code ({ cls := "FrameHeirsModel", name := "free", desc := "(I)I" } : Jvm.MethodName) prog_8_method_137_code (3 : Nat) (Option.some Jvm.ClassFile.FieldType.int)) ∈ gw := gw_mem (mT8 (i := 39) rfl) rfl
theorem q1862 : (Jvm.Cond.methodLink "FrameHeirsLaw" (135 : Nat) ({ cls := "FrameHeirsModel", name := "coldest", desc := "(I)I" } : Jvm.MethodName)) ∈ gw := gw_mem (mT8 (i := 40) rfl) rfl
theorem q1863 : (Jvm.Cond.instanceMethod ({ cls := "FrameHeirsModel", name := "coldest", desc := "(I)I" } : Jvm.MethodName)) ∈ gw := gw_mem (mT8 (i := 41) rfl) rfl
theorem q1864 : (Jvm.Cond.selects "FrameHeirsModel" ({ cls := "FrameHeirsModel", name := "coldest", desc := "(I)I" } : Jvm.MethodName) ({ cls := "FrameHeirsModel", name := "coldest", desc := "(I)I" } : Jvm.MethodName)) ∈ gw := gw_mem (mT8 (i := 42) rfl) rfl
theorem q1865 : (Jvm.Cond.code ({ cls := "FrameHeirsModel", name := "coldest", desc := "(I)I" } : Jvm.MethodName) prog_8_method_138_code (3 : Nat) (Option.some Jvm.ClassFile.FieldType.int)) ∈ gw := gw_mem (mT8 (i := 43) rfl) rfl
theorem q1866 : (Jvm.Cond.methodLink "FrameHeirsLaw" (139 : Nat) ({ cls := "FrameHeirsModel", name := "age", desc := "(II)I" } : Jvm.MethodName)) ∈ gw := gw_mem (mT8 (i := 44) rfl) rfl
theorem q1867 : (Jvm.Cond.instanceMethod ({ cls := "FrameHeirsModel", name := "age", desc := "(II)I" } : Jvm.MethodName)) ∈ gw := gw_mem (mT8 (i := 45) rfl) rfl
theorem q1868 : (Jvm.Cond.selects "FrameHeirsModel" ({ cls := "FrameHeirsModel", name := "age", desc := "(II)I" } : Jvm.MethodName) ({ cls := "FrameHeirsModel", name := "age", desc := "(II)I" } : Jvm.MethodName)) ∈ gw := gw_mem (mT8 (i := 46) rfl) rfl
theorem q1869 : (Jvm.Cond.code ({ cls := "FrameHeirsModel", name := "age", desc := "(II)I" } : Jvm.MethodName) prog_8_method_139_code (4 : Nat) (Option.some Jvm.ClassFile.FieldType.int)) ∈ gw := gw_mem (mT8 (i := 47) rfl) rfl
theorem q1870 : (Jvm.Cond.methodLink "FrameHeirsLaw" (143 : Nat) ({ cls := "FrameHeirsModel", name := "warmth", desc := "(I)I" } : Jvm.MethodName)) ∈ gw := gw_mem (mT8 (i := 48) rfl) rfl
theorem q1871 : (Jvm.Cond.instanceMethod ({ cls := "FrameHeirsModel", name := "warmth", desc := "(I)I" } : Jvm.MethodName)) ∈ gw := gw_mem (mT8 (i := 49) rfl) rfl
theorem q1872 : (Jvm.Cond.selects "FrameHeirsModel" ({ cls := "FrameHeirsModel", name := "warmth", desc := "(I)I" } : Jvm.MethodName) ({ cls := "FrameHeirsModel", name := "warmth", desc := "(I)I" } : Jvm.MethodName)) ∈ gw := gw_mem (mT8 (i := 50) rfl) rfl
theorem q1873 : (Jvm.Cond.code ({ cls := "FrameHeirsModel", name := "warmth", desc := "(I)I" } : Jvm.MethodName) prog_8_method_140_code (2 : Nat) (Option.some Jvm.ClassFile.FieldType.int)) ∈ gw := gw_mem (mT8 (i := 51) rfl) rfl
theorem q1874 : (Jvm.Cond.methodLink "FrameHeirsModel" (457 : Nat) ({ cls := "FrameHeirsModel", name := "warmthOf", desc := "(I)I" } : Jvm.MethodName)) ∈ gw := gw_mem (mT8 (i := 52) rfl) rfl
theorem q1876 : (Jvm.Cond.instanceMethod ({ cls := "FrameHeirsModel", name := "warmthOf", desc := "(I)I" } : Jvm.MethodName)) ∈ gw := gw_mem (mT8 (i := 54) rfl) rfl
theorem q1877 : (Jvm.Cond.code ({ cls := "FrameHeirsModel", name := "warmthOf", desc := "(I)I" } : Jvm.MethodName) prog_8_method_92_code (5 : Nat) (Option.some Jvm.ClassFile.FieldType.int)) ∈ gw := gw_mem (mT8 (i := 55) rfl) rfl
theorem q1878 : (Jvm.Cond.methodLink "FrameHeirsLaw" (147 : Nat) ({ cls := "FrameHeirsModel", name := "ratio", desc := "(II)I" } : Jvm.MethodName)) ∈ gw := gw_mem (mT8 (i := 56) rfl) rfl
theorem q1879 : (Jvm.Cond.instanceMethod ({ cls := "FrameHeirsModel", name := "ratio", desc := "(II)I" } : Jvm.MethodName)) ∈ gw := gw_mem (mT8 (i := 57) rfl) rfl
theorem q1880 : (Jvm.Cond.selects "FrameHeirsModel" ({ cls := "FrameHeirsModel", name := "ratio", desc := "(II)I" } : Jvm.MethodName) ({ cls := "FrameHeirsModel", name := "ratio", desc := "(II)I" } : Jvm.MethodName)) ∈ gw := gw_mem (mT8 (i := 58) rfl) rfl
theorem q1881 : (Jvm.Cond.code ({ cls := "FrameHeirsModel", name := "ratio", desc := "(II)I" } : Jvm.MethodName) prog_8_method_141_code (4 : Nat) (Option.some Jvm.ClassFile.FieldType.int)) ∈ gw := gw_mem (mT8 (i := 59) rfl) rfl
theorem q1882 : (Jvm.Cond.methodLink "FrameHeirsModel" (460 : Nat) ({ cls := "FrameHeirsModel", name := "cutOf", desc := "(I)I" } : Jvm.MethodName)) ∈ gw := gw_mem (mT8 (i := 60) rfl) rfl
theorem q1883 : (Jvm.Cond.static ({ cls := "FrameHeirsModel", name := "cutOf", desc := "(I)I" } : Jvm.MethodName)) ∈ gw := gw_mem (mT8 (i := 61) rfl) rfl
theorem q1884 : (Jvm.Cond.code ({ cls := "FrameHeirsModel", name := "cutOf", desc := "(I)I" } : Jvm.MethodName) prog_8_method_91_code (2 : Nat) (Option.some Jvm.ClassFile.FieldType.int)) ∈ gw := gw_mem (mT8 (i := 62) rfl) rfl
theorem q1885 : (Jvm.Cond.constant "FrameHeirsModel" (357 : Nat) (2147483647 : Int32)) ∈ gw := gw_mem (mT8 (i := 63) rfl) rfl
theorem q1886 : (Jvm.Cond.methodLink "FrameHeirsLaw" (151 : Nat) ({ cls := "FrameHeirsModel", name := "cool", desc := "(I)I" } : Jvm.MethodName)) ∈ gw := gw_mem (mT8 (i := 64) rfl) rfl
theorem q1887 : (Jvm.Cond.instanceMethod ({ cls := "FrameHeirsModel", name := "cool", desc := "(I)I" } : Jvm.MethodName)) ∈ gw := gw_mem (mT8 (i := 65) rfl) rfl
theorem q1888 : (Jvm.Cond.selects "FrameHeirsModel" ({ cls := "FrameHeirsModel", name := "cool", desc := "(I)I" } : Jvm.MethodName) ({ cls := "FrameHeirsModel", name := "cool", desc := "(I)I" } : Jvm.MethodName)) ∈ gw := gw_mem (mT8 (i := 66) rfl) rfl
theorem q1889 : (Jvm.Cond.code ({ cls := "FrameHeirsModel", name := "cool", desc := "(I)I" } : Jvm.MethodName) prog_8_method_142_code (3 : Nat) (Option.some Jvm.ClassFile.FieldType.int)) ∈ gw := gw_mem (mT8 (i := 67) rfl) rfl
theorem q1890 : (Jvm.Cond.methodLink "FrameHeirsModel" (463 : Nat) ({ cls := "FrameHeirsModel", name := "asNow", desc := "()V" } : Jvm.MethodName)) ∈ gw := gw_mem (mT8 (i := 68) rfl) rfl
theorem q1892 : (Jvm.Cond.instanceMethod ({ cls := "FrameHeirsModel", name := "asNow", desc := "()V" } : Jvm.MethodName)) ∈ gw := gw_mem (mT8 (i := 70) rfl) rfl
theorem q1893 : (Jvm.Cond.code ({ cls := "FrameHeirsModel", name := "asNow", desc := "()V" } : Jvm.MethodName) prog_8_method_34_code (1 : Nat) (Option.none : Option Jvm.ClassFile.FieldType)) ∈ gw := gw_mem (mT8 (i := 71) rfl) rfl
theorem q1894 : (Jvm.Cond.methodLink "FrameHeirsLaw" (155 : Nat) ({ cls := "FrameHeirsModel", name := "kept", desc := "(I)I" } : Jvm.MethodName)) ∈ gw := gw_mem (mT8 (i := 72) rfl) rfl
theorem q1895 : (Jvm.Cond.instanceMethod ({ cls := "FrameHeirsModel", name := "kept", desc := "(I)I" } : Jvm.MethodName)) ∈ gw := gw_mem (mT8 (i := 73) rfl) rfl
theorem q1896 : (Jvm.Cond.selects "FrameHeirsModel" ({ cls := "FrameHeirsModel", name := "kept", desc := "(I)I" } : Jvm.MethodName) ({ cls := "FrameHeirsModel", name := "kept", desc := "(I)I" } : Jvm.MethodName)) ∈ gw := gw_mem (mT8 (i := 74) rfl) rfl
theorem q1897 : (Jvm.Cond.code ({ cls := "FrameHeirsModel", name := "kept", desc := "(I)I" } : Jvm.MethodName) prog_8_method_143_code (4 : Nat) (Option.some Jvm.ClassFile.FieldType.int)) ∈ gw := gw_mem (mT8 (i := 75) rfl) rfl
theorem q1898 : (Jvm.Cond.methodLink "FrameHeirsLaw" (159 : Nat) ({ cls := "FrameHeirsModel", name := "job", desc := "(II)I" } : Jvm.MethodName)) ∈ gw := gw_mem (mT8 (i := 76) rfl) rfl
theorem q1899 : (Jvm.Cond.instanceMethod ({ cls := "FrameHeirsModel", name := "job", desc := "(II)I" } : Jvm.MethodName)) ∈ gw := gw_mem (mT8 (i := 77) rfl) rfl
theorem q1900 : (Jvm.Cond.selects "FrameHeirsModel" ({ cls := "FrameHeirsModel", name := "job", desc := "(II)I" } : Jvm.MethodName) ({ cls := "FrameHeirsModel", name := "job", desc := "(II)I" } : Jvm.MethodName)) ∈ gw := gw_mem (mT8 (i := 78) rfl) rfl
theorem q1901 : (Jvm.Cond.code ({ cls := "FrameHeirsModel", name := "job", desc := "(II)I" } : Jvm.MethodName) prog_8_method_144_code (3 : Nat) (Option.some Jvm.ClassFile.FieldType.int)) ∈ gw := gw_mem (mT8 (i := 79) rfl) rfl
theorem q1902 : (Jvm.Cond.methodLink "FrameHeirsLaw" (163 : Nat) ({ cls := "FrameHeirsModel", name := "waits", desc := "(II)I" } : Jvm.MethodName)) ∈ gw := gw_mem (mT8 (i := 80) rfl) rfl
theorem q1903 : (Jvm.Cond.instanceMethod ({ cls := "FrameHeirsModel", name := "waits", desc := "(II)I" } : Jvm.MethodName)) ∈ gw := gw_mem (mT8 (i := 81) rfl) rfl
theorem q1904 : (Jvm.Cond.selects "FrameHeirsModel" ({ cls := "FrameHeirsModel", name := "waits", desc := "(II)I" } : Jvm.MethodName) ({ cls := "FrameHeirsModel", name := "waits", desc := "(II)I" } : Jvm.MethodName)) ∈ gw := gw_mem (mT8 (i := 82) rfl) rfl
theorem q1905 : (Jvm.Cond.code ({ cls := "FrameHeirsModel", name := "waits", desc := "(II)I" } : Jvm.MethodName) prog_8_method_145_code (5 : Nat) (Option.some Jvm.ClassFile.FieldType.int)) ∈ gw := gw_mem (mT8 (i := 83) rfl) rfl
theorem q1906 : (Jvm.Cond.methodLink "FrameHeirsLaw" (167 : Nat) ({ cls := "FrameHeirsModel", name := "lost", desc := "(III)I" } : Jvm.MethodName)) ∈ gw := gw_mem (mT8 (i := 84) rfl) rfl
theorem q1907 : (Jvm.Cond.instanceMethod ({ cls := "FrameHeirsModel", name := "lost", desc := "(III)I" } : Jvm.MethodName)) ∈ gw := gw_mem (mT8 (i := 85) rfl) rfl
theorem q1908 : (Jvm.Cond.selects "FrameHeirsModel" ({ cls := "FrameHeirsModel", name := "lost", desc := "(III)I" } : Jvm.MethodName) ({ cls := "FrameHeirsModel", name := "lost", desc := "(III)I" } : Jvm.MethodName)) ∈ gw := gw_mem (mT8 (i := 86) rfl) rfl
theorem q1909 : (Jvm.Cond.code ({ cls := "FrameHeirsModel", name := "lost", desc := "(III)I" } : Jvm.MethodName) prog_8_method_147_code (12 : Nat) (Option.some Jvm.ClassFile.FieldType.int)) ∈ gw := gw_mem (mT8 (i := 87) rfl) rfl
theorem q1910 : (Jvm.Cond.methodLink "FrameHeirsModel" (466 : Nat) ({ cls := "FrameHeirsModel", name := "isBelowThere", desc := "(I)Z" } : Jvm.MethodName)) ∈ gw := gw_mem (mT8 (i := 88) rfl) rfl
theorem q1912 : (Jvm.Cond.instanceMethod ({ cls := "FrameHeirsModel", name := "isBelowThere", desc := "(I)Z" } : Jvm.MethodName)) ∈ gw := gw_mem (mT8 (i := 90) rfl) rfl
theorem q1913 : (Jvm.Cond.code ({ cls := "FrameHeirsModel", name := "isBelowThere", desc := "(I)Z" } : Jvm.MethodName) prog_8_method_146_code (3 : Nat) (Option.some Jvm.ClassFile.FieldType.boolean)) ∈ gw := gw_mem (mT8 (i := 91) rfl) rfl
theorem q1914 : (Jvm.Cond.methodLink "FrameHeirsLaw" (171 : Nat) ({ cls := "FrameHeirsModel", name := "steps", desc := "(II)I" } : Jvm.MethodName)) ∈ gw := gw_mem (mT8 (i := 92) rfl) rfl
theorem q1915 : (Jvm.Cond.instanceMethod ({ cls := "FrameHeirsModel", name := "steps", desc := "(II)I" } : Jvm.MethodName)) ∈ gw := gw_mem (mT8 (i := 93) rfl) rfl
theorem q1916 : (Jvm.Cond.selects "FrameHeirsModel" ({ cls := "FrameHeirsModel", name := "steps", desc := "(II)I" } : Jvm.MethodName) ({ cls := "FrameHeirsModel", name := "steps", desc := "(II)I" } : Jvm.MethodName)) ∈ gw := gw_mem (mT8 (i := 94) rfl) rfl
theorem q1917 : (Jvm.Cond.code ({ cls := "FrameHeirsModel", name := "steps", desc := "(II)I" } : Jvm.MethodName) prog_8_method_148_code (4 : Nat) (Option.some Jvm.ClassFile.FieldType.int)) ∈ gw := gw_mem (mT8 (i := 95) rfl) rfl
theorem q1918 : (Jvm.Cond.methodLink "FrameHeirsLaw" (175 : Nat) ({ cls := "FrameHeirsModel", name := "tried", desc := "(I)I" } : Jvm.MethodName)) ∈ gw := gw_mem (mT8 (i := 96) rfl) rfl
theorem q1919 : (Jvm.Cond.instanceMethod ({ cls := "FrameHeirsModel", name := "tried", desc := "(I)I" } : Jvm.MethodName)) ∈ gw := gw_mem (mT8 (i := 97) rfl) rfl
theorem q1920 : (Jvm.Cond.selects "FrameHeirsModel" ({ cls := "FrameHeirsModel", name := "tried", desc := "(I)I" } : Jvm.MethodName) ({ cls := "FrameHeirsModel", name := "tried", desc := "(I)I" } : Jvm.MethodName)) ∈ gw := gw_mem (mT8 (i := 98) rfl) rfl
theorem q1921 : (Jvm.Cond.code ({ cls := "FrameHeirsModel", name := "tried", desc := "(I)I" } : Jvm.MethodName) prog_8_method_149_code (5 : Nat) (Option.some Jvm.ClassFile.FieldType.int)) ∈ gw := gw_mem (mT8 (i := 99) rfl) rfl
theorem q1922 : (Jvm.Cond.methodLink "FrameHeirsModel" (469 : Nat) ({ cls := "FrameHeirsModel", name := "pagesAll", desc := "()I" } : Jvm.MethodName)) ∈ gw := gw_mem (mT8 (i := 100) rfl) rfl
theorem q1924 : (Jvm.Cond.instanceMethod ({ cls := "FrameHeirsModel", name := "pagesAll", desc := "()I" } : Jvm.MethodName)) ∈ gw := gw_mem (mT8 (i := 102) rfl) rfl
theorem q1925 : (Jvm.Cond.code ({ cls := "FrameHeirsModel", name := "pagesAll", desc := "()I" } : Jvm.MethodName) prog_8_method_95_code (3 : Nat) (Option.some Jvm.ClassFile.FieldType.int)) ∈ gw := gw_mem (mT8 (i := 103) rfl) rfl
theorem q1926 : (Jvm.Cond.methodLink "FrameHeirsLaw" (179 : Nat) ({ cls := "FrameHeirsModel", name := "churn", desc := "(II)I" } : Jvm.MethodName)) ∈ gw := gw_mem (mT8 (i := 104) rfl) rfl
theorem q1927 : (Jvm.Cond.instanceMethod ({ cls := "FrameHeirsModel", name := "churn", desc := "(II)I" } : Jvm.MethodName)) ∈ gw := gw_mem (mT8 (i := 105) rfl) rfl
theorem q1928 : (Jvm.Cond.selects "FrameHeirsModel" ({ cls := "FrameHeirsModel", name := "churn", desc := "(II)I" } : Jvm.MethodName) ({ cls := "FrameHeirsModel", name := "churn", desc := "(II)I" } : Jvm.MethodName)) ∈ gw := gw_mem (mT8 (i := 106) rfl) rfl
theorem q1929 : (Jvm.Cond.code ({ cls := "FrameHeirsModel", name := "churn", desc := "(II)I" } : Jvm.MethodName) prog_8_method_151_code (8 : Nat) (Option.some Jvm.ClassFile.FieldType.int)) ∈ gw := gw_mem (mT8 (i := 107) rfl) rfl
theorem q1930 : (Jvm.Cond.methodLink "FrameHeirsModel" (484 : Nat) ({ cls := "FrameHeirsModel", name := "drawnBy", desc := "(I)I" } : Jvm.MethodName)) ∈ gw := gw_mem (mT8 (i := 108) rfl) rfl
theorem q1932 : (Jvm.Cond.instanceMethod ({ cls := "FrameHeirsModel", name := "drawnBy", desc := "(I)I" } : Jvm.MethodName)) ∈ gw := gw_mem (mT8 (i := 110) rfl) rfl
theorem q1933 : (Jvm.Cond.code ({ cls := "FrameHeirsModel", name := "drawnBy", desc := "(I)I" } : Jvm.MethodName) prog_8_method_150_code (2 : Nat) (Option.some Jvm.ClassFile.FieldType.int)) ∈ gw := gw_mem (mT8 (i := 111) rfl) rfl
theorem q1934 : (Jvm.Cond.constantLong "FrameHeirsModel" (476 : Nat) (1103515245 : Int64)) ∈ gw := gw_mem (mT8 (i := 112) rfl) rfl
theorem q1935 : (Jvm.Cond.constantLong "FrameHeirsModel" (478 : Nat) (12345 : Int64)) ∈ gw := gw_mem (mT8 (i := 113) rfl) rfl
theorem q1936 : (Jvm.Cond.constantLong "FrameHeirsModel" (480 : Nat) (2147483647 : Int64)) ∈ gw := gw_mem (mT8 (i := 114) rfl) rfl
theorem q1937 : (Jvm.Cond.constantLong "FrameHeirsModel" (482 : Nat) (65536 : Int64)) ∈ gw := gw_mem (mT8 (i := 115) rfl) rfl
theorem q1938 : (Jvm.Cond.methodLink "FrameHeirsLaw" (187 : Nat) ({ cls := "FrameHeirsModel", name := "count", desc := "(I)I" } : Jvm.MethodName)) ∈ gw := gw_mem (mT8 (i := 116) rfl) rfl
theorem q1939 : (Jvm.Cond.instanceMethod ({ cls := "FrameHeirsModel", name := "count", desc := "(I)I" } : Jvm.MethodName)) ∈ gw := gw_mem (mT8 (i := 117) rfl) rfl
theorem q1940 : (Jvm.Cond.selects "FrameHeirsModel" ({ cls := "FrameHeirsModel", name := "count", desc := "(I)I" } : Jvm.MethodName) ({ cls := "FrameHeirsModel", name := "count", desc := "(I)I" } : Jvm.MethodName)) ∈ gw := gw_mem (mT8 (i := 118) rfl) rfl
theorem q1941 : (Jvm.Cond.code ({ cls := "FrameHeirsModel", name := "count", desc := "(I)I" } : Jvm.MethodName) prog_8_method_152_code (4 : Nat) (Option.some Jvm.ClassFile.FieldType.int)) ∈ gw := gw_mem (mT8 (i := 119) rfl) rfl
theorem q1942 : (Jvm.Cond.arrayClass Jvm.ClassFile.FieldType.long) ∈ gw := gw_mem (mT8 (i := 120) rfl) rfl
theorem inw_of {ws : List Cond} (ps : List Nat) (h : ws = ps.filterMap (fun i => lw_tbl[i]?)) (h2 : ws.all goodWord = true) : ∀ w ∈ ws, w ∈ gw := fun w hw => by
  have h1 := List.all_eq_true.mp h2 w hw
  rw [h] at hw
  obtain ⟨i, -, hi⟩ := List.mem_filterMap.mp hw
  exact gw_mem (List.mem_of_getElem? hi) h1
theorem inwX0 : ∀ w ∈ u_ws RX0 TX0 20, w ∈ gw := fun w hw => by
  obtain ⟨k, hk, rfl⟩ := List.mem_map.mp hw
  have hk := List.mem_range.mp hk
  match k, hk with
  | 0, _ => exact q334
  | 1, _ => exact q336
  | 2, _ => exact q338
  | 3, _ => exact q340
  | 4, _ => exact q342
  | 5, _ => exact q344
  | 6, _ => exact q346
  | 7, _ => exact q348
  | 8, _ => exact q350
  | 9, _ => exact q352
  | 10, _ => exact q354
  | 11, _ => exact q356
  | 12, _ => exact q358
  | 13, _ => exact q360
  | 14, _ => exact q362
  | 15, _ => exact q364
  | 16, _ => exact q366
  | 17, _ => exact q368
  | 18, _ => exact q370
  | 19, _ => exact q372
  | k + 20, h => omega
theorem inwX2 : ∀ w ∈ u_ws RX2 TX2 11, w ∈ gw := fun w hw => by
  obtain ⟨k, hk, rfl⟩ := List.mem_map.mp hw
  have hk := List.mem_range.mp hk
  match k, hk with
  | 0, _ => exact q255
  | 1, _ => exact q257
  | 2, _ => exact q259
  | 3, _ => exact q261
  | 4, _ => exact q263
  | 5, _ => exact q265
  | 6, _ => exact q267
  | 7, _ => exact q269
  | 8, _ => exact q271
  | 9, _ => exact q273
  | 10, _ => exact q275
  | k + 11, h => omega
theorem inwX3 : ∀ w ∈ u_ws RX3 TX3 12, w ∈ gw := fun w hw => by
  obtain ⟨k, hk, rfl⟩ := List.mem_map.mp hw
  have hk := List.mem_range.mp hk
  match k, hk with
  | 0, _ => exact q210
  | 1, _ => exact q212
  | 2, _ => exact q214
  | 3, _ => exact q216
  | 4, _ => exact q218
  | 5, _ => exact q220
  | 6, _ => exact q222
  | 7, _ => exact q224
  | 8, _ => exact q226
  | 9, _ => exact q228
  | 10, _ => exact q230
  | 11, _ => exact q232
  | k + 12, h => omega
theorem inwX4 : ∀ w ∈ u_ws RX4 TX4 15, w ∈ gw := fun w hw => by
  obtain ⟨k, hk, rfl⟩ := List.mem_map.mp hw
  have hk := List.mem_range.mp hk
  match k, hk with
  | 0, _ => exact q399
  | 1, _ => exact q401
  | 2, _ => exact q403
  | 3, _ => exact q405
  | 4, _ => exact q407
  | 5, _ => exact q409
  | 6, _ => exact q411
  | 7, _ => exact q413
  | 8, _ => exact q415
  | 9, _ => exact q417
  | 10, _ => exact q419
  | 11, _ => exact q421
  | 12, _ => exact q423
  | 13, _ => exact q425
  | 14, _ => exact q427
  | k + 15, h => omega
theorem inwX5 : ∀ w ∈ u_ws RX5 TX5 10, w ∈ gw := fun w hw => by
  obtain ⟨k, hk, rfl⟩ := List.mem_map.mp hw
  have hk := List.mem_range.mp hk
  match k, hk with
  | 0, _ => exact q441
  | 1, _ => exact q443
  | 2, _ => exact q445
  | 3, _ => exact q447
  | 4, _ => exact q449
  | 5, _ => exact q451
  | 6, _ => exact q453
  | 7, _ => exact q455
  | 8, _ => exact q457
  | 9, _ => exact q459
  | k + 10, h => omega
theorem inwX6 : ∀ w ∈ u_ws RX6 TX6 32, w ∈ gw := fun w hw => by
  obtain ⟨k, hk, rfl⟩ := List.mem_map.mp hw
  have hk := List.mem_range.mp hk
  match k, hk with
  | 0, _ => exact q1302
  | 1, _ => exact q1304
  | 2, _ => exact q1306
  | 3, _ => exact q1308
  | 4, _ => exact q1310
  | 5, _ => exact q1312
  | 6, _ => exact q1314
  | 7, _ => exact q1316
  | 8, _ => exact q1318
  | 9, _ => exact q1320
  | 10, _ => exact q1322
  | 11, _ => exact q1324
  | 12, _ => exact q1326
  | 13, _ => exact q1328
  | 14, _ => exact q1330
  | 15, _ => exact q1332
  | 16, _ => exact q1334
  | 17, _ => exact q1336
  | 18, _ => exact q1338
  | 19, _ => exact q1340
  | 20, _ => exact q1342
  | 21, _ => exact q1344
  | 22, _ => exact q1346
  | 23, _ => exact q1348
  | 24, _ => exact q1350
  | 25, _ => exact q1352
  | 26, _ => exact q1354
  | 27, _ => exact q1356
  | 28, _ => exact q1358
  | 29, _ => exact q1360
  | 30, _ => exact q1362
  | 31, _ => exact q1364
  | k + 32, h => omega
