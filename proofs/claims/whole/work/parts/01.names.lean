-- ===== PART A: goes FIRST, ahead of the names: the tables' words, and 'selects' of the private methods out of them =====
/-- a private method of a class that the tables say can be made, by its rows of tables_1 -/
def lw_okq (q : MethodName × Nat) : Prop := (q.1.cls ≠ "java/lang/invoke/MethodHandle" ∧ q.1.cls ≠ "java/lang/invoke/VarHandle") ∧ Cond.instantiable q.1.cls q.2 ∈ tables_1 ∧ Cond.privateMethod q.1 ∈ tables_1 ∧ Cond.instanceMethod q.1 ∈ tables_1
theorem lw_p0 : lw_okq (⟨"FrameHeirs", "tapeNumber", "(I)V"⟩, 10) := ⟨⟨by decide +kernel, by decide +kernel⟩, List.mem_of_getElem? (i := 18) (by decide +kernel), List.mem_of_getElem? (i := 325) (by decide +kernel), List.mem_of_getElem? (i := 326) (by decide +kernel)⟩
theorem lw_p1 : lw_okq (⟨"FrameHeirs$Reader", "take", "()V"⟩, 11) := ⟨⟨by decide +kernel, by decide +kernel⟩, List.mem_of_getElem? (i := 95) (by decide +kernel), List.mem_of_getElem? (i := 348) (by decide +kernel), List.mem_of_getElem? (i := 349) (by decide +kernel)⟩
theorem lw_p2 : lw_okq (⟨"FrameHeirs$Reader", "takeWord", "()V"⟩, 11) := ⟨⟨by decide +kernel, by decide +kernel⟩, List.mem_of_getElem? (i := 95) (by decide +kernel), List.mem_of_getElem? (i := 358) (by decide +kernel), List.mem_of_getElem? (i := 359) (by decide +kernel)⟩
theorem lw_p3 : lw_okq (⟨"FrameHeirs$Reader", "takeDigits", "()V"⟩, 11) := ⟨⟨by decide +kernel, by decide +kernel⟩, List.mem_of_getElem? (i := 95) (by decide +kernel), List.mem_of_getElem? (i := 367) (by decide +kernel), List.mem_of_getElem? (i := 368) (by decide +kernel)⟩
theorem lw_p4 : lw_okq (⟨"FrameHeirs$Reader", "fail", "(I)Z"⟩, 11) := ⟨⟨by decide +kernel, by decide +kernel⟩, List.mem_of_getElem? (i := 95) (by decide +kernel), List.mem_of_getElem? (i := 376) (by decide +kernel), List.mem_of_getElem? (i := 377) (by decide +kernel)⟩
theorem lw_p5 : lw_okq (⟨"FrameHeirs$Reader", "readSpace", "()Z"⟩, 11) := ⟨⟨by decide +kernel, by decide +kernel⟩, List.mem_of_getElem? (i := 95) (by decide +kernel), List.mem_of_getElem? (i := 380) (by decide +kernel), List.mem_of_getElem? (i := 381) (by decide +kernel)⟩
theorem lw_p6 : lw_okq (⟨"FrameHeirs$Reader", "readPager", "()Z"⟩, 11) := ⟨⟨by decide +kernel, by decide +kernel⟩, List.mem_of_getElem? (i := 95) (by decide +kernel), List.mem_of_getElem? (i := 392) (by decide +kernel), List.mem_of_getElem? (i := 393) (by decide +kernel)⟩
theorem lw_p7 : lw_okq (⟨"FrameHeirs$Reader", "takeSpace", "()I"⟩, 11) := ⟨⟨by decide +kernel, by decide +kernel⟩, List.mem_of_getElem? (i := 95) (by decide +kernel), List.mem_of_getElem? (i := 396) (by decide +kernel), List.mem_of_getElem? (i := 397) (by decide +kernel)⟩
theorem lw_p8 : lw_okq (⟨"FrameHeirs$Reader", "takeNumber", "(II)I"⟩, 11) := ⟨⟨by decide +kernel, by decide +kernel⟩, List.mem_of_getElem? (i := 95) (by decide +kernel), List.mem_of_getElem? (i := 400) (by decide +kernel), List.mem_of_getElem? (i := 401) (by decide +kernel)⟩
theorem lw_p9 : lw_okq (⟨"FrameHeirs$Reader", "readQuota", "()Z"⟩, 11) := ⟨⟨by decide +kernel, by decide +kernel⟩, List.mem_of_getElem? (i := 95) (by decide +kernel), List.mem_of_getElem? (i := 404) (by decide +kernel), List.mem_of_getElem? (i := 405) (by decide +kernel)⟩
theorem lw_p10 : lw_okq (⟨"FrameHeirs$Reader", "readSetting", "(I)Z"⟩, 11) := ⟨⟨by decide +kernel, by decide +kernel⟩, List.mem_of_getElem? (i := 95) (by decide +kernel), List.mem_of_getElem? (i := 408) (by decide +kernel), List.mem_of_getElem? (i := 409) (by decide +kernel)⟩
theorem lw_p11 : lw_okq (⟨"FrameHeirs$Reader", "readStep", "(I)Z"⟩, 11) := ⟨⟨by decide +kernel, by decide +kernel⟩, List.mem_of_getElem? (i := 95) (by decide +kernel), List.mem_of_getElem? (i := 413) (by decide +kernel), List.mem_of_getElem? (i := 414) (by decide +kernel)⟩
theorem lw_p12 : lw_okq (⟨"FrameHeirs$Deeds", "settleAt", "(II)V"⟩, 20) := ⟨⟨by decide +kernel, by decide +kernel⟩, List.mem_of_getElem? (i := 143) (by decide +kernel), List.mem_of_getElem? (i := 450) (by decide +kernel), List.mem_of_getElem? (i := 451) (by decide +kernel)⟩
theorem lw_p13 : lw_okq (⟨"FrameHeirs$World", "widen", "(III)V"⟩, 15) := ⟨⟨by decide +kernel, by decide +kernel⟩, List.mem_of_getElem? (i := 137) (by decide +kernel), List.mem_of_getElem? (i := 454) (by decide +kernel), List.mem_of_getElem? (i := 455) (by decide +kernel)⟩
theorem lw_p14 : lw_okq (⟨"FrameHeirs", "remember", "()V"⟩, 10) := ⟨⟨by decide +kernel, by decide +kernel⟩, List.mem_of_getElem? (i := 18) (by decide +kernel), List.mem_of_getElem? (i := 471) (by decide +kernel), List.mem_of_getElem? (i := 472) (by decide +kernel)⟩
theorem lw_p15 : lw_okq (⟨"FrameHeirs$World", "isRegion", "(II)Z"⟩, 15) := ⟨⟨by decide +kernel, by decide +kernel⟩, List.mem_of_getElem? (i := 137) (by decide +kernel), List.mem_of_getElem? (i := 503) (by decide +kernel), List.mem_of_getElem? (i := 504) (by decide +kernel)⟩
def lw_privs_1 : List (MethodName × Nat) := [(⟨"FrameHeirs", "tapeNumber", "(I)V"⟩, 10), (⟨"FrameHeirs$Reader", "take", "()V"⟩, 11), (⟨"FrameHeirs$Reader", "takeWord", "()V"⟩, 11), (⟨"FrameHeirs$Reader", "takeDigits", "()V"⟩, 11), (⟨"FrameHeirs$Reader", "fail", "(I)Z"⟩, 11), (⟨"FrameHeirs$Reader", "readSpace", "()Z"⟩, 11), (⟨"FrameHeirs$Reader", "readPager", "()Z"⟩, 11), (⟨"FrameHeirs$Reader", "takeSpace", "()I"⟩, 11), (⟨"FrameHeirs$Reader", "takeNumber", "(II)I"⟩, 11), (⟨"FrameHeirs$Reader", "readQuota", "()Z"⟩, 11), (⟨"FrameHeirs$Reader", "readSetting", "(I)Z"⟩, 11), (⟨"FrameHeirs$Reader", "readStep", "(I)Z"⟩, 11), (⟨"FrameHeirs$Deeds", "settleAt", "(II)V"⟩, 20), (⟨"FrameHeirs$World", "widen", "(III)V"⟩, 15), (⟨"FrameHeirs", "remember", "()V"⟩, 10), (⟨"FrameHeirs$World", "isRegion", "(II)Z"⟩, 15)]
theorem lw_r1 : ∀ q ∈ lw_privs_1, lw_okq q := List.forall_mem_cons.mpr ⟨lw_p0, List.forall_mem_cons.mpr ⟨lw_p1, List.forall_mem_cons.mpr ⟨lw_p2, List.forall_mem_cons.mpr ⟨lw_p3, List.forall_mem_cons.mpr ⟨lw_p4, List.forall_mem_cons.mpr ⟨lw_p5, List.forall_mem_cons.mpr ⟨lw_p6, List.forall_mem_cons.mpr ⟨lw_p7, List.forall_mem_cons.mpr ⟨lw_p8, List.forall_mem_cons.mpr ⟨lw_p9, List.forall_mem_cons.mpr ⟨lw_p10, List.forall_mem_cons.mpr ⟨lw_p11, List.forall_mem_cons.mpr ⟨lw_p12, List.forall_mem_cons.mpr ⟨lw_p13, List.forall_mem_cons.mpr ⟨lw_p14, List.forall_mem_cons.mpr ⟨lw_p15, fun _ h => absurd h List.not_mem_nil⟩⟩⟩⟩⟩⟩⟩⟩⟩⟩⟩⟩⟩⟩⟩⟩
theorem lw_p16 : lw_okq (⟨"FrameHeirs$World", "seenIn", "(III)I"⟩, 15) := ⟨⟨by decide +kernel, by decide +kernel⟩, List.mem_of_getElem? (i := 137) (by decide +kernel), List.mem_of_getElem? (i := 510) (by decide +kernel), List.mem_of_getElem? (i := 511) (by decide +kernel)⟩
theorem lw_p17 : lw_okq (⟨"FrameHeirs$World", "pagesWith", "(IIII)I"⟩, 15) := ⟨⟨by decide +kernel, by decide +kernel⟩, List.mem_of_getElem? (i := 137) (by decide +kernel), List.mem_of_getElem? (i := 535) (by decide +kernel), List.mem_of_getElem? (i := 536) (by decide +kernel)⟩
theorem lw_p18 : lw_okq (⟨"FrameHeirs$World", "exceedsQuota", "(II)Z"⟩, 15) := ⟨⟨by decide +kernel, by decide +kernel⟩, List.mem_of_getElem? (i := 137) (by decide +kernel), List.mem_of_getElem? (i := 539) (by decide +kernel), List.mem_of_getElem? (i := 540) (by decide +kernel)⟩
theorem lw_p19 : lw_okq (⟨"FrameHeirs$World", "makeHeirs", "(IIIII)I"⟩, 15) := ⟨⟨by decide +kernel, by decide +kernel⟩, List.mem_of_getElem? (i := 137) (by decide +kernel), List.mem_of_getElem? (i := 548) (by decide +kernel), List.mem_of_getElem? (i := 549) (by decide +kernel)⟩
theorem lw_p20 : lw_okq (⟨"FrameHeirs$World", "addHeir", "(IIIIII)I"⟩, 15) := ⟨⟨by decide +kernel, by decide +kernel⟩, List.mem_of_getElem? (i := 137) (by decide +kernel), List.mem_of_getElem? (i := 553) (by decide +kernel), List.mem_of_getElem? (i := 554) (by decide +kernel)⟩
theorem lw_p21 : lw_okq (⟨"FrameHeirs", "keep", "(I)I"⟩, 10) := ⟨⟨by decide +kernel, by decide +kernel⟩, List.mem_of_getElem? (i := 18) (by decide +kernel), List.mem_of_getElem? (i := 564) (by decide +kernel), List.mem_of_getElem? (i := 565) (by decide +kernel)⟩
theorem lw_p22 : lw_okq (⟨"FrameHeirs$Deeds", "listAlike", "(I)I"⟩, 20) := ⟨⟨by decide +kernel, by decide +kernel⟩, List.mem_of_getElem? (i := 143) (by decide +kernel), List.mem_of_getElem? (i := 582) (by decide +kernel), List.mem_of_getElem? (i := 583) (by decide +kernel)⟩
theorem lw_p23 : lw_okq (⟨"FrameHeirs$Deeds", "halve", "(I)V"⟩, 20) := ⟨⟨by decide +kernel, by decide +kernel⟩, List.mem_of_getElem? (i := 143) (by decide +kernel), List.mem_of_getElem? (i := 586) (by decide +kernel), List.mem_of_getElem? (i := 587) (by decide +kernel)⟩
theorem lw_p24 : lw_okq (⟨"FrameHeirs$Deeds", "putBehind", "(II)V"⟩, 20) := ⟨⟨by decide +kernel, by decide +kernel⟩, List.mem_of_getElem? (i := 143) (by decide +kernel), List.mem_of_getElem? (i := 591) (by decide +kernel), List.mem_of_getElem? (i := 592) (by decide +kernel)⟩
theorem lw_p25 : lw_okq (⟨"FrameHeirs$Deeds", "takeFromGiver", "(I)V"⟩, 20) := ⟨⟨by decide +kernel, by decide +kernel⟩, List.mem_of_getElem? (i := 143) (by decide +kernel), List.mem_of_getElem? (i := 595) (by decide +kernel), List.mem_of_getElem? (i := 596) (by decide +kernel)⟩
theorem lw_p26 : lw_okq (⟨"FrameHeirs$World", "queueJob", "(IIIZ)I"⟩, 15) := ⟨⟨by decide +kernel, by decide +kernel⟩, List.mem_of_getElem? (i := 137) (by decide +kernel), List.mem_of_getElem? (i := 612) (by decide +kernel), List.mem_of_getElem? (i := 613) (by decide +kernel)⟩
theorem lw_p27 : lw_okq (⟨"FrameHeirs$World", "workOnce", "()V"⟩, 15) := ⟨⟨by decide +kernel, by decide +kernel⟩, List.mem_of_getElem? (i := 137) (by decide +kernel), List.mem_of_getElem? (i := 644) (by decide +kernel), List.mem_of_getElem? (i := 645) (by decide +kernel)⟩
theorem lw_p28 : lw_okq (⟨"FrameHeirs$Deeds", "release", "(I)V"⟩, 20) := ⟨⟨by decide +kernel, by decide +kernel⟩, List.mem_of_getElem? (i := 143) (by decide +kernel), List.mem_of_getElem? (i := 656) (by decide +kernel), List.mem_of_getElem? (i := 657) (by decide +kernel)⟩
theorem lw_p29 : lw_okq (⟨"FrameHeirs$World", "startWait", "(III)V"⟩, 15) := ⟨⟨by decide +kernel, by decide +kernel⟩, List.mem_of_getElem? (i := 137) (by decide +kernel), List.mem_of_getElem? (i := 672) (by decide +kernel), List.mem_of_getElem? (i := 673) (by decide +kernel)⟩
theorem lw_p30 : lw_okq (⟨"FrameHeirs$World", "firstWaiting", "(I)I"⟩, 15) := ⟨⟨by decide +kernel, by decide +kernel⟩, List.mem_of_getElem? (i := 137) (by decide +kernel), List.mem_of_getElem? (i := 684) (by decide +kernel), List.mem_of_getElem? (i := 685) (by decide +kernel)⟩
theorem lw_p31 : lw_okq (⟨"FrameHeirs$World", "sourceFor", "(II)I"⟩, 15) := ⟨⟨by decide +kernel, by decide +kernel⟩, List.mem_of_getElem? (i := 137) (by decide +kernel), List.mem_of_getElem? (i := 688) (by decide +kernel), List.mem_of_getElem? (i := 689) (by decide +kernel)⟩
def lw_privs_2 : List (MethodName × Nat) := [(⟨"FrameHeirs$World", "seenIn", "(III)I"⟩, 15), (⟨"FrameHeirs$World", "pagesWith", "(IIII)I"⟩, 15), (⟨"FrameHeirs$World", "exceedsQuota", "(II)Z"⟩, 15), (⟨"FrameHeirs$World", "makeHeirs", "(IIIII)I"⟩, 15), (⟨"FrameHeirs$World", "addHeir", "(IIIIII)I"⟩, 15), (⟨"FrameHeirs", "keep", "(I)I"⟩, 10), (⟨"FrameHeirs$Deeds", "listAlike", "(I)I"⟩, 20), (⟨"FrameHeirs$Deeds", "halve", "(I)V"⟩, 20), (⟨"FrameHeirs$Deeds", "putBehind", "(II)V"⟩, 20), (⟨"FrameHeirs$Deeds", "takeFromGiver", "(I)V"⟩, 20), (⟨"FrameHeirs$World", "queueJob", "(IIIZ)I"⟩, 15), (⟨"FrameHeirs$World", "workOnce", "()V"⟩, 15), (⟨"FrameHeirs$Deeds", "release", "(I)V"⟩, 20), (⟨"FrameHeirs$World", "startWait", "(III)V"⟩, 15), (⟨"FrameHeirs$World", "firstWaiting", "(I)I"⟩, 15), (⟨"FrameHeirs$World", "sourceFor", "(II)I"⟩, 15)]
theorem lw_r2 : ∀ q ∈ lw_privs_2, lw_okq q := List.forall_mem_cons.mpr ⟨lw_p16, List.forall_mem_cons.mpr ⟨lw_p17, List.forall_mem_cons.mpr ⟨lw_p18, List.forall_mem_cons.mpr ⟨lw_p19, List.forall_mem_cons.mpr ⟨lw_p20, List.forall_mem_cons.mpr ⟨lw_p21, List.forall_mem_cons.mpr ⟨lw_p22, List.forall_mem_cons.mpr ⟨lw_p23, List.forall_mem_cons.mpr ⟨lw_p24, List.forall_mem_cons.mpr ⟨lw_p25, List.forall_mem_cons.mpr ⟨lw_p26, List.forall_mem_cons.mpr ⟨lw_p27, List.forall_mem_cons.mpr ⟨lw_p28, List.forall_mem_cons.mpr ⟨lw_p29, List.forall_mem_cons.mpr ⟨lw_p30, List.forall_mem_cons.mpr ⟨lw_p31, fun _ h => absurd h List.not_mem_nil⟩⟩⟩⟩⟩⟩⟩⟩⟩⟩⟩⟩⟩⟩⟩⟩
theorem lw_p32 : lw_okq (⟨"FrameHeirs$World", "firstFresh", "(III)I"⟩, 15) := ⟨⟨by decide +kernel, by decide +kernel⟩, List.mem_of_getElem? (i := 137) (by decide +kernel), List.mem_of_getElem? (i := 692) (by decide +kernel), List.mem_of_getElem? (i := 693) (by decide +kernel)⟩
theorem lw_p33 : lw_okq (⟨"FrameHeirs$World", "withRight", "(III)I"⟩, 15) := ⟨⟨by decide +kernel, by decide +kernel⟩, List.mem_of_getElem? (i := 137) (by decide +kernel), List.mem_of_getElem? (i := 701) (by decide +kernel), List.mem_of_getElem? (i := 702) (by decide +kernel)⟩
theorem lw_p34 : lw_okq (⟨"FrameHeirs$World", "passOn", "(IIII)I"⟩, 15) := ⟨⟨by decide +kernel, by decide +kernel⟩, List.mem_of_getElem? (i := 137) (by decide +kernel), List.mem_of_getElem? (i := 705) (by decide +kernel), List.mem_of_getElem? (i := 706) (by decide +kernel)⟩
theorem lw_p35 : lw_okq (⟨"FrameHeirs$World", "refuse", "(I)I"⟩, 15) := ⟨⟨by decide +kernel, by decide +kernel⟩, List.mem_of_getElem? (i := 137) (by decide +kernel), List.mem_of_getElem? (i := 709) (by decide +kernel), List.mem_of_getElem? (i := 710) (by decide +kernel)⟩
theorem lw_p36 : lw_okq (⟨"FrameHeirs$World", "makeRoom", "(I)Z"⟩, 15) := ⟨⟨by decide +kernel, by decide +kernel⟩, List.mem_of_getElem? (i := 137) (by decide +kernel), List.mem_of_getElem? (i := 713) (by decide +kernel), List.mem_of_getElem? (i := 714) (by decide +kernel)⟩
theorem lw_p37 : lw_okq (⟨"FrameHeirs$Deeds", "areHalves", "(III)Z"⟩, 20) := ⟨⟨by decide +kernel, by decide +kernel⟩, List.mem_of_getElem? (i := 143) (by decide +kernel), List.mem_of_getElem? (i := 752) (by decide +kernel), List.mem_of_getElem? (i := 753) (by decide +kernel)⟩
theorem lw_p38 : lw_okq (⟨"FrameHeirs$Deeds", "join", "(II)V"⟩, 20) := ⟨⟨by decide +kernel, by decide +kernel⟩, List.mem_of_getElem? (i := 143) (by decide +kernel), List.mem_of_getElem? (i := 756) (by decide +kernel), List.mem_of_getElem? (i := 757) (by decide +kernel)⟩
theorem lw_p39 : lw_okq (⟨"FrameHeirs$World", "waitingAhead", "(I)I"⟩, 15) := ⟨⟨by decide +kernel, by decide +kernel⟩, List.mem_of_getElem? (i := 137) (by decide +kernel), List.mem_of_getElem? (i := 928) (by decide +kernel), List.mem_of_getElem? (i := 929) (by decide +kernel)⟩
theorem lw_p40 : lw_okq (⟨"java/lang/Throwable", "fillInStackTrace", "(I)Ljava/lang/Throwable;"⟩, 6) := ⟨⟨by decide +kernel, by decide +kernel⟩, List.mem_of_getElem? (i := 1029) (by decide +kernel), List.mem_of_getElem? (i := 1027) (by decide +kernel), List.mem_of_getElem? (i := 1028) (by decide +kernel)⟩
theorem lw_p41 : lw_okq (⟨"FrameHeirsModel", "plain", "()V"⟩, 32) := ⟨⟨by decide +kernel, by decide +kernel⟩, List.mem_of_getElem? (i := 1087) (by decide +kernel), List.mem_of_getElem? (i := 1094) (by decide +kernel), List.mem_of_getElem? (i := 1095) (by decide +kernel)⟩
theorem lw_p42 : lw_okq (⟨"FrameHeirsModel", "keepText", "()V"⟩, 32) := ⟨⟨by decide +kernel, by decide +kernel⟩, List.mem_of_getElem? (i := 1087) (by decide +kernel), List.mem_of_getElem? (i := 1098) (by decide +kernel), List.mem_of_getElem? (i := 1099) (by decide +kernel)⟩
theorem lw_p43 : lw_okq (⟨"FrameHeirsModel", "lay", "(II)V"⟩, 32) := ⟨⟨by decide +kernel, by decide +kernel⟩, List.mem_of_getElem? (i := 1087) (by decide +kernel), List.mem_of_getElem? (i := 1105) (by decide +kernel), List.mem_of_getElem? (i := 1106) (by decide +kernel)⟩
theorem lw_p44 : lw_okq (⟨"FrameHeirsModel", "size", "()I"⟩, 32) := ⟨⟨by decide +kernel, by decide +kernel⟩, List.mem_of_getElem? (i := 1087) (by decide +kernel), List.mem_of_getElem? (i := 1109) (by decide +kernel), List.mem_of_getElem? (i := 1110) (by decide +kernel)⟩
theorem lw_p45 : lw_okq (⟨"FrameHeirsModel", "comes", "(IIIIII)V"⟩, 32) := ⟨⟨by decide +kernel, by decide +kernel⟩, List.mem_of_getElem? (i := 1087) (by decide +kernel), List.mem_of_getElem? (i := 1113) (by decide +kernel), List.mem_of_getElem? (i := 1114) (by decide +kernel)⟩
theorem lw_p46 : lw_okq (⟨"FrameHeirsModel", "widens", "(I)V"⟩, 32) := ⟨⟨by decide +kernel, by decide +kernel⟩, List.mem_of_getElem? (i := 1087) (by decide +kernel), List.mem_of_getElem? (i := 1117) (by decide +kernel), List.mem_of_getElem? (i := 1118) (by decide +kernel)⟩
theorem lw_p47 : lw_okq (⟨"FrameHeirsModel", "of", "(I)I"⟩, 32) := ⟨⟨by decide +kernel, by decide +kernel⟩, List.mem_of_getElem? (i := 1087) (by decide +kernel), List.mem_of_getElem? (i := 1121) (by decide +kernel), List.mem_of_getElem? (i := 1122) (by decide +kernel)⟩
def lw_privs_3 : List (MethodName × Nat) := [(⟨"FrameHeirs$World", "firstFresh", "(III)I"⟩, 15), (⟨"FrameHeirs$World", "withRight", "(III)I"⟩, 15), (⟨"FrameHeirs$World", "passOn", "(IIII)I"⟩, 15), (⟨"FrameHeirs$World", "refuse", "(I)I"⟩, 15), (⟨"FrameHeirs$World", "makeRoom", "(I)Z"⟩, 15), (⟨"FrameHeirs$Deeds", "areHalves", "(III)Z"⟩, 20), (⟨"FrameHeirs$Deeds", "join", "(II)V"⟩, 20), (⟨"FrameHeirs$World", "waitingAhead", "(I)I"⟩, 15), (⟨"java/lang/Throwable", "fillInStackTrace", "(I)Ljava/lang/Throwable;"⟩, 6), (⟨"FrameHeirsModel", "plain", "()V"⟩, 32), (⟨"FrameHeirsModel", "keepText", "()V"⟩, 32), (⟨"FrameHeirsModel", "lay", "(II)V"⟩, 32), (⟨"FrameHeirsModel", "size", "()I"⟩, 32), (⟨"FrameHeirsModel", "comes", "(IIIIII)V"⟩, 32), (⟨"FrameHeirsModel", "widens", "(I)V"⟩, 32), (⟨"FrameHeirsModel", "of", "(I)I"⟩, 32)]
theorem lw_r3 : ∀ q ∈ lw_privs_3, lw_okq q := List.forall_mem_cons.mpr ⟨lw_p32, List.forall_mem_cons.mpr ⟨lw_p33, List.forall_mem_cons.mpr ⟨lw_p34, List.forall_mem_cons.mpr ⟨lw_p35, List.forall_mem_cons.mpr ⟨lw_p36, List.forall_mem_cons.mpr ⟨lw_p37, List.forall_mem_cons.mpr ⟨lw_p38, List.forall_mem_cons.mpr ⟨lw_p39, List.forall_mem_cons.mpr ⟨lw_p40, List.forall_mem_cons.mpr ⟨lw_p41, List.forall_mem_cons.mpr ⟨lw_p42, List.forall_mem_cons.mpr ⟨lw_p43, List.forall_mem_cons.mpr ⟨lw_p44, List.forall_mem_cons.mpr ⟨lw_p45, List.forall_mem_cons.mpr ⟨lw_p46, List.forall_mem_cons.mpr ⟨lw_p47, fun _ h => absurd h List.not_mem_nil⟩⟩⟩⟩⟩⟩⟩⟩⟩⟩⟩⟩⟩⟩⟩⟩
theorem lw_p48 : lw_okq (⟨"FrameHeirsModel", "linked", "(III)V"⟩, 32) := ⟨⟨by decide +kernel, by decide +kernel⟩, List.mem_of_getElem? (i := 1087) (by decide +kernel), List.mem_of_getElem? (i := 1125) (by decide +kernel), List.mem_of_getElem? (i := 1126) (by decide +kernel)⟩
theorem lw_p49 : lw_okq (⟨"FrameHeirsModel", "token", "()V"⟩, 32) := ⟨⟨by decide +kernel, by decide +kernel⟩, List.mem_of_getElem? (i := 1087) (by decide +kernel), List.mem_of_getElem? (i := 1239) (by decide +kernel), List.mem_of_getElem? (i := 1240) (by decide +kernel)⟩
theorem lw_p50 : lw_okq (⟨"FrameHeirsModel", "isSmall", "(I)Z"⟩, 32) := ⟨⟨by decide +kernel, by decide +kernel⟩, List.mem_of_getElem? (i := 1087) (by decide +kernel), List.mem_of_getElem? (i := 1243) (by decide +kernel), List.mem_of_getElem? (i := 1244) (by decide +kernel)⟩
theorem lw_p51 : lw_okq (⟨"FrameHeirsModel", "wordAt", "(II)I"⟩, 32) := ⟨⟨by decide +kernel, by decide +kernel⟩, List.mem_of_getElem? (i := 1087) (by decide +kernel), List.mem_of_getElem? (i := 1247) (by decide +kernel), List.mem_of_getElem? (i := 1248) (by decide +kernel)⟩
theorem lw_p52 : lw_okq (⟨"FrameHeirsModel", "packed", "(II)I"⟩, 32) := ⟨⟨by decide +kernel, by decide +kernel⟩, List.mem_of_getElem? (i := 1087) (by decide +kernel), List.mem_of_getElem? (i := 1251) (by decide +kernel), List.mem_of_getElem? (i := 1252) (by decide +kernel)⟩
theorem lw_p53 : lw_okq (⟨"FrameHeirsModel", "isDigit", "(I)Z"⟩, 32) := ⟨⟨by decide +kernel, by decide +kernel⟩, List.mem_of_getElem? (i := 1087) (by decide +kernel), List.mem_of_getElem? (i := 1255) (by decide +kernel), List.mem_of_getElem? (i := 1256) (by decide +kernel)⟩
theorem lw_p54 : lw_okq (⟨"FrameHeirsModel", "lineRead", "()Z"⟩, 32) := ⟨⟨by decide +kernel, by decide +kernel⟩, List.mem_of_getElem? (i := 1087) (by decide +kernel), List.mem_of_getElem? (i := 1260) (by decide +kernel), List.mem_of_getElem? (i := 1261) (by decide +kernel)⟩
theorem lw_p55 : lw_okq (⟨"FrameHeirsModel", "wrong", "(I)Z"⟩, 32) := ⟨⟨by decide +kernel, by decide +kernel⟩, List.mem_of_getElem? (i := 1087) (by decide +kernel), List.mem_of_getElem? (i := 1264) (by decide +kernel), List.mem_of_getElem? (i := 1265) (by decide +kernel)⟩
theorem lw_p56 : lw_okq (⟨"FrameHeirsModel", "spaceLine", "()Z"⟩, 32) := ⟨⟨by decide +kernel, by decide +kernel⟩, List.mem_of_getElem? (i := 1087) (by decide +kernel), List.mem_of_getElem? (i := 1268) (by decide +kernel), List.mem_of_getElem? (i := 1269) (by decide +kernel)⟩
theorem lw_p57 : lw_okq (⟨"FrameHeirsModel", "find", "(III)I"⟩, 32) := ⟨⟨by decide +kernel, by decide +kernel⟩, List.mem_of_getElem? (i := 1087) (by decide +kernel), List.mem_of_getElem? (i := 1272) (by decide +kernel), List.mem_of_getElem? (i := 1273) (by decide +kernel)⟩
theorem lw_p58 : lw_okq (⟨"FrameHeirsModel", "pagerLine", "()Z"⟩, 32) := ⟨⟨by decide +kernel, by decide +kernel⟩, List.mem_of_getElem? (i := 1087) (by decide +kernel), List.mem_of_getElem? (i := 1276) (by decide +kernel), List.mem_of_getElem? (i := 1277) (by decide +kernel)⟩
theorem lw_p59 : lw_okq (⟨"FrameHeirsModel", "spaceRead", "()Z"⟩, 32) := ⟨⟨by decide +kernel, by decide +kernel⟩, List.mem_of_getElem? (i := 1087) (by decide +kernel), List.mem_of_getElem? (i := 1280) (by decide +kernel), List.mem_of_getElem? (i := 1281) (by decide +kernel)⟩
theorem lw_p60 : lw_okq (⟨"FrameHeirsModel", "number", "(II)Z"⟩, 32) := ⟨⟨by decide +kernel, by decide +kernel⟩, List.mem_of_getElem? (i := 1087) (by decide +kernel), List.mem_of_getElem? (i := 1284) (by decide +kernel), List.mem_of_getElem? (i := 1285) (by decide +kernel)⟩
theorem lw_p61 : lw_okq (⟨"FrameHeirsModel", "quotaLine", "()Z"⟩, 32) := ⟨⟨by decide +kernel, by decide +kernel⟩, List.mem_of_getElem? (i := 1087) (by decide +kernel), List.mem_of_getElem? (i := 1291) (by decide +kernel), List.mem_of_getElem? (i := 1292) (by decide +kernel)⟩
theorem lw_p62 : lw_okq (⟨"FrameHeirsModel", "sizeLine", "()Z"⟩, 32) := ⟨⟨by decide +kernel, by decide +kernel⟩, List.mem_of_getElem? (i := 1087) (by decide +kernel), List.mem_of_getElem? (i := 1295) (by decide +kernel), List.mem_of_getElem? (i := 1296) (by decide +kernel)⟩
theorem lw_p63 : lw_okq (⟨"FrameHeirsModel", "wordLine", "()Z"⟩, 32) := ⟨⟨by decide +kernel, by decide +kernel⟩, List.mem_of_getElem? (i := 1087) (by decide +kernel), List.mem_of_getElem? (i := 1299) (by decide +kernel), List.mem_of_getElem? (i := 1300) (by decide +kernel)⟩
def lw_privs_4 : List (MethodName × Nat) := [(⟨"FrameHeirsModel", "linked", "(III)V"⟩, 32), (⟨"FrameHeirsModel", "token", "()V"⟩, 32), (⟨"FrameHeirsModel", "isSmall", "(I)Z"⟩, 32), (⟨"FrameHeirsModel", "wordAt", "(II)I"⟩, 32), (⟨"FrameHeirsModel", "packed", "(II)I"⟩, 32), (⟨"FrameHeirsModel", "isDigit", "(I)Z"⟩, 32), (⟨"FrameHeirsModel", "lineRead", "()Z"⟩, 32), (⟨"FrameHeirsModel", "wrong", "(I)Z"⟩, 32), (⟨"FrameHeirsModel", "spaceLine", "()Z"⟩, 32), (⟨"FrameHeirsModel", "find", "(III)I"⟩, 32), (⟨"FrameHeirsModel", "pagerLine", "()Z"⟩, 32), (⟨"FrameHeirsModel", "spaceRead", "()Z"⟩, 32), (⟨"FrameHeirsModel", "number", "(II)Z"⟩, 32), (⟨"FrameHeirsModel", "quotaLine", "()Z"⟩, 32), (⟨"FrameHeirsModel", "sizeLine", "()Z"⟩, 32), (⟨"FrameHeirsModel", "wordLine", "()Z"⟩, 32)]
theorem lw_r4 : ∀ q ∈ lw_privs_4, lw_okq q := List.forall_mem_cons.mpr ⟨lw_p48, List.forall_mem_cons.mpr ⟨lw_p49, List.forall_mem_cons.mpr ⟨lw_p50, List.forall_mem_cons.mpr ⟨lw_p51, List.forall_mem_cons.mpr ⟨lw_p52, List.forall_mem_cons.mpr ⟨lw_p53, List.forall_mem_cons.mpr ⟨lw_p54, List.forall_mem_cons.mpr ⟨lw_p55, List.forall_mem_cons.mpr ⟨lw_p56, List.forall_mem_cons.mpr ⟨lw_p57, List.forall_mem_cons.mpr ⟨lw_p58, List.forall_mem_cons.mpr ⟨lw_p59, List.forall_mem_cons.mpr ⟨lw_p60, List.forall_mem_cons.mpr ⟨lw_p61, List.forall_mem_cons.mpr ⟨lw_p62, List.forall_mem_cons.mpr ⟨lw_p63, fun _ h => absurd h List.not_mem_nil⟩⟩⟩⟩⟩⟩⟩⟩⟩⟩⟩⟩⟩⟩⟩⟩
theorem lw_p64 : lw_okq (⟨"FrameHeirsModel", "stepLine", "()Z"⟩, 32) := ⟨⟨by decide +kernel, by decide +kernel⟩, List.mem_of_getElem? (i := 1087) (by decide +kernel), List.mem_of_getElem? (i := 1303) (by decide +kernel), List.mem_of_getElem? (i := 1304) (by decide +kernel)⟩
theorem lw_p65 : lw_okq (⟨"FrameHeirsModel", "stepSpace", "(I)Z"⟩, 32) := ⟨⟨by decide +kernel, by decide +kernel⟩, List.mem_of_getElem? (i := 1087) (by decide +kernel), List.mem_of_getElem? (i := 1307) (by decide +kernel), List.mem_of_getElem? (i := 1308) (by decide +kernel)⟩
theorem lw_p66 : lw_okq (⟨"FrameHeirsModel", "passing", "(I)Z"⟩, 32) := ⟨⟨by decide +kernel, by decide +kernel⟩, List.mem_of_getElem? (i := 1087) (by decide +kernel), List.mem_of_getElem? (i := 1311) (by decide +kernel), List.mem_of_getElem? (i := 1312) (by decide +kernel)⟩
theorem lw_p67 : lw_okq (⟨"FrameHeirsModel", "stepNumber", "(III)Z"⟩, 32) := ⟨⟨by decide +kernel, by decide +kernel⟩, List.mem_of_getElem? (i := 1087) (by decide +kernel), List.mem_of_getElem? (i := 1315) (by decide +kernel), List.mem_of_getElem? (i := 1316) (by decide +kernel)⟩
theorem lw_p68 : lw_okq (⟨"FrameHeirsModel", "copyBank", "(II)V"⟩, 32) := ⟨⟨by decide +kernel, by decide +kernel⟩, List.mem_of_getElem? (i := 1087) (by decide +kernel), List.mem_of_getElem? (i := 1331) (by decide +kernel), List.mem_of_getElem? (i := 1332) (by decide +kernel)⟩
theorem lw_p69 : lw_okq (⟨"FrameHeirsModel", "isPassing", "(IIII)Z"⟩, 32) := ⟨⟨by decide +kernel, by decide +kernel⟩, List.mem_of_getElem? (i := 1087) (by decide +kernel), List.mem_of_getElem? (i := 1339) (by decide +kernel), List.mem_of_getElem? (i := 1340) (by decide +kernel)⟩
theorem lw_p70 : lw_okq (⟨"FrameHeirsModel", "isSpace", "(I)Z"⟩, 32) := ⟨⟨by decide +kernel, by decide +kernel⟩, List.mem_of_getElem? (i := 1087) (by decide +kernel), List.mem_of_getElem? (i := 1343) (by decide +kernel), List.mem_of_getElem? (i := 1344) (by decide +kernel)⟩
theorem lw_p71 : lw_okq (⟨"FrameHeirsModel", "isRegion", "(I)Z"⟩, 32) := ⟨⟨by decide +kernel, by decide +kernel⟩, List.mem_of_getElem? (i := 1087) (by decide +kernel), List.mem_of_getElem? (i := 1347) (by decide +kernel), List.mem_of_getElem? (i := 1348) (by decide +kernel)⟩
theorem lw_p72 : lw_okq (⟨"FrameHeirsModel", "isFit", "(II)Z"⟩, 32) := ⟨⟨by decide +kernel, by decide +kernel⟩, List.mem_of_getElem? (i := 1087) (by decide +kernel), List.mem_of_getElem? (i := 1351) (by decide +kernel), List.mem_of_getElem? (i := 1352) (by decide +kernel)⟩
theorem lw_p73 : lw_okq (⟨"FrameHeirsModel", "isPlace", "(I)Z"⟩, 32) := ⟨⟨by decide +kernel, by decide +kernel⟩, List.mem_of_getElem? (i := 1087) (by decide +kernel), List.mem_of_getElem? (i := 1355) (by decide +kernel), List.mem_of_getElem? (i := 1356) (by decide +kernel)⟩
theorem lw_p74 : lw_okq (⟨"FrameHeirsModel", "canUndo", "()V"⟩, 32) := ⟨⟨by decide +kernel, by decide +kernel⟩, List.mem_of_getElem? (i := 1087) (by decide +kernel), List.mem_of_getElem? (i := 1359) (by decide +kernel), List.mem_of_getElem? (i := 1360) (by decide +kernel)⟩
theorem lw_p75 : lw_okq (⟨"FrameHeirsModel", "mapped", "(IIIII)I"⟩, 32) := ⟨⟨by decide +kernel, by decide +kernel⟩, List.mem_of_getElem? (i := 1087) (by decide +kernel), List.mem_of_getElem? (i := 1363) (by decide +kernel), List.mem_of_getElem? (i := 1364) (by decide +kernel)⟩
theorem lw_p76 : lw_okq (⟨"FrameHeirsModel", "looks", "(III)V"⟩, 32) := ⟨⟨by decide +kernel, by decide +kernel⟩, List.mem_of_getElem? (i := 1087) (by decide +kernel), List.mem_of_getElem? (i := 1367) (by decide +kernel), List.mem_of_getElem? (i := 1368) (by decide +kernel)⟩
theorem lw_p77 : lw_okq (⟨"FrameHeirsModel", "cover", "(II)I"⟩, 32) := ⟨⟨by decide +kernel, by decide +kernel⟩, List.mem_of_getElem? (i := 1087) (by decide +kernel), List.mem_of_getElem? (i := 1371) (by decide +kernel), List.mem_of_getElem? (i := 1372) (by decide +kernel)⟩
theorem lw_p78 : lw_okq (⟨"FrameHeirsModel", "orderOf", "(I)I"⟩, 32) := ⟨⟨by decide +kernel, by decide +kernel⟩, List.mem_of_getElem? (i := 1087) (by decide +kernel), List.mem_of_getElem? (i := 1375) (by decide +kernel), List.mem_of_getElem? (i := 1376) (by decide +kernel)⟩
theorem lw_p79 : lw_okq (⟨"FrameHeirsModel", "isDeed", "(I)Z"⟩, 32) := ⟨⟨by decide +kernel, by decide +kernel⟩, List.mem_of_getElem? (i := 1087) (by decide +kernel), List.mem_of_getElem? (i := 1379) (by decide +kernel), List.mem_of_getElem? (i := 1380) (by decide +kernel)⟩
def lw_privs_5 : List (MethodName × Nat) := [(⟨"FrameHeirsModel", "stepLine", "()Z"⟩, 32), (⟨"FrameHeirsModel", "stepSpace", "(I)Z"⟩, 32), (⟨"FrameHeirsModel", "passing", "(I)Z"⟩, 32), (⟨"FrameHeirsModel", "stepNumber", "(III)Z"⟩, 32), (⟨"FrameHeirsModel", "copyBank", "(II)V"⟩, 32), (⟨"FrameHeirsModel", "isPassing", "(IIII)Z"⟩, 32), (⟨"FrameHeirsModel", "isSpace", "(I)Z"⟩, 32), (⟨"FrameHeirsModel", "isRegion", "(I)Z"⟩, 32), (⟨"FrameHeirsModel", "isFit", "(II)Z"⟩, 32), (⟨"FrameHeirsModel", "isPlace", "(I)Z"⟩, 32), (⟨"FrameHeirsModel", "canUndo", "()V"⟩, 32), (⟨"FrameHeirsModel", "mapped", "(IIIII)I"⟩, 32), (⟨"FrameHeirsModel", "looks", "(III)V"⟩, 32), (⟨"FrameHeirsModel", "cover", "(II)I"⟩, 32), (⟨"FrameHeirsModel", "orderOf", "(I)I"⟩, 32), (⟨"FrameHeirsModel", "isDeed", "(I)Z"⟩, 32)]
theorem lw_r5 : ∀ q ∈ lw_privs_5, lw_okq q := List.forall_mem_cons.mpr ⟨lw_p64, List.forall_mem_cons.mpr ⟨lw_p65, List.forall_mem_cons.mpr ⟨lw_p66, List.forall_mem_cons.mpr ⟨lw_p67, List.forall_mem_cons.mpr ⟨lw_p68, List.forall_mem_cons.mpr ⟨lw_p69, List.forall_mem_cons.mpr ⟨lw_p70, List.forall_mem_cons.mpr ⟨lw_p71, List.forall_mem_cons.mpr ⟨lw_p72, List.forall_mem_cons.mpr ⟨lw_p73, List.forall_mem_cons.mpr ⟨lw_p74, List.forall_mem_cons.mpr ⟨lw_p75, List.forall_mem_cons.mpr ⟨lw_p76, List.forall_mem_cons.mpr ⟨lw_p77, List.forall_mem_cons.mpr ⟨lw_p78, List.forall_mem_cons.mpr ⟨lw_p79, fun _ h => absurd h List.not_mem_nil⟩⟩⟩⟩⟩⟩⟩⟩⟩⟩⟩⟩⟩⟩⟩⟩
theorem lw_p80 : lw_okq (⟨"FrameHeirsModel", "isBusyThere", "()Z"⟩, 32) := ⟨⟨by decide +kernel, by decide +kernel⟩, List.mem_of_getElem? (i := 1087) (by decide +kernel), List.mem_of_getElem? (i := 1383) (by decide +kernel), List.mem_of_getElem? (i := 1384) (by decide +kernel)⟩
theorem lw_p81 : lw_okq (⟨"FrameHeirsModel", "isBusy", "(I)Z"⟩, 32) := ⟨⟨by decide +kernel, by decide +kernel⟩, List.mem_of_getElem? (i := 1087) (by decide +kernel), List.mem_of_getElem? (i := 1387) (by decide +kernel), List.mem_of_getElem? (i := 1388) (by decide +kernel)⟩
theorem lw_p82 : lw_okq (⟨"FrameHeirsModel", "giverOf", "(I)I"⟩, 32) := ⟨⟨by decide +kernel, by decide +kernel⟩, List.mem_of_getElem? (i := 1087) (by decide +kernel), List.mem_of_getElem? (i := 1391) (by decide +kernel), List.mem_of_getElem? (i := 1392) (by decide +kernel)⟩
theorem lw_p83 : lw_okq (⟨"FrameHeirsModel", "isFree", "(III)Z"⟩, 32) := ⟨⟨by decide +kernel, by decide +kernel⟩, List.mem_of_getElem? (i := 1087) (by decide +kernel), List.mem_of_getElem? (i := 1395) (by decide +kernel), List.mem_of_getElem? (i := 1396) (by decide +kernel)⟩
theorem lw_p84 : lw_okq (⟨"FrameHeirsModel", "pagesOf", "(I)I"⟩, 32) := ⟨⟨by decide +kernel, by decide +kernel⟩, List.mem_of_getElem? (i := 1087) (by decide +kernel), List.mem_of_getElem? (i := 1399) (by decide +kernel), List.mem_of_getElem? (i := 1400) (by decide +kernel)⟩
theorem lw_p85 : lw_okq (⟨"FrameHeirsModel", "pagesIn", "(I)I"⟩, 32) := ⟨⟨by decide +kernel, by decide +kernel⟩, List.mem_of_getElem? (i := 1087) (by decide +kernel), List.mem_of_getElem? (i := 1403) (by decide +kernel), List.mem_of_getElem? (i := 1404) (by decide +kernel)⟩
theorem lw_p86 : lw_okq (⟨"FrameHeirsModel", "mostOf", "(I)I"⟩, 32) := ⟨⟨by decide +kernel, by decide +kernel⟩, List.mem_of_getElem? (i := 1087) (by decide +kernel), List.mem_of_getElem? (i := 1407) (by decide +kernel), List.mem_of_getElem? (i := 1408) (by decide +kernel)⟩
theorem lw_p87 : lw_okq (⟨"FrameHeirsModel", "granted", "(IIII)I"⟩, 32) := ⟨⟨by decide +kernel, by decide +kernel⟩, List.mem_of_getElem? (i := 1087) (by decide +kernel), List.mem_of_getElem? (i := 1415) (by decide +kernel), List.mem_of_getElem? (i := 1416) (by decide +kernel)⟩
theorem lw_p88 : lw_okq (⟨"FrameHeirsModel", "isBusyBelowThere", "()Z"⟩, 32) := ⟨⟨by decide +kernel, by decide +kernel⟩, List.mem_of_getElem? (i := 1087) (by decide +kernel), List.mem_of_getElem? (i := 1419) (by decide +kernel), List.mem_of_getElem? (i := 1420) (by decide +kernel)⟩
theorem lw_p89 : lw_okq (⟨"FrameHeirsModel", "isBusyBelow", "(I)Z"⟩, 32) := ⟨⟨by decide +kernel, by decide +kernel⟩, List.mem_of_getElem? (i := 1087) (by decide +kernel), List.mem_of_getElem? (i := 1423) (by decide +kernel), List.mem_of_getElem? (i := 1424) (by decide +kernel)⟩
theorem lw_p90 : lw_okq (⟨"FrameHeirsModel", "isAbove", "(II)Z"⟩, 32) := ⟨⟨by decide +kernel, by decide +kernel⟩, List.mem_of_getElem? (i := 1087) (by decide +kernel), List.mem_of_getElem? (i := 1427) (by decide +kernel), List.mem_of_getElem? (i := 1428) (by decide +kernel)⟩
theorem lw_p91 : lw_okq (⟨"FrameHeirsModel", "cuts", "(III)V"⟩, 32) := ⟨⟨by decide +kernel, by decide +kernel⟩, List.mem_of_getElem? (i := 1087) (by decide +kernel), List.mem_of_getElem? (i := 1431) (by decide +kernel), List.mem_of_getElem? (i := 1432) (by decide +kernel)⟩
theorem lw_p92 : lw_okq (⟨"FrameHeirsModel", "splits", "(I)V"⟩, 32) := ⟨⟨by decide +kernel, by decide +kernel⟩, List.mem_of_getElem? (i := 1087) (by decide +kernel), List.mem_of_getElem? (i := 1435) (by decide +kernel), List.mem_of_getElem? (i := 1436) (by decide +kernel)⟩
theorem lw_p93 : lw_okq (⟨"FrameHeirsModel", "adds", "(I)V"⟩, 32) := ⟨⟨by decide +kernel, by decide +kernel⟩, List.mem_of_getElem? (i := 1087) (by decide +kernel), List.mem_of_getElem? (i := 1439) (by decide +kernel), List.mem_of_getElem? (i := 1440) (by decide +kernel)⟩
theorem lw_p94 : lw_okq (⟨"FrameHeirsModel", "firstOf", "(I)I"⟩, 32) := ⟨⟨by decide +kernel, by decide +kernel⟩, List.mem_of_getElem? (i := 1087) (by decide +kernel), List.mem_of_getElem? (i := 1443) (by decide +kernel), List.mem_of_getElem? (i := 1444) (by decide +kernel)⟩
theorem lw_p95 : lw_okq (⟨"FrameHeirsModel", "nextOf", "(I)I"⟩, 32) := ⟨⟨by decide +kernel, by decide +kernel⟩, List.mem_of_getElem? (i := 1087) (by decide +kernel), List.mem_of_getElem? (i := 1447) (by decide +kernel), List.mem_of_getElem? (i := 1448) (by decide +kernel)⟩
def lw_privs_6 : List (MethodName × Nat) := [(⟨"FrameHeirsModel", "isBusyThere", "()Z"⟩, 32), (⟨"FrameHeirsModel", "isBusy", "(I)Z"⟩, 32), (⟨"FrameHeirsModel", "giverOf", "(I)I"⟩, 32), (⟨"FrameHeirsModel", "isFree", "(III)Z"⟩, 32), (⟨"FrameHeirsModel", "pagesOf", "(I)I"⟩, 32), (⟨"FrameHeirsModel", "pagesIn", "(I)I"⟩, 32), (⟨"FrameHeirsModel", "mostOf", "(I)I"⟩, 32), (⟨"FrameHeirsModel", "granted", "(IIII)I"⟩, 32), (⟨"FrameHeirsModel", "isBusyBelowThere", "()Z"⟩, 32), (⟨"FrameHeirsModel", "isBusyBelow", "(I)Z"⟩, 32), (⟨"FrameHeirsModel", "isAbove", "(II)Z"⟩, 32), (⟨"FrameHeirsModel", "cuts", "(III)V"⟩, 32), (⟨"FrameHeirsModel", "splits", "(I)V"⟩, 32), (⟨"FrameHeirsModel", "adds", "(I)V"⟩, 32), (⟨"FrameHeirsModel", "firstOf", "(I)I"⟩, 32), (⟨"FrameHeirsModel", "nextOf", "(I)I"⟩, 32)]
theorem lw_r6 : ∀ q ∈ lw_privs_6, lw_okq q := List.forall_mem_cons.mpr ⟨lw_p80, List.forall_mem_cons.mpr ⟨lw_p81, List.forall_mem_cons.mpr ⟨lw_p82, List.forall_mem_cons.mpr ⟨lw_p83, List.forall_mem_cons.mpr ⟨lw_p84, List.forall_mem_cons.mpr ⟨lw_p85, List.forall_mem_cons.mpr ⟨lw_p86, List.forall_mem_cons.mpr ⟨lw_p87, List.forall_mem_cons.mpr ⟨lw_p88, List.forall_mem_cons.mpr ⟨lw_p89, List.forall_mem_cons.mpr ⟨lw_p90, List.forall_mem_cons.mpr ⟨lw_p91, List.forall_mem_cons.mpr ⟨lw_p92, List.forall_mem_cons.mpr ⟨lw_p93, List.forall_mem_cons.mpr ⟨lw_p94, List.forall_mem_cons.mpr ⟨lw_p95, fun _ h => absurd h List.not_mem_nil⟩⟩⟩⟩⟩⟩⟩⟩⟩⟩⟩⟩⟩⟩⟩⟩
theorem lw_p96 : lw_okq (⟨"FrameHeirsModel", "halves", "(I)V"⟩, 32) := ⟨⟨by decide +kernel, by decide +kernel⟩, List.mem_of_getElem? (i := 1087) (by decide +kernel), List.mem_of_getElem? (i := 1451) (by decide +kernel), List.mem_of_getElem? (i := 1452) (by decide +kernel)⟩
theorem lw_p97 : lw_okq (⟨"FrameHeirsModel", "more", "(I)V"⟩, 32) := ⟨⟨by decide +kernel, by decide +kernel⟩, List.mem_of_getElem? (i := 1087) (by decide +kernel), List.mem_of_getElem? (i := 1455) (by decide +kernel), List.mem_of_getElem? (i := 1456) (by decide +kernel)⟩
theorem lw_p98 : lw_okq (⟨"FrameHeirsModel", "movesTo", "(II)V"⟩, 32) := ⟨⟨by decide +kernel, by decide +kernel⟩, List.mem_of_getElem? (i := 1087) (by decide +kernel), List.mem_of_getElem? (i := 1459) (by decide +kernel), List.mem_of_getElem? (i := 1460) (by decide +kernel)⟩
theorem lw_p99 : lw_okq (⟨"FrameHeirsModel", "flushed", "(IIIZ)I"⟩, 32) := ⟨⟨by decide +kernel, by decide +kernel⟩, List.mem_of_getElem? (i := 1087) (by decide +kernel), List.mem_of_getElem? (i := 1467) (by decide +kernel), List.mem_of_getElem? (i := 1468) (by decide +kernel)⟩
theorem lw_p100 : lw_okq (⟨"FrameHeirsModel", "pendingMany", "()I"⟩, 32) := ⟨⟨by decide +kernel, by decide +kernel⟩, List.mem_of_getElem? (i := 1087) (by decide +kernel), List.mem_of_getElem? (i := 1471) (by decide +kernel), List.mem_of_getElem? (i := 1472) (by decide +kernel)⟩
theorem lw_p101 : lw_okq (⟨"FrameHeirsModel", "listsTop", "(IZII)I"⟩, 32) := ⟨⟨by decide +kernel, by decide +kernel⟩, List.mem_of_getElem? (i := 1087) (by decide +kernel), List.mem_of_getElem? (i := 1475) (by decide +kernel), List.mem_of_getElem? (i := 1476) (by decide +kernel)⟩
theorem lw_p102 : lw_okq (⟨"FrameHeirsModel", "lists", "(III)I"⟩, 32) := ⟨⟨by decide +kernel, by decide +kernel⟩, List.mem_of_getElem? (i := 1087) (by decide +kernel), List.mem_of_getElem? (i := 1479) (by decide +kernel), List.mem_of_getElem? (i := 1480) (by decide +kernel)⟩
theorem lw_p103 : lw_okq (⟨"FrameHeirsModel", "worked", "(I)I"⟩, 32) := ⟨⟨by decide +kernel, by decide +kernel⟩, List.mem_of_getElem? (i := 1087) (by decide +kernel), List.mem_of_getElem? (i := 1487) (by decide +kernel), List.mem_of_getElem? (i := 1488) (by decide +kernel)⟩
theorem lw_p104 : lw_okq (⟨"FrameHeirsModel", "isWorking", "()Z"⟩, 32) := ⟨⟨by decide +kernel, by decide +kernel⟩, List.mem_of_getElem? (i := 1087) (by decide +kernel), List.mem_of_getElem? (i := 1491) (by decide +kernel), List.mem_of_getElem? (i := 1492) (by decide +kernel)⟩
theorem lw_p105 : lw_okq (⟨"FrameHeirsModel", "goes", "(I)V"⟩, 32) := ⟨⟨by decide +kernel, by decide +kernel⟩, List.mem_of_getElem? (i := 1087) (by decide +kernel), List.mem_of_getElem? (i := 1495) (by decide +kernel), List.mem_of_getElem? (i := 1496) (by decide +kernel)⟩
theorem lw_p106 : lw_okq (⟨"FrameHeirsModel", "leaves", "(I)V"⟩, 32) := ⟨⟨by decide +kernel, by decide +kernel⟩, List.mem_of_getElem? (i := 1087) (by decide +kernel), List.mem_of_getElem? (i := 1499) (by decide +kernel), List.mem_of_getElem? (i := 1500) (by decide +kernel)⟩
theorem lw_p107 : lw_okq (⟨"FrameHeirsModel", "tree", "(I)V"⟩, 32) := ⟨⟨by decide +kernel, by decide +kernel⟩, List.mem_of_getElem? (i := 1087) (by decide +kernel), List.mem_of_getElem? (i := 1503) (by decide +kernel), List.mem_of_getElem? (i := 1504) (by decide +kernel)⟩
theorem lw_p108 : lw_okq (⟨"FrameHeirsModel", "jobOver", "()V"⟩, 32) := ⟨⟨by decide +kernel, by decide +kernel⟩, List.mem_of_getElem? (i := 1087) (by decide +kernel), List.mem_of_getElem? (i := 1507) (by decide +kernel), List.mem_of_getElem? (i := 1508) (by decide +kernel)⟩
theorem lw_p109 : lw_okq (⟨"FrameHeirsModel", "ticks", "()V"⟩, 32) := ⟨⟨by decide +kernel, by decide +kernel⟩, List.mem_of_getElem? (i := 1087) (by decide +kernel), List.mem_of_getElem? (i := 1515) (by decide +kernel), List.mem_of_getElem? (i := 1516) (by decide +kernel)⟩
theorem lw_p110 : lw_okq (⟨"FrameHeirsModel", "deedsMany", "()I"⟩, 32) := ⟨⟨by decide +kernel, by decide +kernel⟩, List.mem_of_getElem? (i := 1087) (by decide +kernel), List.mem_of_getElem? (i := 1544) (by decide +kernel), List.mem_of_getElem? (i := 1545) (by decide +kernel)⟩
theorem lw_p111 : lw_okq (⟨"FrameHeirsModel", "isTouch", "(III)Z"⟩, 32) := ⟨⟨by decide +kernel, by decide +kernel⟩, List.mem_of_getElem? (i := 1087) (by decide +kernel), List.mem_of_getElem? (i := 1552) (by decide +kernel), List.mem_of_getElem? (i := 1553) (by decide +kernel)⟩
def lw_privs_7 : List (MethodName × Nat) := [(⟨"FrameHeirsModel", "halves", "(I)V"⟩, 32), (⟨"FrameHeirsModel", "more", "(I)V"⟩, 32), (⟨"FrameHeirsModel", "movesTo", "(II)V"⟩, 32), (⟨"FrameHeirsModel", "flushed", "(IIIZ)I"⟩, 32), (⟨"FrameHeirsModel", "pendingMany", "()I"⟩, 32), (⟨"FrameHeirsModel", "listsTop", "(IZII)I"⟩, 32), (⟨"FrameHeirsModel", "lists", "(III)I"⟩, 32), (⟨"FrameHeirsModel", "worked", "(I)I"⟩, 32), (⟨"FrameHeirsModel", "isWorking", "()Z"⟩, 32), (⟨"FrameHeirsModel", "goes", "(I)V"⟩, 32), (⟨"FrameHeirsModel", "leaves", "(I)V"⟩, 32), (⟨"FrameHeirsModel", "tree", "(I)V"⟩, 32), (⟨"FrameHeirsModel", "jobOver", "()V"⟩, 32), (⟨"FrameHeirsModel", "ticks", "()V"⟩, 32), (⟨"FrameHeirsModel", "deedsMany", "()I"⟩, 32), (⟨"FrameHeirsModel", "isTouch", "(III)Z"⟩, 32)]
theorem lw_r7 : ∀ q ∈ lw_privs_7, lw_okq q := List.forall_mem_cons.mpr ⟨lw_p96, List.forall_mem_cons.mpr ⟨lw_p97, List.forall_mem_cons.mpr ⟨lw_p98, List.forall_mem_cons.mpr ⟨lw_p99, List.forall_mem_cons.mpr ⟨lw_p100, List.forall_mem_cons.mpr ⟨lw_p101, List.forall_mem_cons.mpr ⟨lw_p102, List.forall_mem_cons.mpr ⟨lw_p103, List.forall_mem_cons.mpr ⟨lw_p104, List.forall_mem_cons.mpr ⟨lw_p105, List.forall_mem_cons.mpr ⟨lw_p106, List.forall_mem_cons.mpr ⟨lw_p107, List.forall_mem_cons.mpr ⟨lw_p108, List.forall_mem_cons.mpr ⟨lw_p109, List.forall_mem_cons.mpr ⟨lw_p110, List.forall_mem_cons.mpr ⟨lw_p111, fun _ h => absurd h List.not_mem_nil⟩⟩⟩⟩⟩⟩⟩⟩⟩⟩⟩⟩⟩⟩⟩⟩
theorem lw_p112 : lw_okq (⟨"FrameHeirsModel", "isWaiting", "(I)Z"⟩, 32) := ⟨⟨by decide +kernel, by decide +kernel⟩, List.mem_of_getElem? (i := 1087) (by decide +kernel), List.mem_of_getElem? (i := 1556) (by decide +kernel), List.mem_of_getElem? (i := 1557) (by decide +kernel)⟩
theorem lw_p113 : lw_okq (⟨"FrameHeirsModel", "touched", "(III)I"⟩, 32) := ⟨⟨by decide +kernel, by decide +kernel⟩, List.mem_of_getElem? (i := 1087) (by decide +kernel), List.mem_of_getElem? (i := 1560) (by decide +kernel), List.mem_of_getElem? (i := 1561) (by decide +kernel)⟩
theorem lw_p114 : lw_okq (⟨"FrameHeirsModel", "has", "(III)Z"⟩, 32) := ⟨⟨by decide +kernel, by decide +kernel⟩, List.mem_of_getElem? (i := 1087) (by decide +kernel), List.mem_of_getElem? (i := 1564) (by decide +kernel), List.mem_of_getElem? (i := 1565) (by decide +kernel)⟩
theorem lw_p115 : lw_okq (⟨"FrameHeirsModel", "frameAt", "(II)I"⟩, 32) := ⟨⟨by decide +kernel, by decide +kernel⟩, List.mem_of_getElem? (i := 1087) (by decide +kernel), List.mem_of_getElem? (i := 1572) (by decide +kernel), List.mem_of_getElem? (i := 1573) (by decide +kernel)⟩
theorem lw_p116 : lw_okq (⟨"FrameHeirsModel", "waitsFor", "(III)V"⟩, 32) := ⟨⟨by decide +kernel, by decide +kernel⟩, List.mem_of_getElem? (i := 1087) (by decide +kernel), List.mem_of_getElem? (i := 1576) (by decide +kernel), List.mem_of_getElem? (i := 1577) (by decide +kernel)⟩
theorem lw_p117 : lw_okq (⟨"FrameHeirsModel", "served", "(I)I"⟩, 32) := ⟨⟨by decide +kernel, by decide +kernel⟩, List.mem_of_getElem? (i := 1087) (by decide +kernel), List.mem_of_getElem? (i := 1584) (by decide +kernel), List.mem_of_getElem? (i := 1585) (by decide +kernel)⟩
theorem lw_p118 : lw_okq (⟨"FrameHeirsModel", "firstFor", "(I)I"⟩, 32) := ⟨⟨by decide +kernel, by decide +kernel⟩, List.mem_of_getElem? (i := 1087) (by decide +kernel), List.mem_of_getElem? (i := 1588) (by decide +kernel), List.mem_of_getElem? (i := 1589) (by decide +kernel)⟩
theorem lw_p119 : lw_okq (⟨"FrameHeirsModel", "placeBy", "(IIII)I"⟩, 32) := ⟨⟨by decide +kernel, by decide +kernel⟩, List.mem_of_getElem? (i := 1087) (by decide +kernel), List.mem_of_getElem? (i := 1592) (by decide +kernel), List.mem_of_getElem? (i := 1593) (by decide +kernel)⟩
theorem lw_p120 : lw_okq (⟨"FrameHeirsModel", "aliasesOf", "(II)I"⟩, 32) := ⟨⟨by decide +kernel, by decide +kernel⟩, List.mem_of_getElem? (i := 1087) (by decide +kernel), List.mem_of_getElem? (i := 1596) (by decide +kernel), List.mem_of_getElem? (i := 1597) (by decide +kernel)⟩
theorem lw_p121 : lw_okq (⟨"FrameHeirsModel", "refuses", "(I)I"⟩, 32) := ⟨⟨by decide +kernel, by decide +kernel⟩, List.mem_of_getElem? (i := 1087) (by decide +kernel), List.mem_of_getElem? (i := 1600) (by decide +kernel), List.mem_of_getElem? (i := 1601) (by decide +kernel)⟩
theorem lw_p122 : lw_okq (⟨"FrameHeirsModel", "coldestOf", "(IZ)I"⟩, 32) := ⟨⟨by decide +kernel, by decide +kernel⟩, List.mem_of_getElem? (i := 1087) (by decide +kernel), List.mem_of_getElem? (i := 1604) (by decide +kernel), List.mem_of_getElem? (i := 1605) (by decide +kernel)⟩
theorem lw_p123 : lw_okq (⟨"FrameHeirsModel", "settles", "()I"⟩, 32) := ⟨⟨by decide +kernel, by decide +kernel⟩, List.mem_of_getElem? (i := 1087) (by decide +kernel), List.mem_of_getElem? (i := 1612) (by decide +kernel), List.mem_of_getElem? (i := 1613) (by decide +kernel)⟩
theorem lw_p124 : lw_okq (⟨"FrameHeirsModel", "tidies", "(I)I"⟩, 32) := ⟨⟨by decide +kernel, by decide +kernel⟩, List.mem_of_getElem? (i := 1087) (by decide +kernel), List.mem_of_getElem? (i := 1620) (by decide +kernel), List.mem_of_getElem? (i := 1621) (by decide +kernel)⟩
theorem lw_p125 : lw_okq (⟨"FrameHeirsModel", "pairIn", "(I)I"⟩, 32) := ⟨⟨by decide +kernel, by decide +kernel⟩, List.mem_of_getElem? (i := 1087) (by decide +kernel), List.mem_of_getElem? (i := 1624) (by decide +kernel), List.mem_of_getElem? (i := 1625) (by decide +kernel)⟩
theorem lw_p126 : lw_okq (⟨"FrameHeirsModel", "isPair", "(II)Z"⟩, 32) := ⟨⟨by decide +kernel, by decide +kernel⟩, List.mem_of_getElem? (i := 1087) (by decide +kernel), List.mem_of_getElem? (i := 1628) (by decide +kernel), List.mem_of_getElem? (i := 1629) (by decide +kernel)⟩
theorem lw_p127 : lw_okq (⟨"FrameHeirsModel", "oneOf", "(II)V"⟩, 32) := ⟨⟨by decide +kernel, by decide +kernel⟩, List.mem_of_getElem? (i := 1087) (by decide +kernel), List.mem_of_getElem? (i := 1632) (by decide +kernel), List.mem_of_getElem? (i := 1633) (by decide +kernel)⟩
def lw_privs_8 : List (MethodName × Nat) := [(⟨"FrameHeirsModel", "isWaiting", "(I)Z"⟩, 32), (⟨"FrameHeirsModel", "touched", "(III)I"⟩, 32), (⟨"FrameHeirsModel", "has", "(III)Z"⟩, 32), (⟨"FrameHeirsModel", "frameAt", "(II)I"⟩, 32), (⟨"FrameHeirsModel", "waitsFor", "(III)V"⟩, 32), (⟨"FrameHeirsModel", "served", "(I)I"⟩, 32), (⟨"FrameHeirsModel", "firstFor", "(I)I"⟩, 32), (⟨"FrameHeirsModel", "placeBy", "(IIII)I"⟩, 32), (⟨"FrameHeirsModel", "aliasesOf", "(II)I"⟩, 32), (⟨"FrameHeirsModel", "refuses", "(I)I"⟩, 32), (⟨"FrameHeirsModel", "coldestOf", "(IZ)I"⟩, 32), (⟨"FrameHeirsModel", "settles", "()I"⟩, 32), (⟨"FrameHeirsModel", "tidies", "(I)I"⟩, 32), (⟨"FrameHeirsModel", "pairIn", "(I)I"⟩, 32), (⟨"FrameHeirsModel", "isPair", "(II)Z"⟩, 32), (⟨"FrameHeirsModel", "oneOf", "(II)V"⟩, 32)]
theorem lw_r8 : ∀ q ∈ lw_privs_8, lw_okq q := List.forall_mem_cons.mpr ⟨lw_p112, List.forall_mem_cons.mpr ⟨lw_p113, List.forall_mem_cons.mpr ⟨lw_p114, List.forall_mem_cons.mpr ⟨lw_p115, List.forall_mem_cons.mpr ⟨lw_p116, List.forall_mem_cons.mpr ⟨lw_p117, List.forall_mem_cons.mpr ⟨lw_p118, List.forall_mem_cons.mpr ⟨lw_p119, List.forall_mem_cons.mpr ⟨lw_p120, List.forall_mem_cons.mpr ⟨lw_p121, List.forall_mem_cons.mpr ⟨lw_p122, List.forall_mem_cons.mpr ⟨lw_p123, List.forall_mem_cons.mpr ⟨lw_p124, List.forall_mem_cons.mpr ⟨lw_p125, List.forall_mem_cons.mpr ⟨lw_p126, List.forall_mem_cons.mpr ⟨lw_p127, fun _ h => absurd h List.not_mem_nil⟩⟩⟩⟩⟩⟩⟩⟩⟩⟩⟩⟩⟩⟩⟩⟩
theorem lw_p128 : lw_okq (⟨"FrameHeirsModel", "isSmallLine", "(II)Z"⟩, 32) := ⟨⟨by decide +kernel, by decide +kernel⟩, List.mem_of_getElem? (i := 1087) (by decide +kernel), List.mem_of_getElem? (i := 1637) (by decide +kernel), List.mem_of_getElem? (i := 1638) (by decide +kernel)⟩
theorem lw_p129 : lw_okq (⟨"FrameHeirsModel", "stepDone", "(I)I"⟩, 32) := ⟨⟨by decide +kernel, by decide +kernel⟩, List.mem_of_getElem? (i := 1087) (by decide +kernel), List.mem_of_getElem? (i := 1645) (by decide +kernel), List.mem_of_getElem? (i := 1646) (by decide +kernel)⟩
theorem lw_p130 : lw_okq (⟨"FrameHeirsModel", "fails", "(I)I"⟩, 32) := ⟨⟨by decide +kernel, by decide +kernel⟩, List.mem_of_getElem? (i := 1087) (by decide +kernel), List.mem_of_getElem? (i := 1657) (by decide +kernel), List.mem_of_getElem? (i := 1658) (by decide +kernel)⟩
theorem lw_p131 : lw_okq (⟨"FrameHeirsModel", "aboveMany", "(I)I"⟩, 32) := ⟨⟨by decide +kernel, by decide +kernel⟩, List.mem_of_getElem? (i := 1087) (by decide +kernel), List.mem_of_getElem? (i := 1661) (by decide +kernel), List.mem_of_getElem? (i := 1662) (by decide +kernel)⟩
theorem lw_p132 : lw_okq (⟨"FrameHeirsModel", "heirsMany", "(I)I"⟩, 32) := ⟨⟨by decide +kernel, by decide +kernel⟩, List.mem_of_getElem? (i := 1087) (by decide +kernel), List.mem_of_getElem? (i := 1665) (by decide +kernel), List.mem_of_getElem? (i := 1666) (by decide +kernel)⟩
theorem lw_p133 : lw_okq (⟨"FrameHeirsModel", "belowMany", "(I)I"⟩, 32) := ⟨⟨by decide +kernel, by decide +kernel⟩, List.mem_of_getElem? (i := 1087) (by decide +kernel), List.mem_of_getElem? (i := 1669) (by decide +kernel), List.mem_of_getElem? (i := 1670) (by decide +kernel)⟩
theorem lw_p134 : lw_okq (⟨"FrameHeirsModel", "isBelow", "(II)Z"⟩, 32) := ⟨⟨by decide +kernel, by decide +kernel⟩, List.mem_of_getElem? (i := 1087) (by decide +kernel), List.mem_of_getElem? (i := 1693) (by decide +kernel), List.mem_of_getElem? (i := 1694) (by decide +kernel)⟩
theorem lw_p135 : lw_okq (⟨"FrameHeirsModel", "isTopGate", "(II)Z"⟩, 32) := ⟨⟨by decide +kernel, by decide +kernel⟩, List.mem_of_getElem? (i := 1087) (by decide +kernel), List.mem_of_getElem? (i := 1705) (by decide +kernel), List.mem_of_getElem? (i := 1706) (by decide +kernel)⟩
theorem lw_p136 : lw_okq (⟨"FrameHeirsModel", "isGate", "(II)Z"⟩, 32) := ⟨⟨by decide +kernel, by decide +kernel⟩, List.mem_of_getElem? (i := 1087) (by decide +kernel), List.mem_of_getElem? (i := 1709) (by decide +kernel), List.mem_of_getElem? (i := 1710) (by decide +kernel)⟩
theorem lw_p137 : lw_okq (⟨"FrameHeirsModel", "warmthOf", "(I)I"⟩, 32) := ⟨⟨by decide +kernel, by decide +kernel⟩, List.mem_of_getElem? (i := 1087) (by decide +kernel), List.mem_of_getElem? (i := 1733) (by decide +kernel), List.mem_of_getElem? (i := 1734) (by decide +kernel)⟩
theorem lw_p138 : lw_okq (⟨"FrameHeirsModel", "asNow", "()V"⟩, 32) := ⟨⟨by decide +kernel, by decide +kernel⟩, List.mem_of_getElem? (i := 1087) (by decide +kernel), List.mem_of_getElem? (i := 1749) (by decide +kernel), List.mem_of_getElem? (i := 1750) (by decide +kernel)⟩
theorem lw_p139 : lw_okq (⟨"FrameHeirsModel", "isBelowThere", "(I)Z"⟩, 32) := ⟨⟨by decide +kernel, by decide +kernel⟩, List.mem_of_getElem? (i := 1087) (by decide +kernel), List.mem_of_getElem? (i := 1769) (by decide +kernel), List.mem_of_getElem? (i := 1770) (by decide +kernel)⟩
theorem lw_p140 : lw_okq (⟨"FrameHeirsModel", "pagesAll", "()I"⟩, 32) := ⟨⟨by decide +kernel, by decide +kernel⟩, List.mem_of_getElem? (i := 1087) (by decide +kernel), List.mem_of_getElem? (i := 1781) (by decide +kernel), List.mem_of_getElem? (i := 1782) (by decide +kernel)⟩
theorem lw_p141 : lw_okq (⟨"FrameHeirsModel", "drawnBy", "(I)I"⟩, 32) := ⟨⟨by decide +kernel, by decide +kernel⟩, List.mem_of_getElem? (i := 1087) (by decide +kernel), List.mem_of_getElem? (i := 1789) (by decide +kernel), List.mem_of_getElem? (i := 1790) (by decide +kernel)⟩
def lw_privs_9 : List (MethodName × Nat) := [(⟨"FrameHeirsModel", "isSmallLine", "(II)Z"⟩, 32), (⟨"FrameHeirsModel", "stepDone", "(I)I"⟩, 32), (⟨"FrameHeirsModel", "fails", "(I)I"⟩, 32), (⟨"FrameHeirsModel", "aboveMany", "(I)I"⟩, 32), (⟨"FrameHeirsModel", "heirsMany", "(I)I"⟩, 32), (⟨"FrameHeirsModel", "belowMany", "(I)I"⟩, 32), (⟨"FrameHeirsModel", "isBelow", "(II)Z"⟩, 32), (⟨"FrameHeirsModel", "isTopGate", "(II)Z"⟩, 32), (⟨"FrameHeirsModel", "isGate", "(II)Z"⟩, 32), (⟨"FrameHeirsModel", "warmthOf", "(I)I"⟩, 32), (⟨"FrameHeirsModel", "asNow", "()V"⟩, 32), (⟨"FrameHeirsModel", "isBelowThere", "(I)Z"⟩, 32), (⟨"FrameHeirsModel", "pagesAll", "()I"⟩, 32), (⟨"FrameHeirsModel", "drawnBy", "(I)I"⟩, 32)]
theorem lw_r9 : ∀ q ∈ lw_privs_9, lw_okq q := List.forall_mem_cons.mpr ⟨lw_p128, List.forall_mem_cons.mpr ⟨lw_p129, List.forall_mem_cons.mpr ⟨lw_p130, List.forall_mem_cons.mpr ⟨lw_p131, List.forall_mem_cons.mpr ⟨lw_p132, List.forall_mem_cons.mpr ⟨lw_p133, List.forall_mem_cons.mpr ⟨lw_p134, List.forall_mem_cons.mpr ⟨lw_p135, List.forall_mem_cons.mpr ⟨lw_p136, List.forall_mem_cons.mpr ⟨lw_p137, List.forall_mem_cons.mpr ⟨lw_p138, List.forall_mem_cons.mpr ⟨lw_p139, List.forall_mem_cons.mpr ⟨lw_p140, List.forall_mem_cons.mpr ⟨lw_p141, fun _ h => absurd h List.not_mem_nil⟩⟩⟩⟩⟩⟩⟩⟩⟩⟩⟩⟩⟩⟩
def lw_privs : List (MethodName × Nat) := lw_privs_1 ++ (lw_privs_2 ++ (lw_privs_3 ++ (lw_privs_4 ++ (lw_privs_5 ++ (lw_privs_6 ++ (lw_privs_7 ++ (lw_privs_8 ++ (lw_privs_9))))))))
def lw_tbl : List Cond := k2_sels lw_privs ++ tables_1
theorem lw_privs_ok : ∀ q ∈ lw_privs, lw_okq q := by
  show ∀ q ∈ lw_privs_1 ++ (lw_privs_2 ++ (lw_privs_3 ++ (lw_privs_4 ++ (lw_privs_5 ++ (lw_privs_6 ++ (lw_privs_7 ++ (lw_privs_8 ++ (lw_privs_9)))))))), lw_okq q
  exact List.forall_mem_append.mpr ⟨lw_r1, List.forall_mem_append.mpr ⟨lw_r2, List.forall_mem_append.mpr ⟨lw_r3, List.forall_mem_append.mpr ⟨lw_r4, List.forall_mem_append.mpr ⟨lw_r5, List.forall_mem_append.mpr ⟨lw_r6, List.forall_mem_append.mpr ⟨lw_r7, List.forall_mem_append.mpr ⟨lw_r8, lw_r9⟩⟩⟩⟩⟩⟩⟩⟩
/-- the streams that the claim lets the run draw from -/
abbrev lw_cs : List Choice := [Jvm.Choice.named "NaN.bits"]
theorem lw_bits : nanBits ∈ lw_cs := by first | decide | exact List.mem_cons_self | simp [lw_cs, nanBits]
def RX0 : String := "FrameHeirs$Deeds"
def TX0 : u_T := fun k => match k with
  | 0 => ("FrameHeirs$Deeds", "space", "[I", true)
  | 1 => ("FrameHeirs$Deeds", "place", "[I", true)
  | 2 => ("FrameHeirs$Deeds", "frame", "[I", true)
  | 3 => ("FrameHeirs$Deeds", "order", "[I", true)
  | 4 => ("FrameHeirs$Deeds", "rights", "[I", true)
  | 5 => ("FrameHeirs$Deeds", "giver", "[I", true)
  | 6 => ("FrameHeirs$Deeds", "first", "[I", true)
  | 7 => ("FrameHeirs$Deeds", "last", "[I", true)
  | 8 => ("FrameHeirs$Deeds", "next", "[I", true)
  | 9 => ("FrameHeirs$Deeds", "previous", "[I", true)
  | 10 => ("FrameHeirs$Deeds", "topOf", "[I", true)
  | 11 => ("FrameHeirs$Deeds", "toDo", "[I", true)
  | 12 => ("FrameHeirs$Deeds", "turn", "[I", true)
  | 13 => ("FrameHeirs$Deeds", "ages", "[F", true)
  | 14 => ("FrameHeirs$Deeds", "slotAt", "[I", true)
  | 15 => ("FrameHeirs$Deeds", "list", "[I", true)
  | 16 => ("FrameHeirs$Deeds", "bound", "I", false)
  | 17 => ("FrameHeirs$Deeds", "used", "I", false)
  | 18 => ("FrameHeirs$Deeds", "tops", "I", false)
  | _ => ("FrameHeirs$Deeds", "splits", "I", false)
def tyX0 : Nat → FieldType := fun k => match k with
  | 0 => .array .int
  | 1 => .array .int
  | 2 => .array .int
  | 3 => .array .int
  | 4 => .array .int
  | 5 => .array .int
  | 6 => .array .int
  | 7 => .array .int
  | 8 => .array .int
  | 9 => .array .int
  | 10 => .array .int
  | 11 => .array .int
  | 12 => .array .int
  | 13 => .array .float
  | 14 => .array .int
  | 15 => .array .int
  | 16 => .int
  | 17 => .int
  | 18 => .int
  | _ => .int
abbrev wsX00 : List Cond := u_ws RX0 TX0 20
theorem nmX0 : ∀ a, a < 20 → ∀ b, b < 20 → a ≠ b → (TX0 a).2.1 ≠ (TX0 b).2.1 := by decide +kernel
theorem tyX0_ok : ∀ k, k < 20 → parseFieldDescriptor (TX0 k).2.2.1 = some (tyX0 k) := by decide +kernel
abbrev cX0_init : ByteArray := prog_2_method_1_code
def yX0_init : MethodName := ⟨RX0, "<init>", "()V"⟩
abbrev cX0_clear : ByteArray := prog_2_method_2_code
def yX0_clear : MethodName := ⟨RX0, "clear", "()V"⟩
abbrev cX0_copyFrom : ByteArray := prog_2_method_3_code
def yX0_copyFrom : MethodName := ⟨RX0, "copyFrom", "(LFrameHeirs$Deeds;)V"⟩
abbrev cX0_find : ByteArray := prog_2_method_4_code
def yX0_find : MethodName := ⟨RX0, "find", "(II)I"⟩
abbrev cX0_pagesIn : ByteArray := prog_2_method_5_code
def yX0_pagesIn : MethodName := ⟨RX0, "pagesIn", "(III)I"⟩
abbrev cX0_pagesOf : ByteArray := prog_2_method_6_code
def yX0_pagesOf : MethodName := ⟨RX0, "pagesOf", "(I)I"⟩
abbrev cX0_pagesOfAll : ByteArray := prog_2_method_7_code
def yX0_pagesOfAll : MethodName := ⟨RX0, "pagesOfAll", "()I"⟩
abbrev cX0_make : ByteArray := prog_2_method_8_code
def yX0_make : MethodName := ⟨RX0, "make", "(IIIII)I"⟩
abbrev cX0_settleAt : ByteArray := prog_2_method_9_code
def yX0_settleAt : MethodName := ⟨RX0, "settleAt", "(II)V"⟩
abbrev cX0_release : ByteArray := prog_2_method_10_code
def yX0_release : MethodName := ⟨RX0, "release", "(I)V"⟩
abbrev cX0_moveTo : ByteArray := prog_2_method_11_code
def yX0_moveTo : MethodName := ⟨RX0, "moveTo", "(III)V"⟩
abbrev cX0_append : ByteArray := prog_2_method_12_code
def yX0_append : MethodName := ⟨RX0, "append", "(II)V"⟩
abbrev cX0_putBehind : ByteArray := prog_2_method_13_code
def yX0_putBehind : MethodName := ⟨RX0, "putBehind", "(II)V"⟩
abbrev cX0_takeFromGiver : ByteArray := prog_2_method_14_code
def yX0_takeFromGiver : MethodName := ⟨RX0, "takeFromGiver", "(I)V"⟩
abbrev cX0_remove : ByteArray := prog_2_method_15_code
def yX0_remove : MethodName := ⟨RX0, "remove", "(I)V"⟩
abbrev cX0_deepest : ByteArray := prog_2_method_16_code
def yX0_deepest : MethodName := ⟨RX0, "deepest", "(I)I"⟩
abbrev cX0_afterwards : ByteArray := prog_2_method_17_code
def yX0_afterwards : MethodName := ⟨RX0, "afterwards", "(I)I"⟩
abbrev cX0_cut : ByteArray := prog_2_method_18_code
def yX0_cut : MethodName := ⟨RX0, "cut", "(III)V"⟩
abbrev cX0_listAlike : ByteArray := prog_2_method_19_code
def yX0_listAlike : MethodName := ⟨RX0, "listAlike", "(I)I"⟩
abbrev cX0_halve : ByteArray := prog_2_method_20_code
def yX0_halve : MethodName := ⟨RX0, "halve", "(I)V"⟩
abbrev cX0_joinTwo : ByteArray := prog_2_method_21_code
def yX0_joinTwo : MethodName := ⟨RX0, "joinTwo", "(I)Z"⟩
abbrev cX0_areHalves : ByteArray := prog_2_method_22_code
def yX0_areHalves : MethodName := ⟨RX0, "areHalves", "(III)Z"⟩
abbrev cX0_join : ByteArray := prog_2_method_23_code
def yX0_join : MethodName := ⟨RX0, "join", "(II)V"⟩
abbrev cX0_isBeneath : ByteArray := prog_2_method_24_code
def yX0_isBeneath : MethodName := ⟨RX0, "isBeneath", "(II)Z"⟩
abbrev cX0_isBusy : ByteArray := prog_2_method_25_code
def yX0_isBusy : MethodName := ⟨RX0, "isBusy", "(I)Z"⟩
abbrev cX0_isTied : ByteArray := prog_2_method_26_code
def yX0_isTied : MethodName := ⟨RX0, "isTied", "(I)Z"⟩
abbrev cX0_coldestOf : ByteArray := prog_2_method_27_code
def yX0_coldestOf : MethodName := ⟨RX0, "coldestOf", "(IZ)I"⟩
abbrev cX0_warmthOf : ByteArray := prog_2_method_28_code
def yX0_warmthOf : MethodName := ⟨RX0, "warmthOf", "(I)F"⟩
abbrev cX0_coolDown : ByteArray := prog_2_method_29_code
def yX0_coolDown : MethodName := ⟨RX0, "coolDown", "(I)V"⟩
abbrev cX0_leftToDo : ByteArray := prog_2_method_30_code
def yX0_leftToDo : MethodName := ⟨RX0, "leftToDo", "(I)I"⟩
abbrev cX0_firstToDo : ByteArray := prog_2_method_31_code
def yX0_firstToDo : MethodName := ⟨RX0, "firstToDo", "(I)I"⟩
abbrev cX0_allToDo : ByteArray := prog_2_method_32_code
def yX0_allToDo : MethodName := ⟨RX0, "allToDo", "()I"⟩
abbrev cX0_queueBeneath : ByteArray := prog_2_method_33_code
def yX0_queueBeneath : MethodName := ⟨RX0, "queueBeneath", "(IZII)I"⟩
abbrev cX0_markTop : ByteArray := prog_2_method_34_code
def yX0_markTop : MethodName := ⟨RX0, "markTop", "(II)V"⟩
abbrev cX0_endJob : ByteArray := prog_2_method_35_code
def yX0_endJob : MethodName := ⟨RX0, "endJob", "(I)V"⟩
def RX1 : String := "FrameHeirs$Questions"
def TX1 : u_T := fun k => match k with
  | _ => ("", "", "", false)
def tyX1 : Nat → FieldType := fun k => match k with
  | _ => .int
abbrev wsX10 : List Cond := u_ws RX1 TX1 0
theorem nmX1 : ∀ a, a < 0 → ∀ b, b < 0 → a ≠ b → (TX1 a).2.1 ≠ (TX1 b).2.1 := by decide +kernel
theorem tyX1_ok : ∀ k, k < 0 → parseFieldDescriptor (TX1 k).2.2.1 = some (tyX1 k) := by decide +kernel
abbrev cX1_tell : ByteArray := prog_3_method_2_code
def yX1_tell : MethodName := ⟨RX1, "tell", "(LFrameHeirs$Deeds;III)I"⟩
abbrev cX1_frameAt : ByteArray := prog_3_method_3_code
def yX1_frameAt : MethodName := ⟨RX1, "frameAt", "(LFrameHeirs$Deeds;II)I"⟩
abbrev cX1_aboveOf : ByteArray := prog_3_method_4_code
def yX1_aboveOf : MethodName := ⟨RX1, "aboveOf", "(LFrameHeirs$Deeds;I)I"⟩
abbrev cX1_heirsOf : ByteArray := prog_3_method_5_code
def yX1_heirsOf : MethodName := ⟨RX1, "heirsOf", "(LFrameHeirs$Deeds;I)I"⟩
abbrev cX1_beneathOf : ByteArray := prog_3_method_6_code
def yX1_beneathOf : MethodName := ⟨RX1, "beneathOf", "(LFrameHeirs$Deeds;I)I"⟩
abbrev cX1_mostAbove : ByteArray := prog_3_method_7_code
def yX1_mostAbove : MethodName := ⟨RX1, "mostAbove", "(LFrameHeirs$Deeds;)I"⟩
abbrev cX1_placeAbove : ByteArray := prog_3_method_8_code
def yX1_placeAbove : MethodName := ⟨RX1, "placeAbove", "(LFrameHeirs$Deeds;III)I"⟩
abbrev cX1_placeOfHeir : ByteArray := prog_3_method_9_code
def yX1_placeOfHeir : MethodName := ⟨RX1, "placeOfHeir", "(LFrameHeirs$Deeds;III)I"⟩
abbrev cX1_framesIn : ByteArray := prog_3_method_10_code
def yX1_framesIn : MethodName := ⟨RX1, "framesIn", "(LFrameHeirs$Deeds;I)I"⟩
abbrev cX1_framesOf : ByteArray := prog_3_method_11_code
def yX1_framesOf : MethodName := ⟨RX1, "framesOf", "(LFrameHeirs$Deeds;I)I"⟩
abbrev cX1_holders : ByteArray := prog_3_method_12_code
def yX1_holders : MethodName := ⟨RX1, "holders", "(LFrameHeirs$Deeds;II)I"⟩
abbrev cX1_placesOf : ByteArray := prog_3_method_13_code
def yX1_placesOf : MethodName := ⟨RX1, "placesOf", "(LFrameHeirs$Deeds;II)I"⟩
abbrev cX1_pagesBeneath : ByteArray := prog_3_method_14_code
def yX1_pagesBeneath : MethodName := ⟨RX1, "pagesBeneath", "(LFrameHeirs$Deeds;II)I"⟩
abbrev cX1_hasAbove : ByteArray := prog_3_method_15_code
def yX1_hasAbove : MethodName := ⟨RX1, "hasAbove", "(LFrameHeirs$Deeds;II)Z"⟩
abbrev cX1_partings : ByteArray := prog_3_method_16_code
def yX1_partings : MethodName := ⟨RX1, "partings", "(LFrameHeirs$Deeds;II)I"⟩
abbrev cX1_highestGate : ByteArray := prog_3_method_17_code
def yX1_highestGate : MethodName := ⟨RX1, "highestGate", "(LFrameHeirs$Deeds;II)I"⟩
abbrev cX1_loss : ByteArray := prog_3_method_18_code
def yX1_loss : MethodName := ⟨RX1, "loss", "(LFrameHeirs$Deeds;III)I"⟩
abbrev cX1_isBeneathRegion : ByteArray := prog_3_method_19_code
def yX1_isBeneathRegion : MethodName := ⟨RX1, "isBeneathRegion", "(LFrameHeirs$Deeds;IIII)Z"⟩
def RX2 : String := "FrameHeirs$Reader"
def TX2 : u_T := fun k => match k with
  | 0 => ("FrameHeirs$Reader", "faultKind", "I", false)
  | 1 => ("FrameHeirs$Reader", "faultPlace", "I", false)
  | 2 => ("FrameHeirs$Reader", "bytes", "[I", true)
  | 3 => ("FrameHeirs$Reader", "length", "I", false)
  | 4 => ("FrameHeirs$Reader", "position", "I", false)
  | 5 => ("FrameHeirs$Reader", "kind", "I", false)
  | 6 => ("FrameHeirs$Reader", "start", "I", false)
  | 7 => ("FrameHeirs$Reader", "value", "I", false)
  | 8 => ("FrameHeirs$Reader", "toldWords", "I", false)
  | 9 => ("FrameHeirs$Reader", "toldQuotas", "I", false)
  | _ => ("FrameHeirs$Reader", "into", "LFrameHeirs$Script;", false)
def tyX2 : Nat → FieldType := fun k => match k with
  | 0 => .int
  | 1 => .int
  | 2 => .array .int
  | 3 => .int
  | 4 => .int
  | 5 => .int
  | 6 => .int
  | 7 => .int
  | 8 => .int
  | 9 => .int
  | _ => .object "FrameHeirs$Script"
abbrev wsX20 : List Cond := u_ws RX2 TX2 11
theorem nmX2 : ∀ a, a < 11 → ∀ b, b < 11 → a ≠ b → (TX2 a).2.1 ≠ (TX2 b).2.1 := by decide +kernel
theorem tyX2_ok : ∀ k, k < 11 → parseFieldDescriptor (TX2 k).2.2.1 = some (tyX2 k) := by decide +kernel
abbrev cX2_init : ByteArray := prog_4_method_1_code
def yX2_init : MethodName := ⟨RX2, "<init>", "([ILFrameHeirs$Script;)V"⟩
abbrev cX2_begin : ByteArray := prog_4_method_2_code
def yX2_begin : MethodName := ⟨RX2, "begin", "(ILFrameHeirs$Script;)V"⟩
abbrev cX2_hasMore : ByteArray := prog_4_method_3_code
def yX2_hasMore : MethodName := ⟨RX2, "hasMore", "()Z"⟩
abbrev cX2_readLine : ByteArray := prog_4_method_4_code
def yX2_readLine : MethodName := ⟨RX2, "readLine", "()Z"⟩
abbrev cX2_readSpace : ByteArray := prog_4_method_5_code
def yX2_readSpace : MethodName := ⟨RX2, "readSpace", "()Z"⟩
abbrev cX2_readPager : ByteArray := prog_4_method_6_code
def yX2_readPager : MethodName := ⟨RX2, "readPager", "()Z"⟩
abbrev cX2_readQuota : ByteArray := prog_4_method_7_code
def yX2_readQuota : MethodName := ⟨RX2, "readQuota", "()Z"⟩
abbrev cX2_readSetting : ByteArray := prog_4_method_8_code
def yX2_readSetting : MethodName := ⟨RX2, "readSetting", "(I)Z"⟩
abbrev cX2_readStep : ByteArray := prog_4_method_9_code
def yX2_readStep : MethodName := ⟨RX2, "readStep", "(I)Z"⟩
abbrev cX2_formOf : ByteArray := prog_4_method_10_code
def yX2_formOf : MethodName := ⟨RX2, "formOf", "(I)[I"⟩
abbrev cX2_takeSpace : ByteArray := prog_4_method_11_code
def yX2_takeSpace : MethodName := ⟨RX2, "takeSpace", "()I"⟩
abbrev cX2_takeNumber : ByteArray := prog_4_method_12_code
def yX2_takeNumber : MethodName := ⟨RX2, "takeNumber", "(II)I"⟩
abbrev cX2_fail : ByteArray := prog_4_method_13_code
def yX2_fail : MethodName := ⟨RX2, "fail", "(I)Z"⟩
abbrev cX2_take : ByteArray := prog_4_method_14_code
def yX2_take : MethodName := ⟨RX2, "take", "()V"⟩
abbrev cX2_takeWord : ByteArray := prog_4_method_15_code
def yX2_takeWord : MethodName := ⟨RX2, "takeWord", "()V"⟩
abbrev cX2_takeDigits : ByteArray := prog_4_method_16_code
def yX2_takeDigits : MethodName := ⟨RX2, "takeDigits", "()V"⟩
abbrev cX2_isBlank : ByteArray := prog_4_method_17_code
def yX2_isBlank : MethodName := ⟨RX2, "isBlank", "(I)Z"⟩
abbrev cX2_isLetter : ByteArray := prog_4_method_18_code
def yX2_isLetter : MethodName := ⟨RX2, "isLetter", "(I)Z"⟩
abbrev cX2_isDigit : ByteArray := prog_4_method_19_code
def yX2_isDigit : MethodName := ⟨RX2, "isDigit", "(I)Z"⟩
def RX3 : String := "FrameHeirs$Script"
def TX3 : u_T := fun k => match k with
  | 0 => ("FrameHeirs$Script", "names", "[I", true)
  | 1 => ("FrameHeirs$Script", "pagers", "[I", true)
  | 2 => ("FrameHeirs$Script", "ways", "[I", true)
  | 3 => ("FrameHeirs$Script", "quotas", "[I", true)
  | 4 => ("FrameHeirs$Script", "stepRows", "[I", true)
  | 5 => ("FrameHeirs$Script", "spaces", "I", false)
  | 6 => ("FrameHeirs$Script", "size", "I", false)
  | 7 => ("FrameHeirs$Script", "budget", "I", false)
  | 8 => ("FrameHeirs$Script", "decay", "I", false)
  | 9 => ("FrameHeirs$Script", "seed", "I", false)
  | 10 => ("FrameHeirs$Script", "stepCount", "I", false)
  | _ => ("FrameHeirs$Script", "lines", "I", false)
def tyX3 : Nat → FieldType := fun k => match k with
  | 0 => .array .int
  | 1 => .array .int
  | 2 => .array .int
  | 3 => .array .int
  | 4 => .array .int
  | 5 => .int
  | 6 => .int
  | 7 => .int
  | 8 => .int
  | 9 => .int
  | 10 => .int
  | _ => .int
abbrev wsX30 : List Cond := u_ws RX3 TX3 12
theorem nmX3 : ∀ a, a < 12 → ∀ b, b < 12 → a ≠ b → (TX3 a).2.1 ≠ (TX3 b).2.1 := by decide +kernel
theorem tyX3_ok : ∀ k, k < 12 → parseFieldDescriptor (TX3 k).2.2.1 = some (tyX3 k) := by decide +kernel
abbrev cX3_init : ByteArray := prog_5_method_1_code
def yX3_init : MethodName := ⟨RX3, "<init>", "()V"⟩
abbrev cX3_clear : ByteArray := prog_5_method_2_code
def yX3_clear : MethodName := ⟨RX3, "clear", "()V"⟩
abbrev cX3_addSpace : ByteArray := prog_5_method_3_code
def yX3_addSpace : MethodName := ⟨RX3, "addSpace", "(I)V"⟩
abbrev cX3_spaceNamed : ByteArray := prog_5_method_4_code
def yX3_spaceNamed : MethodName := ⟨RX3, "spaceNamed", "(I)I"⟩
def RX4 : String := "FrameHeirs$World"
def TX4 : u_T := fun k => match k with
  | 0 => ("FrameHeirs$World", "script", "LFrameHeirs$Script;", false)
  | 1 => ("FrameHeirs$World", "deeds", "LFrameHeirs$Deeds;", true)
  | 2 => ("FrameHeirs$World", "jobs", "[I", true)
  | 3 => ("FrameHeirs$World", "jobCount", "I", false)
  | 4 => ("FrameHeirs$World", "jobsMade", "I", false)
  | 5 => ("FrameHeirs$World", "waitPlace", "[I", true)
  | 6 => ("FrameHeirs$World", "waitRight", "[I", true)
  | 7 => ("FrameHeirs$World", "waitSince", "[I", true)
  | 8 => ("FrameHeirs$World", "waitsMade", "I", false)
  | 9 => ("FrameHeirs$World", "wide", "[I", true)
  | 10 => ("FrameHeirs$World", "answers", "[I", true)
  | 11 => ("FrameHeirs$World", "done", "I", false)
  | 12 => ("FrameHeirs$World", "faults", "I", false)
  | 13 => ("FrameHeirs$World", "refused", "I", false)
  | _ => ("FrameHeirs$World", "worked", "I", false)
def tyX4 : Nat → FieldType := fun k => match k with
  | 0 => .object "FrameHeirs$Script"
  | 1 => .object "FrameHeirs$Deeds"
  | 2 => .array .int
  | 3 => .int
  | 4 => .int
  | 5 => .array .int
  | 6 => .array .int
  | 7 => .array .int
  | 8 => .int
  | 9 => .array .int
  | 10 => .array .int
  | 11 => .int
  | 12 => .int
  | 13 => .int
  | _ => .int
abbrev wsX40 : List Cond := u_ws RX4 TX4 15
theorem nmX4 : ∀ a, a < 15 → ∀ b, b < 15 → a ≠ b → (TX4 a).2.1 ≠ (TX4 b).2.1 := by decide +kernel
theorem tyX4_ok : ∀ k, k < 15 → parseFieldDescriptor (TX4 k).2.2.1 = some (tyX4 k) := by decide +kernel
abbrev cX4_init : ByteArray := prog_6_method_1_code
def yX4_init : MethodName := ⟨RX4, "<init>", "(LFrameHeirs$Script;)V"⟩
abbrev cX4_begin : ByteArray := prog_6_method_2_code
def yX4_begin : MethodName := ⟨RX4, "begin", "(LFrameHeirs$Script;)V"⟩
abbrev cX4_copyFrom : ByteArray := prog_6_method_3_code
def yX4_copyFrom : MethodName := ⟨RX4, "copyFrom", "(LFrameHeirs$World;)V"⟩
abbrev cX4_isSpace : ByteArray := prog_6_method_4_code
def yX4_isSpace : MethodName := ⟨RX4, "isSpace", "(I)Z"⟩
abbrev cX4_areTwo : ByteArray := prog_6_method_5_code
def yX4_areTwo : MethodName := ⟨RX4, "areTwo", "(II)Z"⟩
abbrev cX4_isFrame : ByteArray := prog_6_method_6_code
def yX4_isFrame : MethodName := ⟨RX4, "isFrame", "(I)Z"⟩
abbrev cX4_isPlace : ByteArray := prog_6_method_7_code
def yX4_isPlace : MethodName := ⟨RX4, "isPlace", "(II)Z"⟩
abbrev cX4_isRegion : ByteArray := prog_6_method_8_code
def yX4_isRegion : MethodName := ⟨RX4, "isRegion", "(II)Z"⟩
abbrev cX4_isRegionOf : ByteArray := prog_6_method_9_code
def yX4_isRegionOf : MethodName := ⟨RX4, "isRegionOf", "(II)Z"⟩
abbrev cX4_seenIn : ByteArray := prog_6_method_10_code
def yX4_seenIn : MethodName := ⟨RX4, "seenIn", "(III)I"⟩
abbrev cX4_exceedsQuota : ByteArray := prog_6_method_11_code
def yX4_exceedsQuota : MethodName := ⟨RX4, "exceedsQuota", "(II)Z"⟩
abbrev cX4_handOn : ByteArray := prog_6_method_12_code
def yX4_handOn : MethodName := ⟨RX4, "handOn", "(IIIII)I"⟩
abbrev cX4_pagesWith : ByteArray := prog_6_method_13_code
def yX4_pagesWith : MethodName := ⟨RX4, "pagesWith", "(IIII)I"⟩
abbrev cX4_makeHeirs : ByteArray := prog_6_method_14_code
def yX4_makeHeirs : MethodName := ⟨RX4, "makeHeirs", "(IIIII)I"⟩
abbrev cX4_addHeir : ByteArray := prog_6_method_15_code
def yX4_addHeir : MethodName := ⟨RX4, "addHeir", "(IIIIII)I"⟩
abbrev cX4_widen : ByteArray := prog_6_method_16_code
def yX4_widen : MethodName := ⟨RX4, "widen", "(III)V"⟩
abbrev cX4_giveAway : ByteArray := prog_6_method_17_code
def yX4_giveAway : MethodName := ⟨RX4, "giveAway", "(IIII)I"⟩
abbrev cX4_startFlush : ByteArray := prog_6_method_18_code
def yX4_startFlush : MethodName := ⟨RX4, "startFlush", "(IIIZ)I"⟩
abbrev cX4_queueJob : ByteArray := prog_6_method_19_code
def yX4_queueJob : MethodName := ⟨RX4, "queueJob", "(IIIZ)I"⟩
abbrev cX4_workOn : ByteArray := prog_6_method_20_code
def yX4_workOn : MethodName := ⟨RX4, "workOn", "(I)I"⟩
abbrev cX4_workOnce : ByteArray := prog_6_method_21_code
def yX4_workOnce : MethodName := ⟨RX4, "workOnce", "()V"⟩
abbrev cX4_tellJob : ByteArray := prog_6_method_22_code
def yX4_tellJob : MethodName := ⟨RX4, "tellJob", "(II)I"⟩
abbrev cX4_touchPage : ByteArray := prog_6_method_23_code
def yX4_touchPage : MethodName := ⟨RX4, "touchPage", "(III)I"⟩
abbrev cX4_startWait : ByteArray := prog_6_method_24_code
def yX4_startWait : MethodName := ⟨RX4, "startWait", "(III)V"⟩
abbrev cX4_firstWaiting : ByteArray := prog_6_method_25_code
def yX4_firstWaiting : MethodName := ⟨RX4, "firstWaiting", "(I)I"⟩
abbrev cX4_tellWait : ByteArray := prog_6_method_26_code
def yX4_tellWait : MethodName := ⟨RX4, "tellWait", "(II)I"⟩
abbrev cX4_waitingAhead : ByteArray := prog_6_method_27_code
def yX4_waitingAhead : MethodName := ⟨RX4, "waitingAhead", "(I)I"⟩
abbrev cX4_serveFirst : ByteArray := prog_6_method_28_code
def yX4_serveFirst : MethodName := ⟨RX4, "serveFirst", "(I)I"⟩
abbrev cX4_sourceFor : ByteArray := prog_6_method_29_code
def yX4_sourceFor : MethodName := ⟨RX4, "sourceFor", "(II)I"⟩
abbrev cX4_firstFresh : ByteArray := prog_6_method_30_code
def yX4_firstFresh : MethodName := ⟨RX4, "firstFresh", "(III)I"⟩
abbrev cX4_withRight : ByteArray := prog_6_method_31_code
def yX4_withRight : MethodName := ⟨RX4, "withRight", "(III)I"⟩
abbrev cX4_passOn : ByteArray := prog_6_method_32_code
def yX4_passOn : MethodName := ⟨RX4, "passOn", "(IIII)I"⟩
abbrev cX4_refuse : ByteArray := prog_6_method_33_code
def yX4_refuse : MethodName := ⟨RX4, "refuse", "(I)I"⟩
abbrev cX4_makeRoom : ByteArray := prog_6_method_34_code
def yX4_makeRoom : MethodName := ⟨RX4, "makeRoom", "(I)Z"⟩
abbrev cX4_settleAll : ByteArray := prog_6_method_35_code
def yX4_settleAll : MethodName := ⟨RX4, "settleAll", "()I"⟩
abbrev cX4_joinAll : ByteArray := prog_6_method_36_code
def yX4_joinAll : MethodName := ⟨RX4, "joinAll", "(I)I"⟩
abbrev cX4_keptFor : ByteArray := prog_6_method_37_code
def yX4_keptFor : MethodName := ⟨RX4, "keptFor", "(I)I"⟩
abbrev cX4_firstGap : ByteArray := prog_6_method_38_code
def yX4_firstGap : MethodName := ⟨RX4, "firstGap", "(II)I"⟩
abbrev cX4_roomOf : ByteArray := prog_6_method_39_code
def yX4_roomOf : MethodName := ⟨RX4, "roomOf", "(I)I"⟩
abbrev cX4_performNext : ByteArray := prog_6_method_40_code
def yX4_performNext : MethodName := ⟨RX4, "performNext", "()V"⟩
def RX5 : String := "FrameHeirs"
def TX5 : u_T := fun k => match k with
  | 0 => ("FrameHeirs", "tape", "[I", true)
  | 1 => ("FrameHeirs", "taped", "I", false)
  | 2 => ("FrameHeirs", "spareScript", "LFrameHeirs$Script;", false)
  | 3 => ("FrameHeirs", "reader", "LFrameHeirs$Reader;", true)
  | 4 => ("FrameHeirs", "now", "LFrameHeirs$World;", false)
  | 5 => ("FrameHeirs", "before", "LFrameHeirs$World;", false)
  | 6 => ("FrameHeirs", "trial", "LFrameHeirs$World;", true)
  | 7 => ("FrameHeirs", "past", "[LFrameHeirs$World;", true)
  | 8 => ("FrameHeirs", "pastNext", "I", false)
  | _ => ("FrameHeirs", "pastKept", "I", false)
def tyX5 : Nat → FieldType := fun k => match k with
  | 0 => .array .int
  | 1 => .int
  | 2 => .object "FrameHeirs$Script"
  | 3 => .object "FrameHeirs$Reader"
  | 4 => .object "FrameHeirs$World"
  | 5 => .object "FrameHeirs$World"
  | 6 => .object "FrameHeirs$World"
  | 7 => .array (.object "FrameHeirs$World")
  | 8 => .int
  | _ => .int
abbrev wsX50 : List Cond := u_ws RX5 TX5 10
theorem nmX5 : ∀ a, a < 10 → ∀ b, b < 10 → a ≠ b → (TX5 a).2.1 ≠ (TX5 b).2.1 := by decide +kernel
theorem tyX5_ok : ∀ k, k < 10 → parseFieldDescriptor (TX5 k).2.2.1 = some (tyX5 k) := by decide +kernel
abbrev cX5_init : ByteArray := prog_1_method_1_code
def yX5_init : MethodName := ⟨RX5, "<init>", "()V"⟩
abbrev cX5_feed : ByteArray := prog_1_method_2_code
def yX5_feed : MethodName := ⟨RX5, "feed", "(IIIII)I"⟩
abbrev cX5_text : ByteArray := prog_1_method_3_code
def yX5_text : MethodName := ⟨RX5, "text", "(I)I"⟩
abbrev cX5_fault : ByteArray := prog_1_method_4_code
def yX5_fault : MethodName := ⟨RX5, "fault", "(I)I"⟩
abbrev cX5_named : ByteArray := prog_1_method_5_code
def yX5_named : MethodName := ⟨RX5, "named", "(I)I"⟩
abbrev cX5_map : ByteArray := prog_1_method_6_code
def yX5_map : MethodName := ⟨RX5, "map", "(IIIII)I"⟩
abbrev cX5_grant : ByteArray := prog_1_method_7_code
def yX5_grant : MethodName := ⟨RX5, "grant", "(IIII)I"⟩
abbrev cX5_flush : ByteArray := prog_1_method_8_code
def yX5_flush : MethodName := ⟨RX5, "flush", "(IIIZ)I"⟩
abbrev cX5_work : ByteArray := prog_1_method_9_code
def yX5_work : MethodName := ⟨RX5, "work", "(I)I"⟩
abbrev cX5_touch : ByteArray := prog_1_method_10_code
def yX5_touch : MethodName := ⟨RX5, "touch", "(III)I"⟩
abbrev cX5_serve : ByteArray := prog_1_method_11_code
def yX5_serve : MethodName := ⟨RX5, "serve", "(I)I"⟩
abbrev cX5_settle : ByteArray := prog_1_method_12_code
def yX5_settle : MethodName := ⟨RX5, "settle", "()I"⟩
abbrev cX5_tick : ByteArray := prog_1_method_13_code
def yX5_tick : MethodName := ⟨RX5, "tick", "()I"⟩
abbrev cX5_tidy : ByteArray := prog_1_method_14_code
def yX5_tidy : MethodName := ⟨RX5, "tidy", "(I)I"⟩
abbrev cX5_run : ByteArray := prog_1_method_15_code
def yX5_run : MethodName := ⟨RX5, "run", "(I)I"⟩
abbrev cX5_answer : ByteArray := prog_1_method_16_code
def yX5_answer : MethodName := ⟨RX5, "answer", "(I)I"⟩
abbrev cX5_deed : ByteArray := prog_1_method_17_code
def yX5_deed : MethodName := ⟨RX5, "deed", "(III)I"⟩
abbrev cX5_above : ByteArray := prog_1_method_18_code
def yX5_above : MethodName := ⟨RX5, "above", "(III)I"⟩
abbrev cX5_heir : ByteArray := prog_1_method_19_code
def yX5_heir : MethodName := ⟨RX5, "heir", "(III)I"⟩
abbrev cX5_holds : ByteArray := prog_1_method_20_code
def yX5_holds : MethodName := ⟨RX5, "holds", "(II)I"⟩
abbrev cX5_aliases : ByteArray := prog_1_method_21_code
def yX5_aliases : MethodName := ⟨RX5, "aliases", "(II)I"⟩
abbrev cX5_reach : ByteArray := prog_1_method_22_code
def yX5_reach : MethodName := ⟨RX5, "reach", "(II)I"⟩
abbrev cX5_shared : ByteArray := prog_1_method_23_code
def yX5_shared : MethodName := ⟨RX5, "shared", "(II)I"⟩
abbrev cX5_gates : ByteArray := prog_1_method_24_code
def yX5_gates : MethodName := ⟨RX5, "gates", "(II)I"⟩
abbrev cX5_gap : ByteArray := prog_1_method_25_code
def yX5_gap : MethodName := ⟨RX5, "gap", "(II)I"⟩
abbrev cX5_free : ByteArray := prog_1_method_26_code
def yX5_free : MethodName := ⟨RX5, "free", "(I)I"⟩
abbrev cX5_coldest : ByteArray := prog_1_method_27_code
def yX5_coldest : MethodName := ⟨RX5, "coldest", "(I)I"⟩
abbrev cX5_age : ByteArray := prog_1_method_28_code
def yX5_age : MethodName := ⟨RX5, "age", "(II)I"⟩
abbrev cX5_warmth : ByteArray := prog_1_method_29_code
def yX5_warmth : MethodName := ⟨RX5, "warmth", "(I)I"⟩
abbrev cX5_ratio : ByteArray := prog_1_method_30_code
def yX5_ratio : MethodName := ⟨RX5, "ratio", "(II)I"⟩
abbrev cX5_cool : ByteArray := prog_1_method_31_code
def yX5_cool : MethodName := ⟨RX5, "cool", "(I)I"⟩
abbrev cX5_kept : ByteArray := prog_1_method_32_code
def yX5_kept : MethodName := ⟨RX5, "kept", "(I)I"⟩
abbrev cX5_job : ByteArray := prog_1_method_33_code
def yX5_job : MethodName := ⟨RX5, "job", "(II)I"⟩
abbrev cX5_waits : ByteArray := prog_1_method_34_code
def yX5_waits : MethodName := ⟨RX5, "waits", "(II)I"⟩
abbrev cX5_lost : ByteArray := prog_1_method_35_code
def yX5_lost : MethodName := ⟨RX5, "lost", "(III)I"⟩
abbrev cX5_steps : ByteArray := prog_1_method_36_code
def yX5_steps : MethodName := ⟨RX5, "steps", "(II)I"⟩
abbrev cX5_tried : ByteArray := prog_1_method_37_code
def yX5_tried : MethodName := ⟨RX5, "tried", "(I)I"⟩
abbrev cX5_churn : ByteArray := prog_1_method_38_code
def yX5_churn : MethodName := ⟨RX5, "churn", "(II)I"⟩
abbrev cX5_undo : ByteArray := prog_1_method_39_code
def yX5_undo : MethodName := ⟨RX5, "undo", "()I"⟩
abbrev cX5_count : ByteArray := prog_1_method_40_code
def yX5_count : MethodName := ⟨RX5, "count", "(I)I"⟩
abbrev cX5_tapeNumber : ByteArray := prog_1_method_41_code
def yX5_tapeNumber : MethodName := ⟨RX5, "tapeNumber", "(I)V"⟩
abbrev cX5_remember : ByteArray := prog_1_method_42_code
def yX5_remember : MethodName := ⟨RX5, "remember", "()V"⟩
abbrev cX5_keep : ByteArray := prog_1_method_43_code
def yX5_keep : MethodName := ⟨RX5, "keep", "(I)I"⟩
abbrev cX5_drawnAfter : ByteArray := prog_1_method_44_code
def yX5_drawnAfter : MethodName := ⟨RX5, "drawnAfter", "(I)I"⟩
abbrev cX5_areRights : ByteArray := prog_1_method_45_code
def yX5_areRights : MethodName := ⟨RX5, "areRights", "(I)Z"⟩
abbrev cX5_bitsOf : ByteArray := prog_1_method_46_code
def yX5_bitsOf : MethodName := ⟨RX5, "bitsOf", "(F)I"⟩
def RX6 : String := "FrameHeirsModel"
def TX6 : u_T := fun k => match k with
  | 0 => ("FrameHeirsModel", "tape", "[I", true)
  | 1 => ("FrameHeirsModel", "tapeSize", "I", false)
  | 2 => ("FrameHeirsModel", "thrown", "I", false)
  | 3 => ("FrameHeirsModel", "words", "[I", true)
  | 4 => ("FrameHeirsModel", "fault", "I", false)
  | 5 => ("FrameHeirsModel", "faultPlace", "I", false)
  | 6 => ("FrameHeirsModel", "stop", "I", false)
  | 7 => ("FrameHeirsModel", "next", "I", false)
  | 8 => ("FrameHeirsModel", "kind", "I", false)
  | 9 => ("FrameHeirsModel", "which", "I", false)
  | 10 => ("FrameHeirsModel", "at", "I", false)
  | 11 => ("FrameHeirsModel", "spaces", "I", false)
  | 12 => ("FrameHeirsModel", "spacesRead", "I", false)
  | 13 => ("FrameHeirsModel", "steps1", "I", false)
  | 14 => ("FrameHeirsModel", "stepsRead", "I", false)
  | 15 => ("FrameHeirsModel", "name", "[I", true)
  | 16 => ("FrameHeirsModel", "pager", "[I", true)
  | 17 => ("FrameHeirsModel", "way", "[I", true)
  | 18 => ("FrameHeirsModel", "quota", "[I", true)
  | 19 => ("FrameHeirsModel", "told", "[I", true)
  | 20 => ("FrameHeirsModel", "isTold", "[Z", true)
  | 21 => ("FrameHeirsModel", "stepWhat", "[I", true)
  | 22 => ("FrameHeirsModel", "stepBy", "[I", true)
  | 23 => ("FrameHeirsModel", "got", "I", false)
  | 24 => ("FrameHeirsModel", "all", "[I", true)
  | 25 => ("FrameHeirsModel", "bank", "I", false)
  | 26 => ("FrameHeirsModel", "undos", "I", false)
  | 27 => ("FrameHeirsModel", "row", "[I", true)
  | 28 => ("FrameHeirsModel", "rowSize", "I", false)
  | 29 => ("FrameHeirsModel", "there", "[I", true)
  | 30 => ("FrameHeirsModel", "thereMany", "I", false)
  | _ => ("FrameHeirsModel", "drawn", "J", false)
def tyX6 : Nat → FieldType := fun k => match k with
  | 0 => .array .int
  | 1 => .int
  | 2 => .int
  | 3 => .array .int
  | 4 => .int
  | 5 => .int
  | 6 => .int
  | 7 => .int
  | 8 => .int
  | 9 => .int
  | 10 => .int
  | 11 => .int
  | 12 => .int
  | 13 => .int
  | 14 => .int
  | 15 => .array .int
  | 16 => .array .int
  | 17 => .array .int
  | 18 => .array .int
  | 19 => .array .int
  | 20 => .array .boolean
  | 21 => .array .int
  | 22 => .array .int
  | 23 => .int
  | 24 => .array .int
  | 25 => .int
  | 26 => .int
  | 27 => .array .int
  | 28 => .int
  | 29 => .array .int
  | 30 => .int
  | _ => .long
abbrev wsX60 : List Cond := u_ws RX6 TX6 32
theorem nmX6 : ∀ a, a < 32 → ∀ b, b < 32 → a ≠ b → (TX6 a).2.1 ≠ (TX6 b).2.1 := by decide +kernel
theorem tyX6_ok : ∀ k, k < 32 → parseFieldDescriptor (TX6 k).2.2.1 = some (tyX6 k) := by decide +kernel
abbrev cX6_init : ByteArray := prog_8_method_1_code
def yX6_init : MethodName := ⟨RX6, "<init>", "()V"⟩
abbrev cX6_thrown : ByteArray := prog_8_method_2_code
def yX6_thrown : MethodName := ⟨RX6, "thrown", "()I"⟩
abbrev cX6_feed : ByteArray := prog_8_method_3_code
def yX6_feed : MethodName := ⟨RX6, "feed", "(IIIII)I"⟩
abbrev cX6_isIn : ByteArray := prog_8_method_4_code
def yX6_isIn : MethodName := ⟨RX6, "isIn", "(III)Z"⟩
abbrev cX6_wrong : ByteArray := prog_8_method_5_code
def yX6_wrong : MethodName := ⟨RX6, "wrong", "(I)Z"⟩
abbrev cX6_wordAt : ByteArray := prog_8_method_6_code
def yX6_wordAt : MethodName := ⟨RX6, "wordAt", "(II)I"⟩
abbrev cX6_isSmall : ByteArray := prog_8_method_7_code
def yX6_isSmall : MethodName := ⟨RX6, "isSmall", "(I)Z"⟩
abbrev cX6_isDigit : ByteArray := prog_8_method_8_code
def yX6_isDigit : MethodName := ⟨RX6, "isDigit", "(I)Z"⟩
abbrev cX6_token : ByteArray := prog_8_method_9_code
def yX6_token : MethodName := ⟨RX6, "token", "()V"⟩
abbrev cX6_packed : ByteArray := prog_8_method_10_code
def yX6_packed : MethodName := ⟨RX6, "packed", "(II)I"⟩
abbrev cX6_plain : ByteArray := prog_8_method_11_code
def yX6_plain : MethodName := ⟨RX6, "plain", "()V"⟩
abbrev cX6_copies : ByteArray := prog_8_method_12_code
def yX6_copies : MethodName := ⟨RX6, "copies", "([II)V"⟩
abbrev cX6_keepText : ByteArray := prog_8_method_13_code
def yX6_keepText : MethodName := ⟨RX6, "keepText", "()V"⟩
abbrev cX6_find : ByteArray := prog_8_method_14_code
def yX6_find : MethodName := ⟨RX6, "find", "(III)I"⟩
abbrev cX6_number : ByteArray := prog_8_method_15_code
def yX6_number : MethodName := ⟨RX6, "number", "(II)Z"⟩
abbrev cX6_spaceRead : ByteArray := prog_8_method_16_code
def yX6_spaceRead : MethodName := ⟨RX6, "spaceRead", "()Z"⟩
abbrev cX6_spaceLine : ByteArray := prog_8_method_17_code
def yX6_spaceLine : MethodName := ⟨RX6, "spaceLine", "()Z"⟩
abbrev cX6_pagerLine : ByteArray := prog_8_method_18_code
def yX6_pagerLine : MethodName := ⟨RX6, "pagerLine", "()Z"⟩
abbrev cX6_quotaLine : ByteArray := prog_8_method_19_code
def yX6_quotaLine : MethodName := ⟨RX6, "quotaLine", "()Z"⟩
abbrev cX6_wordLine : ByteArray := prog_8_method_20_code
def yX6_wordLine : MethodName := ⟨RX6, "wordLine", "()Z"⟩
abbrev cX6_sizeLine : ByteArray := prog_8_method_21_code
def yX6_sizeLine : MethodName := ⟨RX6, "sizeLine", "()Z"⟩
abbrev cX6_stepNumber : ByteArray := prog_8_method_22_code
def yX6_stepNumber : MethodName := ⟨RX6, "stepNumber", "(III)Z"⟩
abbrev cX6_stepSpace : ByteArray := prog_8_method_23_code
def yX6_stepSpace : MethodName := ⟨RX6, "stepSpace", "(I)Z"⟩
abbrev cX6_passing : ByteArray := prog_8_method_24_code
def yX6_passing : MethodName := ⟨RX6, "passing", "(I)Z"⟩
abbrev cX6_stepLine : ByteArray := prog_8_method_25_code
def yX6_stepLine : MethodName := ⟨RX6, "stepLine", "()Z"⟩
abbrev cX6_lineRead : ByteArray := prog_8_method_26_code
def yX6_lineRead : MethodName := ⟨RX6, "lineRead", "()Z"⟩
abbrev cX6_text : ByteArray := prog_8_method_27_code
def yX6_text : MethodName := ⟨RX6, "text", "(I)I"⟩
abbrev cX6_fault : ByteArray := prog_8_method_28_code
def yX6_fault : MethodName := ⟨RX6, "fault", "(I)I"⟩
abbrev cX6_named : ByteArray := prog_8_method_29_code
def yX6_named : MethodName := ⟨RX6, "named", "(I)I"⟩
abbrev cX6_of : ByteArray := prog_8_method_30_code
def yX6_of : MethodName := ⟨RX6, "of", "(I)I"⟩
abbrev cX6_lay : ByteArray := prog_8_method_31_code
def yX6_lay : MethodName := ⟨RX6, "lay", "(II)V"⟩
abbrev cX6_more : ByteArray := prog_8_method_32_code
def yX6_more : MethodName := ⟨RX6, "more", "(I)V"⟩
abbrev cX6_copyBank : ByteArray := prog_8_method_33_code
def yX6_copyBank : MethodName := ⟨RX6, "copyBank", "(II)V"⟩
abbrev cX6_asNow : ByteArray := prog_8_method_34_code
def yX6_asNow : MethodName := ⟨RX6, "asNow", "()V"⟩
abbrev cX6_canUndo : ByteArray := prog_8_method_35_code
def yX6_canUndo : MethodName := ⟨RX6, "canUndo", "()V"⟩
abbrev cX6_undo : ByteArray := prog_8_method_36_code
def yX6_undo : MethodName := ⟨RX6, "undo", "()I"⟩
abbrev cX6_size : ByteArray := prog_8_method_37_code
def yX6_size : MethodName := ⟨RX6, "size", "()I"⟩
abbrev cX6_isSpace : ByteArray := prog_8_method_38_code
def yX6_isSpace : MethodName := ⟨RX6, "isSpace", "(I)Z"⟩
abbrev cX6_isPlace : ByteArray := prog_8_method_39_code
def yX6_isPlace : MethodName := ⟨RX6, "isPlace", "(I)Z"⟩
abbrev cX6_isDeed : ByteArray := prog_8_method_40_code
def yX6_isDeed : MethodName := ⟨RX6, "isDeed", "(I)Z"⟩
abbrev cX6_orderOf : ByteArray := prog_8_method_41_code
def yX6_orderOf : MethodName := ⟨RX6, "orderOf", "(I)I"⟩
abbrev cX6_pagesOf : ByteArray := prog_8_method_42_code
def yX6_pagesOf : MethodName := ⟨RX6, "pagesOf", "(I)I"⟩
abbrev cX6_giverOf : ByteArray := prog_8_method_43_code
def yX6_giverOf : MethodName := ⟨RX6, "giverOf", "(I)I"⟩
abbrev cX6_firstOf : ByteArray := prog_8_method_44_code
def yX6_firstOf : MethodName := ⟨RX6, "firstOf", "(I)I"⟩
abbrev cX6_nextOf : ByteArray := prog_8_method_45_code
def yX6_nextOf : MethodName := ⟨RX6, "nextOf", "(I)I"⟩
abbrev cX6_cover : ByteArray := prog_8_method_46_code
def yX6_cover : MethodName := ⟨RX6, "cover", "(II)I"⟩
abbrev cX6_frameAt : ByteArray := prog_8_method_47_code
def yX6_frameAt : MethodName := ⟨RX6, "frameAt", "(II)I"⟩
abbrev cX6_linked : ByteArray := prog_8_method_48_code
def yX6_linked : MethodName := ⟨RX6, "linked", "(III)V"⟩
abbrev cX6_comes : ByteArray := prog_8_method_49_code
def yX6_comes : MethodName := ⟨RX6, "comes", "(IIIIII)V"⟩
abbrev cX6_widens : ByteArray := prog_8_method_50_code
def yX6_widens : MethodName := ⟨RX6, "widens", "(I)V"⟩
abbrev cX6_leaves : ByteArray := prog_8_method_51_code
def yX6_leaves : MethodName := ⟨RX6, "leaves", "(I)V"⟩
abbrev cX6_isAbove : ByteArray := prog_8_method_52_code
def yX6_isAbove : MethodName := ⟨RX6, "isAbove", "(II)Z"⟩
abbrev cX6_isBusy : ByteArray := prog_8_method_53_code
def yX6_isBusy : MethodName := ⟨RX6, "isBusy", "(I)Z"⟩
abbrev cX6_isBusyBelow : ByteArray := prog_8_method_54_code
def yX6_isBusyBelow : MethodName := ⟨RX6, "isBusyBelow", "(I)Z"⟩
abbrev cX6_adds : ByteArray := prog_8_method_55_code
def yX6_adds : MethodName := ⟨RX6, "adds", "(I)V"⟩
abbrev cX6_tree : ByteArray := prog_8_method_56_code
def yX6_tree : MethodName := ⟨RX6, "tree", "(I)V"⟩
abbrev cX6_goes : ByteArray := prog_8_method_57_code
def yX6_goes : MethodName := ⟨RX6, "goes", "(I)V"⟩
abbrev cX6_halves : ByteArray := prog_8_method_58_code
def yX6_halves : MethodName := ⟨RX6, "halves", "(I)V"⟩
abbrev cX6_splits : ByteArray := prog_8_method_59_code
def yX6_splits : MethodName := ⟨RX6, "splits", "(I)V"⟩
abbrev cX6_cuts : ByteArray := prog_8_method_60_code
def yX6_cuts : MethodName := ⟨RX6, "cuts", "(III)V"⟩
abbrev cX6_isRegion : ByteArray := prog_8_method_61_code
def yX6_isRegion : MethodName := ⟨RX6, "isRegion", "(I)Z"⟩
abbrev cX6_isFit : ByteArray := prog_8_method_62_code
def yX6_isFit : MethodName := ⟨RX6, "isFit", "(II)Z"⟩
abbrev cX6_looks : ByteArray := prog_8_method_63_code
def yX6_looks : MethodName := ⟨RX6, "looks", "(III)V"⟩
abbrev cX6_isFree : ByteArray := prog_8_method_64_code
def yX6_isFree : MethodName := ⟨RX6, "isFree", "(III)Z"⟩
abbrev cX6_pagesIn : ByteArray := prog_8_method_65_code
def yX6_pagesIn : MethodName := ⟨RX6, "pagesIn", "(I)I"⟩
abbrev cX6_mostOf : ByteArray := prog_8_method_66_code
def yX6_mostOf : MethodName := ⟨RX6, "mostOf", "(I)I"⟩
abbrev cX6_isBusyThere : ByteArray := prog_8_method_67_code
def yX6_isBusyThere : MethodName := ⟨RX6, "isBusyThere", "()Z"⟩
abbrev cX6_isBusyBelowThere : ByteArray := prog_8_method_68_code
def yX6_isBusyBelowThere : MethodName := ⟨RX6, "isBusyBelowThere", "()Z"⟩
abbrev cX6_isPassing : ByteArray := prog_8_method_69_code
def yX6_isPassing : MethodName := ⟨RX6, "isPassing", "(IIII)Z"⟩
abbrev cX6_mapped : ByteArray := prog_8_method_70_code
def yX6_mapped : MethodName := ⟨RX6, "mapped", "(IIIII)I"⟩
abbrev cX6_map : ByteArray := prog_8_method_71_code
def yX6_map : MethodName := ⟨RX6, "map", "(IIIII)I"⟩
abbrev cX6_movesTo : ByteArray := prog_8_method_72_code
def yX6_movesTo : MethodName := ⟨RX6, "movesTo", "(II)V"⟩
abbrev cX6_granted : ByteArray := prog_8_method_73_code
def yX6_granted : MethodName := ⟨RX6, "granted", "(IIII)I"⟩
abbrev cX6_grant : ByteArray := prog_8_method_74_code
def yX6_grant : MethodName := ⟨RX6, "grant", "(IIII)I"⟩
abbrev cX6_pendingMany : ByteArray := prog_8_method_75_code
def yX6_pendingMany : MethodName := ⟨RX6, "pendingMany", "()I"⟩
abbrev cX6_listsTop : ByteArray := prog_8_method_76_code
def yX6_listsTop : MethodName := ⟨RX6, "listsTop", "(IZII)I"⟩
abbrev cX6_lists : ByteArray := prog_8_method_77_code
def yX6_lists : MethodName := ⟨RX6, "lists", "(III)I"⟩
abbrev cX6_flushed : ByteArray := prog_8_method_78_code
def yX6_flushed : MethodName := ⟨RX6, "flushed", "(IIIZ)I"⟩
abbrev cX6_flush : ByteArray := prog_8_method_79_code
def yX6_flush : MethodName := ⟨RX6, "flush", "(IIIZ)I"⟩
abbrev cX6_jobOver : ByteArray := prog_8_method_80_code
def yX6_jobOver : MethodName := ⟨RX6, "jobOver", "()V"⟩
abbrev cX6_isWorking : ByteArray := prog_8_method_81_code
def yX6_isWorking : MethodName := ⟨RX6, "isWorking", "()Z"⟩
abbrev cX6_worked : ByteArray := prog_8_method_82_code
def yX6_worked : MethodName := ⟨RX6, "worked", "(I)I"⟩
abbrev cX6_work : ByteArray := prog_8_method_83_code
def yX6_work : MethodName := ⟨RX6, "work", "(I)I"⟩
abbrev cX6_packedFloat : ByteArray := prog_8_method_84_code
def yX6_packedFloat : MethodName := ⟨RX6, "packedFloat", "(JI)I"⟩
abbrev cX6_wholeOf : ByteArray := prog_8_method_85_code
def yX6_wholeOf : MethodName := ⟨RX6, "wholeOf", "(I)J"⟩
abbrev cX6_powerOf : ByteArray := prog_8_method_86_code
def yX6_powerOf : MethodName := ⟨RX6, "powerOf", "(I)I"⟩
abbrev cX6_floatOf : ByteArray := prog_8_method_87_code
def yX6_floatOf : MethodName := ⟨RX6, "floatOf", "(I)I"⟩
abbrev cX6_added : ByteArray := prog_8_method_88_code
def yX6_added : MethodName := ⟨RX6, "added", "(II)I"⟩
abbrev cX6_times : ByteArray := prog_8_method_89_code
def yX6_times : MethodName := ⟨RX6, "times", "(II)I"⟩
abbrev cX6_divided : ByteArray := prog_8_method_90_code
def yX6_divided : MethodName := ⟨RX6, "divided", "(II)I"⟩
abbrev cX6_cutOf : ByteArray := prog_8_method_91_code
def yX6_cutOf : MethodName := ⟨RX6, "cutOf", "(I)I"⟩
abbrev cX6_warmthOf : ByteArray := prog_8_method_92_code
def yX6_warmthOf : MethodName := ⟨RX6, "warmthOf", "(I)I"⟩
abbrev cX6_ticks : ByteArray := prog_8_method_93_code
def yX6_ticks : MethodName := ⟨RX6, "ticks", "()V"⟩
abbrev cX6_deedsMany : ByteArray := prog_8_method_94_code
def yX6_deedsMany : MethodName := ⟨RX6, "deedsMany", "()I"⟩
abbrev cX6_pagesAll : ByteArray := prog_8_method_95_code
def yX6_pagesAll : MethodName := ⟨RX6, "pagesAll", "()I"⟩
abbrev cX6_tick : ByteArray := prog_8_method_96_code
def yX6_tick : MethodName := ⟨RX6, "tick", "()I"⟩
abbrev cX6_has : ByteArray := prog_8_method_97_code
def yX6_has : MethodName := ⟨RX6, "has", "(III)Z"⟩
abbrev cX6_waitsFor : ByteArray := prog_8_method_98_code
def yX6_waitsFor : MethodName := ⟨RX6, "waitsFor", "(III)V"⟩
abbrev cX6_isWaiting : ByteArray := prog_8_method_99_code
def yX6_isWaiting : MethodName := ⟨RX6, "isWaiting", "(I)Z"⟩
abbrev cX6_isTouch : ByteArray := prog_8_method_100_code
def yX6_isTouch : MethodName := ⟨RX6, "isTouch", "(III)Z"⟩
abbrev cX6_touched : ByteArray := prog_8_method_101_code
def yX6_touched : MethodName := ⟨RX6, "touched", "(III)I"⟩
abbrev cX6_touch : ByteArray := prog_8_method_102_code
def yX6_touch : MethodName := ⟨RX6, "touch", "(III)I"⟩
abbrev cX6_firstFor : ByteArray := prog_8_method_103_code
def yX6_firstFor : MethodName := ⟨RX6, "firstFor", "(I)I"⟩
abbrev cX6_aliasesOf : ByteArray := prog_8_method_104_code
def yX6_aliasesOf : MethodName := ⟨RX6, "aliasesOf", "(II)I"⟩
abbrev cX6_placeBy : ByteArray := prog_8_method_105_code
def yX6_placeBy : MethodName := ⟨RX6, "placeBy", "(IIII)I"⟩
abbrev cX6_coldestOf : ByteArray := prog_8_method_106_code
def yX6_coldestOf : MethodName := ⟨RX6, "coldestOf", "(IZ)I"⟩
abbrev cX6_refuses : ByteArray := prog_8_method_107_code
def yX6_refuses : MethodName := ⟨RX6, "refuses", "(I)I"⟩
abbrev cX6_served : ByteArray := prog_8_method_108_code
def yX6_served : MethodName := ⟨RX6, "served", "(I)I"⟩
abbrev cX6_serve : ByteArray := prog_8_method_109_code
def yX6_serve : MethodName := ⟨RX6, "serve", "(I)I"⟩
abbrev cX6_settles : ByteArray := prog_8_method_110_code
def yX6_settles : MethodName := ⟨RX6, "settles", "()I"⟩
abbrev cX6_settle : ByteArray := prog_8_method_111_code
def yX6_settle : MethodName := ⟨RX6, "settle", "()I"⟩
abbrev cX6_isPair : ByteArray := prog_8_method_112_code
def yX6_isPair : MethodName := ⟨RX6, "isPair", "(II)Z"⟩
abbrev cX6_pairIn : ByteArray := prog_8_method_113_code
def yX6_pairIn : MethodName := ⟨RX6, "pairIn", "(I)I"⟩
abbrev cX6_oneOf : ByteArray := prog_8_method_114_code
def yX6_oneOf : MethodName := ⟨RX6, "oneOf", "(II)V"⟩
abbrev cX6_isSmallLine : ByteArray := prog_8_method_115_code
def yX6_isSmallLine : MethodName := ⟨RX6, "isSmallLine", "(II)Z"⟩
abbrev cX6_tidies : ByteArray := prog_8_method_116_code
def yX6_tidies : MethodName := ⟨RX6, "tidies", "(I)I"⟩
abbrev cX6_tidy : ByteArray := prog_8_method_117_code
def yX6_tidy : MethodName := ⟨RX6, "tidy", "(I)I"⟩
abbrev cX6_stepDone : ByteArray := prog_8_method_118_code
def yX6_stepDone : MethodName := ⟨RX6, "stepDone", "(I)I"⟩
abbrev cX6_run : ByteArray := prog_8_method_119_code
def yX6_run : MethodName := ⟨RX6, "run", "(I)I"⟩
abbrev cX6_answer : ByteArray := prog_8_method_120_code
def yX6_answer : MethodName := ⟨RX6, "answer", "(I)I"⟩
abbrev cX6_fails : ByteArray := prog_8_method_121_code
def yX6_fails : MethodName := ⟨RX6, "fails", "(I)I"⟩
abbrev cX6_aboveMany : ByteArray := prog_8_method_122_code
def yX6_aboveMany : MethodName := ⟨RX6, "aboveMany", "(I)I"⟩
abbrev cX6_belowMany : ByteArray := prog_8_method_123_code
def yX6_belowMany : MethodName := ⟨RX6, "belowMany", "(I)I"⟩
abbrev cX6_heirsMany : ByteArray := prog_8_method_124_code
def yX6_heirsMany : MethodName := ⟨RX6, "heirsMany", "(I)I"⟩
abbrev cX6_deed : ByteArray := prog_8_method_125_code
def yX6_deed : MethodName := ⟨RX6, "deed", "(III)I"⟩
abbrev cX6_above : ByteArray := prog_8_method_126_code
def yX6_above : MethodName := ⟨RX6, "above", "(III)I"⟩
abbrev cX6_heir : ByteArray := prog_8_method_127_code
def yX6_heir : MethodName := ⟨RX6, "heir", "(III)I"⟩
abbrev cX6_holds : ByteArray := prog_8_method_128_code
def yX6_holds : MethodName := ⟨RX6, "holds", "(II)I"⟩
abbrev cX6_aliases : ByteArray := prog_8_method_129_code
def yX6_aliases : MethodName := ⟨RX6, "aliases", "(II)I"⟩
abbrev cX6_isBelow : ByteArray := prog_8_method_130_code
def yX6_isBelow : MethodName := ⟨RX6, "isBelow", "(II)Z"⟩
abbrev cX6_reach : ByteArray := prog_8_method_131_code
def yX6_reach : MethodName := ⟨RX6, "reach", "(II)I"⟩
abbrev cX6_shared : ByteArray := prog_8_method_132_code
def yX6_shared : MethodName := ⟨RX6, "shared", "(II)I"⟩
abbrev cX6_isGate : ByteArray := prog_8_method_133_code
def yX6_isGate : MethodName := ⟨RX6, "isGate", "(II)Z"⟩
abbrev cX6_isTopGate : ByteArray := prog_8_method_134_code
def yX6_isTopGate : MethodName := ⟨RX6, "isTopGate", "(II)Z"⟩
abbrev cX6_gates : ByteArray := prog_8_method_135_code
def yX6_gates : MethodName := ⟨RX6, "gates", "(II)I"⟩
abbrev cX6_gap : ByteArray := prog_8_method_136_code
def yX6_gap : MethodName := ⟨RX6, "gap", "(II)I"⟩
abbrev cX6_free : ByteArray := prog_8_method_137_code
def yX6_free : MethodName := ⟨RX6, "free", "(I)I"⟩
abbrev cX6_coldest : ByteArray := prog_8_method_138_code
def yX6_coldest : MethodName := ⟨RX6, "coldest", "(I)I"⟩
abbrev cX6_age : ByteArray := prog_8_method_139_code
def yX6_age : MethodName := ⟨RX6, "age", "(II)I"⟩
abbrev cX6_warmth : ByteArray := prog_8_method_140_code
def yX6_warmth : MethodName := ⟨RX6, "warmth", "(I)I"⟩
abbrev cX6_ratio : ByteArray := prog_8_method_141_code
def yX6_ratio : MethodName := ⟨RX6, "ratio", "(II)I"⟩
abbrev cX6_cool : ByteArray := prog_8_method_142_code
def yX6_cool : MethodName := ⟨RX6, "cool", "(I)I"⟩
abbrev cX6_kept : ByteArray := prog_8_method_143_code
def yX6_kept : MethodName := ⟨RX6, "kept", "(I)I"⟩
abbrev cX6_job : ByteArray := prog_8_method_144_code
def yX6_job : MethodName := ⟨RX6, "job", "(II)I"⟩
abbrev cX6_waits : ByteArray := prog_8_method_145_code
def yX6_waits : MethodName := ⟨RX6, "waits", "(II)I"⟩
abbrev cX6_isBelowThere : ByteArray := prog_8_method_146_code
def yX6_isBelowThere : MethodName := ⟨RX6, "isBelowThere", "(I)Z"⟩
abbrev cX6_lost : ByteArray := prog_8_method_147_code
def yX6_lost : MethodName := ⟨RX6, "lost", "(III)I"⟩
abbrev cX6_steps : ByteArray := prog_8_method_148_code
def yX6_steps : MethodName := ⟨RX6, "steps", "(II)I"⟩
abbrev cX6_tried : ByteArray := prog_8_method_149_code
def yX6_tried : MethodName := ⟨RX6, "tried", "(I)I"⟩
abbrev cX6_drawnBy : ByteArray := prog_8_method_150_code
def yX6_drawnBy : MethodName := ⟨RX6, "drawnBy", "(I)I"⟩
abbrev cX6_churn : ByteArray := prog_8_method_151_code
def yX6_churn : MethodName := ⟨RX6, "churn", "(II)I"⟩
abbrev cX6_count : ByteArray := prog_8_method_152_code
def yX6_count : MethodName := ⟨RX6, "count", "(I)I"⟩
def RJx145de : String := "java/io/Serializable"
def RJ6 : String := "java/lang/Integer"
abbrev cJ6_bitCount_0f7a4 : ByteArray := prog_12_method_49_code
def yJ6_bitCount_0f7a4 : MethodName := ⟨RJ6, "bitCount", "(I)I"⟩
def RJ9 : String := "java/lang/Math"
abbrev cJ9_max_7cf53 : ByteArray := prog_13_method_65_code
def yJ9_max_7cf53 : MethodName := ⟨RJ9, "max", "(II)I"⟩
abbrev cJ9_min_7cf53 : ByteArray := prog_13_method_69_code
def yJ9_min_7cf53 : MethodName := ⟨RJ9, "min", "(II)I"⟩
def RJ0 : String := "java/lang/String"
def RJ10 : String := "java/lang/System"
def RJ7 : String := "java/util/Arrays"
abbrev cJ7_fill_53178 : ByteArray := prog_18_method_103_code
def yJ7_fill_53178 : MethodName := ⟨RJ7, "fill", "([II)V"⟩
def RL : String := "FrameHeirsLaw"
abbrev cL_deed : ByteArray := method_3_code
def yL_deed : MethodName := ⟨RL, "deed", "(LFrameHeirs;III[J)I"⟩
abbrev cL_law : ByteArray := code
def yL_law : MethodName := ⟨RL, "law", "([I)Z"⟩
def gw : List Cond := lw_tbl.filter goodWord
theorem gw_mem {w : Cond} (h : w ∈ lw_tbl) (g : goodWord w = true) : w ∈ gw := List.mem_filter.mpr ⟨h, g⟩
theorem gw_sub {w : Cond} (h : w ∈ gw) : w ∈ lw_tbl := (List.mem_filter.mp h).1
theorem gw_in (w0 w1 : Cond) (h : w1 ∈ gw) : GoodIn (w0 :: gw) (w1 :: gw) := fun w hw => by
  rcases List.mem_cons.mp hw with e | hw
  · subst e
    exact ⟨List.mem_cons_of_mem _ h, good_of_word (List.mem_filter.mp h).2⟩
  · exact ⟨List.mem_cons_of_mem _ hw, good_of_word (List.mem_filter.mp hw).2⟩
