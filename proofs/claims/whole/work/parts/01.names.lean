-- ===== PART A: goes FIRST, ahead of the names: the tables' words, and 'selects' of the private methods out of them =====
/-- a private method of a class that the tables say can be made, by its rows of tables_1 -/
def lw_okq (q : MethodName × Nat) : Prop := (q.1.cls ≠ "java/lang/invoke/MethodHandle" ∧ q.1.cls ≠ "java/lang/invoke/VarHandle") ∧ Cond.instantiable q.1.cls q.2 ∈ tables_1 ∧ Cond.privateMethod q.1 ∈ tables_1 ∧ Cond.instanceMethod q.1 ∈ tables_1
theorem lw_p0 : lw_okq (⟨"SignTurn$Reader", "advance", "()V"⟩, 12) := ⟨⟨by decide +kernel, by decide +kernel⟩, List.mem_of_getElem? (i := 90) (by decide +kernel), List.mem_of_getElem? (i := 506) (by decide +kernel), List.mem_of_getElem? (i := 507) (by decide +kernel)⟩
theorem lw_p1 : lw_okq (⟨"SignTurn$Reader", "readHead", "()Z"⟩, 12) := ⟨⟨by decide +kernel, by decide +kernel⟩, List.mem_of_getElem? (i := 90) (by decide +kernel), List.mem_of_getElem? (i := 593) (by decide +kernel), List.mem_of_getElem? (i := 594) (by decide +kernel)⟩
theorem lw_p2 : lw_okq (⟨"SignTurn$Reader", "take", "(Ljava/lang/String;)Z"⟩, 12) := ⟨⟨by decide +kernel, by decide +kernel⟩, List.mem_of_getElem? (i := 90) (by decide +kernel), List.mem_of_getElem? (i := 598) (by decide +kernel), List.mem_of_getElem? (i := 599) (by decide +kernel)⟩
theorem lw_p3 : lw_okq (⟨"SignTurn$Reader", "is", "(Ljava/lang/String;)Z"⟩, 12) := ⟨⟨by decide +kernel, by decide +kernel⟩, List.mem_of_getElem? (i := 90) (by decide +kernel), List.mem_of_getElem? (i := 602) (by decide +kernel), List.mem_of_getElem? (i := 603) (by decide +kernel)⟩
theorem lw_p4 : lw_okq (⟨"SignTurn$Reader", "wrong", "(I)Z"⟩, 12) := ⟨⟨by decide +kernel, by decide +kernel⟩, List.mem_of_getElem? (i := 90) (by decide +kernel), List.mem_of_getElem? (i := 627) (by decide +kernel), List.mem_of_getElem? (i := 628) (by decide +kernel)⟩
theorem lw_p5 : lw_okq (⟨"SignTurn$Reader", "takeNumber", "(II)I"⟩, 12) := ⟨⟨by decide +kernel, by decide +kernel⟩, List.mem_of_getElem? (i := 90) (by decide +kernel), List.mem_of_getElem? (i := 632) (by decide +kernel), List.mem_of_getElem? (i := 633) (by decide +kernel)⟩
theorem lw_p6 : lw_okq (⟨"SignTurn$Reader", "endLine", "()Z"⟩, 12) := ⟨⟨by decide +kernel, by decide +kernel⟩, List.mem_of_getElem? (i := 90) (by decide +kernel), List.mem_of_getElem? (i := 636) (by decide +kernel), List.mem_of_getElem? (i := 637) (by decide +kernel)⟩
theorem lw_p7 : lw_okq (⟨"SignTurn$Reader", "readLine", "()Z"⟩, 12) := ⟨⟨by decide +kernel, by decide +kernel⟩, List.mem_of_getElem? (i := 90) (by decide +kernel), List.mem_of_getElem? (i := 641) (by decide +kernel), List.mem_of_getElem? (i := 642) (by decide +kernel)⟩
theorem lw_p8 : lw_okq (⟨"SignTurn$Reader", "readRoad", "()Z"⟩, 12) := ⟨⟨by decide +kernel, by decide +kernel⟩, List.mem_of_getElem? (i := 90) (by decide +kernel), List.mem_of_getElem? (i := 646) (by decide +kernel), List.mem_of_getElem? (i := 647) (by decide +kernel)⟩
theorem lw_p9 : lw_okq (⟨"SignTurn$Reader", "takePost", "()I"⟩, 12) := ⟨⟨by decide +kernel, by decide +kernel⟩, List.mem_of_getElem? (i := 90) (by decide +kernel), List.mem_of_getElem? (i := 654) (by decide +kernel), List.mem_of_getElem? (i := 655) (by decide +kernel)⟩
theorem lw_p10 : lw_okq (⟨"SignTurn$Reader", "readArm", "()Z"⟩, 12) := ⟨⟨by decide +kernel, by decide +kernel⟩, List.mem_of_getElem? (i := 90) (by decide +kernel), List.mem_of_getElem? (i := 668) (by decide +kernel), List.mem_of_getElem? (i := 669) (by decide +kernel)⟩
theorem lw_p11 : lw_okq (⟨"SignTurn$Reader", "readHome", "()Z"⟩, 12) := ⟨⟨by decide +kernel, by decide +kernel⟩, List.mem_of_getElem? (i := 90) (by decide +kernel), List.mem_of_getElem? (i := 681) (by decide +kernel), List.mem_of_getElem? (i := 682) (by decide +kernel)⟩
theorem lw_p12 : lw_okq (⟨"SignTurn$Reader", "readWalker", "()Z"⟩, 12) := ⟨⟨by decide +kernel, by decide +kernel⟩, List.mem_of_getElem? (i := 90) (by decide +kernel), List.mem_of_getElem? (i := 686) (by decide +kernel), List.mem_of_getElem? (i := 687) (by decide +kernel)⟩
theorem lw_p13 : lw_okq (⟨"SignTurn$Reader", "readFog", "()Z"⟩, 12) := ⟨⟨by decide +kernel, by decide +kernel⟩, List.mem_of_getElem? (i := 90) (by decide +kernel), List.mem_of_getElem? (i := 691) (by decide +kernel), List.mem_of_getElem? (i := 692) (by decide +kernel)⟩
theorem lw_p14 : lw_okq (⟨"SignTurn$Reader", "readTurns", "()Z"⟩, 12) := ⟨⟨by decide +kernel, by decide +kernel⟩, List.mem_of_getElem? (i := 90) (by decide +kernel), List.mem_of_getElem? (i := 696) (by decide +kernel), List.mem_of_getElem? (i := 697) (by decide +kernel)⟩
theorem lw_p15 : lw_okq (⟨"SignTurn$Reader", "readSum", "(I)Z"⟩, 12) := ⟨⟨by decide +kernel, by decide +kernel⟩, List.mem_of_getElem? (i := 90) (by decide +kernel), List.mem_of_getElem? (i := 701) (by decide +kernel), List.mem_of_getElem? (i := 702) (by decide +kernel)⟩
def lw_privs_1 : List (MethodName × Nat) := [(⟨"SignTurn$Reader", "advance", "()V"⟩, 12), (⟨"SignTurn$Reader", "readHead", "()Z"⟩, 12), (⟨"SignTurn$Reader", "take", "(Ljava/lang/String;)Z"⟩, 12), (⟨"SignTurn$Reader", "is", "(Ljava/lang/String;)Z"⟩, 12), (⟨"SignTurn$Reader", "wrong", "(I)Z"⟩, 12), (⟨"SignTurn$Reader", "takeNumber", "(II)I"⟩, 12), (⟨"SignTurn$Reader", "endLine", "()Z"⟩, 12), (⟨"SignTurn$Reader", "readLine", "()Z"⟩, 12), (⟨"SignTurn$Reader", "readRoad", "()Z"⟩, 12), (⟨"SignTurn$Reader", "takePost", "()I"⟩, 12), (⟨"SignTurn$Reader", "readArm", "()Z"⟩, 12), (⟨"SignTurn$Reader", "readHome", "()Z"⟩, 12), (⟨"SignTurn$Reader", "readWalker", "()Z"⟩, 12), (⟨"SignTurn$Reader", "readFog", "()Z"⟩, 12), (⟨"SignTurn$Reader", "readTurns", "()Z"⟩, 12), (⟨"SignTurn$Reader", "readSum", "(I)Z"⟩, 12)]
theorem lw_r1 : ∀ q ∈ lw_privs_1, lw_okq q := List.forall_mem_cons.mpr ⟨lw_p0, List.forall_mem_cons.mpr ⟨lw_p1, List.forall_mem_cons.mpr ⟨lw_p2, List.forall_mem_cons.mpr ⟨lw_p3, List.forall_mem_cons.mpr ⟨lw_p4, List.forall_mem_cons.mpr ⟨lw_p5, List.forall_mem_cons.mpr ⟨lw_p6, List.forall_mem_cons.mpr ⟨lw_p7, List.forall_mem_cons.mpr ⟨lw_p8, List.forall_mem_cons.mpr ⟨lw_p9, List.forall_mem_cons.mpr ⟨lw_p10, List.forall_mem_cons.mpr ⟨lw_p11, List.forall_mem_cons.mpr ⟨lw_p12, List.forall_mem_cons.mpr ⟨lw_p13, List.forall_mem_cons.mpr ⟨lw_p14, List.forall_mem_cons.mpr ⟨lw_p15, fun _ h => absurd h List.not_mem_nil⟩⟩⟩⟩⟩⟩⟩⟩⟩⟩⟩⟩⟩⟩⟩⟩
theorem lw_p16 : lw_okq (⟨"SignTurn$Reader", "readTerm", "(I)Z"⟩, 12) := ⟨⟨by decide +kernel, by decide +kernel⟩, List.mem_of_getElem? (i := 90) (by decide +kernel), List.mem_of_getElem? (i := 705) (by decide +kernel), List.mem_of_getElem? (i := 706) (by decide +kernel)⟩
theorem lw_p17 : lw_okq (⟨"SignTurn$Reader", "readAtom", "(I)Z"⟩, 12) := ⟨⟨by decide +kernel, by decide +kernel⟩, List.mem_of_getElem? (i := 90) (by decide +kernel), List.mem_of_getElem? (i := 709) (by decide +kernel), List.mem_of_getElem? (i := 710) (by decide +kernel)⟩
theorem lw_p18 : lw_okq (⟨"SignTurn$Reader", "leafHere", "()I"⟩, 12) := ⟨⟨by decide +kernel, by decide +kernel⟩, List.mem_of_getElem? (i := 90) (by decide +kernel), List.mem_of_getElem? (i := 713) (by decide +kernel), List.mem_of_getElem? (i := 714) (by decide +kernel)⟩
theorem lw_p19 : lw_okq (⟨"SignTurn$Reader", "emit", "(I)Z"⟩, 12) := ⟨⟨by decide +kernel, by decide +kernel⟩, List.mem_of_getElem? (i := 90) (by decide +kernel), List.mem_of_getElem? (i := 719) (by decide +kernel), List.mem_of_getElem? (i := 720) (by decide +kernel)⟩
theorem lw_p20 : lw_okq (⟨"SignTurn$Reader", "open", "(I)Z"⟩, 12) := ⟨⟨by decide +kernel, by decide +kernel⟩, List.mem_of_getElem? (i := 90) (by decide +kernel), List.mem_of_getElem? (i := 724) (by decide +kernel), List.mem_of_getElem? (i := 725) (by decide +kernel)⟩
theorem lw_p21 : lw_okq (⟨"SignTurn$Reader", "readTruth", "(I)Z"⟩, 12) := ⟨⟨by decide +kernel, by decide +kernel⟩, List.mem_of_getElem? (i := 90) (by decide +kernel), List.mem_of_getElem? (i := 730) (by decide +kernel), List.mem_of_getElem? (i := 731) (by decide +kernel)⟩
theorem lw_p22 : lw_okq (⟨"SignTurn$Reader", "readBoth", "(I)Z"⟩, 12) := ⟨⟨by decide +kernel, by decide +kernel⟩, List.mem_of_getElem? (i := 90) (by decide +kernel), List.mem_of_getElem? (i := 734) (by decide +kernel), List.mem_of_getElem? (i := 735) (by decide +kernel)⟩
theorem lw_p23 : lw_okq (⟨"SignTurn$Reader", "readUnit", "(I)Z"⟩, 12) := ⟨⟨by decide +kernel, by decide +kernel⟩, List.mem_of_getElem? (i := 90) (by decide +kernel), List.mem_of_getElem? (i := 738) (by decide +kernel), List.mem_of_getElem? (i := 739) (by decide +kernel)⟩
theorem lw_p24 : lw_okq (⟨"SignTurn$Reader", "readComparison", "(I)Z"⟩, 12) := ⟨⟨by decide +kernel, by decide +kernel⟩, List.mem_of_getElem? (i := 90) (by decide +kernel), List.mem_of_getElem? (i := 745) (by decide +kernel), List.mem_of_getElem? (i := 746) (by decide +kernel)⟩
theorem lw_p25 : lw_okq (⟨"SignTurn$Reader", "readSticks", "()Z"⟩, 12) := ⟨⟨by decide +kernel, by decide +kernel⟩, List.mem_of_getElem? (i := 90) (by decide +kernel), List.mem_of_getElem? (i := 761) (by decide +kernel), List.mem_of_getElem? (i := 762) (by decide +kernel)⟩
theorem lw_p26 : lw_okq (⟨"SignTurn$Rules", "workOut", "()I"⟩, 8) := ⟨⟨by decide +kernel, by decide +kernel⟩, List.mem_of_getElem? (i := 176) (by decide +kernel), List.mem_of_getElem? (i := 785) (by decide +kernel), List.mem_of_getElem? (i := 786) (by decide +kernel)⟩
theorem lw_p27 : lw_okq (⟨"SignTurn$Rules", "valueOf", "(II)I"⟩, 8) := ⟨⟨by decide +kernel, by decide +kernel⟩, List.mem_of_getElem? (i := 176) (by decide +kernel), List.mem_of_getElem? (i := 789) (by decide +kernel), List.mem_of_getElem? (i := 790) (by decide +kernel)⟩
theorem lw_p28 : lw_okq (⟨"SignTurn$Rules", "leafValue", "(I)I"⟩, 8) := ⟨⟨by decide +kernel, by decide +kernel⟩, List.mem_of_getElem? (i := 176) (by decide +kernel), List.mem_of_getElem? (i := 793) (by decide +kernel), List.mem_of_getElem? (i := 794) (by decide +kernel)⟩
theorem lw_p29 : lw_okq (⟨"SignTurn", "ended", "(II)I"⟩, 14) := ⟨⟨by decide +kernel, by decide +kernel⟩, List.mem_of_getElem? (i := 23) (by decide +kernel), List.mem_of_getElem? (i := 863) (by decide +kernel), List.mem_of_getElem? (i := 864) (by decide +kernel)⟩
theorem lw_p30 : lw_okq (⟨"SignTurn$Deeds", "drawDeed", "()I"⟩, 8) := ⟨⟨by decide +kernel, by decide +kernel⟩, List.mem_of_getElem? (i := 210) (by decide +kernel), List.mem_of_getElem? (i := 950) (by decide +kernel), List.mem_of_getElem? (i := 951) (by decide +kernel)⟩
theorem lw_p31 : lw_okq (⟨"SignTurn$Deeds", "draw", "(I)I"⟩, 8) := ⟨⟨by decide +kernel, by decide +kernel⟩, List.mem_of_getElem? (i := 210) (by decide +kernel), List.mem_of_getElem? (i := 954) (by decide +kernel), List.mem_of_getElem? (i := 955) (by decide +kernel)⟩
def lw_privs_2 : List (MethodName × Nat) := [(⟨"SignTurn$Reader", "readTerm", "(I)Z"⟩, 12), (⟨"SignTurn$Reader", "readAtom", "(I)Z"⟩, 12), (⟨"SignTurn$Reader", "leafHere", "()I"⟩, 12), (⟨"SignTurn$Reader", "emit", "(I)Z"⟩, 12), (⟨"SignTurn$Reader", "open", "(I)Z"⟩, 12), (⟨"SignTurn$Reader", "readTruth", "(I)Z"⟩, 12), (⟨"SignTurn$Reader", "readBoth", "(I)Z"⟩, 12), (⟨"SignTurn$Reader", "readUnit", "(I)Z"⟩, 12), (⟨"SignTurn$Reader", "readComparison", "(I)Z"⟩, 12), (⟨"SignTurn$Reader", "readSticks", "()Z"⟩, 12), (⟨"SignTurn$Rules", "workOut", "()I"⟩, 8), (⟨"SignTurn$Rules", "valueOf", "(II)I"⟩, 8), (⟨"SignTurn$Rules", "leafValue", "(I)I"⟩, 8), (⟨"SignTurn", "ended", "(II)I"⟩, 14), (⟨"SignTurn$Deeds", "drawDeed", "()I"⟩, 8), (⟨"SignTurn$Deeds", "draw", "(I)I"⟩, 8)]
theorem lw_r2 : ∀ q ∈ lw_privs_2, lw_okq q := List.forall_mem_cons.mpr ⟨lw_p16, List.forall_mem_cons.mpr ⟨lw_p17, List.forall_mem_cons.mpr ⟨lw_p18, List.forall_mem_cons.mpr ⟨lw_p19, List.forall_mem_cons.mpr ⟨lw_p20, List.forall_mem_cons.mpr ⟨lw_p21, List.forall_mem_cons.mpr ⟨lw_p22, List.forall_mem_cons.mpr ⟨lw_p23, List.forall_mem_cons.mpr ⟨lw_p24, List.forall_mem_cons.mpr ⟨lw_p25, List.forall_mem_cons.mpr ⟨lw_p26, List.forall_mem_cons.mpr ⟨lw_p27, List.forall_mem_cons.mpr ⟨lw_p28, List.forall_mem_cons.mpr ⟨lw_p29, List.forall_mem_cons.mpr ⟨lw_p30, List.forall_mem_cons.mpr ⟨lw_p31, fun _ h => absurd h List.not_mem_nil⟩⟩⟩⟩⟩⟩⟩⟩⟩⟩⟩⟩⟩⟩⟩⟩
theorem lw_p32 : lw_okq (⟨"SignTurn$Going", "timesAt", "(IJ)J"⟩, 10) := ⟨⟨by decide +kernel, by decide +kernel⟩, List.mem_of_getElem? (i := 246) (by decide +kernel), List.mem_of_getElem? (i := 999) (by decide +kernel), List.mem_of_getElem? (i := 1000) (by decide +kernel)⟩
theorem lw_p33 : lw_okq (⟨"SignTurn$Search", "clearSeen", "(I)V"⟩, 15) := ⟨⟨by decide +kernel, by decide +kernel⟩, List.mem_of_getElem? (i := 288) (by decide +kernel), List.mem_of_getElem? (i := 1027) (by decide +kernel), List.mem_of_getElem? (i := 1028) (by decide +kernel)⟩
theorem lw_p34 : lw_okq (⟨"SignTurn$Search", "stepsHome", "(II)I"⟩, 15) := ⟨⟨by decide +kernel, by decide +kernel⟩, List.mem_of_getElem? (i := 288) (by decide +kernel), List.mem_of_getElem? (i := 1039) (by decide +kernel), List.mem_of_getElem? (i := 1040) (by decide +kernel)⟩
theorem lw_p35 : lw_okq (⟨"SignTurn$Search", "reachTurned", "(II)Z"⟩, 15) := ⟨⟨by decide +kernel, by decide +kernel⟩, List.mem_of_getElem? (i := 288) (by decide +kernel), List.mem_of_getElem? (i := 1054) (by decide +kernel), List.mem_of_getElem? (i := 1055) (by decide +kernel)⟩
theorem lw_p36 : lw_okq (⟨"SignTurn$Search", "takeNearest", "(I)I"⟩, 15) := ⟨⟨by decide +kernel, by decide +kernel⟩, List.mem_of_getElem? (i := 288) (by decide +kernel), List.mem_of_getElem? (i := 1058) (by decide +kernel), List.mem_of_getElem? (i := 1059) (by decide +kernel)⟩
theorem lw_p37 : lw_okq (⟨"SignTurn$Search", "goOnFrom", "(II)V"⟩, 15) := ⟨⟨by decide +kernel, by decide +kernel⟩, List.mem_of_getElem? (i := 288) (by decide +kernel), List.mem_of_getElem? (i := 1062) (by decide +kernel), List.mem_of_getElem? (i := 1063) (by decide +kernel)⟩
theorem lw_p38 : lw_okq (⟨"SignTurn$Going", "stepsOut", "(III)I"⟩, 10) := ⟨⟨by decide +kernel, by decide +kernel⟩, List.mem_of_getElem? (i := 246) (by decide +kernel), List.mem_of_getElem? (i := 1077) (by decide +kernel), List.mem_of_getElem? (i := 1078) (by decide +kernel)⟩
theorem lw_p39 : lw_okq (⟨"SignTurn$Going", "standAfter", "(III)I"⟩, 10) := ⟨⟨by decide +kernel, by decide +kernel⟩, List.mem_of_getElem? (i := 246) (by decide +kernel), List.mem_of_getElem? (i := 1082) (by decide +kernel), List.mem_of_getElem? (i := 1083) (by decide +kernel)⟩
theorem lw_p40 : lw_okq (⟨"SignTurn", "printsRefused", "(I)I"⟩, 14) := ⟨⟨by decide +kernel, by decide +kernel⟩, List.mem_of_getElem? (i := 23) (by decide +kernel), List.mem_of_getElem? (i := 1095) (by decide +kernel), List.mem_of_getElem? (i := 1096) (by decide +kernel)⟩
theorem lw_p41 : lw_okq (⟨"SignTurn$Prints", "timesShown", "(II)I"⟩, 4) := ⟨⟨by decide +kernel, by decide +kernel⟩, List.mem_of_getElem? (i := 346) (by decide +kernel), List.mem_of_getElem? (i := 1121) (by decide +kernel), List.mem_of_getElem? (i := 1122) (by decide +kernel)⟩
theorem lw_p42 : lw_okq (⟨"SignTurn$Search", "addAhead", "(II[II)I"⟩, 15) := ⟨⟨by decide +kernel, by decide +kernel⟩, List.mem_of_getElem? (i := 288) (by decide +kernel), List.mem_of_getElem? (i := 1147) (by decide +kernel), List.mem_of_getElem? (i := 1148) (by decide +kernel)⟩
theorem lw_p43 : lw_okq (⟨"SignTurn$Game", "allLeadTo", "(II)Z"⟩, 2) := ⟨⟨by decide +kernel, by decide +kernel⟩, List.mem_of_getElem? (i := 366) (by decide +kernel), List.mem_of_getElem? (i := 1180) (by decide +kernel), List.mem_of_getElem? (i := 1181) (by decide +kernel)⟩
theorem lw_p44 : lw_okq (⟨"SignTurn$Odds", "allPosts", "()I"⟩, 6) := ⟨⟨by decide +kernel, by decide +kernel⟩, List.mem_of_getElem? (i := 379) (by decide +kernel), List.mem_of_getElem? (i := 1193) (by decide +kernel), List.mem_of_getElem? (i := 1194) (by decide +kernel)⟩
theorem lw_p45 : lw_okq (⟨"SignTurn$Odds", "leadInto", "(II)I"⟩, 6) := ⟨⟨by decide +kernel, by decide +kernel⟩, List.mem_of_getElem? (i := 379) (by decide +kernel), List.mem_of_getElem? (i := 1206) (by decide +kernel), List.mem_of_getElem? (i := 1207) (by decide +kernel)⟩
theorem lw_p46 : lw_okq (⟨"SignTurn$Odds", "answer", "(JJ)V"⟩, 6) := ⟨⟨by decide +kernel, by decide +kernel⟩, List.mem_of_getElem? (i := 379) (by decide +kernel), List.mem_of_getElem? (i := 1213) (by decide +kernel), List.mem_of_getElem? (i := 1214) (by decide +kernel)⟩
theorem lw_p47 : lw_okq (⟨"SignTurn$Odds", "number", "(I)V"⟩, 6) := ⟨⟨by decide +kernel, by decide +kernel⟩, List.mem_of_getElem? (i := 379) (by decide +kernel), List.mem_of_getElem? (i := 1223) (by decide +kernel), List.mem_of_getElem? (i := 1224) (by decide +kernel)⟩
def lw_privs_3 : List (MethodName × Nat) := [(⟨"SignTurn$Going", "timesAt", "(IJ)J"⟩, 10), (⟨"SignTurn$Search", "clearSeen", "(I)V"⟩, 15), (⟨"SignTurn$Search", "stepsHome", "(II)I"⟩, 15), (⟨"SignTurn$Search", "reachTurned", "(II)Z"⟩, 15), (⟨"SignTurn$Search", "takeNearest", "(I)I"⟩, 15), (⟨"SignTurn$Search", "goOnFrom", "(II)V"⟩, 15), (⟨"SignTurn$Going", "stepsOut", "(III)I"⟩, 10), (⟨"SignTurn$Going", "standAfter", "(III)I"⟩, 10), (⟨"SignTurn", "printsRefused", "(I)I"⟩, 14), (⟨"SignTurn$Prints", "timesShown", "(II)I"⟩, 4), (⟨"SignTurn$Search", "addAhead", "(II[II)I"⟩, 15), (⟨"SignTurn$Game", "allLeadTo", "(II)Z"⟩, 2), (⟨"SignTurn$Odds", "allPosts", "()I"⟩, 6), (⟨"SignTurn$Odds", "leadInto", "(II)I"⟩, 6), (⟨"SignTurn$Odds", "answer", "(JJ)V"⟩, 6), (⟨"SignTurn$Odds", "number", "(I)V"⟩, 6)]
theorem lw_r3 : ∀ q ∈ lw_privs_3, lw_okq q := List.forall_mem_cons.mpr ⟨lw_p32, List.forall_mem_cons.mpr ⟨lw_p33, List.forall_mem_cons.mpr ⟨lw_p34, List.forall_mem_cons.mpr ⟨lw_p35, List.forall_mem_cons.mpr ⟨lw_p36, List.forall_mem_cons.mpr ⟨lw_p37, List.forall_mem_cons.mpr ⟨lw_p38, List.forall_mem_cons.mpr ⟨lw_p39, List.forall_mem_cons.mpr ⟨lw_p40, List.forall_mem_cons.mpr ⟨lw_p41, List.forall_mem_cons.mpr ⟨lw_p42, List.forall_mem_cons.mpr ⟨lw_p43, List.forall_mem_cons.mpr ⟨lw_p44, List.forall_mem_cons.mpr ⟨lw_p45, List.forall_mem_cons.mpr ⟨lw_p46, List.forall_mem_cons.mpr ⟨lw_p47, fun _ h => absurd h List.not_mem_nil⟩⟩⟩⟩⟩⟩⟩⟩⟩⟩⟩⟩⟩⟩⟩⟩
theorem lw_p48 : lw_okq (⟨"SignTurn$Odds", "roadsTo", "(II)I"⟩, 6) := ⟨⟨by decide +kernel, by decide +kernel⟩, List.mem_of_getElem? (i := 379) (by decide +kernel), List.mem_of_getElem? (i := 1227) (by decide +kernel), List.mem_of_getElem? (i := 1228) (by decide +kernel)⟩
theorem lw_p49 : lw_okq (⟨"SignTurn$Odds", "layRow", "(III)V"⟩, 6) := ⟨⟨by decide +kernel, by decide +kernel⟩, List.mem_of_getElem? (i := 379) (by decide +kernel), List.mem_of_getElem? (i := 1231) (by decide +kernel), List.mem_of_getElem? (i := 1232) (by decide +kernel)⟩
theorem lw_p50 : lw_okq (⟨"SignTurn$Odds", "put", "(IIJ)V"⟩, 6) := ⟨⟨by decide +kernel, by decide +kernel⟩, List.mem_of_getElem? (i := 379) (by decide +kernel), List.mem_of_getElem? (i := 1235) (by decide +kernel), List.mem_of_getElem? (i := 1236) (by decide +kernel)⟩
theorem lw_p51 : lw_okq (⟨"SignTurn$Odds", "solve", "()V"⟩, 6) := ⟨⟨by decide +kernel, by decide +kernel⟩, List.mem_of_getElem? (i := 379) (by decide +kernel), List.mem_of_getElem? (i := 1239) (by decide +kernel), List.mem_of_getElem? (i := 1240) (by decide +kernel)⟩
theorem lw_p52 : lw_okq (⟨"SignTurn$Odds", "cell", "(II)J"⟩, 6) := ⟨⟨by decide +kernel, by decide +kernel⟩, List.mem_of_getElem? (i := 379) (by decide +kernel), List.mem_of_getElem? (i := 1243) (by decide +kernel), List.mem_of_getElem? (i := 1244) (by decide +kernel)⟩
theorem lw_p53 : lw_okq (⟨"SignTurn$Odds", "clearColumn", "(IIJJ)V"⟩, 6) := ⟨⟨by decide +kernel, by decide +kernel⟩, List.mem_of_getElem? (i := 379) (by decide +kernel), List.mem_of_getElem? (i := 1247) (by decide +kernel), List.mem_of_getElem? (i := 1248) (by decide +kernel)⟩
theorem lw_p54 : lw_okq (⟨"SignTurn$Odds", "answerFor", "(I)V"⟩, 6) := ⟨⟨by decide +kernel, by decide +kernel⟩, List.mem_of_getElem? (i := 379) (by decide +kernel), List.mem_of_getElem? (i := 1251) (by decide +kernel), List.mem_of_getElem? (i := 1252) (by decide +kernel)⟩
theorem lw_p55 : lw_okq (⟨"SignTurn$Odds", "comeFrom", "(I)I"⟩, 6) := ⟨⟨by decide +kernel, by decide +kernel⟩, List.mem_of_getElem? (i := 379) (by decide +kernel), List.mem_of_getElem? (i := 1263) (by decide +kernel), List.mem_of_getElem? (i := 1264) (by decide +kernel)⟩
theorem lw_p56 : lw_okq (⟨"SignTurn$Game", "canLead", "(I)I"⟩, 2) := ⟨⟨by decide +kernel, by decide +kernel⟩, List.mem_of_getElem? (i := 366) (by decide +kernel), List.mem_of_getElem? (i := 1286) (by decide +kernel), List.mem_of_getElem? (i := 1287) (by decide +kernel)⟩
theorem lw_p57 : lw_okq (⟨"SignTurn$Game", "roadsInto", "(II)I"⟩, 2) := ⟨⟨by decide +kernel, by decide +kernel⟩, List.mem_of_getElem? (i := 366) (by decide +kernel), List.mem_of_getElem? (i := 1291) (by decide +kernel), List.mem_of_getElem? (i := 1292) (by decide +kernel)⟩
theorem lw_p58 : lw_okq (⟨"SignTurn$Game", "mustLead", "(I)I"⟩, 2) := ⟨⟨by decide +kernel, by decide +kernel⟩, List.mem_of_getElem? (i := 366) (by decide +kernel), List.mem_of_getElem? (i := 1296) (by decide +kernel), List.mem_of_getElem? (i := 1297) (by decide +kernel)⟩
theorem lw_p59 : lw_okq (⟨"SignTurn$Tray", "cut", "(J)J"⟩, 4) := ⟨⟨by decide +kernel, by decide +kernel⟩, List.mem_of_getElem? (i := 408) (by decide +kernel), List.mem_of_getElem? (i := 1330) (by decide +kernel), List.mem_of_getElem? (i := 1331) (by decide +kernel)⟩
theorem lw_p60 : lw_okq (⟨"SignTurnModel", "next", "()V"⟩, 40) := ⟨⟨by decide +kernel, by decide +kernel⟩, List.mem_of_getElem? (i := 1354) (by decide +kernel), List.mem_of_getElem? (i := 1496) (by decide +kernel), List.mem_of_getElem? (i := 1497) (by decide +kernel)⟩
theorem lw_p61 : lw_okq (⟨"SignTurnModel", "see", "(I)I"⟩, 40) := ⟨⟨by decide +kernel, by decide +kernel⟩, List.mem_of_getElem? (i := 1354) (by decide +kernel), List.mem_of_getElem? (i := 1500) (by decide +kernel), List.mem_of_getElem? (i := 1501) (by decide +kernel)⟩
theorem lw_p62 : lw_okq (⟨"SignTurnModel", "keyAt", "()I"⟩, 40) := ⟨⟨by decide +kernel, by decide +kernel⟩, List.mem_of_getElem? (i := 1354) (by decide +kernel), List.mem_of_getElem? (i := 1507) (by decide +kernel), List.mem_of_getElem? (i := 1508) (by decide +kernel)⟩
theorem lw_p63 : lw_okq (⟨"SignTurnModel", "eats", "(I)Z"⟩, 40) := ⟨⟨by decide +kernel, by decide +kernel⟩, List.mem_of_getElem? (i := 1354) (by decide +kernel), List.mem_of_getElem? (i := 1518) (by decide +kernel), List.mem_of_getElem? (i := 1519) (by decide +kernel)⟩
def lw_privs_4 : List (MethodName × Nat) := [(⟨"SignTurn$Odds", "roadsTo", "(II)I"⟩, 6), (⟨"SignTurn$Odds", "layRow", "(III)V"⟩, 6), (⟨"SignTurn$Odds", "put", "(IIJ)V"⟩, 6), (⟨"SignTurn$Odds", "solve", "()V"⟩, 6), (⟨"SignTurn$Odds", "cell", "(II)J"⟩, 6), (⟨"SignTurn$Odds", "clearColumn", "(IIJJ)V"⟩, 6), (⟨"SignTurn$Odds", "answerFor", "(I)V"⟩, 6), (⟨"SignTurn$Odds", "comeFrom", "(I)I"⟩, 6), (⟨"SignTurn$Game", "canLead", "(I)I"⟩, 2), (⟨"SignTurn$Game", "roadsInto", "(II)I"⟩, 2), (⟨"SignTurn$Game", "mustLead", "(I)I"⟩, 2), (⟨"SignTurn$Tray", "cut", "(J)J"⟩, 4), (⟨"SignTurnModel", "next", "()V"⟩, 40), (⟨"SignTurnModel", "see", "(I)I"⟩, 40), (⟨"SignTurnModel", "keyAt", "()I"⟩, 40), (⟨"SignTurnModel", "eats", "(I)Z"⟩, 40)]
theorem lw_r4 : ∀ q ∈ lw_privs_4, lw_okq q := List.forall_mem_cons.mpr ⟨lw_p48, List.forall_mem_cons.mpr ⟨lw_p49, List.forall_mem_cons.mpr ⟨lw_p50, List.forall_mem_cons.mpr ⟨lw_p51, List.forall_mem_cons.mpr ⟨lw_p52, List.forall_mem_cons.mpr ⟨lw_p53, List.forall_mem_cons.mpr ⟨lw_p54, List.forall_mem_cons.mpr ⟨lw_p55, List.forall_mem_cons.mpr ⟨lw_p56, List.forall_mem_cons.mpr ⟨lw_p57, List.forall_mem_cons.mpr ⟨lw_p58, List.forall_mem_cons.mpr ⟨lw_p59, List.forall_mem_cons.mpr ⟨lw_p60, List.forall_mem_cons.mpr ⟨lw_p61, List.forall_mem_cons.mpr ⟨lw_p62, List.forall_mem_cons.mpr ⟨lw_p63, fun _ h => absurd h List.not_mem_nil⟩⟩⟩⟩⟩⟩⟩⟩⟩⟩⟩⟩⟩⟩⟩⟩
theorem lw_p64 : lw_okq (⟨"SignTurnModel", "is", "(I)Z"⟩, 40) := ⟨⟨by decide +kernel, by decide +kernel⟩, List.mem_of_getElem? (i := 1354) (by decide +kernel), List.mem_of_getElem? (i := 1522) (by decide +kernel), List.mem_of_getElem? (i := 1523) (by decide +kernel)⟩
theorem lw_p65 : lw_okq (⟨"SignTurnModel", "fails", "(I)V"⟩, 40) := ⟨⟨by decide +kernel, by decide +kernel⟩, List.mem_of_getElem? (i := 1354) (by decide +kernel), List.mem_of_getElem? (i := 1526) (by decide +kernel), List.mem_of_getElem? (i := 1527) (by decide +kernel)⟩
theorem lw_p66 : lw_okq (⟨"SignTurnModel", "named", "(III)I"⟩, 40) := ⟨⟨by decide +kernel, by decide +kernel⟩, List.mem_of_getElem? (i := 1354) (by decide +kernel), List.mem_of_getElem? (i := 1530) (by decide +kernel), List.mem_of_getElem? (i := 1531) (by decide +kernel)⟩
theorem lw_p67 : lw_okq (⟨"SignTurnModel", "takes", "(II)I"⟩, 40) := ⟨⟨by decide +kernel, by decide +kernel⟩, List.mem_of_getElem? (i := 1354) (by decide +kernel), List.mem_of_getElem? (i := 1534) (by decide +kernel), List.mem_of_getElem? (i := 1535) (by decide +kernel)⟩
theorem lw_p68 : lw_okq (⟨"SignTurnModel", "closes", "()V"⟩, 40) := ⟨⟨by decide +kernel, by decide +kernel⟩, List.mem_of_getElem? (i := 1354) (by decide +kernel), List.mem_of_getElem? (i := 1538) (by decide +kernel), List.mem_of_getElem? (i := 1539) (by decide +kernel)⟩
theorem lw_p69 : lw_okq (⟨"SignTurnModel", "readLine", "()V"⟩, 40) := ⟨⟨by decide +kernel, by decide +kernel⟩, List.mem_of_getElem? (i := 1354) (by decide +kernel), List.mem_of_getElem? (i := 1542) (by decide +kernel), List.mem_of_getElem? (i := 1543) (by decide +kernel)⟩
theorem lw_p70 : lw_okq (⟨"SignTurnModel", "readRoad", "()V"⟩, 40) := ⟨⟨by decide +kernel, by decide +kernel⟩, List.mem_of_getElem? (i := 1354) (by decide +kernel), List.mem_of_getElem? (i := 1546) (by decide +kernel), List.mem_of_getElem? (i := 1547) (by decide +kernel)⟩
theorem lw_p71 : lw_okq (⟨"SignTurnModel", "takesPost", "()I"⟩, 40) := ⟨⟨by decide +kernel, by decide +kernel⟩, List.mem_of_getElem? (i := 1354) (by decide +kernel), List.mem_of_getElem? (i := 1550) (by decide +kernel), List.mem_of_getElem? (i := 1551) (by decide +kernel)⟩
theorem lw_p72 : lw_okq (⟨"SignTurnModel", "readArm", "()V"⟩, 40) := ⟨⟨by decide +kernel, by decide +kernel⟩, List.mem_of_getElem? (i := 1354) (by decide +kernel), List.mem_of_getElem? (i := 1554) (by decide +kernel), List.mem_of_getElem? (i := 1555) (by decide +kernel)⟩
theorem lw_p73 : lw_okq (⟨"SignTurnModel", "readHome", "()V"⟩, 40) := ⟨⟨by decide +kernel, by decide +kernel⟩, List.mem_of_getElem? (i := 1354) (by decide +kernel), List.mem_of_getElem? (i := 1558) (by decide +kernel), List.mem_of_getElem? (i := 1559) (by decide +kernel)⟩
theorem lw_p74 : lw_okq (⟨"SignTurnModel", "readLaw", "(I)V"⟩, 40) := ⟨⟨by decide +kernel, by decide +kernel⟩, List.mem_of_getElem? (i := 1354) (by decide +kernel), List.mem_of_getElem? (i := 1562) (by decide +kernel), List.mem_of_getElem? (i := 1563) (by decide +kernel)⟩
theorem lw_p75 : lw_okq (⟨"SignTurnModel", "readSum", "(I)V"⟩, 40) := ⟨⟨by decide +kernel, by decide +kernel⟩, List.mem_of_getElem? (i := 1354) (by decide +kernel), List.mem_of_getElem? (i := 1566) (by decide +kernel), List.mem_of_getElem? (i := 1567) (by decide +kernel)⟩
theorem lw_p76 : lw_okq (⟨"SignTurnModel", "readTerm", "(I)V"⟩, 40) := ⟨⟨by decide +kernel, by decide +kernel⟩, List.mem_of_getElem? (i := 1354) (by decide +kernel), List.mem_of_getElem? (i := 1570) (by decide +kernel), List.mem_of_getElem? (i := 1571) (by decide +kernel)⟩
theorem lw_p77 : lw_okq (⟨"SignTurnModel", "readAtom", "(I)V"⟩, 40) := ⟨⟨by decide +kernel, by decide +kernel⟩, List.mem_of_getElem? (i := 1354) (by decide +kernel), List.mem_of_getElem? (i := 1574) (by decide +kernel), List.mem_of_getElem? (i := 1575) (by decide +kernel)⟩
theorem lw_p78 : lw_okq (⟨"SignTurnModel", "codes", "(I)V"⟩, 40) := ⟨⟨by decide +kernel, by decide +kernel⟩, List.mem_of_getElem? (i := 1354) (by decide +kernel), List.mem_of_getElem? (i := 1578) (by decide +kernel), List.mem_of_getElem? (i := 1579) (by decide +kernel)⟩
theorem lw_p79 : lw_okq (⟨"SignTurnModel", "wordOf", "(I)I"⟩, 40) := ⟨⟨by decide +kernel, by decide +kernel⟩, List.mem_of_getElem? (i := 1354) (by decide +kernel), List.mem_of_getElem? (i := 1582) (by decide +kernel), List.mem_of_getElem? (i := 1583) (by decide +kernel)⟩
def lw_privs_5 : List (MethodName × Nat) := [(⟨"SignTurnModel", "is", "(I)Z"⟩, 40), (⟨"SignTurnModel", "fails", "(I)V"⟩, 40), (⟨"SignTurnModel", "named", "(III)I"⟩, 40), (⟨"SignTurnModel", "takes", "(II)I"⟩, 40), (⟨"SignTurnModel", "closes", "()V"⟩, 40), (⟨"SignTurnModel", "readLine", "()V"⟩, 40), (⟨"SignTurnModel", "readRoad", "()V"⟩, 40), (⟨"SignTurnModel", "takesPost", "()I"⟩, 40), (⟨"SignTurnModel", "readArm", "()V"⟩, 40), (⟨"SignTurnModel", "readHome", "()V"⟩, 40), (⟨"SignTurnModel", "readLaw", "(I)V"⟩, 40), (⟨"SignTurnModel", "readSum", "(I)V"⟩, 40), (⟨"SignTurnModel", "readTerm", "(I)V"⟩, 40), (⟨"SignTurnModel", "readAtom", "(I)V"⟩, 40), (⟨"SignTurnModel", "codes", "(I)V"⟩, 40), (⟨"SignTurnModel", "wordOf", "(I)I"⟩, 40)]
theorem lw_r5 : ∀ q ∈ lw_privs_5, lw_okq q := List.forall_mem_cons.mpr ⟨lw_p64, List.forall_mem_cons.mpr ⟨lw_p65, List.forall_mem_cons.mpr ⟨lw_p66, List.forall_mem_cons.mpr ⟨lw_p67, List.forall_mem_cons.mpr ⟨lw_p68, List.forall_mem_cons.mpr ⟨lw_p69, List.forall_mem_cons.mpr ⟨lw_p70, List.forall_mem_cons.mpr ⟨lw_p71, List.forall_mem_cons.mpr ⟨lw_p72, List.forall_mem_cons.mpr ⟨lw_p73, List.forall_mem_cons.mpr ⟨lw_p74, List.forall_mem_cons.mpr ⟨lw_p75, List.forall_mem_cons.mpr ⟨lw_p76, List.forall_mem_cons.mpr ⟨lw_p77, List.forall_mem_cons.mpr ⟨lw_p78, List.forall_mem_cons.mpr ⟨lw_p79, fun _ h => absurd h List.not_mem_nil⟩⟩⟩⟩⟩⟩⟩⟩⟩⟩⟩⟩⟩⟩⟩⟩
theorem lw_p80 : lw_okq (⟨"SignTurnModel", "goesIn", "(I)Z"⟩, 40) := ⟨⟨by decide +kernel, by decide +kernel⟩, List.mem_of_getElem? (i := 1354) (by decide +kernel), List.mem_of_getElem? (i := 1586) (by decide +kernel), List.mem_of_getElem? (i := 1587) (by decide +kernel)⟩
theorem lw_p81 : lw_okq (⟨"SignTurnModel", "readIf", "(I)V"⟩, 40) := ⟨⟨by decide +kernel, by decide +kernel⟩, List.mem_of_getElem? (i := 1354) (by decide +kernel), List.mem_of_getElem? (i := 1590) (by decide +kernel), List.mem_of_getElem? (i := 1591) (by decide +kernel)⟩
theorem lw_p82 : lw_okq (⟨"SignTurnModel", "readTruth", "(I)V"⟩, 40) := ⟨⟨by decide +kernel, by decide +kernel⟩, List.mem_of_getElem? (i := 1354) (by decide +kernel), List.mem_of_getElem? (i := 1594) (by decide +kernel), List.mem_of_getElem? (i := 1595) (by decide +kernel)⟩
theorem lw_p83 : lw_okq (⟨"SignTurnModel", "readBoth", "(I)V"⟩, 40) := ⟨⟨by decide +kernel, by decide +kernel⟩, List.mem_of_getElem? (i := 1354) (by decide +kernel), List.mem_of_getElem? (i := 1598) (by decide +kernel), List.mem_of_getElem? (i := 1599) (by decide +kernel)⟩
theorem lw_p84 : lw_okq (⟨"SignTurnModel", "readUnit", "(I)V"⟩, 40) := ⟨⟨by decide +kernel, by decide +kernel⟩, List.mem_of_getElem? (i := 1354) (by decide +kernel), List.mem_of_getElem? (i := 1602) (by decide +kernel), List.mem_of_getElem? (i := 1603) (by decide +kernel)⟩
theorem lw_p85 : lw_okq (⟨"SignTurnModel", "isPost", "(J)Z"⟩, 40) := ⟨⟨by decide +kernel, by decide +kernel⟩, List.mem_of_getElem? (i := 1354) (by decide +kernel), List.mem_of_getElem? (i := 1614) (by decide +kernel), List.mem_of_getElem? (i := 1615) (by decide +kernel)⟩
theorem lw_p86 : lw_okq (⟨"SignTurnModel", "isRoad", "(IJ)Z"⟩, 40) := ⟨⟨by decide +kernel, by decide +kernel⟩, List.mem_of_getElem? (i := 1354) (by decide +kernel), List.mem_of_getElem? (i := 1618) (by decide +kernel), List.mem_of_getElem? (i := 1619) (by decide +kernel)⟩
theorem lw_p87 : lw_okq (⟨"SignTurnModel", "roadOf", "(II)I"⟩, 40) := ⟨⟨by decide +kernel, by decide +kernel⟩, List.mem_of_getElem? (i := 1354) (by decide +kernel), List.mem_of_getElem? (i := 1622) (by decide +kernel), List.mem_of_getElem? (i := 1623) (by decide +kernel)⟩
theorem lw_p88 : lw_okq (⟨"SignTurnModel", "armsNow", "()I"⟩, 40) := ⟨⟨by decide +kernel, by decide +kernel⟩, List.mem_of_getElem? (i := 1354) (by decide +kernel), List.mem_of_getElem? (i := 1630) (by decide +kernel), List.mem_of_getElem? (i := 1631) (by decide +kernel)⟩
theorem lw_p89 : lw_okq (⟨"SignTurnModel", "stepTo", "(II)I"⟩, 40) := ⟨⟨by decide +kernel, by decide +kernel⟩, List.mem_of_getElem? (i := 1354) (by decide +kernel), List.mem_of_getElem? (i := 1640) (by decide +kernel), List.mem_of_getElem? (i := 1641) (by decide +kernel)⟩
theorem lw_p90 : lw_okq (⟨"SignTurnModel", "reckons", "(I)I"⟩, 40) := ⟨⟨by decide +kernel, by decide +kernel⟩, List.mem_of_getElem? (i := 1354) (by decide +kernel), List.mem_of_getElem? (i := 1647) (by decide +kernel), List.mem_of_getElem? (i := 1648) (by decide +kernel)⟩
theorem lw_p91 : lw_okq (⟨"SignTurnModel", "isRest", "(I)Z"⟩, 40) := ⟨⟨by decide +kernel, by decide +kernel⟩, List.mem_of_getElem? (i := 1354) (by decide +kernel), List.mem_of_getElem? (i := 1663) (by decide +kernel), List.mem_of_getElem? (i := 1664) (by decide +kernel)⟩
theorem lw_p92 : lw_okq (⟨"SignTurnModel", "stores", "()V"⟩, 40) := ⟨⟨by decide +kernel, by decide +kernel⟩, List.mem_of_getElem? (i := 1354) (by decide +kernel), List.mem_of_getElem? (i := 1670) (by decide +kernel), List.mem_of_getElem? (i := 1671) (by decide +kernel)⟩
theorem lw_p93 : lw_okq (⟨"SignTurnModel", "goesStep", "()V"⟩, 40) := ⟨⟨by decide +kernel, by decide +kernel⟩, List.mem_of_getElem? (i := 1354) (by decide +kernel), List.mem_of_getElem? (i := 1674) (by decide +kernel), List.mem_of_getElem? (i := 1675) (by decide +kernel)⟩
theorem lw_p94 : lw_okq (⟨"SignTurnModel", "standNow", "()I"⟩, 40) := ⟨⟨by decide +kernel, by decide +kernel⟩, List.mem_of_getElem? (i := 1354) (by decide +kernel), List.mem_of_getElem? (i := 1678) (by decide +kernel), List.mem_of_getElem? (i := 1679) (by decide +kernel)⟩
theorem lw_p95 : lw_okq (⟨"SignTurnModel", "isStand", "(I)V"⟩, 40) := ⟨⟨by decide +kernel, by decide +kernel⟩, List.mem_of_getElem? (i := 1354) (by decide +kernel), List.mem_of_getElem? (i := 1682) (by decide +kernel), List.mem_of_getElem? (i := 1683) (by decide +kernel)⟩
def lw_privs_6 : List (MethodName × Nat) := [(⟨"SignTurnModel", "goesIn", "(I)Z"⟩, 40), (⟨"SignTurnModel", "readIf", "(I)V"⟩, 40), (⟨"SignTurnModel", "readTruth", "(I)V"⟩, 40), (⟨"SignTurnModel", "readBoth", "(I)V"⟩, 40), (⟨"SignTurnModel", "readUnit", "(I)V"⟩, 40), (⟨"SignTurnModel", "isPost", "(J)Z"⟩, 40), (⟨"SignTurnModel", "isRoad", "(IJ)Z"⟩, 40), (⟨"SignTurnModel", "roadOf", "(II)I"⟩, 40), (⟨"SignTurnModel", "armsNow", "()I"⟩, 40), (⟨"SignTurnModel", "stepTo", "(II)I"⟩, 40), (⟨"SignTurnModel", "reckons", "(I)I"⟩, 40), (⟨"SignTurnModel", "isRest", "(I)Z"⟩, 40), (⟨"SignTurnModel", "stores", "()V"⟩, 40), (⟨"SignTurnModel", "goesStep", "()V"⟩, 40), (⟨"SignTurnModel", "standNow", "()I"⟩, 40), (⟨"SignTurnModel", "isStand", "(I)V"⟩, 40)]
theorem lw_r6 : ∀ q ∈ lw_privs_6, lw_okq q := List.forall_mem_cons.mpr ⟨lw_p80, List.forall_mem_cons.mpr ⟨lw_p81, List.forall_mem_cons.mpr ⟨lw_p82, List.forall_mem_cons.mpr ⟨lw_p83, List.forall_mem_cons.mpr ⟨lw_p84, List.forall_mem_cons.mpr ⟨lw_p85, List.forall_mem_cons.mpr ⟨lw_p86, List.forall_mem_cons.mpr ⟨lw_p87, List.forall_mem_cons.mpr ⟨lw_p88, List.forall_mem_cons.mpr ⟨lw_p89, List.forall_mem_cons.mpr ⟨lw_p90, List.forall_mem_cons.mpr ⟨lw_p91, List.forall_mem_cons.mpr ⟨lw_p92, List.forall_mem_cons.mpr ⟨lw_p93, List.forall_mem_cons.mpr ⟨lw_p94, List.forall_mem_cons.mpr ⟨lw_p95, fun _ h => absurd h List.not_mem_nil⟩⟩⟩⟩⟩⟩⟩⟩⟩⟩⟩⟩⟩⟩⟩⟩
theorem lw_p96 : lw_okq (⟨"SignTurnModel", "notes", "()V"⟩, 40) := ⟨⟨by decide +kernel, by decide +kernel⟩, List.mem_of_getElem? (i := 1354) (by decide +kernel), List.mem_of_getElem? (i := 1686) (by decide +kernel), List.mem_of_getElem? (i := 1687) (by decide +kernel)⟩
theorem lw_p97 : lw_okq (⟨"SignTurnModel", "noTray", "(I)I"⟩, 40) := ⟨⟨by decide +kernel, by decide +kernel⟩, List.mem_of_getElem? (i := 1354) (by decide +kernel), List.mem_of_getElem? (i := 1718) (by decide +kernel), List.mem_of_getElem? (i := 1719) (by decide +kernel)⟩
theorem lw_p98 : lw_okq (⟨"SignTurnModel", "tells", "(I)I"⟩, 40) := ⟨⟨by decide +kernel, by decide +kernel⟩, List.mem_of_getElem? (i := 1354) (by decide +kernel), List.mem_of_getElem? (i := 1722) (by decide +kernel), List.mem_of_getElem? (i := 1723) (by decide +kernel)⟩
theorem lw_p99 : lw_okq (⟨"SignTurnModel", "whyNot", "(J)I"⟩, 40) := ⟨⟨by decide +kernel, by decide +kernel⟩, List.mem_of_getElem? (i := 1354) (by decide +kernel), List.mem_of_getElem? (i := 1726) (by decide +kernel), List.mem_of_getElem? (i := 1727) (by decide +kernel)⟩
theorem lw_p100 : lw_okq (⟨"SignTurnModel", "does", "(I)V"⟩, 40) := ⟨⟨by decide +kernel, by decide +kernel⟩, List.mem_of_getElem? (i := 1354) (by decide +kernel), List.mem_of_getElem? (i := 1735) (by decide +kernel), List.mem_of_getElem? (i := 1736) (by decide +kernel)⟩
theorem lw_p101 : lw_okq (⟨"SignTurnModel", "isAgain", "()V"⟩, 40) := ⟨⟨by decide +kernel, by decide +kernel⟩, List.mem_of_getElem? (i := 1354) (by decide +kernel), List.mem_of_getElem? (i := 1739) (by decide +kernel), List.mem_of_getElem? (i := 1740) (by decide +kernel)⟩
theorem lw_p102 : lw_okq (⟨"SignTurnModel", "drawn", "()I"⟩, 40) := ⟨⟨by decide +kernel, by decide +kernel⟩, List.mem_of_getElem? (i := 1354) (by decide +kernel), List.mem_of_getElem? (i := 1752) (by decide +kernel), List.mem_of_getElem? (i := 1753) (by decide +kernel)⟩
theorem lw_p103 : lw_okq (⟨"SignTurnModel", "draw", "(I)I"⟩, 40) := ⟨⟨by decide +kernel, by decide +kernel⟩, List.mem_of_getElem? (i := 1354) (by decide +kernel), List.mem_of_getElem? (i := 1756) (by decide +kernel), List.mem_of_getElem? (i := 1757) (by decide +kernel)⟩
theorem lw_p104 : lw_okq (⟨"SignTurnModel", "laysLine", "(I)V"⟩, 40) := ⟨⟨by decide +kernel, by decide +kernel⟩, List.mem_of_getElem? (i := 1354) (by decide +kernel), List.mem_of_getElem? (i := 1766) (by decide +kernel), List.mem_of_getElem? (i := 1767) (by decide +kernel)⟩
theorem lw_p105 : lw_okq (⟨"SignTurnModel", "lineAt", "(J)I"⟩, 40) := ⟨⟨by decide +kernel, by decide +kernel⟩, List.mem_of_getElem? (i := 1354) (by decide +kernel), List.mem_of_getElem? (i := 1770) (by decide +kernel), List.mem_of_getElem? (i := 1771) (by decide +kernel)⟩
theorem lw_p106 : lw_okq (⟨"SignTurnModel", "oftenAt", "(III)I"⟩, 40) := ⟨⟨by decide +kernel, by decide +kernel⟩, List.mem_of_getElem? (i := 1354) (by decide +kernel), List.mem_of_getElem? (i := 1784) (by decide +kernel), List.mem_of_getElem? (i := 1785) (by decide +kernel)⟩
theorem lw_p107 : lw_okq (⟨"SignTurnModel", "areArms", "(I)Z"⟩, 40) := ⟨⟨by decide +kernel, by decide +kernel⟩, List.mem_of_getElem? (i := 1354) (by decide +kernel), List.mem_of_getElem? (i := 1805) (by decide +kernel), List.mem_of_getElem? (i := 1806) (by decide +kernel)⟩
theorem lw_p108 : lw_okq (⟨"SignTurnModel", "homeFrom", "(I)I"⟩, 40) := ⟨⟨by decide +kernel, by decide +kernel⟩, List.mem_of_getElem? (i := 1354) (by decide +kernel), List.mem_of_getElem? (i := 1809) (by decide +kernel), List.mem_of_getElem? (i := 1810) (by decide +kernel)⟩
theorem lw_p109 : lw_okq (⟨"SignTurnModel", "laysCost", "()V"⟩, 40) := ⟨⟨by decide +kernel, by decide +kernel⟩, List.mem_of_getElem? (i := 1354) (by decide +kernel), List.mem_of_getElem? (i := 1817) (by decide +kernel), List.mem_of_getElem? (i := 1818) (by decide +kernel)⟩
theorem lw_p110 : lw_okq (⟨"SignTurnModel", "laysFilling", "(I)V"⟩, 40) := ⟨⟨by decide +kernel, by decide +kernel⟩, List.mem_of_getElem? (i := 1354) (by decide +kernel), List.mem_of_getElem? (i := 1825) (by decide +kernel), List.mem_of_getElem? (i := 1826) (by decide +kernel)⟩
theorem lw_p111 : lw_okq (⟨"SignTurnModel", "noFeet", "(I)I"⟩, 40) := ⟨⟨by decide +kernel, by decide +kernel⟩, List.mem_of_getElem? (i := 1354) (by decide +kernel), List.mem_of_getElem? (i := 1837) (by decide +kernel), List.mem_of_getElem? (i := 1838) (by decide +kernel)⟩
def lw_privs_7 : List (MethodName × Nat) := [(⟨"SignTurnModel", "notes", "()V"⟩, 40), (⟨"SignTurnModel", "noTray", "(I)I"⟩, 40), (⟨"SignTurnModel", "tells", "(I)I"⟩, 40), (⟨"SignTurnModel", "whyNot", "(J)I"⟩, 40), (⟨"SignTurnModel", "does", "(I)V"⟩, 40), (⟨"SignTurnModel", "isAgain", "()V"⟩, 40), (⟨"SignTurnModel", "drawn", "()I"⟩, 40), (⟨"SignTurnModel", "draw", "(I)I"⟩, 40), (⟨"SignTurnModel", "laysLine", "(I)V"⟩, 40), (⟨"SignTurnModel", "lineAt", "(J)I"⟩, 40), (⟨"SignTurnModel", "oftenAt", "(III)I"⟩, 40), (⟨"SignTurnModel", "areArms", "(I)Z"⟩, 40), (⟨"SignTurnModel", "homeFrom", "(I)I"⟩, 40), (⟨"SignTurnModel", "laysCost", "()V"⟩, 40), (⟨"SignTurnModel", "laysFilling", "(I)V"⟩, 40), (⟨"SignTurnModel", "noFeet", "(I)I"⟩, 40)]
theorem lw_r7 : ∀ q ∈ lw_privs_7, lw_okq q := List.forall_mem_cons.mpr ⟨lw_p96, List.forall_mem_cons.mpr ⟨lw_p97, List.forall_mem_cons.mpr ⟨lw_p98, List.forall_mem_cons.mpr ⟨lw_p99, List.forall_mem_cons.mpr ⟨lw_p100, List.forall_mem_cons.mpr ⟨lw_p101, List.forall_mem_cons.mpr ⟨lw_p102, List.forall_mem_cons.mpr ⟨lw_p103, List.forall_mem_cons.mpr ⟨lw_p104, List.forall_mem_cons.mpr ⟨lw_p105, List.forall_mem_cons.mpr ⟨lw_p106, List.forall_mem_cons.mpr ⟨lw_p107, List.forall_mem_cons.mpr ⟨lw_p108, List.forall_mem_cons.mpr ⟨lw_p109, List.forall_mem_cons.mpr ⟨lw_p110, List.forall_mem_cons.mpr ⟨lw_p111, fun _ h => absurd h List.not_mem_nil⟩⟩⟩⟩⟩⟩⟩⟩⟩⟩⟩⟩⟩⟩⟩⟩
theorem lw_p112 : lw_okq (⟨"SignTurnModel", "laysFeet", "(I)I"⟩, 40) := ⟨⟨by decide +kernel, by decide +kernel⟩, List.mem_of_getElem? (i := 1354) (by decide +kernel), List.mem_of_getElem? (i := 1842) (by decide +kernel), List.mem_of_getElem? (i := 1843) (by decide +kernel)⟩
theorem lw_p113 : lw_okq (⟨"SignTurnModel", "areFeet", "(III)Z"⟩, 40) := ⟨⟨by decide +kernel, by decide +kernel⟩, List.mem_of_getElem? (i := 1354) (by decide +kernel), List.mem_of_getElem? (i := 1846) (by decide +kernel), List.mem_of_getElem? (i := 1847) (by decide +kernel)⟩
theorem lw_p114 : lw_okq (⟨"SignTurnModel", "beginsAhead", "()V"⟩, 40) := ⟨⟨by decide +kernel, by decide +kernel⟩, List.mem_of_getElem? (i := 1354) (by decide +kernel), List.mem_of_getElem? (i := 1867) (by decide +kernel), List.mem_of_getElem? (i := 1868) (by decide +kernel)⟩
theorem lw_p115 : lw_okq (⟨"SignTurnModel", "laysAhead", "()I"⟩, 40) := ⟨⟨by decide +kernel, by decide +kernel⟩, List.mem_of_getElem? (i := 1354) (by decide +kernel), List.mem_of_getElem? (i := 1871) (by decide +kernel), List.mem_of_getElem? (i := 1872) (by decide +kernel)⟩
theorem lw_p116 : lw_okq (⟨"SignTurnModel", "isStand1", "(I)Z"⟩, 40) := ⟨⟨by decide +kernel, by decide +kernel⟩, List.mem_of_getElem? (i := 1354) (by decide +kernel), List.mem_of_getElem? (i := 1875) (by decide +kernel), List.mem_of_getElem? (i := 1876) (by decide +kernel)⟩
theorem lw_p117 : lw_okq (⟨"SignTurnModel", "isTree", "(II)Z"⟩, 40) := ⟨⟨by decide +kernel, by decide +kernel⟩, List.mem_of_getElem? (i := 1354) (by decide +kernel), List.mem_of_getElem? (i := 1891) (by decide +kernel), List.mem_of_getElem? (i := 1892) (by decide +kernel)⟩
theorem lw_p118 : lw_okq (⟨"SignTurnModel", "comesTo", "(II)I"⟩, 40) := ⟨⟨by decide +kernel, by decide +kernel⟩, List.mem_of_getElem? (i := 1354) (by decide +kernel), List.mem_of_getElem? (i := 1899) (by decide +kernel), List.mem_of_getElem? (i := 1900) (by decide +kernel)⟩
theorem lw_p119 : lw_okq (⟨"SignTurnModel", "beginsRows", "()V"⟩, 40) := ⟨⟨by decide +kernel, by decide +kernel⟩, List.mem_of_getElem? (i := 1354) (by decide +kernel), List.mem_of_getElem? (i := 1903) (by decide +kernel), List.mem_of_getElem? (i := 1904) (by decide +kernel)⟩
theorem lw_p120 : lw_okq (⟨"SignTurnModel", "lays", "(IJJ)V"⟩, 40) := ⟨⟨by decide +kernel, by decide +kernel⟩, List.mem_of_getElem? (i := 1354) (by decide +kernel), List.mem_of_getElem? (i := 1907) (by decide +kernel), List.mem_of_getElem? (i := 1908) (by decide +kernel)⟩
theorem lw_p121 : lw_okq (⟨"SignTurnModel", "solves", "()V"⟩, 40) := ⟨⟨by decide +kernel, by decide +kernel⟩, List.mem_of_getElem? (i := 1354) (by decide +kernel), List.mem_of_getElem? (i := 1914) (by decide +kernel), List.mem_of_getElem? (i := 1915) (by decide +kernel)⟩
theorem lw_p122 : lw_okq (⟨"SignTurnModel", "swaps", "(II)V"⟩, 40) := ⟨⟨by decide +kernel, by decide +kernel⟩, List.mem_of_getElem? (i := 1354) (by decide +kernel), List.mem_of_getElem? (i := 1918) (by decide +kernel), List.mem_of_getElem? (i := 1919) (by decide +kernel)⟩
theorem lw_p123 : lw_okq (⟨"SignTurnModel", "addsTo", "(IIJJ)V"⟩, 40) := ⟨⟨by decide +kernel, by decide +kernel⟩, List.mem_of_getElem? (i := 1354) (by decide +kernel), List.mem_of_getElem? (i := 1922) (by decide +kernel), List.mem_of_getElem? (i := 1923) (by decide +kernel)⟩
theorem lw_p124 : lw_okq (⟨"SignTurnModel", "strays", "()I"⟩, 40) := ⟨⟨by decide +kernel, by decide +kernel⟩, List.mem_of_getElem? (i := 1354) (by decide +kernel), List.mem_of_getElem? (i := 1930) (by decide +kernel), List.mem_of_getElem? (i := 1931) (by decide +kernel)⟩
theorem lw_p125 : lw_okq (⟨"SignTurnModel", "goesTo", "(I)I"⟩, 40) := ⟨⟨by decide +kernel, by decide +kernel⟩, List.mem_of_getElem? (i := 1354) (by decide +kernel), List.mem_of_getElem? (i := 1940) (by decide +kernel), List.mem_of_getElem? (i := 1941) (by decide +kernel)⟩
theorem lw_p126 : lw_okq (⟨"SignTurnModel", "laysForce", "(I)I"⟩, 40) := ⟨⟨by decide +kernel, by decide +kernel⟩, List.mem_of_getElem? (i := 1354) (by decide +kernel), List.mem_of_getElem? (i := 1948) (by decide +kernel), List.mem_of_getElem? (i := 1949) (by decide +kernel)⟩
theorem lw_p127 : lw_okq (⟨"SignTurnModel", "otherAt", "(I)I"⟩, 40) := ⟨⟨by decide +kernel, by decide +kernel⟩, List.mem_of_getElem? (i := 1354) (by decide +kernel), List.mem_of_getElem? (i := 1952) (by decide +kernel), List.mem_of_getElem? (i := 1953) (by decide +kernel)⟩
def lw_privs_8 : List (MethodName × Nat) := [(⟨"SignTurnModel", "laysFeet", "(I)I"⟩, 40), (⟨"SignTurnModel", "areFeet", "(III)Z"⟩, 40), (⟨"SignTurnModel", "beginsAhead", "()V"⟩, 40), (⟨"SignTurnModel", "laysAhead", "()I"⟩, 40), (⟨"SignTurnModel", "isStand1", "(I)Z"⟩, 40), (⟨"SignTurnModel", "isTree", "(II)Z"⟩, 40), (⟨"SignTurnModel", "comesTo", "(II)I"⟩, 40), (⟨"SignTurnModel", "beginsRows", "()V"⟩, 40), (⟨"SignTurnModel", "lays", "(IJJ)V"⟩, 40), (⟨"SignTurnModel", "solves", "()V"⟩, 40), (⟨"SignTurnModel", "swaps", "(II)V"⟩, 40), (⟨"SignTurnModel", "addsTo", "(IIJJ)V"⟩, 40), (⟨"SignTurnModel", "strays", "()I"⟩, 40), (⟨"SignTurnModel", "goesTo", "(I)I"⟩, 40), (⟨"SignTurnModel", "laysForce", "(I)I"⟩, 40), (⟨"SignTurnModel", "otherAt", "(I)I"⟩, 40)]
theorem lw_r8 : ∀ q ∈ lw_privs_8, lw_okq q := List.forall_mem_cons.mpr ⟨lw_p112, List.forall_mem_cons.mpr ⟨lw_p113, List.forall_mem_cons.mpr ⟨lw_p114, List.forall_mem_cons.mpr ⟨lw_p115, List.forall_mem_cons.mpr ⟨lw_p116, List.forall_mem_cons.mpr ⟨lw_p117, List.forall_mem_cons.mpr ⟨lw_p118, List.forall_mem_cons.mpr ⟨lw_p119, List.forall_mem_cons.mpr ⟨lw_p120, List.forall_mem_cons.mpr ⟨lw_p121, List.forall_mem_cons.mpr ⟨lw_p122, List.forall_mem_cons.mpr ⟨lw_p123, List.forall_mem_cons.mpr ⟨lw_p124, List.forall_mem_cons.mpr ⟨lw_p125, List.forall_mem_cons.mpr ⟨lw_p126, List.forall_mem_cons.mpr ⟨lw_p127, fun _ h => absurd h List.not_mem_nil⟩⟩⟩⟩⟩⟩⟩⟩⟩⟩⟩⟩⟩⟩⟩⟩
theorem lw_p128 : lw_okq (⟨"SignTurnModel", "firstBy", "(II)I"⟩, 40) := ⟨⟨by decide +kernel, by decide +kernel⟩, List.mem_of_getElem? (i := 1354) (by decide +kernel), List.mem_of_getElem? (i := 1956) (by decide +kernel), List.mem_of_getElem? (i := 1957) (by decide +kernel)⟩
def lw_privs_9 : List (MethodName × Nat) := [(⟨"SignTurnModel", "firstBy", "(II)I"⟩, 40)]
theorem lw_r9 : ∀ q ∈ lw_privs_9, lw_okq q := List.forall_mem_cons.mpr ⟨lw_p128, fun _ h => absurd h List.not_mem_nil⟩
def lw_privs : List (MethodName × Nat) := lw_privs_1 ++ (lw_privs_2 ++ (lw_privs_3 ++ (lw_privs_4 ++ (lw_privs_5 ++ (lw_privs_6 ++ (lw_privs_7 ++ (lw_privs_8 ++ (lw_privs_9))))))))
def lw_tbl : List Cond := k2_sels lw_privs ++ tables_1
theorem lw_privs_ok : ∀ q ∈ lw_privs, lw_okq q := by
  show ∀ q ∈ lw_privs_1 ++ (lw_privs_2 ++ (lw_privs_3 ++ (lw_privs_4 ++ (lw_privs_5 ++ (lw_privs_6 ++ (lw_privs_7 ++ (lw_privs_8 ++ (lw_privs_9)))))))), lw_okq q
  exact List.forall_mem_append.mpr ⟨lw_r1, List.forall_mem_append.mpr ⟨lw_r2, List.forall_mem_append.mpr ⟨lw_r3, List.forall_mem_append.mpr ⟨lw_r4, List.forall_mem_append.mpr ⟨lw_r5, List.forall_mem_append.mpr ⟨lw_r6, List.forall_mem_append.mpr ⟨lw_r7, List.forall_mem_append.mpr ⟨lw_r8, lw_r9⟩⟩⟩⟩⟩⟩⟩⟩
def RX0 : String := "SignTurn$Deeds"
def TX0 : u_T := fun k => match k with
  | 0 => ("SignTurn$Deeds", "moor", "LSignTurn$Moor;", true)
  | 1 => ("SignTurn$Deeds", "rules", "LSignTurn$Rules;", true)
  | 2 => ("SignTurn$Deeds", "now", "LSignTurn$Stand;", true)
  | 3 => ("SignTurn$Deeds", "before", "LSignTurn$Stand;", true)
  | 4 => ("SignTurn$Deeds", "supposed", "LSignTurn$Stand;", true)
  | 5 => ("SignTurn$Deeds", "past", "[LSignTurn$Stand;", true)
  | 6 => ("SignTurn$Deeds", "undoable", "I", false)
  | _ => ("SignTurn$Deeds", "drawn", "I", false)
def tyX0 : Nat → FieldType := fun k => match k with
  | 0 => .object "SignTurn$Moor"
  | 1 => .object "SignTurn$Rules"
  | 2 => .object "SignTurn$Stand"
  | 3 => .object "SignTurn$Stand"
  | 4 => .object "SignTurn$Stand"
  | 5 => .array (.object "SignTurn$Stand")
  | 6 => .int
  | _ => .int
abbrev wsX00 : List Cond := u_ws RX0 TX0 8
theorem nmX0 : ∀ a, a < 8 → ∀ b, b < 8 → a ≠ b → (TX0 a).2.1 ≠ (TX0 b).2.1 := by decide +kernel
theorem tyX0_ok : ∀ k, k < 8 → parseFieldDescriptor (TX0 k).2.2.1 = some (tyX0 k) := by decide +kernel
def RX1 : String := "SignTurn$Game"
def TX1 : u_T := fun k => match k with
  | 0 => ("SignTurn$Game", "moor", "LSignTurn$Moor;", true)
  | _ => ("SignTurn$Game", "otherLoses", "I", false)
def tyX1 : Nat → FieldType := fun k => match k with
  | 0 => .object "SignTurn$Moor"
  | _ => .int
abbrev wsX10 : List Cond := u_ws RX1 TX1 2
theorem nmX1 : ∀ a, a < 2 → ∀ b, b < 2 → a ≠ b → (TX1 a).2.1 ≠ (TX1 b).2.1 := by decide +kernel
theorem tyX1_ok : ∀ k, k < 2 → parseFieldDescriptor (TX1 k).2.2.1 = some (tyX1 k) := by decide +kernel
def RX2 : String := "SignTurn$Going"
def TX2 : u_T := fun k => match k with
  | 0 => ("SignTurn$Going", "moor", "LSignTurn$Moor;", true)
  | 1 => ("SignTurn$Going", "rules", "LSignTurn$Rules;", true)
  | 2 => ("SignTurn$Going", "path", "[I", true)
  | 3 => ("SignTurn$Going", "seen", "[I", true)
  | 4 => ("SignTurn$Going", "length", "I", false)
  | 5 => ("SignTurn$Going", "loop", "I", false)
  | 6 => ("SignTurn$Going", "filled", "[I", true)
  | 7 => ("SignTurn$Going", "filledCount", "I", false)
  | 8 => ("SignTurn$Going", "filledSteps", "I", false)
  | _ => ("SignTurn$Going", "ends", "[I", true)
def tyX2 : Nat → FieldType := fun k => match k with
  | 0 => .object "SignTurn$Moor"
  | 1 => .object "SignTurn$Rules"
  | 2 => .array .int
  | 3 => .array .int
  | 4 => .int
  | 5 => .int
  | 6 => .array .int
  | 7 => .int
  | 8 => .int
  | _ => .array .int
abbrev wsX20 : List Cond := u_ws RX2 TX2 10
theorem nmX2 : ∀ a, a < 10 → ∀ b, b < 10 → a ≠ b → (TX2 a).2.1 ≠ (TX2 b).2.1 := by decide +kernel
theorem tyX2_ok : ∀ k, k < 10 → parseFieldDescriptor (TX2 k).2.2.1 = some (tyX2 k) := by decide +kernel
def RX3 : String := "SignTurn$Moor"
def TX3 : u_T := fun k => match k with
  | 0 => ("SignTurn$Moor", "posts", "I", false)
  | 1 => ("SignTurn$Moor", "lines", "I", false)
  | 2 => ("SignTurn$Moor", "homes", "I", false)
  | 3 => ("SignTurn$Moor", "turnsFrom", "I", false)
  | 4 => ("SignTurn$Moor", "turnsTo", "I", false)
  | 5 => ("SignTurn$Moor", "sticksFrom", "I", false)
  | 6 => ("SignTurn$Moor", "sticksTo", "I", false)
  | 7 => ("SignTurn$Moor", "roads", "[I", true)
  | 8 => ("SignTurn$Moor", "leads", "[I", true)
  | _ => ("SignTurn$Moor", "code", "[I", true)
def tyX3 : Nat → FieldType := fun k => match k with
  | 0 => .int
  | 1 => .int
  | 2 => .int
  | 3 => .int
  | 4 => .int
  | 5 => .int
  | 6 => .int
  | 7 => .array .int
  | 8 => .array .int
  | _ => .array .int
abbrev wsX30 : List Cond := u_ws RX3 TX3 10
theorem nmX3 : ∀ a, a < 10 → ∀ b, b < 10 → a ≠ b → (TX3 a).2.1 ≠ (TX3 b).2.1 := by decide +kernel
theorem tyX3_ok : ∀ k, k < 10 → parseFieldDescriptor (TX3 k).2.2.1 = some (tyX3 k) := by decide +kernel
def RX4 : String := "SignTurn$Odds"
def TX4 : u_T := fun k => match k with
  | 0 => ("SignTurn$Odds", "moor", "LSignTurn$Moor;", true)
  | 1 => ("SignTurn$Odds", "cells", "[J", true)
  | 2 => ("SignTurn$Odds", "rowOf", "[I", true)
  | 3 => ("SignTurn$Odds", "rows", "I", false)
  | 4 => ("SignTurn$Odds", "above", "J", false)
  | _ => ("SignTurn$Odds", "below", "J", false)
def tyX4 : Nat → FieldType := fun k => match k with
  | 0 => .object "SignTurn$Moor"
  | 1 => .array .long
  | 2 => .array .int
  | 3 => .int
  | 4 => .long
  | _ => .long
abbrev wsX40 : List Cond := u_ws RX4 TX4 6
theorem nmX4 : ∀ a, a < 6 → ∀ b, b < 6 → a ≠ b → (TX4 a).2.1 ≠ (TX4 b).2.1 := by decide +kernel
theorem tyX4_ok : ∀ k, k < 6 → parseFieldDescriptor (TX4 k).2.2.1 = some (tyX4 k) := by decide +kernel
def RX5 : String := "SignTurn$Prints"
def TX5 : u_T := fun k => match k with
  | 0 => ("SignTurn$Prints", "moor", "LSignTurn$Moor;", true)
  | 1 => ("SignTurn$Prints", "rules", "LSignTurn$Rules;", true)
  | 2 => ("SignTurn$Prints", "shows", "[I", true)
  | _ => ("SignTurn$Prints", "total", "I", false)
def tyX5 : Nat → FieldType := fun k => match k with
  | 0 => .object "SignTurn$Moor"
  | 1 => .object "SignTurn$Rules"
  | 2 => .array .int
  | _ => .int
abbrev wsX50 : List Cond := u_ws RX5 TX5 4
theorem nmX5 : ∀ a, a < 4 → ∀ b, b < 4 → a ≠ b → (TX5 a).2.1 ≠ (TX5 b).2.1 := by decide +kernel
theorem tyX5_ok : ∀ k, k < 4 → parseFieldDescriptor (TX5 k).2.2.1 = some (tyX5 k) := by decide +kernel
def RX6 : String := "SignTurn$Reader"
def TX6 : u_T := fun k => match k with
  | 0 => ("SignTurn$Reader", "draft", "LSignTurn$Moor;", true)
  | 1 => ("SignTurn$Reader", "start", "LSignTurn$Stand;", true)
  | 2 => ("SignTurn$Reader", "codeSize", "I", false)
  | 3 => ("SignTurn$Reader", "tape", "[I", true)
  | 4 => ("SignTurn$Reader", "size", "I", false)
  | 5 => ("SignTurn$Reader", "length", "I", false)
  | 6 => ("SignTurn$Reader", "kind", "I", false)
  | 7 => ("SignTurn$Reader", "place", "I", false)
  | 8 => ("SignTurn$Reader", "next", "I", false)
  | 9 => ("SignTurn$Reader", "number", "I", false)
  | 10 => ("SignTurn$Reader", "fault", "I", false)
  | _ => ("SignTurn$Reader", "faultPlace", "I", false)
def tyX6 : Nat → FieldType := fun k => match k with
  | 0 => .object "SignTurn$Moor"
  | 1 => .object "SignTurn$Stand"
  | 2 => .int
  | 3 => .array .int
  | 4 => .int
  | 5 => .int
  | 6 => .int
  | 7 => .int
  | 8 => .int
  | 9 => .int
  | 10 => .int
  | _ => .int
abbrev wsX60 : List Cond := u_ws RX6 TX6 12
theorem nmX6 : ∀ a, a < 12 → ∀ b, b < 12 → a ≠ b → (TX6 a).2.1 ≠ (TX6 b).2.1 := by decide +kernel
theorem tyX6_ok : ∀ k, k < 12 → parseFieldDescriptor (TX6 k).2.2.1 = some (tyX6 k) := by decide +kernel
def RX7 : String := "SignTurn$Rules"
def TX7 : u_T := fun k => match k with
  | 0 => ("SignTurn$Rules", "moor", "LSignTurn$Moor;", true)
  | 1 => ("SignTurn$Rules", "known", "[I", true)
  | 2 => ("SignTurn$Rules", "knownFogs", "I", false)
  | 3 => ("SignTurn$Rules", "stack", "[I", true)
  | 4 => ("SignTurn$Rules", "fog", "I", false)
  | 5 => ("SignTurn$Rules", "p", "I", false)
  | 6 => ("SignTurn$Rules", "arm", "I", false)
  | _ => ("SignTurn$Rules", "roads", "I", false)
def tyX7 : Nat → FieldType := fun k => match k with
  | 0 => .object "SignTurn$Moor"
  | 1 => .array .int
  | 2 => .int
  | 3 => .array .int
  | 4 => .int
  | 5 => .int
  | 6 => .int
  | _ => .int
abbrev wsX70 : List Cond := u_ws RX7 TX7 8
theorem nmX7 : ∀ a, a < 8 → ∀ b, b < 8 → a ≠ b → (TX7 a).2.1 ≠ (TX7 b).2.1 := by decide +kernel
theorem tyX7_ok : ∀ k, k < 8 → parseFieldDescriptor (TX7 k).2.2.1 = some (tyX7 k) := by decide +kernel
def RX8 : String := "SignTurn$Search"
def TX8 : u_T := fun k => match k with
  | 0 => ("SignTurn$Search", "moor", "LSignTurn$Moor;", true)
  | 1 => ("SignTurn$Search", "rules", "LSignTurn$Rules;", true)
  | 2 => ("SignTurn$Search", "path", "[I", true)
  | 3 => ("SignTurn$Search", "seen", "[I", true)
  | 4 => ("SignTurn$Search", "queue", "[I", true)
  | 5 => ("SignTurn$Search", "homingSets", "I", false)
  | 6 => ("SignTurn$Search", "fewest", "I", false)
  | 7 => ("SignTurn$Search", "fewestArms", "I", false)
  | 8 => ("SignTurn$Search", "most", "I", false)
  | 9 => ("SignTurn$Search", "turned", "I", false)
  | 10 => ("SignTurn$Search", "walked", "I", false)
  | 11 => ("SignTurn$Search", "head", "I", false)
  | 12 => ("SignTurn$Search", "tail", "I", false)
  | 13 => ("SignTurn$Search", "turnedHead", "I", false)
  | _ => ("SignTurn$Search", "turnedTail", "I", false)
def tyX8 : Nat → FieldType := fun k => match k with
  | 0 => .object "SignTurn$Moor"
  | 1 => .object "SignTurn$Rules"
  | 2 => .array .int
  | 3 => .array .int
  | 4 => .array .int
  | 5 => .int
  | 6 => .int
  | 7 => .int
  | 8 => .int
  | 9 => .int
  | 10 => .int
  | 11 => .int
  | 12 => .int
  | 13 => .int
  | _ => .int
abbrev wsX80 : List Cond := u_ws RX8 TX8 15
theorem nmX8 : ∀ a, a < 15 → ∀ b, b < 15 → a ≠ b → (TX8 a).2.1 ≠ (TX8 b).2.1 := by decide +kernel
theorem tyX8_ok : ∀ k, k < 15 → parseFieldDescriptor (TX8 k).2.2.1 = some (tyX8 k) := by decide +kernel
def RX9 : String := "SignTurn$Stand"
def TX9 : u_T := fun k => match k with
  | 0 => ("SignTurn$Stand", "walker", "I", false)
  | 1 => ("SignTurn$Stand", "arms", "I", false)
  | 2 => ("SignTurn$Stand", "fog", "I", false)
  | _ => ("SignTurn$Stand", "steps", "I", false)
def tyX9 : Nat → FieldType := fun k => match k with
  | 0 => .int
  | 1 => .int
  | 2 => .int
  | _ => .int
abbrev wsX90 : List Cond := u_ws RX9 TX9 4
theorem nmX9 : ∀ a, a < 4 → ∀ b, b < 4 → a ≠ b → (TX9 a).2.1 ≠ (TX9 b).2.1 := by decide +kernel
theorem tyX9_ok : ∀ k, k < 4 → parseFieldDescriptor (TX9 k).2.2.1 = some (tyX9 k) := by decide +kernel
def RX10 : String := "SignTurn$Tray"
def TX10 : u_T := fun k => match k with
  | 0 => ("SignTurn$Tray", "missing", "Z", false)
  | 1 => ("SignTurn$Tray", "sort", "I", false)
  | 2 => ("SignTurn$Tray", "size", "I", false)
  | _ => ("SignTurn$Tray", "values", "[J", true)
def tyX10 : Nat → FieldType := fun k => match k with
  | 0 => .boolean
  | 1 => .int
  | 2 => .int
  | _ => .array .long
abbrev wsX100 : List Cond := u_ws RX10 TX10 4
theorem nmX10 : ∀ a, a < 4 → ∀ b, b < 4 → a ≠ b → (TX10 a).2.1 ≠ (TX10 b).2.1 := by decide +kernel
theorem tyX10_ok : ∀ k, k < 4 → parseFieldDescriptor (TX10 k).2.2.1 = some (tyX10 k) := by decide +kernel
def RX11 : String := "SignTurn"
def TX11 : u_T := fun k => match k with
  | 0 => ("SignTurn", "moor", "LSignTurn$Moor;", true)
  | 1 => ("SignTurn", "draft", "LSignTurn$Moor;", true)
  | 2 => ("SignTurn", "reader", "LSignTurn$Reader;", true)
  | 3 => ("SignTurn", "now", "LSignTurn$Stand;", true)
  | 4 => ("SignTurn", "rules", "LSignTurn$Rules;", true)
  | 5 => ("SignTurn", "deeds", "LSignTurn$Deeds;", true)
  | 6 => ("SignTurn", "going", "LSignTurn$Going;", true)
  | 7 => ("SignTurn", "search", "LSignTurn$Search;", true)
  | 8 => ("SignTurn", "prints", "LSignTurn$Prints;", true)
  | 9 => ("SignTurn", "game", "LSignTurn$Game;", true)
  | 10 => ("SignTurn", "odds", "LSignTurn$Odds;", true)
  | 11 => ("SignTurn", "trays", "[LSignTurn$Tray;", true)
  | 12 => ("SignTurn", "imageMoors", "[LSignTurn$Moor;", true)
  | _ => ("SignTurn", "imageStands", "[LSignTurn$Stand;", true)
def tyX11 : Nat → FieldType := fun k => match k with
  | 0 => .object "SignTurn$Moor"
  | 1 => .object "SignTurn$Moor"
  | 2 => .object "SignTurn$Reader"
  | 3 => .object "SignTurn$Stand"
  | 4 => .object "SignTurn$Rules"
  | 5 => .object "SignTurn$Deeds"
  | 6 => .object "SignTurn$Going"
  | 7 => .object "SignTurn$Search"
  | 8 => .object "SignTurn$Prints"
  | 9 => .object "SignTurn$Game"
  | 10 => .object "SignTurn$Odds"
  | 11 => .array (.object "SignTurn$Tray")
  | 12 => .array (.object "SignTurn$Moor")
  | _ => .array (.object "SignTurn$Stand")
abbrev wsX110 : List Cond := u_ws RX11 TX11 14
theorem nmX11 : ∀ a, a < 14 → ∀ b, b < 14 → a ≠ b → (TX11 a).2.1 ≠ (TX11 b).2.1 := by decide +kernel
theorem tyX11_ok : ∀ k, k < 14 → parseFieldDescriptor (TX11 k).2.2.1 = some (tyX11 k) := by decide +kernel
def RX12 : String := "SignTurnModel"
def TX12 : u_T := fun k => match k with
  | 0 => ("SignTurnModel", "thrown", "I", false)
  | 1 => ("SignTurnModel", "all", "[I", true)
  | 2 => ("SignTurnModel", "hasImage", "[Z", true)
  | 3 => ("SignTurnModel", "tape", "[I", true)
  | 4 => ("SignTurnModel", "fresh", "[I", true)
  | 5 => ("SignTurnModel", "taped", "I", false)
  | 6 => ("SignTurnModel", "at", "I", false)
  | 7 => ("SignTurnModel", "behind", "I", false)
  | 8 => ("SignTurnModel", "size", "I", false)
  | 9 => ("SignTurnModel", "kind", "I", false)
  | 10 => ("SignTurnModel", "number", "I", false)
  | 11 => ("SignTurnModel", "wrong", "I", false)
  | 12 => ("SignTurnModel", "wrongAt", "I", false)
  | 13 => ("SignTurnModel", "faultKind", "I", false)
  | 14 => ("SignTurnModel", "faultPlace", "I", false)
  | 15 => ("SignTurnModel", "reckoned", "[I", true)
  | 16 => ("SignTurnModel", "words", "[I", true)
  | 17 => ("SignTurnModel", "was", "[I", true)
  | 18 => ("SignTurnModel", "toldWhy", "I", false)
  | 19 => ("SignTurnModel", "x", "I", false)
  | 20 => ("SignTurnModel", "line", "[I", true)
  | 21 => ("SignTurnModel", "placeIn", "[I", true)
  | 22 => ("SignTurnModel", "lineMany", "I", false)
  | 23 => ("SignTurnModel", "tail", "I", false)
  | 24 => ("SignTurnModel", "cost", "[I", true)
  | 25 => ("SignTurnModel", "filled", "[I", true)
  | 26 => ("SignTurnModel", "filledMany", "I", false)
  | 27 => ("SignTurnModel", "filledSteps", "I", false)
  | 28 => ("SignTurnModel", "often", "[I", true)
  | 29 => ("SignTurnModel", "can", "[Z", true)
  | 30 => ("SignTurnModel", "canThen", "[Z", true)
  | 31 => ("SignTurnModel", "leading", "[I", true)
  | 32 => ("SignTurnModel", "above", "[J", true)
  | 33 => ("SignTurnModel", "below", "[J", true)
  | 34 => ("SignTurnModel", "isAsked", "[Z", true)
  | 35 => ("SignTurnModel", "far", "[I", true)
  | 36 => ("SignTurnModel", "farOther", "[I", true)
  | 37 => ("SignTurnModel", "rowSort", "[I", true)
  | 38 => ("SignTurnModel", "rowMany", "[I", true)
  | _ => ("SignTurnModel", "numbers", "[J", true)
def tyX12 : Nat → FieldType := fun k => match k with
  | 0 => .int
  | 1 => .array .int
  | 2 => .array .boolean
  | 3 => .array .int
  | 4 => .array .int
  | 5 => .int
  | 6 => .int
  | 7 => .int
  | 8 => .int
  | 9 => .int
  | 10 => .int
  | 11 => .int
  | 12 => .int
  | 13 => .int
  | 14 => .int
  | 15 => .array .int
  | 16 => .array .int
  | 17 => .array .int
  | 18 => .int
  | 19 => .int
  | 20 => .array .int
  | 21 => .array .int
  | 22 => .int
  | 23 => .int
  | 24 => .array .int
  | 25 => .array .int
  | 26 => .int
  | 27 => .int
  | 28 => .array .int
  | 29 => .array .boolean
  | 30 => .array .boolean
  | 31 => .array .int
  | 32 => .array .long
  | 33 => .array .long
  | 34 => .array .boolean
  | 35 => .array .int
  | 36 => .array .int
  | 37 => .array .int
  | 38 => .array .int
  | _ => .array .long
abbrev wsX120 : List Cond := u_ws RX12 TX12 40
theorem nmX12 : ∀ a, a < 40 → ∀ b, b < 40 → a ≠ b → (TX12 a).2.1 ≠ (TX12 b).2.1 := by decide +kernel
theorem tyX12_ok : ∀ k, k < 40 → parseFieldDescriptor (TX12 k).2.2.1 = some (tyX12 k) := by decide +kernel
def RJ11 : String := "java/lang/Character"
def RJ9 : String := "java/lang/Math"
def RJ0 : String := "java/lang/String"
def RJ1 : String := "java/lang/StringLatin1"
def RJ2 : String := "java/lang/StringUTF16"
def RJ10 : String := "java/lang/System"
def RJ7 : String := "java/util/Arrays"
def RJ3 : String := "jdk/internal/util/Preconditions"
def RL : String := "SignTurnLaw"
abbrev cX0_init : ByteArray := prog_2_method_1_code
def yX0_init : MethodName := ⟨RX0, "<init>", "(LSignTurn$Moor;LSignTurn$Rules;LSignTurn$Stand;)V"⟩
abbrev cX0_begin : ByteArray := prog_2_method_2_code
def yX0_begin : MethodName := ⟨RX0, "begin", "()V"⟩
abbrev cX0_end : ByteArray := prog_2_method_3_code
def yX0_end : MethodName := ⟨RX0, "end", "(I)V"⟩
abbrev cX0_takeBack : ByteArray := prog_2_method_4_code
def yX0_takeBack : MethodName := ⟨RX0, "takeBack", "(I)V"⟩
abbrev cX0_goOn : ByteArray := prog_2_method_5_code
def yX0_goOn : MethodName := ⟨RX0, "goOn", "(LSignTurn$Stand;)I"⟩
abbrev cX0_turnArm : ByteArray := prog_2_method_6_code
def yX0_turnArm : MethodName := ⟨RX0, "turnArm", "(LSignTurn$Stand;II)I"⟩
abbrev cX0_setOut : ByteArray := prog_2_method_7_code
def yX0_setOut : MethodName := ⟨RX0, "setOut", "(LSignTurn$Stand;I)I"⟩
abbrev cX0_befog : ByteArray := prog_2_method_8_code
def yX0_befog : MethodName := ⟨RX0, "befog", "(LSignTurn$Stand;I)I"⟩
abbrev cX0_doOne : ByteArray := prog_2_method_9_code
def yX0_doOne : MethodName := ⟨RX0, "doOne", "(LSignTurn$Stand;J)I"⟩
abbrev cX0_doAll : ByteArray := prog_2_method_10_code
def yX0_doAll : MethodName := ⟨RX0, "doAll", "(LSignTurn$Stand;LSignTurn$Tray;)I"⟩
abbrev cX0_liveYear : ByteArray := prog_2_method_11_code
def yX0_liveYear : MethodName := ⟨RX0, "liveYear", "(LSignTurn$Stand;II)I"⟩
abbrev cX0_drawDeed : ByteArray := prog_2_method_12_code
def yX0_drawDeed : MethodName := ⟨RX0, "drawDeed", "()I"⟩
abbrev cX0_draw : ByteArray := prog_2_method_13_code
def yX0_draw : MethodName := ⟨RX0, "draw", "(I)I"⟩
abbrev cX1_init : ByteArray := prog_3_method_1_code
def yX1_init : MethodName := ⟨RX1, "<init>", "(LSignTurn$Moor;)V"⟩
abbrev cX1_countTrees : ByteArray := prog_3_method_2_code
def yX1_countTrees : MethodName := ⟨RX1, "countTrees", "(I)I"⟩
abbrev cX1_allLeadTo : ByteArray := prog_3_method_3_code
def yX1_allLeadTo : MethodName := ⟨RX1, "allLeadTo", "(II)Z"⟩
abbrev cX1_force : ByteArray := prog_3_method_4_code
def yX1_force : MethodName := ⟨RX1, "force", "(II)I"⟩
abbrev cX1_forcingRoad : ByteArray := prog_3_method_5_code
def yX1_forcingRoad : MethodName := ⟨RX1, "forcingRoad", "(II)I"⟩
abbrev cX1_canLead : ByteArray := prog_3_method_6_code
def yX1_canLead : MethodName := ⟨RX1, "canLead", "(I)I"⟩
abbrev cX1_mustLead : ByteArray := prog_3_method_7_code
def yX1_mustLead : MethodName := ⟨RX1, "mustLead", "(I)I"⟩
abbrev cX1_roadsInto : ByteArray := prog_3_method_8_code
def yX1_roadsInto : MethodName := ⟨RX1, "roadsInto", "(II)I"⟩
abbrev cX2_init : ByteArray := prog_4_method_1_code
def yX2_init : MethodName := ⟨RX2, "<init>", "(LSignTurn$Moor;LSignTurn$Rules;[I[I)V"⟩
abbrev cX2_walk : ByteArray := prog_4_method_2_code
def yX2_walk : MethodName := ⟨RX2, "walk", "(II)V"⟩
abbrev cX2_standBehind : ByteArray := prog_4_method_3_code
def yX2_standBehind : MethodName := ⟨RX2, "standBehind", "(J)I"⟩
abbrev cX2_visitsTo : ByteArray := prog_4_method_4_code
def yX2_visitsTo : MethodName := ⟨RX2, "visitsTo", "(IJ)J"⟩
abbrev cX2_timesAt : ByteArray := prog_4_method_5_code
def yX2_timesAt : MethodName := ⟨RX2, "timesAt", "(IJ)J"⟩
abbrev cX2_firstAt : ByteArray := prog_4_method_6_code
def yX2_firstAt : MethodName := ⟨RX2, "firstAt", "(I)I"⟩
abbrev cX2_fill : ByteArray := prog_4_method_7_code
def yX2_fill : MethodName := ⟨RX2, "fill", "(LSignTurn$Stand;I)V"⟩
abbrev cX2_stepsOut : ByteArray := prog_4_method_8_code
def yX2_stepsOut : MethodName := ⟨RX2, "stepsOut", "(III)I"⟩
abbrev cX2_standAfter : ByteArray := prog_4_method_9_code
def yX2_standAfter : MethodName := ⟨RX2, "standAfter", "(III)I"⟩
abbrev cX2_countHits : ByteArray := prog_4_method_10_code
def yX2_countHits : MethodName := ⟨RX2, "countHits", "(LSignTurn$Stand;III)I"⟩
abbrev cX3_init : ByteArray := prog_5_method_1_code
def yX3_init : MethodName := ⟨RX3, "<init>", "()V"⟩
abbrev cX3_clear : ByteArray := prog_5_method_2_code
def yX3_clear : MethodName := ⟨RX3, "clear", "()V"⟩
abbrev cX3_copy : ByteArray := prog_5_method_3_code
def yX3_copy : MethodName := ⟨RX3, "copy", "(LSignTurn$Moor;)V"⟩
abbrev cX3_has : ByteArray := prog_5_method_4_code
def yX3_has : MethodName := ⟨RX3, "has", "(I)Z"⟩
abbrev cX3_roadsOf : ByteArray := prog_5_method_5_code
def yX3_roadsOf : MethodName := ⟨RX3, "roadsOf", "(I)I"⟩
abbrev cX3_leadsTo : ByteArray := prog_5_method_6_code
def yX3_leadsTo : MethodName := ⟨RX3, "leadsTo", "(II)I"⟩
abbrev cX3_isHome : ByteArray := prog_5_method_7_code
def yX3_isHome : MethodName := ⟨RX3, "isHome", "(I)Z"⟩
abbrev cX3_restsAt : ByteArray := prog_5_method_8_code
def yX3_restsAt : MethodName := ⟨RX3, "restsAt", "(I)Z"⟩
abbrev cX3_allRoads : ByteArray := prog_5_method_9_code
def yX3_allRoads : MethodName := ⟨RX3, "allRoads", "()I"⟩
abbrev cX3_addRoad : ByteArray := prog_5_method_10_code
def yX3_addRoad : MethodName := ⟨RX3, "addRoad", "(II)V"⟩
abbrev cX3_armLimit : ByteArray := prog_5_method_11_code
def yX3_armLimit : MethodName := ⟨RX3, "armLimit", "()I"⟩
abbrev cX3_canShow : ByteArray := prog_5_method_12_code
def yX3_canShow : MethodName := ⟨RX3, "canShow", "(I)Z"⟩
abbrev cX3_restingPosts : ByteArray := prog_5_method_13_code
def yX3_restingPosts : MethodName := ⟨RX3, "restingPosts", "()I"⟩
abbrev cX4_init : ByteArray := prog_6_method_1_code
def yX4_init : MethodName := ⟨RX4, "<init>", "(LSignTurn$Moor;)V"⟩
abbrev cX4_comesTo : ByteArray := prog_6_method_2_code
def yX4_comesTo : MethodName := ⟨RX4, "comesTo", "(III)V"⟩
abbrev cX4_lasts : ByteArray := prog_6_method_3_code
def yX4_lasts : MethodName := ⟨RX4, "lasts", "(I)Z"⟩
abbrev cX4_allPosts : ByteArray := prog_6_method_4_code
def yX4_allPosts : MethodName := ⟨RX4, "allPosts", "()I"⟩
abbrev cX4_leadInto : ByteArray := prog_6_method_5_code
def yX4_leadInto : MethodName := ⟨RX4, "leadInto", "(II)I"⟩
abbrev cX4_comeFrom : ByteArray := prog_6_method_6_code
def yX4_comeFrom : MethodName := ⟨RX4, "comeFrom", "(I)I"⟩
abbrev cX4_roadsTo : ByteArray := prog_6_method_7_code
def yX4_roadsTo : MethodName := ⟨RX4, "roadsTo", "(II)I"⟩
abbrev cX4_number : ByteArray := prog_6_method_8_code
def yX4_number : MethodName := ⟨RX4, "number", "(I)V"⟩
abbrev cX4_layRow : ByteArray := prog_6_method_9_code
def yX4_layRow : MethodName := ⟨RX4, "layRow", "(III)V"⟩
abbrev cX4_cell : ByteArray := prog_6_method_10_code
def yX4_cell : MethodName := ⟨RX4, "cell", "(II)J"⟩
abbrev cX4_put : ByteArray := prog_6_method_11_code
def yX4_put : MethodName := ⟨RX4, "put", "(IIJ)V"⟩
abbrev cX4_solve : ByteArray := prog_6_method_12_code
def yX4_solve : MethodName := ⟨RX4, "solve", "()V"⟩
abbrev cX4_clearColumn : ByteArray := prog_6_method_13_code
def yX4_clearColumn : MethodName := ⟨RX4, "clearColumn", "(IIJJ)V"⟩
abbrev cX4_answerFor : ByteArray := prog_6_method_14_code
def yX4_answerFor : MethodName := ⟨RX4, "answerFor", "(I)V"⟩
abbrev cX4_answer : ByteArray := prog_6_method_15_code
def yX4_answer : MethodName := ⟨RX4, "answer", "(JJ)V"⟩
abbrev cX4_commonDivisor : ByteArray := prog_6_method_16_code
def yX4_commonDivisor : MethodName := ⟨RX4, "commonDivisor", "(JJ)J"⟩
abbrev cX5_init : ByteArray := prog_7_method_1_code
def yX5_init : MethodName := ⟨RX5, "<init>", "(LSignTurn$Moor;LSignTurn$Rules;)V"⟩
abbrev cX5_fits : ByteArray := prog_7_method_2_code
def yX5_fits : MethodName := ⟨RX5, "fits", "(IILSignTurn$Tray;)Z"⟩
abbrev cX5_tally : ByteArray := prog_7_method_3_code
def yX5_tally : MethodName := ⟨RX5, "tally", "(LSignTurn$Stand;LSignTurn$Tray;)V"⟩
abbrev cX5_shownBy : ByteArray := prog_7_method_4_code
def yX5_shownBy : MethodName := ⟨RX5, "shownBy", "(I)I"⟩
abbrev cX5_timesShown : ByteArray := prog_7_method_5_code
def yX5_timesShown : MethodName := ⟨RX5, "timesShown", "(II)I"⟩
abbrev cX5_mostTelling : ByteArray := prog_7_method_6_code
def yX5_mostTelling : MethodName := ⟨RX5, "mostTelling", "()I"⟩
abbrev cX6_init : ByteArray := prog_8_method_1_code
def yX6_init : MethodName := ⟨RX6, "<init>", "(LSignTurn$Moor;)V"⟩
abbrev cX6_append : ByteArray := prog_8_method_2_code
def yX6_append : MethodName := ⟨RX6, "append", "(I)V"⟩
abbrev cX6_read : ByteArray := prog_8_method_3_code
def yX6_read : MethodName := ⟨RX6, "read", "(I)V"⟩
abbrev cX6_readHead : ByteArray := prog_8_method_4_code
def yX6_readHead : MethodName := ⟨RX6, "readHead", "()Z"⟩
abbrev cX6_readLine : ByteArray := prog_8_method_5_code
def yX6_readLine : MethodName := ⟨RX6, "readLine", "()Z"⟩
abbrev cX6_endLine : ByteArray := prog_8_method_6_code
def yX6_endLine : MethodName := ⟨RX6, "endLine", "()Z"⟩
abbrev cX6_readRoad : ByteArray := prog_8_method_7_code
def yX6_readRoad : MethodName := ⟨RX6, "readRoad", "()Z"⟩
abbrev cX6_readArm : ByteArray := prog_8_method_8_code
def yX6_readArm : MethodName := ⟨RX6, "readArm", "()Z"⟩
abbrev cX6_readHome : ByteArray := prog_8_method_9_code
def yX6_readHome : MethodName := ⟨RX6, "readHome", "()Z"⟩
abbrev cX6_readWalker : ByteArray := prog_8_method_10_code
def yX6_readWalker : MethodName := ⟨RX6, "readWalker", "()Z"⟩
abbrev cX6_readFog : ByteArray := prog_8_method_11_code
def yX6_readFog : MethodName := ⟨RX6, "readFog", "()Z"⟩
abbrev cX6_readTurns : ByteArray := prog_8_method_12_code
def yX6_readTurns : MethodName := ⟨RX6, "readTurns", "()Z"⟩
abbrev cX6_readSticks : ByteArray := prog_8_method_13_code
def yX6_readSticks : MethodName := ⟨RX6, "readSticks", "()Z"⟩
abbrev cX6_readSum : ByteArray := prog_8_method_14_code
def yX6_readSum : MethodName := ⟨RX6, "readSum", "(I)Z"⟩
abbrev cX6_readTerm : ByteArray := prog_8_method_15_code
def yX6_readTerm : MethodName := ⟨RX6, "readTerm", "(I)Z"⟩
abbrev cX6_readAtom : ByteArray := prog_8_method_16_code
def yX6_readAtom : MethodName := ⟨RX6, "readAtom", "(I)Z"⟩
abbrev cX6_leafHere : ByteArray := prog_8_method_17_code
def yX6_leafHere : MethodName := ⟨RX6, "leafHere", "()I"⟩
abbrev cX6_readTruth : ByteArray := prog_8_method_18_code
def yX6_readTruth : MethodName := ⟨RX6, "readTruth", "(I)Z"⟩
abbrev cX6_readBoth : ByteArray := prog_8_method_19_code
def yX6_readBoth : MethodName := ⟨RX6, "readBoth", "(I)Z"⟩
abbrev cX6_readUnit : ByteArray := prog_8_method_20_code
def yX6_readUnit : MethodName := ⟨RX6, "readUnit", "(I)Z"⟩
abbrev cX6_readComparison : ByteArray := prog_8_method_21_code
def yX6_readComparison : MethodName := ⟨RX6, "readComparison", "(I)Z"⟩
abbrev cX6_open : ByteArray := prog_8_method_22_code
def yX6_open : MethodName := ⟨RX6, "open", "(I)Z"⟩
abbrev cX6_emit : ByteArray := prog_8_method_23_code
def yX6_emit : MethodName := ⟨RX6, "emit", "(I)Z"⟩
abbrev cX6_take : ByteArray := prog_8_method_24_code
def yX6_take : MethodName := ⟨RX6, "take", "(Ljava/lang/String;)Z"⟩
abbrev cX6_takePost : ByteArray := prog_8_method_25_code
def yX6_takePost : MethodName := ⟨RX6, "takePost", "()I"⟩
abbrev cX6_takeNumber : ByteArray := prog_8_method_26_code
def yX6_takeNumber : MethodName := ⟨RX6, "takeNumber", "(II)I"⟩
abbrev cX6_wrong : ByteArray := prog_8_method_27_code
def yX6_wrong : MethodName := ⟨RX6, "wrong", "(I)Z"⟩
abbrev cX6_is : ByteArray := prog_8_method_28_code
def yX6_is : MethodName := ⟨RX6, "is", "(Ljava/lang/String;)Z"⟩
abbrev cX6_advance : ByteArray := prog_8_method_29_code
def yX6_advance : MethodName := ⟨RX6, "advance", "()V"⟩
abbrev cX7_init : ByteArray := prog_9_method_1_code
def yX7_init : MethodName := ⟨RX7, "<init>", "(LSignTurn$Moor;)V"⟩
abbrev cX7_forget : ByteArray := prog_9_method_2_code
def yX7_forget : MethodName := ⟨RX7, "forget", "()V"⟩
abbrev cX7_prepare : ByteArray := prog_9_method_3_code
def yX7_prepare : MethodName := ⟨RX7, "prepare", "(I)V"⟩
abbrev cX7_behind : ByteArray := prog_9_method_4_code
def yX7_behind : MethodName := ⟨RX7, "behind", "(III)I"⟩
abbrev cX7_nextStand : ByteArray := prog_9_method_5_code
def yX7_nextStand : MethodName := ⟨RX7, "nextStand", "(II)I"⟩
abbrev cX7_workOut : ByteArray := prog_9_method_6_code
def yX7_workOut : MethodName := ⟨RX7, "workOut", "()I"⟩
abbrev cX7_valueOf : ByteArray := prog_9_method_7_code
def yX7_valueOf : MethodName := ⟨RX7, "valueOf", "(II)I"⟩
abbrev cX7_leafValue : ByteArray := prog_9_method_8_code
def yX7_leafValue : MethodName := ⟨RX7, "leafValue", "(I)I"⟩
abbrev cX7_joined : ByteArray := prog_9_method_9_code
def yX7_joined : MethodName := ⟨RX7, "joined", "(IJJ)I"⟩
abbrev cX8_init : ByteArray := prog_10_method_1_code
def yX8_init : MethodName := ⟨RX8, "<init>", "(LSignTurn$Moor;LSignTurn$Rules;[I[I)V"⟩
abbrev cX8_clearSeen : ByteArray := prog_10_method_2_code
def yX8_clearSeen : MethodName := ⟨RX8, "clearSeen", "(I)V"⟩
abbrev cX8_home : ByteArray := prog_10_method_3_code
def yX8_home : MethodName := ⟨RX8, "home", "(LSignTurn$Stand;)V"⟩
abbrev cX8_stepsHome : ByteArray := prog_10_method_4_code
def yX8_stepsHome : MethodName := ⟨RX8, "stepsHome", "(II)I"⟩
abbrev cX8_reachByHand : ByteArray := prog_10_method_5_code
def yX8_reachByHand : MethodName := ⟨RX8, "reachByHand", "(III)Z"⟩
abbrev cX8_reachTurned : ByteArray := prog_10_method_6_code
def yX8_reachTurned : MethodName := ⟨RX8, "reachTurned", "(II)Z"⟩
abbrev cX8_takeNearest : ByteArray := prog_10_method_7_code
def yX8_takeNearest : MethodName := ⟨RX8, "takeNearest", "(I)I"⟩
abbrev cX8_goOnFrom : ByteArray := prog_10_method_8_code
def yX8_goOnFrom : MethodName := ⟨RX8, "goOnFrom", "(II)V"⟩
abbrev cX8_countAhead : ByteArray := prog_10_method_9_code
def yX8_countAhead : MethodName := ⟨RX8, "countAhead", "(III)I"⟩
abbrev cX8_postsAhead : ByteArray := prog_10_method_10_code
def yX8_postsAhead : MethodName := ⟨RX8, "postsAhead", "(II)I"⟩
abbrev cX8_addAhead : ByteArray := prog_10_method_11_code
def yX8_addAhead : MethodName := ⟨RX8, "addAhead", "(II[II)I"⟩
abbrev cX8_countAgain : ByteArray := prog_10_method_12_code
def yX8_countAgain : MethodName := ⟨RX8, "countAgain", "(I)I"⟩
abbrev cX9_init : ByteArray := prog_11_method_1_code
def yX9_init : MethodName := ⟨RX9, "<init>", "()V"⟩
abbrev cX9_copy : ByteArray := prog_11_method_2_code
def yX9_copy : MethodName := ⟨RX9, "copy", "(LSignTurn$Stand;)V"⟩
abbrev cX9_clear : ByteArray := prog_11_method_3_code
def yX9_clear : MethodName := ⟨RX9, "clear", "()V"⟩
abbrev cX9_code : ByteArray := prog_11_method_4_code
def yX9_code : MethodName := ⟨RX9, "code", "()I"⟩
abbrev cX10_init : ByteArray := prog_12_method_1_code
def yX10_init : MethodName := ⟨RX10, "<init>", "()V"⟩
abbrev cX10_lay : ByteArray := prog_12_method_2_code
def yX10_lay : MethodName := ⟨RX10, "lay", "(II)V"⟩
abbrev cX10_value : ByteArray := prog_12_method_3_code
def yX10_value : MethodName := ⟨RX10, "value", "(I)J"⟩
abbrev cX10_put : ByteArray := prog_12_method_4_code
def yX10_put : MethodName := ⟨RX10, "put", "(IJ)V"⟩
abbrev cX10_cut : ByteArray := prog_12_method_5_code
def yX10_cut : MethodName := ⟨RX10, "cut", "(J)J"⟩
abbrev cX11_init : ByteArray := prog_1_method_1_code
def yX11_init : MethodName := ⟨RX11, "<init>", "()V"⟩
abbrev cX11_feed : ByteArray := prog_1_method_2_code
def yX11_feed : MethodName := ⟨RX11, "feed", "(IIIII)I"⟩
abbrev cX11_moor : ByteArray := prog_1_method_3_code
def yX11_moor : MethodName := ⟨RX11, "moor", "(I)I"⟩
abbrev cX11_fault : ByteArray := prog_1_method_4_code
def yX11_fault : MethodName := ⟨RX11, "fault", "(I)I"⟩
abbrev cX11_post : ByteArray := prog_1_method_5_code
def yX11_post : MethodName := ⟨RX11, "post", "(II)I"⟩
abbrev cX11_by : ByteArray := prog_1_method_6_code
def yX11_by : MethodName := ⟨RX11, "by", "(II)I"⟩
abbrev cX11_step : ByteArray := prog_1_method_7_code
def yX11_step : MethodName := ⟨RX11, "step", "()I"⟩
abbrev cX11_steps : ByteArray := prog_1_method_8_code
def yX11_steps : MethodName := ⟨RX11, "steps", "(I)I"⟩
abbrev cX11_turn : ByteArray := prog_1_method_9_code
def yX11_turn : MethodName := ⟨RX11, "turn", "(II)I"⟩
abbrev cX11_setsOut : ByteArray := prog_1_method_10_code
def yX11_setsOut : MethodName := ⟨RX11, "setsOut", "(I)I"⟩
abbrev cX11_fog : ByteArray := prog_1_method_11_code
def yX11_fog : MethodName := ⟨RX11, "fog", "(I)I"⟩
abbrev cX11_undo : ByteArray := prog_1_method_12_code
def yX11_undo : MethodName := ⟨RX11, "undo", "(I)I"⟩
abbrev cX11_judge : ByteArray := prog_1_method_13_code
def yX11_judge : MethodName := ⟨RX11, "judge", "(II)I"⟩
abbrev cX11_perform : ByteArray := prog_1_method_14_code
def yX11_perform : MethodName := ⟨RX11, "perform", "(I)I"⟩
abbrev cX11_year : ByteArray := prog_1_method_15_code
def yX11_year : MethodName := ⟨RX11, "year", "(II)I"⟩
abbrev cX11_at : ByteArray := prog_1_method_16_code
def yX11_at : MethodName := ⟨RX11, "at", "(J)I"⟩
abbrev cX11_arms : ByteArray := prog_1_method_17_code
def yX11_arms : MethodName := ⟨RX11, "arms", "(J)I"⟩
abbrev cX11_visits : ByteArray := prog_1_method_18_code
def yX11_visits : MethodName := ⟨RX11, "visits", "(IJ)J"⟩
abbrev cX11_round : ByteArray := prog_1_method_19_code
def yX11_round : MethodName := ⟨RX11, "round", "(I)I"⟩
abbrev cX11_first : ByteArray := prog_1_method_20_code
def yX11_first : MethodName := ⟨RX11, "first", "(I)I"⟩
abbrev cX11_rests : ByteArray := prog_1_method_21_code
def yX11_rests : MethodName := ⟨RX11, "rests", "()I"⟩
abbrev cX11_homing : ByteArray := prog_1_method_22_code
def yX11_homing : MethodName := ⟨RX11, "homing", "(I)I"⟩
abbrev cX11_hands : ByteArray := prog_1_method_23_code
def yX11_hands : MethodName := ⟨RX11, "hands", "(II)I"⟩
abbrev cX11_fills : ByteArray := prog_1_method_24_code
def yX11_fills : MethodName := ⟨RX11, "fills", "(II)I"⟩
abbrev cX11_filling : ByteArray := prog_1_method_25_code
def yX11_filling : MethodName := ⟨RX11, "filling", "(I)I"⟩
abbrev cX11_footprints : ByteArray := prog_1_method_26_code
def yX11_footprints : MethodName := ⟨RX11, "footprints", "(I)I"⟩
abbrev cX11_shown : ByteArray := prog_1_method_27_code
def yX11_shown : MethodName := ⟨RX11, "shown", "(II)I"⟩
abbrev cX11_look : ByteArray := prog_1_method_28_code
def yX11_look : MethodName := ⟨RX11, "look", "(I)I"⟩
abbrev cX11_fogs : ByteArray := prog_1_method_29_code
def yX11_fogs : MethodName := ⟨RX11, "fogs", "(I)I"⟩
abbrev cX11_ahead : ByteArray := prog_1_method_30_code
def yX11_ahead : MethodName := ⟨RX11, "ahead", "(I)I"⟩
abbrev cX11_from : ByteArray := prog_1_method_31_code
def yX11_from : MethodName := ⟨RX11, "from", "()I"⟩
abbrev cX11_again : ByteArray := prog_1_method_32_code
def yX11_again : MethodName := ⟨RX11, "again", "()I"⟩
abbrev cX11_trees : ByteArray := prog_1_method_33_code
def yX11_trees : MethodName := ⟨RX11, "trees", "(I)I"⟩
abbrev cX11_chance : ByteArray := prog_1_method_34_code
def yX11_chance : MethodName := ⟨RX11, "chance", "(III)J"⟩
abbrev cX11_mean : ByteArray := prog_1_method_35_code
def yX11_mean : MethodName := ⟨RX11, "mean", "(I)J"⟩
abbrev cX11_score : ByteArray := prog_1_method_36_code
def yX11_score : MethodName := ⟨RX11, "score", "(III)I"⟩
abbrev cX11_forces : ByteArray := prog_1_method_37_code
def yX11_forces : MethodName := ⟨RX11, "forces", "(I)I"⟩
abbrev cX11_best : ByteArray := prog_1_method_38_code
def yX11_best : MethodName := ⟨RX11, "best", "(I)I"⟩
abbrev cX11_numbers : ByteArray := prog_1_method_39_code
def yX11_numbers : MethodName := ⟨RX11, "numbers", "(III)I"⟩
abbrev cX11_write : ByteArray := prog_1_method_40_code
def yX11_write : MethodName := ⟨RX11, "write", "(IIJ)J"⟩
abbrev cX11_lists : ByteArray := prog_1_method_41_code
def yX11_lists : MethodName := ⟨RX11, "lists", "(I)I"⟩
abbrev cX11_image : ByteArray := prog_1_method_42_code
def yX11_image : MethodName := ⟨RX11, "image", "(I)I"⟩
abbrev cX11_restore : ByteArray := prog_1_method_43_code
def yX11_restore : MethodName := ⟨RX11, "restore", "(I)I"⟩
abbrev cX11_count : ByteArray := prog_1_method_44_code
def yX11_count : MethodName := ⟨RX11, "count", "(I)I"⟩
abbrev cX11_ended : ByteArray := prog_1_method_45_code
def yX11_ended : MethodName := ⟨RX11, "ended", "(II)I"⟩
abbrev cX11_noTray : ByteArray := prog_1_method_46_code
def yX11_noTray : MethodName := ⟨RX11, "noTray", "(I)Z"⟩
abbrev cX11_printsRefused : ByteArray := prog_1_method_47_code
def yX11_printsRefused : MethodName := ⟨RX11, "printsRefused", "(I)I"⟩
abbrev cX11_armOf : ByteArray := prog_1_method_48_code
def yX11_armOf : MethodName := ⟨RX11, "armOf", "(II)I"⟩
abbrev cX11_withArm : ByteArray := prog_1_method_49_code
def yX11_withArm : MethodName := ⟨RX11, "withArm", "(III)I"⟩
abbrev cX11_isIn : ByteArray := prog_1_method_50_code
def yX11_isIn : MethodName := ⟨RX11, "isIn", "(II)Z"⟩
abbrev cX12_within : ByteArray := prog_14_method_2_code
def yX12_within : MethodName := ⟨RX12, "within", "(JJJ)Z"⟩
abbrev cX12_init : ByteArray := prog_14_method_3_code
def yX12_init : MethodName := ⟨RX12, "<init>", "()V"⟩
abbrev cX12_plain : ByteArray := prog_14_method_4_code
def yX12_plain : MethodName := ⟨RX12, "plain", "([I)V"⟩
abbrev cX12_feed : ByteArray := prog_14_method_5_code
def yX12_feed : MethodName := ⟨RX12, "feed", "(IIIII)I"⟩
abbrev cX12_see : ByteArray := prog_14_method_6_code
def yX12_see : MethodName := ⟨RX12, "see", "(I)I"⟩
abbrev cX12_isSmall : ByteArray := prog_14_method_7_code
def yX12_isSmall : MethodName := ⟨RX12, "isSmall", "(I)Z"⟩
abbrev cX12_isDigit : ByteArray := prog_14_method_8_code
def yX12_isDigit : MethodName := ⟨RX12, "isDigit", "(I)Z"⟩
abbrev cX12_keyAt : ByteArray := prog_14_method_9_code
def yX12_keyAt : MethodName := ⟨RX12, "keyAt", "()I"⟩
abbrev cX12_next : ByteArray := prog_14_method_10_code
def yX12_next : MethodName := ⟨RX12, "next", "()V"⟩
abbrev cX12_fails : ByteArray := prog_14_method_11_code
def yX12_fails : MethodName := ⟨RX12, "fails", "(I)V"⟩
abbrev cX12_is : ByteArray := prog_14_method_12_code
def yX12_is : MethodName := ⟨RX12, "is", "(I)Z"⟩
abbrev cX12_eats : ByteArray := prog_14_method_13_code
def yX12_eats : MethodName := ⟨RX12, "eats", "(I)Z"⟩
abbrev cX12_takes : ByteArray := prog_14_method_14_code
def yX12_takes : MethodName := ⟨RX12, "takes", "(II)I"⟩
abbrev cX12_isIn : ByteArray := prog_14_method_15_code
def yX12_isIn : MethodName := ⟨RX12, "isIn", "(JI)Z"⟩
abbrev cX12_wordOf : ByteArray := prog_14_method_16_code
def yX12_wordOf : MethodName := ⟨RX12, "wordOf", "(I)I"⟩
abbrev cX12_codes : ByteArray := prog_14_method_17_code
def yX12_codes : MethodName := ⟨RX12, "codes", "(I)V"⟩
abbrev cX12_goesIn : ByteArray := prog_14_method_18_code
def yX12_goesIn : MethodName := ⟨RX12, "goesIn", "(I)Z"⟩
abbrev cX12_readAtom : ByteArray := prog_14_method_19_code
def yX12_readAtom : MethodName := ⟨RX12, "readAtom", "(I)V"⟩
abbrev cX12_readIf : ByteArray := prog_14_method_20_code
def yX12_readIf : MethodName := ⟨RX12, "readIf", "(I)V"⟩
abbrev cX12_readTerm : ByteArray := prog_14_method_21_code
def yX12_readTerm : MethodName := ⟨RX12, "readTerm", "(I)V"⟩
abbrev cX12_readSum : ByteArray := prog_14_method_22_code
def yX12_readSum : MethodName := ⟨RX12, "readSum", "(I)V"⟩
abbrev cX12_readUnit : ByteArray := prog_14_method_23_code
def yX12_readUnit : MethodName := ⟨RX12, "readUnit", "(I)V"⟩
abbrev cX12_readBoth : ByteArray := prog_14_method_24_code
def yX12_readBoth : MethodName := ⟨RX12, "readBoth", "(I)V"⟩
abbrev cX12_readTruth : ByteArray := prog_14_method_25_code
def yX12_readTruth : MethodName := ⟨RX12, "readTruth", "(I)V"⟩
abbrev cX12_named : ByteArray := prog_14_method_26_code
def yX12_named : MethodName := ⟨RX12, "named", "(III)I"⟩
abbrev cX12_takesPost : ByteArray := prog_14_method_27_code
def yX12_takesPost : MethodName := ⟨RX12, "takesPost", "()I"⟩
abbrev cX12_readRoad : ByteArray := prog_14_method_28_code
def yX12_readRoad : MethodName := ⟨RX12, "readRoad", "()V"⟩
abbrev cX12_readArm : ByteArray := prog_14_method_29_code
def yX12_readArm : MethodName := ⟨RX12, "readArm", "()V"⟩
abbrev cX12_readHome : ByteArray := prog_14_method_30_code
def yX12_readHome : MethodName := ⟨RX12, "readHome", "()V"⟩
abbrev cX12_readLaw : ByteArray := prog_14_method_31_code
def yX12_readLaw : MethodName := ⟨RX12, "readLaw", "(I)V"⟩
abbrev cX12_readLine : ByteArray := prog_14_method_32_code
def yX12_readLine : MethodName := ⟨RX12, "readLine", "()V"⟩
abbrev cX12_closes : ByteArray := prog_14_method_33_code
def yX12_closes : MethodName := ⟨RX12, "closes", "()V"⟩
abbrev cX12_moor : ByteArray := prog_14_method_34_code
def yX12_moor : MethodName := ⟨RX12, "moor", "(I)I"⟩
abbrev cX12_fault : ByteArray := prog_14_method_35_code
def yX12_fault : MethodName := ⟨RX12, "fault", "(I)I"⟩
abbrev cX12_isPost : ByteArray := prog_14_method_36_code
def yX12_isPost : MethodName := ⟨RX12, "isPost", "(J)Z"⟩
abbrev cX12_isRoad : ByteArray := prog_14_method_37_code
def yX12_isRoad : MethodName := ⟨RX12, "isRoad", "(IJ)Z"⟩
abbrev cX12_placeOf : ByteArray := prog_14_method_38_code
def yX12_placeOf : MethodName := ⟨RX12, "placeOf", "(I)I"⟩
abbrev cX12_armIn : ByteArray := prog_14_method_39_code
def yX12_armIn : MethodName := ⟨RX12, "armIn", "(II)I"⟩
abbrev cX12_withArm : ByteArray := prog_14_method_40_code
def yX12_withArm : MethodName := ⟨RX12, "withArm", "(III)I"⟩
abbrev cX12_armsNow : ByteArray := prog_14_method_41_code
def yX12_armsNow : MethodName := ⟨RX12, "armsNow", "()I"⟩
abbrev cX12_standOf : ByteArray := prog_14_method_42_code
def yX12_standOf : MethodName := ⟨RX12, "standOf", "(II)I"⟩
abbrev cX12_standNow : ByteArray := prog_14_method_43_code
def yX12_standNow : MethodName := ⟨RX12, "standNow", "()I"⟩
abbrev cX12_isStand : ByteArray := prog_14_method_44_code
def yX12_isStand : MethodName := ⟨RX12, "isStand", "(I)V"⟩
abbrev cX12_roadOf : ByteArray := prog_14_method_45_code
def yX12_roadOf : MethodName := ⟨RX12, "roadOf", "(II)I"⟩
abbrev cX12_areArms : ByteArray := prog_14_method_46_code
def yX12_areArms : MethodName := ⟨RX12, "areArms", "(I)Z"⟩
abbrev cX12_isStand1 : ByteArray := prog_14_method_47_code
def yX12_isStand1 : MethodName := ⟨RX12, "isStand1", "(I)Z"⟩
abbrev cX12_between : ByteArray := prog_14_method_48_code
def yX12_between : MethodName := ⟨RX12, "between", "(III)I"⟩
abbrev cX12_reckons : ByteArray := prog_14_method_49_code
def yX12_reckons : MethodName := ⟨RX12, "reckons", "(I)I"⟩
abbrev cX12_isRest : ByteArray := prog_14_method_50_code
def yX12_isRest : MethodName := ⟨RX12, "isRest", "(I)Z"⟩
abbrev cX12_stepTo : ByteArray := prog_14_method_51_code
def yX12_stepTo : MethodName := ⟨RX12, "stepTo", "(II)I"⟩
abbrev cX12_goesTo : ByteArray := prog_14_method_52_code
def yX12_goesTo : MethodName := ⟨RX12, "goesTo", "(I)I"⟩
abbrev cX12_post : ByteArray := prog_14_method_53_code
def yX12_post : MethodName := ⟨RX12, "post", "(II)I"⟩
abbrev cX12_by : ByteArray := prog_14_method_54_code
def yX12_by : MethodName := ⟨RX12, "by", "(II)I"⟩
abbrev cX12_stores : ByteArray := prog_14_method_55_code
def yX12_stores : MethodName := ⟨RX12, "stores", "()V"⟩
abbrev cX12_isAgain : ByteArray := prog_14_method_56_code
def yX12_isAgain : MethodName := ⟨RX12, "isAgain", "()V"⟩
abbrev cX12_notes : ByteArray := prog_14_method_57_code
def yX12_notes : MethodName := ⟨RX12, "notes", "()V"⟩
abbrev cX12_goesStep : ByteArray := prog_14_method_58_code
def yX12_goesStep : MethodName := ⟨RX12, "goesStep", "()V"⟩
abbrev cX12_step : ByteArray := prog_14_method_59_code
def yX12_step : MethodName := ⟨RX12, "step", "()I"⟩
abbrev cX12_steps : ByteArray := prog_14_method_60_code
def yX12_steps : MethodName := ⟨RX12, "steps", "(I)I"⟩
abbrev cX12_turn : ByteArray := prog_14_method_61_code
def yX12_turn : MethodName := ⟨RX12, "turn", "(II)I"⟩
abbrev cX12_setsOut : ByteArray := prog_14_method_62_code
def yX12_setsOut : MethodName := ⟨RX12, "setsOut", "(I)I"⟩
abbrev cX12_fog : ByteArray := prog_14_method_63_code
def yX12_fog : MethodName := ⟨RX12, "fog", "(I)I"⟩
abbrev cX12_undo : ByteArray := prog_14_method_64_code
def yX12_undo : MethodName := ⟨RX12, "undo", "(I)I"⟩
abbrev cX12_whyNot : ByteArray := prog_14_method_65_code
def yX12_whyNot : MethodName := ⟨RX12, "whyNot", "(J)I"⟩
abbrev cX12_does : ByteArray := prog_14_method_66_code
def yX12_does : MethodName := ⟨RX12, "does", "(I)V"⟩
abbrev cX12_tells : ByteArray := prog_14_method_67_code
def yX12_tells : MethodName := ⟨RX12, "tells", "(I)I"⟩
abbrev cX12_noTray : ByteArray := prog_14_method_68_code
def yX12_noTray : MethodName := ⟨RX12, "noTray", "(I)I"⟩
abbrev cX12_judge : ByteArray := prog_14_method_69_code
def yX12_judge : MethodName := ⟨RX12, "judge", "(II)I"⟩
abbrev cX12_perform : ByteArray := prog_14_method_70_code
def yX12_perform : MethodName := ⟨RX12, "perform", "(I)I"⟩
abbrev cX12_draw : ByteArray := prog_14_method_71_code
def yX12_draw : MethodName := ⟨RX12, "draw", "(I)I"⟩
abbrev cX12_drawn : ByteArray := prog_14_method_72_code
def yX12_drawn : MethodName := ⟨RX12, "drawn", "()I"⟩
abbrev cX12_year : ByteArray := prog_14_method_73_code
def yX12_year : MethodName := ⟨RX12, "year", "(II)I"⟩
abbrev cX12_laysLine : ByteArray := prog_14_method_74_code
def yX12_laysLine : MethodName := ⟨RX12, "laysLine", "(I)V"⟩
abbrev cX12_lineAt : ByteArray := prog_14_method_75_code
def yX12_lineAt : MethodName := ⟨RX12, "lineAt", "(J)I"⟩
abbrev cX12_at : ByteArray := prog_14_method_76_code
def yX12_at : MethodName := ⟨RX12, "at", "(J)I"⟩
abbrev cX12_arms : ByteArray := prog_14_method_77_code
def yX12_arms : MethodName := ⟨RX12, "arms", "(J)I"⟩
abbrev cX12_oftenAt : ByteArray := prog_14_method_78_code
def yX12_oftenAt : MethodName := ⟨RX12, "oftenAt", "(III)I"⟩
abbrev cX12_visits : ByteArray := prog_14_method_79_code
def yX12_visits : MethodName := ⟨RX12, "visits", "(IJ)J"⟩
abbrev cX12_round : ByteArray := prog_14_method_80_code
def yX12_round : MethodName := ⟨RX12, "round", "(I)I"⟩
abbrev cX12_first : ByteArray := prog_14_method_81_code
def yX12_first : MethodName := ⟨RX12, "first", "(I)I"⟩
abbrev cX12_rests : ByteArray := prog_14_method_82_code
def yX12_rests : MethodName := ⟨RX12, "rests", "()I"⟩
abbrev cX12_homeFrom : ByteArray := prog_14_method_83_code
def yX12_homeFrom : MethodName := ⟨RX12, "homeFrom", "(I)I"⟩
abbrev cX12_homing : ByteArray := prog_14_method_84_code
def yX12_homing : MethodName := ⟨RX12, "homing", "(I)I"⟩
abbrev cX12_laysCost : ByteArray := prog_14_method_85_code
def yX12_laysCost : MethodName := ⟨RX12, "laysCost", "()V"⟩
abbrev cX12_hands : ByteArray := prog_14_method_86_code
def yX12_hands : MethodName := ⟨RX12, "hands", "(II)I"⟩
abbrev cX12_laysFilling : ByteArray := prog_14_method_87_code
def yX12_laysFilling : MethodName := ⟨RX12, "laysFilling", "(I)V"⟩
abbrev cX12_fills : ByteArray := prog_14_method_88_code
def yX12_fills : MethodName := ⟨RX12, "fills", "(II)I"⟩
abbrev cX12_filling : ByteArray := prog_14_method_89_code
def yX12_filling : MethodName := ⟨RX12, "filling", "(I)I"⟩
abbrev cX12_noFeet : ByteArray := prog_14_method_90_code
def yX12_noFeet : MethodName := ⟨RX12, "noFeet", "(I)I"⟩
abbrev cX12_areFeet : ByteArray := prog_14_method_91_code
def yX12_areFeet : MethodName := ⟨RX12, "areFeet", "(III)Z"⟩
abbrev cX12_laysFeet : ByteArray := prog_14_method_92_code
def yX12_laysFeet : MethodName := ⟨RX12, "laysFeet", "(I)I"⟩
abbrev cX12_footprints : ByteArray := prog_14_method_93_code
def yX12_footprints : MethodName := ⟨RX12, "footprints", "(I)I"⟩
abbrev cX12_shown : ByteArray := prog_14_method_94_code
def yX12_shown : MethodName := ⟨RX12, "shown", "(II)I"⟩
abbrev cX12_look : ByteArray := prog_14_method_95_code
def yX12_look : MethodName := ⟨RX12, "look", "(I)I"⟩
abbrev cX12_fogs : ByteArray := prog_14_method_96_code
def yX12_fogs : MethodName := ⟨RX12, "fogs", "(I)I"⟩
abbrev cX12_laysAhead : ByteArray := prog_14_method_97_code
def yX12_laysAhead : MethodName := ⟨RX12, "laysAhead", "()I"⟩
abbrev cX12_beginsAhead : ByteArray := prog_14_method_98_code
def yX12_beginsAhead : MethodName := ⟨RX12, "beginsAhead", "()V"⟩
abbrev cX12_ahead : ByteArray := prog_14_method_99_code
def yX12_ahead : MethodName := ⟨RX12, "ahead", "(I)I"⟩
abbrev cX12_from : ByteArray := prog_14_method_100_code
def yX12_from : MethodName := ⟨RX12, "from", "()I"⟩
abbrev cX12_again : ByteArray := prog_14_method_101_code
def yX12_again : MethodName := ⟨RX12, "again", "()I"⟩
abbrev cX12_isTree : ByteArray := prog_14_method_102_code
def yX12_isTree : MethodName := ⟨RX12, "isTree", "(II)Z"⟩
abbrev cX12_trees : ByteArray := prog_14_method_103_code
def yX12_trees : MethodName := ⟨RX12, "trees", "(I)I"⟩
abbrev cX12_common : ByteArray := prog_14_method_104_code
def yX12_common : MethodName := ⟨RX12, "common", "(JJ)J"⟩
abbrev cX12_lays : ByteArray := prog_14_method_105_code
def yX12_lays : MethodName := ⟨RX12, "lays", "(IJJ)V"⟩
abbrev cX12_addsTo : ByteArray := prog_14_method_106_code
def yX12_addsTo : MethodName := ⟨RX12, "addsTo", "(IIJJ)V"⟩
abbrev cX12_solves : ByteArray := prog_14_method_107_code
def yX12_solves : MethodName := ⟨RX12, "solves", "()V"⟩
abbrev cX12_swaps : ByteArray := prog_14_method_108_code
def yX12_swaps : MethodName := ⟨RX12, "swaps", "(II)V"⟩
abbrev cX12_comesTo : ByteArray := prog_14_method_109_code
def yX12_comesTo : MethodName := ⟨RX12, "comesTo", "(II)I"⟩
abbrev cX12_beginsRows : ByteArray := prog_14_method_110_code
def yX12_beginsRows : MethodName := ⟨RX12, "beginsRows", "()V"⟩
abbrev cX12_chance : ByteArray := prog_14_method_111_code
def yX12_chance : MethodName := ⟨RX12, "chance", "(III)J"⟩
abbrev cX12_strays : ByteArray := prog_14_method_112_code
def yX12_strays : MethodName := ⟨RX12, "strays", "()I"⟩
abbrev cX12_mean : ByteArray := prog_14_method_113_code
def yX12_mean : MethodName := ⟨RX12, "mean", "(I)J"⟩
abbrev cX12_score : ByteArray := prog_14_method_114_code
def yX12_score : MethodName := ⟨RX12, "score", "(III)I"⟩
abbrev cX12_otherAt : ByteArray := prog_14_method_115_code
def yX12_otherAt : MethodName := ⟨RX12, "otherAt", "(I)I"⟩
abbrev cX12_firstBy : ByteArray := prog_14_method_116_code
def yX12_firstBy : MethodName := ⟨RX12, "firstBy", "(II)I"⟩
abbrev cX12_laysForce : ByteArray := prog_14_method_117_code
def yX12_laysForce : MethodName := ⟨RX12, "laysForce", "(I)I"⟩
abbrev cX12_forces : ByteArray := prog_14_method_118_code
def yX12_forces : MethodName := ⟨RX12, "forces", "(I)I"⟩
abbrev cX12_best : ByteArray := prog_14_method_119_code
def yX12_best : MethodName := ⟨RX12, "best", "(I)I"⟩
abbrev cX12_cut : ByteArray := prog_14_method_120_code
def yX12_cut : MethodName := ⟨RX12, "cut", "(JI)J"⟩
abbrev cX12_numbers : ByteArray := prog_14_method_121_code
def yX12_numbers : MethodName := ⟨RX12, "numbers", "(III)I"⟩
abbrev cX12_write : ByteArray := prog_14_method_122_code
def yX12_write : MethodName := ⟨RX12, "write", "(IIJ)J"⟩
abbrev cX12_lists : ByteArray := prog_14_method_123_code
def yX12_lists : MethodName := ⟨RX12, "lists", "(I)I"⟩
abbrev cX12_image : ByteArray := prog_14_method_124_code
def yX12_image : MethodName := ⟨RX12, "image", "(I)I"⟩
abbrev cX12_restore : ByteArray := prog_14_method_125_code
def yX12_restore : MethodName := ⟨RX12, "restore", "(I)I"⟩
abbrev cX12_count : ByteArray := prog_14_method_126_code
def yX12_count : MethodName := ⟨RX12, "count", "(I)I"⟩
abbrev cJ9_floorMod_7cf53 : ByteArray := prog_16_method_50_code
def yJ9_floorMod_7cf53 : MethodName := ⟨RJ9, "floorMod", "(II)I"⟩
abbrev cJ9_abs_067f4 : ByteArray := prog_16_method_61_code
def yJ9_abs_067f4 : MethodName := ⟨RJ9, "abs", "(J)J"⟩
abbrev cJ9_max_7cf53 : ByteArray := prog_16_method_65_code
def yJ9_max_7cf53 : MethodName := ⟨RJ9, "max", "(II)I"⟩
abbrev cJ9_min_7cf53 : ByteArray := prog_16_method_69_code
def yJ9_min_7cf53 : MethodName := ⟨RJ9, "min", "(II)I"⟩
abbrev cJ0_length_8abf5 : ByteArray := prog_17_method_54_code
def yJ0_length_8abf5 : MethodName := ⟨RJ0, "length", "()I"⟩
abbrev cJ0_charAt_5068e : ByteArray := prog_17_method_56_code
def yJ0_charAt_5068e : MethodName := ⟨RJ0, "charAt", "(I)C"⟩
abbrev cJ0_indexOf_0f7a4 : ByteArray := prog_17_method_79_code
def yJ0_indexOf_0f7a4 : MethodName := ⟨RJ0, "indexOf", "(I)I"⟩
abbrev cJ0_indexOf_7cf53 : ByteArray := prog_17_method_80_code
def yJ0_indexOf_7cf53 : MethodName := ⟨RJ0, "indexOf", "(II)I"⟩
abbrev cJ0_coder_7d493 : ByteArray := prog_17_method_152_code
def yJ0_coder_7d493 : MethodName := ⟨RJ0, "coder", "()B"⟩
abbrev cJ0_isLatin1_aae02 : ByteArray := prog_17_method_154_code
def yJ0_isLatin1_aae02 : MethodName := ⟨RJ0, "isLatin1", "()Z"⟩
abbrev cJ0_checkIndex_df160 : ByteArray := prog_17_method_155_code
def yJ0_checkIndex_df160 : MethodName := ⟨RJ0, "checkIndex", "(II)V"⟩
abbrev cJ1_charAt_3b067 : ByteArray := prog_18_method_2_code
def yJ1_charAt_3b067 : MethodName := ⟨RJ1, "charAt", "([BI)C"⟩
abbrev cJ1_canEncode_9a6ad : ByteArray := prog_18_method_4_code
def yJ1_canEncode_9a6ad : MethodName := ⟨RJ1, "canEncode", "(I)Z"⟩
abbrev cJ1_indexOf_4cfef : ByteArray := prog_18_method_22_code
def yJ1_indexOf_4cfef : MethodName := ⟨RJ1, "indexOf", "([BIII)I"⟩
abbrev cJ1_indexOfChar_4cfef : ByteArray := prog_18_method_23_code
def yJ1_indexOfChar_4cfef : MethodName := ⟨RJ1, "indexOfChar", "([BIII)I"⟩
abbrev cJ7_rangeCheck_23922 : ByteArray := prog_21_method_30_code
def yJ7_rangeCheck_23922 : MethodName := ⟨RJ7, "rangeCheck", "(III)V"⟩
abbrev cJ7_fill_d0a16 : ByteArray := prog_21_method_101_code
def yJ7_fill_d0a16 : MethodName := ⟨RJ7, "fill", "([JJ)V"⟩
abbrev cJ7_fill_53178 : ByteArray := prog_21_method_103_code
def yJ7_fill_53178 : MethodName := ⟨RJ7, "fill", "([II)V"⟩
abbrev cJ7_fill_fda19 : ByteArray := prog_21_method_104_code
def yJ7_fill_fda19 : MethodName := ⟨RJ7, "fill", "([IIII)V"⟩
abbrev cJ3_checkIndex_8e157 : ByteArray := prog_22_method_11_code
def yJ3_checkIndex_8e157 : MethodName := ⟨RJ3, "checkIndex", "(IILjava/util/function/BiFunction;)I"⟩
abbrev cL_law : ByteArray := code
def yL_law : MethodName := ⟨RL, "law", "([I)Z"⟩
