-- ===== PART A: goes FIRST, ahead of the names: the tables' words, and 'selects' of the private methods out of them =====
/-- a private method of a class that the tables say can be made, by its rows of tables_1 -/
def lw_okq (q : MethodName × Nat) : Prop := (q.1.cls ≠ "java/lang/invoke/MethodHandle" ∧ q.1.cls ≠ "java/lang/invoke/VarHandle") ∧ Cond.instantiable q.1.cls q.2 ∈ tables_1 ∧ Cond.privateMethod q.1 ∈ tables_1 ∧ Cond.instanceMethod q.1 ∈ tables_1
theorem lw_p0 : lw_okq (⟨"EarField$Boxes", "lookHome", "(II)V"⟩, 6) := ⟨⟨by decide +kernel, by decide +kernel⟩, List.mem_of_getElem? (i := 31) (by decide +kernel), List.mem_of_getElem? (i := 589) (by decide +kernel), List.mem_of_getElem? (i := 590) (by decide +kernel)⟩
theorem lw_p1 : lw_okq (⟨"EarField$Boxes", "isLeastOfRing", "(I)Z"⟩, 6) := ⟨⟨by decide +kernel, by decide +kernel⟩, List.mem_of_getElem? (i := 31) (by decide +kernel), List.mem_of_getElem? (i := 602) (by decide +kernel), List.mem_of_getElem? (i := 603) (by decide +kernel)⟩
theorem lw_p2 : lw_okq (⟨"EarField$Air", "spendRest", "()V"⟩, 10) := ⟨⟨by decide +kernel, by decide +kernel⟩, List.mem_of_getElem? (i := 267) (by decide +kernel), List.mem_of_getElem? (i := 628) (by decide +kernel), List.mem_of_getElem? (i := 629) (by decide +kernel)⟩
theorem lw_p3 : lw_okq (⟨"EarField$Air", "beginEpoch", "()V"⟩, 10) := ⟨⟨by decide +kernel, by decide +kernel⟩, List.mem_of_getElem? (i := 267) (by decide +kernel), List.mem_of_getElem? (i := 647) (by decide +kernel), List.mem_of_getElem? (i := 648) (by decide +kernel)⟩
theorem lw_p4 : lw_okq (⟨"EarField$Air", "startSum", "(LEarField$Box;)V"⟩, 10) := ⟨⟨by decide +kernel, by decide +kernel⟩, List.mem_of_getElem? (i := 267) (by decide +kernel), List.mem_of_getElem? (i := 679) (by decide +kernel), List.mem_of_getElem? (i := 680) (by decide +kernel)⟩
theorem lw_p5 : lw_okq (⟨"EarField$Air", "queueSums", "()V"⟩, 10) := ⟨⟨by decide +kernel, by decide +kernel⟩, List.mem_of_getElem? (i := 267) (by decide +kernel), List.mem_of_getElem? (i := 695) (by decide +kernel), List.mem_of_getElem? (i := 696) (by decide +kernel)⟩
theorem lw_p6 : lw_okq (⟨"EarField$Air", "speak", "()V"⟩, 10) := ⟨⟨by decide +kernel, by decide +kernel⟩, List.mem_of_getElem? (i := 267) (by decide +kernel), List.mem_of_getElem? (i := 716) (by decide +kernel), List.mem_of_getElem? (i := 717) (by decide +kernel)⟩
theorem lw_p7 : lw_okq (⟨"EarField$Air", "spendHearing", "()V"⟩, 10) := ⟨⟨by decide +kernel, by decide +kernel⟩, List.mem_of_getElem? (i := 267) (by decide +kernel), List.mem_of_getElem? (i := 720) (by decide +kernel), List.mem_of_getElem? (i := 721) (by decide +kernel)⟩
theorem lw_p8 : lw_okq (⟨"EarField$Air", "carry", "(I)V"⟩, 10) := ⟨⟨by decide +kernel, by decide +kernel⟩, List.mem_of_getElem? (i := 267) (by decide +kernel), List.mem_of_getElem? (i := 724) (by decide +kernel), List.mem_of_getElem? (i := 725) (by decide +kernel)⟩
theorem lw_p9 : lw_okq (⟨"EarField$Air", "whyLost", "(LEarField$Box;I)I"⟩, 10) := ⟨⟨by decide +kernel, by decide +kernel⟩, List.mem_of_getElem? (i := 267) (by decide +kernel), List.mem_of_getElem? (i := 728) (by decide +kernel), List.mem_of_getElem? (i := 729) (by decide +kernel)⟩
theorem lw_p10 : lw_okq (⟨"EarField$Air", "give", "(LEarField$Row;LEarField$Box;)V"⟩, 10) := ⟨⟨by decide +kernel, by decide +kernel⟩, List.mem_of_getElem? (i := 267) (by decide +kernel), List.mem_of_getElem? (i := 739) (by decide +kernel), List.mem_of_getElem? (i := 740) (by decide +kernel)⟩
theorem lw_p11 : lw_okq (⟨"EarField$Air", "keepWord", "(I)V"⟩, 10) := ⟨⟨by decide +kernel, by decide +kernel⟩, List.mem_of_getElem? (i := 267) (by decide +kernel), List.mem_of_getElem? (i := 763) (by decide +kernel), List.mem_of_getElem? (i := 764) (by decide +kernel)⟩
theorem lw_p12 : lw_okq (⟨"EarField$Text", "nextToken", "()V"⟩, 5) := ⟨⟨by decide +kernel, by decide +kernel⟩, List.mem_of_getElem? (i := 214) (by decide +kernel), List.mem_of_getElem? (i := 811) (by decide +kernel), List.mem_of_getElem? (i := 812) (by decide +kernel)⟩
theorem lw_p13 : lw_okq (⟨"EarField$Text", "byteAt", "(I)I"⟩, 5) := ⟨⟨by decide +kernel, by decide +kernel⟩, List.mem_of_getElem? (i := 214) (by decide +kernel), List.mem_of_getElem? (i := 815) (by decide +kernel), List.mem_of_getElem? (i := 816) (by decide +kernel)⟩
theorem lw_p14 : lw_okq (⟨"EarField$Text", "readAim", "()Z"⟩, 5) := ⟨⟨by decide +kernel, by decide +kernel⟩, List.mem_of_getElem? (i := 214) (by decide +kernel), List.mem_of_getElem? (i := 822) (by decide +kernel), List.mem_of_getElem? (i := 823) (by decide +kernel)⟩
theorem lw_p15 : lw_okq (⟨"EarField$Text", "skipWord", "(Ljava/lang/String;)Z"⟩, 5) := ⟨⟨by decide +kernel, by decide +kernel⟩, List.mem_of_getElem? (i := 214) (by decide +kernel), List.mem_of_getElem? (i := 827) (by decide +kernel), List.mem_of_getElem? (i := 828) (by decide +kernel)⟩
def lw_privs_1 : List (MethodName × Nat) := [(⟨"EarField$Boxes", "lookHome", "(II)V"⟩, 6), (⟨"EarField$Boxes", "isLeastOfRing", "(I)Z"⟩, 6), (⟨"EarField$Air", "spendRest", "()V"⟩, 10), (⟨"EarField$Air", "beginEpoch", "()V"⟩, 10), (⟨"EarField$Air", "startSum", "(LEarField$Box;)V"⟩, 10), (⟨"EarField$Air", "queueSums", "()V"⟩, 10), (⟨"EarField$Air", "speak", "()V"⟩, 10), (⟨"EarField$Air", "spendHearing", "()V"⟩, 10), (⟨"EarField$Air", "carry", "(I)V"⟩, 10), (⟨"EarField$Air", "whyLost", "(LEarField$Box;I)I"⟩, 10), (⟨"EarField$Air", "give", "(LEarField$Row;LEarField$Box;)V"⟩, 10), (⟨"EarField$Air", "keepWord", "(I)V"⟩, 10), (⟨"EarField$Text", "nextToken", "()V"⟩, 5), (⟨"EarField$Text", "byteAt", "(I)I"⟩, 5), (⟨"EarField$Text", "readAim", "()Z"⟩, 5), (⟨"EarField$Text", "skipWord", "(Ljava/lang/String;)Z"⟩, 5)]
theorem lw_r1 : ∀ q ∈ lw_privs_1, lw_okq q := List.forall_mem_cons.mpr ⟨lw_p0, List.forall_mem_cons.mpr ⟨lw_p1, List.forall_mem_cons.mpr ⟨lw_p2, List.forall_mem_cons.mpr ⟨lw_p3, List.forall_mem_cons.mpr ⟨lw_p4, List.forall_mem_cons.mpr ⟨lw_p5, List.forall_mem_cons.mpr ⟨lw_p6, List.forall_mem_cons.mpr ⟨lw_p7, List.forall_mem_cons.mpr ⟨lw_p8, List.forall_mem_cons.mpr ⟨lw_p9, List.forall_mem_cons.mpr ⟨lw_p10, List.forall_mem_cons.mpr ⟨lw_p11, List.forall_mem_cons.mpr ⟨lw_p12, List.forall_mem_cons.mpr ⟨lw_p13, List.forall_mem_cons.mpr ⟨lw_p14, List.forall_mem_cons.mpr ⟨lw_p15, fun _ h => absurd h List.not_mem_nil⟩⟩⟩⟩⟩⟩⟩⟩⟩⟩⟩⟩⟩⟩⟩⟩
theorem lw_p16 : lw_okq (⟨"EarField$Text", "readConds", "()Z"⟩, 5) := ⟨⟨by decide +kernel, by decide +kernel⟩, List.mem_of_getElem? (i := 214) (by decide +kernel), List.mem_of_getElem? (i := 883) (by decide +kernel), List.mem_of_getElem? (i := 884) (by decide +kernel)⟩
theorem lw_p17 : lw_okq (⟨"EarField$Text", "readCond", "()Z"⟩, 5) := ⟨⟨by decide +kernel, by decide +kernel⟩, List.mem_of_getElem? (i := 214) (by decide +kernel), List.mem_of_getElem? (i := 888) (by decide +kernel), List.mem_of_getElem? (i := 889) (by decide +kernel)⟩
theorem lw_p18 : lw_okq (⟨"EarField$Text", "numberAtHand", "()I"⟩, 5) := ⟨⟨by decide +kernel, by decide +kernel⟩, List.mem_of_getElem? (i := 214) (by decide +kernel), List.mem_of_getElem? (i := 895) (by decide +kernel), List.mem_of_getElem? (i := 896) (by decide +kernel)⟩
theorem lw_p19 : lw_okq (⟨"EarField$Text", "readEvery", "()Z"⟩, 5) := ⟨⟨by decide +kernel, by decide +kernel⟩, List.mem_of_getElem? (i := 214) (by decide +kernel), List.mem_of_getElem? (i := 908) (by decide +kernel), List.mem_of_getElem? (i := 909) (by decide +kernel)⟩
theorem lw_p20 : lw_okq (⟨"EarField$Foresight", "restIn", "(LEarField$Box;I)I"⟩, 8) := ⟨⟨by decide +kernel, by decide +kernel⟩, List.mem_of_getElem? (i := 310) (by decide +kernel), List.mem_of_getElem? (i := 969) (by decide +kernel), List.mem_of_getElem? (i := 970) (by decide +kernel)⟩
theorem lw_p21 : lw_okq (⟨"EarField$Foresight", "foreseeLives", "(IZ)V"⟩, 8) := ⟨⟨by decide +kernel, by decide +kernel⟩, List.mem_of_getElem? (i := 310) (by decide +kernel), List.mem_of_getElem? (i := 983) (by decide +kernel), List.mem_of_getElem? (i := 984) (by decide +kernel)⟩
theorem lw_p22 : lw_okq (⟨"EarField$Foresight", "lifeWith", "(II)I"⟩, 8) := ⟨⟨by decide +kernel, by decide +kernel⟩, List.mem_of_getElem? (i := 310) (by decide +kernel), List.mem_of_getElem? (i := 987) (by decide +kernel), List.mem_of_getElem? (i := 988) (by decide +kernel)⟩
theorem lw_p23 : lw_okq (⟨"EarField$Foresight", "findSteps", "(I)V"⟩, 8) := ⟨⟨by decide +kernel, by decide +kernel⟩, List.mem_of_getElem? (i := 310) (by decide +kernel), List.mem_of_getElem? (i := 1001) (by decide +kernel), List.mem_of_getElem? (i := 1002) (by decide +kernel)⟩
theorem lw_p24 : lw_okq (⟨"EarField$Foresight", "boxesAt", "(I)I"⟩, 8) := ⟨⟨by decide +kernel, by decide +kernel⟩, List.mem_of_getElem? (i := 310) (by decide +kernel), List.mem_of_getElem? (i := 1006) (by decide +kernel), List.mem_of_getElem? (i := 1007) (by decide +kernel)⟩
theorem lw_p25 : lw_okq (⟨"EarField$Foresight", "findNearer", "(I)I"⟩, 8) := ⟨⟨by decide +kernel, by decide +kernel⟩, List.mem_of_getElem? (i := 310) (by decide +kernel), List.mem_of_getElem? (i := 1010) (by decide +kernel), List.mem_of_getElem? (i := 1011) (by decide +kernel)⟩
theorem lw_p26 : lw_okq (⟨"EarField$Foresight", "leastLife", "(I)I"⟩, 8) := ⟨⟨by decide +kernel, by decide +kernel⟩, List.mem_of_getElem? (i := 310) (by decide +kernel), List.mem_of_getElem? (i := 1019) (by decide +kernel), List.mem_of_getElem? (i := 1020) (by decide +kernel)⟩
theorem lw_p27 : lw_okq (⟨"EarField$Foresight", "nextTree", "()Z"⟩, 8) := ⟨⟨by decide +kernel, by decide +kernel⟩, List.mem_of_getElem? (i := 310) (by decide +kernel), List.mem_of_getElem? (i := 1027) (by decide +kernel), List.mem_of_getElem? (i := 1028) (by decide +kernel)⟩
theorem lw_p28 : lw_okq (⟨"EarField$Bearings", "allTellers", "()I"⟩, 8) := ⟨⟨by decide +kernel, by decide +kernel⟩, List.mem_of_getElem? (i := 341) (by decide +kernel), List.mem_of_getElem? (i := 1058) (by decide +kernel), List.mem_of_getElem? (i := 1059) (by decide +kernel)⟩
theorem lw_p29 : lw_okq (⟨"EarField$Bearings", "canBeWithout", "(I)Z"⟩, 8) := ⟨⟨by decide +kernel, by decide +kernel⟩, List.mem_of_getElem? (i := 341) (by decide +kernel), List.mem_of_getElem? (i := 1063) (by decide +kernel), List.mem_of_getElem? (i := 1064) (by decide +kernel)⟩
theorem lw_p30 : lw_okq (⟨"EarField$Bearings", "lower", "(III)V"⟩, 8) := ⟨⟨by decide +kernel, by decide +kernel⟩, List.mem_of_getElem? (i := 341) (by decide +kernel), List.mem_of_getElem? (i := 1068) (by decide +kernel), List.mem_of_getElem? (i := 1069) (by decide +kernel)⟩
theorem lw_p31 : lw_okq (⟨"EarField$Bearings", "goOver", "(II)V"⟩, 8) := ⟨⟨by decide +kernel, by decide +kernel⟩, List.mem_of_getElem? (i := 341) (by decide +kernel), List.mem_of_getElem? (i := 1073) (by decide +kernel), List.mem_of_getElem? (i := 1074) (by decide +kernel)⟩
def lw_privs_2 : List (MethodName × Nat) := [(⟨"EarField$Text", "readConds", "()Z"⟩, 5), (⟨"EarField$Text", "readCond", "()Z"⟩, 5), (⟨"EarField$Text", "numberAtHand", "()I"⟩, 5), (⟨"EarField$Text", "readEvery", "()Z"⟩, 5), (⟨"EarField$Foresight", "restIn", "(LEarField$Box;I)I"⟩, 8), (⟨"EarField$Foresight", "foreseeLives", "(IZ)V"⟩, 8), (⟨"EarField$Foresight", "lifeWith", "(II)I"⟩, 8), (⟨"EarField$Foresight", "findSteps", "(I)V"⟩, 8), (⟨"EarField$Foresight", "boxesAt", "(I)I"⟩, 8), (⟨"EarField$Foresight", "findNearer", "(I)I"⟩, 8), (⟨"EarField$Foresight", "leastLife", "(I)I"⟩, 8), (⟨"EarField$Foresight", "nextTree", "()Z"⟩, 8), (⟨"EarField$Bearings", "allTellers", "()I"⟩, 8), (⟨"EarField$Bearings", "canBeWithout", "(I)Z"⟩, 8), (⟨"EarField$Bearings", "lower", "(III)V"⟩, 8), (⟨"EarField$Bearings", "goOver", "(II)V"⟩, 8)]
theorem lw_r2 : ∀ q ∈ lw_privs_2, lw_okq q := List.forall_mem_cons.mpr ⟨lw_p16, List.forall_mem_cons.mpr ⟨lw_p17, List.forall_mem_cons.mpr ⟨lw_p18, List.forall_mem_cons.mpr ⟨lw_p19, List.forall_mem_cons.mpr ⟨lw_p20, List.forall_mem_cons.mpr ⟨lw_p21, List.forall_mem_cons.mpr ⟨lw_p22, List.forall_mem_cons.mpr ⟨lw_p23, List.forall_mem_cons.mpr ⟨lw_p24, List.forall_mem_cons.mpr ⟨lw_p25, List.forall_mem_cons.mpr ⟨lw_p26, List.forall_mem_cons.mpr ⟨lw_p27, List.forall_mem_cons.mpr ⟨lw_p28, List.forall_mem_cons.mpr ⟨lw_p29, List.forall_mem_cons.mpr ⟨lw_p30, List.forall_mem_cons.mpr ⟨lw_p31, fun _ h => absurd h List.not_mem_nil⟩⟩⟩⟩⟩⟩⟩⟩⟩⟩⟩⟩⟩⟩⟩⟩
theorem lw_p32 : lw_okq (⟨"EarField$Bearings", "aheadAt", "(II)I"⟩, 8) := ⟨⟨by decide +kernel, by decide +kernel⟩, List.mem_of_getElem? (i := 341) (by decide +kernel), List.mem_of_getElem? (i := 1077) (by decide +kernel), List.mem_of_getElem? (i := 1078) (by decide +kernel)⟩
theorem lw_p33 : lw_okq (⟨"EarField$Bearings", "hasLoopBelowZero", "()Z"⟩, 8) := ⟨⟨by decide +kernel, by decide +kernel⟩, List.mem_of_getElem? (i := 341) (by decide +kernel), List.mem_of_getElem? (i := 1081) (by decide +kernel), List.mem_of_getElem? (i := 1082) (by decide +kernel)⟩
theorem lw_p34 : lw_okq (⟨"EarField$Bearings", "disagreeing", "(II)I"⟩, 8) := ⟨⟨by decide +kernel, by decide +kernel⟩, List.mem_of_getElem? (i := 341) (by decide +kernel), List.mem_of_getElem? (i := 1100) (by decide +kernel), List.mem_of_getElem? (i := 1101) (by decide +kernel)⟩
theorem lw_p35 : lw_okq (⟨"EarField$Bearings", "isInReach", "(II)Z"⟩, 8) := ⟨⟨by decide +kernel, by decide +kernel⟩, List.mem_of_getElem? (i := 341) (by decide +kernel), List.mem_of_getElem? (i := 1106) (by decide +kernel), List.mem_of_getElem? (i := 1107) (by decide +kernel)⟩
theorem lw_p36 : lw_okq (⟨"EarField$Programs", "sumOfParts", "(LEarField$Box;)I"⟩, 5) := ⟨⟨by decide +kernel, by decide +kernel⟩, List.mem_of_getElem? (i := 373) (by decide +kernel), List.mem_of_getElem? (i := 1125) (by decide +kernel), List.mem_of_getElem? (i := 1126) (by decide +kernel)⟩
theorem lw_p37 : lw_okq (⟨"EarField$Programs", "getsPart", "(II)Z"⟩, 5) := ⟨⟨by decide +kernel, by decide +kernel⟩, List.mem_of_getElem? (i := 373) (by decide +kernel), List.mem_of_getElem? (i := 1142) (by decide +kernel), List.mem_of_getElem? (i := 1143) (by decide +kernel)⟩
theorem lw_p38 : lw_okq (⟨"EarField$Programs", "aheadOf", "(I)I"⟩, 5) := ⟨⟨by decide +kernel, by decide +kernel⟩, List.mem_of_getElem? (i := 373) (by decide +kernel), List.mem_of_getElem? (i := 1146) (by decide +kernel), List.mem_of_getElem? (i := 1147) (by decide +kernel)⟩
theorem lw_p39 : lw_okq (⟨"EarField$Programs", "give", "(LEarField$Box;LEarField$Box;I)V"⟩, 5) := ⟨⟨by decide +kernel, by decide +kernel⟩, List.mem_of_getElem? (i := 373) (by decide +kernel), List.mem_of_getElem? (i := 1150) (by decide +kernel), List.mem_of_getElem? (i := 1151) (by decide +kernel)⟩
theorem lw_p40 : lw_okq (⟨"EarField$Court", "logOf", "(II)I"⟩, 18) := ⟨⟨by decide +kernel, by decide +kernel⟩, List.mem_of_getElem? (i := 396) (by decide +kernel), List.mem_of_getElem? (i := 1225) (by decide +kernel), List.mem_of_getElem? (i := 1226) (by decide +kernel)⟩
theorem lw_p41 : lw_okq (⟨"EarField$Court", "weighSpots", "(I)V"⟩, 18) := ⟨⟨by decide +kernel, by decide +kernel⟩, List.mem_of_getElem? (i := 396) (by decide +kernel), List.mem_of_getElem? (i := 1241) (by decide +kernel), List.mem_of_getElem? (i := 1242) (by decide +kernel)⟩
theorem lw_p42 : lw_okq (⟨"EarField$Court", "missesAt", "(III)I"⟩, 18) := ⟨⟨by decide +kernel, by decide +kernel⟩, List.mem_of_getElem? (i := 396) (by decide +kernel), List.mem_of_getElem? (i := 1245) (by decide +kernel), List.mem_of_getElem? (i := 1246) (by decide +kernel)⟩
theorem lw_p43 : lw_okq (⟨"EarField$Court", "earHears", "(II)Z"⟩, 18) := ⟨⟨by decide +kernel, by decide +kernel⟩, List.mem_of_getElem? (i := 396) (by decide +kernel), List.mem_of_getElem? (i := 1249) (by decide +kernel), List.mem_of_getElem? (i := 1250) (by decide +kernel)⟩
theorem lw_p44 : lw_okq (⟨"EarField$Court", "missedAt", "(II)I"⟩, 18) := ⟨⟨by decide +kernel, by decide +kernel⟩, List.mem_of_getElem? (i := 396) (by decide +kernel), List.mem_of_getElem? (i := 1255) (by decide +kernel), List.mem_of_getElem? (i := 1256) (by decide +kernel)⟩
theorem lw_p45 : lw_okq (⟨"EarField$Court", "growCourses", "(III)I"⟩, 18) := ⟨⟨by decide +kernel, by decide +kernel⟩, List.mem_of_getElem? (i := 396) (by decide +kernel), List.mem_of_getElem? (i := 1259) (by decide +kernel), List.mem_of_getElem? (i := 1260) (by decide +kernel)⟩
theorem lw_p46 : lw_okq (⟨"EarField$Court", "mayGo", "(II)Z"⟩, 18) := ⟨⟨by decide +kernel, by decide +kernel⟩, List.mem_of_getElem? (i := 396) (by decide +kernel), List.mem_of_getElem? (i := 1264) (by decide +kernel), List.mem_of_getElem? (i := 1265) (by decide +kernel)⟩
theorem lw_p47 : lw_okq (⟨"EarField$Court", "spotIn", "(II)I"⟩, 18) := ⟨⟨by decide +kernel, by decide +kernel⟩, List.mem_of_getElem? (i := 396) (by decide +kernel), List.mem_of_getElem? (i := 1276) (by decide +kernel), List.mem_of_getElem? (i := 1277) (by decide +kernel)⟩
def lw_privs_3 : List (MethodName × Nat) := [(⟨"EarField$Bearings", "aheadAt", "(II)I"⟩, 8), (⟨"EarField$Bearings", "hasLoopBelowZero", "()Z"⟩, 8), (⟨"EarField$Bearings", "disagreeing", "(II)I"⟩, 8), (⟨"EarField$Bearings", "isInReach", "(II)Z"⟩, 8), (⟨"EarField$Programs", "sumOfParts", "(LEarField$Box;)I"⟩, 5), (⟨"EarField$Programs", "getsPart", "(II)Z"⟩, 5), (⟨"EarField$Programs", "aheadOf", "(I)I"⟩, 5), (⟨"EarField$Programs", "give", "(LEarField$Box;LEarField$Box;I)V"⟩, 5), (⟨"EarField$Court", "logOf", "(II)I"⟩, 18), (⟨"EarField$Court", "weighSpots", "(I)V"⟩, 18), (⟨"EarField$Court", "missesAt", "(III)I"⟩, 18), (⟨"EarField$Court", "earHears", "(II)Z"⟩, 18), (⟨"EarField$Court", "missedAt", "(II)I"⟩, 18), (⟨"EarField$Court", "growCourses", "(III)I"⟩, 18), (⟨"EarField$Court", "mayGo", "(II)Z"⟩, 18), (⟨"EarField$Court", "spotIn", "(II)I"⟩, 18)]
theorem lw_r3 : ∀ q ∈ lw_privs_3, lw_okq q := List.forall_mem_cons.mpr ⟨lw_p32, List.forall_mem_cons.mpr ⟨lw_p33, List.forall_mem_cons.mpr ⟨lw_p34, List.forall_mem_cons.mpr ⟨lw_p35, List.forall_mem_cons.mpr ⟨lw_p36, List.forall_mem_cons.mpr ⟨lw_p37, List.forall_mem_cons.mpr ⟨lw_p38, List.forall_mem_cons.mpr ⟨lw_p39, List.forall_mem_cons.mpr ⟨lw_p40, List.forall_mem_cons.mpr ⟨lw_p41, List.forall_mem_cons.mpr ⟨lw_p42, List.forall_mem_cons.mpr ⟨lw_p43, List.forall_mem_cons.mpr ⟨lw_p44, List.forall_mem_cons.mpr ⟨lw_p45, List.forall_mem_cons.mpr ⟨lw_p46, List.forall_mem_cons.mpr ⟨lw_p47, fun _ h => absurd h List.not_mem_nil⟩⟩⟩⟩⟩⟩⟩⟩⟩⟩⟩⟩⟩⟩⟩⟩
theorem lw_p48 : lw_okq (⟨"EarField", "refusedClaim", "(IIIII)I"⟩, 7) := ⟨⟨by decide +kernel, by decide +kernel⟩, List.mem_of_getElem? (i := 23) (by decide +kernel), List.mem_of_getElem? (i := 1286) (by decide +kernel), List.mem_of_getElem? (i := 1287) (by decide +kernel)⟩
theorem lw_p49 : lw_okq (⟨"EarField$Court", "isSo", "(I)Z"⟩, 18) := ⟨⟨by decide +kernel, by decide +kernel⟩, List.mem_of_getElem? (i := 396) (by decide +kernel), List.mem_of_getElem? (i := 1299) (by decide +kernel), List.mem_of_getElem? (i := 1300) (by decide +kernel)⟩
theorem lw_p50 : lw_okq (⟨"EarField$Court", "someAgrees", "(I)Z"⟩, 18) := ⟨⟨by decide +kernel, by decide +kernel⟩, List.mem_of_getElem? (i := 396) (by decide +kernel), List.mem_of_getElem? (i := 1312) (by decide +kernel), List.mem_of_getElem? (i := 1313) (by decide +kernel)⟩
theorem lw_p51 : lw_okq (⟨"EarField$Court", "leastAround", "(I)I"⟩, 18) := ⟨⟨by decide +kernel, by decide +kernel⟩, List.mem_of_getElem? (i := 396) (by decide +kernel), List.mem_of_getElem? (i := 1316) (by decide +kernel), List.mem_of_getElem? (i := 1317) (by decide +kernel)⟩
theorem lw_p52 : lw_okq (⟨"EarField$Court", "isSettledBy", "(II)Z"⟩, 18) := ⟨⟨by decide +kernel, by decide +kernel⟩, List.mem_of_getElem? (i := 396) (by decide +kernel), List.mem_of_getElem? (i := 1328) (by decide +kernel), List.mem_of_getElem? (i := 1329) (by decide +kernel)⟩
theorem lw_p53 : lw_okq (⟨"EarField$Court", "matchSpots", "(I)V"⟩, 18) := ⟨⟨by decide +kernel, by decide +kernel⟩, List.mem_of_getElem? (i := 396) (by decide +kernel), List.mem_of_getElem? (i := 1332) (by decide +kernel), List.mem_of_getElem? (i := 1333) (by decide +kernel)⟩
theorem lw_p54 : lw_okq (⟨"EarField$Court", "wouldTell", "(III)I"⟩, 18) := ⟨⟨by decide +kernel, by decide +kernel⟩, List.mem_of_getElem? (i := 396) (by decide +kernel), List.mem_of_getElem? (i := 1336) (by decide +kernel), List.mem_of_getElem? (i := 1337) (by decide +kernel)⟩
theorem lw_p55 : lw_okq (⟨"EarField$Court", "heardPlace", "(I)I"⟩, 18) := ⟨⟨by decide +kernel, by decide +kernel⟩, List.mem_of_getElem? (i := 396) (by decide +kernel), List.mem_of_getElem? (i := 1340) (by decide +kernel), List.mem_of_getElem? (i := 1341) (by decide +kernel)⟩
theorem lw_p56 : lw_okq (⟨"EarFieldModel", "isBox", "(I)Z"⟩, 76) := ⟨⟨by decide +kernel, by decide +kernel⟩, List.mem_of_getElem? (i := 1353) (by decide +kernel), List.mem_of_getElem? (i := 1599) (by decide +kernel), List.mem_of_getElem? (i := 1600) (by decide +kernel)⟩
theorem lw_p57 : lw_okq (⟨"EarFieldModel", "countOf", "(I)I"⟩, 76) := ⟨⟨by decide +kernel, by decide +kernel⟩, List.mem_of_getElem? (i := 1353) (by decide +kernel), List.mem_of_getElem? (i := 1623) (by decide +kernel), List.mem_of_getElem? (i := 1624) (by decide +kernel)⟩
theorem lw_p58 : lw_okq (⟨"EarFieldModel", "local", "(II)I"⟩, 76) := ⟨⟨by decide +kernel, by decide +kernel⟩, List.mem_of_getElem? (i := 1353) (by decide +kernel), List.mem_of_getElem? (i := 1627) (by decide +kernel), List.mem_of_getElem? (i := 1628) (by decide +kernel)⟩
theorem lw_p59 : lw_okq (⟨"EarFieldModel", "isOn", "(II)Z"⟩, 76) := ⟨⟨by decide +kernel, by decide +kernel⟩, List.mem_of_getElem? (i := 1353) (by decide +kernel), List.mem_of_getElem? (i := 1631) (by decide +kernel), List.mem_of_getElem? (i := 1632) (by decide +kernel)⟩
theorem lw_p60 : lw_okq (⟨"EarFieldModel", "goRound", "()Z"⟩, 76) := ⟨⟨by decide +kernel, by decide +kernel⟩, List.mem_of_getElem? (i := 1353) (by decide +kernel), List.mem_of_getElem? (i := 1642) (by decide +kernel), List.mem_of_getElem? (i := 1643) (by decide +kernel)⟩
theorem lw_p61 : lw_okq (⟨"EarFieldModel", "areMates", "(II)Z"⟩, 76) := ⟨⟨by decide +kernel, by decide +kernel⟩, List.mem_of_getElem? (i := 1353) (by decide +kernel), List.mem_of_getElem? (i := 1646) (by decide +kernel), List.mem_of_getElem? (i := 1647) (by decide +kernel)⟩
theorem lw_p62 : lw_okq (⟨"EarFieldModel", "goTick", "(I)V"⟩, 76) := ⟨⟨by decide +kernel, by decide +kernel⟩, List.mem_of_getElem? (i := 1353) (by decide +kernel), List.mem_of_getElem? (i := 1662) (by decide +kernel), List.mem_of_getElem? (i := 1663) (by decide +kernel)⟩
theorem lw_p63 : lw_okq (⟨"EarFieldModel", "spend", "(II)V"⟩, 76) := ⟨⟨by decide +kernel, by decide +kernel⟩, List.mem_of_getElem? (i := 1353) (by decide +kernel), List.mem_of_getElem? (i := 1666) (by decide +kernel), List.mem_of_getElem? (i := 1667) (by decide +kernel)⟩
def lw_privs_4 : List (MethodName × Nat) := [(⟨"EarField", "refusedClaim", "(IIIII)I"⟩, 7), (⟨"EarField$Court", "isSo", "(I)Z"⟩, 18), (⟨"EarField$Court", "someAgrees", "(I)Z"⟩, 18), (⟨"EarField$Court", "leastAround", "(I)I"⟩, 18), (⟨"EarField$Court", "isSettledBy", "(II)Z"⟩, 18), (⟨"EarField$Court", "matchSpots", "(I)V"⟩, 18), (⟨"EarField$Court", "wouldTell", "(III)I"⟩, 18), (⟨"EarField$Court", "heardPlace", "(I)I"⟩, 18), (⟨"EarFieldModel", "isBox", "(I)Z"⟩, 76), (⟨"EarFieldModel", "countOf", "(I)I"⟩, 76), (⟨"EarFieldModel", "local", "(II)I"⟩, 76), (⟨"EarFieldModel", "isOn", "(II)Z"⟩, 76), (⟨"EarFieldModel", "goRound", "()Z"⟩, 76), (⟨"EarFieldModel", "areMates", "(II)Z"⟩, 76), (⟨"EarFieldModel", "goTick", "(I)V"⟩, 76), (⟨"EarFieldModel", "spend", "(II)V"⟩, 76)]
theorem lw_r4 : ∀ q ∈ lw_privs_4, lw_okq q := List.forall_mem_cons.mpr ⟨lw_p48, List.forall_mem_cons.mpr ⟨lw_p49, List.forall_mem_cons.mpr ⟨lw_p50, List.forall_mem_cons.mpr ⟨lw_p51, List.forall_mem_cons.mpr ⟨lw_p52, List.forall_mem_cons.mpr ⟨lw_p53, List.forall_mem_cons.mpr ⟨lw_p54, List.forall_mem_cons.mpr ⟨lw_p55, List.forall_mem_cons.mpr ⟨lw_p56, List.forall_mem_cons.mpr ⟨lw_p57, List.forall_mem_cons.mpr ⟨lw_p58, List.forall_mem_cons.mpr ⟨lw_p59, List.forall_mem_cons.mpr ⟨lw_p60, List.forall_mem_cons.mpr ⟨lw_p61, List.forall_mem_cons.mpr ⟨lw_p62, List.forall_mem_cons.mpr ⟨lw_p63, fun _ h => absurd h List.not_mem_nil⟩⟩⟩⟩⟩⟩⟩⟩⟩⟩⟩⟩⟩⟩⟩⟩
theorem lw_p64 : lw_okq (⟨"EarFieldModel", "beginEpoch", "(I)V"⟩, 76) := ⟨⟨by decide +kernel, by decide +kernel⟩, List.mem_of_getElem? (i := 1353) (by decide +kernel), List.mem_of_getElem? (i := 1670) (by decide +kernel), List.mem_of_getElem? (i := 1671) (by decide +kernel)⟩
theorem lw_p65 : lw_okq (⟨"EarFieldModel", "takeSums", "()I"⟩, 76) := ⟨⟨by decide +kernel, by decide +kernel⟩, List.mem_of_getElem? (i := 1353) (by decide +kernel), List.mem_of_getElem? (i := 1674) (by decide +kernel), List.mem_of_getElem? (i := 1675) (by decide +kernel)⟩
theorem lw_p66 : lw_okq (⟨"EarFieldModel", "emptySum", "(I)V"⟩, 76) := ⟨⟨by decide +kernel, by decide +kernel⟩, List.mem_of_getElem? (i := 1353) (by decide +kernel), List.mem_of_getElem? (i := 1678) (by decide +kernel), List.mem_of_getElem? (i := 1679) (by decide +kernel)⟩
theorem lw_p67 : lw_okq (⟨"EarFieldModel", "meets", "(II)Z"⟩, 76) := ⟨⟨by decide +kernel, by decide +kernel⟩, List.mem_of_getElem? (i := 1353) (by decide +kernel), List.mem_of_getElem? (i := 1682) (by decide +kernel), List.mem_of_getElem? (i := 1683) (by decide +kernel)⟩
theorem lw_p68 : lw_okq (⟨"EarFieldModel", "join", "(IIIIII)V"⟩, 76) := ⟨⟨by decide +kernel, by decide +kernel⟩, List.mem_of_getElem? (i := 1353) (by decide +kernel), List.mem_of_getElem? (i := 1686) (by decide +kernel), List.mem_of_getElem? (i := 1687) (by decide +kernel)⟩
theorem lw_p69 : lw_okq (⟨"EarFieldModel", "queueSums", "(I)V"⟩, 76) := ⟨⟨by decide +kernel, by decide +kernel⟩, List.mem_of_getElem? (i := 1353) (by decide +kernel), List.mem_of_getElem? (i := 1690) (by decide +kernel), List.mem_of_getElem? (i := 1691) (by decide +kernel)⟩
theorem lw_p70 : lw_okq (⟨"EarFieldModel", "speak", "()V"⟩, 76) := ⟨⟨by decide +kernel, by decide +kernel⟩, List.mem_of_getElem? (i := 1353) (by decide +kernel), List.mem_of_getElem? (i := 1694) (by decide +kernel), List.mem_of_getElem? (i := 1695) (by decide +kernel)⟩
theorem lw_p71 : lw_okq (⟨"EarFieldModel", "listen", "()V"⟩, 76) := ⟨⟨by decide +kernel, by decide +kernel⟩, List.mem_of_getElem? (i := 1353) (by decide +kernel), List.mem_of_getElem? (i := 1698) (by decide +kernel), List.mem_of_getElem? (i := 1699) (by decide +kernel)⟩
theorem lw_p72 : lw_okq (⟨"EarFieldModel", "deliver", "(I)V"⟩, 76) := ⟨⟨by decide +kernel, by decide +kernel⟩, List.mem_of_getElem? (i := 1353) (by decide +kernel), List.mem_of_getElem? (i := 1702) (by decide +kernel), List.mem_of_getElem? (i := 1703) (by decide +kernel)⟩
theorem lw_p73 : lw_okq (⟨"EarFieldModel", "getWord", "(II)V"⟩, 76) := ⟨⟨by decide +kernel, by decide +kernel⟩, List.mem_of_getElem? (i := 1353) (by decide +kernel), List.mem_of_getElem? (i := 1706) (by decide +kernel), List.mem_of_getElem? (i := 1707) (by decide +kernel)⟩
theorem lw_p74 : lw_okq (⟨"EarFieldModel", "putOnRow", "(II[I)V"⟩, 76) := ⟨⟨by decide +kernel, by decide +kernel⟩, List.mem_of_getElem? (i := 1353) (by decide +kernel), List.mem_of_getElem? (i := 1710) (by decide +kernel), List.mem_of_getElem? (i := 1711) (by decide +kernel)⟩
theorem lw_p75 : lw_okq (⟨"EarFieldModel", "isRead", "()Z"⟩, 76) := ⟨⟨by decide +kernel, by decide +kernel⟩, List.mem_of_getElem? (i := 1353) (by decide +kernel), List.mem_of_getElem? (i := 1735) (by decide +kernel), List.mem_of_getElem? (i := 1736) (by decide +kernel)⟩
theorem lw_p76 : lw_okq (⟨"EarFieldModel", "nextToken", "()V"⟩, 76) := ⟨⟨by decide +kernel, by decide +kernel⟩, List.mem_of_getElem? (i := 1353) (by decide +kernel), List.mem_of_getElem? (i := 1739) (by decide +kernel), List.mem_of_getElem? (i := 1740) (by decide +kernel)⟩
theorem lw_p77 : lw_okq (⟨"EarFieldModel", "isWord", "(J)Z"⟩, 76) := ⟨⟨by decide +kernel, by decide +kernel⟩, List.mem_of_getElem? (i := 1353) (by decide +kernel), List.mem_of_getElem? (i := 1748) (by decide +kernel), List.mem_of_getElem? (i := 1749) (by decide +kernel)⟩
theorem lw_p78 : lw_okq (⟨"EarFieldModel", "fails", "()Z"⟩, 76) := ⟨⟨by decide +kernel, by decide +kernel⟩, List.mem_of_getElem? (i := 1353) (by decide +kernel), List.mem_of_getElem? (i := 1755) (by decide +kernel), List.mem_of_getElem? (i := 1756) (by decide +kernel)⟩
theorem lw_p79 : lw_okq (⟨"EarFieldModel", "isNumber", "(II)Z"⟩, 76) := ⟨⟨by decide +kernel, by decide +kernel⟩, List.mem_of_getElem? (i := 1353) (by decide +kernel), List.mem_of_getElem? (i := 1764) (by decide +kernel), List.mem_of_getElem? (i := 1765) (by decide +kernel)⟩
def lw_privs_5 : List (MethodName × Nat) := [(⟨"EarFieldModel", "beginEpoch", "(I)V"⟩, 76), (⟨"EarFieldModel", "takeSums", "()I"⟩, 76), (⟨"EarFieldModel", "emptySum", "(I)V"⟩, 76), (⟨"EarFieldModel", "meets", "(II)Z"⟩, 76), (⟨"EarFieldModel", "join", "(IIIIII)V"⟩, 76), (⟨"EarFieldModel", "queueSums", "(I)V"⟩, 76), (⟨"EarFieldModel", "speak", "()V"⟩, 76), (⟨"EarFieldModel", "listen", "()V"⟩, 76), (⟨"EarFieldModel", "deliver", "(I)V"⟩, 76), (⟨"EarFieldModel", "getWord", "(II)V"⟩, 76), (⟨"EarFieldModel", "putOnRow", "(II[I)V"⟩, 76), (⟨"EarFieldModel", "isRead", "()Z"⟩, 76), (⟨"EarFieldModel", "nextToken", "()V"⟩, 76), (⟨"EarFieldModel", "isWord", "(J)Z"⟩, 76), (⟨"EarFieldModel", "fails", "()Z"⟩, 76), (⟨"EarFieldModel", "isNumber", "(II)Z"⟩, 76)]
theorem lw_r5 : ∀ q ∈ lw_privs_5, lw_okq q := List.forall_mem_cons.mpr ⟨lw_p64, List.forall_mem_cons.mpr ⟨lw_p65, List.forall_mem_cons.mpr ⟨lw_p66, List.forall_mem_cons.mpr ⟨lw_p67, List.forall_mem_cons.mpr ⟨lw_p68, List.forall_mem_cons.mpr ⟨lw_p69, List.forall_mem_cons.mpr ⟨lw_p70, List.forall_mem_cons.mpr ⟨lw_p71, List.forall_mem_cons.mpr ⟨lw_p72, List.forall_mem_cons.mpr ⟨lw_p73, List.forall_mem_cons.mpr ⟨lw_p74, List.forall_mem_cons.mpr ⟨lw_p75, List.forall_mem_cons.mpr ⟨lw_p76, List.forall_mem_cons.mpr ⟨lw_p77, List.forall_mem_cons.mpr ⟨lw_p78, List.forall_mem_cons.mpr ⟨lw_p79, fun _ h => absurd h List.not_mem_nil⟩⟩⟩⟩⟩⟩⟩⟩⟩⟩⟩⟩⟩⟩⟩⟩
theorem lw_p80 : lw_okq (⟨"EarFieldModel", "childrenOf", "(I)I"⟩, 76) := ⟨⟨by decide +kernel, by decide +kernel⟩, List.mem_of_getElem? (i := 1353) (by decide +kernel), List.mem_of_getElem? (i := 1793) (by decide +kernel), List.mem_of_getElem? (i := 1794) (by decide +kernel)⟩
theorem lw_p81 : lw_okq (⟨"EarFieldModel", "foretoldFor", "(IIZI)I"⟩, 76) := ⟨⟨by decide +kernel, by decide +kernel⟩, List.mem_of_getElem? (i := 1353) (by decide +kernel), List.mem_of_getElem? (i := 1797) (by decide +kernel), List.mem_of_getElem? (i := 1798) (by decide +kernel)⟩
theorem lw_p82 : lw_okq (⟨"EarFieldModel", "isEpoch", "(I)Z"⟩, 76) := ⟨⟨by decide +kernel, by decide +kernel⟩, List.mem_of_getElem? (i := 1353) (by decide +kernel), List.mem_of_getElem? (i := 1801) (by decide +kernel), List.mem_of_getElem? (i := 1802) (by decide +kernel)⟩
theorem lw_p83 : lw_okq (⟨"EarFieldModel", "lifeFor", "(IZI)I"⟩, 76) := ⟨⟨by decide +kernel, by decide +kernel⟩, List.mem_of_getElem? (i := 1353) (by decide +kernel), List.mem_of_getElem? (i := 1809) (by decide +kernel), List.mem_of_getElem? (i := 1810) (by decide +kernel)⟩
theorem lw_p84 : lw_okq (⟨"EarFieldModel", "findLongest", "()Z"⟩, 76) := ⟨⟨by decide +kernel, by decide +kernel⟩, List.mem_of_getElem? (i := 1353) (by decide +kernel), List.mem_of_getElem? (i := 1817) (by decide +kernel), List.mem_of_getElem? (i := 1818) (by decide +kernel)⟩
theorem lw_p85 : lw_okq (⟨"EarFieldModel", "findHome", "()V"⟩, 76) := ⟨⟨by decide +kernel, by decide +kernel⟩, List.mem_of_getElem? (i := 1353) (by decide +kernel), List.mem_of_getElem? (i := 1821) (by decide +kernel), List.mem_of_getElem? (i := 1822) (by decide +kernel)⟩
theorem lw_p86 : lw_okq (⟨"EarFieldModel", "mayLead", "(II)Z"⟩, 76) := ⟨⟨by decide +kernel, by decide +kernel⟩, List.mem_of_getElem? (i := 1353) (by decide +kernel), List.mem_of_getElem? (i := 1825) (by decide +kernel), List.mem_of_getElem? (i := 1826) (by decide +kernel)⟩
theorem lw_p87 : lw_okq (⟨"EarFieldModel", "firstFor", "(I)I"⟩, 76) := ⟨⟨by decide +kernel, by decide +kernel⟩, List.mem_of_getElem? (i := 1353) (by decide +kernel), List.mem_of_getElem? (i := 1829) (by decide +kernel), List.mem_of_getElem? (i := 1830) (by decide +kernel)⟩
theorem lw_p88 : lw_okq (⟨"EarFieldModel", "leastLife", "()I"⟩, 76) := ⟨⟨by decide +kernel, by decide +kernel⟩, List.mem_of_getElem? (i := 1353) (by decide +kernel), List.mem_of_getElem? (i := 1834) (by decide +kernel), List.mem_of_getElem? (i := 1835) (by decide +kernel)⟩
theorem lw_p89 : lw_okq (⟨"EarFieldModel", "hasNextTree", "()Z"⟩, 76) := ⟨⟨by decide +kernel, by decide +kernel⟩, List.mem_of_getElem? (i := 1353) (by decide +kernel), List.mem_of_getElem? (i := 1838) (by decide +kernel), List.mem_of_getElem? (i := 1839) (by decide +kernel)⟩
theorem lw_p90 : lw_okq (⟨"EarFieldModel", "canBe", "(I)Z"⟩, 76) := ⟨⟨by decide +kernel, by decide +kernel⟩, List.mem_of_getElem? (i := 1353) (by decide +kernel), List.mem_of_getElem? (i := 1858) (by decide +kernel), List.mem_of_getElem? (i := 1859) (by decide +kernel)⟩
theorem lw_p91 : lw_okq (⟨"EarFieldModel", "lessen", "(III)V"⟩, 76) := ⟨⟨by decide +kernel, by decide +kernel⟩, List.mem_of_getElem? (i := 1353) (by decide +kernel), List.mem_of_getElem? (i := 1862) (by decide +kernel), List.mem_of_getElem? (i := 1863) (by decide +kernel)⟩
theorem lw_p92 : lw_okq (⟨"EarFieldModel", "partFor", "(II)I"⟩, 76) := ⟨⟨by decide +kernel, by decide +kernel⟩, List.mem_of_getElem? (i := 1353) (by decide +kernel), List.mem_of_getElem? (i := 1883) (by decide +kernel), List.mem_of_getElem? (i := 1884) (by decide +kernel)⟩
theorem lw_p93 : lw_okq (⟨"EarFieldModel", "isSound", "(I)Z"⟩, 76) := ⟨⟨by decide +kernel, by decide +kernel⟩, List.mem_of_getElem? (i := 1353) (by decide +kernel), List.mem_of_getElem? (i := 1895) (by decide +kernel), List.mem_of_getElem? (i := 1896) (by decide +kernel)⟩
theorem lw_p94 : lw_okq (⟨"EarFieldModel", "isDay", "(I)Z"⟩, 76) := ⟨⟨by decide +kernel, by decide +kernel⟩, List.mem_of_getElem? (i := 1353) (by decide +kernel), List.mem_of_getElem? (i := 1922) (by decide +kernel), List.mem_of_getElem? (i := 1923) (by decide +kernel)⟩
theorem lw_p95 : lw_okq (⟨"EarFieldModel", "findCourses", "(I)V"⟩, 76) := ⟨⟨by decide +kernel, by decide +kernel⟩, List.mem_of_getElem? (i := 1353) (by decide +kernel), List.mem_of_getElem? (i := 1934) (by decide +kernel), List.mem_of_getElem? (i := 1935) (by decide +kernel)⟩
def lw_privs_6 : List (MethodName × Nat) := [(⟨"EarFieldModel", "childrenOf", "(I)I"⟩, 76), (⟨"EarFieldModel", "foretoldFor", "(IIZI)I"⟩, 76), (⟨"EarFieldModel", "isEpoch", "(I)Z"⟩, 76), (⟨"EarFieldModel", "lifeFor", "(IZI)I"⟩, 76), (⟨"EarFieldModel", "findLongest", "()Z"⟩, 76), (⟨"EarFieldModel", "findHome", "()V"⟩, 76), (⟨"EarFieldModel", "mayLead", "(II)Z"⟩, 76), (⟨"EarFieldModel", "firstFor", "(I)I"⟩, 76), (⟨"EarFieldModel", "leastLife", "()I"⟩, 76), (⟨"EarFieldModel", "hasNextTree", "()Z"⟩, 76), (⟨"EarFieldModel", "canBe", "(I)Z"⟩, 76), (⟨"EarFieldModel", "lessen", "(III)V"⟩, 76), (⟨"EarFieldModel", "partFor", "(II)I"⟩, 76), (⟨"EarFieldModel", "isSound", "(I)Z"⟩, 76), (⟨"EarFieldModel", "isDay", "(I)Z"⟩, 76), (⟨"EarFieldModel", "findCourses", "(I)V"⟩, 76)]
theorem lw_r6 : ∀ q ∈ lw_privs_6, lw_okq q := List.forall_mem_cons.mpr ⟨lw_p80, List.forall_mem_cons.mpr ⟨lw_p81, List.forall_mem_cons.mpr ⟨lw_p82, List.forall_mem_cons.mpr ⟨lw_p83, List.forall_mem_cons.mpr ⟨lw_p84, List.forall_mem_cons.mpr ⟨lw_p85, List.forall_mem_cons.mpr ⟨lw_p86, List.forall_mem_cons.mpr ⟨lw_p87, List.forall_mem_cons.mpr ⟨lw_p88, List.forall_mem_cons.mpr ⟨lw_p89, List.forall_mem_cons.mpr ⟨lw_p90, List.forall_mem_cons.mpr ⟨lw_p91, List.forall_mem_cons.mpr ⟨lw_p92, List.forall_mem_cons.mpr ⟨lw_p93, List.forall_mem_cons.mpr ⟨lw_p94, List.forall_mem_cons.mpr ⟨lw_p95, fun _ h => absurd h List.not_mem_nil⟩⟩⟩⟩⟩⟩⟩⟩⟩⟩⟩⟩⟩⟩⟩⟩
theorem lw_p96 : lw_okq (⟨"EarFieldModel", "allCourses", "()I"⟩, 76) := ⟨⟨by decide +kernel, by decide +kernel⟩, List.mem_of_getElem? (i := 1353) (by decide +kernel), List.mem_of_getElem? (i := 1938) (by decide +kernel), List.mem_of_getElem? (i := 1939) (by decide +kernel)⟩
theorem lw_p97 : lw_okq (⟨"EarFieldModel", "agrees", "(II)Z"⟩, 76) := ⟨⟨by decide +kernel, by decide +kernel⟩, List.mem_of_getElem? (i := 1353) (by decide +kernel), List.mem_of_getElem? (i := 1942) (by decide +kernel), List.mem_of_getElem? (i := 1943) (by decide +kernel)⟩
theorem lw_p98 : lw_okq (⟨"EarFieldModel", "spotOf", "(II)I"⟩, 76) := ⟨⟨by decide +kernel, by decide +kernel⟩, List.mem_of_getElem? (i := 1353) (by decide +kernel), List.mem_of_getElem? (i := 1946) (by decide +kernel), List.mem_of_getElem? (i := 1947) (by decide +kernel)⟩
theorem lw_p99 : lw_okq (⟨"EarFieldModel", "wrongClaim", "(IIIII)I"⟩, 76) := ⟨⟨by decide +kernel, by decide +kernel⟩, List.mem_of_getElem? (i := 1353) (by decide +kernel), List.mem_of_getElem? (i := 1958) (by decide +kernel), List.mem_of_getElem? (i := 1959) (by decide +kernel)⟩
theorem lw_p100 : lw_okq (⟨"EarFieldModel", "isSo", "(IIIIII)Z"⟩, 76) := ⟨⟨by decide +kernel, by decide +kernel⟩, List.mem_of_getElem? (i := 1353) (by decide +kernel), List.mem_of_getElem? (i := 1962) (by decide +kernel), List.mem_of_getElem? (i := 1963) (by decide +kernel)⟩
theorem lw_p101 : lw_okq (⟨"EarFieldModel", "settles", "(IIIIII)Z"⟩, 76) := ⟨⟨by decide +kernel, by decide +kernel⟩, List.mem_of_getElem? (i := 1353) (by decide +kernel), List.mem_of_getElem? (i := 1974) (by decide +kernel), List.mem_of_getElem? (i := 1975) (by decide +kernel)⟩
theorem lw_p102 : lw_okq (⟨"EarFieldModel", "told", "(II)I"⟩, 76) := ⟨⟨by decide +kernel, by decide +kernel⟩, List.mem_of_getElem? (i := 1353) (by decide +kernel), List.mem_of_getElem? (i := 1978) (by decide +kernel), List.mem_of_getElem? (i := 1979) (by decide +kernel)⟩
def lw_privs_7 : List (MethodName × Nat) := [(⟨"EarFieldModel", "allCourses", "()I"⟩, 76), (⟨"EarFieldModel", "agrees", "(II)Z"⟩, 76), (⟨"EarFieldModel", "spotOf", "(II)I"⟩, 76), (⟨"EarFieldModel", "wrongClaim", "(IIIII)I"⟩, 76), (⟨"EarFieldModel", "isSo", "(IIIIII)Z"⟩, 76), (⟨"EarFieldModel", "settles", "(IIIIII)Z"⟩, 76), (⟨"EarFieldModel", "told", "(II)I"⟩, 76)]
theorem lw_r7 : ∀ q ∈ lw_privs_7, lw_okq q := List.forall_mem_cons.mpr ⟨lw_p96, List.forall_mem_cons.mpr ⟨lw_p97, List.forall_mem_cons.mpr ⟨lw_p98, List.forall_mem_cons.mpr ⟨lw_p99, List.forall_mem_cons.mpr ⟨lw_p100, List.forall_mem_cons.mpr ⟨lw_p101, List.forall_mem_cons.mpr ⟨lw_p102, fun _ h => absurd h List.not_mem_nil⟩⟩⟩⟩⟩⟩⟩
def lw_privs : List (MethodName × Nat) := lw_privs_1 ++ (lw_privs_2 ++ (lw_privs_3 ++ (lw_privs_4 ++ (lw_privs_5 ++ (lw_privs_6 ++ (lw_privs_7))))))
def lw_tbl : List Cond := k2_sels lw_privs ++ tables_1
theorem lw_privs_ok : ∀ q ∈ lw_privs, lw_okq q := by
  show ∀ q ∈ lw_privs_1 ++ (lw_privs_2 ++ (lw_privs_3 ++ (lw_privs_4 ++ (lw_privs_5 ++ (lw_privs_6 ++ (lw_privs_7)))))), lw_okq q
  exact List.forall_mem_append.mpr ⟨lw_r1, List.forall_mem_append.mpr ⟨lw_r2, List.forall_mem_append.mpr ⟨lw_r3, List.forall_mem_append.mpr ⟨lw_r4, List.forall_mem_append.mpr ⟨lw_r5, List.forall_mem_append.mpr ⟨lw_r6, lw_r7⟩⟩⟩⟩⟩⟩

def RX0 : String := "EarField$Air"
def TX0 : u_T := fun k => match k with
  | 0 => ("EarField$Air", "boxes", "LEarField$Boxes;", true)
  | 1 => ("EarField$Air", "question", "LEarField$Question;", true)
  | 2 => ("EarField$Air", "result", "LEarField$Sum;", true)
  | 3 => ("EarField$Air", "tally", "[I", true)
  | 4 => ("EarField$Air", "keptWords", "[I", true)
  | 5 => ("EarField$Air", "keptMany", "I", false)
  | 6 => ("EarField$Air", "epochTick", "I", false)
  | 7 => ("EarField$Air", "living", "I", false)
  | 8 => ("EarField$Air", "awake", "I", false)
  | _ => ("EarField$Air", "sayers", "I", false)
def tyX0 : Nat → FieldType := fun k => match k with
  | 0 => .object "EarField$Boxes"
  | 1 => .object "EarField$Question"
  | 2 => .object "EarField$Sum"
  | 3 => .array .int
  | 4 => .array .int
  | 5 => .int
  | 6 => .int
  | 7 => .int
  | 8 => .int
  | _ => .int
theorem nmX0 : ∀ a, a < 10 → ∀ b, b < 10 → a ≠ b → (TX0 a).2.1 ≠ (TX0 b).2.1 := by decide +kernel
theorem tyX0_ok : ∀ k, k < 10 → parseFieldDescriptor (TX0 k).2.2.1 = some (tyX0 k) := by decide +kernel
abbrev cX0_init : ByteArray := prog_2_method_1_code
def yX0_init : MethodName := ⟨RX0, "<init>", "(LEarField$Boxes;)V"⟩
abbrev cX0_told : ByteArray := prog_2_method_2_code
def yX0_told : MethodName := ⟨RX0, "told", "(I)I"⟩
abbrev cX0_wordKept : ByteArray := prog_2_method_3_code
def yX0_wordKept : MethodName := ⟨RX0, "wordKept", "(I)I"⟩
abbrev cX0_pose : ByteArray := prog_2_method_4_code
def yX0_pose : MethodName := ⟨RX0, "pose", "(LEarField$Question;)V"⟩
abbrev cX0_pass : ByteArray := prog_2_method_5_code
def yX0_pass : MethodName := ⟨RX0, "pass", "()V"⟩
abbrev cX0_spendRest : ByteArray := prog_2_method_6_code
def yX0_spendRest : MethodName := ⟨RX0, "spendRest", "()V"⟩
abbrev cX0_beginEpoch : ByteArray := prog_2_method_7_code
def yX0_beginEpoch : MethodName := ⟨RX0, "beginEpoch", "()V"⟩
abbrev cX0_startSum : ByteArray := prog_2_method_8_code
def yX0_startSum : MethodName := ⟨RX0, "startSum", "(LEarField$Box;)V"⟩
abbrev cX0_queueSums : ByteArray := prog_2_method_9_code
def yX0_queueSums : MethodName := ⟨RX0, "queueSums", "()V"⟩
abbrev cX0_speak : ByteArray := prog_2_method_10_code
def yX0_speak : MethodName := ⟨RX0, "speak", "()V"⟩
abbrev cX0_spendHearing : ByteArray := prog_2_method_11_code
def yX0_spendHearing : MethodName := ⟨RX0, "spendHearing", "()V"⟩
abbrev cX0_carry : ByteArray := prog_2_method_12_code
def yX0_carry : MethodName := ⟨RX0, "carry", "(I)V"⟩
abbrev cX0_whyLost : ByteArray := prog_2_method_13_code
def yX0_whyLost : MethodName := ⟨RX0, "whyLost", "(LEarField$Box;I)I"⟩
abbrev cX0_give : ByteArray := prog_2_method_14_code
def yX0_give : MethodName := ⟨RX0, "give", "(LEarField$Row;LEarField$Box;)V"⟩
abbrev cX0_keepWord : ByteArray := prog_2_method_15_code
def yX0_keepWord : MethodName := ⟨RX0, "keepWord", "(I)V"⟩
abbrev cX0_isIn : ByteArray := prog_2_method_16_code
def yX0_isIn : MethodName := ⟨RX0, "isIn", "(II)Z"⟩
def RX1 : String := "EarField$Bearings"
def TX1 : u_T := fun k => match k with
  | 0 => ("EarField$Bearings", "boxes", "LEarField$Boxes;", true)
  | 1 => ("EarField$Bearings", "tellers", "[I", true)
  | 2 => ("EarField$Bearings", "from", "[I", true)
  | 3 => ("EarField$Bearings", "to", "[I", true)
  | 4 => ("EarField$Bearings", "least", "[I", true)
  | 5 => ("EarField$Bearings", "most", "[I", true)
  | 6 => ("EarField$Bearings", "facts", "I", false)
  | _ => ("EarField$Bearings", "ahead", "[I", true)
def tyX1 : Nat → FieldType := fun k => match k with
  | 0 => .object "EarField$Boxes"
  | 1 => .array .int
  | 2 => .array .int
  | 3 => .array .int
  | 4 => .array .int
  | 5 => .array .int
  | 6 => .int
  | _ => .array .int
theorem nmX1 : ∀ a, a < 8 → ∀ b, b < 8 → a ≠ b → (TX1 a).2.1 ≠ (TX1 b).2.1 := by decide +kernel
theorem tyX1_ok : ∀ k, k < 8 → parseFieldDescriptor (TX1 k).2.2.1 = some (tyX1 k) := by decide +kernel
abbrev cX1_init : ByteArray := prog_3_method_1_code
def yX1_init : MethodName := ⟨RX1, "<init>", "(LEarField$Boxes;)V"⟩
abbrev cX1_addFact : ByteArray := prog_3_method_2_code
def yX1_addFact : MethodName := ⟨RX1, "addFact", "(IIIII)I"⟩
abbrev cX1_aheadOfRoot : ByteArray := prog_3_method_3_code
def yX1_aheadOfRoot : MethodName := ⟨RX1, "aheadOfRoot", "(IIZ)I"⟩
abbrev cX1_allTellers : ByteArray := prog_3_method_4_code
def yX1_allTellers : MethodName := ⟨RX1, "allTellers", "()I"⟩
abbrev cX1_aheadAt : ByteArray := prog_3_method_5_code
def yX1_aheadAt : MethodName := ⟨RX1, "aheadAt", "(II)I"⟩
abbrev cX1_lower : ByteArray := prog_3_method_6_code
def yX1_lower : MethodName := ⟨RX1, "lower", "(III)V"⟩
abbrev cX1_canBeWithout : ByteArray := prog_3_method_7_code
def yX1_canBeWithout : MethodName := ⟨RX1, "canBeWithout", "(I)Z"⟩
abbrev cX1_goOver : ByteArray := prog_3_method_8_code
def yX1_goOver : MethodName := ⟨RX1, "goOver", "(II)V"⟩
abbrev cX1_hasLoopBelowZero : ByteArray := prog_3_method_9_code
def yX1_hasLoopBelowZero : MethodName := ⟨RX1, "hasLoopBelowZero", "()Z"⟩
abbrev cX1_mayBe : ByteArray := prog_3_method_10_code
def yX1_mayBe : MethodName := ⟨RX1, "mayBe", "(II)J"⟩
abbrev cX1_disagreeing : ByteArray := prog_3_method_11_code
def yX1_disagreeing : MethodName := ⟨RX1, "disagreeing", "(II)I"⟩
abbrev cX1_isInReach : ByteArray := prog_3_method_12_code
def yX1_isInReach : MethodName := ⟨RX1, "isInReach", "(II)Z"⟩
def RX2 : String := "EarField$Box"
def TX2 : u_T := fun k => match k with
  | 0 => ("EarField$Box", "number", "I", true)
  | 1 => ("EarField$Box", "branch", "I", false)
  | 2 => ("EarField$Box", "power", "I", false)
  | 3 => ("EarField$Box", "period", "I", false)
  | 4 => ("EarField$Box", "sleepRow", "I", false)
  | 5 => ("EarField$Box", "drift", "I", false)
  | 6 => ("EarField$Box", "offset", "I", false)
  | 7 => ("EarField$Box", "parent", "I", false)
  | 8 => ("EarField$Box", "count", "I", false)
  | 9 => ("EarField$Box", "ears", "I", false)
  | 10 => ("EarField$Box", "lie", "I", false)
  | 11 => ("EarField$Box", "cell", "I", false)
  | 12 => ("EarField$Box", "loudness", "[I", true)
  | 13 => ("EarField$Box", "sum", "LEarField$Sum;", true)
  | 14 => ("EarField$Box", "sumSaid", "Z", false)
  | 15 => ("EarField$Box", "row", "LEarField$Row;", true)
  | 16 => ("EarField$Box", "parts", "I", false)
  | 17 => ("EarField$Box", "partValues", "[I", true)
  | _ => ("EarField$Box", "runs", "I", false)
def tyX2 : Nat → FieldType := fun k => match k with
  | 0 => .int
  | 1 => .int
  | 2 => .int
  | 3 => .int
  | 4 => .int
  | 5 => .int
  | 6 => .int
  | 7 => .int
  | 8 => .int
  | 9 => .int
  | 10 => .int
  | 11 => .int
  | 12 => .array .int
  | 13 => .object "EarField$Sum"
  | 14 => .boolean
  | 15 => .object "EarField$Row"
  | 16 => .int
  | 17 => .array .int
  | _ => .int
theorem nmX2 : ∀ a, a < 19 → ∀ b, b < 19 → a ≠ b → (TX2 a).2.1 ≠ (TX2 b).2.1 := by decide +kernel
theorem tyX2_ok : ∀ k, k < 19 → parseFieldDescriptor (TX2 k).2.2.1 = some (tyX2 k) := by decide +kernel
abbrev cX2_init : ByteArray := prog_4_method_1_code
def yX2_init : MethodName := ⟨RX2, "<init>", "(I)V"⟩
abbrev cX2_isDead : ByteArray := prog_4_method_2_code
def yX2_isDead : MethodName := ⟨RX2, "isDead", "()Z"⟩
abbrev cX2_spend : ByteArray := prog_4_method_3_code
def yX2_spend : MethodName := ⟨RX2, "spend", "(I)V"⟩
abbrev cX2_localHour : ByteArray := prog_4_method_4_code
def yX2_localHour : MethodName := ⟨RX2, "localHour", "(I)I"⟩
abbrev cX2_rowWakes : ByteArray := prog_4_method_5_code
def yX2_rowWakes : MethodName := ⟨RX2, "rowWakes", "(I)Z"⟩
abbrev cX2_isAwake : ByteArray := prog_4_method_6_code
def yX2_isAwake : MethodName := ⟨RX2, "isAwake", "(I)Z"⟩
abbrev cX2_countNow : ByteArray := prog_4_method_7_code
def yX2_countNow : MethodName := ⟨RX2, "countNow", "()I"⟩
abbrev cX2_hearsBox : ByteArray := prog_4_method_8_code
def yX2_hearsBox : MethodName := ⟨RX2, "hearsBox", "(I)Z"⟩
abbrev cX2_loudAt : ByteArray := prog_4_method_9_code
def yX2_loudAt : MethodName := ⟨RX2, "loudAt", "(I)I"⟩
abbrev cX2_hasUnsaidSum : ByteArray := prog_4_method_10_code
def yX2_hasUnsaidSum : MethodName := ⟨RX2, "hasUnsaidSum", "()Z"⟩
abbrev cX2_forgetSums : ByteArray := prog_4_method_11_code
def yX2_forgetSums : MethodName := ⟨RX2, "forgetSums", "()I"⟩
abbrev cX2_partValue : ByteArray := prog_4_method_12_code
def yX2_partValue : MethodName := ⟨RX2, "partValue", "(I)I"⟩
abbrev cX2_takePart : ByteArray := prog_4_method_13_code
def yX2_takePart : MethodName := ⟨RX2, "takePart", "(II)V"⟩
def RX3 : String := "EarField$Boxes"
def TX3 : u_T := fun k => match k with
  | 0 => ("EarField$Boxes", "all", "[LEarField$Box;", true)
  | 1 => ("EarField$Boxes", "settings", "[I", true)
  | 2 => ("EarField$Boxes", "nextCount", "[I", true)
  | 3 => ("EarField$Boxes", "nextParent", "[I", true)
  | 4 => ("EarField$Boxes", "many", "I", false)
  | _ => ("EarField$Boxes", "tick", "I", false)
def tyX3 : Nat → FieldType := fun k => match k with
  | 0 => .array (.object "EarField$Box")
  | 1 => .array .int
  | 2 => .array .int
  | 3 => .array .int
  | 4 => .int
  | _ => .int
theorem nmX3 : ∀ a, a < 6 → ∀ b, b < 6 → a ≠ b → (TX3 a).2.1 ≠ (TX3 b).2.1 := by decide +kernel
theorem tyX3_ok : ∀ k, k < 6 → parseFieldDescriptor (TX3 k).2.2.1 = some (tyX3 k) := by decide +kernel
abbrev cX3_init : ByteArray := prog_5_method_1_code
def yX3_init : MethodName := ⟨RX3, "<init>", "()V"⟩
abbrev cX3_knows : ByteArray := prog_5_method_2_code
def yX3_knows : MethodName := ⟨RX3, "knows", "(I)Z"⟩
abbrev cX3_of : ByteArray := prog_5_method_3_code
def yX3_of : MethodName := ⟨RX3, "of", "(I)LEarField$Box;"⟩
abbrev cX3_add : ByteArray := prog_5_method_4_code
def yX3_add : MethodName := ⟨RX3, "add", "(II)I"⟩
abbrev cX3_maySet : ByteArray := prog_5_method_5_code
def yX3_maySet : MethodName := ⟨RX3, "maySet", "(II)Z"⟩
abbrev cX3_setting : ByteArray := prog_5_method_6_code
def yX3_setting : MethodName := ⟨RX3, "setting", "(I)I"⟩
abbrev cX3_change : ByteArray := prog_5_method_7_code
def yX3_change : MethodName := ⟨RX3, "change", "(II)V"⟩
abbrev cX3_countLiving : ByteArray := prog_5_method_8_code
def yX3_countLiving : MethodName := ⟨RX3, "countLiving", "()I"⟩
abbrev cX3_living : ByteArray := prog_5_method_9_code
def yX3_living : MethodName := ⟨RX3, "living", "()I"⟩
abbrev cX3_friends : ByteArray := prog_5_method_10_code
def yX3_friends : MethodName := ⟨RX3, "friends", "(I)I"⟩
abbrev cX3_children : ByteArray := prog_5_method_11_code
def yX3_children : MethodName := ⟨RX3, "children", "(I)I"⟩
abbrev cX3_deepest : ByteArray := prog_5_method_12_code
def yX3_deepest : MethodName := ⟨RX3, "deepest", "()I"⟩
abbrev cX3_mend : ByteArray := prog_5_method_13_code
def yX3_mend : MethodName := ⟨RX3, "mend", "()Z"⟩
abbrev cX3_lookHome : ByteArray := prog_5_method_14_code
def yX3_lookHome : MethodName := ⟨RX3, "lookHome", "(II)V"⟩
abbrev cX3_countRings : ByteArray := prog_5_method_15_code
def yX3_countRings : MethodName := ⟨RX3, "countRings", "()I"⟩
abbrev cX3_isLeastOfRing : ByteArray := prog_5_method_16_code
def yX3_isLeastOfRing : MethodName := ⟨RX3, "isLeastOfRing", "(I)Z"⟩
def RX4 : String := "EarField$Court"
def TX4 : u_T := fun k => match k with
  | 0 => ("EarField$Court", "boxes", "LEarField$Boxes;", true)
  | 1 => ("EarField$Court", "length", "I", false)
  | 2 => ("EarField$Court", "liarSet", "I", false)
  | 3 => ("EarField$Court", "earSpots", "[I", true)
  | 4 => ("EarField$Court", "logs", "[I", true)
  | 5 => ("EarField$Court", "ways", "[I", true)
  | 6 => ("EarField$Court", "missed", "[I", true)
  | 7 => ("EarField$Court", "alike", "[I", true)
  | 8 => ("EarField$Court", "least", "[I", false)
  | 9 => ("EarField$Court", "leastNext", "[I", false)
  | 10 => ("EarField$Court", "found", "[I", true)
  | 11 => ("EarField$Court", "growing", "[I", true)
  | 12 => ("EarField$Court", "heardAs", "[I", true)
  | 13 => ("EarField$Court", "sort", "I", false)
  | 14 => ("EarField$Court", "firstSpot", "I", false)
  | 15 => ("EarField$Court", "laterSpot", "I", false)
  | 16 => ("EarField$Court", "fromTick", "I", false)
  | _ => ("EarField$Court", "toTick", "I", false)
def tyX4 : Nat → FieldType := fun k => match k with
  | 0 => .object "EarField$Boxes"
  | 1 => .int
  | 2 => .int
  | 3 => .array .int
  | 4 => .array .int
  | 5 => .array .int
  | 6 => .array .int
  | 7 => .array .int
  | 8 => .array .int
  | 9 => .array .int
  | 10 => .array .int
  | 11 => .array .int
  | 12 => .array .int
  | 13 => .int
  | 14 => .int
  | 15 => .int
  | 16 => .int
  | _ => .int
theorem nmX4 : ∀ a, a < 18 → ∀ b, b < 18 → a ≠ b → (TX4 a).2.1 ≠ (TX4 b).2.1 := by decide +kernel
theorem tyX4_ok : ∀ k, k < 18 → parseFieldDescriptor (TX4 k).2.2.1 = some (tyX4 k) := by decide +kernel
abbrev cX4_init : ByteArray := prog_6_method_1_code
def yX4_init : MethodName := ⟨RX4, "<init>", "(LEarField$Boxes;)V"⟩
abbrev cX4_hasSpot : ByteArray := prog_6_method_2_code
def yX4_hasSpot : MethodName := ⟨RX4, "hasSpot", "(I)Z"⟩
abbrev cX4_hasEar : ByteArray := prog_6_method_3_code
def yX4_hasEar : MethodName := ⟨RX4, "hasEar", "(I)Z"⟩
abbrev cX4_hasTick : ByteArray := prog_6_method_4_code
def yX4_hasTick : MethodName := ⟨RX4, "hasTick", "(I)Z"⟩
abbrev cX4_sitFor : ByteArray := prog_6_method_5_code
def yX4_sitFor : MethodName := ⟨RX4, "sitFor", "(I)V"⟩
abbrev cX4_layWay : ByteArray := prog_6_method_6_code
def yX4_layWay : MethodName := ⟨RX4, "layWay", "(IIZ)I"⟩
abbrev cX4_logOf : ByteArray := prog_6_method_7_code
def yX4_logOf : MethodName := ⟨RX4, "logOf", "(II)I"⟩
abbrev cX4_writeLog : ByteArray := prog_6_method_8_code
def yX4_writeLog : MethodName := ⟨RX4, "writeLog", "(III)I"⟩
abbrev cX4_earHears : ByteArray := prog_6_method_9_code
def yX4_earHears : MethodName := ⟨RX4, "earHears", "(II)Z"⟩
abbrev cX4_weighSpots : ByteArray := prog_6_method_10_code
def yX4_weighSpots : MethodName := ⟨RX4, "weighSpots", "(I)V"⟩
abbrev cX4_missesAt : ByteArray := prog_6_method_11_code
def yX4_missesAt : MethodName := ⟨RX4, "missesAt", "(III)I"⟩
abbrev cX4_missedAt : ByteArray := prog_6_method_12_code
def yX4_missedAt : MethodName := ⟨RX4, "missedAt", "(II)I"⟩
abbrev cX4_mayGo : ByteArray := prog_6_method_13_code
def yX4_mayGo : MethodName := ⟨RX4, "mayGo", "(II)Z"⟩
abbrev cX4_listCourses : ByteArray := prog_6_method_14_code
def yX4_listCourses : MethodName := ⟨RX4, "listCourses", "()I"⟩
abbrev cX4_growCourses : ByteArray := prog_6_method_15_code
def yX4_growCourses : MethodName := ⟨RX4, "growCourses", "(III)I"⟩
abbrev cX4_spotIn : ByteArray := prog_6_method_16_code
def yX4_spotIn : MethodName := ⟨RX4, "spotIn", "(II)I"⟩
abbrev cX4_spotOfCourse : ByteArray := prog_6_method_17_code
def yX4_spotOfCourse : MethodName := ⟨RX4, "spotOfCourse", "(II)I"⟩
abbrev cX4_claim : ByteArray := prog_6_method_18_code
def yX4_claim : MethodName := ⟨RX4, "claim", "(IIIII)V"⟩
abbrev cX4_isSo : ByteArray := prog_6_method_19_code
def yX4_isSo : MethodName := ⟨RX4, "isSo", "(I)Z"⟩
abbrev cX4_verdict : ByteArray := prog_6_method_20_code
def yX4_verdict : MethodName := ⟨RX4, "verdict", "()I"⟩
abbrev cX4_fewestQuarrelling : ByteArray := prog_6_method_21_code
def yX4_fewestQuarrelling : MethodName := ⟨RX4, "fewestQuarrelling", "()I"⟩
abbrev cX4_someAgrees : ByteArray := prog_6_method_22_code
def yX4_someAgrees : MethodName := ⟨RX4, "someAgrees", "(I)Z"⟩
abbrev cX4_leastAround : ByteArray := prog_6_method_23_code
def yX4_leastAround : MethodName := ⟨RX4, "leastAround", "(I)I"⟩
abbrev cX4_fewestSettling : ByteArray := prog_6_method_24_code
def yX4_fewestSettling : MethodName := ⟨RX4, "fewestSettling", "()I"⟩
abbrev cX4_isSettledBy : ByteArray := prog_6_method_25_code
def yX4_isSettledBy : MethodName := ⟨RX4, "isSettledBy", "(II)Z"⟩
abbrev cX4_matchSpots : ByteArray := prog_6_method_26_code
def yX4_matchSpots : MethodName := ⟨RX4, "matchSpots", "(I)V"⟩
abbrev cX4_wouldTell : ByteArray := prog_6_method_27_code
def yX4_wouldTell : MethodName := ⟨RX4, "wouldTell", "(III)I"⟩
abbrev cX4_heardPlace : ByteArray := prog_6_method_28_code
def yX4_heardPlace : MethodName := ⟨RX4, "heardPlace", "(I)I"⟩
def RX5 : String := "EarField$Foresight"
def TX5 : u_T := fun k => match k with
  | 0 => ("EarField$Foresight", "boxes", "LEarField$Boxes;", true)
  | 1 => ("EarField$Foresight", "question", "LEarField$Question;", true)
  | 2 => ("EarField$Foresight", "lives", "[I", true)
  | 3 => ("EarField$Foresight", "steps", "[I", true)
  | 4 => ("EarField$Foresight", "nearer", "[I", true)
  | 5 => ("EarField$Foresight", "parents", "[I", true)
  | 6 => ("EarField$Foresight", "bestParents", "[I", true)
  | _ => ("EarField$Foresight", "childCounts", "[I", true)
def tyX5 : Nat → FieldType := fun k => match k with
  | 0 => .object "EarField$Boxes"
  | 1 => .object "EarField$Question"
  | 2 => .array .int
  | 3 => .array .int
  | 4 => .array .int
  | 5 => .array .int
  | 6 => .array .int
  | _ => .array .int
theorem nmX5 : ∀ a, a < 8 → ∀ b, b < 8 → a ≠ b → (TX5 a).2.1 ≠ (TX5 b).2.1 := by decide +kernel
theorem tyX5_ok : ∀ k, k < 8 → parseFieldDescriptor (TX5 k).2.2.1 = some (tyX5 k) := by decide +kernel
abbrev cX5_init : ByteArray := prog_7_method_1_code
def yX5_init : MethodName := ⟨RX5, "<init>", "(LEarField$Boxes;LEarField$Question;)V"⟩
abbrev cX5_spentIn : ByteArray := prog_7_method_2_code
def yX5_spentIn : MethodName := ⟨RX5, "spentIn", "(II)I"⟩
abbrev cX5_lifeNow : ByteArray := prog_7_method_3_code
def yX5_lifeNow : MethodName := ⟨RX5, "lifeNow", "(I)I"⟩
abbrev cX5_findLongest : ByteArray := prog_7_method_4_code
def yX5_findLongest : MethodName := ⟨RX5, "findLongest", "()I"⟩
abbrev cX5_parentInLongest : ByteArray := prog_7_method_5_code
def yX5_parentInLongest : MethodName := ⟨RX5, "parentInLongest", "(I)I"⟩
abbrev cX5_restIn : ByteArray := prog_7_method_6_code
def yX5_restIn : MethodName := ⟨RX5, "restIn", "(LEarField$Box;I)I"⟩
abbrev cX5_lifeWith : ByteArray := prog_7_method_7_code
def yX5_lifeWith : MethodName := ⟨RX5, "lifeWith", "(II)I"⟩
abbrev cX5_foreseeLives : ByteArray := prog_7_method_8_code
def yX5_foreseeLives : MethodName := ⟨RX5, "foreseeLives", "(IZ)V"⟩
abbrev cX5_findSteps : ByteArray := prog_7_method_9_code
def yX5_findSteps : MethodName := ⟨RX5, "findSteps", "(I)V"⟩
abbrev cX5_boxesAt : ByteArray := prog_7_method_10_code
def yX5_boxesAt : MethodName := ⟨RX5, "boxesAt", "(I)I"⟩
abbrev cX5_findNearer : ByteArray := prog_7_method_11_code
def yX5_findNearer : MethodName := ⟨RX5, "findNearer", "(I)I"⟩
abbrev cX5_nextTree : ByteArray := prog_7_method_12_code
def yX5_nextTree : MethodName := ⟨RX5, "nextTree", "()Z"⟩
abbrev cX5_leastLife : ByteArray := prog_7_method_13_code
def yX5_leastLife : MethodName := ⟨RX5, "leastLife", "(I)I"⟩
def RX6 : String := "EarField$Programs"
def TX6 : u_T := fun k => match k with
  | 0 => ("EarField$Programs", "boxes", "LEarField$Boxes;", true)
  | 1 => ("EarField$Programs", "number", "I", false)
  | 2 => ("EarField$Programs", "size", "I", false)
  | 3 => ("EarField$Programs", "mark", "I", false)
  | _ => ("EarField$Programs", "partsAhead", "[I", true)
def tyX6 : Nat → FieldType := fun k => match k with
  | 0 => .object "EarField$Boxes"
  | 1 => .int
  | 2 => .int
  | 3 => .int
  | _ => .array .int
theorem nmX6 : ∀ a, a < 5 → ∀ b, b < 5 → a ≠ b → (TX6 a).2.1 ≠ (TX6 b).2.1 := by decide +kernel
theorem tyX6_ok : ∀ k, k < 5 → parseFieldDescriptor (TX6 k).2.2.1 = some (tyX6 k) := by decide +kernel
abbrev cX6_init : ByteArray := prog_8_method_1_code
def yX6_init : MethodName := ⟨RX6, "<init>", "(LEarField$Boxes;)V"⟩
abbrev cX6_hasPart : ByteArray := prog_8_method_2_code
def yX6_hasPart : MethodName := ⟨RX6, "hasPart", "(I)Z"⟩
abbrev cX6_take : ByteArray := prog_8_method_3_code
def yX6_take : MethodName := ⟨RX6, "take", "(IJ)I"⟩
abbrev cX6_sumOfParts : ByteArray := prog_8_method_4_code
def yX6_sumOfParts : MethodName := ⟨RX6, "sumOfParts", "(LEarField$Box;)I"⟩
abbrev cX6_isSound : ByteArray := prog_8_method_5_code
def yX6_isSound : MethodName := ⟨RX6, "isSound", "(LEarField$Box;)Z"⟩
abbrev cX6_handOn : ByteArray := prog_8_method_6_code
def yX6_handOn : MethodName := ⟨RX6, "handOn", "()I"⟩
abbrev cX6_getsPart : ByteArray := prog_8_method_7_code
def yX6_getsPart : MethodName := ⟨RX6, "getsPart", "(II)Z"⟩
abbrev cX6_aheadOf : ByteArray := prog_8_method_8_code
def yX6_aheadOf : MethodName := ⟨RX6, "aheadOf", "(I)I"⟩
abbrev cX6_give : ByteArray := prog_8_method_9_code
def yX6_give : MethodName := ⟨RX6, "give", "(LEarField$Box;LEarField$Box;I)V"⟩
abbrev cX6_beginIn : ByteArray := prog_8_method_10_code
def yX6_beginIn : MethodName := ⟨RX6, "beginIn", "(I)I"⟩
def RX7 : String := "EarField$Question"
def TX7 : u_T := fun k => match k with
  | 0 => ("EarField$Question", "kind", "I", false)
  | 1 => ("EarField$Question", "every", "I", false)
  | 2 => ("EarField$Question", "conds", "I", false)
  | 3 => ("EarField$Question", "ofBox", "[Z", true)
  | 4 => ("EarField$Question", "above", "[Z", true)
  | _ => ("EarField$Question", "limits", "[I", true)
def tyX7 : Nat → FieldType := fun k => match k with
  | 0 => .int
  | 1 => .int
  | 2 => .int
  | 3 => .array .boolean
  | 4 => .array .boolean
  | _ => .array .int
theorem nmX7 : ∀ a, a < 6 → ∀ b, b < 6 → a ≠ b → (TX7 a).2.1 ≠ (TX7 b).2.1 := by decide +kernel
theorem tyX7_ok : ∀ k, k < 6 → parseFieldDescriptor (TX7 k).2.2.1 = some (tyX7 k) := by decide +kernel
abbrev cX7_init : ByteArray := prog_9_method_1_code
def yX7_init : MethodName := ⟨RX7, "<init>", "()V"⟩
abbrev cX7_isAsked : ByteArray := prog_9_method_2_code
def yX7_isAsked : MethodName := ⟨RX7, "isAsked", "()Z"⟩
abbrev cX7_clear : ByteArray := prog_9_method_3_code
def yX7_clear : MethodName := ⟨RX7, "clear", "()V"⟩
abbrev cX7_copy : ByteArray := prog_9_method_4_code
def yX7_copy : MethodName := ⟨RX7, "copy", "(LEarField$Question;)V"⟩
abbrev cX7_takesMoreConds : ByteArray := prog_9_method_5_code
def yX7_takesMoreConds : MethodName := ⟨RX7, "takesMoreConds", "()Z"⟩
abbrev cX7_addCond : ByteArray := prog_9_method_6_code
def yX7_addCond : MethodName := ⟨RX7, "addCond", "(ZZI)V"⟩
abbrev cX7_beginsEpoch : ByteArray := prog_9_method_7_code
def yX7_beginsEpoch : MethodName := ⟨RX7, "beginsEpoch", "(I)Z"⟩
abbrev cX7_isMetBy : ByteArray := prog_9_method_8_code
def yX7_isMetBy : MethodName := ⟨RX7, "isMetBy", "(II)Z"⟩
abbrev cX7_answerAbove : ByteArray := prog_9_method_9_code
def yX7_answerAbove : MethodName := ⟨RX7, "answerAbove", "(LEarField$Sum;)I"⟩
abbrev cX7_answerBelow : ByteArray := prog_9_method_10_code
def yX7_answerBelow : MethodName := ⟨RX7, "answerBelow", "(LEarField$Sum;)I"⟩
abbrev cX7_commonPart : ByteArray := prog_9_method_11_code
def yX7_commonPart : MethodName := ⟨RX7, "commonPart", "(II)I"⟩
def RX8 : String := "EarField$Row"
def TX8 : u_T := fun k => match k with
  | 0 => ("EarField$Row", "values", "[I", true)
  | 1 => ("EarField$Row", "sums", "[LEarField$Sum;", true)
  | _ => ("EarField$Row", "size", "I", false)
def tyX8 : Nat → FieldType := fun k => match k with
  | 0 => .array .int
  | 1 => .array (.object "EarField$Sum")
  | _ => .int
theorem nmX8 : ∀ a, a < 3 → ∀ b, b < 3 → a ≠ b → (TX8 a).2.1 ≠ (TX8 b).2.1 := by decide +kernel
theorem tyX8_ok : ∀ k, k < 3 → parseFieldDescriptor (TX8 k).2.2.1 = some (tyX8 k) := by decide +kernel
abbrev cX8_init : ByteArray := prog_10_method_1_code
def yX8_init : MethodName := ⟨RX8, "<init>", "()V"⟩
abbrev cX8_isFull : ByteArray := prog_10_method_2_code
def yX8_isFull : MethodName := ⟨RX8, "isFull", "()Z"⟩
abbrev cX8_addWord : ByteArray := prog_10_method_3_code
def yX8_addWord : MethodName := ⟨RX8, "addWord", "(I)V"⟩
abbrev cX8_addSum : ByteArray := prog_10_method_4_code
def yX8_addSum : MethodName := ⟨RX8, "addSum", "(LEarField$Sum;)V"⟩
abbrev cX8_firstIsSum : ByteArray := prog_10_method_5_code
def yX8_firstIsSum : MethodName := ⟨RX8, "firstIsSum", "()Z"⟩
abbrev cX8_firstWord : ByteArray := prog_10_method_6_code
def yX8_firstWord : MethodName := ⟨RX8, "firstWord", "()I"⟩
abbrev cX8_firstSum : ByteArray := prog_10_method_7_code
def yX8_firstSum : MethodName := ⟨RX8, "firstSum", "()LEarField$Sum;"⟩
abbrev cX8_drop : ByteArray := prog_10_method_8_code
def yX8_drop : MethodName := ⟨RX8, "drop", "(I)V"⟩
abbrev cX8_dropSums : ByteArray := prog_10_method_9_code
def yX8_dropSums : MethodName := ⟨RX8, "dropSums", "()I"⟩
def RX9 : String := "EarField$Sum"
def TX9 : u_T := fun k => match k with
  | 0 => ("EarField$Sum", "least", "I", false)
  | 1 => ("EarField$Sum", "most", "I", false)
  | 2 => ("EarField$Sum", "many", "I", false)
  | 3 => ("EarField$Sum", "all", "I", false)
  | _ => ("EarField$Sum", "whom", "I", false)
def tyX9 : Nat → FieldType := fun k => match k with
  | 0 => .int
  | 1 => .int
  | 2 => .int
  | 3 => .int
  | _ => .int
theorem nmX9 : ∀ a, a < 5 → ∀ b, b < 5 → a ≠ b → (TX9 a).2.1 ≠ (TX9 b).2.1 := by decide +kernel
theorem tyX9_ok : ∀ k, k < 5 → parseFieldDescriptor (TX9 k).2.2.1 = some (tyX9 k) := by decide +kernel
abbrev cX9_init : ByteArray := prog_11_method_1_code
def yX9_init : MethodName := ⟨RX9, "<init>", "()V"⟩
abbrev cX9_isEmpty : ByteArray := prog_11_method_2_code
def yX9_isEmpty : MethodName := ⟨RX9, "isEmpty", "()Z"⟩
abbrev cX9_clear : ByteArray := prog_11_method_3_code
def yX9_clear : MethodName := ⟨RX9, "clear", "()V"⟩
abbrev cX9_start : ByteArray := prog_11_method_4_code
def yX9_start : MethodName := ⟨RX9, "start", "(II)V"⟩
abbrev cX9_copy : ByteArray := prog_11_method_5_code
def yX9_copy : MethodName := ⟨RX9, "copy", "(LEarField$Sum;)V"⟩
abbrev cX9_join : ByteArray := prog_11_method_6_code
def yX9_join : MethodName := ⟨RX9, "join", "(LEarField$Sum;)V"⟩
def RX10 : String := "EarField$Text"
def TX10 : u_T := fun k => match k with
  | 0 => ("EarField$Text", "bytes", "[I", true)
  | 1 => ("EarField$Text", "size", "I", false)
  | 2 => ("EarField$Text", "start", "I", false)
  | 3 => ("EarField$Text", "end", "I", false)
  | _ => ("EarField$Text", "draft", "LEarField$Question;", true)
def tyX10 : Nat → FieldType := fun k => match k with
  | 0 => .array .int
  | 1 => .int
  | 2 => .int
  | 3 => .int
  | _ => .object "EarField$Question"
theorem nmX10 : ∀ a, a < 5 → ∀ b, b < 5 → a ≠ b → (TX10 a).2.1 ≠ (TX10 b).2.1 := by decide +kernel
theorem tyX10_ok : ∀ k, k < 5 → parseFieldDescriptor (TX10 k).2.2.1 = some (tyX10 k) := by decide +kernel
abbrev cX10_init : ByteArray := prog_12_method_1_code
def yX10_init : MethodName := ⟨RX10, "<init>", "()V"⟩
abbrev cX10_add : ByteArray := prog_12_method_2_code
def yX10_add : MethodName := ⟨RX10, "add", "(I)V"⟩
abbrev cX10_read : ByteArray := prog_12_method_3_code
def yX10_read : MethodName := ⟨RX10, "read", "()I"⟩
abbrev cX10_readAim : ByteArray := prog_12_method_4_code
def yX10_readAim : MethodName := ⟨RX10, "readAim", "()Z"⟩
abbrev cX10_readConds : ByteArray := prog_12_method_5_code
def yX10_readConds : MethodName := ⟨RX10, "readConds", "()Z"⟩
abbrev cX10_readCond : ByteArray := prog_12_method_6_code
def yX10_readCond : MethodName := ⟨RX10, "readCond", "()Z"⟩
abbrev cX10_readEvery : ByteArray := prog_12_method_7_code
def yX10_readEvery : MethodName := ⟨RX10, "readEvery", "()Z"⟩
abbrev cX10_nextToken : ByteArray := prog_12_method_8_code
def yX10_nextToken : MethodName := ⟨RX10, "nextToken", "()V"⟩
abbrev cX10_byteAt : ByteArray := prog_12_method_9_code
def yX10_byteAt : MethodName := ⟨RX10, "byteAt", "(I)I"⟩
abbrev cX10_kindOf : ByteArray := prog_12_method_10_code
def yX10_kindOf : MethodName := ⟨RX10, "kindOf", "(I)I"⟩
abbrev cX10_skipWord : ByteArray := prog_12_method_11_code
def yX10_skipWord : MethodName := ⟨RX10, "skipWord", "(Ljava/lang/String;)Z"⟩
abbrev cX10_numberAtHand : ByteArray := prog_12_method_12_code
def yX10_numberAtHand : MethodName := ⟨RX10, "numberAtHand", "()I"⟩
def RX11 : String := "EarField"
def TX11 : u_T := fun k => match k with
  | 0 => ("EarField", "boxes", "LEarField$Boxes;", true)
  | 1 => ("EarField", "text", "LEarField$Text;", true)
  | 2 => ("EarField", "air", "LEarField$Air;", true)
  | 3 => ("EarField", "foresight", "LEarField$Foresight;", true)
  | 4 => ("EarField", "bearings", "LEarField$Bearings;", true)
  | 5 => ("EarField", "programs", "LEarField$Programs;", true)
  | _ => ("EarField", "court", "LEarField$Court;", true)
def tyX11 : Nat → FieldType := fun k => match k with
  | 0 => .object "EarField$Boxes"
  | 1 => .object "EarField$Text"
  | 2 => .object "EarField$Air"
  | 3 => .object "EarField$Foresight"
  | 4 => .object "EarField$Bearings"
  | 5 => .object "EarField$Programs"
  | _ => .object "EarField$Court"
theorem nmX11 : ∀ a, a < 7 → ∀ b, b < 7 → a ≠ b → (TX11 a).2.1 ≠ (TX11 b).2.1 := by decide +kernel
theorem tyX11_ok : ∀ k, k < 7 → parseFieldDescriptor (TX11 k).2.2.1 = some (tyX11 k) := by decide +kernel
abbrev cX11_init : ByteArray := prog_1_method_1_code
def yX11_init : MethodName := ⟨RX11, "<init>", "()V"⟩
abbrev cX11_box : ByteArray := prog_1_method_2_code
def yX11_box : MethodName := ⟨RX11, "box", "(II)I"⟩
abbrev cX11_hears : ByteArray := prog_1_method_3_code
def yX11_hears : MethodName := ⟨RX11, "hears", "(IIZ)I"⟩
abbrev cX11_sleep : ByteArray := prog_1_method_4_code
def yX11_sleep : MethodName := ⟨RX11, "sleep", "(III)I"⟩
abbrev cX11_clock : ByteArray := prog_1_method_5_code
def yX11_clock : MethodName := ⟨RX11, "clock", "(III)I"⟩
abbrev cX11_set : ByteArray := prog_1_method_6_code
def yX11_set : MethodName := ⟨RX11, "set", "(II)I"⟩
abbrev cX11_power : ByteArray := prog_1_method_7_code
def yX11_power : MethodName := ⟨RX11, "power", "(II)I"⟩
abbrev cX11_at : ByteArray := prog_1_method_8_code
def yX11_at : MethodName := ⟨RX11, "at", "(II)I"⟩
abbrev cX11_rounds : ByteArray := prog_1_method_9_code
def yX11_rounds : MethodName := ⟨RX11, "rounds", "(I)I"⟩
abbrev cX11_rings : ByteArray := prog_1_method_10_code
def yX11_rings : MethodName := ⟨RX11, "rings", "()I"⟩
abbrev cX11_say : ByteArray := prog_1_method_11_code
def yX11_say : MethodName := ⟨RX11, "say", "(II)I"⟩
abbrev cX11_ticks : ByteArray := prog_1_method_12_code
def yX11_ticks : MethodName := ⟨RX11, "ticks", "(I)I"⟩
abbrev cX11_lost : ByteArray := prog_1_method_13_code
def yX11_lost : MethodName := ⟨RX11, "lost", "(I)I"⟩
abbrev cX11_kept : ByteArray := prog_1_method_14_code
def yX11_kept : MethodName := ⟨RX11, "kept", "(I)I"⟩
abbrev cX11_write : ByteArray := prog_1_method_15_code
def yX11_write : MethodName := ⟨RX11, "write", "(JI)I"⟩
abbrev cX11_erase : ByteArray := prog_1_method_16_code
def yX11_erase : MethodName := ⟨RX11, "erase", "()I"⟩
abbrev cX11_fault : ByteArray := prog_1_method_17_code
def yX11_fault : MethodName := ⟨RX11, "fault", "()I"⟩
abbrev cX11_ask : ByteArray := prog_1_method_18_code
def yX11_ask : MethodName := ⟨RX11, "ask", "()I"⟩
abbrev cX11_loud : ByteArray := prog_1_method_19_code
def yX11_loud : MethodName := ⟨RX11, "loud", "(III)I"⟩
abbrev cX11_lies : ByteArray := prog_1_method_20_code
def yX11_lies : MethodName := ⟨RX11, "lies", "(II)I"⟩
abbrev cX11_result : ByteArray := prog_1_method_21_code
def yX11_result : MethodName := ⟨RX11, "result", "(I)I"⟩
abbrev cX11_foretold : ByteArray := prog_1_method_22_code
def yX11_foretold : MethodName := ⟨RX11, "foretold", "(II)I"⟩
abbrev cX11_life : ByteArray := prog_1_method_23_code
def yX11_life : MethodName := ⟨RX11, "life", "(I)I"⟩
abbrev cX11_longest : ByteArray := prog_1_method_24_code
def yX11_longest : MethodName := ⟨RX11, "longest", "()I"⟩
abbrev cX11_best : ByteArray := prog_1_method_25_code
def yX11_best : MethodName := ⟨RX11, "best", "(I)I"⟩
abbrev cX11_fact : ByteArray := prog_1_method_26_code
def yX11_fact : MethodName := ⟨RX11, "fact", "(IIIII)I"⟩
abbrev cX11_hour : ByteArray := prog_1_method_27_code
def yX11_hour : MethodName := ⟨RX11, "hour", "(III)I"⟩
abbrev cX11_place : ByteArray := prog_1_method_28_code
def yX11_place : MethodName := ⟨RX11, "place", "(II)I"⟩
abbrev cX11_cells : ByteArray := prog_1_method_29_code
def yX11_cells : MethodName := ⟨RX11, "cells", "(II)J"⟩
abbrev cX11_program : ByteArray := prog_1_method_30_code
def yX11_program : MethodName := ⟨RX11, "program", "(IJ)I"⟩
abbrev cX11_hand : ByteArray := prog_1_method_31_code
def yX11_hand : MethodName := ⟨RX11, "hand", "()I"⟩
abbrev cX11_tear : ByteArray := prog_1_method_32_code
def yX11_tear : MethodName := ⟨RX11, "tear", "(III)I"⟩
abbrev cX11_has : ByteArray := prog_1_method_33_code
def yX11_has : MethodName := ⟨RX11, "has", "(II)I"⟩
abbrev cX11_begin : ByteArray := prog_1_method_34_code
def yX11_begin : MethodName := ⟨RX11, "begin", "(I)I"⟩
abbrev cX11_days : ByteArray := prog_1_method_35_code
def yX11_days : MethodName := ⟨RX11, "days", "(I)I"⟩
abbrev cX11_way : ByteArray := prog_1_method_36_code
def yX11_way : MethodName := ⟨RX11, "way", "(IIZ)I"⟩
abbrev cX11_ear : ByteArray := prog_1_method_37_code
def yX11_ear : MethodName := ⟨RX11, "ear", "(II)I"⟩
abbrev cX11_log : ByteArray := prog_1_method_38_code
def yX11_log : MethodName := ⟨RX11, "log", "(III)I"⟩
abbrev cX11_liars : ByteArray := prog_1_method_39_code
def yX11_liars : MethodName := ⟨RX11, "liars", "(I)I"⟩
abbrev cX11_courses : ByteArray := prog_1_method_40_code
def yX11_courses : MethodName := ⟨RX11, "courses", "()I"⟩
abbrev cX11_course : ByteArray := prog_1_method_41_code
def yX11_course : MethodName := ⟨RX11, "course", "(II)I"⟩
abbrev cX11_judge : ByteArray := prog_1_method_42_code
def yX11_judge : MethodName := ⟨RX11, "judge", "(IIIII)I"⟩
abbrev cX11_quarrel : ByteArray := prog_1_method_43_code
def yX11_quarrel : MethodName := ⟨RX11, "quarrel", "()I"⟩
abbrev cX11_settle : ByteArray := prog_1_method_44_code
def yX11_settle : MethodName := ⟨RX11, "settle", "(IIIII)I"⟩
abbrev cX11_count : ByteArray := prog_1_method_45_code
def yX11_count : MethodName := ⟨RX11, "count", "(I)I"⟩
abbrev cX11_refusedClaim : ByteArray := prog_1_method_46_code
def yX11_refusedClaim : MethodName := ⟨RX11, "refusedClaim", "(IIIII)I"⟩
abbrev cX11_outside : ByteArray := prog_1_method_47_code
def yX11_outside : MethodName := ⟨RX11, "outside", "(III)Z"⟩
def RX12 : String := "EarFieldModel"
def TX12 : u_T := fun k => match k with
  | 0 => ("EarFieldModel", "boxes", "I", false)
  | 1 => ("EarFieldModel", "branch", "[I", true)
  | 2 => ("EarFieldModel", "power", "[I", true)
  | 3 => ("EarFieldModel", "period", "[I", true)
  | 4 => ("EarFieldModel", "rowBits", "[I", true)
  | 5 => ("EarFieldModel", "drift", "[I", true)
  | 6 => ("EarFieldModel", "offset", "[I", true)
  | 7 => ("EarFieldModel", "hearing", "[I", true)
  | 8 => ("EarFieldModel", "counts", "[I", true)
  | 9 => ("EarFieldModel", "parents", "[I", true)
  | 10 => ("EarFieldModel", "nextCount", "[I", true)
  | 11 => ("EarFieldModel", "nextParent", "[I", true)
  | 12 => ("EarFieldModel", "settings", "[I", true)
  | 13 => ("EarFieldModel", "tick", "I", false)
  | 14 => ("EarFieldModel", "queued", "[I", true)
  | 15 => ("EarFieldModel", "words", "[I", true)
  | 16 => ("EarFieldModel", "sums", "[I", true)
  | 17 => ("EarFieldModel", "isSaid", "[Z", true)
  | 18 => ("EarFieldModel", "epoch", "I", false)
  | 19 => ("EarFieldModel", "losses", "[I", true)
  | 20 => ("EarFieldModel", "keptMany", "I", false)
  | 21 => ("EarFieldModel", "keptWords", "[I", true)
  | 22 => ("EarFieldModel", "isUp", "[Z", true)
  | 23 => ("EarFieldModel", "wasDead", "[Z", true)
  | 24 => ("EarFieldModel", "speaks", "[Z", true)
  | 25 => ("EarFieldModel", "spoken", "[I", true)
  | 26 => ("EarFieldModel", "heardMany", "[I", true)
  | 27 => ("EarFieldModel", "heardOf", "[I", true)
  | 28 => ("EarFieldModel", "bytes", "I", false)
  | 29 => ("EarFieldModel", "text", "[I", true)
  | 30 => ("EarFieldModel", "faultAt", "I", false)
  | 31 => ("EarFieldModel", "position", "I", false)
  | 32 => ("EarFieldModel", "tokenAt", "I", false)
  | 33 => ("EarFieldModel", "token", "J", false)
  | 34 => ("EarFieldModel", "tokenDigits", "I", false)
  | 35 => ("EarFieldModel", "tokenNumber", "I", false)
  | 36 => ("EarFieldModel", "readWhat", "I", false)
  | 37 => ("EarFieldModel", "readEvery", "I", false)
  | 38 => ("EarFieldModel", "readConds", "I", false)
  | 39 => ("EarFieldModel", "readCond", "[I", true)
  | 40 => ("EarFieldModel", "asked", "I", false)
  | 41 => ("EarFieldModel", "every", "I", false)
  | 42 => ("EarFieldModel", "conds", "I", false)
  | 43 => ("EarFieldModel", "cond", "[I", true)
  | 44 => ("EarFieldModel", "loudness", "[I", true)
  | 45 => ("EarFieldModel", "lie", "[I", true)
  | 46 => ("EarFieldModel", "home", "[I", true)
  | 47 => ("EarFieldModel", "tree", "[I", true)
  | 48 => ("EarFieldModel", "bestTree", "[I", true)
  | 49 => ("EarFieldModel", "bestLife", "I", false)
  | 50 => ("EarFieldModel", "lives", "[I", true)
  | 51 => ("EarFieldModel", "facts", "I", false)
  | 52 => ("EarFieldModel", "factBy", "[I", true)
  | 53 => ("EarFieldModel", "factA", "[I", true)
  | 54 => ("EarFieldModel", "factB", "[I", true)
  | 55 => ("EarFieldModel", "factLow", "[I", true)
  | 56 => ("EarFieldModel", "factHigh", "[I", true)
  | 57 => ("EarFieldModel", "most", "[I", true)
  | 58 => ("EarFieldModel", "places", "[I", true)
  | 59 => ("EarFieldModel", "programs", "I", false)
  | 60 => ("EarFieldModel", "parts", "I", false)
  | 61 => ("EarFieldModel", "mark", "I", false)
  | 62 => ("EarFieldModel", "hasParts", "[I", true)
  | 63 => ("EarFieldModel", "hadParts", "[I", true)
  | 64 => ("EarFieldModel", "partOf", "[I", true)
  | 65 => ("EarFieldModel", "partWas", "[I", true)
  | 66 => ("EarFieldModel", "runs", "[I", true)
  | 67 => ("EarFieldModel", "days", "I", false)
  | 68 => ("EarFieldModel", "ways", "[I", true)
  | 69 => ("EarFieldModel", "hears", "[I", true)
  | 70 => ("EarFieldModel", "logs", "[I", true)
  | 71 => ("EarFieldModel", "liars", "I", false)
  | 72 => ("EarFieldModel", "agreeing", "I", false)
  | 73 => ("EarFieldModel", "course", "[I", true)
  | 74 => ("EarFieldModel", "keys", "[I", true)
  | _ => ("EarFieldModel", "marks", "[I", true)
def tyX12 : Nat → FieldType := fun k => match k with
  | 0 => .int
  | 1 => .array .int
  | 2 => .array .int
  | 3 => .array .int
  | 4 => .array .int
  | 5 => .array .int
  | 6 => .array .int
  | 7 => .array .int
  | 8 => .array .int
  | 9 => .array .int
  | 10 => .array .int
  | 11 => .array .int
  | 12 => .array .int
  | 13 => .int
  | 14 => .array .int
  | 15 => .array .int
  | 16 => .array .int
  | 17 => .array .boolean
  | 18 => .int
  | 19 => .array .int
  | 20 => .int
  | 21 => .array .int
  | 22 => .array .boolean
  | 23 => .array .boolean
  | 24 => .array .boolean
  | 25 => .array .int
  | 26 => .array .int
  | 27 => .array .int
  | 28 => .int
  | 29 => .array .int
  | 30 => .int
  | 31 => .int
  | 32 => .int
  | 33 => .long
  | 34 => .int
  | 35 => .int
  | 36 => .int
  | 37 => .int
  | 38 => .int
  | 39 => .array .int
  | 40 => .int
  | 41 => .int
  | 42 => .int
  | 43 => .array .int
  | 44 => .array .int
  | 45 => .array .int
  | 46 => .array .int
  | 47 => .array .int
  | 48 => .array .int
  | 49 => .int
  | 50 => .array .int
  | 51 => .int
  | 52 => .array .int
  | 53 => .array .int
  | 54 => .array .int
  | 55 => .array .int
  | 56 => .array .int
  | 57 => .array .int
  | 58 => .array .int
  | 59 => .int
  | 60 => .int
  | 61 => .int
  | 62 => .array .int
  | 63 => .array .int
  | 64 => .array .int
  | 65 => .array .int
  | 66 => .array .int
  | 67 => .int
  | 68 => .array .int
  | 69 => .array .int
  | 70 => .array .int
  | 71 => .int
  | 72 => .int
  | 73 => .array .int
  | 74 => .array .int
  | _ => .array .int
theorem nmX12 : ∀ a, a < 76 → ∀ b, b < 76 → a ≠ b → (TX12 a).2.1 ≠ (TX12 b).2.1 := by decide +kernel
theorem tyX12_ok : ∀ k, k < 76 → parseFieldDescriptor (TX12 k).2.2.1 = some (tyX12 k) := by decide +kernel
abbrev cX12_init : ByteArray := prog_14_method_1_code
def yX12_init : MethodName := ⟨RX12, "<init>", "()V"⟩
abbrev cX12_in : ByteArray := prog_14_method_2_code
def yX12_in : MethodName := ⟨RX12, "in", "(III)Z"⟩
abbrev cX12_isBox : ByteArray := prog_14_method_3_code
def yX12_isBox : MethodName := ⟨RX12, "isBox", "(I)Z"⟩
abbrev cX12_isIn : ByteArray := prog_14_method_4_code
def yX12_isIn : MethodName := ⟨RX12, "isIn", "(II)Z"⟩
abbrev cX12_bits : ByteArray := prog_14_method_5_code
def yX12_bits : MethodName := ⟨RX12, "bits", "(I)I"⟩
abbrev cX12_box : ByteArray := prog_14_method_6_code
def yX12_box : MethodName := ⟨RX12, "box", "(II)I"⟩
abbrev cX12_hears : ByteArray := prog_14_method_7_code
def yX12_hears : MethodName := ⟨RX12, "hears", "(IIZ)I"⟩
abbrev cX12_sleep : ByteArray := prog_14_method_8_code
def yX12_sleep : MethodName := ⟨RX12, "sleep", "(III)I"⟩
abbrev cX12_clock : ByteArray := prog_14_method_9_code
def yX12_clock : MethodName := ⟨RX12, "clock", "(III)I"⟩
abbrev cX12_set : ByteArray := prog_14_method_10_code
def yX12_set : MethodName := ⟨RX12, "set", "(II)I"⟩
abbrev cX12_power : ByteArray := prog_14_method_11_code
def yX12_power : MethodName := ⟨RX12, "power", "(II)I"⟩
abbrev cX12_local : ByteArray := prog_14_method_12_code
def yX12_local : MethodName := ⟨RX12, "local", "(II)I"⟩
abbrev cX12_isOn : ByteArray := prog_14_method_13_code
def yX12_isOn : MethodName := ⟨RX12, "isOn", "(II)Z"⟩
abbrev cX12_countOf : ByteArray := prog_14_method_14_code
def yX12_countOf : MethodName := ⟨RX12, "countOf", "(I)I"⟩
abbrev cX12_at : ByteArray := prog_14_method_15_code
def yX12_at : MethodName := ⟨RX12, "at", "(II)I"⟩
abbrev cX12_areMates : ByteArray := prog_14_method_16_code
def yX12_areMates : MethodName := ⟨RX12, "areMates", "(II)Z"⟩
abbrev cX12_goRound : ByteArray := prog_14_method_17_code
def yX12_goRound : MethodName := ⟨RX12, "goRound", "()Z"⟩
abbrev cX12_rounds : ByteArray := prog_14_method_18_code
def yX12_rounds : MethodName := ⟨RX12, "rounds", "(I)I"⟩
abbrev cX12_rings : ByteArray := prog_14_method_19_code
def yX12_rings : MethodName := ⟨RX12, "rings", "()I"⟩
abbrev cX12_say : ByteArray := prog_14_method_20_code
def yX12_say : MethodName := ⟨RX12, "say", "(II)I"⟩
abbrev cX12_spend : ByteArray := prog_14_method_21_code
def yX12_spend : MethodName := ⟨RX12, "spend", "(II)V"⟩
abbrev cX12_emptySum : ByteArray := prog_14_method_22_code
def yX12_emptySum : MethodName := ⟨RX12, "emptySum", "(I)V"⟩
abbrev cX12_join : ByteArray := prog_14_method_23_code
def yX12_join : MethodName := ⟨RX12, "join", "(IIIIII)V"⟩
abbrev cX12_takeSums : ByteArray := prog_14_method_24_code
def yX12_takeSums : MethodName := ⟨RX12, "takeSums", "()I"⟩
abbrev cX12_meets : ByteArray := prog_14_method_25_code
def yX12_meets : MethodName := ⟨RX12, "meets", "(II)Z"⟩
abbrev cX12_beginEpoch : ByteArray := prog_14_method_26_code
def yX12_beginEpoch : MethodName := ⟨RX12, "beginEpoch", "(I)V"⟩
abbrev cX12_putOnRow : ByteArray := prog_14_method_27_code
def yX12_putOnRow : MethodName := ⟨RX12, "putOnRow", "(II[I)V"⟩
abbrev cX12_queueSums : ByteArray := prog_14_method_28_code
def yX12_queueSums : MethodName := ⟨RX12, "queueSums", "(I)V"⟩
abbrev cX12_speak : ByteArray := prog_14_method_29_code
def yX12_speak : MethodName := ⟨RX12, "speak", "()V"⟩
abbrev cX12_listen : ByteArray := prog_14_method_30_code
def yX12_listen : MethodName := ⟨RX12, "listen", "()V"⟩
abbrev cX12_deliver : ByteArray := prog_14_method_31_code
def yX12_deliver : MethodName := ⟨RX12, "deliver", "(I)V"⟩
abbrev cX12_getWord : ByteArray := prog_14_method_32_code
def yX12_getWord : MethodName := ⟨RX12, "getWord", "(II)V"⟩
abbrev cX12_goTick : ByteArray := prog_14_method_33_code
def yX12_goTick : MethodName := ⟨RX12, "goTick", "(I)V"⟩
abbrev cX12_ticks : ByteArray := prog_14_method_34_code
def yX12_ticks : MethodName := ⟨RX12, "ticks", "(I)I"⟩
abbrev cX12_lost : ByteArray := prog_14_method_35_code
def yX12_lost : MethodName := ⟨RX12, "lost", "(I)I"⟩
abbrev cX12_kept : ByteArray := prog_14_method_36_code
def yX12_kept : MethodName := ⟨RX12, "kept", "(I)I"⟩
abbrev cX12_write : ByteArray := prog_14_method_37_code
def yX12_write : MethodName := ⟨RX12, "write", "(JI)I"⟩
abbrev cX12_erase : ByteArray := prog_14_method_38_code
def yX12_erase : MethodName := ⟨RX12, "erase", "()I"⟩
abbrev cX12_nextToken : ByteArray := prog_14_method_39_code
def yX12_nextToken : MethodName := ⟨RX12, "nextToken", "()V"⟩
abbrev cX12_isWord : ByteArray := prog_14_method_40_code
def yX12_isWord : MethodName := ⟨RX12, "isWord", "(J)Z"⟩
abbrev cX12_isNumber : ByteArray := prog_14_method_41_code
def yX12_isNumber : MethodName := ⟨RX12, "isNumber", "(II)Z"⟩
abbrev cX12_fails : ByteArray := prog_14_method_42_code
def yX12_fails : MethodName := ⟨RX12, "fails", "()Z"⟩
abbrev cX12_isRead : ByteArray := prog_14_method_43_code
def yX12_isRead : MethodName := ⟨RX12, "isRead", "()Z"⟩
abbrev cX12_fault : ByteArray := prog_14_method_44_code
def yX12_fault : MethodName := ⟨RX12, "fault", "()I"⟩
abbrev cX12_ask : ByteArray := prog_14_method_45_code
def yX12_ask : MethodName := ⟨RX12, "ask", "()I"⟩
abbrev cX12_loud : ByteArray := prog_14_method_46_code
def yX12_loud : MethodName := ⟨RX12, "loud", "(III)I"⟩
abbrev cX12_lies : ByteArray := prog_14_method_47_code
def yX12_lies : MethodName := ⟨RX12, "lies", "(II)I"⟩
abbrev cX12_common : ByteArray := prog_14_method_48_code
def yX12_common : MethodName := ⟨RX12, "common", "(II)I"⟩
abbrev cX12_result : ByteArray := prog_14_method_49_code
def yX12_result : MethodName := ⟨RX12, "result", "(I)I"⟩
abbrev cX12_isEpoch : ByteArray := prog_14_method_50_code
def yX12_isEpoch : MethodName := ⟨RX12, "isEpoch", "(I)Z"⟩
abbrev cX12_foretoldFor : ByteArray := prog_14_method_51_code
def yX12_foretoldFor : MethodName := ⟨RX12, "foretoldFor", "(IIZI)I"⟩
abbrev cX12_childrenOf : ByteArray := prog_14_method_52_code
def yX12_childrenOf : MethodName := ⟨RX12, "childrenOf", "(I)I"⟩
abbrev cX12_foretold : ByteArray := prog_14_method_53_code
def yX12_foretold : MethodName := ⟨RX12, "foretold", "(II)I"⟩
abbrev cX12_lifeFor : ByteArray := prog_14_method_54_code
def yX12_lifeFor : MethodName := ⟨RX12, "lifeFor", "(IZI)I"⟩
abbrev cX12_life : ByteArray := prog_14_method_55_code
def yX12_life : MethodName := ⟨RX12, "life", "(I)I"⟩
abbrev cX12_findHome : ByteArray := prog_14_method_56_code
def yX12_findHome : MethodName := ⟨RX12, "findHome", "()V"⟩
abbrev cX12_mayLead : ByteArray := prog_14_method_57_code
def yX12_mayLead : MethodName := ⟨RX12, "mayLead", "(II)Z"⟩
abbrev cX12_leastLife : ByteArray := prog_14_method_58_code
def yX12_leastLife : MethodName := ⟨RX12, "leastLife", "()I"⟩
abbrev cX12_hasNextTree : ByteArray := prog_14_method_59_code
def yX12_hasNextTree : MethodName := ⟨RX12, "hasNextTree", "()Z"⟩
abbrev cX12_firstFor : ByteArray := prog_14_method_60_code
def yX12_firstFor : MethodName := ⟨RX12, "firstFor", "(I)I"⟩
abbrev cX12_findLongest : ByteArray := prog_14_method_61_code
def yX12_findLongest : MethodName := ⟨RX12, "findLongest", "()Z"⟩
abbrev cX12_longest : ByteArray := prog_14_method_62_code
def yX12_longest : MethodName := ⟨RX12, "longest", "()I"⟩
abbrev cX12_best : ByteArray := prog_14_method_63_code
def yX12_best : MethodName := ⟨RX12, "best", "(I)I"⟩
abbrev cX12_fact : ByteArray := prog_14_method_64_code
def yX12_fact : MethodName := ⟨RX12, "fact", "(IIIII)I"⟩
abbrev cX12_lessen : ByteArray := prog_14_method_65_code
def yX12_lessen : MethodName := ⟨RX12, "lessen", "(III)V"⟩
abbrev cX12_canBe : ByteArray := prog_14_method_66_code
def yX12_canBe : MethodName := ⟨RX12, "canBe", "(I)Z"⟩
abbrev cX12_hour : ByteArray := prog_14_method_67_code
def yX12_hour : MethodName := ⟨RX12, "hour", "(III)I"⟩
abbrev cX12_place : ByteArray := prog_14_method_68_code
def yX12_place : MethodName := ⟨RX12, "place", "(II)I"⟩
abbrev cX12_cells : ByteArray := prog_14_method_69_code
def yX12_cells : MethodName := ⟨RX12, "cells", "(II)J"⟩
abbrev cX12_program : ByteArray := prog_14_method_70_code
def yX12_program : MethodName := ⟨RX12, "program", "(IJ)I"⟩
abbrev cX12_partFor : ByteArray := prog_14_method_71_code
def yX12_partFor : MethodName := ⟨RX12, "partFor", "(II)I"⟩
abbrev cX12_hand : ByteArray := prog_14_method_72_code
def yX12_hand : MethodName := ⟨RX12, "hand", "()I"⟩
abbrev cX12_tear : ByteArray := prog_14_method_73_code
def yX12_tear : MethodName := ⟨RX12, "tear", "(III)I"⟩
abbrev cX12_isSound : ByteArray := prog_14_method_74_code
def yX12_isSound : MethodName := ⟨RX12, "isSound", "(I)Z"⟩
abbrev cX12_has : ByteArray := prog_14_method_75_code
def yX12_has : MethodName := ⟨RX12, "has", "(II)I"⟩
abbrev cX12_begin : ByteArray := prog_14_method_76_code
def yX12_begin : MethodName := ⟨RX12, "begin", "(I)I"⟩
abbrev cX12_days : ByteArray := prog_14_method_77_code
def yX12_days : MethodName := ⟨RX12, "days", "(I)I"⟩
abbrev cX12_isSpot : ByteArray := prog_14_method_78_code
def yX12_isSpot : MethodName := ⟨RX12, "isSpot", "(I)Z"⟩
abbrev cX12_isDay : ByteArray := prog_14_method_79_code
def yX12_isDay : MethodName := ⟨RX12, "isDay", "(I)Z"⟩
abbrev cX12_way : ByteArray := prog_14_method_80_code
def yX12_way : MethodName := ⟨RX12, "way", "(IIZ)I"⟩
abbrev cX12_ear : ByteArray := prog_14_method_81_code
def yX12_ear : MethodName := ⟨RX12, "ear", "(II)I"⟩
abbrev cX12_log : ByteArray := prog_14_method_82_code
def yX12_log : MethodName := ⟨RX12, "log", "(III)I"⟩
abbrev cX12_liars : ByteArray := prog_14_method_83_code
def yX12_liars : MethodName := ⟨RX12, "liars", "(I)I"⟩
abbrev cX12_spotOf : ByteArray := prog_14_method_84_code
def yX12_spotOf : MethodName := ⟨RX12, "spotOf", "(II)I"⟩
abbrev cX12_agrees : ByteArray := prog_14_method_85_code
def yX12_agrees : MethodName := ⟨RX12, "agrees", "(II)Z"⟩
abbrev cX12_allCourses : ByteArray := prog_14_method_86_code
def yX12_allCourses : MethodName := ⟨RX12, "allCourses", "()I"⟩
abbrev cX12_findCourses : ByteArray := prog_14_method_87_code
def yX12_findCourses : MethodName := ⟨RX12, "findCourses", "(I)V"⟩
abbrev cX12_courses : ByteArray := prog_14_method_88_code
def yX12_courses : MethodName := ⟨RX12, "courses", "()I"⟩
abbrev cX12_course : ByteArray := prog_14_method_89_code
def yX12_course : MethodName := ⟨RX12, "course", "(II)I"⟩
abbrev cX12_wrongClaim : ByteArray := prog_14_method_90_code
def yX12_wrongClaim : MethodName := ⟨RX12, "wrongClaim", "(IIIII)I"⟩
abbrev cX12_isSo : ByteArray := prog_14_method_91_code
def yX12_isSo : MethodName := ⟨RX12, "isSo", "(IIIIII)Z"⟩
abbrev cX12_judge : ByteArray := prog_14_method_92_code
def yX12_judge : MethodName := ⟨RX12, "judge", "(IIIII)I"⟩
abbrev cX12_quarrel : ByteArray := prog_14_method_93_code
def yX12_quarrel : MethodName := ⟨RX12, "quarrel", "()I"⟩
abbrev cX12_told : ByteArray := prog_14_method_94_code
def yX12_told : MethodName := ⟨RX12, "told", "(II)I"⟩
abbrev cX12_settles : ByteArray := prog_14_method_95_code
def yX12_settles : MethodName := ⟨RX12, "settles", "(IIIIII)Z"⟩
abbrev cX12_settle : ByteArray := prog_14_method_96_code
def yX12_settle : MethodName := ⟨RX12, "settle", "(IIIII)I"⟩
abbrev cX12_count : ByteArray := prog_14_method_97_code
def yX12_count : MethodName := ⟨RX12, "count", "(I)I"⟩
def RJx145de : String := "java/io/Serializable"
def RJx9f9b0 : String := "java/lang/CharSequence"
def RJxb160c : String := "java/lang/Comparable"
def RJ6 : String := "java/lang/Integer"
abbrev cJ6_numberOfTrailingZeros_0f7a4 : ByteArray := prog_15_method_48_code
def yJ6_numberOfTrailingZeros_0f7a4 : MethodName := ⟨RJ6, "numberOfTrailingZeros", "(I)I"⟩
abbrev cJ6_bitCount_0f7a4 : ByteArray := prog_15_method_49_code
def yJ6_bitCount_0f7a4 : MethodName := ⟨RJ6, "bitCount", "(I)I"⟩
def RJ9 : String := "java/lang/Math"
abbrev cJ9_floorMod_7cf53 : ByteArray := prog_16_method_50_code
def yJ9_floorMod_7cf53 : MethodName := ⟨RJ9, "floorMod", "(II)I"⟩
abbrev cJ9_max_7cf53 : ByteArray := prog_16_method_65_code
def yJ9_max_7cf53 : MethodName := ⟨RJ9, "max", "(II)I"⟩
abbrev cJ9_min_7cf53 : ByteArray := prog_16_method_69_code
def yJ9_min_7cf53 : MethodName := ⟨RJ9, "min", "(II)I"⟩
def RJ0 : String := "java/lang/String"
abbrev cJ0_length_8abf5 : ByteArray := prog_17_method_54_code
def yJ0_length_8abf5 : MethodName := ⟨RJ0, "length", "()I"⟩
abbrev cJ0_charAt_5068e : ByteArray := prog_17_method_56_code
def yJ0_charAt_5068e : MethodName := ⟨RJ0, "charAt", "(I)C"⟩
abbrev cJ0_coder_7d493 : ByteArray := prog_17_method_152_code
def yJ0_coder_7d493 : MethodName := ⟨RJ0, "coder", "()B"⟩
abbrev cJ0_isLatin1_aae02 : ByteArray := prog_17_method_154_code
def yJ0_isLatin1_aae02 : MethodName := ⟨RJ0, "isLatin1", "()Z"⟩
abbrev cJ0_checkIndex_df160 : ByteArray := prog_17_method_155_code
def yJ0_checkIndex_df160 : MethodName := ⟨RJ0, "checkIndex", "(II)V"⟩
def RJ1 : String := "java/lang/StringLatin1"
abbrev cJ1_charAt_3b067 : ByteArray := prog_18_method_2_code
def yJ1_charAt_3b067 : MethodName := ⟨RJ1, "charAt", "([BI)C"⟩
def RJ2 : String := "java/lang/StringUTF16"
abbrev cJ2_getChar_3b067 : ByteArray := prog_19_method_5_code
def yJ2_getChar_3b067 : MethodName := ⟨RJ2, "getChar", "([BI)C"⟩
abbrev cJ2_length_9d52b : ByteArray := prog_19_method_6_code
def yJ2_length_9d52b : MethodName := ⟨RJ2, "length", "([B)I"⟩
abbrev cJ2_charAt_3b067 : ByteArray := prog_19_method_83_code
def yJ2_charAt_3b067 : MethodName := ⟨RJ2, "charAt", "([BI)C"⟩
abbrev cJ2_checkIndex_2214a : ByteArray := prog_19_method_91_code
def yJ2_checkIndex_2214a : MethodName := ⟨RJ2, "checkIndex", "(I[B)V"⟩
def RJ10 : String := "java/lang/System"
def RJxfd54e : String := "java/lang/constant/Constable"
def RJx3cf43 : String := "java/lang/constant/ConstantDesc"
def RJ7 : String := "java/util/Arrays"
abbrev cJ7_fill_53178 : ByteArray := prog_21_method_103_code
def yJ7_fill_53178 : MethodName := ⟨RJ7, "fill", "([II)V"⟩
def RJ3 : String := "jdk/internal/util/Preconditions"
abbrev cJ3_checkIndex_8e157 : ByteArray := prog_22_method_11_code
def yJ3_checkIndex_8e157 : MethodName := ⟨RJ3, "checkIndex", "(IILjava/util/function/BiFunction;)I"⟩
abbrev vwCl : List vw_C := [(RX0, TX0, 10), (RX1, TX1, 8), (RX2, TX2, 19), (RX3, TX3, 6), (RX4, TX4, 18), (RX5, TX5, 8), (RX6, TX6, 5), (RX7, TX7, 6), (RX8, TX8, 3), (RX9, TX9, 5), (RX10, TX10, 5), (RX11, TX11, 7), (RX12, TX12, 76)]
theorem inX0 : ∀ w ∈ u_ws RX0 TX0 10, w ∈ lw_tbl := by decide +kernel
theorem inX1 : ∀ w ∈ u_ws RX1 TX1 8, w ∈ lw_tbl := by decide +kernel
theorem inX2 : ∀ w ∈ u_ws RX2 TX2 19, w ∈ lw_tbl := by decide +kernel
theorem inX3 : ∀ w ∈ u_ws RX3 TX3 6, w ∈ lw_tbl := by decide +kernel
theorem inX4 : ∀ w ∈ u_ws RX4 TX4 18, w ∈ lw_tbl := by decide +kernel
theorem inX5 : ∀ w ∈ u_ws RX5 TX5 8, w ∈ lw_tbl := by decide +kernel
theorem inX6 : ∀ w ∈ u_ws RX6 TX6 5, w ∈ lw_tbl := by decide +kernel
theorem inX7 : ∀ w ∈ u_ws RX7 TX7 6, w ∈ lw_tbl := by decide +kernel
theorem inX8 : ∀ w ∈ u_ws RX8 TX8 3, w ∈ lw_tbl := by decide +kernel
theorem inX9 : ∀ w ∈ u_ws RX9 TX9 5, w ∈ lw_tbl := by decide +kernel
theorem inX10 : ∀ w ∈ u_ws RX10 TX10 5, w ∈ lw_tbl := by decide +kernel
theorem inX11 : ∀ w ∈ u_ws RX11 TX11 7, w ∈ lw_tbl := by decide +kernel
theorem inX12 : ∀ w ∈ u_ws RX12 TX12 76, w ∈ lw_tbl := by decide +kernel
