section
-- ===== PART A: goes FIRST, ahead of the names: the tables' words, and 'selects' of the private methods out of them =====
/-- a private method of a class that the tables say can be made, by its rows of tables_1 -/
def lw_okq (q : MethodName × Nat) : Prop := (q.1.cls ≠ "java/lang/invoke/MethodHandle" ∧ q.1.cls ≠ "java/lang/invoke/VarHandle") ∧ Cond.instantiable q.1.cls q.2 ∈ tables_1 ∧ Cond.privateMethod q.1 ∈ tables_1 ∧ Cond.instanceMethod q.1 ∈ tables_1
theorem lw_p0 : lw_okq (⟨"MeetHouse", "refuse", "(I)I"⟩, 12) := ⟨⟨by decide +kernel, by decide +kernel⟩, List.mem_of_getElem? (i := 17) (by decide +kernel), List.mem_of_getElem? (i := 292) (by decide +kernel), List.mem_of_getElem? (i := 293) (by decide +kernel)⟩
theorem lw_p1 : lw_okq (⟨"MeetHouse", "accept", "(I)I"⟩, 12) := ⟨⟨by decide +kernel, by decide +kernel⟩, List.mem_of_getElem? (i := 17) (by decide +kernel), List.mem_of_getElem? (i := 300) (by decide +kernel), List.mem_of_getElem? (i := 301) (by decide +kernel)⟩
theorem lw_p2 : lw_okq (⟨"MeetHouse", "refuseFalse", "(I)Z"⟩, 12) := ⟨⟨by decide +kernel, by decide +kernel⟩, List.mem_of_getElem? (i := 17) (by decide +kernel), List.mem_of_getElem? (i := 312) (by decide +kernel), List.mem_of_getElem? (i := 313) (by decide +kernel)⟩
theorem lw_p3 : lw_okq (⟨"MeetHouse", "acceptTrue", "()Z"⟩, 12) := ⟨⟨by decide +kernel, by decide +kernel⟩, List.mem_of_getElem? (i := 17) (by decide +kernel), List.mem_of_getElem? (i := 316) (by decide +kernel), List.mem_of_getElem? (i := 317) (by decide +kernel)⟩
theorem lw_p4 : lw_okq (⟨"MeetHouse", "roomForFamily", "()Z"⟩, 12) := ⟨⟨by decide +kernel, by decide +kernel⟩, List.mem_of_getElem? (i := 17) (by decide +kernel), List.mem_of_getElem? (i := 336) (by decide +kernel), List.mem_of_getElem? (i := 337) (by decide +kernel)⟩
theorem lw_p5 : lw_okq (⟨"MeetHouse", "settleGathered", "(I)I"⟩, 12) := ⟨⟨by decide +kernel, by decide +kernel⟩, List.mem_of_getElem? (i := 17) (by decide +kernel), List.mem_of_getElem? (i := 358) (by decide +kernel), List.mem_of_getElem? (i := 359) (by decide +kernel)⟩
theorem lw_p6 : lw_okq (⟨"MeetHouse", "settle", "(I)I"⟩, 12) := ⟨⟨by decide +kernel, by decide +kernel⟩, List.mem_of_getElem? (i := 17) (by decide +kernel), List.mem_of_getElem? (i := 371) (by decide +kernel), List.mem_of_getElem? (i := 372) (by decide +kernel)⟩
theorem lw_p7 : lw_okq (⟨"MeetHouse$Gatherer", "orderByStrength", "(II)V"⟩, 10) := ⟨⟨by decide +kernel, by decide +kernel⟩, List.mem_of_getElem? (i := 153) (by decide +kernel), List.mem_of_getElem? (i := 412) (by decide +kernel), List.mem_of_getElem? (i := 413) (by decide +kernel)⟩
theorem lw_p8 : lw_okq (⟨"MeetHouse", "settleRows", "(II)I"⟩, 12) := ⟨⟨by decide +kernel, by decide +kernel⟩, List.mem_of_getElem? (i := 17) (by decide +kernel), List.mem_of_getElem? (i := 436) (by decide +kernel), List.mem_of_getElem? (i := 437) (by decide +kernel)⟩
theorem lw_p9 : lw_okq (⟨"MeetHouse$Gatherer", "chooseOne", "(III)I"⟩, 10) := ⟨⟨by decide +kernel, by decide +kernel⟩, List.mem_of_getElem? (i := 153) (by decide +kernel), List.mem_of_getElem? (i := 453) (by decide +kernel), List.mem_of_getElem? (i := 454) (by decide +kernel)⟩
theorem lw_p10 : lw_okq (⟨"MeetHouse$Gatherer", "addWay", "(II)I"⟩, 10) := ⟨⟨by decide +kernel, by decide +kernel⟩, List.mem_of_getElem? (i := 153) (by decide +kernel), List.mem_of_getElem? (i := 473) (by decide +kernel), List.mem_of_getElem? (i := 474) (by decide +kernel)⟩
theorem lw_p11 : lw_okq (⟨"MeetHouse$Gatherer", "addNode", "(III)I"⟩, 10) := ⟨⟨by decide +kernel, by decide +kernel⟩, List.mem_of_getElem? (i := 153) (by decide +kernel), List.mem_of_getElem? (i := 477) (by decide +kernel), List.mem_of_getElem? (i := 478) (by decide +kernel)⟩
theorem lw_p12 : lw_okq (⟨"MeetHouse", "familyAt", "(I)LMeetHouse$Family;"⟩, 12) := ⟨⟨by decide +kernel, by decide +kernel⟩, List.mem_of_getElem? (i := 17) (by decide +kernel), List.mem_of_getElem? (i := 496) (by decide +kernel), List.mem_of_getElem? (i := 497) (by decide +kernel)⟩
theorem lw_p13 : lw_okq (⟨"MeetHouse$Gatherer", "putWithEach", "(ILMeetHouse$Family;)V"⟩, 10) := ⟨⟨by decide +kernel, by decide +kernel⟩, List.mem_of_getElem? (i := 153) (by decide +kernel), List.mem_of_getElem? (i := 504) (by decide +kernel), List.mem_of_getElem? (i := 505) (by decide +kernel)⟩
theorem lw_p14 : lw_okq (⟨"MeetHouse$Pot", "nextOpen", "(II)I"⟩, 3) := ⟨⟨by decide +kernel, by decide +kernel⟩, List.mem_of_getElem? (i := 159) (by decide +kernel), List.mem_of_getElem? (i := 568) (by decide +kernel), List.mem_of_getElem? (i := 569) (by decide +kernel)⟩
theorem lw_p15 : lw_okq (⟨"MeetHouse", "smallestMeeting", "(LMeetHouse$Family;)I"⟩, 12) := ⟨⟨by decide +kernel, by decide +kernel⟩, List.mem_of_getElem? (i := 17) (by decide +kernel), List.mem_of_getElem? (i := 616) (by decide +kernel), List.mem_of_getElem? (i := 617) (by decide +kernel)⟩
def lw_privs_1 : List (MethodName × Nat) := [(⟨"MeetHouse", "refuse", "(I)I"⟩, 12), (⟨"MeetHouse", "accept", "(I)I"⟩, 12), (⟨"MeetHouse", "refuseFalse", "(I)Z"⟩, 12), (⟨"MeetHouse", "acceptTrue", "()Z"⟩, 12), (⟨"MeetHouse", "roomForFamily", "()Z"⟩, 12), (⟨"MeetHouse", "settleGathered", "(I)I"⟩, 12), (⟨"MeetHouse", "settle", "(I)I"⟩, 12), (⟨"MeetHouse$Gatherer", "orderByStrength", "(II)V"⟩, 10), (⟨"MeetHouse", "settleRows", "(II)I"⟩, 12), (⟨"MeetHouse$Gatherer", "chooseOne", "(III)I"⟩, 10), (⟨"MeetHouse$Gatherer", "addWay", "(II)I"⟩, 10), (⟨"MeetHouse$Gatherer", "addNode", "(III)I"⟩, 10), (⟨"MeetHouse", "familyAt", "(I)LMeetHouse$Family;"⟩, 12), (⟨"MeetHouse$Gatherer", "putWithEach", "(ILMeetHouse$Family;)V"⟩, 10), (⟨"MeetHouse$Pot", "nextOpen", "(II)I"⟩, 3), (⟨"MeetHouse", "smallestMeeting", "(LMeetHouse$Family;)I"⟩, 12)]
theorem lw_r1 : ∀ q ∈ lw_privs_1, lw_okq q := List.forall_mem_cons.mpr ⟨lw_p0, List.forall_mem_cons.mpr ⟨lw_p1, List.forall_mem_cons.mpr ⟨lw_p2, List.forall_mem_cons.mpr ⟨lw_p3, List.forall_mem_cons.mpr ⟨lw_p4, List.forall_mem_cons.mpr ⟨lw_p5, List.forall_mem_cons.mpr ⟨lw_p6, List.forall_mem_cons.mpr ⟨lw_p7, List.forall_mem_cons.mpr ⟨lw_p8, List.forall_mem_cons.mpr ⟨lw_p9, List.forall_mem_cons.mpr ⟨lw_p10, List.forall_mem_cons.mpr ⟨lw_p11, List.forall_mem_cons.mpr ⟨lw_p12, List.forall_mem_cons.mpr ⟨lw_p13, List.forall_mem_cons.mpr ⟨lw_p14, List.forall_mem_cons.mpr ⟨lw_p15, fun _ h => absurd h List.not_mem_nil⟩⟩⟩⟩⟩⟩⟩⟩⟩⟩⟩⟩⟩⟩⟩⟩
theorem lw_p16 : lw_okq (⟨"MeetHouse$Pot", "reckonLowChances", "(LMeetHouse$Keepers;)V"⟩, 3) := ⟨⟨by decide +kernel, by decide +kernel⟩, List.mem_of_getElem? (i := 159) (by decide +kernel), List.mem_of_getElem? (i := 649) (by decide +kernel), List.mem_of_getElem? (i := 650) (by decide +kernel)⟩
theorem lw_p17 : lw_okq (⟨"MeetHouse$Pot", "chanceOfWord", "(J)J"⟩, 3) := ⟨⟨by decide +kernel, by decide +kernel⟩, List.mem_of_getElem? (i := 159) (by decide +kernel), List.mem_of_getElem? (i := 658) (by decide +kernel), List.mem_of_getElem? (i := 659) (by decide +kernel)⟩
theorem lw_p18 : lw_okq (⟨"MeetHouse$Pot", "fold", "(II)V"⟩, 3) := ⟨⟨by decide +kernel, by decide +kernel⟩, List.mem_of_getElem? (i := 159) (by decide +kernel), List.mem_of_getElem? (i := 663) (by decide +kernel), List.mem_of_getElem? (i := 664) (by decide +kernel)⟩
theorem lw_p19 : lw_okq (⟨"MeetHouse", "mostLoaded", "(LMeetHouse$Family;)I"⟩, 12) := ⟨⟨by decide +kernel, by decide +kernel⟩, List.mem_of_getElem? (i := 17) (by decide +kernel), List.mem_of_getElem? (i := 700) (by decide +kernel), List.mem_of_getElem? (i := 701) (by decide +kernel)⟩
theorem lw_p20 : lw_okq (⟨"MeetHouse", "reckonLoad", "(LMeetHouse$Family;I)V"⟩, 12) := ⟨⟨by decide +kernel, by decide +kernel⟩, List.mem_of_getElem? (i := 17) (by decide +kernel), List.mem_of_getElem? (i := 708) (by decide +kernel), List.mem_of_getElem? (i := 709) (by decide +kernel)⟩
theorem lw_p21 : lw_okq (⟨"MeetHouse", "reckonBound", "(LMeetHouse$Family;)V"⟩, 12) := ⟨⟨by decide +kernel, by decide +kernel⟩, List.mem_of_getElem? (i := 17) (by decide +kernel), List.mem_of_getElem? (i := 735) (by decide +kernel), List.mem_of_getElem? (i := 736) (by decide +kernel)⟩
theorem lw_p22 : lw_okq (⟨"MeetHouse", "placeAt", "(I)LMeetHouse$Thing;"⟩, 12) := ⟨⟨by decide +kernel, by decide +kernel⟩, List.mem_of_getElem? (i := 17) (by decide +kernel), List.mem_of_getElem? (i := 795) (by decide +kernel), List.mem_of_getElem? (i := 796) (by decide +kernel)⟩
theorem lw_p23 : lw_okq (⟨"MeetHouse", "takeBack", "(LMeetHouse$Act;)V"⟩, 12) := ⟨⟨by decide +kernel, by decide +kernel⟩, List.mem_of_getElem? (i := 17) (by decide +kernel), List.mem_of_getElem? (i := 841) (by decide +kernel), List.mem_of_getElem? (i := 842) (by decide +kernel)⟩
theorem lw_p24 : lw_okq (⟨"MeetHouse", "takeBackPlace", "(LMeetHouse$Act;)V"⟩, 12) := ⟨⟨by decide +kernel, by decide +kernel⟩, List.mem_of_getElem? (i := 17) (by decide +kernel), List.mem_of_getElem? (i := 845) (by decide +kernel), List.mem_of_getElem? (i := 846) (by decide +kernel)⟩
theorem lw_p25 : lw_okq (⟨"MeetHouseModel", "in", "(III)Z"⟩, 36) := ⟨⟨by decide +kernel, by decide +kernel⟩, List.mem_of_getElem? (i := 857) (by decide +kernel), List.mem_of_getElem? (i := 982) (by decide +kernel), List.mem_of_getElem? (i := 983) (by decide +kernel)⟩
theorem lw_p26 : lw_okq (⟨"MeetHouseModel", "no", "(I)I"⟩, 36) := ⟨⟨by decide +kernel, by decide +kernel⟩, List.mem_of_getElem? (i := 857) (by decide +kernel), List.mem_of_getElem? (i := 986) (by decide +kernel), List.mem_of_getElem? (i := 987) (by decide +kernel)⟩
theorem lw_p27 : lw_okq (⟨"MeetHouseModel", "act", "(III)V"⟩, 36) := ⟨⟨by decide +kernel, by decide +kernel⟩, List.mem_of_getElem? (i := 857) (by decide +kernel), List.mem_of_getElem? (i := 990) (by decide +kernel), List.mem_of_getElem? (i := 991) (by decide +kernel)⟩
theorem lw_p28 : lw_okq (⟨"MeetHouseModel", "not", "(I)Z"⟩, 36) := ⟨⟨by decide +kernel, by decide +kernel⟩, List.mem_of_getElem? (i := 857) (by decide +kernel), List.mem_of_getElem? (i := 998) (by decide +kernel), List.mem_of_getElem? (i := 999) (by decide +kernel)⟩
theorem lw_p29 : lw_okq (⟨"MeetHouseModel", "isSet", "(I)Z"⟩, 36) := ⟨⟨by decide +kernel, by decide +kernel⟩, List.mem_of_getElem? (i := 857) (by decide +kernel), List.mem_of_getElem? (i := 1010) (by decide +kernel), List.mem_of_getElem? (i := 1011) (by decide +kernel)⟩
theorem lw_p30 : lw_okq (⟨"MeetHouseModel", "noSets", "()V"⟩, 36) := ⟨⟨by decide +kernel, by decide +kernel⟩, List.mem_of_getElem? (i := 857) (by decide +kernel), List.mem_of_getElem? (i := 1018) (by decide +kernel), List.mem_of_getElem? (i := 1019) (by decide +kernel)⟩
theorem lw_p31 : lw_okq (⟨"MeetHouseModel", "made", "(I)I"⟩, 36) := ⟨⟨by decide +kernel, by decide +kernel⟩, List.mem_of_getElem? (i := 857) (by decide +kernel), List.mem_of_getElem? (i := 1022) (by decide +kernel), List.mem_of_getElem? (i := 1023) (by decide +kernel)⟩
def lw_privs_2 : List (MethodName × Nat) := [(⟨"MeetHouse$Pot", "reckonLowChances", "(LMeetHouse$Keepers;)V"⟩, 3), (⟨"MeetHouse$Pot", "chanceOfWord", "(J)J"⟩, 3), (⟨"MeetHouse$Pot", "fold", "(II)V"⟩, 3), (⟨"MeetHouse", "mostLoaded", "(LMeetHouse$Family;)I"⟩, 12), (⟨"MeetHouse", "reckonLoad", "(LMeetHouse$Family;I)V"⟩, 12), (⟨"MeetHouse", "reckonBound", "(LMeetHouse$Family;)V"⟩, 12), (⟨"MeetHouse", "placeAt", "(I)LMeetHouse$Thing;"⟩, 12), (⟨"MeetHouse", "takeBack", "(LMeetHouse$Act;)V"⟩, 12), (⟨"MeetHouse", "takeBackPlace", "(LMeetHouse$Act;)V"⟩, 12), (⟨"MeetHouseModel", "in", "(III)Z"⟩, 36), (⟨"MeetHouseModel", "no", "(I)I"⟩, 36), (⟨"MeetHouseModel", "act", "(III)V"⟩, 36), (⟨"MeetHouseModel", "not", "(I)Z"⟩, 36), (⟨"MeetHouseModel", "isSet", "(I)Z"⟩, 36), (⟨"MeetHouseModel", "noSets", "()V"⟩, 36), (⟨"MeetHouseModel", "made", "(I)I"⟩, 36)]
theorem lw_r2 : ∀ q ∈ lw_privs_2, lw_okq q := List.forall_mem_cons.mpr ⟨lw_p16, List.forall_mem_cons.mpr ⟨lw_p17, List.forall_mem_cons.mpr ⟨lw_p18, List.forall_mem_cons.mpr ⟨lw_p19, List.forall_mem_cons.mpr ⟨lw_p20, List.forall_mem_cons.mpr ⟨lw_p21, List.forall_mem_cons.mpr ⟨lw_p22, List.forall_mem_cons.mpr ⟨lw_p23, List.forall_mem_cons.mpr ⟨lw_p24, List.forall_mem_cons.mpr ⟨lw_p25, List.forall_mem_cons.mpr ⟨lw_p26, List.forall_mem_cons.mpr ⟨lw_p27, List.forall_mem_cons.mpr ⟨lw_p28, List.forall_mem_cons.mpr ⟨lw_p29, List.forall_mem_cons.mpr ⟨lw_p30, List.forall_mem_cons.mpr ⟨lw_p31, fun _ h => absurd h List.not_mem_nil⟩⟩⟩⟩⟩⟩⟩⟩⟩⟩⟩⟩⟩⟩⟩⟩
theorem lw_p32 : lw_okq (⟨"MeetHouseModel", "least", "()Z"⟩, 36) := ⟨⟨by decide +kernel, by decide +kernel⟩, List.mem_of_getElem? (i := 857) (by decide +kernel), List.mem_of_getElem? (i := 1026) (by decide +kernel), List.mem_of_getElem? (i := 1027) (by decide +kernel)⟩
theorem lw_p33 : lw_okq (⟨"MeetHouseModel", "isBelow", "(I)Z"⟩, 36) := ⟨⟨by decide +kernel, by decide +kernel⟩, List.mem_of_getElem? (i := 857) (by decide +kernel), List.mem_of_getElem? (i := 1030) (by decide +kernel), List.mem_of_getElem? (i := 1031) (by decide +kernel)⟩
theorem lw_p34 : lw_okq (⟨"MeetHouseModel", "strengthOf", "(I)I"⟩, 36) := ⟨⟨by decide +kernel, by decide +kernel⟩, List.mem_of_getElem? (i := 857) (by decide +kernel), List.mem_of_getElem? (i := 1038) (by decide +kernel), List.mem_of_getElem? (i := 1039) (by decide +kernel)⟩
theorem lw_p35 : lw_okq (⟨"MeetHouseModel", "areKeepers", "(II)Z"⟩, 36) := ⟨⟨by decide +kernel, by decide +kernel⟩, List.mem_of_getElem? (i := 857) (by decide +kernel), List.mem_of_getElem? (i := 1046) (by decide +kernel), List.mem_of_getElem? (i := 1047) (by decide +kernel)⟩
theorem lw_p36 : lw_okq (⟨"MeetHouseModel", "comeRows", "()V"⟩, 36) := ⟨⟨by decide +kernel, by decide +kernel⟩, List.mem_of_getElem? (i := 857) (by decide +kernel), List.mem_of_getElem? (i := 1050) (by decide +kernel), List.mem_of_getElem? (i := 1051) (by decide +kernel)⟩
theorem lw_p37 : lw_okq (⟨"MeetHouseModel", "enoughs", "(II)V"⟩, 36) := ⟨⟨by decide +kernel, by decide +kernel⟩, List.mem_of_getElem? (i := 857) (by decide +kernel), List.mem_of_getElem? (i := 1062) (by decide +kernel), List.mem_of_getElem? (i := 1063) (by decide +kernel)⟩
theorem lw_p38 : lw_okq (⟨"MeetHouseModel", "isFamily", "(I)Z"⟩, 36) := ⟨⟨by decide +kernel, by decide +kernel⟩, List.mem_of_getElem? (i := 857) (by decide +kernel), List.mem_of_getElem? (i := 1074) (by decide +kernel), List.mem_of_getElem? (i := 1075) (by decide +kernel)⟩
theorem lw_p39 : lw_okq (⟨"MeetHouseModel", "quorumOf", "(II)I"⟩, 36) := ⟨⟨by decide +kernel, by decide +kernel⟩, List.mem_of_getElem? (i := 857) (by decide +kernel), List.mem_of_getElem? (i := 1078) (by decide +kernel), List.mem_of_getElem? (i := 1079) (by decide +kernel)⟩
theorem lw_p40 : lw_okq (⟨"MeetHouseModel", "allOf", "(I)I"⟩, 36) := ⟨⟨by decide +kernel, by decide +kernel⟩, List.mem_of_getElem? (i := 857) (by decide +kernel), List.mem_of_getElem? (i := 1086) (by decide +kernel), List.mem_of_getElem? (i := 1087) (by decide +kernel)⟩
theorem lw_p41 : lw_okq (⟨"MeetHouseModel", "meetsAll", "(II)Z"⟩, 36) := ⟨⟨by decide +kernel, by decide +kernel⟩, List.mem_of_getElem? (i := 857) (by decide +kernel), List.mem_of_getElem? (i := 1090) (by decide +kernel), List.mem_of_getElem? (i := 1091) (by decide +kernel)⟩
theorem lw_p42 : lw_okq (⟨"MeetHouseModel", "apartOf", "(II)I"⟩, 36) := ⟨⟨by decide +kernel, by decide +kernel⟩, List.mem_of_getElem? (i := 857) (by decide +kernel), List.mem_of_getElem? (i := 1106) (by decide +kernel), List.mem_of_getElem? (i := 1107) (by decide +kernel)⟩
theorem lw_p43 : lw_okq (⟨"MeetHouseModel", "comeAll", "(I)V"⟩, 36) := ⟨⟨by decide +kernel, by decide +kernel⟩, List.mem_of_getElem? (i := 857) (by decide +kernel), List.mem_of_getElem? (i := 1110) (by decide +kernel), List.mem_of_getElem? (i := 1111) (by decide +kernel)⟩
theorem lw_p44 : lw_okq (⟨"MeetHouseModel", "bitsOf", "(I)I"⟩, 36) := ⟨⟨by decide +kernel, by decide +kernel⟩, List.mem_of_getElem? (i := 857) (by decide +kernel), List.mem_of_getElem? (i := 1118) (by decide +kernel), List.mem_of_getElem? (i := 1119) (by decide +kernel)⟩
theorem lw_p45 : lw_okq (⟨"MeetHouseModel", "hasOne", "(II)Z"⟩, 36) := ⟨⟨by decide +kernel, by decide +kernel⟩, List.mem_of_getElem? (i := 857) (by decide +kernel), List.mem_of_getElem? (i := 1130) (by decide +kernel), List.mem_of_getElem? (i := 1131) (by decide +kernel)⟩
theorem lw_p46 : lw_okq (⟨"MeetHouseModel", "hitOf", "(I)I"⟩, 36) := ⟨⟨by decide +kernel, by decide +kernel⟩, List.mem_of_getElem? (i := 857) (by decide +kernel), List.mem_of_getElem? (i := 1142) (by decide +kernel), List.mem_of_getElem? (i := 1143) (by decide +kernel)⟩
theorem lw_p47 : lw_okq (⟨"MeetHouseModel", "planActs", "()V"⟩, 36) := ⟨⟨by decide +kernel, by decide +kernel⟩, List.mem_of_getElem? (i := 857) (by decide +kernel), List.mem_of_getElem? (i := 1163) (by decide +kernel), List.mem_of_getElem? (i := 1164) (by decide +kernel)⟩
def lw_privs_3 : List (MethodName × Nat) := [(⟨"MeetHouseModel", "least", "()Z"⟩, 36), (⟨"MeetHouseModel", "isBelow", "(I)Z"⟩, 36), (⟨"MeetHouseModel", "strengthOf", "(I)I"⟩, 36), (⟨"MeetHouseModel", "areKeepers", "(II)Z"⟩, 36), (⟨"MeetHouseModel", "comeRows", "()V"⟩, 36), (⟨"MeetHouseModel", "enoughs", "(II)V"⟩, 36), (⟨"MeetHouseModel", "isFamily", "(I)Z"⟩, 36), (⟨"MeetHouseModel", "quorumOf", "(II)I"⟩, 36), (⟨"MeetHouseModel", "allOf", "(I)I"⟩, 36), (⟨"MeetHouseModel", "meetsAll", "(II)Z"⟩, 36), (⟨"MeetHouseModel", "apartOf", "(II)I"⟩, 36), (⟨"MeetHouseModel", "comeAll", "(I)V"⟩, 36), (⟨"MeetHouseModel", "bitsOf", "(I)I"⟩, 36), (⟨"MeetHouseModel", "hasOne", "(II)Z"⟩, 36), (⟨"MeetHouseModel", "hitOf", "(I)I"⟩, 36), (⟨"MeetHouseModel", "planActs", "()V"⟩, 36)]
theorem lw_r3 : ∀ q ∈ lw_privs_3, lw_okq q := List.forall_mem_cons.mpr ⟨lw_p32, List.forall_mem_cons.mpr ⟨lw_p33, List.forall_mem_cons.mpr ⟨lw_p34, List.forall_mem_cons.mpr ⟨lw_p35, List.forall_mem_cons.mpr ⟨lw_p36, List.forall_mem_cons.mpr ⟨lw_p37, List.forall_mem_cons.mpr ⟨lw_p38, List.forall_mem_cons.mpr ⟨lw_p39, List.forall_mem_cons.mpr ⟨lw_p40, List.forall_mem_cons.mpr ⟨lw_p41, List.forall_mem_cons.mpr ⟨lw_p42, List.forall_mem_cons.mpr ⟨lw_p43, List.forall_mem_cons.mpr ⟨lw_p44, List.forall_mem_cons.mpr ⟨lw_p45, List.forall_mem_cons.mpr ⟨lw_p46, List.forall_mem_cons.mpr ⟨lw_p47, fun _ h => absurd h List.not_mem_nil⟩⟩⟩⟩⟩⟩⟩⟩⟩⟩⟩⟩⟩⟩⟩⟩
theorem lw_p48 : lw_okq (⟨"MeetHouseModel", "isPart", "(I)Z"⟩, 36) := ⟨⟨by decide +kernel, by decide +kernel⟩, List.mem_of_getElem? (i := 857) (by decide +kernel), List.mem_of_getElem? (i := 1171) (by decide +kernel), List.mem_of_getElem? (i := 1172) (by decide +kernel)⟩
theorem lw_p49 : lw_okq (⟨"MeetHouseModel", "allParts", "()I"⟩, 36) := ⟨⟨by decide +kernel, by decide +kernel⟩, List.mem_of_getElem? (i := 857) (by decide +kernel), List.mem_of_getElem? (i := 1175) (by decide +kernel), List.mem_of_getElem? (i := 1176) (by decide +kernel)⟩
theorem lw_p50 : lw_okq (⟨"MeetHouseModel", "loaded", "()I"⟩, 36) := ⟨⟨by decide +kernel, by decide +kernel⟩, List.mem_of_getElem? (i := 857) (by decide +kernel), List.mem_of_getElem? (i := 1187) (by decide +kernel), List.mem_of_getElem? (i := 1188) (by decide +kernel)⟩
theorem lw_p51 : lw_okq (⟨"MeetHouseModel", "loadsOf", "(I)V"⟩, 36) := ⟨⟨by decide +kernel, by decide +kernel⟩, List.mem_of_getElem? (i := 857) (by decide +kernel), List.mem_of_getElem? (i := 1191) (by decide +kernel), List.mem_of_getElem? (i := 1192) (by decide +kernel)⟩
theorem lw_p52 : lw_okq (⟨"MeetHouseModel", "fraction", "(II)V"⟩, 36) := ⟨⟨by decide +kernel, by decide +kernel⟩, List.mem_of_getElem? (i := 857) (by decide +kernel), List.mem_of_getElem? (i := 1195) (by decide +kernel), List.mem_of_getElem? (i := 1196) (by decide +kernel)⟩
theorem lw_p53 : lw_okq (⟨"MeetHouseModel", "divisor", "(II)I"⟩, 36) := ⟨⟨by decide +kernel, by decide +kernel⟩, List.mem_of_getElem? (i := 857) (by decide +kernel), List.mem_of_getElem? (i := 1199) (by decide +kernel), List.mem_of_getElem? (i := 1200) (by decide +kernel)⟩
theorem lw_p54 : lw_okq (⟨"MeetHouseModel", "boundOf", "(I)V"⟩, 36) := ⟨⟨by decide +kernel, by decide +kernel⟩, List.mem_of_getElem? (i := 857) (by decide +kernel), List.mem_of_getElem? (i := 1215) (by decide +kernel), List.mem_of_getElem? (i := 1216) (by decide +kernel)⟩
theorem lw_p55 : lw_okq (⟨"MeetHouseModel", "isPlace", "(I)Z"⟩, 36) := ⟨⟨by decide +kernel, by decide +kernel⟩, List.mem_of_getElem? (i := 857) (by decide +kernel), List.mem_of_getElem? (i := 1243) (by decide +kernel), List.mem_of_getElem? (i := 1244) (by decide +kernel)⟩
theorem lw_p56 : lw_okq (⟨"MeetHouseModel", "caseActs", "(I)V"⟩, 36) := ⟨⟨by decide +kernel, by decide +kernel⟩, List.mem_of_getElem? (i := 857) (by decide +kernel), List.mem_of_getElem? (i := 1247) (by decide +kernel), List.mem_of_getElem? (i := 1248) (by decide +kernel)⟩
theorem lw_p57 : lw_okq (⟨"MeetHouseModel", "partsIn", "(I)I"⟩, 36) := ⟨⟨by decide +kernel, by decide +kernel⟩, List.mem_of_getElem? (i := 857) (by decide +kernel), List.mem_of_getElem? (i := 1259) (by decide +kernel), List.mem_of_getElem? (i := 1260) (by decide +kernel)⟩
def lw_privs_4 : List (MethodName × Nat) := [(⟨"MeetHouseModel", "isPart", "(I)Z"⟩, 36), (⟨"MeetHouseModel", "allParts", "()I"⟩, 36), (⟨"MeetHouseModel", "loaded", "()I"⟩, 36), (⟨"MeetHouseModel", "loadsOf", "(I)V"⟩, 36), (⟨"MeetHouseModel", "fraction", "(II)V"⟩, 36), (⟨"MeetHouseModel", "divisor", "(II)I"⟩, 36), (⟨"MeetHouseModel", "boundOf", "(I)V"⟩, 36), (⟨"MeetHouseModel", "isPlace", "(I)Z"⟩, 36), (⟨"MeetHouseModel", "caseActs", "(I)V"⟩, 36), (⟨"MeetHouseModel", "partsIn", "(I)I"⟩, 36)]
theorem lw_r4 : ∀ q ∈ lw_privs_4, lw_okq q := List.forall_mem_cons.mpr ⟨lw_p48, List.forall_mem_cons.mpr ⟨lw_p49, List.forall_mem_cons.mpr ⟨lw_p50, List.forall_mem_cons.mpr ⟨lw_p51, List.forall_mem_cons.mpr ⟨lw_p52, List.forall_mem_cons.mpr ⟨lw_p53, List.forall_mem_cons.mpr ⟨lw_p54, List.forall_mem_cons.mpr ⟨lw_p55, List.forall_mem_cons.mpr ⟨lw_p56, List.forall_mem_cons.mpr ⟨lw_p57, fun _ h => absurd h List.not_mem_nil⟩⟩⟩⟩⟩⟩⟩⟩⟩⟩
def lw_privs : List (MethodName × Nat) := lw_privs_1 ++ (lw_privs_2 ++ (lw_privs_3 ++ (lw_privs_4)))
def lw_tbl : List Cond := k2_sels lw_privs ++ tables_1
theorem lw_privs_ok : ∀ q ∈ lw_privs, lw_okq q := by
  show ∀ q ∈ lw_privs_1 ++ (lw_privs_2 ++ (lw_privs_3 ++ (lw_privs_4))), lw_okq q
  exact List.forall_mem_append.mpr ⟨lw_r1, List.forall_mem_append.mpr ⟨lw_r2, List.forall_mem_append.mpr ⟨lw_r3, lw_r4⟩⟩⟩
-- ===== end of PART A; then your names; then what follows =====
end
section
def RX0 : String := "MeetHouse$Act"
def TX0 : u_T := fun k => match k with
  | 0 => ("MeetHouse$Act", "kind", "I", false)
  | 1 => ("MeetHouse$Act", "which", "I", false)
  | 2 => ("MeetHouse$Act", "before", "I", false)
  | _ => ("MeetHouse$Act", "thing", "LMeetHouse$Thing;", true)
def tyX0 : Nat → FieldType := fun k => match k with
  | 0 => .int
  | 1 => .int
  | 2 => .int
  | _ => .object "MeetHouse$Thing"
abbrev wsX00 : List Cond := u_ws RX0 TX0 4
theorem nmX0 : ∀ a, a < 4 → ∀ b, b < 4 → a ≠ b → (TX0 a).2.1 ≠ (TX0 b).2.1 := by decide +kernel
theorem tyX0_ok : ∀ k, k < 4 → parseFieldDescriptor (TX0 k).2.2.1 = some (tyX0 k) := by decide +kernel
abbrev cX0_init : ByteArray := prog_2_method_1_code
def yX0_init : MethodName := ⟨RX0, "<init>", "()V"⟩
def RX1 : String := "MeetHouse$Family"
def TX1 : u_T := fun k => match k with
  | 0 => ("MeetHouse$Family", "kind", "I", false)
  | 1 => ("MeetHouse$Family", "count", "I", false)
  | _ => ("MeetHouse$Family", "sets", "[I", true)
def tyX1 : Nat → FieldType := fun k => match k with
  | 0 => .int
  | 1 => .int
  | _ => .array .int
abbrev wsX10 : List Cond := u_ws RX1 TX1 3
theorem nmX1 : ∀ a, a < 3 → ∀ b, b < 3 → a ≠ b → (TX1 a).2.1 ≠ (TX1 b).2.1 := by decide +kernel
theorem tyX1_ok : ∀ k, k < 3 → parseFieldDescriptor (TX1 k).2.2.1 = some (tyX1 k) := by decide +kernel
abbrev cX1_init : ByteArray := prog_3_method_1_code
def yX1_init : MethodName := ⟨RX1, "<init>", "()V"⟩
abbrev cX1_take : ByteArray := prog_3_method_2_code
def yX1_take : MethodName := ⟨RX1, "take", "(ILMeetHouse$Pot;)V"⟩
abbrev cX1_isHeldBy : ByteArray := prog_3_method_3_code
def yX1_isHeldBy : MethodName := ⟨RX1, "isHeldBy", "(I)Z"⟩
abbrev cX1_allKeepers : ByteArray := prog_3_method_4_code
def yX1_allKeepers : MethodName := ⟨RX1, "allKeepers", "()I"⟩
abbrev cX1_fewestKeepers : ByteArray := prog_3_method_5_code
def yX1_fewestKeepers : MethodName := ⟨RX1, "fewestKeepers", "()I"⟩
abbrev cX1_mostKeepers : ByteArray := prog_3_method_6_code
def yX1_mostKeepers : MethodName := ⟨RX1, "mostKeepers", "()I"⟩
abbrev cX1_fewestShared : ByteArray := prog_3_method_7_code
def yX1_fewestShared : MethodName := ⟨RX1, "fewestShared", "()I"⟩
abbrev cX1_countPairs : ByteArray := prog_3_method_8_code
def yX1_countPairs : MethodName := ⟨RX1, "countPairs", "()I"⟩
def RX2 : String := "MeetHouse$Fraction"
def TX2 : u_T := fun k => match k with
  | 0 => ("MeetHouse$Fraction", "upper", "I", false)
  | _ => ("MeetHouse$Fraction", "lower", "I", false)
def tyX2 : Nat → FieldType := fun k => match k with
  | 0 => .int
  | _ => .int
abbrev wsX20 : List Cond := u_ws RX2 TX2 2
theorem nmX2 : ∀ a, a < 2 → ∀ b, b < 2 → a ≠ b → (TX2 a).2.1 ≠ (TX2 b).2.1 := by decide +kernel
theorem tyX2_ok : ∀ k, k < 2 → parseFieldDescriptor (TX2 k).2.2.1 = some (tyX2 k) := by decide +kernel
abbrev cX2_init : ByteArray := prog_4_method_1_code
def yX2_init : MethodName := ⟨RX2, "<init>", "()V"⟩
abbrev cX2_become : ByteArray := prog_4_method_2_code
def yX2_become : MethodName := ⟨RX2, "become", "(II)V"⟩
abbrev cX2_side : ByteArray := prog_4_method_3_code
def yX2_side : MethodName := ⟨RX2, "side", "(Z)I"⟩
abbrev cX2_greatestCommon : ByteArray := prog_4_method_4_code
def yX2_greatestCommon : MethodName := ⟨RX2, "greatestCommon", "(II)I"⟩
def RX3 : String := "MeetHouse$Gatherer"
def TX3 : u_T := fun k => match k with
  | 0 => ("MeetHouse$Gatherer", "pot", "LMeetHouse$Pot;", true)
  | 1 => ("MeetHouse$Gatherer", "ways", "[I", true)
  | 2 => ("MeetHouse$Gatherer", "starts", "[I", true)
  | 3 => ("MeetHouse$Gatherer", "lengths", "[I", true)
  | 4 => ("MeetHouse$Gatherer", "rowCount", "I", false)
  | 5 => ("MeetHouse$Gatherer", "rowsEnded", "Z", false)
  | 6 => ("MeetHouse$Gatherer", "bits", "[I", true)
  | 7 => ("MeetHouse$Gatherer", "strengths", "[I", true)
  | 8 => ("MeetHouse$Gatherer", "strongCount", "I", false)
  | _ => ("MeetHouse$Gatherer", "found", "I", false)
def tyX3 : Nat → FieldType := fun k => match k with
  | 0 => .object "MeetHouse$Pot"
  | 1 => .array .int
  | 2 => .array .int
  | 3 => .array .int
  | 4 => .int
  | 5 => .boolean
  | 6 => .array .int
  | 7 => .array .int
  | 8 => .int
  | _ => .int
abbrev wsX30 : List Cond := u_ws RX3 TX3 10
theorem nmX3 : ∀ a, a < 10 → ∀ b, b < 10 → a ≠ b → (TX3 a).2.1 ≠ (TX3 b).2.1 := by decide +kernel
theorem tyX3_ok : ∀ k, k < 10 → parseFieldDescriptor (TX3 k).2.2.1 = some (tyX3 k) := by decide +kernel
abbrev cX3_init : ByteArray := prog_5_method_1_code
def yX3_init : MethodName := ⟨RX3, "<init>", "()V"⟩
abbrev cX3_begin : ByteArray := prog_5_method_2_code
def yX3_begin : MethodName := ⟨RX3, "begin", "(I)V"⟩
abbrev cX3_gatherMost : ByteArray := prog_5_method_3_code
def yX3_gatherMost : MethodName := ⟨RX3, "gatherMost", "(LMeetHouse$Keepers;I)V"⟩
abbrev cX3_orderByStrength : ByteArray := prog_5_method_4_code
def yX3_orderByStrength : MethodName := ⟨RX3, "orderByStrength", "(II)V"⟩
abbrev cX3_takeStrong : ByteArray := prog_5_method_5_code
def yX3_takeStrong : MethodName := ⟨RX3, "takeStrong", "(LMeetHouse$Gatherer;IIII)V"⟩
abbrev cX3_dropRows : ByteArray := prog_5_method_6_code
def yX3_dropRows : MethodName := ⟨RX3, "dropRows", "()V"⟩
abbrev cX3_addRow : ByteArray := prog_5_method_7_code
def yX3_addRow : MethodName := ⟨RX3, "addRow", "(I)V"⟩
abbrev cX3_keepersOfRows : ByteArray := prog_5_method_8_code
def yX3_keepersOfRows : MethodName := ⟨RX3, "keepersOfRows", "()I"⟩
abbrev cX3_gatherRows : ByteArray := prog_5_method_9_code
def yX3_gatherRows : MethodName := ⟨RX3, "gatherRows", "(I)V"⟩
abbrev cX3_chooseOne : ByteArray := prog_5_method_10_code
def yX3_chooseOne : MethodName := ⟨RX3, "chooseOne", "(III)I"⟩
abbrev cX3_gatherTree : ByteArray := prog_5_method_11_code
def yX3_gatherTree : MethodName := ⟨RX3, "gatherTree", "(II)V"⟩
abbrev cX3_addNode : ByteArray := prog_5_method_12_code
def yX3_addNode : MethodName := ⟨RX3, "addNode", "(III)I"⟩
abbrev cX3_addWay : ByteArray := prog_5_method_13_code
def yX3_addWay : MethodName := ⟨RX3, "addWay", "(II)I"⟩
abbrev cX3_gatherPlane : ByteArray := prog_5_method_14_code
def yX3_gatherPlane : MethodName := ⟨RX3, "gatherPlane", "(II)V"⟩
abbrev cX3_point : ByteArray := prog_5_method_15_code
def yX3_point : MethodName := ⟨RX3, "point", "(II)I"⟩
abbrev cX3_gatherJoin : ByteArray := prog_5_method_16_code
def yX3_gatherJoin : MethodName := ⟨RX3, "gatherJoin", "(LMeetHouse$Family;ILMeetHouse$Family;)V"⟩
abbrev cX3_gatherBoth : ByteArray := prog_5_method_17_code
def yX3_gatherBoth : MethodName := ⟨RX3, "gatherBoth", "(LMeetHouse$Family;LMeetHouse$Family;)V"⟩
abbrev cX3_putWithEach : ByteArray := prog_5_method_18_code
def yX3_putWithEach : MethodName := ⟨RX3, "putWithEach", "(ILMeetHouse$Family;)V"⟩
abbrev cX3_gatherWithin : ByteArray := prog_5_method_19_code
def yX3_gatherWithin : MethodName := ⟨RX3, "gatherWithin", "(LMeetHouse$Family;I)V"⟩
abbrev cX3_gatherHolding : ByteArray := prog_5_method_20_code
def yX3_gatherHolding : MethodName := ⟨RX3, "gatherHolding", "(LMeetHouse$Family;)V"⟩
abbrev cX3_gatherMeeting : ByteArray := prog_5_method_21_code
def yX3_gatherMeeting : MethodName := ⟨RX3, "gatherMeeting", "(LMeetHouse$Family;)V"⟩
abbrev cX3_gatherBetter : ByteArray := prog_5_method_22_code
def yX3_gatherBetter : MethodName := ⟨RX3, "gatherBetter", "(LMeetHouse$Family;)V"⟩
def RX4 : String := "MeetHouse$History"
def TX4 : u_T := fun k => match k with
  | 0 => ("MeetHouse$History", "acts", "[LMeetHouse$Act;", true)
  | 1 => ("MeetHouse$History", "first", "I", false)
  | _ => ("MeetHouse$History", "held", "I", false)
def tyX4 : Nat → FieldType := fun k => match k with
  | 0 => .array (.object "MeetHouse$Act")
  | 1 => .int
  | _ => .int
abbrev wsX40 : List Cond := u_ws RX4 TX4 3
theorem nmX4 : ∀ a, a < 3 → ∀ b, b < 3 → a ≠ b → (TX4 a).2.1 ≠ (TX4 b).2.1 := by decide +kernel
theorem tyX4_ok : ∀ k, k < 3 → parseFieldDescriptor (TX4 k).2.2.1 = some (tyX4 k) := by decide +kernel
abbrev cX4_init : ByteArray := prog_6_method_1_code
def yX4_init : MethodName := ⟨RX4, "<init>", "()V"⟩
abbrev cX4_open : ByteArray := prog_6_method_2_code
def yX4_open : MethodName := ⟨RX4, "open", "(III)LMeetHouse$Act;"⟩
abbrev cX4_closeLatest : ByteArray := prog_6_method_3_code
def yX4_closeLatest : MethodName := ⟨RX4, "closeLatest", "()LMeetHouse$Act;"⟩
def RX5 : String := "MeetHouse$Keepers"
def TX5 : u_T := fun k => match k with
  | 0 => ("MeetHouse$Keepers", "count", "I", false)
  | 1 => ("MeetHouse$Keepers", "strengths", "[I", true)
  | 2 => ("MeetHouse$Keepers", "tenthsThere", "[I", true)
  | _ => ("MeetHouse$Keepers", "weights", "[I", true)
def tyX5 : Nat → FieldType := fun k => match k with
  | 0 => .int
  | 1 => .array .int
  | 2 => .array .int
  | _ => .array .int
abbrev wsX50 : List Cond := u_ws RX5 TX5 4
theorem nmX5 : ∀ a, a < 4 → ∀ b, b < 4 → a ≠ b → (TX5 a).2.1 ≠ (TX5 b).2.1 := by decide +kernel
theorem tyX5_ok : ∀ k, k < 4 → parseFieldDescriptor (TX5 k).2.2.1 = some (tyX5 k) := by decide +kernel
abbrev cX5_init : ByteArray := prog_7_method_1_code
def yX5_init : MethodName := ⟨RX5, "<init>", "()V"⟩
abbrev cX5_isThere : ByteArray := prog_7_method_2_code
def yX5_isThere : MethodName := ⟨RX5, "isThere", "(I)Z"⟩
abbrev cX5_areThere : ByteArray := prog_7_method_3_code
def yX5_areThere : MethodName := ⟨RX5, "areThere", "(II)Z"⟩
abbrev cX5_areASet : ByteArray := prog_7_method_4_code
def yX5_areASet : MethodName := ⟨RX5, "areASet", "(I)Z"⟩
abbrev cX5_strengthOf : ByteArray := prog_7_method_5_code
def yX5_strengthOf : MethodName := ⟨RX5, "strengthOf", "(I)I"⟩
abbrev cX5_weightOf : ByteArray := prog_7_method_6_code
def yX5_weightOf : MethodName := ⟨RX5, "weightOf", "(I)I"⟩
abbrev cX5_weightTimesStrength : ByteArray := prog_7_method_7_code
def yX5_weightTimesStrength : MethodName := ⟨RX5, "weightTimesStrength", "()I"⟩
abbrev cX5_tenthsOrAll : ByteArray := prog_7_method_8_code
def yX5_tenthsOrAll : MethodName := ⟨RX5, "tenthsOrAll", "(I)I"⟩
def RX6 : String := "MeetHouse$Plan"
def TX6 : u_T := fun k => match k with
  | 0 => ("MeetHouse$Plan", "familyNumber", "I", false)
  | 1 => ("MeetHouse$Plan", "count", "I", false)
  | _ => ("MeetHouse$Plan", "parts", "[I", true)
def tyX6 : Nat → FieldType := fun k => match k with
  | 0 => .int
  | 1 => .int
  | _ => .array .int
abbrev wsX60 : List Cond := u_ws RX6 TX6 3
theorem nmX6 : ∀ a, a < 3 → ∀ b, b < 3 → a ≠ b → (TX6 a).2.1 ≠ (TX6 b).2.1 := by decide +kernel
theorem tyX6_ok : ∀ k, k < 3 → parseFieldDescriptor (TX6 k).2.2.1 = some (tyX6 k) := by decide +kernel
abbrev cX6_init : ByteArray := prog_8_method_1_code
def yX6_init : MethodName := ⟨RX6, "<init>", "()V"⟩
abbrev cX6_isThere : ByteArray := prog_8_method_2_code
def yX6_isThere : MethodName := ⟨RX6, "isThere", "()Z"⟩
abbrev cX6_beEven : ByteArray := prog_8_method_3_code
def yX6_beEven : MethodName := ⟨RX6, "beEven", "(II)V"⟩
abbrev cX6_become : ByteArray := prog_8_method_4_code
def yX6_become : MethodName := ⟨RX6, "become", "(LMeetHouse$Plan;)V"⟩
abbrev cX6_hasPart : ByteArray := prog_8_method_5_code
def yX6_hasPart : MethodName := ⟨RX6, "hasPart", "(I)Z"⟩
abbrev cX6_hasRun : ByteArray := prog_8_method_6_code
def yX6_hasRun : MethodName := ⟨RX6, "hasRun", "(II)Z"⟩
abbrev cX6_overlay : ByteArray := prog_8_method_7_code
def yX6_overlay : MethodName := ⟨RX6, "overlay", "(ILMeetHouse$Plan;II)V"⟩
abbrev cX6_allParts : ByteArray := prog_8_method_8_code
def yX6_allParts : MethodName := ⟨RX6, "allParts", "()I"⟩
abbrev cX6_partsWith : ByteArray := prog_8_method_9_code
def yX6_partsWith : MethodName := ⟨RX6, "partsWith", "(LMeetHouse$Family;I)I"⟩
def RX7 : String := "MeetHouse$Pot"
def TX7 : u_T := fun k => match k with
  | 0 => ("MeetHouse$Pot", "words", "[J", true)
  | 1 => ("MeetHouse$Pot", "lowChances", "[J", true)
  | _ => ("MeetHouse$Pot", "used", "I", false)
def tyX7 : Nat → FieldType := fun k => match k with
  | 0 => .array .long
  | 1 => .array .long
  | _ => .int
abbrev wsX70 : List Cond := u_ws RX7 TX7 3
theorem nmX7 : ∀ a, a < 3 → ∀ b, b < 3 → a ≠ b → (TX7 a).2.1 ≠ (TX7 b).2.1 := by decide +kernel
theorem tyX7_ok : ∀ k, k < 3 → parseFieldDescriptor (TX7 k).2.2.1 = some (tyX7 k) := by decide +kernel
abbrev cX7_init : ByteArray := prog_9_method_1_code
def yX7_init : MethodName := ⟨RX7, "<init>", "()V"⟩
abbrev cX7_clear : ByteArray := prog_9_method_2_code
def yX7_clear : MethodName := ⟨RX7, "clear", "(I)V"⟩
abbrev cX7_put : ByteArray := prog_9_method_3_code
def yX7_put : MethodName := ⟨RX7, "put", "(I)V"⟩
abbrev cX7_putUpwards : ByteArray := prog_9_method_4_code
def yX7_putUpwards : MethodName := ⟨RX7, "putUpwards", "(I)V"⟩
abbrev cX7_closeUpwards : ByteArray := prog_9_method_5_code
def yX7_closeUpwards : MethodName := ⟨RX7, "closeUpwards", "()V"⟩
abbrev cX7_keepLeast : ByteArray := prog_9_method_6_code
def yX7_keepLeast : MethodName := ⟨RX7, "keepLeast", "()V"⟩
abbrev cX7_turnIntoMeeting : ByteArray := prog_9_method_7_code
def yX7_turnIntoMeeting : MethodName := ⟨RX7, "turnIntoMeeting", "()V"⟩
abbrev cX7_complete : ByteArray := prog_9_method_8_code
def yX7_complete : MethodName := ⟨RX7, "complete", "(II)V"⟩
abbrev cX7_nextOpen : ByteArray := prog_9_method_9_code
def yX7_nextOpen : MethodName := ⟨RX7, "nextOpen", "(II)I"⟩
abbrev cX7_countSets : ByteArray := prog_9_method_10_code
def yX7_countSets : MethodName := ⟨RX7, "countSets", "()I"⟩
abbrev cX7_next : ByteArray := prog_9_method_11_code
def yX7_next : MethodName := ⟨RX7, "next", "(I)I"⟩
abbrev cX7_smallestSet : ByteArray := prog_9_method_12_code
def yX7_smallestSet : MethodName := ⟨RX7, "smallestSet", "()I"⟩
abbrev cX7_chanceOfSets : ByteArray := prog_9_method_13_code
def yX7_chanceOfSets : MethodName := ⟨RX7, "chanceOfSets", "(LMeetHouse$Keepers;)J"⟩
abbrev cX7_fold : ByteArray := prog_9_method_14_code
def yX7_fold : MethodName := ⟨RX7, "fold", "(II)V"⟩
abbrev cX7_reckonLowChances : ByteArray := prog_9_method_15_code
def yX7_reckonLowChances : MethodName := ⟨RX7, "reckonLowChances", "(LMeetHouse$Keepers;)V"⟩
abbrev cX7_chanceOfWord : ByteArray := prog_9_method_16_code
def yX7_chanceOfWord : MethodName := ⟨RX7, "chanceOfWord", "(J)J"⟩
abbrev cX7_lowestBit : ByteArray := prog_9_method_17_code
def yX7_lowestBit : MethodName := ⟨RX7, "lowestBit", "(J)I"⟩
abbrev cX7_closedWord : ByteArray := prog_9_method_18_code
def yX7_closedWord : MethodName := ⟨RX7, "closedWord", "(J)J"⟩
abbrev cX7_grownWord : ByteArray := prog_9_method_19_code
def yX7_grownWord : MethodName := ⟨RX7, "grownWord", "(J)J"⟩
abbrev cX7_flippedWord : ByteArray := prog_9_method_20_code
def yX7_flippedWord : MethodName := ⟨RX7, "flippedWord", "(JI)J"⟩
abbrev cX7_withinWord : ByteArray := prog_9_method_21_code
def yX7_withinWord : MethodName := ⟨RX7, "withinWord", "(I)J"⟩
def RX8 : String := "MeetHouse$Sheet"
def TX8 : u_T := fun k => match k with
  | 0 => ("MeetHouse$Sheet", "count", "I", false)
  | _ => ("MeetHouse$Sheet", "pairs", "[I", true)
def tyX8 : Nat → FieldType := fun k => match k with
  | 0 => .int
  | _ => .array .int
abbrev wsX80 : List Cond := u_ws RX8 TX8 2
theorem nmX8 : ∀ a, a < 2 → ∀ b, b < 2 → a ≠ b → (TX8 a).2.1 ≠ (TX8 b).2.1 := by decide +kernel
theorem tyX8_ok : ∀ k, k < 2 → parseFieldDescriptor (TX8 k).2.2.1 = some (tyX8 k) := by decide +kernel
abbrev cX8_init : ByteArray := prog_10_method_1_code
def yX8_init : MethodName := ⟨RX8, "<init>", "()V"⟩
abbrev cX8_hasPair : ByteArray := prog_10_method_2_code
def yX8_hasPair : MethodName := ⟨RX8, "hasPair", "(I)Z"⟩
abbrev cX8_write : ByteArray := prog_10_method_3_code
def yX8_write : MethodName := ⟨RX8, "write", "(LMeetHouse$Family;)V"⟩
abbrev cX8_firstFalsePair : ByteArray := prog_10_method_4_code
def yX8_firstFalsePair : MethodName := ⟨RX8, "firstFalsePair", "(LMeetHouse$Family;)I"⟩
abbrev cX8_leastKeeper : ByteArray := prog_10_method_5_code
def yX8_leastKeeper : MethodName := ⟨RX8, "leastKeeper", "(I)I"⟩
abbrev cX8_isKeeperOf : ByteArray := prog_10_method_6_code
def yX8_isKeeperOf : MethodName := ⟨RX8, "isKeeperOf", "(II)Z"⟩
def RX9 : String := "MeetHouse$Thing"
def TX9 : u_T := fun k => match k with
  | 0 => ("MeetHouse$Thing", "sort", "I", false)
  | 1 => ("MeetHouse$Thing", "number", "I", false)
  | _ => ("MeetHouse$Thing", "plan", "LMeetHouse$Plan;", true)
def tyX9 : Nat → FieldType := fun k => match k with
  | 0 => .int
  | 1 => .int
  | _ => .object "MeetHouse$Plan"
abbrev wsX90 : List Cond := u_ws RX9 TX9 3
theorem nmX9 : ∀ a, a < 3 → ∀ b, b < 3 → a ≠ b → (TX9 a).2.1 ≠ (TX9 b).2.1 := by decide +kernel
theorem tyX9_ok : ∀ k, k < 3 → parseFieldDescriptor (TX9 k).2.2.1 = some (tyX9 k) := by decide +kernel
abbrev cX9_init : ByteArray := prog_11_method_1_code
def yX9_init : MethodName := ⟨RX9, "<init>", "()V"⟩
abbrev cX9_become : ByteArray := prog_11_method_2_code
def yX9_become : MethodName := ⟨RX9, "become", "(LMeetHouse$Thing;)V"⟩
def RX10 : String := "MeetHouse"
def TX10 : u_T := fun k => match k with
  | 0 => ("MeetHouse", "keepers", "LMeetHouse$Keepers;", true)
  | 1 => ("MeetHouse", "families", "[LMeetHouse$Family;", true)
  | 2 => ("MeetHouse", "familyCount", "I", false)
  | 3 => ("MeetHouse", "toldSets", "[I", true)
  | 4 => ("MeetHouse", "toldCount", "I", false)
  | 5 => ("MeetHouse", "plan", "LMeetHouse$Plan;", true)
  | 6 => ("MeetHouse", "places", "[LMeetHouse$Thing;", true)
  | 7 => ("MeetHouse", "history", "LMeetHouse$History;", true)
  | 8 => ("MeetHouse", "sheet", "LMeetHouse$Sheet;", true)
  | 9 => ("MeetHouse", "gatherer", "LMeetHouse$Gatherer;", true)
  | 10 => ("MeetHouse", "fraction", "LMeetHouse$Fraction;", true)
  | _ => ("MeetHouse", "latestStatus", "I", false)
def tyX10 : Nat → FieldType := fun k => match k with
  | 0 => .object "MeetHouse$Keepers"
  | 1 => .array (.object "MeetHouse$Family")
  | 2 => .int
  | 3 => .array .int
  | 4 => .int
  | 5 => .object "MeetHouse$Plan"
  | 6 => .array (.object "MeetHouse$Thing")
  | 7 => .object "MeetHouse$History"
  | 8 => .object "MeetHouse$Sheet"
  | 9 => .object "MeetHouse$Gatherer"
  | 10 => .object "MeetHouse$Fraction"
  | _ => .int
abbrev wsX100 : List Cond := u_ws RX10 TX10 12
theorem nmX10 : ∀ a, a < 12 → ∀ b, b < 12 → a ≠ b → (TX10 a).2.1 ≠ (TX10 b).2.1 := by decide +kernel
theorem tyX10_ok : ∀ k, k < 12 → parseFieldDescriptor (TX10 k).2.2.1 = some (tyX10 k) := by decide +kernel
abbrev cX10_init : ByteArray := prog_1_method_1_code
def yX10_init : MethodName := ⟨RX10, "<init>", "()V"⟩
abbrev cX10_keeper : ByteArray := prog_1_method_2_code
def yX10_keeper : MethodName := ⟨RX10, "keeper", "(II)I"⟩
abbrev cX10_tenths : ByteArray := prog_1_method_3_code
def yX10_tenths : MethodName := ⟨RX10, "tenths", "(II)Z"⟩
abbrev cX10_keeperOf : ByteArray := prog_1_method_4_code
def yX10_keeperOf : MethodName := ⟨RX10, "keeperOf", "(II)I"⟩
abbrev cX10_areTenths : ByteArray := prog_1_method_5_code
def yX10_areTenths : MethodName := ⟨RX10, "areTenths", "(I)Z"⟩
abbrev cX10_list : ByteArray := prog_1_method_6_code
def yX10_list : MethodName := ⟨RX10, "list", "(I)I"⟩
abbrev cX10_told : ByteArray := prog_1_method_7_code
def yX10_told : MethodName := ⟨RX10, "told", "()I"⟩
abbrev cX10_most : ByteArray := prog_1_method_8_code
def yX10_most : MethodName := ⟨RX10, "most", "(I)I"⟩
abbrev cX10_grid : ByteArray := prog_1_method_9_code
def yX10_grid : MethodName := ⟨RX10, "grid", "(III)I"⟩
abbrev cX10_wall : ByteArray := prog_1_method_10_code
def yX10_wall : MethodName := ⟨RX10, "wall", "(IIIIII)I"⟩
abbrev cX10_tree : ByteArray := prog_1_method_11_code
def yX10_tree : MethodName := ⟨RX10, "tree", "(II)I"⟩
abbrev cX10_plane : ByteArray := prog_1_method_12_code
def yX10_plane : MethodName := ⟨RX10, "plane", "(II)I"⟩
abbrev cX10_join : ByteArray := prog_1_method_13_code
def yX10_join : MethodName := ⟨RX10, "join", "(III)I"⟩
abbrev cX10_dual : ByteArray := prog_1_method_14_code
def yX10_dual : MethodName := ⟨RX10, "dual", "(I)I"⟩
abbrev cX10_thin : ByteArray := prog_1_method_15_code
def yX10_thin : MethodName := ⟨RX10, "thin", "(II)I"⟩
abbrev cX10_both : ByteArray := prog_1_method_16_code
def yX10_both : MethodName := ⟨RX10, "both", "(II)I"⟩
abbrev cX10_better : ByteArray := prog_1_method_17_code
def yX10_better : MethodName := ⟨RX10, "better", "(I)I"⟩
abbrev cX10_family : ByteArray := prog_1_method_18_code
def yX10_family : MethodName := ⟨RX10, "family", "(II)I"⟩
abbrev cX10_quorum : ByteArray := prog_1_method_19_code
def yX10_quorum : MethodName := ⟨RX10, "quorum", "(II)I"⟩
abbrev cX10_isLength : ByteArray := prog_1_method_20_code
def yX10_isLength : MethodName := ⟨RX10, "isLength", "(I)Z"⟩
abbrev cX10_familyAt : ByteArray := prog_1_method_21_code
def yX10_familyAt : MethodName := ⟨RX10, "familyAt", "(I)LMeetHouse$Family;"⟩
abbrev cX10_roomForFamily : ByteArray := prog_1_method_22_code
def yX10_roomForFamily : MethodName := ⟨RX10, "roomForFamily", "()Z"⟩
abbrev cX10_settleRows : ByteArray := prog_1_method_23_code
def yX10_settleRows : MethodName := ⟨RX10, "settleRows", "(II)I"⟩
abbrev cX10_settleGathered : ByteArray := prog_1_method_24_code
def yX10_settleGathered : MethodName := ⟨RX10, "settleGathered", "(I)I"⟩
abbrev cX10_settle : ByteArray := prog_1_method_25_code
def yX10_settle : MethodName := ⟨RX10, "settle", "(I)I"⟩
abbrev cX10_has : ByteArray := prog_1_method_26_code
def yX10_has : MethodName := ⟨RX10, "has", "(II)I"⟩
abbrev cX10_apart : ByteArray := prog_1_method_27_code
def yX10_apart : MethodName := ⟨RX10, "apart", "(II)I"⟩
abbrev cX10_hit : ByteArray := prog_1_method_28_code
def yX10_hit : MethodName := ⟨RX10, "hit", "(I)I"⟩
abbrev cX10_falls : ByteArray := prog_1_method_29_code
def yX10_falls : MethodName := ⟨RX10, "falls", "(I)I"⟩
abbrev cX10_liars : ByteArray := prog_1_method_30_code
def yX10_liars : MethodName := ⟨RX10, "liars", "(IZ)I"⟩
abbrev cX10_chance : ByteArray := prog_1_method_31_code
def yX10_chance : MethodName := ⟨RX10, "chance", "(I)J"⟩
abbrev cX10_firstApart : ByteArray := prog_1_method_32_code
def yX10_firstApart : MethodName := ⟨RX10, "firstApart", "(LMeetHouse$Family;LMeetHouse$Family;)I"⟩
abbrev cX10_smallestMeeting : ByteArray := prog_1_method_33_code
def yX10_smallestMeeting : MethodName := ⟨RX10, "smallestMeeting", "(LMeetHouse$Family;)I"⟩
abbrev cX10_even : ByteArray := prog_1_method_34_code
def yX10_even : MethodName := ⟨RX10, "even", "(I)Z"⟩
abbrev cX10_part : ByteArray := prog_1_method_35_code
def yX10_part : MethodName := ⟨RX10, "part", "(II)Z"⟩
abbrev cX10_partOf : ByteArray := prog_1_method_36_code
def yX10_partOf : MethodName := ⟨RX10, "partOf", "(I)I"⟩
abbrev cX10_load : ByteArray := prog_1_method_37_code
def yX10_load : MethodName := ⟨RX10, "load", "(I)I"⟩
abbrev cX10_loadOf : ByteArray := prog_1_method_38_code
def yX10_loadOf : MethodName := ⟨RX10, "loadOf", "(IZ)I"⟩
abbrev cX10_weight : ByteArray := prog_1_method_39_code
def yX10_weight : MethodName := ⟨RX10, "weight", "(II)Z"⟩
abbrev cX10_bound : ByteArray := prog_1_method_40_code
def yX10_bound : MethodName := ⟨RX10, "bound", "(IZ)I"⟩
abbrev cX10_proved : ByteArray := prog_1_method_41_code
def yX10_proved : MethodName := ⟨RX10, "proved", "()I"⟩
abbrev cX10_mostLoaded : ByteArray := prog_1_method_42_code
def yX10_mostLoaded : MethodName := ⟨RX10, "mostLoaded", "(LMeetHouse$Family;)I"⟩
abbrev cX10_reckonLoad : ByteArray := prog_1_method_43_code
def yX10_reckonLoad : MethodName := ⟨RX10, "reckonLoad", "(LMeetHouse$Family;I)V"⟩
abbrev cX10_reckonBound : ByteArray := prog_1_method_44_code
def yX10_reckonBound : MethodName := ⟨RX10, "reckonBound", "(LMeetHouse$Family;)V"⟩
abbrev cX10_witness : ByteArray := prog_1_method_45_code
def yX10_witness : MethodName := ⟨RX10, "witness", "(I)I"⟩
abbrev cX10_names : ByteArray := prog_1_method_46_code
def yX10_names : MethodName := ⟨RX10, "names", "(I)I"⟩
abbrev cX10_forge : ByteArray := prog_1_method_47_code
def yX10_forge : MethodName := ⟨RX10, "forge", "(II)Z"⟩
abbrev cX10_judge : ByteArray := prog_1_method_48_code
def yX10_judge : MethodName := ⟨RX10, "judge", "(I)I"⟩
abbrev cX10_lay : ByteArray := prog_1_method_49_code
def yX10_lay : MethodName := ⟨RX10, "lay", "(III)I"⟩
abbrev cX10_lies : ByteArray := prog_1_method_50_code
def yX10_lies : MethodName := ⟨RX10, "lies", "(I)I"⟩
abbrev cX10_taken : ByteArray := prog_1_method_51_code
def yX10_taken : MethodName := ⟨RX10, "taken", "(III)I"⟩
abbrev cX10_copy : ByteArray := prog_1_method_52_code
def yX10_copy : MethodName := ⟨RX10, "copy", "(IIIII)I"⟩
abbrev cX10_use : ByteArray := prog_1_method_53_code
def yX10_use : MethodName := ⟨RX10, "use", "(I)I"⟩
abbrev cX10_undo : ByteArray := prog_1_method_54_code
def yX10_undo : MethodName := ⟨RX10, "undo", "()I"⟩
abbrev cX10_size : ByteArray := prog_1_method_55_code
def yX10_size : MethodName := ⟨RX10, "size", "(I)I"⟩
abbrev cX10_status : ByteArray := prog_1_method_56_code
def yX10_status : MethodName := ⟨RX10, "status", "()I"⟩
abbrev cX10_placeAt : ByteArray := prog_1_method_57_code
def yX10_placeAt : MethodName := ⟨RX10, "placeAt", "(I)LMeetHouse$Thing;"⟩
abbrev cX10_takeBack : ByteArray := prog_1_method_58_code
def yX10_takeBack : MethodName := ⟨RX10, "takeBack", "(LMeetHouse$Act;)V"⟩
abbrev cX10_takeBackPlace : ByteArray := prog_1_method_59_code
def yX10_takeBackPlace : MethodName := ⟨RX10, "takeBackPlace", "(LMeetHouse$Act;)V"⟩
abbrev cX10_refuse : ByteArray := prog_1_method_60_code
def yX10_refuse : MethodName := ⟨RX10, "refuse", "(I)I"⟩
abbrev cX10_refuseFalse : ByteArray := prog_1_method_61_code
def yX10_refuseFalse : MethodName := ⟨RX10, "refuseFalse", "(I)Z"⟩
abbrev cX10_accept : ByteArray := prog_1_method_62_code
def yX10_accept : MethodName := ⟨RX10, "accept", "(I)I"⟩
abbrev cX10_acceptTrue : ByteArray := prog_1_method_63_code
def yX10_acceptTrue : MethodName := ⟨RX10, "acceptTrue", "()Z"⟩
def RX11 : String := "MeetHouseModel"
def TX11 : u_T := fun k => match k with
  | 0 => ("MeetHouseModel", "strengths", "[I", true)
  | 1 => ("MeetHouseModel", "tenth", "[I", true)
  | 2 => ("MeetHouseModel", "weights", "[I", true)
  | 3 => ("MeetHouseModel", "keepers", "I", false)
  | 4 => ("MeetHouseModel", "status", "I", false)
  | 5 => ("MeetHouseModel", "thrown", "I", false)
  | 6 => ("MeetHouseModel", "list", "[I", true)
  | 7 => ("MeetHouseModel", "listed", "I", false)
  | 8 => ("MeetHouseModel", "kinds", "[I", true)
  | 9 => ("MeetHouseModel", "many", "[I", true)
  | 10 => ("MeetHouseModel", "quorums", "[I", true)
  | 11 => ("MeetHouseModel", "families", "I", false)
  | 12 => ("MeetHouseModel", "plan", "[I", true)
  | 13 => ("MeetHouseModel", "hasPlan", "Z", false)
  | 14 => ("MeetHouseModel", "sorts", "[I", true)
  | 15 => ("MeetHouseModel", "things", "[I", true)
  | 16 => ("MeetHouseModel", "plans", "[I", true)
  | 17 => ("MeetHouseModel", "sheet", "[I", true)
  | 18 => ("MeetHouseModel", "pairs", "I", false)
  | 19 => ("MeetHouseModel", "acted", "[I", true)
  | 20 => ("MeetHouseModel", "acts", "I", false)
  | 21 => ("MeetHouseModel", "comes", "[Z", true)
  | 22 => ("MeetHouseModel", "holds", "[Z", true)
  | 23 => ("MeetHouseModel", "found", "[I", true)
  | 24 => ("MeetHouseModel", "foundMany", "I", false)
  | 25 => ("MeetHouseModel", "rowFrom", "[I", true)
  | 26 => ("MeetHouseModel", "rowSize", "[I", true)
  | 27 => ("MeetHouseModel", "rows", "I", false)
  | 28 => ("MeetHouseModel", "digit", "[I", true)
  | 29 => ("MeetHouseModel", "enough", "[I", true)
  | 30 => ("MeetHouseModel", "enoughMany", "[I", true)
  | 31 => ("MeetHouseModel", "full", "[Z", true)
  | 32 => ("MeetHouseModel", "more", "[Z", true)
  | 33 => ("MeetHouseModel", "upper", "I", false)
  | 34 => ("MeetHouseModel", "lower", "I", false)
  | _ => ("MeetHouseModel", "spare", "[I", true)
def tyX11 : Nat → FieldType := fun k => match k with
  | 0 => .array .int
  | 1 => .array .int
  | 2 => .array .int
  | 3 => .int
  | 4 => .int
  | 5 => .int
  | 6 => .array .int
  | 7 => .int
  | 8 => .array .int
  | 9 => .array .int
  | 10 => .array .int
  | 11 => .int
  | 12 => .array .int
  | 13 => .boolean
  | 14 => .array .int
  | 15 => .array .int
  | 16 => .array .int
  | 17 => .array .int
  | 18 => .int
  | 19 => .array .int
  | 20 => .int
  | 21 => .array .boolean
  | 22 => .array .boolean
  | 23 => .array .int
  | 24 => .int
  | 25 => .array .int
  | 26 => .array .int
  | 27 => .int
  | 28 => .array .int
  | 29 => .array .int
  | 30 => .array .int
  | 31 => .array .boolean
  | 32 => .array .boolean
  | 33 => .int
  | 34 => .int
  | _ => .array .int
abbrev wsX110 : List Cond := u_ws RX11 TX11 36
theorem nmX11 : ∀ a, a < 36 → ∀ b, b < 36 → a ≠ b → (TX11 a).2.1 ≠ (TX11 b).2.1 := by decide +kernel
theorem tyX11_ok : ∀ k, k < 36 → parseFieldDescriptor (TX11 k).2.2.1 = some (tyX11 k) := by decide +kernel
abbrev cX11_init : ByteArray := prog_13_method_1_code
def yX11_init : MethodName := ⟨RX11, "<init>", "()V"⟩
abbrev cX11_no : ByteArray := prog_13_method_3_code
def yX11_no : MethodName := ⟨RX11, "no", "(I)I"⟩
abbrev cX11_not : ByteArray := prog_13_method_4_code
def yX11_not : MethodName := ⟨RX11, "not", "(I)Z"⟩
abbrev cX11_in : ByteArray := prog_13_method_5_code
def yX11_in : MethodName := ⟨RX11, "in", "(III)Z"⟩
abbrev cX11_bitsOf : ByteArray := prog_13_method_6_code
def yX11_bitsOf : MethodName := ⟨RX11, "bitsOf", "(I)I"⟩
abbrev cX11_isSet : ByteArray := prog_13_method_7_code
def yX11_isSet : MethodName := ⟨RX11, "isSet", "(I)Z"⟩
abbrev cX11_isFamily : ByteArray := prog_13_method_8_code
def yX11_isFamily : MethodName := ⟨RX11, "isFamily", "(I)Z"⟩
abbrev cX11_quorumOf : ByteArray := prog_13_method_9_code
def yX11_quorumOf : MethodName := ⟨RX11, "quorumOf", "(II)I"⟩
abbrev cX11_act : ByteArray := prog_13_method_10_code
def yX11_act : MethodName := ⟨RX11, "act", "(III)V"⟩
abbrev cX11_planActs : ByteArray := prog_13_method_11_code
def yX11_planActs : MethodName := ⟨RX11, "planActs", "()V"⟩
abbrev cX11_caseActs : ByteArray := prog_13_method_12_code
def yX11_caseActs : MethodName := ⟨RX11, "caseActs", "(I)V"⟩
abbrev cX11_undo : ByteArray := prog_13_method_13_code
def yX11_undo : MethodName := ⟨RX11, "undo", "()I"⟩
abbrev cX11_keeper : ByteArray := prog_13_method_14_code
def yX11_keeper : MethodName := ⟨RX11, "keeper", "(II)I"⟩
abbrev cX11_tenths : ByteArray := prog_13_method_15_code
def yX11_tenths : MethodName := ⟨RX11, "tenths", "(II)Z"⟩
abbrev cX11_keeperOf : ByteArray := prog_13_method_16_code
def yX11_keeperOf : MethodName := ⟨RX11, "keeperOf", "(II)I"⟩
abbrev cX11_noSets : ByteArray := prog_13_method_17_code
def yX11_noSets : MethodName := ⟨RX11, "noSets", "()V"⟩
abbrev cX11_isBelow : ByteArray := prog_13_method_18_code
def yX11_isBelow : MethodName := ⟨RX11, "isBelow", "(I)Z"⟩
abbrev cX11_least : ByteArray := prog_13_method_19_code
def yX11_least : MethodName := ⟨RX11, "least", "()Z"⟩
abbrev cX11_made : ByteArray := prog_13_method_20_code
def yX11_made : MethodName := ⟨RX11, "made", "(I)I"⟩
abbrev cX11_comeAll : ByteArray := prog_13_method_21_code
def yX11_comeAll : MethodName := ⟨RX11, "comeAll", "(I)V"⟩
abbrev cX11_list : ByteArray := prog_13_method_22_code
def yX11_list : MethodName := ⟨RX11, "list", "(I)I"⟩
abbrev cX11_told : ByteArray := prog_13_method_23_code
def yX11_told : MethodName := ⟨RX11, "told", "()I"⟩
abbrev cX11_strengthOf : ByteArray := prog_13_method_24_code
def yX11_strengthOf : MethodName := ⟨RX11, "strengthOf", "(I)I"⟩
abbrev cX11_most : ByteArray := prog_13_method_25_code
def yX11_most : MethodName := ⟨RX11, "most", "(I)I"⟩
abbrev cX11_comeRows : ByteArray := prog_13_method_26_code
def yX11_comeRows : MethodName := ⟨RX11, "comeRows", "()V"⟩
abbrev cX11_areKeepers : ByteArray := prog_13_method_27_code
def yX11_areKeepers : MethodName := ⟨RX11, "areKeepers", "(II)Z"⟩
abbrev cX11_grid : ByteArray := prog_13_method_28_code
def yX11_grid : MethodName := ⟨RX11, "grid", "(III)I"⟩
abbrev cX11_wall : ByteArray := prog_13_method_29_code
def yX11_wall : MethodName := ⟨RX11, "wall", "(IIIIII)I"⟩
abbrev cX11_enoughs : ByteArray := prog_13_method_30_code
def yX11_enoughs : MethodName := ⟨RX11, "enoughs", "(II)V"⟩
abbrev cX11_tree : ByteArray := prog_13_method_31_code
def yX11_tree : MethodName := ⟨RX11, "tree", "(II)I"⟩
abbrev cX11_plane : ByteArray := prog_13_method_32_code
def yX11_plane : MethodName := ⟨RX11, "plane", "(II)I"⟩
abbrev cX11_join : ByteArray := prog_13_method_33_code
def yX11_join : MethodName := ⟨RX11, "join", "(III)I"⟩
abbrev cX11_meetsAll : ByteArray := prog_13_method_34_code
def yX11_meetsAll : MethodName := ⟨RX11, "meetsAll", "(II)Z"⟩
abbrev cX11_allOf : ByteArray := prog_13_method_35_code
def yX11_allOf : MethodName := ⟨RX11, "allOf", "(I)I"⟩
abbrev cX11_dual : ByteArray := prog_13_method_36_code
def yX11_dual : MethodName := ⟨RX11, "dual", "(I)I"⟩
abbrev cX11_thin : ByteArray := prog_13_method_37_code
def yX11_thin : MethodName := ⟨RX11, "thin", "(II)I"⟩
abbrev cX11_both : ByteArray := prog_13_method_38_code
def yX11_both : MethodName := ⟨RX11, "both", "(II)I"⟩
abbrev cX11_apartOf : ByteArray := prog_13_method_39_code
def yX11_apartOf : MethodName := ⟨RX11, "apartOf", "(II)I"⟩
abbrev cX11_better : ByteArray := prog_13_method_40_code
def yX11_better : MethodName := ⟨RX11, "better", "(I)I"⟩
abbrev cX11_family : ByteArray := prog_13_method_41_code
def yX11_family : MethodName := ⟨RX11, "family", "(II)I"⟩
abbrev cX11_quorum : ByteArray := prog_13_method_42_code
def yX11_quorum : MethodName := ⟨RX11, "quorum", "(II)I"⟩
abbrev cX11_hasOne : ByteArray := prog_13_method_43_code
def yX11_hasOne : MethodName := ⟨RX11, "hasOne", "(II)Z"⟩
abbrev cX11_has : ByteArray := prog_13_method_44_code
def yX11_has : MethodName := ⟨RX11, "has", "(II)I"⟩
abbrev cX11_apart : ByteArray := prog_13_method_45_code
def yX11_apart : MethodName := ⟨RX11, "apart", "(II)I"⟩
abbrev cX11_hitOf : ByteArray := prog_13_method_46_code
def yX11_hitOf : MethodName := ⟨RX11, "hitOf", "(I)I"⟩
abbrev cX11_hit : ByteArray := prog_13_method_47_code
def yX11_hit : MethodName := ⟨RX11, "hit", "(I)I"⟩
abbrev cX11_falls : ByteArray := prog_13_method_48_code
def yX11_falls : MethodName := ⟨RX11, "falls", "(I)I"⟩
abbrev cX11_liars : ByteArray := prog_13_method_49_code
def yX11_liars : MethodName := ⟨RX11, "liars", "(IZ)I"⟩
abbrev cX11_chance : ByteArray := prog_13_method_50_code
def yX11_chance : MethodName := ⟨RX11, "chance", "(I)J"⟩
abbrev cX11_even : ByteArray := prog_13_method_51_code
def yX11_even : MethodName := ⟨RX11, "even", "(I)Z"⟩
abbrev cX11_isPart : ByteArray := prog_13_method_52_code
def yX11_isPart : MethodName := ⟨RX11, "isPart", "(I)Z"⟩
abbrev cX11_allParts : ByteArray := prog_13_method_53_code
def yX11_allParts : MethodName := ⟨RX11, "allParts", "()I"⟩
abbrev cX11_part : ByteArray := prog_13_method_54_code
def yX11_part : MethodName := ⟨RX11, "part", "(II)Z"⟩
abbrev cX11_partOf : ByteArray := prog_13_method_55_code
def yX11_partOf : MethodName := ⟨RX11, "partOf", "(I)I"⟩
abbrev cX11_divisor : ByteArray := prog_13_method_56_code
def yX11_divisor : MethodName := ⟨RX11, "divisor", "(II)I"⟩
abbrev cX11_fraction : ByteArray := prog_13_method_57_code
def yX11_fraction : MethodName := ⟨RX11, "fraction", "(II)V"⟩
abbrev cX11_loadsOf : ByteArray := prog_13_method_58_code
def yX11_loadsOf : MethodName := ⟨RX11, "loadsOf", "(I)V"⟩
abbrev cX11_loaded : ByteArray := prog_13_method_59_code
def yX11_loaded : MethodName := ⟨RX11, "loaded", "()I"⟩
abbrev cX11_load : ByteArray := prog_13_method_60_code
def yX11_load : MethodName := ⟨RX11, "load", "(I)I"⟩
abbrev cX11_loadOf : ByteArray := prog_13_method_61_code
def yX11_loadOf : MethodName := ⟨RX11, "loadOf", "(IZ)I"⟩
abbrev cX11_weight : ByteArray := prog_13_method_62_code
def yX11_weight : MethodName := ⟨RX11, "weight", "(II)Z"⟩
abbrev cX11_boundOf : ByteArray := prog_13_method_63_code
def yX11_boundOf : MethodName := ⟨RX11, "boundOf", "(I)V"⟩
abbrev cX11_bound : ByteArray := prog_13_method_64_code
def yX11_bound : MethodName := ⟨RX11, "bound", "(IZ)I"⟩
abbrev cX11_proved : ByteArray := prog_13_method_65_code
def yX11_proved : MethodName := ⟨RX11, "proved", "()I"⟩
abbrev cX11_witness : ByteArray := prog_13_method_66_code
def yX11_witness : MethodName := ⟨RX11, "witness", "(I)I"⟩
abbrev cX11_names : ByteArray := prog_13_method_67_code
def yX11_names : MethodName := ⟨RX11, "names", "(I)I"⟩
abbrev cX11_forge : ByteArray := prog_13_method_68_code
def yX11_forge : MethodName := ⟨RX11, "forge", "(II)Z"⟩
abbrev cX11_judge : ByteArray := prog_13_method_69_code
def yX11_judge : MethodName := ⟨RX11, "judge", "(I)I"⟩
abbrev cX11_isPlace : ByteArray := prog_13_method_70_code
def yX11_isPlace : MethodName := ⟨RX11, "isPlace", "(I)Z"⟩
abbrev cX11_lay : ByteArray := prog_13_method_71_code
def yX11_lay : MethodName := ⟨RX11, "lay", "(III)I"⟩
abbrev cX11_lies : ByteArray := prog_13_method_72_code
def yX11_lies : MethodName := ⟨RX11, "lies", "(I)I"⟩
abbrev cX11_partsIn : ByteArray := prog_13_method_73_code
def yX11_partsIn : MethodName := ⟨RX11, "partsIn", "(I)I"⟩
abbrev cX11_taken : ByteArray := prog_13_method_74_code
def yX11_taken : MethodName := ⟨RX11, "taken", "(III)I"⟩
abbrev cX11_copy : ByteArray := prog_13_method_75_code
def yX11_copy : MethodName := ⟨RX11, "copy", "(IIIII)I"⟩
abbrev cX11_use : ByteArray := prog_13_method_76_code
def yX11_use : MethodName := ⟨RX11, "use", "(I)I"⟩
abbrev cX11_size : ByteArray := prog_13_method_77_code
def yX11_size : MethodName := ⟨RX11, "size", "(I)I"⟩
abbrev cX11_status : ByteArray := prog_13_method_78_code
def yX11_status : MethodName := ⟨RX11, "status", "()I"⟩
def RJ6 : String := "java/lang/Integer"
def TJ6 : u_T := fun k => match k with
  | _ => ("", "", "", false)
def tyJ6 : Nat → FieldType := fun k => match k with
  | _ => .int
abbrev wsJ60 : List Cond := u_ws RJ6 TJ6 0
theorem nmJ6 : ∀ a, a < 0 → ∀ b, b < 0 → a ≠ b → (TJ6 a).2.1 ≠ (TJ6 b).2.1 := by decide +kernel
theorem tyJ6_ok : ∀ k, k < 0 → parseFieldDescriptor (TJ6 k).2.2.1 = some (tyJ6 k) := by decide +kernel
abbrev cJ6_bitCount_0f7a4 : ByteArray := prog_14_method_49_code
def yJ6_bitCount_0f7a4 : MethodName := ⟨RJ6, "bitCount", "(I)I"⟩
def RJ13 : String := "java/lang/Long"
def TJ13 : u_T := fun k => match k with
  | _ => ("", "", "", false)
def tyJ13 : Nat → FieldType := fun k => match k with
  | _ => .int
abbrev wsJ130 : List Cond := u_ws RJ13 TJ13 0
theorem nmJ13 : ∀ a, a < 0 → ∀ b, b < 0 → a ≠ b → (TJ13 a).2.1 ≠ (TJ13 b).2.1 := by decide +kernel
theorem tyJ13_ok : ∀ k, k < 0 → parseFieldDescriptor (TJ13 k).2.2.1 = some (tyJ13 k) := by decide +kernel
abbrev cJ13_bitCount_95d88 : ByteArray := prog_15_method_50_code
def yJ13_bitCount_95d88 : MethodName := ⟨RJ13, "bitCount", "(J)I"⟩
def RJ9 : String := "java/lang/Math"
def TJ9 : u_T := fun k => match k with
  | _ => ("", "", "", false)
def tyJ9 : Nat → FieldType := fun k => match k with
  | _ => .int
abbrev wsJ90 : List Cond := u_ws RJ9 TJ9 0
theorem nmJ9 : ∀ a, a < 0 → ∀ b, b < 0 → a ≠ b → (TJ9 a).2.1 ≠ (TJ9 b).2.1 := by decide +kernel
theorem tyJ9_ok : ∀ k, k < 0 → parseFieldDescriptor (TJ9 k).2.2.1 = some (tyJ9 k) := by decide +kernel
abbrev cJ9_max_7cf53 : ByteArray := prog_16_method_65_code
def yJ9_max_7cf53 : MethodName := ⟨RJ9, "max", "(II)I"⟩
abbrev cJ9_min_7cf53 : ByteArray := prog_16_method_69_code
def yJ9_min_7cf53 : MethodName := ⟨RJ9, "min", "(II)I"⟩
def RL : String := "MeetHouseLaw"
abbrev cL_law : ByteArray := code
def yL_law : MethodName := ⟨RL, "law", "([I)Z"⟩
abbrev vwCl : List vw_C := [(RX0, TX0, 4), (RX1, TX1, 3), (RX2, TX2, 2), (RX3, TX3, 10), (RX4, TX4, 3), (RX5, TX5, 4), (RX6, TX6, 3), (RX7, TX7, 3), (RX8, TX8, 2), (RX9, TX9, 3), (RX10, TX10, 12), (RX11, TX11, 36)]
end
section
theorem dX0_init_0 : decode cX0_init 0 = .ok (.aload_n 0, 1) := by decide +kernel
theorem dX0_init_1 : decode cX0_init 1 = .ok (.invokespecial 3, 3) := by decide +kernel
theorem dX0_init_4 : decode cX0_init 4 = .ok (.aload_n 0, 1) := by decide +kernel
theorem dX0_init_5 : decode cX0_init 5 = .ok (.iconst 0, 1) := by decide +kernel
theorem dX0_init_6 : decode cX0_init 6 = .ok (.putfield 9, 3) := by decide +kernel
theorem dX0_init_9 : decode cX0_init 9 = .ok (.aload_n 0, 1) := by decide +kernel
theorem dX0_init_10 : decode cX0_init 10 = .ok (.iconst 0, 1) := by decide +kernel
theorem dX0_init_11 : decode cX0_init 11 = .ok (.putfield 15, 3) := by decide +kernel
theorem dX0_init_14 : decode cX0_init 14 = .ok (.aload_n 0, 1) := by decide +kernel
theorem dX0_init_15 : decode cX0_init 15 = .ok (.iconst 0, 1) := by decide +kernel
theorem dX0_init_16 : decode cX0_init 16 = .ok (.putfield 18, 3) := by decide +kernel
theorem dX0_init_19 : decode cX0_init 19 = .ok (.aload_n 0, 1) := by decide +kernel
theorem dX0_init_20 : decode cX0_init 20 = .ok (.new 21, 3) := by decide +kernel
theorem dX0_init_23 : decode cX0_init 23 = .ok (.dup, 1) := by decide +kernel
theorem dX0_init_24 : decode cX0_init 24 = .ok (.invokespecial 23, 3) := by decide +kernel
theorem dX0_init_27 : decode cX0_init 27 = .ok (.putfield 24, 3) := by decide +kernel
theorem dX0_init_30 : decode cX0_init 30 = .ok (.return_, 1) := by decide +kernel
theorem dX1_init_0 : decode cX1_init 0 = .ok (.aload_n 0, 1) := by decide +kernel
theorem dX1_init_1 : decode cX1_init 1 = .ok (.invokespecial 3, 3) := by decide +kernel
theorem dX1_init_4 : decode cX1_init 4 = .ok (.aload_n 0, 1) := by decide +kernel
theorem dX1_init_5 : decode cX1_init 5 = .ok (.iconst 0, 1) := by decide +kernel
theorem dX1_init_6 : decode cX1_init 6 = .ok (.putfield 9, 3) := by decide +kernel
theorem dX1_init_9 : decode cX1_init 9 = .ok (.aload_n 0, 1) := by decide +kernel
theorem dX1_init_10 : decode cX1_init 10 = .ok (.iconst 0, 1) := by decide +kernel
theorem dX1_init_11 : decode cX1_init 11 = .ok (.putfield 15, 3) := by decide +kernel
theorem dX1_init_14 : decode cX1_init 14 = .ok (.aload_n 0, 1) := by decide +kernel
theorem dX1_init_15 : decode cX1_init 15 = .ok (.bipush 120, 2) := by decide +kernel
theorem dX1_init_17 : decode cX1_init 17 = .ok (.newarray .int, 2) := by decide +kernel
theorem dX1_init_19 : decode cX1_init 19 = .ok (.putfield 18, 3) := by decide +kernel
theorem dX1_init_22 : decode cX1_init 22 = .ok (.return_, 1) := by decide +kernel
theorem dX1_take_0 : decode cX1_take 0 = .ok (.aload_n 0, 1) := by decide +kernel
theorem dX1_take_1 : decode cX1_take 1 = .ok (.iload_n 1, 1) := by decide +kernel
theorem dX1_take_2 : decode cX1_take 2 = .ok (.putfield 9, 3) := by decide +kernel
theorem dX1_take_5 : decode cX1_take 5 = .ok (.aload_n 0, 1) := by decide +kernel
theorem dX1_take_6 : decode cX1_take 6 = .ok (.iconst 0, 1) := by decide +kernel
theorem dX1_take_7 : decode cX1_take 7 = .ok (.putfield 15, 3) := by decide +kernel
theorem dX1_take_10 : decode cX1_take 10 = .ok (.aload_n 2, 1) := by decide +kernel
theorem dX1_take_11 : decode cX1_take 11 = .ok (.iconst 0, 1) := by decide +kernel
theorem dX1_take_12 : decode cX1_take 12 = .ok (.invokevirtual 22, 3) := by decide +kernel
theorem dX1_take_15 : decode cX1_take 15 = .ok (.istore_n 3, 1) := by decide +kernel
theorem dX1_take_16 : decode cX1_take 16 = .ok (.iload_n 3, 1) := by decide +kernel
theorem dX1_take_17 : decode cX1_take 17 = .ok (.ifCond .lt 43, 3) := by decide +kernel
theorem dX1_take_20 : decode cX1_take 20 = .ok (.aload_n 0, 1) := by decide +kernel
theorem dX1_take_21 : decode cX1_take 21 = .ok (.getfield 15, 3) := by decide +kernel
theorem dX1_take_24 : decode cX1_take 24 = .ok (.bipush 120, 2) := by decide +kernel
theorem dX1_take_26 : decode cX1_take 26 = .ok (.if_icmp .ge 34, 3) := by decide +kernel
theorem dX1_take_29 : decode cX1_take 29 = .ok (.aload_n 0, 1) := by decide +kernel
theorem dX1_take_30 : decode cX1_take 30 = .ok (.getfield 18, 3) := by decide +kernel
theorem dX1_take_33 : decode cX1_take 33 = .ok (.aload_n 0, 1) := by decide +kernel
theorem dX1_take_34 : decode cX1_take 34 = .ok (.getfield 15, 3) := by decide +kernel
theorem dX1_take_37 : decode cX1_take 37 = .ok (.iload_n 3, 1) := by decide +kernel
theorem dX1_take_38 : decode cX1_take 38 = .ok (.iastore, 1) := by decide +kernel
theorem dX1_take_39 : decode cX1_take 39 = .ok (.aload_n 0, 1) := by decide +kernel
theorem dX1_take_40 : decode cX1_take 40 = .ok (.dup, 1) := by decide +kernel
theorem dX1_take_41 : decode cX1_take 41 = .ok (.getfield 15, 3) := by decide +kernel
theorem dX1_take_44 : decode cX1_take 44 = .ok (.iconst 1, 1) := by decide +kernel
theorem dX1_take_45 : decode cX1_take 45 = .ok (.iadd, 1) := by decide +kernel
theorem dX1_take_46 : decode cX1_take 46 = .ok (.putfield 15, 3) := by decide +kernel
theorem dX1_take_49 : decode cX1_take 49 = .ok (.aload_n 2, 1) := by decide +kernel
theorem dX1_take_50 : decode cX1_take 50 = .ok (.iload_n 3, 1) := by decide +kernel
theorem dX1_take_51 : decode cX1_take 51 = .ok (.iconst 1, 1) := by decide +kernel
theorem dX1_take_52 : decode cX1_take 52 = .ok (.iadd, 1) := by decide +kernel
theorem dX1_take_53 : decode cX1_take 53 = .ok (.invokevirtual 22, 3) := by decide +kernel
theorem dX1_take_56 : decode cX1_take 56 = .ok (.istore_n 3, 1) := by decide +kernel
theorem dX1_take_57 : decode cX1_take 57 = .ok (.goto (-41), 3) := by decide +kernel
theorem dX1_take_60 : decode cX1_take 60 = .ok (.return_, 1) := by decide +kernel
theorem dX1_isHeldBy_0 : decode cX1_isHeldBy 0 = .ok (.iconst 0, 1) := by decide +kernel
theorem dX1_isHeldBy_1 : decode cX1_isHeldBy 1 = .ok (.istore_n 2, 1) := by decide +kernel
theorem dX1_isHeldBy_2 : decode cX1_isHeldBy 2 = .ok (.iload_n 2, 1) := by decide +kernel
theorem dX1_isHeldBy_3 : decode cX1_isHeldBy 3 = .ok (.aload_n 0, 1) := by decide +kernel
theorem dX1_isHeldBy_4 : decode cX1_isHeldBy 4 = .ok (.getfield 15, 3) := by decide +kernel
theorem dX1_isHeldBy_7 : decode cX1_isHeldBy 7 = .ok (.if_icmp .ge 24, 3) := by decide +kernel
theorem dX1_isHeldBy_10 : decode cX1_isHeldBy 10 = .ok (.aload_n 0, 1) := by decide +kernel
theorem dX1_isHeldBy_11 : decode cX1_isHeldBy 11 = .ok (.getfield 18, 3) := by decide +kernel
theorem dX1_isHeldBy_14 : decode cX1_isHeldBy 14 = .ok (.iload_n 2, 1) := by decide +kernel
theorem dX1_isHeldBy_15 : decode cX1_isHeldBy 15 = .ok (.iaload, 1) := by decide +kernel
theorem dX1_isHeldBy_16 : decode cX1_isHeldBy 16 = .ok (.iload_n 1, 1) := by decide +kernel
theorem dX1_isHeldBy_17 : decode cX1_isHeldBy 17 = .ok (.iconst (-1), 1) := by decide +kernel
theorem dX1_isHeldBy_18 : decode cX1_isHeldBy 18 = .ok (.ixor, 1) := by decide +kernel
theorem dX1_isHeldBy_19 : decode cX1_isHeldBy 19 = .ok (.iand, 1) := by decide +kernel
theorem dX1_isHeldBy_20 : decode cX1_isHeldBy 20 = .ok (.ifCond .ne 5, 3) := by decide +kernel
theorem dX1_isHeldBy_23 : decode cX1_isHeldBy 23 = .ok (.iconst 1, 1) := by decide +kernel
theorem dX1_isHeldBy_24 : decode cX1_isHeldBy 24 = .ok (.ireturn, 1) := by decide +kernel
theorem dX1_isHeldBy_25 : decode cX1_isHeldBy 25 = .ok (.iinc 2 1, 3) := by decide +kernel
theorem dX1_isHeldBy_28 : decode cX1_isHeldBy 28 = .ok (.goto (-26), 3) := by decide +kernel
theorem dX1_isHeldBy_31 : decode cX1_isHeldBy 31 = .ok (.iconst 0, 1) := by decide +kernel
theorem dX1_isHeldBy_32 : decode cX1_isHeldBy 32 = .ok (.ireturn, 1) := by decide +kernel
theorem dX1_allKeepers_0 : decode cX1_allKeepers 0 = .ok (.iconst 0, 1) := by decide +kernel
theorem dX1_allKeepers_1 : decode cX1_allKeepers 1 = .ok (.istore_n 1, 1) := by decide +kernel
theorem dX1_allKeepers_2 : decode cX1_allKeepers 2 = .ok (.iconst 0, 1) := by decide +kernel
theorem dX1_allKeepers_3 : decode cX1_allKeepers 3 = .ok (.istore_n 2, 1) := by decide +kernel
theorem dX1_allKeepers_4 : decode cX1_allKeepers 4 = .ok (.iload_n 2, 1) := by decide +kernel
theorem dX1_allKeepers_5 : decode cX1_allKeepers 5 = .ok (.aload_n 0, 1) := by decide +kernel
theorem dX1_allKeepers_6 : decode cX1_allKeepers 6 = .ok (.getfield 15, 3) := by decide +kernel
theorem dX1_allKeepers_9 : decode cX1_allKeepers 9 = .ok (.if_icmp .ge 18, 3) := by decide +kernel
theorem dX1_allKeepers_12 : decode cX1_allKeepers 12 = .ok (.iload_n 1, 1) := by decide +kernel
theorem dX1_allKeepers_13 : decode cX1_allKeepers 13 = .ok (.aload_n 0, 1) := by decide +kernel
theorem dX1_allKeepers_14 : decode cX1_allKeepers 14 = .ok (.getfield 18, 3) := by decide +kernel
theorem dX1_allKeepers_17 : decode cX1_allKeepers 17 = .ok (.iload_n 2, 1) := by decide +kernel
theorem dX1_allKeepers_18 : decode cX1_allKeepers 18 = .ok (.iaload, 1) := by decide +kernel
theorem dX1_allKeepers_19 : decode cX1_allKeepers 19 = .ok (.ior, 1) := by decide +kernel
theorem dX1_allKeepers_20 : decode cX1_allKeepers 20 = .ok (.istore_n 1, 1) := by decide +kernel
theorem dX1_allKeepers_21 : decode cX1_allKeepers 21 = .ok (.iinc 2 1, 3) := by decide +kernel
theorem dX1_allKeepers_24 : decode cX1_allKeepers 24 = .ok (.goto (-20), 3) := by decide +kernel
theorem dX1_allKeepers_27 : decode cX1_allKeepers 27 = .ok (.iload_n 1, 1) := by decide +kernel
theorem dX1_allKeepers_28 : decode cX1_allKeepers 28 = .ok (.ireturn, 1) := by decide +kernel
theorem dX1_fewestKeepers_0 : decode cX1_fewestKeepers 0 = .ok (.bipush 16, 2) := by decide +kernel
theorem dX1_fewestKeepers_2 : decode cX1_fewestKeepers 2 = .ok (.istore_n 1, 1) := by decide +kernel
theorem dX1_fewestKeepers_3 : decode cX1_fewestKeepers 3 = .ok (.iconst 0, 1) := by decide +kernel
theorem dX1_fewestKeepers_4 : decode cX1_fewestKeepers 4 = .ok (.istore_n 2, 1) := by decide +kernel
theorem dX1_fewestKeepers_5 : decode cX1_fewestKeepers 5 = .ok (.iload_n 2, 1) := by decide +kernel
theorem dX1_fewestKeepers_6 : decode cX1_fewestKeepers 6 = .ok (.aload_n 0, 1) := by decide +kernel
theorem dX1_fewestKeepers_7 : decode cX1_fewestKeepers 7 = .ok (.getfield 15, 3) := by decide +kernel
theorem dX1_fewestKeepers_10 : decode cX1_fewestKeepers 10 = .ok (.if_icmp .ge 23, 3) := by decide +kernel
theorem dX1_fewestKeepers_13 : decode cX1_fewestKeepers 13 = .ok (.iload_n 1, 1) := by decide +kernel
theorem dX1_fewestKeepers_14 : decode cX1_fewestKeepers 14 = .ok (.aload_n 0, 1) := by decide +kernel
theorem dX1_fewestKeepers_15 : decode cX1_fewestKeepers 15 = .ok (.getfield 18, 3) := by decide +kernel
theorem dX1_fewestKeepers_18 : decode cX1_fewestKeepers 18 = .ok (.iload_n 2, 1) := by decide +kernel
theorem dX1_fewestKeepers_19 : decode cX1_fewestKeepers 19 = .ok (.iaload, 1) := by decide +kernel
theorem dX1_fewestKeepers_20 : decode cX1_fewestKeepers 20 = .ok (.invokestatic 28, 3) := by decide +kernel
theorem dX1_fewestKeepers_23 : decode cX1_fewestKeepers 23 = .ok (.invokestatic 33, 3) := by decide +kernel
theorem dX1_fewestKeepers_26 : decode cX1_fewestKeepers 26 = .ok (.istore_n 1, 1) := by decide +kernel
theorem dX1_fewestKeepers_27 : decode cX1_fewestKeepers 27 = .ok (.iinc 2 1, 3) := by decide +kernel
theorem dX1_fewestKeepers_30 : decode cX1_fewestKeepers 30 = .ok (.goto (-25), 3) := by decide +kernel
theorem dX1_fewestKeepers_33 : decode cX1_fewestKeepers 33 = .ok (.iload_n 1, 1) := by decide +kernel
theorem dX1_fewestKeepers_34 : decode cX1_fewestKeepers 34 = .ok (.ireturn, 1) := by decide +kernel
theorem dX1_mostKeepers_0 : decode cX1_mostKeepers 0 = .ok (.iconst 0, 1) := by decide +kernel
theorem dX1_mostKeepers_1 : decode cX1_mostKeepers 1 = .ok (.istore_n 1, 1) := by decide +kernel
theorem dX1_mostKeepers_2 : decode cX1_mostKeepers 2 = .ok (.iconst 0, 1) := by decide +kernel
theorem dX1_mostKeepers_3 : decode cX1_mostKeepers 3 = .ok (.istore_n 2, 1) := by decide +kernel
theorem dX1_mostKeepers_4 : decode cX1_mostKeepers 4 = .ok (.iload_n 2, 1) := by decide +kernel
theorem dX1_mostKeepers_5 : decode cX1_mostKeepers 5 = .ok (.aload_n 0, 1) := by decide +kernel
theorem dX1_mostKeepers_6 : decode cX1_mostKeepers 6 = .ok (.getfield 15, 3) := by decide +kernel
theorem dX1_mostKeepers_9 : decode cX1_mostKeepers 9 = .ok (.if_icmp .ge 23, 3) := by decide +kernel
theorem dX1_mostKeepers_12 : decode cX1_mostKeepers 12 = .ok (.iload_n 1, 1) := by decide +kernel
theorem dX1_mostKeepers_13 : decode cX1_mostKeepers 13 = .ok (.aload_n 0, 1) := by decide +kernel
theorem dX1_mostKeepers_14 : decode cX1_mostKeepers 14 = .ok (.getfield 18, 3) := by decide +kernel
theorem dX1_mostKeepers_17 : decode cX1_mostKeepers 17 = .ok (.iload_n 2, 1) := by decide +kernel
theorem dX1_mostKeepers_18 : decode cX1_mostKeepers 18 = .ok (.iaload, 1) := by decide +kernel
theorem dX1_mostKeepers_19 : decode cX1_mostKeepers 19 = .ok (.invokestatic 28, 3) := by decide +kernel
theorem dX1_mostKeepers_22 : decode cX1_mostKeepers 22 = .ok (.invokestatic 39, 3) := by decide +kernel
theorem dX1_mostKeepers_25 : decode cX1_mostKeepers 25 = .ok (.istore_n 1, 1) := by decide +kernel
theorem dX1_mostKeepers_26 : decode cX1_mostKeepers 26 = .ok (.iinc 2 1, 3) := by decide +kernel
theorem dX1_mostKeepers_29 : decode cX1_mostKeepers 29 = .ok (.goto (-25), 3) := by decide +kernel
theorem dX1_mostKeepers_32 : decode cX1_mostKeepers 32 = .ok (.iload_n 1, 1) := by decide +kernel
theorem dX1_mostKeepers_33 : decode cX1_mostKeepers 33 = .ok (.ireturn, 1) := by decide +kernel
theorem dX1_fewestShared_0 : decode cX1_fewestShared 0 = .ok (.aload_n 0, 1) := by decide +kernel
theorem dX1_fewestShared_1 : decode cX1_fewestShared 1 = .ok (.getfield 15, 3) := by decide +kernel
theorem dX1_fewestShared_4 : decode cX1_fewestShared 4 = .ok (.iconst 1, 1) := by decide +kernel
theorem dX1_fewestShared_5 : decode cX1_fewestShared 5 = .ok (.if_icmp .ne 13, 3) := by decide +kernel
theorem dX1_fewestShared_8 : decode cX1_fewestShared 8 = .ok (.aload_n 0, 1) := by decide +kernel
theorem dX1_fewestShared_9 : decode cX1_fewestShared 9 = .ok (.getfield 18, 3) := by decide +kernel
theorem dX1_fewestShared_12 : decode cX1_fewestShared 12 = .ok (.iconst 0, 1) := by decide +kernel
theorem dX1_fewestShared_13 : decode cX1_fewestShared 13 = .ok (.iaload, 1) := by decide +kernel
theorem dX1_fewestShared_14 : decode cX1_fewestShared 14 = .ok (.invokestatic 28, 3) := by decide +kernel
theorem dX1_fewestShared_17 : decode cX1_fewestShared 17 = .ok (.ireturn, 1) := by decide +kernel
theorem dX1_fewestShared_18 : decode cX1_fewestShared 18 = .ok (.bipush 16, 2) := by decide +kernel
theorem dX1_fewestShared_20 : decode cX1_fewestShared 20 = .ok (.istore_n 1, 1) := by decide +kernel
theorem dX1_fewestShared_21 : decode cX1_fewestShared 21 = .ok (.iconst 0, 1) := by decide +kernel
theorem dX1_fewestShared_22 : decode cX1_fewestShared 22 = .ok (.istore_n 2, 1) := by decide +kernel
theorem dX1_fewestShared_23 : decode cX1_fewestShared 23 = .ok (.iload_n 2, 1) := by decide +kernel
theorem dX1_fewestShared_24 : decode cX1_fewestShared 24 = .ok (.aload_n 0, 1) := by decide +kernel
theorem dX1_fewestShared_25 : decode cX1_fewestShared 25 = .ok (.getfield 15, 3) := by decide +kernel
theorem dX1_fewestShared_28 : decode cX1_fewestShared 28 = .ok (.if_icmp .ge 48, 3) := by decide +kernel
theorem dX1_fewestShared_31 : decode cX1_fewestShared 31 = .ok (.iload_n 2, 1) := by decide +kernel
theorem dX1_fewestShared_32 : decode cX1_fewestShared 32 = .ok (.iconst 1, 1) := by decide +kernel
theorem dX1_fewestShared_33 : decode cX1_fewestShared 33 = .ok (.iadd, 1) := by decide +kernel
theorem dX1_fewestShared_34 : decode cX1_fewestShared 34 = .ok (.istore_n 3, 1) := by decide +kernel
theorem dX1_fewestShared_35 : decode cX1_fewestShared 35 = .ok (.iload_n 3, 1) := by decide +kernel
theorem dX1_fewestShared_36 : decode cX1_fewestShared 36 = .ok (.aload_n 0, 1) := by decide +kernel
theorem dX1_fewestShared_37 : decode cX1_fewestShared 37 = .ok (.getfield 15, 3) := by decide +kernel
theorem dX1_fewestShared_40 : decode cX1_fewestShared 40 = .ok (.if_icmp .ge 30, 3) := by decide +kernel
theorem dX1_fewestShared_43 : decode cX1_fewestShared 43 = .ok (.iload_n 1, 1) := by decide +kernel
theorem dX1_fewestShared_44 : decode cX1_fewestShared 44 = .ok (.aload_n 0, 1) := by decide +kernel
theorem dX1_fewestShared_45 : decode cX1_fewestShared 45 = .ok (.getfield 18, 3) := by decide +kernel
theorem dX1_fewestShared_48 : decode cX1_fewestShared 48 = .ok (.iload_n 2, 1) := by decide +kernel
theorem dX1_fewestShared_49 : decode cX1_fewestShared 49 = .ok (.iaload, 1) := by decide +kernel
theorem dX1_fewestShared_50 : decode cX1_fewestShared 50 = .ok (.aload_n 0, 1) := by decide +kernel
theorem dX1_fewestShared_51 : decode cX1_fewestShared 51 = .ok (.getfield 18, 3) := by decide +kernel
theorem dX1_fewestShared_54 : decode cX1_fewestShared 54 = .ok (.iload_n 3, 1) := by decide +kernel
theorem dX1_fewestShared_55 : decode cX1_fewestShared 55 = .ok (.iaload, 1) := by decide +kernel
theorem dX1_fewestShared_56 : decode cX1_fewestShared 56 = .ok (.iand, 1) := by decide +kernel
theorem dX1_fewestShared_57 : decode cX1_fewestShared 57 = .ok (.invokestatic 28, 3) := by decide +kernel
theorem dX1_fewestShared_60 : decode cX1_fewestShared 60 = .ok (.invokestatic 33, 3) := by decide +kernel
theorem dX1_fewestShared_63 : decode cX1_fewestShared 63 = .ok (.istore_n 1, 1) := by decide +kernel
theorem dX1_fewestShared_64 : decode cX1_fewestShared 64 = .ok (.iinc 3 1, 3) := by decide +kernel
theorem dX1_fewestShared_67 : decode cX1_fewestShared 67 = .ok (.goto (-32), 3) := by decide +kernel
theorem dX1_fewestShared_70 : decode cX1_fewestShared 70 = .ok (.iinc 2 1, 3) := by decide +kernel
theorem dX1_fewestShared_73 : decode cX1_fewestShared 73 = .ok (.goto (-50), 3) := by decide +kernel
theorem dX1_fewestShared_76 : decode cX1_fewestShared 76 = .ok (.iload_n 1, 1) := by decide +kernel
theorem dX1_fewestShared_77 : decode cX1_fewestShared 77 = .ok (.ireturn, 1) := by decide +kernel
theorem dX1_countPairs_0 : decode cX1_countPairs 0 = .ok (.aload_n 0, 1) := by decide +kernel
theorem dX1_countPairs_1 : decode cX1_countPairs 1 = .ok (.getfield 15, 3) := by decide +kernel
theorem dX1_countPairs_4 : decode cX1_countPairs 4 = .ok (.aload_n 0, 1) := by decide +kernel
theorem dX1_countPairs_5 : decode cX1_countPairs 5 = .ok (.getfield 15, 3) := by decide +kernel
theorem dX1_countPairs_8 : decode cX1_countPairs 8 = .ok (.iconst 1, 1) := by decide +kernel
theorem dX1_countPairs_9 : decode cX1_countPairs 9 = .ok (.isub, 1) := by decide +kernel
theorem dX1_countPairs_10 : decode cX1_countPairs 10 = .ok (.imul, 1) := by decide +kernel
theorem dX1_countPairs_11 : decode cX1_countPairs 11 = .ok (.iconst 2, 1) := by decide +kernel
theorem dX1_countPairs_12 : decode cX1_countPairs 12 = .ok (.idiv, 1) := by decide +kernel
theorem dX1_countPairs_13 : decode cX1_countPairs 13 = .ok (.ireturn, 1) := by decide +kernel
theorem dX2_init_0 : decode cX2_init 0 = .ok (.aload_n 0, 1) := by decide +kernel
theorem dX2_init_1 : decode cX2_init 1 = .ok (.invokespecial 1, 3) := by decide +kernel
theorem dX2_init_4 : decode cX2_init 4 = .ok (.aload_n 0, 1) := by decide +kernel
theorem dX2_init_5 : decode cX2_init 5 = .ok (.iconst 0, 1) := by decide +kernel
theorem dX2_init_6 : decode cX2_init 6 = .ok (.putfield 7, 3) := by decide +kernel
theorem dX2_init_9 : decode cX2_init 9 = .ok (.aload_n 0, 1) := by decide +kernel
theorem dX2_init_10 : decode cX2_init 10 = .ok (.iconst 1, 1) := by decide +kernel
theorem dX2_init_11 : decode cX2_init 11 = .ok (.putfield 13, 3) := by decide +kernel
theorem dX2_init_14 : decode cX2_init 14 = .ok (.return_, 1) := by decide +kernel
theorem dX2_become_0 : decode cX2_become 0 = .ok (.iload_n 1, 1) := by decide +kernel
theorem dX2_become_1 : decode cX2_become 1 = .ok (.iload_n 2, 1) := by decide +kernel
theorem dX2_become_2 : decode cX2_become 2 = .ok (.invokestatic 16, 3) := by decide +kernel
theorem dX2_become_5 : decode cX2_become 5 = .ok (.istore_n 3, 1) := by decide +kernel
theorem dX2_become_6 : decode cX2_become 6 = .ok (.iload_n 1, 1) := by decide +kernel
theorem dX2_become_7 : decode cX2_become 7 = .ok (.ifCond .le 11, 3) := by decide +kernel
theorem dX2_become_10 : decode cX2_become 10 = .ok (.iload_n 2, 1) := by decide +kernel
theorem dX2_become_11 : decode cX2_become 11 = .ok (.ifCond .le 7, 3) := by decide +kernel
theorem dX2_become_14 : decode cX2_become 14 = .ok (.iload_n 3, 1) := by decide +kernel
theorem dX2_become_15 : decode cX2_become 15 = .ok (.ifCond .gt 14, 3) := by decide +kernel
theorem dX2_become_18 : decode cX2_become 18 = .ok (.aload_n 0, 1) := by decide +kernel
theorem dX2_become_19 : decode cX2_become 19 = .ok (.iconst 0, 1) := by decide +kernel
theorem dX2_become_20 : decode cX2_become 20 = .ok (.putfield 7, 3) := by decide +kernel
theorem dX2_become_23 : decode cX2_become 23 = .ok (.aload_n 0, 1) := by decide +kernel
theorem dX2_become_24 : decode cX2_become 24 = .ok (.iconst 1, 1) := by decide +kernel
theorem dX2_become_25 : decode cX2_become 25 = .ok (.putfield 13, 3) := by decide +kernel
theorem dX2_become_28 : decode cX2_become 28 = .ok (.return_, 1) := by decide +kernel
theorem dX2_become_29 : decode cX2_become 29 = .ok (.aload_n 0, 1) := by decide +kernel
theorem dX2_become_30 : decode cX2_become 30 = .ok (.iload_n 1, 1) := by decide +kernel
theorem dX2_become_31 : decode cX2_become 31 = .ok (.iload_n 3, 1) := by decide +kernel
theorem dX2_become_32 : decode cX2_become 32 = .ok (.idiv, 1) := by decide +kernel
theorem dX2_become_33 : decode cX2_become 33 = .ok (.putfield 7, 3) := by decide +kernel
theorem dX2_become_36 : decode cX2_become 36 = .ok (.aload_n 0, 1) := by decide +kernel
theorem dX2_become_37 : decode cX2_become 37 = .ok (.iload_n 2, 1) := by decide +kernel
theorem dX2_become_38 : decode cX2_become 38 = .ok (.iload_n 3, 1) := by decide +kernel
theorem dX2_become_39 : decode cX2_become 39 = .ok (.idiv, 1) := by decide +kernel
theorem dX2_become_40 : decode cX2_become 40 = .ok (.putfield 13, 3) := by decide +kernel
theorem dX2_become_43 : decode cX2_become 43 = .ok (.return_, 1) := by decide +kernel
theorem dX2_side_0 : decode cX2_side 0 = .ok (.iload_n 1, 1) := by decide +kernel
theorem dX2_side_1 : decode cX2_side 1 = .ok (.ifCond .eq 10, 3) := by decide +kernel
theorem dX2_side_4 : decode cX2_side 4 = .ok (.aload_n 0, 1) := by decide +kernel
theorem dX2_side_5 : decode cX2_side 5 = .ok (.getfield 13, 3) := by decide +kernel
theorem dX2_side_8 : decode cX2_side 8 = .ok (.goto 7, 3) := by decide +kernel
theorem dX2_side_11 : decode cX2_side 11 = .ok (.aload_n 0, 1) := by decide +kernel
theorem dX2_side_12 : decode cX2_side 12 = .ok (.getfield 7, 3) := by decide +kernel
theorem dX2_side_15 : decode cX2_side 15 = .ok (.ireturn, 1) := by decide +kernel
theorem dX2_greatestCommon_0 : decode cX2_greatestCommon 0 = .ok (.iload_n 0, 1) := by decide +kernel
theorem dX2_greatestCommon_1 : decode cX2_greatestCommon 1 = .ok (.istore_n 2, 1) := by decide +kernel
theorem dX2_greatestCommon_2 : decode cX2_greatestCommon 2 = .ok (.iload_n 1, 1) := by decide +kernel
theorem dX2_greatestCommon_3 : decode cX2_greatestCommon 3 = .ok (.istore_n 3, 1) := by decide +kernel
theorem dX2_greatestCommon_4 : decode cX2_greatestCommon 4 = .ok (.iconst 0, 1) := by decide +kernel
theorem dX2_greatestCommon_5 : decode cX2_greatestCommon 5 = .ok (.istore 4, 2) := by decide +kernel
theorem dX2_greatestCommon_7 : decode cX2_greatestCommon 7 = .ok (.iload 4, 2) := by decide +kernel
theorem dX2_greatestCommon_9 : decode cX2_greatestCommon 9 = .ok (.bipush 64, 2) := by decide +kernel
theorem dX2_greatestCommon_11 : decode cX2_greatestCommon 11 = .ok (.if_icmp .ge 23, 3) := by decide +kernel
theorem dX2_greatestCommon_14 : decode cX2_greatestCommon 14 = .ok (.iload_n 3, 1) := by decide +kernel
theorem dX2_greatestCommon_15 : decode cX2_greatestCommon 15 = .ok (.ifCond .eq 19, 3) := by decide +kernel
theorem dX2_greatestCommon_18 : decode cX2_greatestCommon 18 = .ok (.iload_n 2, 1) := by decide +kernel
theorem dX2_greatestCommon_19 : decode cX2_greatestCommon 19 = .ok (.iload_n 3, 1) := by decide +kernel
theorem dX2_greatestCommon_20 : decode cX2_greatestCommon 20 = .ok (.irem, 1) := by decide +kernel
theorem dX2_greatestCommon_21 : decode cX2_greatestCommon 21 = .ok (.istore 5, 2) := by decide +kernel
theorem dX2_greatestCommon_23 : decode cX2_greatestCommon 23 = .ok (.iload_n 3, 1) := by decide +kernel
theorem dX2_greatestCommon_24 : decode cX2_greatestCommon 24 = .ok (.istore_n 2, 1) := by decide +kernel
theorem dX2_greatestCommon_25 : decode cX2_greatestCommon 25 = .ok (.iload 5, 2) := by decide +kernel
theorem dX2_greatestCommon_27 : decode cX2_greatestCommon 27 = .ok (.istore_n 3, 1) := by decide +kernel
theorem dX2_greatestCommon_28 : decode cX2_greatestCommon 28 = .ok (.iinc 4 1, 3) := by decide +kernel
theorem dX2_greatestCommon_31 : decode cX2_greatestCommon 31 = .ok (.goto (-24), 3) := by decide +kernel
theorem dX2_greatestCommon_34 : decode cX2_greatestCommon 34 = .ok (.iload_n 2, 1) := by decide +kernel
theorem dX2_greatestCommon_35 : decode cX2_greatestCommon 35 = .ok (.ireturn, 1) := by decide +kernel
theorem dX4_init_0 : decode cX4_init 0 = .ok (.aload_n 0, 1) := by decide +kernel
theorem dX4_init_1 : decode cX4_init 1 = .ok (.invokespecial 3, 3) := by decide +kernel
theorem dX4_init_4 : decode cX4_init 4 = .ok (.aload_n 0, 1) := by decide +kernel
theorem dX4_init_5 : decode cX4_init 5 = .ok (.bipush 60, 2) := by decide +kernel
theorem dX4_init_7 : decode cX4_init 7 = .ok (.anewarray 9, 3) := by decide +kernel
theorem dX4_init_10 : decode cX4_init 10 = .ok (.putfield 11, 3) := by decide +kernel
theorem dX4_init_13 : decode cX4_init 13 = .ok (.aload_n 0, 1) := by decide +kernel
theorem dX4_init_14 : decode cX4_init 14 = .ok (.iconst 0, 1) := by decide +kernel
theorem dX4_init_15 : decode cX4_init 15 = .ok (.putfield 17, 3) := by decide +kernel
theorem dX4_init_18 : decode cX4_init 18 = .ok (.aload_n 0, 1) := by decide +kernel
theorem dX4_init_19 : decode cX4_init 19 = .ok (.iconst 0, 1) := by decide +kernel
theorem dX4_init_20 : decode cX4_init 20 = .ok (.putfield 21, 3) := by decide +kernel
theorem dX4_init_23 : decode cX4_init 23 = .ok (.iconst 0, 1) := by decide +kernel
theorem dX4_init_24 : decode cX4_init 24 = .ok (.istore_n 1, 1) := by decide +kernel
theorem dX4_init_25 : decode cX4_init 25 = .ok (.iload_n 1, 1) := by decide +kernel
theorem dX4_init_26 : decode cX4_init 26 = .ok (.bipush 60, 2) := by decide +kernel
theorem dX4_init_28 : decode cX4_init 28 = .ok (.if_icmp .ge 22, 3) := by decide +kernel
theorem dX4_init_31 : decode cX4_init 31 = .ok (.aload_n 0, 1) := by decide +kernel
theorem dX4_init_32 : decode cX4_init 32 = .ok (.getfield 11, 3) := by decide +kernel
theorem dX4_init_35 : decode cX4_init 35 = .ok (.iload_n 1, 1) := by decide +kernel
theorem dX4_init_36 : decode cX4_init 36 = .ok (.new 9, 3) := by decide +kernel
theorem dX4_init_39 : decode cX4_init 39 = .ok (.dup, 1) := by decide +kernel
theorem dX4_init_40 : decode cX4_init 40 = .ok (.invokespecial 24, 3) := by decide +kernel
theorem dX4_init_43 : decode cX4_init 43 = .ok (.aastore, 1) := by decide +kernel
theorem dX4_init_44 : decode cX4_init 44 = .ok (.iinc 1 1, 3) := by decide +kernel
theorem dX4_init_47 : decode cX4_init 47 = .ok (.goto (-22), 3) := by decide +kernel
theorem dX4_init_50 : decode cX4_init 50 = .ok (.return_, 1) := by decide +kernel
theorem dX4_open_0 : decode cX4_open 0 = .ok (.aload_n 0, 1) := by decide +kernel
theorem dX4_open_1 : decode cX4_open 1 = .ok (.getfield 21, 3) := by decide +kernel
theorem dX4_open_4 : decode cX4_open 4 = .ok (.bipush 60, 2) := by decide +kernel
theorem dX4_open_6 : decode cX4_open 6 = .ok (.if_icmp .ge 16, 3) := by decide +kernel
theorem dX4_open_9 : decode cX4_open 9 = .ok (.aload_n 0, 1) := by decide +kernel
theorem dX4_open_10 : decode cX4_open 10 = .ok (.dup, 1) := by decide +kernel
theorem dX4_open_11 : decode cX4_open 11 = .ok (.getfield 21, 3) := by decide +kernel
theorem dX4_open_14 : decode cX4_open 14 = .ok (.iconst 1, 1) := by decide +kernel
theorem dX4_open_15 : decode cX4_open 15 = .ok (.iadd, 1) := by decide +kernel
theorem dX4_open_16 : decode cX4_open 16 = .ok (.putfield 21, 3) := by decide +kernel
theorem dX4_open_19 : decode cX4_open 19 = .ok (.goto 16, 3) := by decide +kernel
theorem dX4_open_22 : decode cX4_open 22 = .ok (.aload_n 0, 1) := by decide +kernel
theorem dX4_open_23 : decode cX4_open 23 = .ok (.aload_n 0, 1) := by decide +kernel
theorem dX4_open_24 : decode cX4_open 24 = .ok (.getfield 17, 3) := by decide +kernel
theorem dX4_open_27 : decode cX4_open 27 = .ok (.iconst 1, 1) := by decide +kernel
theorem dX4_open_28 : decode cX4_open 28 = .ok (.iadd, 1) := by decide +kernel
theorem dX4_open_29 : decode cX4_open 29 = .ok (.bipush 60, 2) := by decide +kernel
theorem dX4_open_31 : decode cX4_open 31 = .ok (.irem, 1) := by decide +kernel
theorem dX4_open_32 : decode cX4_open 32 = .ok (.putfield 17, 3) := by decide +kernel
theorem dX4_open_35 : decode cX4_open 35 = .ok (.aload_n 0, 1) := by decide +kernel
theorem dX4_open_36 : decode cX4_open 36 = .ok (.getfield 11, 3) := by decide +kernel
theorem dX4_open_39 : decode cX4_open 39 = .ok (.aload_n 0, 1) := by decide +kernel
theorem dX4_open_40 : decode cX4_open 40 = .ok (.getfield 17, 3) := by decide +kernel
theorem dX4_open_43 : decode cX4_open 43 = .ok (.aload_n 0, 1) := by decide +kernel
theorem dX4_open_44 : decode cX4_open 44 = .ok (.getfield 21, 3) := by decide +kernel
theorem dX4_open_47 : decode cX4_open 47 = .ok (.iadd, 1) := by decide +kernel
theorem dX4_open_48 : decode cX4_open 48 = .ok (.iconst 1, 1) := by decide +kernel
theorem dX4_open_49 : decode cX4_open 49 = .ok (.isub, 1) := by decide +kernel
theorem dX4_open_50 : decode cX4_open 50 = .ok (.bipush 60, 2) := by decide +kernel
theorem dX4_open_52 : decode cX4_open 52 = .ok (.irem, 1) := by decide +kernel
theorem dX4_open_53 : decode cX4_open 53 = .ok (.aaload, 1) := by decide +kernel
theorem dX4_open_54 : decode cX4_open 54 = .ok (.astore 4, 2) := by decide +kernel
theorem dX4_open_56 : decode cX4_open 56 = .ok (.aload 4, 2) := by decide +kernel
theorem dX4_open_58 : decode cX4_open 58 = .ok (.iload_n 1, 1) := by decide +kernel
theorem dX4_open_59 : decode cX4_open 59 = .ok (.putfield 25, 3) := by decide +kernel
theorem dX4_open_62 : decode cX4_open 62 = .ok (.aload 4, 2) := by decide +kernel
theorem dX4_open_64 : decode cX4_open 64 = .ok (.iload_n 2, 1) := by decide +kernel
theorem dX4_open_65 : decode cX4_open 65 = .ok (.putfield 28, 3) := by decide +kernel
theorem dX4_open_68 : decode cX4_open 68 = .ok (.aload 4, 2) := by decide +kernel
theorem dX4_open_70 : decode cX4_open 70 = .ok (.iload_n 3, 1) := by decide +kernel
theorem dX4_open_71 : decode cX4_open 71 = .ok (.putfield 31, 3) := by decide +kernel
theorem dX4_open_74 : decode cX4_open 74 = .ok (.aload 4, 2) := by decide +kernel
theorem dX4_open_76 : decode cX4_open 76 = .ok (.areturn, 1) := by decide +kernel
theorem dX4_closeLatest_0 : decode cX4_closeLatest 0 = .ok (.aload_n 0, 1) := by decide +kernel
theorem dX4_closeLatest_1 : decode cX4_closeLatest 1 = .ok (.getfield 21, 3) := by decide +kernel
theorem dX4_closeLatest_4 : decode cX4_closeLatest 4 = .ok (.ifCond .gt 5, 3) := by decide +kernel
theorem dX4_closeLatest_7 : decode cX4_closeLatest 7 = .ok (.aconst_null, 1) := by decide +kernel
theorem dX4_closeLatest_8 : decode cX4_closeLatest 8 = .ok (.areturn, 1) := by decide +kernel
theorem dX4_closeLatest_9 : decode cX4_closeLatest 9 = .ok (.aload_n 0, 1) := by decide +kernel
theorem dX4_closeLatest_10 : decode cX4_closeLatest 10 = .ok (.dup, 1) := by decide +kernel
theorem dX4_closeLatest_11 : decode cX4_closeLatest 11 = .ok (.getfield 21, 3) := by decide +kernel
theorem dX4_closeLatest_14 : decode cX4_closeLatest 14 = .ok (.iconst 1, 1) := by decide +kernel
theorem dX4_closeLatest_15 : decode cX4_closeLatest 15 = .ok (.isub, 1) := by decide +kernel
theorem dX4_closeLatest_16 : decode cX4_closeLatest 16 = .ok (.putfield 21, 3) := by decide +kernel
theorem dX4_closeLatest_19 : decode cX4_closeLatest 19 = .ok (.aload_n 0, 1) := by decide +kernel
theorem dX4_closeLatest_20 : decode cX4_closeLatest 20 = .ok (.getfield 11, 3) := by decide +kernel
theorem dX4_closeLatest_23 : decode cX4_closeLatest 23 = .ok (.aload_n 0, 1) := by decide +kernel
theorem dX4_closeLatest_24 : decode cX4_closeLatest 24 = .ok (.getfield 17, 3) := by decide +kernel
theorem dX4_closeLatest_27 : decode cX4_closeLatest 27 = .ok (.aload_n 0, 1) := by decide +kernel
theorem dX4_closeLatest_28 : decode cX4_closeLatest 28 = .ok (.getfield 21, 3) := by decide +kernel
theorem dX4_closeLatest_31 : decode cX4_closeLatest 31 = .ok (.iadd, 1) := by decide +kernel
theorem dX4_closeLatest_32 : decode cX4_closeLatest 32 = .ok (.bipush 60, 2) := by decide +kernel
theorem dX4_closeLatest_34 : decode cX4_closeLatest 34 = .ok (.irem, 1) := by decide +kernel
theorem dX4_closeLatest_35 : decode cX4_closeLatest 35 = .ok (.aaload, 1) := by decide +kernel
theorem dX4_closeLatest_36 : decode cX4_closeLatest 36 = .ok (.areturn, 1) := by decide +kernel
theorem dX5_init_0 : decode cX5_init 0 = .ok (.aload_n 0, 1) := by decide +kernel
theorem dX5_init_1 : decode cX5_init 1 = .ok (.invokespecial 3, 3) := by decide +kernel
theorem dX5_init_4 : decode cX5_init 4 = .ok (.aload_n 0, 1) := by decide +kernel
theorem dX5_init_5 : decode cX5_init 5 = .ok (.iconst 0, 1) := by decide +kernel
theorem dX5_init_6 : decode cX5_init 6 = .ok (.putfield 9, 3) := by decide +kernel
theorem dX5_init_9 : decode cX5_init 9 = .ok (.aload_n 0, 1) := by decide +kernel
theorem dX5_init_10 : decode cX5_init 10 = .ok (.bipush 16, 2) := by decide +kernel
theorem dX5_init_12 : decode cX5_init 12 = .ok (.newarray .int, 2) := by decide +kernel
theorem dX5_init_14 : decode cX5_init 14 = .ok (.putfield 15, 3) := by decide +kernel
theorem dX5_init_17 : decode cX5_init 17 = .ok (.aload_n 0, 1) := by decide +kernel
theorem dX5_init_18 : decode cX5_init 18 = .ok (.bipush 16, 2) := by decide +kernel
theorem dX5_init_20 : decode cX5_init 20 = .ok (.newarray .int, 2) := by decide +kernel
theorem dX5_init_22 : decode cX5_init 22 = .ok (.putfield 19, 3) := by decide +kernel
theorem dX5_init_25 : decode cX5_init 25 = .ok (.aload_n 0, 1) := by decide +kernel
theorem dX5_init_26 : decode cX5_init 26 = .ok (.bipush 16, 2) := by decide +kernel
theorem dX5_init_28 : decode cX5_init 28 = .ok (.newarray .int, 2) := by decide +kernel
theorem dX5_init_30 : decode cX5_init 30 = .ok (.putfield 22, 3) := by decide +kernel
theorem dX5_init_33 : decode cX5_init 33 = .ok (.return_, 1) := by decide +kernel
theorem dX5_isThere_0 : decode cX5_isThere 0 = .ok (.iload_n 1, 1) := by decide +kernel
theorem dX5_isThere_1 : decode cX5_isThere 1 = .ok (.ifCond .lt 21, 3) := by decide +kernel
theorem dX5_isThere_4 : decode cX5_isThere 4 = .ok (.iload_n 1, 1) := by decide +kernel
theorem dX5_isThere_5 : decode cX5_isThere 5 = .ok (.aload_n 0, 1) := by decide +kernel
theorem dX5_isThere_6 : decode cX5_isThere 6 = .ok (.getfield 9, 3) := by decide +kernel
theorem dX5_isThere_9 : decode cX5_isThere 9 = .ok (.if_icmp .ge 13, 3) := by decide +kernel
theorem dX5_isThere_12 : decode cX5_isThere 12 = .ok (.iload_n 1, 1) := by decide +kernel
theorem dX5_isThere_13 : decode cX5_isThere 13 = .ok (.bipush 16, 2) := by decide +kernel
theorem dX5_isThere_15 : decode cX5_isThere 15 = .ok (.if_icmp .ge 7, 3) := by decide +kernel
theorem dX5_isThere_18 : decode cX5_isThere 18 = .ok (.iconst 1, 1) := by decide +kernel
theorem dX5_isThere_19 : decode cX5_isThere 19 = .ok (.goto 4, 3) := by decide +kernel
theorem dX5_isThere_22 : decode cX5_isThere 22 = .ok (.iconst 0, 1) := by decide +kernel
theorem dX5_isThere_23 : decode cX5_isThere 23 = .ok (.ireturn, 1) := by decide +kernel
theorem dX5_areThere_0 : decode cX5_areThere 0 = .ok (.iload_n 1, 1) := by decide +kernel
theorem dX5_areThere_1 : decode cX5_areThere 1 = .ok (.ifCond .lt 29, 3) := by decide +kernel
theorem dX5_areThere_4 : decode cX5_areThere 4 = .ok (.iload_n 1, 1) := by decide +kernel
theorem dX5_areThere_5 : decode cX5_areThere 5 = .ok (.aload_n 0, 1) := by decide +kernel
theorem dX5_areThere_6 : decode cX5_areThere 6 = .ok (.getfield 9, 3) := by decide +kernel
theorem dX5_areThere_9 : decode cX5_areThere 9 = .ok (.if_icmp .ge 21, 3) := by decide +kernel
theorem dX5_areThere_12 : decode cX5_areThere 12 = .ok (.iload_n 2, 1) := by decide +kernel
theorem dX5_areThere_13 : decode cX5_areThere 13 = .ok (.ifCond .lt 17, 3) := by decide +kernel
theorem dX5_areThere_16 : decode cX5_areThere 16 = .ok (.iload_n 2, 1) := by decide +kernel
theorem dX5_areThere_17 : decode cX5_areThere 17 = .ok (.aload_n 0, 1) := by decide +kernel
theorem dX5_areThere_18 : decode cX5_areThere 18 = .ok (.getfield 9, 3) := by decide +kernel
theorem dX5_areThere_21 : decode cX5_areThere 21 = .ok (.iload_n 1, 1) := by decide +kernel
theorem dX5_areThere_22 : decode cX5_areThere 22 = .ok (.isub, 1) := by decide +kernel
theorem dX5_areThere_23 : decode cX5_areThere 23 = .ok (.if_icmp .gt 7, 3) := by decide +kernel
theorem dX5_areThere_26 : decode cX5_areThere 26 = .ok (.iconst 1, 1) := by decide +kernel
theorem dX5_areThere_27 : decode cX5_areThere 27 = .ok (.goto 4, 3) := by decide +kernel
theorem dX5_areThere_30 : decode cX5_areThere 30 = .ok (.iconst 0, 1) := by decide +kernel
theorem dX5_areThere_31 : decode cX5_areThere 31 = .ok (.ireturn, 1) := by decide +kernel
theorem dX5_areASet_0 : decode cX5_areASet 0 = .ok (.iconst 1, 1) := by decide +kernel
theorem dX5_areASet_1 : decode cX5_areASet 1 = .ok (.aload_n 0, 1) := by decide +kernel
theorem dX5_areASet_2 : decode cX5_areASet 2 = .ok (.getfield 9, 3) := by decide +kernel
theorem dX5_areASet_5 : decode cX5_areASet 5 = .ok (.ishl, 1) := by decide +kernel
theorem dX5_areASet_6 : decode cX5_areASet 6 = .ok (.iconst 1, 1) := by decide +kernel
theorem dX5_areASet_7 : decode cX5_areASet 7 = .ok (.isub, 1) := by decide +kernel
theorem dX5_areASet_8 : decode cX5_areASet 8 = .ok (.istore_n 2, 1) := by decide +kernel
theorem dX5_areASet_9 : decode cX5_areASet 9 = .ok (.iload_n 1, 1) := by decide +kernel
theorem dX5_areASet_10 : decode cX5_areASet 10 = .ok (.ifCond .eq 15, 3) := by decide +kernel
theorem dX5_areASet_13 : decode cX5_areASet 13 = .ok (.iload_n 1, 1) := by decide +kernel
theorem dX5_areASet_14 : decode cX5_areASet 14 = .ok (.iload_n 2, 1) := by decide +kernel
theorem dX5_areASet_15 : decode cX5_areASet 15 = .ok (.iconst (-1), 1) := by decide +kernel
theorem dX5_areASet_16 : decode cX5_areASet 16 = .ok (.ixor, 1) := by decide +kernel
theorem dX5_areASet_17 : decode cX5_areASet 17 = .ok (.iand, 1) := by decide +kernel
theorem dX5_areASet_18 : decode cX5_areASet 18 = .ok (.ifCond .ne 7, 3) := by decide +kernel
theorem dX5_areASet_21 : decode cX5_areASet 21 = .ok (.iconst 1, 1) := by decide +kernel
theorem dX5_areASet_22 : decode cX5_areASet 22 = .ok (.goto 4, 3) := by decide +kernel
theorem dX5_areASet_25 : decode cX5_areASet 25 = .ok (.iconst 0, 1) := by decide +kernel
theorem dX5_areASet_26 : decode cX5_areASet 26 = .ok (.ireturn, 1) := by decide +kernel
theorem dX5_strengthOf_0 : decode cX5_strengthOf 0 = .ok (.iconst 0, 1) := by decide +kernel
theorem dX5_strengthOf_1 : decode cX5_strengthOf 1 = .ok (.istore_n 2, 1) := by decide +kernel
theorem dX5_strengthOf_2 : decode cX5_strengthOf 2 = .ok (.iconst 0, 1) := by decide +kernel
theorem dX5_strengthOf_3 : decode cX5_strengthOf 3 = .ok (.istore_n 3, 1) := by decide +kernel
theorem dX5_strengthOf_4 : decode cX5_strengthOf 4 = .ok (.iload_n 3, 1) := by decide +kernel
theorem dX5_strengthOf_5 : decode cX5_strengthOf 5 = .ok (.bipush 16, 2) := by decide +kernel
theorem dX5_strengthOf_7 : decode cX5_strengthOf 7 = .ok (.if_icmp .ge 26, 3) := by decide +kernel
theorem dX5_strengthOf_10 : decode cX5_strengthOf 10 = .ok (.iload_n 1, 1) := by decide +kernel
theorem dX5_strengthOf_11 : decode cX5_strengthOf 11 = .ok (.iload_n 3, 1) := by decide +kernel
theorem dX5_strengthOf_12 : decode cX5_strengthOf 12 = .ok (.ishr, 1) := by decide +kernel
theorem dX5_strengthOf_13 : decode cX5_strengthOf 13 = .ok (.iconst 1, 1) := by decide +kernel
theorem dX5_strengthOf_14 : decode cX5_strengthOf 14 = .ok (.iand, 1) := by decide +kernel
theorem dX5_strengthOf_15 : decode cX5_strengthOf 15 = .ok (.ifCond .eq 12, 3) := by decide +kernel
theorem dX5_strengthOf_18 : decode cX5_strengthOf 18 = .ok (.iload_n 2, 1) := by decide +kernel
theorem dX5_strengthOf_19 : decode cX5_strengthOf 19 = .ok (.aload_n 0, 1) := by decide +kernel
theorem dX5_strengthOf_20 : decode cX5_strengthOf 20 = .ok (.getfield 15, 3) := by decide +kernel
theorem dX5_strengthOf_23 : decode cX5_strengthOf 23 = .ok (.iload_n 3, 1) := by decide +kernel
theorem dX5_strengthOf_24 : decode cX5_strengthOf 24 = .ok (.iaload, 1) := by decide +kernel
theorem dX5_strengthOf_25 : decode cX5_strengthOf 25 = .ok (.iadd, 1) := by decide +kernel
theorem dX5_strengthOf_26 : decode cX5_strengthOf 26 = .ok (.istore_n 2, 1) := by decide +kernel
theorem dX5_strengthOf_27 : decode cX5_strengthOf 27 = .ok (.iinc 3 1, 3) := by decide +kernel
theorem dX5_strengthOf_30 : decode cX5_strengthOf 30 = .ok (.goto (-26), 3) := by decide +kernel
theorem dX5_strengthOf_33 : decode cX5_strengthOf 33 = .ok (.iload_n 2, 1) := by decide +kernel
theorem dX5_strengthOf_34 : decode cX5_strengthOf 34 = .ok (.ireturn, 1) := by decide +kernel
theorem dX5_weightOf_0 : decode cX5_weightOf 0 = .ok (.iconst 0, 1) := by decide +kernel
theorem dX5_weightOf_1 : decode cX5_weightOf 1 = .ok (.istore_n 2, 1) := by decide +kernel
theorem dX5_weightOf_2 : decode cX5_weightOf 2 = .ok (.iconst 0, 1) := by decide +kernel
theorem dX5_weightOf_3 : decode cX5_weightOf 3 = .ok (.istore_n 3, 1) := by decide +kernel
theorem dX5_weightOf_4 : decode cX5_weightOf 4 = .ok (.iload_n 3, 1) := by decide +kernel
theorem dX5_weightOf_5 : decode cX5_weightOf 5 = .ok (.bipush 16, 2) := by decide +kernel
theorem dX5_weightOf_7 : decode cX5_weightOf 7 = .ok (.if_icmp .ge 26, 3) := by decide +kernel
theorem dX5_weightOf_10 : decode cX5_weightOf 10 = .ok (.iload_n 1, 1) := by decide +kernel
theorem dX5_weightOf_11 : decode cX5_weightOf 11 = .ok (.iload_n 3, 1) := by decide +kernel
theorem dX5_weightOf_12 : decode cX5_weightOf 12 = .ok (.ishr, 1) := by decide +kernel
theorem dX5_weightOf_13 : decode cX5_weightOf 13 = .ok (.iconst 1, 1) := by decide +kernel
theorem dX5_weightOf_14 : decode cX5_weightOf 14 = .ok (.iand, 1) := by decide +kernel
theorem dX5_weightOf_15 : decode cX5_weightOf 15 = .ok (.ifCond .eq 12, 3) := by decide +kernel
theorem dX5_weightOf_18 : decode cX5_weightOf 18 = .ok (.iload_n 2, 1) := by decide +kernel
theorem dX5_weightOf_19 : decode cX5_weightOf 19 = .ok (.aload_n 0, 1) := by decide +kernel
theorem dX5_weightOf_20 : decode cX5_weightOf 20 = .ok (.getfield 22, 3) := by decide +kernel
theorem dX5_weightOf_23 : decode cX5_weightOf 23 = .ok (.iload_n 3, 1) := by decide +kernel
theorem dX5_weightOf_24 : decode cX5_weightOf 24 = .ok (.iaload, 1) := by decide +kernel
theorem dX5_weightOf_25 : decode cX5_weightOf 25 = .ok (.iadd, 1) := by decide +kernel
theorem dX5_weightOf_26 : decode cX5_weightOf 26 = .ok (.istore_n 2, 1) := by decide +kernel
theorem dX5_weightOf_27 : decode cX5_weightOf 27 = .ok (.iinc 3 1, 3) := by decide +kernel
theorem dX5_weightOf_30 : decode cX5_weightOf 30 = .ok (.goto (-26), 3) := by decide +kernel
theorem dX5_weightOf_33 : decode cX5_weightOf 33 = .ok (.iload_n 2, 1) := by decide +kernel
theorem dX5_weightOf_34 : decode cX5_weightOf 34 = .ok (.ireturn, 1) := by decide +kernel
theorem dX5_weightTimesStrength_0 : decode cX5_weightTimesStrength 0 = .ok (.iconst 0, 1) := by decide +kernel
theorem dX5_weightTimesStrength_1 : decode cX5_weightTimesStrength 1 = .ok (.istore_n 1, 1) := by decide +kernel
theorem dX5_weightTimesStrength_2 : decode cX5_weightTimesStrength 2 = .ok (.iconst 0, 1) := by decide +kernel
theorem dX5_weightTimesStrength_3 : decode cX5_weightTimesStrength 3 = .ok (.istore_n 2, 1) := by decide +kernel
theorem dX5_weightTimesStrength_4 : decode cX5_weightTimesStrength 4 = .ok (.iload_n 2, 1) := by decide +kernel
theorem dX5_weightTimesStrength_5 : decode cX5_weightTimesStrength 5 = .ok (.aload_n 0, 1) := by decide +kernel
theorem dX5_weightTimesStrength_6 : decode cX5_weightTimesStrength 6 = .ok (.getfield 9, 3) := by decide +kernel
theorem dX5_weightTimesStrength_9 : decode cX5_weightTimesStrength 9 = .ok (.if_icmp .ge 31, 3) := by decide +kernel
theorem dX5_weightTimesStrength_12 : decode cX5_weightTimesStrength 12 = .ok (.iload_n 2, 1) := by decide +kernel
theorem dX5_weightTimesStrength_13 : decode cX5_weightTimesStrength 13 = .ok (.bipush 16, 2) := by decide +kernel
theorem dX5_weightTimesStrength_15 : decode cX5_weightTimesStrength 15 = .ok (.if_icmp .ge 25, 3) := by decide +kernel
theorem dX5_weightTimesStrength_18 : decode cX5_weightTimesStrength 18 = .ok (.iload_n 1, 1) := by decide +kernel
theorem dX5_weightTimesStrength_19 : decode cX5_weightTimesStrength 19 = .ok (.aload_n 0, 1) := by decide +kernel
theorem dX5_weightTimesStrength_20 : decode cX5_weightTimesStrength 20 = .ok (.getfield 22, 3) := by decide +kernel
theorem dX5_weightTimesStrength_23 : decode cX5_weightTimesStrength 23 = .ok (.iload_n 2, 1) := by decide +kernel
theorem dX5_weightTimesStrength_24 : decode cX5_weightTimesStrength 24 = .ok (.iaload, 1) := by decide +kernel
theorem dX5_weightTimesStrength_25 : decode cX5_weightTimesStrength 25 = .ok (.aload_n 0, 1) := by decide +kernel
theorem dX5_weightTimesStrength_26 : decode cX5_weightTimesStrength 26 = .ok (.getfield 15, 3) := by decide +kernel
theorem dX5_weightTimesStrength_29 : decode cX5_weightTimesStrength 29 = .ok (.iload_n 2, 1) := by decide +kernel
theorem dX5_weightTimesStrength_30 : decode cX5_weightTimesStrength 30 = .ok (.iaload, 1) := by decide +kernel
theorem dX5_weightTimesStrength_31 : decode cX5_weightTimesStrength 31 = .ok (.imul, 1) := by decide +kernel
theorem dX5_weightTimesStrength_32 : decode cX5_weightTimesStrength 32 = .ok (.iadd, 1) := by decide +kernel
theorem dX5_weightTimesStrength_33 : decode cX5_weightTimesStrength 33 = .ok (.istore_n 1, 1) := by decide +kernel
theorem dX5_weightTimesStrength_34 : decode cX5_weightTimesStrength 34 = .ok (.iinc 2 1, 3) := by decide +kernel
theorem dX5_weightTimesStrength_37 : decode cX5_weightTimesStrength 37 = .ok (.goto (-33), 3) := by decide +kernel
theorem dX5_weightTimesStrength_40 : decode cX5_weightTimesStrength 40 = .ok (.iload_n 1, 1) := by decide +kernel
theorem dX5_weightTimesStrength_41 : decode cX5_weightTimesStrength 41 = .ok (.ireturn, 1) := by decide +kernel
theorem dX5_tenthsOrAll_0 : decode cX5_tenthsOrAll 0 = .ok (.aload_n 0, 1) := by decide +kernel
theorem dX5_tenthsOrAll_1 : decode cX5_tenthsOrAll 1 = .ok (.iload_n 1, 1) := by decide +kernel
theorem dX5_tenthsOrAll_2 : decode cX5_tenthsOrAll 2 = .ok (.invokevirtual 25, 3) := by decide +kernel
theorem dX5_tenthsOrAll_5 : decode cX5_tenthsOrAll 5 = .ok (.ifCond .eq 12, 3) := by decide +kernel
theorem dX5_tenthsOrAll_8 : decode cX5_tenthsOrAll 8 = .ok (.aload_n 0, 1) := by decide +kernel
theorem dX5_tenthsOrAll_9 : decode cX5_tenthsOrAll 9 = .ok (.getfield 19, 3) := by decide +kernel
theorem dX5_tenthsOrAll_12 : decode cX5_tenthsOrAll 12 = .ok (.iload_n 1, 1) := by decide +kernel
theorem dX5_tenthsOrAll_13 : decode cX5_tenthsOrAll 13 = .ok (.iaload, 1) := by decide +kernel
theorem dX5_tenthsOrAll_14 : decode cX5_tenthsOrAll 14 = .ok (.goto 5, 3) := by decide +kernel
theorem dX5_tenthsOrAll_17 : decode cX5_tenthsOrAll 17 = .ok (.bipush 10, 2) := by decide +kernel
theorem dX5_tenthsOrAll_19 : decode cX5_tenthsOrAll 19 = .ok (.ireturn, 1) := by decide +kernel
theorem dX6_init_0 : decode cX6_init 0 = .ok (.aload_n 0, 1) := by decide +kernel
theorem dX6_init_1 : decode cX6_init 1 = .ok (.invokespecial 3, 3) := by decide +kernel
theorem dX6_init_4 : decode cX6_init 4 = .ok (.aload_n 0, 1) := by decide +kernel
theorem dX6_init_5 : decode cX6_init 5 = .ok (.iconst (-1), 1) := by decide +kernel
theorem dX6_init_6 : decode cX6_init 6 = .ok (.putfield 9, 3) := by decide +kernel
theorem dX6_init_9 : decode cX6_init 9 = .ok (.aload_n 0, 1) := by decide +kernel
theorem dX6_init_10 : decode cX6_init 10 = .ok (.iconst 0, 1) := by decide +kernel
theorem dX6_init_11 : decode cX6_init 11 = .ok (.putfield 15, 3) := by decide +kernel
theorem dX6_init_14 : decode cX6_init 14 = .ok (.aload_n 0, 1) := by decide +kernel
theorem dX6_init_15 : decode cX6_init 15 = .ok (.bipush 120, 2) := by decide +kernel
theorem dX6_init_17 : decode cX6_init 17 = .ok (.newarray .int, 2) := by decide +kernel
theorem dX6_init_19 : decode cX6_init 19 = .ok (.putfield 18, 3) := by decide +kernel
theorem dX6_init_22 : decode cX6_init 22 = .ok (.return_, 1) := by decide +kernel
theorem dX6_isThere_0 : decode cX6_isThere 0 = .ok (.aload_n 0, 1) := by decide +kernel
theorem dX6_isThere_1 : decode cX6_isThere 1 = .ok (.getfield 9, 3) := by decide +kernel
theorem dX6_isThere_4 : decode cX6_isThere 4 = .ok (.iconst (-1), 1) := by decide +kernel
theorem dX6_isThere_5 : decode cX6_isThere 5 = .ok (.if_icmp .eq 7, 3) := by decide +kernel
theorem dX6_isThere_8 : decode cX6_isThere 8 = .ok (.iconst 1, 1) := by decide +kernel
theorem dX6_isThere_9 : decode cX6_isThere 9 = .ok (.goto 4, 3) := by decide +kernel
theorem dX6_isThere_12 : decode cX6_isThere 12 = .ok (.iconst 0, 1) := by decide +kernel
theorem dX6_isThere_13 : decode cX6_isThere 13 = .ok (.ireturn, 1) := by decide +kernel
theorem dX6_beEven_0 : decode cX6_beEven 0 = .ok (.aload_n 0, 1) := by decide +kernel
theorem dX6_beEven_1 : decode cX6_beEven 1 = .ok (.iload_n 1, 1) := by decide +kernel
theorem dX6_beEven_2 : decode cX6_beEven 2 = .ok (.putfield 9, 3) := by decide +kernel
theorem dX6_beEven_5 : decode cX6_beEven 5 = .ok (.aload_n 0, 1) := by decide +kernel
theorem dX6_beEven_6 : decode cX6_beEven 6 = .ok (.iload_n 2, 1) := by decide +kernel
theorem dX6_beEven_7 : decode cX6_beEven 7 = .ok (.bipush 120, 2) := by decide +kernel
theorem dX6_beEven_9 : decode cX6_beEven 9 = .ok (.invokestatic 22, 3) := by decide +kernel
theorem dX6_beEven_12 : decode cX6_beEven 12 = .ok (.putfield 15, 3) := by decide +kernel
theorem dX6_beEven_15 : decode cX6_beEven 15 = .ok (.iconst 0, 1) := by decide +kernel
theorem dX6_beEven_16 : decode cX6_beEven 16 = .ok (.istore_n 3, 1) := by decide +kernel
theorem dX6_beEven_17 : decode cX6_beEven 17 = .ok (.iload_n 3, 1) := by decide +kernel
theorem dX6_beEven_18 : decode cX6_beEven 18 = .ok (.aload_n 0, 1) := by decide +kernel
theorem dX6_beEven_19 : decode cX6_beEven 19 = .ok (.getfield 15, 3) := by decide +kernel
theorem dX6_beEven_22 : decode cX6_beEven 22 = .ok (.if_icmp .ge 16, 3) := by decide +kernel
theorem dX6_beEven_25 : decode cX6_beEven 25 = .ok (.aload_n 0, 1) := by decide +kernel
theorem dX6_beEven_26 : decode cX6_beEven 26 = .ok (.getfield 18, 3) := by decide +kernel
theorem dX6_beEven_29 : decode cX6_beEven 29 = .ok (.iload_n 3, 1) := by decide +kernel
theorem dX6_beEven_30 : decode cX6_beEven 30 = .ok (.iconst 1, 1) := by decide +kernel
theorem dX6_beEven_31 : decode cX6_beEven 31 = .ok (.iastore, 1) := by decide +kernel
theorem dX6_beEven_32 : decode cX6_beEven 32 = .ok (.iinc 3 1, 3) := by decide +kernel
theorem dX6_beEven_35 : decode cX6_beEven 35 = .ok (.goto (-18), 3) := by decide +kernel
theorem dX6_beEven_38 : decode cX6_beEven 38 = .ok (.return_, 1) := by decide +kernel
theorem dX6_become_0 : decode cX6_become 0 = .ok (.aload_n 0, 1) := by decide +kernel
theorem dX6_become_1 : decode cX6_become 1 = .ok (.aload_n 1, 1) := by decide +kernel
theorem dX6_become_2 : decode cX6_become 2 = .ok (.getfield 9, 3) := by decide +kernel
theorem dX6_become_5 : decode cX6_become 5 = .ok (.putfield 9, 3) := by decide +kernel
theorem dX6_become_8 : decode cX6_become 8 = .ok (.aload_n 0, 1) := by decide +kernel
theorem dX6_become_9 : decode cX6_become 9 = .ok (.aload_n 1, 1) := by decide +kernel
theorem dX6_become_10 : decode cX6_become 10 = .ok (.getfield 15, 3) := by decide +kernel
theorem dX6_become_13 : decode cX6_become 13 = .ok (.putfield 15, 3) := by decide +kernel
theorem dX6_become_16 : decode cX6_become 16 = .ok (.iconst 0, 1) := by decide +kernel
theorem dX6_become_17 : decode cX6_become 17 = .ok (.istore_n 2, 1) := by decide +kernel
theorem dX6_become_18 : decode cX6_become 18 = .ok (.iload_n 2, 1) := by decide +kernel
theorem dX6_become_19 : decode cX6_become 19 = .ok (.aload_n 0, 1) := by decide +kernel
theorem dX6_become_20 : decode cX6_become 20 = .ok (.getfield 15, 3) := by decide +kernel
theorem dX6_become_23 : decode cX6_become 23 = .ok (.if_icmp .ge 21, 3) := by decide +kernel
theorem dX6_become_26 : decode cX6_become 26 = .ok (.aload_n 0, 1) := by decide +kernel
theorem dX6_become_27 : decode cX6_become 27 = .ok (.getfield 18, 3) := by decide +kernel
theorem dX6_become_30 : decode cX6_become 30 = .ok (.iload_n 2, 1) := by decide +kernel
theorem dX6_become_31 : decode cX6_become 31 = .ok (.aload_n 1, 1) := by decide +kernel
theorem dX6_become_32 : decode cX6_become 32 = .ok (.getfield 18, 3) := by decide +kernel
theorem dX6_become_35 : decode cX6_become 35 = .ok (.iload_n 2, 1) := by decide +kernel
theorem dX6_become_36 : decode cX6_become 36 = .ok (.iaload, 1) := by decide +kernel
theorem dX6_become_37 : decode cX6_become 37 = .ok (.iastore, 1) := by decide +kernel
theorem dX6_become_38 : decode cX6_become 38 = .ok (.iinc 2 1, 3) := by decide +kernel
theorem dX6_become_41 : decode cX6_become 41 = .ok (.goto (-23), 3) := by decide +kernel
theorem dX6_become_44 : decode cX6_become 44 = .ok (.return_, 1) := by decide +kernel
theorem dX6_hasPart_0 : decode cX6_hasPart 0 = .ok (.iload_n 1, 1) := by decide +kernel
theorem dX6_hasPart_1 : decode cX6_hasPart 1 = .ok (.ifCond .lt 15, 3) := by decide +kernel
theorem dX6_hasPart_4 : decode cX6_hasPart 4 = .ok (.iload_n 1, 1) := by decide +kernel
theorem dX6_hasPart_5 : decode cX6_hasPart 5 = .ok (.aload_n 0, 1) := by decide +kernel
theorem dX6_hasPart_6 : decode cX6_hasPart 6 = .ok (.getfield 15, 3) := by decide +kernel
theorem dX6_hasPart_9 : decode cX6_hasPart 9 = .ok (.if_icmp .ge 7, 3) := by decide +kernel
theorem dX6_hasPart_12 : decode cX6_hasPart 12 = .ok (.iconst 1, 1) := by decide +kernel
theorem dX6_hasPart_13 : decode cX6_hasPart 13 = .ok (.goto 4, 3) := by decide +kernel
theorem dX6_hasPart_16 : decode cX6_hasPart 16 = .ok (.iconst 0, 1) := by decide +kernel
theorem dX6_hasPart_17 : decode cX6_hasPart 17 = .ok (.ireturn, 1) := by decide +kernel
theorem dX6_hasRun_0 : decode cX6_hasRun 0 = .ok (.iload_n 1, 1) := by decide +kernel
theorem dX6_hasRun_1 : decode cX6_hasRun 1 = .ok (.ifCond .lt 29, 3) := by decide +kernel
theorem dX6_hasRun_4 : decode cX6_hasRun 4 = .ok (.iload_n 2, 1) := by decide +kernel
theorem dX6_hasRun_5 : decode cX6_hasRun 5 = .ok (.ifCond .lt 25, 3) := by decide +kernel
theorem dX6_hasRun_8 : decode cX6_hasRun 8 = .ok (.iload_n 1, 1) := by decide +kernel
theorem dX6_hasRun_9 : decode cX6_hasRun 9 = .ok (.aload_n 0, 1) := by decide +kernel
theorem dX6_hasRun_10 : decode cX6_hasRun 10 = .ok (.getfield 15, 3) := by decide +kernel
theorem dX6_hasRun_13 : decode cX6_hasRun 13 = .ok (.if_icmp .gt 17, 3) := by decide +kernel
theorem dX6_hasRun_16 : decode cX6_hasRun 16 = .ok (.iload_n 2, 1) := by decide +kernel
theorem dX6_hasRun_17 : decode cX6_hasRun 17 = .ok (.aload_n 0, 1) := by decide +kernel
theorem dX6_hasRun_18 : decode cX6_hasRun 18 = .ok (.getfield 15, 3) := by decide +kernel
theorem dX6_hasRun_21 : decode cX6_hasRun 21 = .ok (.iload_n 1, 1) := by decide +kernel
theorem dX6_hasRun_22 : decode cX6_hasRun 22 = .ok (.isub, 1) := by decide +kernel
theorem dX6_hasRun_23 : decode cX6_hasRun 23 = .ok (.if_icmp .gt 7, 3) := by decide +kernel
theorem dX6_hasRun_26 : decode cX6_hasRun 26 = .ok (.iconst 1, 1) := by decide +kernel
theorem dX6_hasRun_27 : decode cX6_hasRun 27 = .ok (.goto 4, 3) := by decide +kernel
theorem dX6_hasRun_30 : decode cX6_hasRun 30 = .ok (.iconst 0, 1) := by decide +kernel
theorem dX6_hasRun_31 : decode cX6_hasRun 31 = .ok (.ireturn, 1) := by decide +kernel
theorem dX6_overlay_0 : decode cX6_overlay 0 = .ok (.iload_n 1, 1) := by decide +kernel
theorem dX6_overlay_1 : decode cX6_overlay 1 = .ok (.iload_n 3, 1) := by decide +kernel
theorem dX6_overlay_2 : decode cX6_overlay 2 = .ok (.if_icmp .le 7, 3) := by decide +kernel
theorem dX6_overlay_5 : decode cX6_overlay 5 = .ok (.iconst 1, 1) := by decide +kernel
theorem dX6_overlay_6 : decode cX6_overlay 6 = .ok (.goto 4, 3) := by decide +kernel
theorem dX6_overlay_9 : decode cX6_overlay 9 = .ok (.iconst 0, 1) := by decide +kernel
theorem dX6_overlay_10 : decode cX6_overlay 10 = .ok (.istore 5, 2) := by decide +kernel
theorem dX6_overlay_12 : decode cX6_overlay 12 = .ok (.iconst 0, 1) := by decide +kernel
theorem dX6_overlay_13 : decode cX6_overlay 13 = .ok (.istore 6, 2) := by decide +kernel
theorem dX6_overlay_15 : decode cX6_overlay 15 = .ok (.iload 6, 2) := by decide +kernel
theorem dX6_overlay_17 : decode cX6_overlay 17 = .ok (.iload 4, 2) := by decide +kernel
theorem dX6_overlay_19 : decode cX6_overlay 19 = .ok (.if_icmp .ge 68, 3) := by decide +kernel
theorem dX6_overlay_22 : decode cX6_overlay 22 = .ok (.iload 5, 2) := by decide +kernel
theorem dX6_overlay_24 : decode cX6_overlay 24 = .ok (.ifCond .eq 13, 3) := by decide +kernel
theorem dX6_overlay_27 : decode cX6_overlay 27 = .ok (.iload 4, 2) := by decide +kernel
theorem dX6_overlay_29 : decode cX6_overlay 29 = .ok (.iconst 1, 1) := by decide +kernel
theorem dX6_overlay_30 : decode cX6_overlay 30 = .ok (.isub, 1) := by decide +kernel
theorem dX6_overlay_31 : decode cX6_overlay 31 = .ok (.iload 6, 2) := by decide +kernel
theorem dX6_overlay_33 : decode cX6_overlay 33 = .ok (.isub, 1) := by decide +kernel
theorem dX6_overlay_34 : decode cX6_overlay 34 = .ok (.goto 5, 3) := by decide +kernel
theorem dX6_overlay_37 : decode cX6_overlay 37 = .ok (.iload 6, 2) := by decide +kernel
theorem dX6_overlay_39 : decode cX6_overlay 39 = .ok (.istore 7, 2) := by decide +kernel
theorem dX6_overlay_41 : decode cX6_overlay 41 = .ok (.aload_n 0, 1) := by decide +kernel
theorem dX6_overlay_42 : decode cX6_overlay 42 = .ok (.iload_n 1, 1) := by decide +kernel
theorem dX6_overlay_43 : decode cX6_overlay 43 = .ok (.iload 7, 2) := by decide +kernel
theorem dX6_overlay_45 : decode cX6_overlay 45 = .ok (.iadd, 1) := by decide +kernel
theorem dX6_overlay_46 : decode cX6_overlay 46 = .ok (.invokevirtual 28, 3) := by decide +kernel
theorem dX6_overlay_49 : decode cX6_overlay 49 = .ok (.ifCond .eq 32, 3) := by decide +kernel
theorem dX6_overlay_52 : decode cX6_overlay 52 = .ok (.aload_n 2, 1) := by decide +kernel
theorem dX6_overlay_53 : decode cX6_overlay 53 = .ok (.iload_n 3, 1) := by decide +kernel
theorem dX6_overlay_54 : decode cX6_overlay 54 = .ok (.iload 7, 2) := by decide +kernel
theorem dX6_overlay_56 : decode cX6_overlay 56 = .ok (.iadd, 1) := by decide +kernel
theorem dX6_overlay_57 : decode cX6_overlay 57 = .ok (.invokevirtual 28, 3) := by decide +kernel
theorem dX6_overlay_60 : decode cX6_overlay 60 = .ok (.ifCond .eq 21, 3) := by decide +kernel
theorem dX6_overlay_63 : decode cX6_overlay 63 = .ok (.aload_n 0, 1) := by decide +kernel
theorem dX6_overlay_64 : decode cX6_overlay 64 = .ok (.getfield 18, 3) := by decide +kernel
theorem dX6_overlay_67 : decode cX6_overlay 67 = .ok (.iload_n 1, 1) := by decide +kernel
theorem dX6_overlay_68 : decode cX6_overlay 68 = .ok (.iload 7, 2) := by decide +kernel
theorem dX6_overlay_70 : decode cX6_overlay 70 = .ok (.iadd, 1) := by decide +kernel
theorem dX6_overlay_71 : decode cX6_overlay 71 = .ok (.aload_n 2, 1) := by decide +kernel
theorem dX6_overlay_72 : decode cX6_overlay 72 = .ok (.getfield 18, 3) := by decide +kernel
theorem dX6_overlay_75 : decode cX6_overlay 75 = .ok (.iload_n 3, 1) := by decide +kernel
theorem dX6_overlay_76 : decode cX6_overlay 76 = .ok (.iload 7, 2) := by decide +kernel
theorem dX6_overlay_78 : decode cX6_overlay 78 = .ok (.iadd, 1) := by decide +kernel
theorem dX6_overlay_79 : decode cX6_overlay 79 = .ok (.iaload, 1) := by decide +kernel
theorem dX6_overlay_80 : decode cX6_overlay 80 = .ok (.iastore, 1) := by decide +kernel
theorem dX6_overlay_81 : decode cX6_overlay 81 = .ok (.iinc 6 1, 3) := by decide +kernel
theorem dX6_overlay_84 : decode cX6_overlay 84 = .ok (.goto (-69), 3) := by decide +kernel
theorem dX6_overlay_87 : decode cX6_overlay 87 = .ok (.return_, 1) := by decide +kernel
theorem dX6_allParts_0 : decode cX6_allParts 0 = .ok (.iconst 0, 1) := by decide +kernel
theorem dX6_allParts_1 : decode cX6_allParts 1 = .ok (.istore_n 1, 1) := by decide +kernel
theorem dX6_allParts_2 : decode cX6_allParts 2 = .ok (.iconst 0, 1) := by decide +kernel
theorem dX6_allParts_3 : decode cX6_allParts 3 = .ok (.istore_n 2, 1) := by decide +kernel
theorem dX6_allParts_4 : decode cX6_allParts 4 = .ok (.iload_n 2, 1) := by decide +kernel
theorem dX6_allParts_5 : decode cX6_allParts 5 = .ok (.aload_n 0, 1) := by decide +kernel
theorem dX6_allParts_6 : decode cX6_allParts 6 = .ok (.getfield 15, 3) := by decide +kernel
theorem dX6_allParts_9 : decode cX6_allParts 9 = .ok (.if_icmp .ge 18, 3) := by decide +kernel
theorem dX6_allParts_12 : decode cX6_allParts 12 = .ok (.iload_n 1, 1) := by decide +kernel
theorem dX6_allParts_13 : decode cX6_allParts 13 = .ok (.aload_n 0, 1) := by decide +kernel
theorem dX6_allParts_14 : decode cX6_allParts 14 = .ok (.getfield 18, 3) := by decide +kernel
theorem dX6_allParts_17 : decode cX6_allParts 17 = .ok (.iload_n 2, 1) := by decide +kernel
theorem dX6_allParts_18 : decode cX6_allParts 18 = .ok (.iaload, 1) := by decide +kernel
theorem dX6_allParts_19 : decode cX6_allParts 19 = .ok (.iadd, 1) := by decide +kernel
theorem dX6_allParts_20 : decode cX6_allParts 20 = .ok (.istore_n 1, 1) := by decide +kernel
theorem dX6_allParts_21 : decode cX6_allParts 21 = .ok (.iinc 2 1, 3) := by decide +kernel
theorem dX6_allParts_24 : decode cX6_allParts 24 = .ok (.goto (-20), 3) := by decide +kernel
theorem dX6_allParts_27 : decode cX6_allParts 27 = .ok (.iload_n 1, 1) := by decide +kernel
theorem dX6_allParts_28 : decode cX6_allParts 28 = .ok (.ireturn, 1) := by decide +kernel
theorem dX6_partsWith_0 : decode cX6_partsWith 0 = .ok (.iconst 0, 1) := by decide +kernel
theorem dX6_partsWith_1 : decode cX6_partsWith 1 = .ok (.istore_n 3, 1) := by decide +kernel
theorem dX6_partsWith_2 : decode cX6_partsWith 2 = .ok (.iconst 0, 1) := by decide +kernel
theorem dX6_partsWith_3 : decode cX6_partsWith 3 = .ok (.istore 4, 2) := by decide +kernel
theorem dX6_partsWith_5 : decode cX6_partsWith 5 = .ok (.iload 4, 2) := by decide +kernel
theorem dX6_partsWith_7 : decode cX6_partsWith 7 = .ok (.aload_n 0, 1) := by decide +kernel
theorem dX6_partsWith_8 : decode cX6_partsWith 8 = .ok (.getfield 15, 3) := by decide +kernel
theorem dX6_partsWith_11 : decode cX6_partsWith 11 = .ok (.if_icmp .ge 42, 3) := by decide +kernel
theorem dX6_partsWith_14 : decode cX6_partsWith 14 = .ok (.iload 4, 2) := by decide +kernel
theorem dX6_partsWith_16 : decode cX6_partsWith 16 = .ok (.aload_n 1, 1) := by decide +kernel
theorem dX6_partsWith_17 : decode cX6_partsWith 17 = .ok (.getfield 32, 3) := by decide +kernel
theorem dX6_partsWith_20 : decode cX6_partsWith 20 = .ok (.if_icmp .ge 33, 3) := by decide +kernel
theorem dX6_partsWith_23 : decode cX6_partsWith 23 = .ok (.aload_n 1, 1) := by decide +kernel
theorem dX6_partsWith_24 : decode cX6_partsWith 24 = .ok (.getfield 35, 3) := by decide +kernel
theorem dX6_partsWith_27 : decode cX6_partsWith 27 = .ok (.iload 4, 2) := by decide +kernel
theorem dX6_partsWith_29 : decode cX6_partsWith 29 = .ok (.iaload, 1) := by decide +kernel
theorem dX6_partsWith_30 : decode cX6_partsWith 30 = .ok (.iload_n 2, 1) := by decide +kernel
theorem dX6_partsWith_31 : decode cX6_partsWith 31 = .ok (.ishr, 1) := by decide +kernel
theorem dX6_partsWith_32 : decode cX6_partsWith 32 = .ok (.iconst 1, 1) := by decide +kernel
theorem dX6_partsWith_33 : decode cX6_partsWith 33 = .ok (.iand, 1) := by decide +kernel
theorem dX6_partsWith_34 : decode cX6_partsWith 34 = .ok (.ifCond .eq 13, 3) := by decide +kernel
theorem dX6_partsWith_37 : decode cX6_partsWith 37 = .ok (.iload_n 3, 1) := by decide +kernel
theorem dX6_partsWith_38 : decode cX6_partsWith 38 = .ok (.aload_n 0, 1) := by decide +kernel
theorem dX6_partsWith_39 : decode cX6_partsWith 39 = .ok (.getfield 18, 3) := by decide +kernel
theorem dX6_partsWith_42 : decode cX6_partsWith 42 = .ok (.iload 4, 2) := by decide +kernel
theorem dX6_partsWith_44 : decode cX6_partsWith 44 = .ok (.iaload, 1) := by decide +kernel
theorem dX6_partsWith_45 : decode cX6_partsWith 45 = .ok (.iadd, 1) := by decide +kernel
theorem dX6_partsWith_46 : decode cX6_partsWith 46 = .ok (.istore_n 3, 1) := by decide +kernel
theorem dX6_partsWith_47 : decode cX6_partsWith 47 = .ok (.iinc 4 1, 3) := by decide +kernel
theorem dX6_partsWith_50 : decode cX6_partsWith 50 = .ok (.goto (-45), 3) := by decide +kernel
theorem dX6_partsWith_53 : decode cX6_partsWith 53 = .ok (.iload_n 3, 1) := by decide +kernel
theorem dX6_partsWith_54 : decode cX6_partsWith 54 = .ok (.ireturn, 1) := by decide +kernel
theorem dX8_init_0 : decode cX8_init 0 = .ok (.aload_n 0, 1) := by decide +kernel
theorem dX8_init_1 : decode cX8_init 1 = .ok (.invokespecial 3, 3) := by decide +kernel
theorem dX8_init_4 : decode cX8_init 4 = .ok (.aload_n 0, 1) := by decide +kernel
theorem dX8_init_5 : decode cX8_init 5 = .ok (.iconst 0, 1) := by decide +kernel
theorem dX8_init_6 : decode cX8_init 6 = .ok (.putfield 9, 3) := by decide +kernel
theorem dX8_init_9 : decode cX8_init 9 = .ok (.aload_n 0, 1) := by decide +kernel
theorem dX8_init_10 : decode cX8_init 10 = .ok (.sipush 7140, 3) := by decide +kernel
theorem dX8_init_13 : decode cX8_init 13 = .ok (.newarray .int, 2) := by decide +kernel
theorem dX8_init_15 : decode cX8_init 15 = .ok (.putfield 15, 3) := by decide +kernel
theorem dX8_init_18 : decode cX8_init 18 = .ok (.return_, 1) := by decide +kernel
theorem dX8_hasPair_0 : decode cX8_hasPair 0 = .ok (.iload_n 1, 1) := by decide +kernel
theorem dX8_hasPair_1 : decode cX8_hasPair 1 = .ok (.ifCond .lt 15, 3) := by decide +kernel
theorem dX8_hasPair_4 : decode cX8_hasPair 4 = .ok (.iload_n 1, 1) := by decide +kernel
theorem dX8_hasPair_5 : decode cX8_hasPair 5 = .ok (.aload_n 0, 1) := by decide +kernel
theorem dX8_hasPair_6 : decode cX8_hasPair 6 = .ok (.getfield 9, 3) := by decide +kernel
theorem dX8_hasPair_9 : decode cX8_hasPair 9 = .ok (.if_icmp .ge 7, 3) := by decide +kernel
theorem dX8_hasPair_12 : decode cX8_hasPair 12 = .ok (.iconst 1, 1) := by decide +kernel
theorem dX8_hasPair_13 : decode cX8_hasPair 13 = .ok (.goto 4, 3) := by decide +kernel
theorem dX8_hasPair_16 : decode cX8_hasPair 16 = .ok (.iconst 0, 1) := by decide +kernel
theorem dX8_hasPair_17 : decode cX8_hasPair 17 = .ok (.ireturn, 1) := by decide +kernel
theorem dX8_write_0 : decode cX8_write 0 = .ok (.aload_n 0, 1) := by decide +kernel
theorem dX8_write_1 : decode cX8_write 1 = .ok (.iconst 0, 1) := by decide +kernel
theorem dX8_write_2 : decode cX8_write 2 = .ok (.putfield 9, 3) := by decide +kernel
theorem dX8_write_5 : decode cX8_write 5 = .ok (.iconst 0, 1) := by decide +kernel
theorem dX8_write_6 : decode cX8_write 6 = .ok (.istore_n 2, 1) := by decide +kernel
theorem dX8_write_7 : decode cX8_write 7 = .ok (.iload_n 2, 1) := by decide +kernel
theorem dX8_write_8 : decode cX8_write 8 = .ok (.aload_n 1, 1) := by decide +kernel
theorem dX8_write_9 : decode cX8_write 9 = .ok (.getfield 19, 3) := by decide +kernel
theorem dX8_write_12 : decode cX8_write 12 = .ok (.if_icmp .ge 72, 3) := by decide +kernel
theorem dX8_write_15 : decode cX8_write 15 = .ok (.iload_n 2, 1) := by decide +kernel
theorem dX8_write_16 : decode cX8_write 16 = .ok (.iconst 1, 1) := by decide +kernel
theorem dX8_write_17 : decode cX8_write 17 = .ok (.iadd, 1) := by decide +kernel
theorem dX8_write_18 : decode cX8_write 18 = .ok (.istore_n 3, 1) := by decide +kernel
theorem dX8_write_19 : decode cX8_write 19 = .ok (.iload_n 3, 1) := by decide +kernel
theorem dX8_write_20 : decode cX8_write 20 = .ok (.aload_n 1, 1) := by decide +kernel
theorem dX8_write_21 : decode cX8_write 21 = .ok (.getfield 19, 3) := by decide +kernel
theorem dX8_write_24 : decode cX8_write 24 = .ok (.if_icmp .ge 54, 3) := by decide +kernel
theorem dX8_write_27 : decode cX8_write 27 = .ok (.aload_n 0, 1) := by decide +kernel
theorem dX8_write_28 : decode cX8_write 28 = .ok (.getfield 9, 3) := by decide +kernel
theorem dX8_write_31 : decode cX8_write 31 = .ok (.sipush 7140, 3) := by decide +kernel
theorem dX8_write_34 : decode cX8_write 34 = .ok (.if_icmp .ge 44, 3) := by decide +kernel
theorem dX8_write_37 : decode cX8_write 37 = .ok (.aload_n 0, 1) := by decide +kernel
theorem dX8_write_38 : decode cX8_write 38 = .ok (.getfield 15, 3) := by decide +kernel
theorem dX8_write_41 : decode cX8_write 41 = .ok (.aload_n 0, 1) := by decide +kernel
theorem dX8_write_42 : decode cX8_write 42 = .ok (.getfield 9, 3) := by decide +kernel
theorem dX8_write_45 : decode cX8_write 45 = .ok (.aload_n 1, 1) := by decide +kernel
theorem dX8_write_46 : decode cX8_write 46 = .ok (.getfield 22, 3) := by decide +kernel
theorem dX8_write_49 : decode cX8_write 49 = .ok (.iload_n 2, 1) := by decide +kernel
theorem dX8_write_50 : decode cX8_write 50 = .ok (.iaload, 1) := by decide +kernel
theorem dX8_write_51 : decode cX8_write 51 = .ok (.aload_n 1, 1) := by decide +kernel
theorem dX8_write_52 : decode cX8_write 52 = .ok (.getfield 22, 3) := by decide +kernel
theorem dX8_write_55 : decode cX8_write 55 = .ok (.iload_n 3, 1) := by decide +kernel
theorem dX8_write_56 : decode cX8_write 56 = .ok (.iaload, 1) := by decide +kernel
theorem dX8_write_57 : decode cX8_write 57 = .ok (.iand, 1) := by decide +kernel
theorem dX8_write_58 : decode cX8_write 58 = .ok (.invokestatic 25, 3) := by decide +kernel
theorem dX8_write_61 : decode cX8_write 61 = .ok (.iastore, 1) := by decide +kernel
theorem dX8_write_62 : decode cX8_write 62 = .ok (.aload_n 0, 1) := by decide +kernel
theorem dX8_write_63 : decode cX8_write 63 = .ok (.dup, 1) := by decide +kernel
theorem dX8_write_64 : decode cX8_write 64 = .ok (.getfield 9, 3) := by decide +kernel
theorem dX8_write_67 : decode cX8_write 67 = .ok (.iconst 1, 1) := by decide +kernel
theorem dX8_write_68 : decode cX8_write 68 = .ok (.iadd, 1) := by decide +kernel
theorem dX8_write_69 : decode cX8_write 69 = .ok (.putfield 9, 3) := by decide +kernel
theorem dX8_write_72 : decode cX8_write 72 = .ok (.iinc 3 1, 3) := by decide +kernel
theorem dX8_write_75 : decode cX8_write 75 = .ok (.goto (-56), 3) := by decide +kernel
theorem dX8_write_78 : decode cX8_write 78 = .ok (.iinc 2 1, 3) := by decide +kernel
theorem dX8_write_81 : decode cX8_write 81 = .ok (.goto (-74), 3) := by decide +kernel
theorem dX8_write_84 : decode cX8_write 84 = .ok (.return_, 1) := by decide +kernel
theorem dX8_firstFalsePair_0 : decode cX8_firstFalsePair 0 = .ok (.iconst 0, 1) := by decide +kernel
theorem dX8_firstFalsePair_1 : decode cX8_firstFalsePair 1 = .ok (.istore_n 2, 1) := by decide +kernel
theorem dX8_firstFalsePair_2 : decode cX8_firstFalsePair 2 = .ok (.iconst 0, 1) := by decide +kernel
theorem dX8_firstFalsePair_3 : decode cX8_firstFalsePair 3 = .ok (.istore_n 3, 1) := by decide +kernel
theorem dX8_firstFalsePair_4 : decode cX8_firstFalsePair 4 = .ok (.iload_n 3, 1) := by decide +kernel
theorem dX8_firstFalsePair_5 : decode cX8_firstFalsePair 5 = .ok (.aload_n 1, 1) := by decide +kernel
theorem dX8_firstFalsePair_6 : decode cX8_firstFalsePair 6 = .ok (.getfield 19, 3) := by decide +kernel
theorem dX8_firstFalsePair_9 : decode cX8_firstFalsePair 9 = .ok (.if_icmp .ge 68, 3) := by decide +kernel
theorem dX8_firstFalsePair_12 : decode cX8_firstFalsePair 12 = .ok (.iload_n 3, 1) := by decide +kernel
theorem dX8_firstFalsePair_13 : decode cX8_firstFalsePair 13 = .ok (.iconst 1, 1) := by decide +kernel
theorem dX8_firstFalsePair_14 : decode cX8_firstFalsePair 14 = .ok (.iadd, 1) := by decide +kernel
theorem dX8_firstFalsePair_15 : decode cX8_firstFalsePair 15 = .ok (.istore 4, 2) := by decide +kernel
theorem dX8_firstFalsePair_17 : decode cX8_firstFalsePair 17 = .ok (.iload 4, 2) := by decide +kernel
theorem dX8_firstFalsePair_19 : decode cX8_firstFalsePair 19 = .ok (.aload_n 1, 1) := by decide +kernel
theorem dX8_firstFalsePair_20 : decode cX8_firstFalsePair 20 = .ok (.getfield 19, 3) := by decide +kernel
theorem dX8_firstFalsePair_23 : decode cX8_firstFalsePair 23 = .ok (.if_icmp .ge 48, 3) := by decide +kernel
theorem dX8_firstFalsePair_26 : decode cX8_firstFalsePair 26 = .ok (.iload_n 2, 1) := by decide +kernel
theorem dX8_firstFalsePair_27 : decode cX8_firstFalsePair 27 = .ok (.aload_n 0, 1) := by decide +kernel
theorem dX8_firstFalsePair_28 : decode cX8_firstFalsePair 28 = .ok (.getfield 9, 3) := by decide +kernel
theorem dX8_firstFalsePair_31 : decode cX8_firstFalsePair 31 = .ok (.if_icmp .ge 40, 3) := by decide +kernel
theorem dX8_firstFalsePair_34 : decode cX8_firstFalsePair 34 = .ok (.aload_n 0, 1) := by decide +kernel
theorem dX8_firstFalsePair_35 : decode cX8_firstFalsePair 35 = .ok (.getfield 15, 3) := by decide +kernel
theorem dX8_firstFalsePair_38 : decode cX8_firstFalsePair 38 = .ok (.iload_n 2, 1) := by decide +kernel
theorem dX8_firstFalsePair_39 : decode cX8_firstFalsePair 39 = .ok (.iaload, 1) := by decide +kernel
theorem dX8_firstFalsePair_40 : decode cX8_firstFalsePair 40 = .ok (.aload_n 1, 1) := by decide +kernel
theorem dX8_firstFalsePair_41 : decode cX8_firstFalsePair 41 = .ok (.getfield 22, 3) := by decide +kernel
theorem dX8_firstFalsePair_44 : decode cX8_firstFalsePair 44 = .ok (.iload_n 3, 1) := by decide +kernel
theorem dX8_firstFalsePair_45 : decode cX8_firstFalsePair 45 = .ok (.iaload, 1) := by decide +kernel
theorem dX8_firstFalsePair_46 : decode cX8_firstFalsePair 46 = .ok (.aload_n 1, 1) := by decide +kernel
theorem dX8_firstFalsePair_47 : decode cX8_firstFalsePair 47 = .ok (.getfield 22, 3) := by decide +kernel
theorem dX8_firstFalsePair_50 : decode cX8_firstFalsePair 50 = .ok (.iload 4, 2) := by decide +kernel
theorem dX8_firstFalsePair_52 : decode cX8_firstFalsePair 52 = .ok (.iaload, 1) := by decide +kernel
theorem dX8_firstFalsePair_53 : decode cX8_firstFalsePair 53 = .ok (.iand, 1) := by decide +kernel
theorem dX8_firstFalsePair_54 : decode cX8_firstFalsePair 54 = .ok (.invokestatic 29, 3) := by decide +kernel
theorem dX8_firstFalsePair_57 : decode cX8_firstFalsePair 57 = .ok (.ifCond .ne 5, 3) := by decide +kernel
theorem dX8_firstFalsePair_60 : decode cX8_firstFalsePair 60 = .ok (.iload_n 2, 1) := by decide +kernel
theorem dX8_firstFalsePair_61 : decode cX8_firstFalsePair 61 = .ok (.ireturn, 1) := by decide +kernel
theorem dX8_firstFalsePair_62 : decode cX8_firstFalsePair 62 = .ok (.iinc 2 1, 3) := by decide +kernel
theorem dX8_firstFalsePair_65 : decode cX8_firstFalsePair 65 = .ok (.iinc 4 1, 3) := by decide +kernel
theorem dX8_firstFalsePair_68 : decode cX8_firstFalsePair 68 = .ok (.goto (-51), 3) := by decide +kernel
theorem dX8_firstFalsePair_71 : decode cX8_firstFalsePair 71 = .ok (.iinc 3 1, 3) := by decide +kernel
theorem dX8_firstFalsePair_74 : decode cX8_firstFalsePair 74 = .ok (.goto (-70), 3) := by decide +kernel
theorem dX8_firstFalsePair_77 : decode cX8_firstFalsePair 77 = .ok (.bipush (-2), 2) := by decide +kernel
theorem dX8_firstFalsePair_79 : decode cX8_firstFalsePair 79 = .ok (.ireturn, 1) := by decide +kernel
theorem dX8_leastKeeper_0 : decode cX8_leastKeeper 0 = .ok (.iload_n 0, 1) := by decide +kernel
theorem dX8_leastKeeper_1 : decode cX8_leastKeeper 1 = .ok (.ifCond .ne 7, 3) := by decide +kernel
theorem dX8_leastKeeper_4 : decode cX8_leastKeeper 4 = .ok (.iconst (-1), 1) := by decide +kernel
theorem dX8_leastKeeper_5 : decode cX8_leastKeeper 5 = .ok (.goto 12, 3) := by decide +kernel
theorem dX8_leastKeeper_8 : decode cX8_leastKeeper 8 = .ok (.iload_n 0, 1) := by decide +kernel
theorem dX8_leastKeeper_9 : decode cX8_leastKeeper 9 = .ok (.iload_n 0, 1) := by decide +kernel
theorem dX8_leastKeeper_10 : decode cX8_leastKeeper 10 = .ok (.ineg, 1) := by decide +kernel
theorem dX8_leastKeeper_11 : decode cX8_leastKeeper 11 = .ok (.iand, 1) := by decide +kernel
theorem dX8_leastKeeper_12 : decode cX8_leastKeeper 12 = .ok (.iconst 1, 1) := by decide +kernel
theorem dX8_leastKeeper_13 : decode cX8_leastKeeper 13 = .ok (.isub, 1) := by decide +kernel
theorem dX8_leastKeeper_14 : decode cX8_leastKeeper 14 = .ok (.invokestatic 33, 3) := by decide +kernel
theorem dX8_leastKeeper_17 : decode cX8_leastKeeper 17 = .ok (.ireturn, 1) := by decide +kernel
theorem dX8_isKeeperOf_0 : decode cX8_isKeeperOf 0 = .ok (.iload_n 0, 1) := by decide +kernel
theorem dX8_isKeeperOf_1 : decode cX8_isKeeperOf 1 = .ok (.ifCond .lt 21, 3) := by decide +kernel
theorem dX8_isKeeperOf_4 : decode cX8_isKeeperOf 4 = .ok (.iload_n 0, 1) := by decide +kernel
theorem dX8_isKeeperOf_5 : decode cX8_isKeeperOf 5 = .ok (.bipush 16, 2) := by decide +kernel
theorem dX8_isKeeperOf_7 : decode cX8_isKeeperOf 7 = .ok (.if_icmp .ge 15, 3) := by decide +kernel
theorem dX8_isKeeperOf_10 : decode cX8_isKeeperOf 10 = .ok (.iload_n 1, 1) := by decide +kernel
theorem dX8_isKeeperOf_11 : decode cX8_isKeeperOf 11 = .ok (.iload_n 0, 1) := by decide +kernel
theorem dX8_isKeeperOf_12 : decode cX8_isKeeperOf 12 = .ok (.ishr, 1) := by decide +kernel
theorem dX8_isKeeperOf_13 : decode cX8_isKeeperOf 13 = .ok (.iconst 1, 1) := by decide +kernel
theorem dX8_isKeeperOf_14 : decode cX8_isKeeperOf 14 = .ok (.iand, 1) := by decide +kernel
theorem dX8_isKeeperOf_15 : decode cX8_isKeeperOf 15 = .ok (.ifCond .eq 7, 3) := by decide +kernel
theorem dX8_isKeeperOf_18 : decode cX8_isKeeperOf 18 = .ok (.iconst 1, 1) := by decide +kernel
theorem dX8_isKeeperOf_19 : decode cX8_isKeeperOf 19 = .ok (.goto 4, 3) := by decide +kernel
theorem dX8_isKeeperOf_22 : decode cX8_isKeeperOf 22 = .ok (.iconst 0, 1) := by decide +kernel
theorem dX8_isKeeperOf_23 : decode cX8_isKeeperOf 23 = .ok (.ireturn, 1) := by decide +kernel
theorem dX9_init_0 : decode cX9_init 0 = .ok (.aload_n 0, 1) := by decide +kernel
theorem dX9_init_1 : decode cX9_init 1 = .ok (.invokespecial 3, 3) := by decide +kernel
theorem dX9_init_4 : decode cX9_init 4 = .ok (.aload_n 0, 1) := by decide +kernel
theorem dX9_init_5 : decode cX9_init 5 = .ok (.iconst 0, 1) := by decide +kernel
theorem dX9_init_6 : decode cX9_init 6 = .ok (.putfield 9, 3) := by decide +kernel
theorem dX9_init_9 : decode cX9_init 9 = .ok (.aload_n 0, 1) := by decide +kernel
theorem dX9_init_10 : decode cX9_init 10 = .ok (.iconst 0, 1) := by decide +kernel
theorem dX9_init_11 : decode cX9_init 11 = .ok (.putfield 15, 3) := by decide +kernel
theorem dX9_init_14 : decode cX9_init 14 = .ok (.aload_n 0, 1) := by decide +kernel
theorem dX9_init_15 : decode cX9_init 15 = .ok (.new 18, 3) := by decide +kernel
theorem dX9_init_18 : decode cX9_init 18 = .ok (.dup, 1) := by decide +kernel
theorem dX9_init_19 : decode cX9_init 19 = .ok (.invokespecial 20, 3) := by decide +kernel
theorem dX9_init_22 : decode cX9_init 22 = .ok (.putfield 21, 3) := by decide +kernel
theorem dX9_init_25 : decode cX9_init 25 = .ok (.return_, 1) := by decide +kernel
theorem dX9_become_0 : decode cX9_become 0 = .ok (.aload_n 0, 1) := by decide +kernel
theorem dX9_become_1 : decode cX9_become 1 = .ok (.aload_n 1, 1) := by decide +kernel
theorem dX9_become_2 : decode cX9_become 2 = .ok (.getfield 9, 3) := by decide +kernel
theorem dX9_become_5 : decode cX9_become 5 = .ok (.putfield 9, 3) := by decide +kernel
theorem dX9_become_8 : decode cX9_become 8 = .ok (.aload_n 0, 1) := by decide +kernel
theorem dX9_become_9 : decode cX9_become 9 = .ok (.aload_n 1, 1) := by decide +kernel
theorem dX9_become_10 : decode cX9_become 10 = .ok (.getfield 15, 3) := by decide +kernel
theorem dX9_become_13 : decode cX9_become 13 = .ok (.putfield 15, 3) := by decide +kernel
theorem dX9_become_16 : decode cX9_become 16 = .ok (.aload_n 0, 1) := by decide +kernel
theorem dX9_become_17 : decode cX9_become 17 = .ok (.getfield 9, 3) := by decide +kernel
theorem dX9_become_20 : decode cX9_become 20 = .ok (.iconst 3, 1) := by decide +kernel
theorem dX9_become_21 : decode cX9_become 21 = .ok (.if_icmp .ne 14, 3) := by decide +kernel
theorem dX9_become_24 : decode cX9_become 24 = .ok (.aload_n 0, 1) := by decide +kernel
theorem dX9_become_25 : decode cX9_become 25 = .ok (.getfield 21, 3) := by decide +kernel
theorem dX9_become_28 : decode cX9_become 28 = .ok (.aload_n 1, 1) := by decide +kernel
theorem dX9_become_29 : decode cX9_become 29 = .ok (.getfield 21, 3) := by decide +kernel
theorem dX9_become_32 : decode cX9_become 32 = .ok (.invokevirtual 25, 3) := by decide +kernel
theorem dX9_become_35 : decode cX9_become 35 = .ok (.return_, 1) := by decide +kernel
theorem dJ6_bitCount_0f7a4_0 : decode cJ6_bitCount_0f7a4 0 = .ok (.iload_n 0, 1) := by decide +kernel
theorem dJ6_bitCount_0f7a4_1 : decode cJ6_bitCount_0f7a4 1 = .ok (.iload_n 0, 1) := by decide +kernel
theorem dJ6_bitCount_0f7a4_2 : decode cJ6_bitCount_0f7a4 2 = .ok (.iconst 1, 1) := by decide +kernel
theorem dJ6_bitCount_0f7a4_3 : decode cJ6_bitCount_0f7a4 3 = .ok (.iushr, 1) := by decide +kernel
theorem dJ6_bitCount_0f7a4_4 : decode cJ6_bitCount_0f7a4 4 = .ok (.ldc_w 265, 3) := by decide +kernel
theorem dJ6_bitCount_0f7a4_7 : decode cJ6_bitCount_0f7a4 7 = .ok (.iand, 1) := by decide +kernel
theorem dJ6_bitCount_0f7a4_8 : decode cJ6_bitCount_0f7a4 8 = .ok (.isub, 1) := by decide +kernel
theorem dJ6_bitCount_0f7a4_9 : decode cJ6_bitCount_0f7a4 9 = .ok (.istore_n 0, 1) := by decide +kernel
theorem dJ6_bitCount_0f7a4_10 : decode cJ6_bitCount_0f7a4 10 = .ok (.iload_n 0, 1) := by decide +kernel
theorem dJ6_bitCount_0f7a4_11 : decode cJ6_bitCount_0f7a4 11 = .ok (.ldc_w 266, 3) := by decide +kernel
theorem dJ6_bitCount_0f7a4_14 : decode cJ6_bitCount_0f7a4 14 = .ok (.iand, 1) := by decide +kernel
theorem dJ6_bitCount_0f7a4_15 : decode cJ6_bitCount_0f7a4 15 = .ok (.iload_n 0, 1) := by decide +kernel
theorem dJ6_bitCount_0f7a4_16 : decode cJ6_bitCount_0f7a4 16 = .ok (.iconst 2, 1) := by decide +kernel
theorem dJ6_bitCount_0f7a4_17 : decode cJ6_bitCount_0f7a4 17 = .ok (.iushr, 1) := by decide +kernel
theorem dJ6_bitCount_0f7a4_18 : decode cJ6_bitCount_0f7a4 18 = .ok (.ldc_w 266, 3) := by decide +kernel
theorem dJ6_bitCount_0f7a4_21 : decode cJ6_bitCount_0f7a4 21 = .ok (.iand, 1) := by decide +kernel
theorem dJ6_bitCount_0f7a4_22 : decode cJ6_bitCount_0f7a4 22 = .ok (.iadd, 1) := by decide +kernel
theorem dJ6_bitCount_0f7a4_23 : decode cJ6_bitCount_0f7a4 23 = .ok (.istore_n 0, 1) := by decide +kernel
theorem dJ6_bitCount_0f7a4_24 : decode cJ6_bitCount_0f7a4 24 = .ok (.iload_n 0, 1) := by decide +kernel
theorem dJ6_bitCount_0f7a4_25 : decode cJ6_bitCount_0f7a4 25 = .ok (.iload_n 0, 1) := by decide +kernel
theorem dJ6_bitCount_0f7a4_26 : decode cJ6_bitCount_0f7a4 26 = .ok (.iconst 4, 1) := by decide +kernel
theorem dJ6_bitCount_0f7a4_27 : decode cJ6_bitCount_0f7a4 27 = .ok (.iushr, 1) := by decide +kernel
theorem dJ6_bitCount_0f7a4_28 : decode cJ6_bitCount_0f7a4 28 = .ok (.iadd, 1) := by decide +kernel
theorem dJ6_bitCount_0f7a4_29 : decode cJ6_bitCount_0f7a4 29 = .ok (.ldc_w 267, 3) := by decide +kernel
theorem dJ6_bitCount_0f7a4_32 : decode cJ6_bitCount_0f7a4 32 = .ok (.iand, 1) := by decide +kernel
theorem dJ6_bitCount_0f7a4_33 : decode cJ6_bitCount_0f7a4 33 = .ok (.istore_n 0, 1) := by decide +kernel
theorem dJ6_bitCount_0f7a4_34 : decode cJ6_bitCount_0f7a4 34 = .ok (.iload_n 0, 1) := by decide +kernel
theorem dJ6_bitCount_0f7a4_35 : decode cJ6_bitCount_0f7a4 35 = .ok (.iload_n 0, 1) := by decide +kernel
theorem dJ6_bitCount_0f7a4_36 : decode cJ6_bitCount_0f7a4 36 = .ok (.bipush 8, 2) := by decide +kernel
theorem dJ6_bitCount_0f7a4_38 : decode cJ6_bitCount_0f7a4 38 = .ok (.iushr, 1) := by decide +kernel
theorem dJ6_bitCount_0f7a4_39 : decode cJ6_bitCount_0f7a4 39 = .ok (.iadd, 1) := by decide +kernel
theorem dJ6_bitCount_0f7a4_40 : decode cJ6_bitCount_0f7a4 40 = .ok (.istore_n 0, 1) := by decide +kernel
theorem dJ6_bitCount_0f7a4_41 : decode cJ6_bitCount_0f7a4 41 = .ok (.iload_n 0, 1) := by decide +kernel
theorem dJ6_bitCount_0f7a4_42 : decode cJ6_bitCount_0f7a4 42 = .ok (.iload_n 0, 1) := by decide +kernel
theorem dJ6_bitCount_0f7a4_43 : decode cJ6_bitCount_0f7a4 43 = .ok (.bipush 16, 2) := by decide +kernel
theorem dJ6_bitCount_0f7a4_45 : decode cJ6_bitCount_0f7a4 45 = .ok (.iushr, 1) := by decide +kernel
theorem dJ6_bitCount_0f7a4_46 : decode cJ6_bitCount_0f7a4 46 = .ok (.iadd, 1) := by decide +kernel
theorem dJ6_bitCount_0f7a4_47 : decode cJ6_bitCount_0f7a4 47 = .ok (.istore_n 0, 1) := by decide +kernel
theorem dJ6_bitCount_0f7a4_48 : decode cJ6_bitCount_0f7a4 48 = .ok (.iload_n 0, 1) := by decide +kernel
theorem dJ6_bitCount_0f7a4_49 : decode cJ6_bitCount_0f7a4 49 = .ok (.bipush 63, 2) := by decide +kernel
theorem dJ6_bitCount_0f7a4_51 : decode cJ6_bitCount_0f7a4 51 = .ok (.iand, 1) := by decide +kernel
theorem dJ6_bitCount_0f7a4_52 : decode cJ6_bitCount_0f7a4 52 = .ok (.ireturn, 1) := by decide +kernel
theorem dJ13_bitCount_95d88_0 : decode cJ13_bitCount_95d88 0 = .ok (.lload_n 0, 1) := by decide +kernel
theorem dJ13_bitCount_95d88_1 : decode cJ13_bitCount_95d88 1 = .ok (.lload_n 0, 1) := by decide +kernel
theorem dJ13_bitCount_95d88_2 : decode cJ13_bitCount_95d88 2 = .ok (.iconst 1, 1) := by decide +kernel
theorem dJ13_bitCount_95d88_3 : decode cJ13_bitCount_95d88 3 = .ok (.lushr, 1) := by decide +kernel
theorem dJ13_bitCount_95d88_4 : decode cJ13_bitCount_95d88 4 = .ok (.ldc2_w 314, 3) := by decide +kernel
theorem dJ13_bitCount_95d88_7 : decode cJ13_bitCount_95d88 7 = .ok (.land, 1) := by decide +kernel
theorem dJ13_bitCount_95d88_8 : decode cJ13_bitCount_95d88 8 = .ok (.lsub, 1) := by decide +kernel
theorem dJ13_bitCount_95d88_9 : decode cJ13_bitCount_95d88 9 = .ok (.lstore_n 0, 1) := by decide +kernel
theorem dJ13_bitCount_95d88_10 : decode cJ13_bitCount_95d88 10 = .ok (.lload_n 0, 1) := by decide +kernel
theorem dJ13_bitCount_95d88_11 : decode cJ13_bitCount_95d88 11 = .ok (.ldc2_w 316, 3) := by decide +kernel
theorem dJ13_bitCount_95d88_14 : decode cJ13_bitCount_95d88 14 = .ok (.land, 1) := by decide +kernel
theorem dJ13_bitCount_95d88_15 : decode cJ13_bitCount_95d88 15 = .ok (.lload_n 0, 1) := by decide +kernel
theorem dJ13_bitCount_95d88_16 : decode cJ13_bitCount_95d88 16 = .ok (.iconst 2, 1) := by decide +kernel
theorem dJ13_bitCount_95d88_17 : decode cJ13_bitCount_95d88 17 = .ok (.lushr, 1) := by decide +kernel
theorem dJ13_bitCount_95d88_18 : decode cJ13_bitCount_95d88 18 = .ok (.ldc2_w 316, 3) := by decide +kernel
theorem dJ13_bitCount_95d88_21 : decode cJ13_bitCount_95d88 21 = .ok (.land, 1) := by decide +kernel
theorem dJ13_bitCount_95d88_22 : decode cJ13_bitCount_95d88 22 = .ok (.ladd, 1) := by decide +kernel
theorem dJ13_bitCount_95d88_23 : decode cJ13_bitCount_95d88 23 = .ok (.lstore_n 0, 1) := by decide +kernel
theorem dJ13_bitCount_95d88_24 : decode cJ13_bitCount_95d88 24 = .ok (.lload_n 0, 1) := by decide +kernel
theorem dJ13_bitCount_95d88_25 : decode cJ13_bitCount_95d88 25 = .ok (.lload_n 0, 1) := by decide +kernel
theorem dJ13_bitCount_95d88_26 : decode cJ13_bitCount_95d88 26 = .ok (.iconst 4, 1) := by decide +kernel
theorem dJ13_bitCount_95d88_27 : decode cJ13_bitCount_95d88 27 = .ok (.lushr, 1) := by decide +kernel
theorem dJ13_bitCount_95d88_28 : decode cJ13_bitCount_95d88 28 = .ok (.ladd, 1) := by decide +kernel
theorem dJ13_bitCount_95d88_29 : decode cJ13_bitCount_95d88 29 = .ok (.ldc2_w 318, 3) := by decide +kernel
theorem dJ13_bitCount_95d88_32 : decode cJ13_bitCount_95d88 32 = .ok (.land, 1) := by decide +kernel
theorem dJ13_bitCount_95d88_33 : decode cJ13_bitCount_95d88 33 = .ok (.lstore_n 0, 1) := by decide +kernel
theorem dJ13_bitCount_95d88_34 : decode cJ13_bitCount_95d88 34 = .ok (.lload_n 0, 1) := by decide +kernel
theorem dJ13_bitCount_95d88_35 : decode cJ13_bitCount_95d88 35 = .ok (.lload_n 0, 1) := by decide +kernel
theorem dJ13_bitCount_95d88_36 : decode cJ13_bitCount_95d88 36 = .ok (.bipush 8, 2) := by decide +kernel
theorem dJ13_bitCount_95d88_38 : decode cJ13_bitCount_95d88 38 = .ok (.lushr, 1) := by decide +kernel
theorem dJ13_bitCount_95d88_39 : decode cJ13_bitCount_95d88 39 = .ok (.ladd, 1) := by decide +kernel
theorem dJ13_bitCount_95d88_40 : decode cJ13_bitCount_95d88 40 = .ok (.lstore_n 0, 1) := by decide +kernel
theorem dJ13_bitCount_95d88_41 : decode cJ13_bitCount_95d88 41 = .ok (.lload_n 0, 1) := by decide +kernel
theorem dJ13_bitCount_95d88_42 : decode cJ13_bitCount_95d88 42 = .ok (.lload_n 0, 1) := by decide +kernel
theorem dJ13_bitCount_95d88_43 : decode cJ13_bitCount_95d88 43 = .ok (.bipush 16, 2) := by decide +kernel
theorem dJ13_bitCount_95d88_45 : decode cJ13_bitCount_95d88 45 = .ok (.lushr, 1) := by decide +kernel
theorem dJ13_bitCount_95d88_46 : decode cJ13_bitCount_95d88 46 = .ok (.ladd, 1) := by decide +kernel
theorem dJ13_bitCount_95d88_47 : decode cJ13_bitCount_95d88 47 = .ok (.lstore_n 0, 1) := by decide +kernel
theorem dJ13_bitCount_95d88_48 : decode cJ13_bitCount_95d88 48 = .ok (.lload_n 0, 1) := by decide +kernel
theorem dJ13_bitCount_95d88_49 : decode cJ13_bitCount_95d88 49 = .ok (.lload_n 0, 1) := by decide +kernel
theorem dJ13_bitCount_95d88_50 : decode cJ13_bitCount_95d88 50 = .ok (.bipush 32, 2) := by decide +kernel
theorem dJ13_bitCount_95d88_52 : decode cJ13_bitCount_95d88 52 = .ok (.lushr, 1) := by decide +kernel
theorem dJ13_bitCount_95d88_53 : decode cJ13_bitCount_95d88 53 = .ok (.ladd, 1) := by decide +kernel
theorem dJ13_bitCount_95d88_54 : decode cJ13_bitCount_95d88 54 = .ok (.lstore_n 0, 1) := by decide +kernel
theorem dJ13_bitCount_95d88_55 : decode cJ13_bitCount_95d88 55 = .ok (.lload_n 0, 1) := by decide +kernel
theorem dJ13_bitCount_95d88_56 : decode cJ13_bitCount_95d88 56 = .ok (.l2i, 1) := by decide +kernel
theorem dJ13_bitCount_95d88_57 : decode cJ13_bitCount_95d88 57 = .ok (.bipush 127, 2) := by decide +kernel
theorem dJ13_bitCount_95d88_59 : decode cJ13_bitCount_95d88 59 = .ok (.iand, 1) := by decide +kernel
theorem dJ13_bitCount_95d88_60 : decode cJ13_bitCount_95d88 60 = .ok (.ireturn, 1) := by decide +kernel
theorem dJ9_max_7cf53_0 : decode cJ9_max_7cf53 0 = .ok (.iload_n 0, 1) := by decide +kernel
theorem dJ9_max_7cf53_1 : decode cJ9_max_7cf53 1 = .ok (.iload_n 1, 1) := by decide +kernel
theorem dJ9_max_7cf53_2 : decode cJ9_max_7cf53 2 = .ok (.if_icmp .lt 7, 3) := by decide +kernel
theorem dJ9_max_7cf53_5 : decode cJ9_max_7cf53 5 = .ok (.iload_n 0, 1) := by decide +kernel
theorem dJ9_max_7cf53_6 : decode cJ9_max_7cf53 6 = .ok (.goto 4, 3) := by decide +kernel
theorem dJ9_max_7cf53_9 : decode cJ9_max_7cf53 9 = .ok (.iload_n 1, 1) := by decide +kernel
theorem dJ9_max_7cf53_10 : decode cJ9_max_7cf53 10 = .ok (.ireturn, 1) := by decide +kernel
theorem dJ9_min_7cf53_0 : decode cJ9_min_7cf53 0 = .ok (.iload_n 0, 1) := by decide +kernel
theorem dJ9_min_7cf53_1 : decode cJ9_min_7cf53 1 = .ok (.iload_n 1, 1) := by decide +kernel
theorem dJ9_min_7cf53_2 : decode cJ9_min_7cf53 2 = .ok (.if_icmp .gt 7, 3) := by decide +kernel
theorem dJ9_min_7cf53_5 : decode cJ9_min_7cf53 5 = .ok (.iload_n 0, 1) := by decide +kernel
theorem dJ9_min_7cf53_6 : decode cJ9_min_7cf53 6 = .ok (.goto 4, 3) := by decide +kernel
theorem dJ9_min_7cf53_9 : decode cJ9_min_7cf53 9 = .ok (.iload_n 1, 1) := by decide +kernel
theorem dJ9_min_7cf53_10 : decode cJ9_min_7cf53 10 = .ok (.ireturn, 1) := by decide +kernel
end
section
theorem dX3_init_0 : decode cX3_init 0 = .ok (.aload_n 0, 1) := by decide +kernel
theorem dX3_init_1 : decode cX3_init 1 = .ok (.invokespecial 3, 3) := by decide +kernel
theorem dX3_init_4 : decode cX3_init 4 = .ok (.aload_n 0, 1) := by decide +kernel
theorem dX3_init_5 : decode cX3_init 5 = .ok (.new 9, 3) := by decide +kernel
theorem dX3_init_8 : decode cX3_init 8 = .ok (.dup, 1) := by decide +kernel
theorem dX3_init_9 : decode cX3_init 9 = .ok (.invokespecial 11, 3) := by decide +kernel
theorem dX3_init_12 : decode cX3_init 12 = .ok (.putfield 12, 3) := by decide +kernel
theorem dX3_init_15 : decode cX3_init 15 = .ok (.aload_n 0, 1) := by decide +kernel
theorem dX3_init_16 : decode cX3_init 16 = .ok (.sipush 320, 3) := by decide +kernel
theorem dX3_init_19 : decode cX3_init 19 = .ok (.newarray .int, 2) := by decide +kernel
theorem dX3_init_21 : decode cX3_init 21 = .ok (.putfield 18, 3) := by decide +kernel
theorem dX3_init_24 : decode cX3_init 24 = .ok (.aload_n 0, 1) := by decide +kernel
theorem dX3_init_25 : decode cX3_init 25 = .ok (.bipush 16, 2) := by decide +kernel
theorem dX3_init_27 : decode cX3_init 27 = .ok (.newarray .int, 2) := by decide +kernel
theorem dX3_init_29 : decode cX3_init 29 = .ok (.putfield 22, 3) := by decide +kernel
theorem dX3_init_32 : decode cX3_init 32 = .ok (.aload_n 0, 1) := by decide +kernel
theorem dX3_init_33 : decode cX3_init 33 = .ok (.bipush 16, 2) := by decide +kernel
theorem dX3_init_35 : decode cX3_init 35 = .ok (.newarray .int, 2) := by decide +kernel
theorem dX3_init_37 : decode cX3_init 37 = .ok (.putfield 25, 3) := by decide +kernel
theorem dX3_init_40 : decode cX3_init 40 = .ok (.aload_n 0, 1) := by decide +kernel
theorem dX3_init_41 : decode cX3_init 41 = .ok (.iconst 0, 1) := by decide +kernel
theorem dX3_init_42 : decode cX3_init 42 = .ok (.putfield 28, 3) := by decide +kernel
theorem dX3_init_45 : decode cX3_init 45 = .ok (.aload_n 0, 1) := by decide +kernel
theorem dX3_init_46 : decode cX3_init 46 = .ok (.iconst 0, 1) := by decide +kernel
theorem dX3_init_47 : decode cX3_init 47 = .ok (.putfield 32, 3) := by decide +kernel
theorem dX3_init_50 : decode cX3_init 50 = .ok (.aload_n 0, 1) := by decide +kernel
theorem dX3_init_51 : decode cX3_init 51 = .ok (.bipush 16, 2) := by decide +kernel
theorem dX3_init_53 : decode cX3_init 53 = .ok (.newarray .int, 2) := by decide +kernel
theorem dX3_init_55 : decode cX3_init 55 = .ok (.putfield 36, 3) := by decide +kernel
theorem dX3_init_58 : decode cX3_init 58 = .ok (.aload_n 0, 1) := by decide +kernel
theorem dX3_init_59 : decode cX3_init 59 = .ok (.bipush 16, 2) := by decide +kernel
theorem dX3_init_61 : decode cX3_init 61 = .ok (.newarray .int, 2) := by decide +kernel
theorem dX3_init_63 : decode cX3_init 63 = .ok (.putfield 39, 3) := by decide +kernel
theorem dX3_init_66 : decode cX3_init 66 = .ok (.aload_n 0, 1) := by decide +kernel
theorem dX3_init_67 : decode cX3_init 67 = .ok (.iconst 0, 1) := by decide +kernel
theorem dX3_init_68 : decode cX3_init 68 = .ok (.putfield 42, 3) := by decide +kernel
theorem dX3_init_71 : decode cX3_init 71 = .ok (.aload_n 0, 1) := by decide +kernel
theorem dX3_init_72 : decode cX3_init 72 = .ok (.iconst 0, 1) := by decide +kernel
theorem dX3_init_73 : decode cX3_init 73 = .ok (.putfield 45, 3) := by decide +kernel
theorem dX3_init_76 : decode cX3_init 76 = .ok (.return_, 1) := by decide +kernel
theorem dX3_begin_0 : decode cX3_begin 0 = .ok (.aload_n 0, 1) := by decide +kernel
theorem dX3_begin_1 : decode cX3_begin 1 = .ok (.getfield 12, 3) := by decide +kernel
theorem dX3_begin_4 : decode cX3_begin 4 = .ok (.iload_n 1, 1) := by decide +kernel
theorem dX3_begin_5 : decode cX3_begin 5 = .ok (.invokevirtual 48, 3) := by decide +kernel
theorem dX3_begin_8 : decode cX3_begin 8 = .ok (.return_, 1) := by decide +kernel
theorem dX3_gatherMost_0 : decode cX3_gatherMost 0 = .ok (.aload_n 0, 1) := by decide +kernel
theorem dX3_gatherMost_1 : decode cX3_gatherMost 1 = .ok (.iconst 0, 1) := by decide +kernel
theorem dX3_gatherMost_2 : decode cX3_gatherMost 2 = .ok (.putfield 42, 3) := by decide +kernel
theorem dX3_gatherMost_5 : decode cX3_gatherMost 5 = .ok (.iconst 0, 1) := by decide +kernel
theorem dX3_gatherMost_6 : decode cX3_gatherMost 6 = .ok (.istore_n 3, 1) := by decide +kernel
theorem dX3_gatherMost_7 : decode cX3_gatherMost 7 = .ok (.iload_n 3, 1) := by decide +kernel
theorem dX3_gatherMost_8 : decode cX3_gatherMost 8 = .ok (.aload_n 1, 1) := by decide +kernel
theorem dX3_gatherMost_9 : decode cX3_gatherMost 9 = .ok (.getfield 52, 3) := by decide +kernel
theorem dX3_gatherMost_12 : decode cX3_gatherMost 12 = .ok (.if_icmp .ge 36, 3) := by decide +kernel
theorem dX3_gatherMost_15 : decode cX3_gatherMost 15 = .ok (.iload_n 3, 1) := by decide +kernel
theorem dX3_gatherMost_16 : decode cX3_gatherMost 16 = .ok (.bipush 16, 2) := by decide +kernel
theorem dX3_gatherMost_18 : decode cX3_gatherMost 18 = .ok (.if_icmp .ge 30, 3) := by decide +kernel
theorem dX3_gatherMost_21 : decode cX3_gatherMost 21 = .ok (.iload_n 2, 1) := by decide +kernel
theorem dX3_gatherMost_22 : decode cX3_gatherMost 22 = .ok (.iload_n 3, 1) := by decide +kernel
theorem dX3_gatherMost_23 : decode cX3_gatherMost 23 = .ok (.ishr, 1) := by decide +kernel
theorem dX3_gatherMost_24 : decode cX3_gatherMost 24 = .ok (.iconst 1, 1) := by decide +kernel
theorem dX3_gatherMost_25 : decode cX3_gatherMost 25 = .ok (.iand, 1) := by decide +kernel
theorem dX3_gatherMost_26 : decode cX3_gatherMost 26 = .ok (.ifCond .eq 16, 3) := by decide +kernel
theorem dX3_gatherMost_29 : decode cX3_gatherMost 29 = .ok (.aload_n 0, 1) := by decide +kernel
theorem dX3_gatherMost_30 : decode cX3_gatherMost 30 = .ok (.iconst 1, 1) := by decide +kernel
theorem dX3_gatherMost_31 : decode cX3_gatherMost 31 = .ok (.iload_n 3, 1) := by decide +kernel
theorem dX3_gatherMost_32 : decode cX3_gatherMost 32 = .ok (.ishl, 1) := by decide +kernel
theorem dX3_gatherMost_33 : decode cX3_gatherMost 33 = .ok (.aload_n 1, 1) := by decide +kernel
theorem dX3_gatherMost_34 : decode cX3_gatherMost 34 = .ok (.getfield 57, 3) := by decide +kernel
theorem dX3_gatherMost_37 : decode cX3_gatherMost 37 = .ok (.iload_n 3, 1) := by decide +kernel
theorem dX3_gatherMost_38 : decode cX3_gatherMost 38 = .ok (.iaload, 1) := by decide +kernel
theorem dX3_gatherMost_39 : decode cX3_gatherMost 39 = .ok (.invokevirtual 58, 3) := by decide +kernel
theorem dX3_gatherMost_42 : decode cX3_gatherMost 42 = .ok (.iinc 3 1, 3) := by decide +kernel
theorem dX3_gatherMost_45 : decode cX3_gatherMost 45 = .ok (.goto (-38), 3) := by decide +kernel
theorem dX3_gatherMost_48 : decode cX3_gatherMost 48 = .ok (.aload_n 0, 1) := by decide +kernel
theorem dX3_gatherMost_49 : decode cX3_gatherMost 49 = .ok (.iconst 0, 1) := by decide +kernel
theorem dX3_gatherMost_50 : decode cX3_gatherMost 50 = .ok (.putfield 45, 3) := by decide +kernel
theorem dX3_gatherMost_53 : decode cX3_gatherMost 53 = .ok (.aload_n 1, 1) := by decide +kernel
theorem dX3_gatherMost_54 : decode cX3_gatherMost 54 = .ok (.iload_n 2, 1) := by decide +kernel
theorem dX3_gatherMost_55 : decode cX3_gatherMost 55 = .ok (.invokevirtual 62, 3) := by decide +kernel
theorem dX3_gatherMost_58 : decode cX3_gatherMost 58 = .ok (.istore_n 3, 1) := by decide +kernel
theorem dX3_gatherMost_59 : decode cX3_gatherMost 59 = .ok (.aload_n 0, 1) := by decide +kernel
theorem dX3_gatherMost_60 : decode cX3_gatherMost 60 = .ok (.iconst 0, 1) := by decide +kernel
theorem dX3_gatherMost_61 : decode cX3_gatherMost 61 = .ok (.iconst 0, 1) := by decide +kernel
theorem dX3_gatherMost_62 : decode cX3_gatherMost 62 = .ok (.iload_n 3, 1) := by decide +kernel
theorem dX3_gatherMost_63 : decode cX3_gatherMost 63 = .ok (.iload_n 3, 1) := by decide +kernel
theorem dX3_gatherMost_64 : decode cX3_gatherMost 64 = .ok (.invokestatic 66, 3) := by decide +kernel
theorem dX3_gatherMost_67 : decode cX3_gatherMost 67 = .ok (.return_, 1) := by decide +kernel
theorem dX3_orderByStrength_0 : decode cX3_orderByStrength 0 = .ok (.aload_n 0, 1) := by decide +kernel
theorem dX3_orderByStrength_1 : decode cX3_orderByStrength 1 = .ok (.getfield 42, 3) := by decide +kernel
theorem dX3_orderByStrength_4 : decode cX3_orderByStrength 4 = .ok (.ifCond .lt 12, 3) := by decide +kernel
theorem dX3_orderByStrength_7 : decode cX3_orderByStrength 7 = .ok (.aload_n 0, 1) := by decide +kernel
theorem dX3_orderByStrength_8 : decode cX3_orderByStrength 8 = .ok (.getfield 42, 3) := by decide +kernel
theorem dX3_orderByStrength_11 : decode cX3_orderByStrength 11 = .ok (.bipush 16, 2) := by decide +kernel
theorem dX3_orderByStrength_13 : decode cX3_orderByStrength 13 = .ok (.if_icmp .lt 4, 3) := by decide +kernel
theorem dX3_orderByStrength_16 : decode cX3_orderByStrength 16 = .ok (.return_, 1) := by decide +kernel
theorem dX3_orderByStrength_17 : decode cX3_orderByStrength 17 = .ok (.aload_n 0, 1) := by decide +kernel
theorem dX3_orderByStrength_18 : decode cX3_orderByStrength 18 = .ok (.getfield 42, 3) := by decide +kernel
theorem dX3_orderByStrength_21 : decode cX3_orderByStrength 21 = .ok (.istore_n 3, 1) := by decide +kernel
theorem dX3_orderByStrength_22 : decode cX3_orderByStrength 22 = .ok (.iload_n 3, 1) := by decide +kernel
theorem dX3_orderByStrength_23 : decode cX3_orderByStrength 23 = .ok (.ifCond .le 49, 3) := by decide +kernel
theorem dX3_orderByStrength_26 : decode cX3_orderByStrength 26 = .ok (.aload_n 0, 1) := by decide +kernel
theorem dX3_orderByStrength_27 : decode cX3_orderByStrength 27 = .ok (.getfield 39, 3) := by decide +kernel
theorem dX3_orderByStrength_30 : decode cX3_orderByStrength 30 = .ok (.iload_n 3, 1) := by decide +kernel
theorem dX3_orderByStrength_31 : decode cX3_orderByStrength 31 = .ok (.iconst 1, 1) := by decide +kernel
theorem dX3_orderByStrength_32 : decode cX3_orderByStrength 32 = .ok (.isub, 1) := by decide +kernel
theorem dX3_orderByStrength_33 : decode cX3_orderByStrength 33 = .ok (.iaload, 1) := by decide +kernel
theorem dX3_orderByStrength_34 : decode cX3_orderByStrength 34 = .ok (.iload_n 2, 1) := by decide +kernel
theorem dX3_orderByStrength_35 : decode cX3_orderByStrength 35 = .ok (.if_icmp .ge 37, 3) := by decide +kernel
theorem dX3_orderByStrength_38 : decode cX3_orderByStrength 38 = .ok (.aload_n 0, 1) := by decide +kernel
theorem dX3_orderByStrength_39 : decode cX3_orderByStrength 39 = .ok (.getfield 36, 3) := by decide +kernel
theorem dX3_orderByStrength_42 : decode cX3_orderByStrength 42 = .ok (.iload_n 3, 1) := by decide +kernel
theorem dX3_orderByStrength_43 : decode cX3_orderByStrength 43 = .ok (.aload_n 0, 1) := by decide +kernel
theorem dX3_orderByStrength_44 : decode cX3_orderByStrength 44 = .ok (.getfield 36, 3) := by decide +kernel
theorem dX3_orderByStrength_47 : decode cX3_orderByStrength 47 = .ok (.iload_n 3, 1) := by decide +kernel
theorem dX3_orderByStrength_48 : decode cX3_orderByStrength 48 = .ok (.iconst 1, 1) := by decide +kernel
theorem dX3_orderByStrength_49 : decode cX3_orderByStrength 49 = .ok (.isub, 1) := by decide +kernel
theorem dX3_orderByStrength_50 : decode cX3_orderByStrength 50 = .ok (.iaload, 1) := by decide +kernel
theorem dX3_orderByStrength_51 : decode cX3_orderByStrength 51 = .ok (.iastore, 1) := by decide +kernel
theorem dX3_orderByStrength_52 : decode cX3_orderByStrength 52 = .ok (.aload_n 0, 1) := by decide +kernel
theorem dX3_orderByStrength_53 : decode cX3_orderByStrength 53 = .ok (.getfield 39, 3) := by decide +kernel
theorem dX3_orderByStrength_56 : decode cX3_orderByStrength 56 = .ok (.iload_n 3, 1) := by decide +kernel
theorem dX3_orderByStrength_57 : decode cX3_orderByStrength 57 = .ok (.aload_n 0, 1) := by decide +kernel
theorem dX3_orderByStrength_58 : decode cX3_orderByStrength 58 = .ok (.getfield 39, 3) := by decide +kernel
theorem dX3_orderByStrength_61 : decode cX3_orderByStrength 61 = .ok (.iload_n 3, 1) := by decide +kernel
theorem dX3_orderByStrength_62 : decode cX3_orderByStrength 62 = .ok (.iconst 1, 1) := by decide +kernel
theorem dX3_orderByStrength_63 : decode cX3_orderByStrength 63 = .ok (.isub, 1) := by decide +kernel
theorem dX3_orderByStrength_64 : decode cX3_orderByStrength 64 = .ok (.iaload, 1) := by decide +kernel
theorem dX3_orderByStrength_65 : decode cX3_orderByStrength 65 = .ok (.iastore, 1) := by decide +kernel
theorem dX3_orderByStrength_66 : decode cX3_orderByStrength 66 = .ok (.iinc 3 (-1), 3) := by decide +kernel
theorem dX3_orderByStrength_69 : decode cX3_orderByStrength 69 = .ok (.goto (-47), 3) := by decide +kernel
theorem dX3_orderByStrength_72 : decode cX3_orderByStrength 72 = .ok (.aload_n 0, 1) := by decide +kernel
theorem dX3_orderByStrength_73 : decode cX3_orderByStrength 73 = .ok (.getfield 36, 3) := by decide +kernel
theorem dX3_orderByStrength_76 : decode cX3_orderByStrength 76 = .ok (.iload_n 3, 1) := by decide +kernel
theorem dX3_orderByStrength_77 : decode cX3_orderByStrength 77 = .ok (.iload_n 1, 1) := by decide +kernel
theorem dX3_orderByStrength_78 : decode cX3_orderByStrength 78 = .ok (.iastore, 1) := by decide +kernel
theorem dX3_orderByStrength_79 : decode cX3_orderByStrength 79 = .ok (.aload_n 0, 1) := by decide +kernel
theorem dX3_orderByStrength_80 : decode cX3_orderByStrength 80 = .ok (.getfield 39, 3) := by decide +kernel
theorem dX3_orderByStrength_83 : decode cX3_orderByStrength 83 = .ok (.iload_n 3, 1) := by decide +kernel
theorem dX3_orderByStrength_84 : decode cX3_orderByStrength 84 = .ok (.iload_n 2, 1) := by decide +kernel
theorem dX3_orderByStrength_85 : decode cX3_orderByStrength 85 = .ok (.iastore, 1) := by decide +kernel
theorem dX3_orderByStrength_86 : decode cX3_orderByStrength 86 = .ok (.aload_n 0, 1) := by decide +kernel
theorem dX3_orderByStrength_87 : decode cX3_orderByStrength 87 = .ok (.dup, 1) := by decide +kernel
theorem dX3_orderByStrength_88 : decode cX3_orderByStrength 88 = .ok (.getfield 42, 3) := by decide +kernel
theorem dX3_orderByStrength_91 : decode cX3_orderByStrength 91 = .ok (.iconst 1, 1) := by decide +kernel
theorem dX3_orderByStrength_92 : decode cX3_orderByStrength 92 = .ok (.iadd, 1) := by decide +kernel
theorem dX3_orderByStrength_93 : decode cX3_orderByStrength 93 = .ok (.putfield 42, 3) := by decide +kernel
theorem dX3_orderByStrength_96 : decode cX3_orderByStrength 96 = .ok (.return_, 1) := by decide +kernel
theorem dX3_takeStrong_0 : decode cX3_takeStrong 0 = .ok (.iconst 2, 1) := by decide +kernel
theorem dX3_takeStrong_1 : decode cX3_takeStrong 1 = .ok (.iload 4, 2) := by decide +kernel
theorem dX3_takeStrong_3 : decode cX3_takeStrong 3 = .ok (.imul, 1) := by decide +kernel
theorem dX3_takeStrong_4 : decode cX3_takeStrong 4 = .ok (.iload_n 3, 1) := by decide +kernel
theorem dX3_takeStrong_5 : decode cX3_takeStrong 5 = .ok (.if_icmp .le 7, 3) := by decide +kernel
theorem dX3_takeStrong_8 : decode cX3_takeStrong 8 = .ok (.iconst 1, 1) := by decide +kernel
theorem dX3_takeStrong_9 : decode cX3_takeStrong 9 = .ok (.goto 4, 3) := by decide +kernel
theorem dX3_takeStrong_12 : decode cX3_takeStrong 12 = .ok (.iconst 0, 1) := by decide +kernel
theorem dX3_takeStrong_13 : decode cX3_takeStrong 13 = .ok (.istore 5, 2) := by decide +kernel
theorem dX3_takeStrong_15 : decode cX3_takeStrong 15 = .ok (.iload_n 1, 1) := by decide +kernel
theorem dX3_takeStrong_16 : decode cX3_takeStrong 16 = .ok (.ifCond .lt 31, 3) := by decide +kernel
theorem dX3_takeStrong_19 : decode cX3_takeStrong 19 = .ok (.iload_n 1, 1) := by decide +kernel
theorem dX3_takeStrong_20 : decode cX3_takeStrong 20 = .ok (.aload_n 0, 1) := by decide +kernel
theorem dX3_takeStrong_21 : decode cX3_takeStrong 21 = .ok (.getfield 42, 3) := by decide +kernel
theorem dX3_takeStrong_24 : decode cX3_takeStrong 24 = .ok (.if_icmp .ge 23, 3) := by decide +kernel
theorem dX3_takeStrong_27 : decode cX3_takeStrong 27 = .ok (.iload_n 1, 1) := by decide +kernel
theorem dX3_takeStrong_28 : decode cX3_takeStrong 28 = .ok (.bipush 16, 2) := by decide +kernel
theorem dX3_takeStrong_30 : decode cX3_takeStrong 30 = .ok (.if_icmp .ge 17, 3) := by decide +kernel
theorem dX3_takeStrong_33 : decode cX3_takeStrong 33 = .ok (.iload 5, 2) := by decide +kernel
theorem dX3_takeStrong_35 : decode cX3_takeStrong 35 = .ok (.ifCond .eq 12, 3) := by decide +kernel
theorem dX3_takeStrong_38 : decode cX3_takeStrong 38 = .ok (.aload_n 0, 1) := by decide +kernel
theorem dX3_takeStrong_39 : decode cX3_takeStrong 39 = .ok (.getfield 45, 3) := by decide +kernel
theorem dX3_takeStrong_42 : decode cX3_takeStrong 42 = .ok (.bipush 120, 2) := by decide +kernel
theorem dX3_takeStrong_44 : decode cX3_takeStrong 44 = .ok (.if_icmp .le 4, 3) := by decide +kernel
theorem dX3_takeStrong_47 : decode cX3_takeStrong 47 = .ok (.return_, 1) := by decide +kernel
theorem dX3_takeStrong_48 : decode cX3_takeStrong 48 = .ok (.aload_n 0, 1) := by decide +kernel
theorem dX3_takeStrong_49 : decode cX3_takeStrong 49 = .ok (.getfield 39, 3) := by decide +kernel
theorem dX3_takeStrong_52 : decode cX3_takeStrong 52 = .ok (.iload_n 1, 1) := by decide +kernel
theorem dX3_takeStrong_53 : decode cX3_takeStrong 53 = .ok (.iaload, 1) := by decide +kernel
theorem dX3_takeStrong_54 : decode cX3_takeStrong 54 = .ok (.istore 6, 2) := by decide +kernel
theorem dX3_takeStrong_56 : decode cX3_takeStrong 56 = .ok (.iload_n 2, 1) := by decide +kernel
theorem dX3_takeStrong_57 : decode cX3_takeStrong 57 = .ok (.aload_n 0, 1) := by decide +kernel
theorem dX3_takeStrong_58 : decode cX3_takeStrong 58 = .ok (.getfield 36, 3) := by decide +kernel
theorem dX3_takeStrong_61 : decode cX3_takeStrong 61 = .ok (.iload_n 1, 1) := by decide +kernel
theorem dX3_takeStrong_62 : decode cX3_takeStrong 62 = .ok (.iaload, 1) := by decide +kernel
theorem dX3_takeStrong_63 : decode cX3_takeStrong 63 = .ok (.ior, 1) := by decide +kernel
theorem dX3_takeStrong_64 : decode cX3_takeStrong 64 = .ok (.istore 7, 2) := by decide +kernel
theorem dX3_takeStrong_66 : decode cX3_takeStrong 66 = .ok (.iconst 2, 1) := by decide +kernel
theorem dX3_takeStrong_67 : decode cX3_takeStrong 67 = .ok (.iload 6, 2) := by decide +kernel
theorem dX3_takeStrong_69 : decode cX3_takeStrong 69 = .ok (.imul, 1) := by decide +kernel
theorem dX3_takeStrong_70 : decode cX3_takeStrong 70 = .ok (.iload_n 3, 1) := by decide +kernel
theorem dX3_takeStrong_71 : decode cX3_takeStrong 71 = .ok (.if_icmp .le 25, 3) := by decide +kernel
theorem dX3_takeStrong_74 : decode cX3_takeStrong 74 = .ok (.aload_n 0, 1) := by decide +kernel
theorem dX3_takeStrong_75 : decode cX3_takeStrong 75 = .ok (.getfield 12, 3) := by decide +kernel
theorem dX3_takeStrong_78 : decode cX3_takeStrong 78 = .ok (.iload 7, 2) := by decide +kernel
theorem dX3_takeStrong_80 : decode cX3_takeStrong 80 = .ok (.invokevirtual 70, 3) := by decide +kernel
theorem dX3_takeStrong_83 : decode cX3_takeStrong 83 = .ok (.aload_n 0, 1) := by decide +kernel
theorem dX3_takeStrong_84 : decode cX3_takeStrong 84 = .ok (.dup, 1) := by decide +kernel
theorem dX3_takeStrong_85 : decode cX3_takeStrong 85 = .ok (.getfield 45, 3) := by decide +kernel
theorem dX3_takeStrong_88 : decode cX3_takeStrong 88 = .ok (.iconst 1, 1) := by decide +kernel
theorem dX3_takeStrong_89 : decode cX3_takeStrong 89 = .ok (.iadd, 1) := by decide +kernel
theorem dX3_takeStrong_90 : decode cX3_takeStrong 90 = .ok (.putfield 45, 3) := by decide +kernel
theorem dX3_takeStrong_93 : decode cX3_takeStrong 93 = .ok (.goto 23, 3) := by decide +kernel
theorem dX3_takeStrong_96 : decode cX3_takeStrong 96 = .ok (.aload_n 0, 1) := by decide +kernel
theorem dX3_takeStrong_97 : decode cX3_takeStrong 97 = .ok (.iload_n 1, 1) := by decide +kernel
theorem dX3_takeStrong_98 : decode cX3_takeStrong 98 = .ok (.iconst 1, 1) := by decide +kernel
theorem dX3_takeStrong_99 : decode cX3_takeStrong 99 = .ok (.iadd, 1) := by decide +kernel
theorem dX3_takeStrong_100 : decode cX3_takeStrong 100 = .ok (.iload 7, 2) := by decide +kernel
theorem dX3_takeStrong_102 : decode cX3_takeStrong 102 = .ok (.iload_n 3, 1) := by decide +kernel
theorem dX3_takeStrong_103 : decode cX3_takeStrong 103 = .ok (.iconst 2, 1) := by decide +kernel
theorem dX3_takeStrong_104 : decode cX3_takeStrong 104 = .ok (.iload 6, 2) := by decide +kernel
theorem dX3_takeStrong_106 : decode cX3_takeStrong 106 = .ok (.imul, 1) := by decide +kernel
theorem dX3_takeStrong_107 : decode cX3_takeStrong 107 = .ok (.isub, 1) := by decide +kernel
theorem dX3_takeStrong_108 : decode cX3_takeStrong 108 = .ok (.iload 4, 2) := by decide +kernel
theorem dX3_takeStrong_110 : decode cX3_takeStrong 110 = .ok (.iload 6, 2) := by decide +kernel
theorem dX3_takeStrong_112 : decode cX3_takeStrong 112 = .ok (.isub, 1) := by decide +kernel
theorem dX3_takeStrong_113 : decode cX3_takeStrong 113 = .ok (.invokestatic 66, 3) := by decide +kernel
theorem dX3_takeStrong_116 : decode cX3_takeStrong 116 = .ok (.aload_n 0, 1) := by decide +kernel
theorem dX3_takeStrong_117 : decode cX3_takeStrong 117 = .ok (.iload_n 1, 1) := by decide +kernel
theorem dX3_takeStrong_118 : decode cX3_takeStrong 118 = .ok (.iconst 1, 1) := by decide +kernel
theorem dX3_takeStrong_119 : decode cX3_takeStrong 119 = .ok (.iadd, 1) := by decide +kernel
theorem dX3_takeStrong_120 : decode cX3_takeStrong 120 = .ok (.iload_n 2, 1) := by decide +kernel
theorem dX3_takeStrong_121 : decode cX3_takeStrong 121 = .ok (.iload_n 3, 1) := by decide +kernel
theorem dX3_takeStrong_122 : decode cX3_takeStrong 122 = .ok (.iload 4, 2) := by decide +kernel
theorem dX3_takeStrong_124 : decode cX3_takeStrong 124 = .ok (.iload 6, 2) := by decide +kernel
theorem dX3_takeStrong_126 : decode cX3_takeStrong 126 = .ok (.isub, 1) := by decide +kernel
theorem dX3_takeStrong_127 : decode cX3_takeStrong 127 = .ok (.invokestatic 66, 3) := by decide +kernel
theorem dX3_takeStrong_130 : decode cX3_takeStrong 130 = .ok (.return_, 1) := by decide +kernel
theorem dX3_dropRows_0 : decode cX3_dropRows 0 = .ok (.aload_n 0, 1) := by decide +kernel
theorem dX3_dropRows_1 : decode cX3_dropRows 1 = .ok (.iconst 0, 1) := by decide +kernel
theorem dX3_dropRows_2 : decode cX3_dropRows 2 = .ok (.putfield 28, 3) := by decide +kernel
theorem dX3_dropRows_5 : decode cX3_dropRows 5 = .ok (.aload_n 0, 1) := by decide +kernel
theorem dX3_dropRows_6 : decode cX3_dropRows 6 = .ok (.iconst 0, 1) := by decide +kernel
theorem dX3_dropRows_7 : decode cX3_dropRows 7 = .ok (.putfield 32, 3) := by decide +kernel
theorem dX3_dropRows_10 : decode cX3_dropRows 10 = .ok (.return_, 1) := by decide +kernel
theorem dX3_addRow_0 : decode cX3_addRow 0 = .ok (.iload_n 1, 1) := by decide +kernel
theorem dX3_addRow_1 : decode cX3_addRow 1 = .ok (.ifCond .le 19, 3) := by decide +kernel
theorem dX3_addRow_4 : decode cX3_addRow 4 = .ok (.aload_n 0, 1) := by decide +kernel
theorem dX3_addRow_5 : decode cX3_addRow 5 = .ok (.getfield 28, 3) := by decide +kernel
theorem dX3_addRow_8 : decode cX3_addRow 8 = .ok (.ifCond .lt 12, 3) := by decide +kernel
theorem dX3_addRow_11 : decode cX3_addRow 11 = .ok (.aload_n 0, 1) := by decide +kernel
theorem dX3_addRow_12 : decode cX3_addRow 12 = .ok (.getfield 28, 3) := by decide +kernel
theorem dX3_addRow_15 : decode cX3_addRow 15 = .ok (.bipush 16, 2) := by decide +kernel
theorem dX3_addRow_17 : decode cX3_addRow 17 = .ok (.if_icmp .lt 8, 3) := by decide +kernel
theorem dX3_addRow_20 : decode cX3_addRow 20 = .ok (.aload_n 0, 1) := by decide +kernel
theorem dX3_addRow_21 : decode cX3_addRow 21 = .ok (.iconst 1, 1) := by decide +kernel
theorem dX3_addRow_22 : decode cX3_addRow 22 = .ok (.putfield 32, 3) := by decide +kernel
theorem dX3_addRow_25 : decode cX3_addRow 25 = .ok (.aload_n 0, 1) := by decide +kernel
theorem dX3_addRow_26 : decode cX3_addRow 26 = .ok (.getfield 32, 3) := by decide +kernel
theorem dX3_addRow_29 : decode cX3_addRow 29 = .ok (.ifCond .ne 23, 3) := by decide +kernel
theorem dX3_addRow_32 : decode cX3_addRow 32 = .ok (.aload_n 0, 1) := by decide +kernel
theorem dX3_addRow_33 : decode cX3_addRow 33 = .ok (.getfield 25, 3) := by decide +kernel
theorem dX3_addRow_36 : decode cX3_addRow 36 = .ok (.aload_n 0, 1) := by decide +kernel
theorem dX3_addRow_37 : decode cX3_addRow 37 = .ok (.getfield 28, 3) := by decide +kernel
theorem dX3_addRow_40 : decode cX3_addRow 40 = .ok (.iload_n 1, 1) := by decide +kernel
theorem dX3_addRow_41 : decode cX3_addRow 41 = .ok (.iastore, 1) := by decide +kernel
theorem dX3_addRow_42 : decode cX3_addRow 42 = .ok (.aload_n 0, 1) := by decide +kernel
theorem dX3_addRow_43 : decode cX3_addRow 43 = .ok (.dup, 1) := by decide +kernel
theorem dX3_addRow_44 : decode cX3_addRow 44 = .ok (.getfield 28, 3) := by decide +kernel
theorem dX3_addRow_47 : decode cX3_addRow 47 = .ok (.iconst 1, 1) := by decide +kernel
theorem dX3_addRow_48 : decode cX3_addRow 48 = .ok (.iadd, 1) := by decide +kernel
theorem dX3_addRow_49 : decode cX3_addRow 49 = .ok (.putfield 28, 3) := by decide +kernel
theorem dX3_addRow_52 : decode cX3_addRow 52 = .ok (.return_, 1) := by decide +kernel
theorem dX3_keepersOfRows_0 : decode cX3_keepersOfRows 0 = .ok (.iconst 0, 1) := by decide +kernel
theorem dX3_keepersOfRows_1 : decode cX3_keepersOfRows 1 = .ok (.istore_n 1, 1) := by decide +kernel
theorem dX3_keepersOfRows_2 : decode cX3_keepersOfRows 2 = .ok (.iconst 0, 1) := by decide +kernel
theorem dX3_keepersOfRows_3 : decode cX3_keepersOfRows 3 = .ok (.istore_n 2, 1) := by decide +kernel
theorem dX3_keepersOfRows_4 : decode cX3_keepersOfRows 4 = .ok (.iload_n 2, 1) := by decide +kernel
theorem dX3_keepersOfRows_5 : decode cX3_keepersOfRows 5 = .ok (.aload_n 0, 1) := by decide +kernel
theorem dX3_keepersOfRows_6 : decode cX3_keepersOfRows 6 = .ok (.getfield 28, 3) := by decide +kernel
theorem dX3_keepersOfRows_9 : decode cX3_keepersOfRows 9 = .ok (.if_icmp .ge 18, 3) := by decide +kernel
theorem dX3_keepersOfRows_12 : decode cX3_keepersOfRows 12 = .ok (.iload_n 1, 1) := by decide +kernel
theorem dX3_keepersOfRows_13 : decode cX3_keepersOfRows 13 = .ok (.aload_n 0, 1) := by decide +kernel
theorem dX3_keepersOfRows_14 : decode cX3_keepersOfRows 14 = .ok (.getfield 25, 3) := by decide +kernel
theorem dX3_keepersOfRows_17 : decode cX3_keepersOfRows 17 = .ok (.iload_n 2, 1) := by decide +kernel
theorem dX3_keepersOfRows_18 : decode cX3_keepersOfRows 18 = .ok (.iaload, 1) := by decide +kernel
theorem dX3_keepersOfRows_19 : decode cX3_keepersOfRows 19 = .ok (.iadd, 1) := by decide +kernel
theorem dX3_keepersOfRows_20 : decode cX3_keepersOfRows 20 = .ok (.istore_n 1, 1) := by decide +kernel
theorem dX3_keepersOfRows_21 : decode cX3_keepersOfRows 21 = .ok (.iinc 2 1, 3) := by decide +kernel
theorem dX3_keepersOfRows_24 : decode cX3_keepersOfRows 24 = .ok (.goto (-20), 3) := by decide +kernel
theorem dX3_keepersOfRows_27 : decode cX3_keepersOfRows 27 = .ok (.iload_n 1, 1) := by decide +kernel
theorem dX3_keepersOfRows_28 : decode cX3_keepersOfRows 28 = .ok (.ireturn, 1) := by decide +kernel
theorem dX3_gatherRows_0 : decode cX3_gatherRows 0 = .ok (.iload_n 1, 1) := by decide +kernel
theorem dX3_gatherRows_1 : decode cX3_gatherRows 1 = .ok (.aload_n 0, 1) := by decide +kernel
theorem dX3_gatherRows_2 : decode cX3_gatherRows 2 = .ok (.invokevirtual 73, 3) := by decide +kernel
theorem dX3_gatherRows_5 : decode cX3_gatherRows 5 = .ok (.iadd, 1) := by decide +kernel
theorem dX3_gatherRows_6 : decode cX3_gatherRows 6 = .ok (.istore_n 2, 1) := by decide +kernel
theorem dX3_gatherRows_7 : decode cX3_gatherRows 7 = .ok (.iconst 1, 1) := by decide +kernel
theorem dX3_gatherRows_8 : decode cX3_gatherRows 8 = .ok (.istore_n 3, 1) := by decide +kernel
theorem dX3_gatherRows_9 : decode cX3_gatherRows 9 = .ok (.aload_n 0, 1) := by decide +kernel
theorem dX3_gatherRows_10 : decode cX3_gatherRows 10 = .ok (.getfield 18, 3) := by decide +kernel
theorem dX3_gatherRows_13 : decode cX3_gatherRows 13 = .ok (.iconst 0, 1) := by decide +kernel
theorem dX3_gatherRows_14 : decode cX3_gatherRows 14 = .ok (.iconst 0, 1) := by decide +kernel
theorem dX3_gatherRows_15 : decode cX3_gatherRows 15 = .ok (.iastore, 1) := by decide +kernel
theorem dX3_gatherRows_16 : decode cX3_gatherRows 16 = .ok (.aload_n 0, 1) := by decide +kernel
theorem dX3_gatherRows_17 : decode cX3_gatherRows 17 = .ok (.getfield 28, 3) := by decide +kernel
theorem dX3_gatherRows_20 : decode cX3_gatherRows 20 = .ok (.iconst 1, 1) := by decide +kernel
theorem dX3_gatherRows_21 : decode cX3_gatherRows 21 = .ok (.isub, 1) := by decide +kernel
theorem dX3_gatherRows_22 : decode cX3_gatherRows 22 = .ok (.istore 4, 2) := by decide +kernel
theorem dX3_gatherRows_24 : decode cX3_gatherRows 24 = .ok (.iload 4, 2) := by decide +kernel
theorem dX3_gatherRows_26 : decode cX3_gatherRows 26 = .ok (.ifCond .lt 79, 3) := by decide +kernel
theorem dX3_gatherRows_29 : decode cX3_gatherRows 29 = .ok (.aload_n 0, 1) := by decide +kernel
theorem dX3_gatherRows_30 : decode cX3_gatherRows 30 = .ok (.getfield 25, 3) := by decide +kernel
theorem dX3_gatherRows_33 : decode cX3_gatherRows 33 = .ok (.iload 4, 2) := by decide +kernel
theorem dX3_gatherRows_35 : decode cX3_gatherRows 35 = .ok (.iaload, 1) := by decide +kernel
theorem dX3_gatherRows_36 : decode cX3_gatherRows 36 = .ok (.istore 5, 2) := by decide +kernel
theorem dX3_gatherRows_38 : decode cX3_gatherRows 38 = .ok (.iload_n 2, 1) := by decide +kernel
theorem dX3_gatherRows_39 : decode cX3_gatherRows 39 = .ok (.iload 5, 2) := by decide +kernel
theorem dX3_gatherRows_41 : decode cX3_gatherRows 41 = .ok (.isub, 1) := by decide +kernel
theorem dX3_gatherRows_42 : decode cX3_gatherRows 42 = .ok (.istore_n 2, 1) := by decide +kernel
theorem dX3_gatherRows_43 : decode cX3_gatherRows 43 = .ok (.iconst 1, 1) := by decide +kernel
theorem dX3_gatherRows_44 : decode cX3_gatherRows 44 = .ok (.iload 5, 2) := by decide +kernel
theorem dX3_gatherRows_46 : decode cX3_gatherRows 46 = .ok (.ishl, 1) := by decide +kernel
theorem dX3_gatherRows_47 : decode cX3_gatherRows 47 = .ok (.iconst 1, 1) := by decide +kernel
theorem dX3_gatherRows_48 : decode cX3_gatherRows 48 = .ok (.isub, 1) := by decide +kernel
theorem dX3_gatherRows_49 : decode cX3_gatherRows 49 = .ok (.iload_n 2, 1) := by decide +kernel
theorem dX3_gatherRows_50 : decode cX3_gatherRows 50 = .ok (.ishl, 1) := by decide +kernel
theorem dX3_gatherRows_51 : decode cX3_gatherRows 51 = .ok (.istore 6, 2) := by decide +kernel
theorem dX3_gatherRows_53 : decode cX3_gatherRows 53 = .ok (.iconst 0, 1) := by decide +kernel
theorem dX3_gatherRows_54 : decode cX3_gatherRows 54 = .ok (.istore 7, 2) := by decide +kernel
theorem dX3_gatherRows_56 : decode cX3_gatherRows 56 = .ok (.iload 7, 2) := by decide +kernel
theorem dX3_gatherRows_58 : decode cX3_gatherRows 58 = .ok (.iload_n 3, 1) := by decide +kernel
theorem dX3_gatherRows_59 : decode cX3_gatherRows 59 = .ok (.if_icmp .ge 26, 3) := by decide +kernel
theorem dX3_gatherRows_62 : decode cX3_gatherRows 62 = .ok (.aload_n 0, 1) := by decide +kernel
theorem dX3_gatherRows_63 : decode cX3_gatherRows 63 = .ok (.getfield 12, 3) := by decide +kernel
theorem dX3_gatherRows_66 : decode cX3_gatherRows 66 = .ok (.iload 6, 2) := by decide +kernel
theorem dX3_gatherRows_68 : decode cX3_gatherRows 68 = .ok (.aload_n 0, 1) := by decide +kernel
theorem dX3_gatherRows_69 : decode cX3_gatherRows 69 = .ok (.getfield 18, 3) := by decide +kernel
theorem dX3_gatherRows_72 : decode cX3_gatherRows 72 = .ok (.iload 7, 2) := by decide +kernel
theorem dX3_gatherRows_74 : decode cX3_gatherRows 74 = .ok (.iaload, 1) := by decide +kernel
theorem dX3_gatherRows_75 : decode cX3_gatherRows 75 = .ok (.ior, 1) := by decide +kernel
theorem dX3_gatherRows_76 : decode cX3_gatherRows 76 = .ok (.invokevirtual 70, 3) := by decide +kernel
theorem dX3_gatherRows_79 : decode cX3_gatherRows 79 = .ok (.iinc 7 1, 3) := by decide +kernel
theorem dX3_gatherRows_82 : decode cX3_gatherRows 82 = .ok (.goto (-26), 3) := by decide +kernel
theorem dX3_gatherRows_85 : decode cX3_gatherRows 85 = .ok (.iload 4, 2) := by decide +kernel
theorem dX3_gatherRows_87 : decode cX3_gatherRows 87 = .ok (.ifCond .le 12, 3) := by decide +kernel
theorem dX3_gatherRows_90 : decode cX3_gatherRows 90 = .ok (.aload_n 0, 1) := by decide +kernel
theorem dX3_gatherRows_91 : decode cX3_gatherRows 91 = .ok (.iload_n 3, 1) := by decide +kernel
theorem dX3_gatherRows_92 : decode cX3_gatherRows 92 = .ok (.iload_n 2, 1) := by decide +kernel
theorem dX3_gatherRows_93 : decode cX3_gatherRows 93 = .ok (.iload 5, 2) := by decide +kernel
theorem dX3_gatherRows_95 : decode cX3_gatherRows 95 = .ok (.invokevirtual 77, 3) := by decide +kernel
theorem dX3_gatherRows_98 : decode cX3_gatherRows 98 = .ok (.istore_n 3, 1) := by decide +kernel
theorem dX3_gatherRows_99 : decode cX3_gatherRows 99 = .ok (.iinc 4 (-1), 3) := by decide +kernel
theorem dX3_gatherRows_102 : decode cX3_gatherRows 102 = .ok (.goto (-78), 3) := by decide +kernel
theorem dX3_gatherRows_105 : decode cX3_gatherRows 105 = .ok (.return_, 1) := by decide +kernel
theorem dX3_chooseOne_0 : decode cX3_chooseOne 0 = .ok (.iload_n 1, 1) := by decide +kernel
theorem dX3_chooseOne_1 : decode cX3_chooseOne 1 = .ok (.iload_n 3, 1) := by decide +kernel
theorem dX3_chooseOne_2 : decode cX3_chooseOne 2 = .ok (.imul, 1) := by decide +kernel
theorem dX3_chooseOne_3 : decode cX3_chooseOne 3 = .ok (.istore 4, 2) := by decide +kernel
theorem dX3_chooseOne_5 : decode cX3_chooseOne 5 = .ok (.iload_n 1, 1) := by decide +kernel
theorem dX3_chooseOne_6 : decode cX3_chooseOne 6 = .ok (.ifCond .lt 15, 3) := by decide +kernel
theorem dX3_chooseOne_9 : decode cX3_chooseOne 9 = .ok (.iload_n 3, 1) := by decide +kernel
theorem dX3_chooseOne_10 : decode cX3_chooseOne 10 = .ok (.ifCond .le 11, 3) := by decide +kernel
theorem dX3_chooseOne_13 : decode cX3_chooseOne 13 = .ok (.iload 4, 2) := by decide +kernel
theorem dX3_chooseOne_15 : decode cX3_chooseOne 15 = .ok (.sipush 320, 3) := by decide +kernel
theorem dX3_chooseOne_18 : decode cX3_chooseOne 18 = .ok (.if_icmp .le 5, 3) := by decide +kernel
theorem dX3_chooseOne_21 : decode cX3_chooseOne 21 = .ok (.iload_n 1, 1) := by decide +kernel
theorem dX3_chooseOne_22 : decode cX3_chooseOne 22 = .ok (.ireturn, 1) := by decide +kernel
theorem dX3_chooseOne_23 : decode cX3_chooseOne 23 = .ok (.iload 4, 2) := by decide +kernel
theorem dX3_chooseOne_25 : decode cX3_chooseOne 25 = .ok (.iconst 1, 1) := by decide +kernel
theorem dX3_chooseOne_26 : decode cX3_chooseOne 26 = .ok (.isub, 1) := by decide +kernel
theorem dX3_chooseOne_27 : decode cX3_chooseOne 27 = .ok (.istore 5, 2) := by decide +kernel
theorem dX3_chooseOne_29 : decode cX3_chooseOne 29 = .ok (.iload 5, 2) := by decide +kernel
theorem dX3_chooseOne_31 : decode cX3_chooseOne 31 = .ok (.ifCond .lt 34, 3) := by decide +kernel
theorem dX3_chooseOne_34 : decode cX3_chooseOne 34 = .ok (.aload_n 0, 1) := by decide +kernel
theorem dX3_chooseOne_35 : decode cX3_chooseOne 35 = .ok (.getfield 18, 3) := by decide +kernel
theorem dX3_chooseOne_38 : decode cX3_chooseOne 38 = .ok (.iload 5, 2) := by decide +kernel
theorem dX3_chooseOne_40 : decode cX3_chooseOne 40 = .ok (.aload_n 0, 1) := by decide +kernel
theorem dX3_chooseOne_41 : decode cX3_chooseOne 41 = .ok (.getfield 18, 3) := by decide +kernel
theorem dX3_chooseOne_44 : decode cX3_chooseOne 44 = .ok (.iload 5, 2) := by decide +kernel
theorem dX3_chooseOne_46 : decode cX3_chooseOne 46 = .ok (.iload_n 3, 1) := by decide +kernel
theorem dX3_chooseOne_47 : decode cX3_chooseOne 47 = .ok (.idiv, 1) := by decide +kernel
theorem dX3_chooseOne_48 : decode cX3_chooseOne 48 = .ok (.iaload, 1) := by decide +kernel
theorem dX3_chooseOne_49 : decode cX3_chooseOne 49 = .ok (.iconst 1, 1) := by decide +kernel
theorem dX3_chooseOne_50 : decode cX3_chooseOne 50 = .ok (.iload_n 2, 1) := by decide +kernel
theorem dX3_chooseOne_51 : decode cX3_chooseOne 51 = .ok (.iload 5, 2) := by decide +kernel
theorem dX3_chooseOne_53 : decode cX3_chooseOne 53 = .ok (.iload_n 3, 1) := by decide +kernel
theorem dX3_chooseOne_54 : decode cX3_chooseOne 54 = .ok (.irem, 1) := by decide +kernel
theorem dX3_chooseOne_55 : decode cX3_chooseOne 55 = .ok (.iadd, 1) := by decide +kernel
theorem dX3_chooseOne_56 : decode cX3_chooseOne 56 = .ok (.ishl, 1) := by decide +kernel
theorem dX3_chooseOne_57 : decode cX3_chooseOne 57 = .ok (.ior, 1) := by decide +kernel
theorem dX3_chooseOne_58 : decode cX3_chooseOne 58 = .ok (.iastore, 1) := by decide +kernel
theorem dX3_chooseOne_59 : decode cX3_chooseOne 59 = .ok (.iinc 5 (-1), 3) := by decide +kernel
theorem dX3_chooseOne_62 : decode cX3_chooseOne 62 = .ok (.goto (-33), 3) := by decide +kernel
theorem dX3_chooseOne_65 : decode cX3_chooseOne 65 = .ok (.iload 4, 2) := by decide +kernel
theorem dX3_chooseOne_67 : decode cX3_chooseOne 67 = .ok (.ireturn, 1) := by decide +kernel
theorem dX3_gatherTree_0 : decode cX3_gatherTree 0 = .ok (.iconst 0, 1) := by decide +kernel
theorem dX3_gatherTree_1 : decode cX3_gatherTree 1 = .ok (.istore_n 3, 1) := by decide +kernel
theorem dX3_gatherTree_2 : decode cX3_gatherTree 2 = .ok (.iload_n 1, 1) := by decide +kernel
theorem dX3_gatherTree_3 : decode cX3_gatherTree 3 = .ok (.bipush 15, 2) := by decide +kernel
theorem dX3_gatherTree_5 : decode cX3_gatherTree 5 = .ok (.invokestatic 81, 3) := by decide +kernel
theorem dX3_gatherTree_8 : decode cX3_gatherTree 8 = .ok (.istore 4, 2) := by decide +kernel
theorem dX3_gatherTree_10 : decode cX3_gatherTree 10 = .ok (.iload 4, 2) := by decide +kernel
theorem dX3_gatherTree_12 : decode cX3_gatherTree 12 = .ok (.iconst 1, 1) := by decide +kernel
theorem dX3_gatherTree_13 : decode cX3_gatherTree 13 = .ok (.if_icmp .lt 56, 3) := by decide +kernel
theorem dX3_gatherTree_16 : decode cX3_gatherTree 16 = .ok (.aload_n 0, 1) := by decide +kernel
theorem dX3_gatherTree_17 : decode cX3_gatherTree 17 = .ok (.getfield 22, 3) := by decide +kernel
theorem dX3_gatherTree_20 : decode cX3_gatherTree 20 = .ok (.iload 4, 2) := by decide +kernel
theorem dX3_gatherTree_22 : decode cX3_gatherTree 22 = .ok (.iload_n 3, 1) := by decide +kernel
theorem dX3_gatherTree_23 : decode cX3_gatherTree 23 = .ok (.iastore, 1) := by decide +kernel
theorem dX3_gatherTree_24 : decode cX3_gatherTree 24 = .ok (.iconst 1, 1) := by decide +kernel
theorem dX3_gatherTree_25 : decode cX3_gatherTree 25 = .ok (.iload_n 2, 1) := by decide +kernel
theorem dX3_gatherTree_26 : decode cX3_gatherTree 26 = .ok (.iload 4, 2) := by decide +kernel
theorem dX3_gatherTree_28 : decode cX3_gatherTree 28 = .ok (.iadd, 1) := by decide +kernel
theorem dX3_gatherTree_29 : decode cX3_gatherTree 29 = .ok (.iconst 1, 1) := by decide +kernel
theorem dX3_gatherTree_30 : decode cX3_gatherTree 30 = .ok (.isub, 1) := by decide +kernel
theorem dX3_gatherTree_31 : decode cX3_gatherTree 31 = .ok (.ishl, 1) := by decide +kernel
theorem dX3_gatherTree_32 : decode cX3_gatherTree 32 = .ok (.istore 5, 2) := by decide +kernel
theorem dX3_gatherTree_34 : decode cX3_gatherTree 34 = .ok (.iconst 2, 1) := by decide +kernel
theorem dX3_gatherTree_35 : decode cX3_gatherTree 35 = .ok (.iload 4, 2) := by decide +kernel
theorem dX3_gatherTree_37 : decode cX3_gatherTree 37 = .ok (.imul, 1) := by decide +kernel
theorem dX3_gatherTree_38 : decode cX3_gatherTree 38 = .ok (.iload_n 1, 1) := by decide +kernel
theorem dX3_gatherTree_39 : decode cX3_gatherTree 39 = .ok (.if_icmp .le 14, 3) := by decide +kernel
theorem dX3_gatherTree_42 : decode cX3_gatherTree 42 = .ok (.aload_n 0, 1) := by decide +kernel
theorem dX3_gatherTree_43 : decode cX3_gatherTree 43 = .ok (.iload_n 3, 1) := by decide +kernel
theorem dX3_gatherTree_44 : decode cX3_gatherTree 44 = .ok (.iload 5, 2) := by decide +kernel
theorem dX3_gatherTree_46 : decode cX3_gatherTree 46 = .ok (.invokevirtual 87, 3) := by decide +kernel
theorem dX3_gatherTree_49 : decode cX3_gatherTree 49 = .ok (.istore_n 3, 1) := by decide +kernel
theorem dX3_gatherTree_50 : decode cX3_gatherTree 50 = .ok (.goto 13, 3) := by decide +kernel
theorem dX3_gatherTree_53 : decode cX3_gatherTree 53 = .ok (.aload_n 0, 1) := by decide +kernel
theorem dX3_gatherTree_54 : decode cX3_gatherTree 54 = .ok (.iload 4, 2) := by decide +kernel
theorem dX3_gatherTree_56 : decode cX3_gatherTree 56 = .ok (.iload 5, 2) := by decide +kernel
theorem dX3_gatherTree_58 : decode cX3_gatherTree 58 = .ok (.iload_n 3, 1) := by decide +kernel
theorem dX3_gatherTree_59 : decode cX3_gatherTree 59 = .ok (.invokevirtual 90, 3) := by decide +kernel
theorem dX3_gatherTree_62 : decode cX3_gatherTree 62 = .ok (.istore_n 3, 1) := by decide +kernel
theorem dX3_gatherTree_63 : decode cX3_gatherTree 63 = .ok (.iinc 4 (-1), 3) := by decide +kernel
theorem dX3_gatherTree_66 : decode cX3_gatherTree 66 = .ok (.goto (-56), 3) := by decide +kernel
theorem dX3_gatherTree_69 : decode cX3_gatherTree 69 = .ok (.aload_n 0, 1) := by decide +kernel
theorem dX3_gatherTree_70 : decode cX3_gatherTree 70 = .ok (.getfield 22, 3) := by decide +kernel
theorem dX3_gatherTree_73 : decode cX3_gatherTree 73 = .ok (.iconst 1, 1) := by decide +kernel
theorem dX3_gatherTree_74 : decode cX3_gatherTree 74 = .ok (.iaload, 1) := by decide +kernel
theorem dX3_gatherTree_75 : decode cX3_gatherTree 75 = .ok (.istore 4, 2) := by decide +kernel
theorem dX3_gatherTree_77 : decode cX3_gatherTree 77 = .ok (.iload 4, 2) := by decide +kernel
theorem dX3_gatherTree_79 : decode cX3_gatherTree 79 = .ok (.ifCond .lt 37, 3) := by decide +kernel
theorem dX3_gatherTree_82 : decode cX3_gatherTree 82 = .ok (.iload 4, 2) := by decide +kernel
theorem dX3_gatherTree_84 : decode cX3_gatherTree 84 = .ok (.iload_n 3, 1) := by decide +kernel
theorem dX3_gatherTree_85 : decode cX3_gatherTree 85 = .ok (.if_icmp .ge 31, 3) := by decide +kernel
theorem dX3_gatherTree_88 : decode cX3_gatherTree 88 = .ok (.iload 4, 2) := by decide +kernel
theorem dX3_gatherTree_90 : decode cX3_gatherTree 90 = .ok (.sipush 320, 3) := by decide +kernel
theorem dX3_gatherTree_93 : decode cX3_gatherTree 93 = .ok (.if_icmp .ge 23, 3) := by decide +kernel
theorem dX3_gatherTree_96 : decode cX3_gatherTree 96 = .ok (.aload_n 0, 1) := by decide +kernel
theorem dX3_gatherTree_97 : decode cX3_gatherTree 97 = .ok (.getfield 12, 3) := by decide +kernel
theorem dX3_gatherTree_100 : decode cX3_gatherTree 100 = .ok (.aload_n 0, 1) := by decide +kernel
theorem dX3_gatherTree_101 : decode cX3_gatherTree 101 = .ok (.getfield 18, 3) := by decide +kernel
theorem dX3_gatherTree_104 : decode cX3_gatherTree 104 = .ok (.iload 4, 2) := by decide +kernel
theorem dX3_gatherTree_106 : decode cX3_gatherTree 106 = .ok (.iaload, 1) := by decide +kernel
theorem dX3_gatherTree_107 : decode cX3_gatherTree 107 = .ok (.invokevirtual 70, 3) := by decide +kernel
theorem dX3_gatherTree_110 : decode cX3_gatherTree 110 = .ok (.iinc 4 1, 3) := by decide +kernel
theorem dX3_gatherTree_113 : decode cX3_gatherTree 113 = .ok (.goto (-36), 3) := by decide +kernel
theorem dX3_gatherTree_116 : decode cX3_gatherTree 116 = .ok (.return_, 1) := by decide +kernel
theorem dX3_addNode_0 : decode cX3_addNode 0 = .ok (.iload_n 3, 1) := by decide +kernel
theorem dX3_addNode_1 : decode cX3_addNode 1 = .ok (.istore 4, 2) := by decide +kernel
theorem dX3_addNode_3 : decode cX3_addNode 3 = .ok (.iconst 2, 1) := by decide +kernel
theorem dX3_addNode_4 : decode cX3_addNode 4 = .ok (.iload_n 1, 1) := by decide +kernel
theorem dX3_addNode_5 : decode cX3_addNode 5 = .ok (.imul, 1) := by decide +kernel
theorem dX3_addNode_6 : decode cX3_addNode 6 = .ok (.iconst 1, 1) := by decide +kernel
theorem dX3_addNode_7 : decode cX3_addNode 7 = .ok (.iadd, 1) := by decide +kernel
theorem dX3_addNode_8 : decode cX3_addNode 8 = .ok (.istore 5, 2) := by decide +kernel
theorem dX3_addNode_10 : decode cX3_addNode 10 = .ok (.iload_n 1, 1) := by decide +kernel
theorem dX3_addNode_11 : decode cX3_addNode 11 = .ok (.iconst 1, 1) := by decide +kernel
theorem dX3_addNode_12 : decode cX3_addNode 12 = .ok (.if_icmp .lt 10, 3) := by decide +kernel
theorem dX3_addNode_15 : decode cX3_addNode 15 = .ok (.iload 5, 2) := by decide +kernel
theorem dX3_addNode_17 : decode cX3_addNode 17 = .ok (.bipush 16, 2) := by decide +kernel
theorem dX3_addNode_19 : decode cX3_addNode 19 = .ok (.if_icmp .lt 6, 3) := by decide +kernel
theorem dX3_addNode_22 : decode cX3_addNode 22 = .ok (.iload 4, 2) := by decide +kernel
theorem dX3_addNode_24 : decode cX3_addNode 24 = .ok (.ireturn, 1) := by decide +kernel
theorem dX3_addNode_25 : decode cX3_addNode 25 = .ok (.aload_n 0, 1) := by decide +kernel
theorem dX3_addNode_26 : decode cX3_addNode 26 = .ok (.getfield 22, 3) := by decide +kernel
theorem dX3_addNode_29 : decode cX3_addNode 29 = .ok (.iload 5, 2) := by decide +kernel
theorem dX3_addNode_31 : decode cX3_addNode 31 = .ok (.iaload, 1) := by decide +kernel
theorem dX3_addNode_32 : decode cX3_addNode 32 = .ok (.istore 6, 2) := by decide +kernel
theorem dX3_addNode_34 : decode cX3_addNode 34 = .ok (.aload_n 0, 1) := by decide +kernel
theorem dX3_addNode_35 : decode cX3_addNode 35 = .ok (.getfield 22, 3) := by decide +kernel
theorem dX3_addNode_38 : decode cX3_addNode 38 = .ok (.iload 5, 2) := by decide +kernel
theorem dX3_addNode_40 : decode cX3_addNode 40 = .ok (.iconst 1, 1) := by decide +kernel
theorem dX3_addNode_41 : decode cX3_addNode 41 = .ok (.isub, 1) := by decide +kernel
theorem dX3_addNode_42 : decode cX3_addNode 42 = .ok (.iaload, 1) := by decide +kernel
theorem dX3_addNode_43 : decode cX3_addNode 43 = .ok (.istore 7, 2) := by decide +kernel
theorem dX3_addNode_45 : decode cX3_addNode 45 = .ok (.aload_n 0, 1) := by decide +kernel
theorem dX3_addNode_46 : decode cX3_addNode 46 = .ok (.getfield 22, 3) := by decide +kernel
theorem dX3_addNode_49 : decode cX3_addNode 49 = .ok (.iload 5, 2) := by decide +kernel
theorem dX3_addNode_51 : decode cX3_addNode 51 = .ok (.iconst 2, 1) := by decide +kernel
theorem dX3_addNode_52 : decode cX3_addNode 52 = .ok (.isub, 1) := by decide +kernel
theorem dX3_addNode_53 : decode cX3_addNode 53 = .ok (.iaload, 1) := by decide +kernel
theorem dX3_addNode_54 : decode cX3_addNode 54 = .ok (.istore 8, 2) := by decide +kernel
theorem dX3_addNode_56 : decode cX3_addNode 56 = .ok (.iload 6, 2) := by decide +kernel
theorem dX3_addNode_58 : decode cX3_addNode 58 = .ok (.istore 9, 2) := by decide +kernel
theorem dX3_addNode_60 : decode cX3_addNode 60 = .ok (.iload 9, 2) := by decide +kernel
theorem dX3_addNode_62 : decode cX3_addNode 62 = .ok (.ifCond .lt 41, 3) := by decide +kernel
theorem dX3_addNode_65 : decode cX3_addNode 65 = .ok (.iload 9, 2) := by decide +kernel
theorem dX3_addNode_67 : decode cX3_addNode 67 = .ok (.iload 8, 2) := by decide +kernel
theorem dX3_addNode_69 : decode cX3_addNode 69 = .ok (.if_icmp .ge 34, 3) := by decide +kernel
theorem dX3_addNode_72 : decode cX3_addNode 72 = .ok (.iload 9, 2) := by decide +kernel
theorem dX3_addNode_74 : decode cX3_addNode 74 = .ok (.sipush 320, 3) := by decide +kernel
theorem dX3_addNode_77 : decode cX3_addNode 77 = .ok (.if_icmp .ge 26, 3) := by decide +kernel
theorem dX3_addNode_80 : decode cX3_addNode 80 = .ok (.aload_n 0, 1) := by decide +kernel
theorem dX3_addNode_81 : decode cX3_addNode 81 = .ok (.iload 4, 2) := by decide +kernel
theorem dX3_addNode_83 : decode cX3_addNode 83 = .ok (.iload_n 2, 1) := by decide +kernel
theorem dX3_addNode_84 : decode cX3_addNode 84 = .ok (.aload_n 0, 1) := by decide +kernel
theorem dX3_addNode_85 : decode cX3_addNode 85 = .ok (.getfield 18, 3) := by decide +kernel
theorem dX3_addNode_88 : decode cX3_addNode 88 = .ok (.iload 9, 2) := by decide +kernel
theorem dX3_addNode_90 : decode cX3_addNode 90 = .ok (.iaload, 1) := by decide +kernel
theorem dX3_addNode_91 : decode cX3_addNode 91 = .ok (.ior, 1) := by decide +kernel
theorem dX3_addNode_92 : decode cX3_addNode 92 = .ok (.invokevirtual 87, 3) := by decide +kernel
theorem dX3_addNode_95 : decode cX3_addNode 95 = .ok (.istore 4, 2) := by decide +kernel
theorem dX3_addNode_97 : decode cX3_addNode 97 = .ok (.iinc 9 1, 3) := by decide +kernel
theorem dX3_addNode_100 : decode cX3_addNode 100 = .ok (.goto (-40), 3) := by decide +kernel
theorem dX3_addNode_103 : decode cX3_addNode 103 = .ok (.iload 7, 2) := by decide +kernel
theorem dX3_addNode_105 : decode cX3_addNode 105 = .ok (.istore 9, 2) := by decide +kernel
theorem dX3_addNode_107 : decode cX3_addNode 107 = .ok (.iload 9, 2) := by decide +kernel
theorem dX3_addNode_109 : decode cX3_addNode 109 = .ok (.ifCond .lt 77, 3) := by decide +kernel
theorem dX3_addNode_112 : decode cX3_addNode 112 = .ok (.iload 9, 2) := by decide +kernel
theorem dX3_addNode_114 : decode cX3_addNode 114 = .ok (.iload 8, 2) := by decide +kernel
theorem dX3_addNode_116 : decode cX3_addNode 116 = .ok (.if_icmp .ge 70, 3) := by decide +kernel
theorem dX3_addNode_119 : decode cX3_addNode 119 = .ok (.iload 9, 2) := by decide +kernel
theorem dX3_addNode_121 : decode cX3_addNode 121 = .ok (.sipush 320, 3) := by decide +kernel
theorem dX3_addNode_124 : decode cX3_addNode 124 = .ok (.if_icmp .ge 62, 3) := by decide +kernel
theorem dX3_addNode_127 : decode cX3_addNode 127 = .ok (.iload 6, 2) := by decide +kernel
theorem dX3_addNode_129 : decode cX3_addNode 129 = .ok (.istore 10, 2) := by decide +kernel
theorem dX3_addNode_131 : decode cX3_addNode 131 = .ok (.iload 10, 2) := by decide +kernel
theorem dX3_addNode_133 : decode cX3_addNode 133 = .ok (.ifCond .lt 47, 3) := by decide +kernel
theorem dX3_addNode_136 : decode cX3_addNode 136 = .ok (.iload 10, 2) := by decide +kernel
theorem dX3_addNode_138 : decode cX3_addNode 138 = .ok (.iload 7, 2) := by decide +kernel
theorem dX3_addNode_140 : decode cX3_addNode 140 = .ok (.if_icmp .ge 40, 3) := by decide +kernel
theorem dX3_addNode_143 : decode cX3_addNode 143 = .ok (.iload 10, 2) := by decide +kernel
theorem dX3_addNode_145 : decode cX3_addNode 145 = .ok (.sipush 320, 3) := by decide +kernel
theorem dX3_addNode_148 : decode cX3_addNode 148 = .ok (.if_icmp .ge 32, 3) := by decide +kernel
theorem dX3_addNode_151 : decode cX3_addNode 151 = .ok (.aload_n 0, 1) := by decide +kernel
theorem dX3_addNode_152 : decode cX3_addNode 152 = .ok (.iload 4, 2) := by decide +kernel
theorem dX3_addNode_154 : decode cX3_addNode 154 = .ok (.aload_n 0, 1) := by decide +kernel
theorem dX3_addNode_155 : decode cX3_addNode 155 = .ok (.getfield 18, 3) := by decide +kernel
theorem dX3_addNode_158 : decode cX3_addNode 158 = .ok (.iload 9, 2) := by decide +kernel
theorem dX3_addNode_160 : decode cX3_addNode 160 = .ok (.iaload, 1) := by decide +kernel
theorem dX3_addNode_161 : decode cX3_addNode 161 = .ok (.aload_n 0, 1) := by decide +kernel
theorem dX3_addNode_162 : decode cX3_addNode 162 = .ok (.getfield 18, 3) := by decide +kernel
theorem dX3_addNode_165 : decode cX3_addNode 165 = .ok (.iload 10, 2) := by decide +kernel
theorem dX3_addNode_167 : decode cX3_addNode 167 = .ok (.iaload, 1) := by decide +kernel
theorem dX3_addNode_168 : decode cX3_addNode 168 = .ok (.ior, 1) := by decide +kernel
theorem dX3_addNode_169 : decode cX3_addNode 169 = .ok (.invokevirtual 87, 3) := by decide +kernel
theorem dX3_addNode_172 : decode cX3_addNode 172 = .ok (.istore 4, 2) := by decide +kernel
theorem dX3_addNode_174 : decode cX3_addNode 174 = .ok (.iinc 10 1, 3) := by decide +kernel
theorem dX3_addNode_177 : decode cX3_addNode 177 = .ok (.goto (-46), 3) := by decide +kernel
theorem dX3_addNode_180 : decode cX3_addNode 180 = .ok (.iinc 9 1, 3) := by decide +kernel
theorem dX3_addNode_183 : decode cX3_addNode 183 = .ok (.goto (-76), 3) := by decide +kernel
theorem dX3_addNode_186 : decode cX3_addNode 186 = .ok (.iload 4, 2) := by decide +kernel
theorem dX3_addNode_188 : decode cX3_addNode 188 = .ok (.ireturn, 1) := by decide +kernel
theorem dX3_addWay_0 : decode cX3_addWay 0 = .ok (.iload_n 1, 1) := by decide +kernel
theorem dX3_addWay_1 : decode cX3_addWay 1 = .ok (.ifCond .lt 10, 3) := by decide +kernel
theorem dX3_addWay_4 : decode cX3_addWay 4 = .ok (.iload_n 1, 1) := by decide +kernel
theorem dX3_addWay_5 : decode cX3_addWay 5 = .ok (.sipush 320, 3) := by decide +kernel
theorem dX3_addWay_8 : decode cX3_addWay 8 = .ok (.if_icmp .lt 5, 3) := by decide +kernel
theorem dX3_addWay_11 : decode cX3_addWay 11 = .ok (.iload_n 1, 1) := by decide +kernel
theorem dX3_addWay_12 : decode cX3_addWay 12 = .ok (.ireturn, 1) := by decide +kernel
theorem dX3_addWay_13 : decode cX3_addWay 13 = .ok (.aload_n 0, 1) := by decide +kernel
theorem dX3_addWay_14 : decode cX3_addWay 14 = .ok (.getfield 18, 3) := by decide +kernel
theorem dX3_addWay_17 : decode cX3_addWay 17 = .ok (.iload_n 1, 1) := by decide +kernel
theorem dX3_addWay_18 : decode cX3_addWay 18 = .ok (.iload_n 2, 1) := by decide +kernel
theorem dX3_addWay_19 : decode cX3_addWay 19 = .ok (.iastore, 1) := by decide +kernel
theorem dX3_addWay_20 : decode cX3_addWay 20 = .ok (.iload_n 1, 1) := by decide +kernel
theorem dX3_addWay_21 : decode cX3_addWay 21 = .ok (.iconst 1, 1) := by decide +kernel
theorem dX3_addWay_22 : decode cX3_addWay 22 = .ok (.iadd, 1) := by decide +kernel
theorem dX3_addWay_23 : decode cX3_addWay 23 = .ok (.ireturn, 1) := by decide +kernel
theorem dX3_gatherPlane_0 : decode cX3_gatherPlane 0 = .ok (.iconst 0, 1) := by decide +kernel
theorem dX3_gatherPlane_1 : decode cX3_gatherPlane 1 = .ok (.istore_n 3, 1) := by decide +kernel
theorem dX3_gatherPlane_2 : decode cX3_gatherPlane 2 = .ok (.iload_n 3, 1) := by decide +kernel
theorem dX3_gatherPlane_3 : decode cX3_gatherPlane 3 = .ok (.iload_n 1, 1) := by decide +kernel
theorem dX3_gatherPlane_4 : decode cX3_gatherPlane 4 = .ok (.if_icmp .ge 62, 3) := by decide +kernel
theorem dX3_gatherPlane_7 : decode cX3_gatherPlane 7 = .ok (.iload_n 3, 1) := by decide +kernel
theorem dX3_gatherPlane_8 : decode cX3_gatherPlane 8 = .ok (.iload_n 1, 1) := by decide +kernel
theorem dX3_gatherPlane_9 : decode cX3_gatherPlane 9 = .ok (.invokestatic 93, 3) := by decide +kernel
theorem dX3_gatherPlane_12 : decode cX3_gatherPlane 12 = .ok (.iload_n 3, 1) := by decide +kernel
theorem dX3_gatherPlane_13 : decode cX3_gatherPlane 13 = .ok (.iconst 1, 1) := by decide +kernel
theorem dX3_gatherPlane_14 : decode cX3_gatherPlane 14 = .ok (.iadd, 1) := by decide +kernel
theorem dX3_gatherPlane_15 : decode cX3_gatherPlane 15 = .ok (.iload_n 1, 1) := by decide +kernel
theorem dX3_gatherPlane_16 : decode cX3_gatherPlane 16 = .ok (.invokestatic 93, 3) := by decide +kernel
theorem dX3_gatherPlane_19 : decode cX3_gatherPlane 19 = .ok (.ior, 1) := by decide +kernel
theorem dX3_gatherPlane_20 : decode cX3_gatherPlane 20 = .ok (.iload_n 3, 1) := by decide +kernel
theorem dX3_gatherPlane_21 : decode cX3_gatherPlane 21 = .ok (.iconst 3, 1) := by decide +kernel
theorem dX3_gatherPlane_22 : decode cX3_gatherPlane 22 = .ok (.iadd, 1) := by decide +kernel
theorem dX3_gatherPlane_23 : decode cX3_gatherPlane 23 = .ok (.iload_n 1, 1) := by decide +kernel
theorem dX3_gatherPlane_24 : decode cX3_gatherPlane 24 = .ok (.invokestatic 93, 3) := by decide +kernel
theorem dX3_gatherPlane_27 : decode cX3_gatherPlane 27 = .ok (.ior, 1) := by decide +kernel
theorem dX3_gatherPlane_28 : decode cX3_gatherPlane 28 = .ok (.istore 4, 2) := by decide +kernel
theorem dX3_gatherPlane_30 : decode cX3_gatherPlane 30 = .ok (.iload_n 1, 1) := by decide +kernel
theorem dX3_gatherPlane_31 : decode cX3_gatherPlane 31 = .ok (.bipush 13, 2) := by decide +kernel
theorem dX3_gatherPlane_33 : decode cX3_gatherPlane 33 = .ok (.if_icmp .ne 16, 3) := by decide +kernel
theorem dX3_gatherPlane_36 : decode cX3_gatherPlane 36 = .ok (.iload 4, 2) := by decide +kernel
theorem dX3_gatherPlane_38 : decode cX3_gatherPlane 38 = .ok (.iload_n 3, 1) := by decide +kernel
theorem dX3_gatherPlane_39 : decode cX3_gatherPlane 39 = .ok (.bipush 9, 2) := by decide +kernel
theorem dX3_gatherPlane_41 : decode cX3_gatherPlane 41 = .ok (.iadd, 1) := by decide +kernel
theorem dX3_gatherPlane_42 : decode cX3_gatherPlane 42 = .ok (.iload_n 1, 1) := by decide +kernel
theorem dX3_gatherPlane_43 : decode cX3_gatherPlane 43 = .ok (.invokestatic 93, 3) := by decide +kernel
theorem dX3_gatherPlane_46 : decode cX3_gatherPlane 46 = .ok (.ior, 1) := by decide +kernel
theorem dX3_gatherPlane_47 : decode cX3_gatherPlane 47 = .ok (.istore 4, 2) := by decide +kernel
theorem dX3_gatherPlane_49 : decode cX3_gatherPlane 49 = .ok (.aload_n 0, 1) := by decide +kernel
theorem dX3_gatherPlane_50 : decode cX3_gatherPlane 50 = .ok (.getfield 12, 3) := by decide +kernel
theorem dX3_gatherPlane_53 : decode cX3_gatherPlane 53 = .ok (.iload 4, 2) := by decide +kernel
theorem dX3_gatherPlane_55 : decode cX3_gatherPlane 55 = .ok (.iload_n 2, 1) := by decide +kernel
theorem dX3_gatherPlane_56 : decode cX3_gatherPlane 56 = .ok (.ishl, 1) := by decide +kernel
theorem dX3_gatherPlane_57 : decode cX3_gatherPlane 57 = .ok (.invokevirtual 70, 3) := by decide +kernel
theorem dX3_gatherPlane_60 : decode cX3_gatherPlane 60 = .ok (.iinc 3 1, 3) := by decide +kernel
theorem dX3_gatherPlane_63 : decode cX3_gatherPlane 63 = .ok (.goto (-61), 3) := by decide +kernel
theorem dX3_gatherPlane_66 : decode cX3_gatherPlane 66 = .ok (.return_, 1) := by decide +kernel
theorem dX3_point_0 : decode cX3_point 0 = .ok (.iconst 1, 1) := by decide +kernel
theorem dX3_point_1 : decode cX3_point 1 = .ok (.iload_n 0, 1) := by decide +kernel
theorem dX3_point_2 : decode cX3_point 2 = .ok (.iload_n 1, 1) := by decide +kernel
theorem dX3_point_3 : decode cX3_point 3 = .ok (.if_icmp .ge 7, 3) := by decide +kernel
theorem dX3_point_6 : decode cX3_point 6 = .ok (.iload_n 0, 1) := by decide +kernel
theorem dX3_point_7 : decode cX3_point 7 = .ok (.goto 6, 3) := by decide +kernel
theorem dX3_point_10 : decode cX3_point 10 = .ok (.iload_n 0, 1) := by decide +kernel
theorem dX3_point_11 : decode cX3_point 11 = .ok (.iload_n 1, 1) := by decide +kernel
theorem dX3_point_12 : decode cX3_point 12 = .ok (.isub, 1) := by decide +kernel
theorem dX3_point_13 : decode cX3_point 13 = .ok (.ishl, 1) := by decide +kernel
theorem dX3_point_14 : decode cX3_point 14 = .ok (.ireturn, 1) := by decide +kernel
theorem dX3_gatherJoin_0 : decode cX3_gatherJoin 0 = .ok (.iconst 1, 1) := by decide +kernel
theorem dX3_gatherJoin_1 : decode cX3_gatherJoin 1 = .ok (.iload_n 2, 1) := by decide +kernel
theorem dX3_gatherJoin_2 : decode cX3_gatherJoin 2 = .ok (.ishl, 1) := by decide +kernel
theorem dX3_gatherJoin_3 : decode cX3_gatherJoin 3 = .ok (.istore 4, 2) := by decide +kernel
theorem dX3_gatherJoin_5 : decode cX3_gatherJoin 5 = .ok (.iconst 0, 1) := by decide +kernel
theorem dX3_gatherJoin_6 : decode cX3_gatherJoin 6 = .ok (.istore 5, 2) := by decide +kernel
theorem dX3_gatherJoin_8 : decode cX3_gatherJoin 8 = .ok (.iload 5, 2) := by decide +kernel
theorem dX3_gatherJoin_10 : decode cX3_gatherJoin 10 = .ok (.aload_n 1, 1) := by decide +kernel
theorem dX3_gatherJoin_11 : decode cX3_gatherJoin 11 = .ok (.getfield 96, 3) := by decide +kernel
theorem dX3_gatherJoin_14 : decode cX3_gatherJoin 14 = .ok (.if_icmp .ge 56, 3) := by decide +kernel
theorem dX3_gatherJoin_17 : decode cX3_gatherJoin 17 = .ok (.aload_n 1, 1) := by decide +kernel
theorem dX3_gatherJoin_18 : decode cX3_gatherJoin 18 = .ok (.getfield 99, 3) := by decide +kernel
theorem dX3_gatherJoin_21 : decode cX3_gatherJoin 21 = .ok (.iload 5, 2) := by decide +kernel
theorem dX3_gatherJoin_23 : decode cX3_gatherJoin 23 = .ok (.iaload, 1) := by decide +kernel
theorem dX3_gatherJoin_24 : decode cX3_gatherJoin 24 = .ok (.iload 4, 2) := by decide +kernel
theorem dX3_gatherJoin_26 : decode cX3_gatherJoin 26 = .ok (.iand, 1) := by decide +kernel
theorem dX3_gatherJoin_27 : decode cX3_gatherJoin 27 = .ok (.ifCond .ne 20, 3) := by decide +kernel
theorem dX3_gatherJoin_30 : decode cX3_gatherJoin 30 = .ok (.aload_n 0, 1) := by decide +kernel
theorem dX3_gatherJoin_31 : decode cX3_gatherJoin 31 = .ok (.getfield 12, 3) := by decide +kernel
theorem dX3_gatherJoin_34 : decode cX3_gatherJoin 34 = .ok (.aload_n 1, 1) := by decide +kernel
theorem dX3_gatherJoin_35 : decode cX3_gatherJoin 35 = .ok (.getfield 99, 3) := by decide +kernel
theorem dX3_gatherJoin_38 : decode cX3_gatherJoin 38 = .ok (.iload 5, 2) := by decide +kernel
theorem dX3_gatherJoin_40 : decode cX3_gatherJoin 40 = .ok (.iaload, 1) := by decide +kernel
theorem dX3_gatherJoin_41 : decode cX3_gatherJoin 41 = .ok (.invokevirtual 70, 3) := by decide +kernel
theorem dX3_gatherJoin_44 : decode cX3_gatherJoin 44 = .ok (.goto 20, 3) := by decide +kernel
theorem dX3_gatherJoin_47 : decode cX3_gatherJoin 47 = .ok (.aload_n 0, 1) := by decide +kernel
theorem dX3_gatherJoin_48 : decode cX3_gatherJoin 48 = .ok (.aload_n 1, 1) := by decide +kernel
theorem dX3_gatherJoin_49 : decode cX3_gatherJoin 49 = .ok (.getfield 99, 3) := by decide +kernel
theorem dX3_gatherJoin_52 : decode cX3_gatherJoin 52 = .ok (.iload 5, 2) := by decide +kernel
theorem dX3_gatherJoin_54 : decode cX3_gatherJoin 54 = .ok (.iaload, 1) := by decide +kernel
theorem dX3_gatherJoin_55 : decode cX3_gatherJoin 55 = .ok (.iload 4, 2) := by decide +kernel
theorem dX3_gatherJoin_57 : decode cX3_gatherJoin 57 = .ok (.iconst (-1), 1) := by decide +kernel
theorem dX3_gatherJoin_58 : decode cX3_gatherJoin 58 = .ok (.ixor, 1) := by decide +kernel
theorem dX3_gatherJoin_59 : decode cX3_gatherJoin 59 = .ok (.iand, 1) := by decide +kernel
theorem dX3_gatherJoin_60 : decode cX3_gatherJoin 60 = .ok (.aload_n 3, 1) := by decide +kernel
theorem dX3_gatherJoin_61 : decode cX3_gatherJoin 61 = .ok (.invokevirtual 102, 3) := by decide +kernel
theorem dX3_gatherJoin_64 : decode cX3_gatherJoin 64 = .ok (.iinc 5 1, 3) := by decide +kernel
theorem dX3_gatherJoin_67 : decode cX3_gatherJoin 67 = .ok (.goto (-59), 3) := by decide +kernel
theorem dX3_gatherJoin_70 : decode cX3_gatherJoin 70 = .ok (.return_, 1) := by decide +kernel
theorem dX3_gatherBoth_0 : decode cX3_gatherBoth 0 = .ok (.iconst 0, 1) := by decide +kernel
theorem dX3_gatherBoth_1 : decode cX3_gatherBoth 1 = .ok (.istore_n 3, 1) := by decide +kernel
theorem dX3_gatherBoth_2 : decode cX3_gatherBoth 2 = .ok (.iload_n 3, 1) := by decide +kernel
theorem dX3_gatherBoth_3 : decode cX3_gatherBoth 3 = .ok (.aload_n 1, 1) := by decide +kernel
theorem dX3_gatherBoth_4 : decode cX3_gatherBoth 4 = .ok (.getfield 96, 3) := by decide +kernel
theorem dX3_gatherBoth_7 : decode cX3_gatherBoth 7 = .ok (.if_icmp .ge 20, 3) := by decide +kernel
theorem dX3_gatherBoth_10 : decode cX3_gatherBoth 10 = .ok (.aload_n 0, 1) := by decide +kernel
theorem dX3_gatherBoth_11 : decode cX3_gatherBoth 11 = .ok (.aload_n 1, 1) := by decide +kernel
theorem dX3_gatherBoth_12 : decode cX3_gatherBoth 12 = .ok (.getfield 99, 3) := by decide +kernel
theorem dX3_gatherBoth_15 : decode cX3_gatherBoth 15 = .ok (.iload_n 3, 1) := by decide +kernel
theorem dX3_gatherBoth_16 : decode cX3_gatherBoth 16 = .ok (.iaload, 1) := by decide +kernel
theorem dX3_gatherBoth_17 : decode cX3_gatherBoth 17 = .ok (.aload_n 2, 1) := by decide +kernel
theorem dX3_gatherBoth_18 : decode cX3_gatherBoth 18 = .ok (.invokevirtual 102, 3) := by decide +kernel
theorem dX3_gatherBoth_21 : decode cX3_gatherBoth 21 = .ok (.iinc 3 1, 3) := by decide +kernel
theorem dX3_gatherBoth_24 : decode cX3_gatherBoth 24 = .ok (.goto (-22), 3) := by decide +kernel
theorem dX3_gatherBoth_27 : decode cX3_gatherBoth 27 = .ok (.return_, 1) := by decide +kernel
theorem dX3_putWithEach_0 : decode cX3_putWithEach 0 = .ok (.iconst 0, 1) := by decide +kernel
theorem dX3_putWithEach_1 : decode cX3_putWithEach 1 = .ok (.istore_n 3, 1) := by decide +kernel
theorem dX3_putWithEach_2 : decode cX3_putWithEach 2 = .ok (.iload_n 3, 1) := by decide +kernel
theorem dX3_putWithEach_3 : decode cX3_putWithEach 3 = .ok (.aload_n 2, 1) := by decide +kernel
theorem dX3_putWithEach_4 : decode cX3_putWithEach 4 = .ok (.getfield 96, 3) := by decide +kernel
theorem dX3_putWithEach_7 : decode cX3_putWithEach 7 = .ok (.if_icmp .ge 24, 3) := by decide +kernel
theorem dX3_putWithEach_10 : decode cX3_putWithEach 10 = .ok (.aload_n 0, 1) := by decide +kernel
theorem dX3_putWithEach_11 : decode cX3_putWithEach 11 = .ok (.getfield 12, 3) := by decide +kernel
theorem dX3_putWithEach_14 : decode cX3_putWithEach 14 = .ok (.iload_n 1, 1) := by decide +kernel
theorem dX3_putWithEach_15 : decode cX3_putWithEach 15 = .ok (.aload_n 2, 1) := by decide +kernel
theorem dX3_putWithEach_16 : decode cX3_putWithEach 16 = .ok (.getfield 99, 3) := by decide +kernel
theorem dX3_putWithEach_19 : decode cX3_putWithEach 19 = .ok (.iload_n 3, 1) := by decide +kernel
theorem dX3_putWithEach_20 : decode cX3_putWithEach 20 = .ok (.iaload, 1) := by decide +kernel
theorem dX3_putWithEach_21 : decode cX3_putWithEach 21 = .ok (.ior, 1) := by decide +kernel
theorem dX3_putWithEach_22 : decode cX3_putWithEach 22 = .ok (.invokevirtual 70, 3) := by decide +kernel
theorem dX3_putWithEach_25 : decode cX3_putWithEach 25 = .ok (.iinc 3 1, 3) := by decide +kernel
theorem dX3_putWithEach_28 : decode cX3_putWithEach 28 = .ok (.goto (-26), 3) := by decide +kernel
theorem dX3_putWithEach_31 : decode cX3_putWithEach 31 = .ok (.return_, 1) := by decide +kernel
theorem dX3_gatherWithin_0 : decode cX3_gatherWithin 0 = .ok (.iconst 0, 1) := by decide +kernel
theorem dX3_gatherWithin_1 : decode cX3_gatherWithin 1 = .ok (.istore_n 3, 1) := by decide +kernel
theorem dX3_gatherWithin_2 : decode cX3_gatherWithin 2 = .ok (.iload_n 3, 1) := by decide +kernel
theorem dX3_gatherWithin_3 : decode cX3_gatherWithin 3 = .ok (.aload_n 1, 1) := by decide +kernel
theorem dX3_gatherWithin_4 : decode cX3_gatherWithin 4 = .ok (.getfield 96, 3) := by decide +kernel
theorem dX3_gatherWithin_7 : decode cX3_gatherWithin 7 = .ok (.if_icmp .ge 35, 3) := by decide +kernel
theorem dX3_gatherWithin_10 : decode cX3_gatherWithin 10 = .ok (.aload_n 1, 1) := by decide +kernel
theorem dX3_gatherWithin_11 : decode cX3_gatherWithin 11 = .ok (.getfield 99, 3) := by decide +kernel
theorem dX3_gatherWithin_14 : decode cX3_gatherWithin 14 = .ok (.iload_n 3, 1) := by decide +kernel
theorem dX3_gatherWithin_15 : decode cX3_gatherWithin 15 = .ok (.iaload, 1) := by decide +kernel
theorem dX3_gatherWithin_16 : decode cX3_gatherWithin 16 = .ok (.iload_n 2, 1) := by decide +kernel
theorem dX3_gatherWithin_17 : decode cX3_gatherWithin 17 = .ok (.iconst (-1), 1) := by decide +kernel
theorem dX3_gatherWithin_18 : decode cX3_gatherWithin 18 = .ok (.ixor, 1) := by decide +kernel
theorem dX3_gatherWithin_19 : decode cX3_gatherWithin 19 = .ok (.iand, 1) := by decide +kernel
theorem dX3_gatherWithin_20 : decode cX3_gatherWithin 20 = .ok (.ifCond .ne 16, 3) := by decide +kernel
theorem dX3_gatherWithin_23 : decode cX3_gatherWithin 23 = .ok (.aload_n 0, 1) := by decide +kernel
theorem dX3_gatherWithin_24 : decode cX3_gatherWithin 24 = .ok (.getfield 12, 3) := by decide +kernel
theorem dX3_gatherWithin_27 : decode cX3_gatherWithin 27 = .ok (.aload_n 1, 1) := by decide +kernel
theorem dX3_gatherWithin_28 : decode cX3_gatherWithin 28 = .ok (.getfield 99, 3) := by decide +kernel
theorem dX3_gatherWithin_31 : decode cX3_gatherWithin 31 = .ok (.iload_n 3, 1) := by decide +kernel
theorem dX3_gatherWithin_32 : decode cX3_gatherWithin 32 = .ok (.iaload, 1) := by decide +kernel
theorem dX3_gatherWithin_33 : decode cX3_gatherWithin 33 = .ok (.invokevirtual 70, 3) := by decide +kernel
theorem dX3_gatherWithin_36 : decode cX3_gatherWithin 36 = .ok (.iinc 3 1, 3) := by decide +kernel
theorem dX3_gatherWithin_39 : decode cX3_gatherWithin 39 = .ok (.goto (-37), 3) := by decide +kernel
theorem dX3_gatherWithin_42 : decode cX3_gatherWithin 42 = .ok (.return_, 1) := by decide +kernel
theorem dX3_gatherHolding_0 : decode cX3_gatherHolding 0 = .ok (.aload_n 0, 1) := by decide +kernel
theorem dX3_gatherHolding_1 : decode cX3_gatherHolding 1 = .ok (.aload_n 1, 1) := by decide +kernel
theorem dX3_gatherHolding_2 : decode cX3_gatherHolding 2 = .ok (.iconst (-1), 1) := by decide +kernel
theorem dX3_gatherHolding_3 : decode cX3_gatherHolding 3 = .ok (.invokevirtual 106, 3) := by decide +kernel
theorem dX3_gatherHolding_6 : decode cX3_gatherHolding 6 = .ok (.aload_n 0, 1) := by decide +kernel
theorem dX3_gatherHolding_7 : decode cX3_gatherHolding 7 = .ok (.getfield 12, 3) := by decide +kernel
theorem dX3_gatherHolding_10 : decode cX3_gatherHolding 10 = .ok (.invokevirtual 110, 3) := by decide +kernel
theorem dX3_gatherHolding_13 : decode cX3_gatherHolding 13 = .ok (.return_, 1) := by decide +kernel
theorem dX3_gatherMeeting_0 : decode cX3_gatherMeeting 0 = .ok (.aload_n 0, 1) := by decide +kernel
theorem dX3_gatherMeeting_1 : decode cX3_gatherMeeting 1 = .ok (.aload_n 1, 1) := by decide +kernel
theorem dX3_gatherMeeting_2 : decode cX3_gatherMeeting 2 = .ok (.invokevirtual 113, 3) := by decide +kernel
theorem dX3_gatherMeeting_5 : decode cX3_gatherMeeting 5 = .ok (.aload_n 0, 1) := by decide +kernel
theorem dX3_gatherMeeting_6 : decode cX3_gatherMeeting 6 = .ok (.getfield 12, 3) := by decide +kernel
theorem dX3_gatherMeeting_9 : decode cX3_gatherMeeting 9 = .ok (.invokevirtual 117, 3) := by decide +kernel
theorem dX3_gatherMeeting_12 : decode cX3_gatherMeeting 12 = .ok (.return_, 1) := by decide +kernel
theorem dX3_gatherBetter_0 : decode cX3_gatherBetter 0 = .ok (.aload_n 0, 1) := by decide +kernel
theorem dX3_gatherBetter_1 : decode cX3_gatherBetter 1 = .ok (.aload_n 1, 1) := by decide +kernel
theorem dX3_gatherBetter_2 : decode cX3_gatherBetter 2 = .ok (.invokevirtual 113, 3) := by decide +kernel
theorem dX3_gatherBetter_5 : decode cX3_gatherBetter 5 = .ok (.aload_n 0, 1) := by decide +kernel
theorem dX3_gatherBetter_6 : decode cX3_gatherBetter 6 = .ok (.getfield 12, 3) := by decide +kernel
theorem dX3_gatherBetter_9 : decode cX3_gatherBetter 9 = .ok (.aload_n 1, 1) := by decide +kernel
theorem dX3_gatherBetter_10 : decode cX3_gatherBetter 10 = .ok (.invokevirtual 120, 3) := by decide +kernel
theorem dX3_gatherBetter_13 : decode cX3_gatherBetter 13 = .ok (.bipush 120, 2) := by decide +kernel
theorem dX3_gatherBetter_15 : decode cX3_gatherBetter 15 = .ok (.invokevirtual 123, 3) := by decide +kernel
theorem dX3_gatherBetter_18 : decode cX3_gatherBetter 18 = .ok (.return_, 1) := by decide +kernel
theorem dX7_init_0 : decode cX7_init 0 = .ok (.aload_n 0, 1) := by decide +kernel
theorem dX7_init_1 : decode cX7_init 1 = .ok (.invokespecial 3, 3) := by decide +kernel
theorem dX7_init_4 : decode cX7_init 4 = .ok (.aload_n 0, 1) := by decide +kernel
theorem dX7_init_5 : decode cX7_init 5 = .ok (.sipush 1024, 3) := by decide +kernel
theorem dX7_init_8 : decode cX7_init 8 = .ok (.newarray .long, 2) := by decide +kernel
theorem dX7_init_10 : decode cX7_init 10 = .ok (.putfield 11, 3) := by decide +kernel
theorem dX7_init_13 : decode cX7_init 13 = .ok (.aload_n 0, 1) := by decide +kernel
theorem dX7_init_14 : decode cX7_init 14 = .ok (.bipush 64, 2) := by decide +kernel
theorem dX7_init_16 : decode cX7_init 16 = .ok (.newarray .long, 2) := by decide +kernel
theorem dX7_init_18 : decode cX7_init 18 = .ok (.putfield 15, 3) := by decide +kernel
theorem dX7_init_21 : decode cX7_init 21 = .ok (.aload_n 0, 1) := by decide +kernel
theorem dX7_init_22 : decode cX7_init 22 = .ok (.iconst 1, 1) := by decide +kernel
theorem dX7_init_23 : decode cX7_init 23 = .ok (.putfield 18, 3) := by decide +kernel
theorem dX7_init_26 : decode cX7_init 26 = .ok (.return_, 1) := by decide +kernel
theorem dX7_clear_0 : decode cX7_clear 0 = .ok (.iload_n 1, 1) := by decide +kernel
theorem dX7_clear_1 : decode cX7_clear 1 = .ok (.bipush 6, 2) := by decide +kernel
theorem dX7_clear_3 : decode cX7_clear 3 = .ok (.invokestatic 22, 3) := by decide +kernel
theorem dX7_clear_6 : decode cX7_clear 6 = .ok (.bipush 16, 2) := by decide +kernel
theorem dX7_clear_8 : decode cX7_clear 8 = .ok (.invokestatic 28, 3) := by decide +kernel
theorem dX7_clear_11 : decode cX7_clear 11 = .ok (.bipush 6, 2) := by decide +kernel
theorem dX7_clear_13 : decode cX7_clear 13 = .ok (.isub, 1) := by decide +kernel
theorem dX7_clear_14 : decode cX7_clear 14 = .ok (.istore_n 2, 1) := by decide +kernel
theorem dX7_clear_15 : decode cX7_clear 15 = .ok (.aload_n 0, 1) := by decide +kernel
theorem dX7_clear_16 : decode cX7_clear 16 = .ok (.iconst 1, 1) := by decide +kernel
theorem dX7_clear_17 : decode cX7_clear 17 = .ok (.iload_n 2, 1) := by decide +kernel
theorem dX7_clear_18 : decode cX7_clear 18 = .ok (.ishl, 1) := by decide +kernel
theorem dX7_clear_19 : decode cX7_clear 19 = .ok (.putfield 18, 3) := by decide +kernel
theorem dX7_clear_22 : decode cX7_clear 22 = .ok (.iconst 0, 1) := by decide +kernel
theorem dX7_clear_23 : decode cX7_clear 23 = .ok (.istore_n 3, 1) := by decide +kernel
theorem dX7_clear_24 : decode cX7_clear 24 = .ok (.iload_n 3, 1) := by decide +kernel
theorem dX7_clear_25 : decode cX7_clear 25 = .ok (.aload_n 0, 1) := by decide +kernel
theorem dX7_clear_26 : decode cX7_clear 26 = .ok (.getfield 18, 3) := by decide +kernel
theorem dX7_clear_29 : decode cX7_clear 29 = .ok (.if_icmp .ge 16, 3) := by decide +kernel
theorem dX7_clear_32 : decode cX7_clear 32 = .ok (.aload_n 0, 1) := by decide +kernel
theorem dX7_clear_33 : decode cX7_clear 33 = .ok (.getfield 11, 3) := by decide +kernel
theorem dX7_clear_36 : decode cX7_clear 36 = .ok (.iload_n 3, 1) := by decide +kernel
theorem dX7_clear_37 : decode cX7_clear 37 = .ok (.lconst 0, 1) := by decide +kernel
theorem dX7_clear_38 : decode cX7_clear 38 = .ok (.lastore, 1) := by decide +kernel
theorem dX7_clear_39 : decode cX7_clear 39 = .ok (.iinc 3 1, 3) := by decide +kernel
theorem dX7_clear_42 : decode cX7_clear 42 = .ok (.goto (-18), 3) := by decide +kernel
theorem dX7_clear_45 : decode cX7_clear 45 = .ok (.return_, 1) := by decide +kernel
theorem dX7_put_0 : decode cX7_put 0 = .ok (.iload_n 1, 1) := by decide +kernel
theorem dX7_put_1 : decode cX7_put 1 = .ok (.bipush 6, 2) := by decide +kernel
theorem dX7_put_3 : decode cX7_put 3 = .ok (.iushr, 1) := by decide +kernel
theorem dX7_put_4 : decode cX7_put 4 = .ok (.istore_n 2, 1) := by decide +kernel
theorem dX7_put_5 : decode cX7_put 5 = .ok (.iload_n 2, 1) := by decide +kernel
theorem dX7_put_6 : decode cX7_put 6 = .ok (.aload_n 0, 1) := by decide +kernel
theorem dX7_put_7 : decode cX7_put 7 = .ok (.getfield 18, 3) := by decide +kernel
theorem dX7_put_10 : decode cX7_put 10 = .ok (.if_icmp .ge 18, 3) := by decide +kernel
theorem dX7_put_13 : decode cX7_put 13 = .ok (.aload_n 0, 1) := by decide +kernel
theorem dX7_put_14 : decode cX7_put 14 = .ok (.getfield 11, 3) := by decide +kernel
theorem dX7_put_17 : decode cX7_put 17 = .ok (.iload_n 2, 1) := by decide +kernel
theorem dX7_put_18 : decode cX7_put 18 = .ok (.dup2, 1) := by decide +kernel
theorem dX7_put_19 : decode cX7_put 19 = .ok (.laload, 1) := by decide +kernel
theorem dX7_put_20 : decode cX7_put 20 = .ok (.lconst 1, 1) := by decide +kernel
theorem dX7_put_21 : decode cX7_put 21 = .ok (.iload_n 1, 1) := by decide +kernel
theorem dX7_put_22 : decode cX7_put 22 = .ok (.bipush 63, 2) := by decide +kernel
theorem dX7_put_24 : decode cX7_put 24 = .ok (.iand, 1) := by decide +kernel
theorem dX7_put_25 : decode cX7_put 25 = .ok (.lshl, 1) := by decide +kernel
theorem dX7_put_26 : decode cX7_put 26 = .ok (.lor, 1) := by decide +kernel
theorem dX7_put_27 : decode cX7_put 27 = .ok (.lastore, 1) := by decide +kernel
theorem dX7_put_28 : decode cX7_put 28 = .ok (.return_, 1) := by decide +kernel
theorem dX7_putUpwards_0 : decode cX7_putUpwards 0 = .ok (.lconst 1, 1) := by decide +kernel
theorem dX7_putUpwards_1 : decode cX7_putUpwards 1 = .ok (.iload_n 1, 1) := by decide +kernel
theorem dX7_putUpwards_2 : decode cX7_putUpwards 2 = .ok (.bipush 63, 2) := by decide +kernel
theorem dX7_putUpwards_4 : decode cX7_putUpwards 4 = .ok (.iand, 1) := by decide +kernel
theorem dX7_putUpwards_5 : decode cX7_putUpwards 5 = .ok (.lshl, 1) := by decide +kernel
theorem dX7_putUpwards_6 : decode cX7_putUpwards 6 = .ok (.invokestatic 31, 3) := by decide +kernel
theorem dX7_putUpwards_9 : decode cX7_putUpwards 9 = .ok (.lstore_n 2, 1) := by decide +kernel
theorem dX7_putUpwards_10 : decode cX7_putUpwards 10 = .ok (.iload_n 1, 1) := by decide +kernel
theorem dX7_putUpwards_11 : decode cX7_putUpwards 11 = .ok (.bipush 6, 2) := by decide +kernel
theorem dX7_putUpwards_13 : decode cX7_putUpwards 13 = .ok (.iushr, 1) := by decide +kernel
theorem dX7_putUpwards_14 : decode cX7_putUpwards 14 = .ok (.istore 4, 2) := by decide +kernel
theorem dX7_putUpwards_16 : decode cX7_putUpwards 16 = .ok (.iload 4, 2) := by decide +kernel
theorem dX7_putUpwards_18 : decode cX7_putUpwards 18 = .ok (.istore 5, 2) := by decide +kernel
theorem dX7_putUpwards_20 : decode cX7_putUpwards 20 = .ok (.iload 5, 2) := by decide +kernel
theorem dX7_putUpwards_22 : decode cX7_putUpwards 22 = .ok (.aload_n 0, 1) := by decide +kernel
theorem dX7_putUpwards_23 : decode cX7_putUpwards 23 = .ok (.getfield 18, 3) := by decide +kernel
theorem dX7_putUpwards_26 : decode cX7_putUpwards 26 = .ok (.if_icmp .ge 26, 3) := by decide +kernel
theorem dX7_putUpwards_29 : decode cX7_putUpwards 29 = .ok (.aload_n 0, 1) := by decide +kernel
theorem dX7_putUpwards_30 : decode cX7_putUpwards 30 = .ok (.getfield 11, 3) := by decide +kernel
theorem dX7_putUpwards_33 : decode cX7_putUpwards 33 = .ok (.iload 5, 2) := by decide +kernel
theorem dX7_putUpwards_35 : decode cX7_putUpwards 35 = .ok (.dup2, 1) := by decide +kernel
theorem dX7_putUpwards_36 : decode cX7_putUpwards 36 = .ok (.laload, 1) := by decide +kernel
theorem dX7_putUpwards_37 : decode cX7_putUpwards 37 = .ok (.lload_n 2, 1) := by decide +kernel
theorem dX7_putUpwards_38 : decode cX7_putUpwards 38 = .ok (.lor, 1) := by decide +kernel
theorem dX7_putUpwards_39 : decode cX7_putUpwards 39 = .ok (.lastore, 1) := by decide +kernel
theorem dX7_putUpwards_40 : decode cX7_putUpwards 40 = .ok (.iload 5, 2) := by decide +kernel
theorem dX7_putUpwards_42 : decode cX7_putUpwards 42 = .ok (.iconst 1, 1) := by decide +kernel
theorem dX7_putUpwards_43 : decode cX7_putUpwards 43 = .ok (.iadd, 1) := by decide +kernel
theorem dX7_putUpwards_44 : decode cX7_putUpwards 44 = .ok (.iload 4, 2) := by decide +kernel
theorem dX7_putUpwards_46 : decode cX7_putUpwards 46 = .ok (.ior, 1) := by decide +kernel
theorem dX7_putUpwards_47 : decode cX7_putUpwards 47 = .ok (.istore 5, 2) := by decide +kernel
theorem dX7_putUpwards_49 : decode cX7_putUpwards 49 = .ok (.goto (-29), 3) := by decide +kernel
theorem dX7_putUpwards_52 : decode cX7_putUpwards 52 = .ok (.return_, 1) := by decide +kernel
theorem dX7_closeUpwards_0 : decode cX7_closeUpwards 0 = .ok (.iconst 0, 1) := by decide +kernel
theorem dX7_closeUpwards_1 : decode cX7_closeUpwards 1 = .ok (.istore_n 1, 1) := by decide +kernel
theorem dX7_closeUpwards_2 : decode cX7_closeUpwards 2 = .ok (.iload_n 1, 1) := by decide +kernel
theorem dX7_closeUpwards_3 : decode cX7_closeUpwards 3 = .ok (.aload_n 0, 1) := by decide +kernel
theorem dX7_closeUpwards_4 : decode cX7_closeUpwards 4 = .ok (.getfield 18, 3) := by decide +kernel
theorem dX7_closeUpwards_7 : decode cX7_closeUpwards 7 = .ok (.if_icmp .ge 24, 3) := by decide +kernel
theorem dX7_closeUpwards_10 : decode cX7_closeUpwards 10 = .ok (.aload_n 0, 1) := by decide +kernel
theorem dX7_closeUpwards_11 : decode cX7_closeUpwards 11 = .ok (.getfield 11, 3) := by decide +kernel
theorem dX7_closeUpwards_14 : decode cX7_closeUpwards 14 = .ok (.iload_n 1, 1) := by decide +kernel
theorem dX7_closeUpwards_15 : decode cX7_closeUpwards 15 = .ok (.aload_n 0, 1) := by decide +kernel
theorem dX7_closeUpwards_16 : decode cX7_closeUpwards 16 = .ok (.getfield 11, 3) := by decide +kernel
theorem dX7_closeUpwards_19 : decode cX7_closeUpwards 19 = .ok (.iload_n 1, 1) := by decide +kernel
theorem dX7_closeUpwards_20 : decode cX7_closeUpwards 20 = .ok (.laload, 1) := by decide +kernel
theorem dX7_closeUpwards_21 : decode cX7_closeUpwards 21 = .ok (.invokestatic 31, 3) := by decide +kernel
theorem dX7_closeUpwards_24 : decode cX7_closeUpwards 24 = .ok (.lastore, 1) := by decide +kernel
theorem dX7_closeUpwards_25 : decode cX7_closeUpwards 25 = .ok (.iinc 1 1, 3) := by decide +kernel
theorem dX7_closeUpwards_28 : decode cX7_closeUpwards 28 = .ok (.goto (-26), 3) := by decide +kernel
theorem dX7_closeUpwards_31 : decode cX7_closeUpwards 31 = .ok (.iconst 1, 1) := by decide +kernel
theorem dX7_closeUpwards_32 : decode cX7_closeUpwards 32 = .ok (.istore_n 1, 1) := by decide +kernel
theorem dX7_closeUpwards_33 : decode cX7_closeUpwards 33 = .ok (.iload_n 1, 1) := by decide +kernel
theorem dX7_closeUpwards_34 : decode cX7_closeUpwards 34 = .ok (.aload_n 0, 1) := by decide +kernel
theorem dX7_closeUpwards_35 : decode cX7_closeUpwards 35 = .ok (.getfield 18, 3) := by decide +kernel
theorem dX7_closeUpwards_38 : decode cX7_closeUpwards 38 = .ok (.if_icmp .ge 46, 3) := by decide +kernel
theorem dX7_closeUpwards_41 : decode cX7_closeUpwards 41 = .ok (.iload_n 1, 1) := by decide +kernel
theorem dX7_closeUpwards_42 : decode cX7_closeUpwards 42 = .ok (.istore_n 2, 1) := by decide +kernel
theorem dX7_closeUpwards_43 : decode cX7_closeUpwards 43 = .ok (.iload_n 2, 1) := by decide +kernel
theorem dX7_closeUpwards_44 : decode cX7_closeUpwards 44 = .ok (.aload_n 0, 1) := by decide +kernel
theorem dX7_closeUpwards_45 : decode cX7_closeUpwards 45 = .ok (.getfield 18, 3) := by decide +kernel
theorem dX7_closeUpwards_48 : decode cX7_closeUpwards 48 = .ok (.if_icmp .ge 29, 3) := by decide +kernel
theorem dX7_closeUpwards_51 : decode cX7_closeUpwards 51 = .ok (.aload_n 0, 1) := by decide +kernel
theorem dX7_closeUpwards_52 : decode cX7_closeUpwards 52 = .ok (.getfield 11, 3) := by decide +kernel
theorem dX7_closeUpwards_55 : decode cX7_closeUpwards 55 = .ok (.iload_n 2, 1) := by decide +kernel
theorem dX7_closeUpwards_56 : decode cX7_closeUpwards 56 = .ok (.dup2, 1) := by decide +kernel
theorem dX7_closeUpwards_57 : decode cX7_closeUpwards 57 = .ok (.laload, 1) := by decide +kernel
theorem dX7_closeUpwards_58 : decode cX7_closeUpwards 58 = .ok (.aload_n 0, 1) := by decide +kernel
theorem dX7_closeUpwards_59 : decode cX7_closeUpwards 59 = .ok (.getfield 11, 3) := by decide +kernel
theorem dX7_closeUpwards_62 : decode cX7_closeUpwards 62 = .ok (.iload_n 2, 1) := by decide +kernel
theorem dX7_closeUpwards_63 : decode cX7_closeUpwards 63 = .ok (.iload_n 1, 1) := by decide +kernel
theorem dX7_closeUpwards_64 : decode cX7_closeUpwards 64 = .ok (.isub, 1) := by decide +kernel
theorem dX7_closeUpwards_65 : decode cX7_closeUpwards 65 = .ok (.laload, 1) := by decide +kernel
theorem dX7_closeUpwards_66 : decode cX7_closeUpwards 66 = .ok (.lor, 1) := by decide +kernel
theorem dX7_closeUpwards_67 : decode cX7_closeUpwards 67 = .ok (.lastore, 1) := by decide +kernel
theorem dX7_closeUpwards_68 : decode cX7_closeUpwards 68 = .ok (.iload_n 2, 1) := by decide +kernel
theorem dX7_closeUpwards_69 : decode cX7_closeUpwards 69 = .ok (.iconst 1, 1) := by decide +kernel
theorem dX7_closeUpwards_70 : decode cX7_closeUpwards 70 = .ok (.iadd, 1) := by decide +kernel
theorem dX7_closeUpwards_71 : decode cX7_closeUpwards 71 = .ok (.iload_n 1, 1) := by decide +kernel
theorem dX7_closeUpwards_72 : decode cX7_closeUpwards 72 = .ok (.ior, 1) := by decide +kernel
theorem dX7_closeUpwards_73 : decode cX7_closeUpwards 73 = .ok (.istore_n 2, 1) := by decide +kernel
theorem dX7_closeUpwards_74 : decode cX7_closeUpwards 74 = .ok (.goto (-31), 3) := by decide +kernel
theorem dX7_closeUpwards_77 : decode cX7_closeUpwards 77 = .ok (.iload_n 1, 1) := by decide +kernel
theorem dX7_closeUpwards_78 : decode cX7_closeUpwards 78 = .ok (.iconst 1, 1) := by decide +kernel
theorem dX7_closeUpwards_79 : decode cX7_closeUpwards 79 = .ok (.ishl, 1) := by decide +kernel
theorem dX7_closeUpwards_80 : decode cX7_closeUpwards 80 = .ok (.istore_n 1, 1) := by decide +kernel
theorem dX7_closeUpwards_81 : decode cX7_closeUpwards 81 = .ok (.goto (-48), 3) := by decide +kernel
theorem dX7_closeUpwards_84 : decode cX7_closeUpwards 84 = .ok (.return_, 1) := by decide +kernel
theorem dX7_keepLeast_0 : decode cX7_keepLeast 0 = .ok (.aload_n 0, 1) := by decide +kernel
theorem dX7_keepLeast_1 : decode cX7_keepLeast 1 = .ok (.getfield 18, 3) := by decide +kernel
theorem dX7_keepLeast_4 : decode cX7_keepLeast 4 = .ok (.iconst 1, 1) := by decide +kernel
theorem dX7_keepLeast_5 : decode cX7_keepLeast 5 = .ok (.isub, 1) := by decide +kernel
theorem dX7_keepLeast_6 : decode cX7_keepLeast 6 = .ok (.istore_n 1, 1) := by decide +kernel
theorem dX7_keepLeast_7 : decode cX7_keepLeast 7 = .ok (.iload_n 1, 1) := by decide +kernel
theorem dX7_keepLeast_8 : decode cX7_keepLeast 8 = .ok (.ifCond .lt 70, 3) := by decide +kernel
theorem dX7_keepLeast_11 : decode cX7_keepLeast 11 = .ok (.aload_n 0, 1) := by decide +kernel
theorem dX7_keepLeast_12 : decode cX7_keepLeast 12 = .ok (.getfield 11, 3) := by decide +kernel
theorem dX7_keepLeast_15 : decode cX7_keepLeast 15 = .ok (.iload_n 1, 1) := by decide +kernel
theorem dX7_keepLeast_16 : decode cX7_keepLeast 16 = .ok (.laload, 1) := by decide +kernel
theorem dX7_keepLeast_17 : decode cX7_keepLeast 17 = .ok (.invokestatic 35, 3) := by decide +kernel
theorem dX7_keepLeast_20 : decode cX7_keepLeast 20 = .ok (.lstore_n 2, 1) := by decide +kernel
theorem dX7_keepLeast_21 : decode cX7_keepLeast 21 = .ok (.iconst 1, 1) := by decide +kernel
theorem dX7_keepLeast_22 : decode cX7_keepLeast 22 = .ok (.istore 4, 2) := by decide +kernel
theorem dX7_keepLeast_24 : decode cX7_keepLeast 24 = .ok (.iload 4, 2) := by decide +kernel
theorem dX7_keepLeast_26 : decode cX7_keepLeast 26 = .ok (.iload_n 1, 1) := by decide +kernel
theorem dX7_keepLeast_27 : decode cX7_keepLeast 27 = .ok (.if_icmp .gt 31, 3) := by decide +kernel
theorem dX7_keepLeast_30 : decode cX7_keepLeast 30 = .ok (.iload_n 1, 1) := by decide +kernel
theorem dX7_keepLeast_31 : decode cX7_keepLeast 31 = .ok (.iload 4, 2) := by decide +kernel
theorem dX7_keepLeast_33 : decode cX7_keepLeast 33 = .ok (.iand, 1) := by decide +kernel
theorem dX7_keepLeast_34 : decode cX7_keepLeast 34 = .ok (.ifCond .eq 15, 3) := by decide +kernel
theorem dX7_keepLeast_37 : decode cX7_keepLeast 37 = .ok (.lload_n 2, 1) := by decide +kernel
theorem dX7_keepLeast_38 : decode cX7_keepLeast 38 = .ok (.aload_n 0, 1) := by decide +kernel
theorem dX7_keepLeast_39 : decode cX7_keepLeast 39 = .ok (.getfield 11, 3) := by decide +kernel
theorem dX7_keepLeast_42 : decode cX7_keepLeast 42 = .ok (.iload_n 1, 1) := by decide +kernel
theorem dX7_keepLeast_43 : decode cX7_keepLeast 43 = .ok (.iload 4, 2) := by decide +kernel
theorem dX7_keepLeast_45 : decode cX7_keepLeast 45 = .ok (.isub, 1) := by decide +kernel
theorem dX7_keepLeast_46 : decode cX7_keepLeast 46 = .ok (.laload, 1) := by decide +kernel
theorem dX7_keepLeast_47 : decode cX7_keepLeast 47 = .ok (.lor, 1) := by decide +kernel
theorem dX7_keepLeast_48 : decode cX7_keepLeast 48 = .ok (.lstore_n 2, 1) := by decide +kernel
theorem dX7_keepLeast_49 : decode cX7_keepLeast 49 = .ok (.iload 4, 2) := by decide +kernel
theorem dX7_keepLeast_51 : decode cX7_keepLeast 51 = .ok (.iconst 1, 1) := by decide +kernel
theorem dX7_keepLeast_52 : decode cX7_keepLeast 52 = .ok (.ishl, 1) := by decide +kernel
theorem dX7_keepLeast_53 : decode cX7_keepLeast 53 = .ok (.istore 4, 2) := by decide +kernel
theorem dX7_keepLeast_55 : decode cX7_keepLeast 55 = .ok (.goto (-31), 3) := by decide +kernel
theorem dX7_keepLeast_58 : decode cX7_keepLeast 58 = .ok (.aload_n 0, 1) := by decide +kernel
theorem dX7_keepLeast_59 : decode cX7_keepLeast 59 = .ok (.getfield 11, 3) := by decide +kernel
theorem dX7_keepLeast_62 : decode cX7_keepLeast 62 = .ok (.iload_n 1, 1) := by decide +kernel
theorem dX7_keepLeast_63 : decode cX7_keepLeast 63 = .ok (.dup2, 1) := by decide +kernel
theorem dX7_keepLeast_64 : decode cX7_keepLeast 64 = .ok (.laload, 1) := by decide +kernel
theorem dX7_keepLeast_65 : decode cX7_keepLeast 65 = .ok (.lload_n 2, 1) := by decide +kernel
theorem dX7_keepLeast_66 : decode cX7_keepLeast 66 = .ok (.ldc2_w 38, 3) := by decide +kernel
theorem dX7_keepLeast_69 : decode cX7_keepLeast 69 = .ok (.lxor, 1) := by decide +kernel
theorem dX7_keepLeast_70 : decode cX7_keepLeast 70 = .ok (.land, 1) := by decide +kernel
theorem dX7_keepLeast_71 : decode cX7_keepLeast 71 = .ok (.lastore, 1) := by decide +kernel
theorem dX7_keepLeast_72 : decode cX7_keepLeast 72 = .ok (.iinc 1 (-1), 3) := by decide +kernel
theorem dX7_keepLeast_75 : decode cX7_keepLeast 75 = .ok (.goto (-68), 3) := by decide +kernel
theorem dX7_keepLeast_78 : decode cX7_keepLeast 78 = .ok (.return_, 1) := by decide +kernel
theorem dX7_turnIntoMeeting_0 : decode cX7_turnIntoMeeting 0 = .ok (.iconst 0, 1) := by decide +kernel
theorem dX7_turnIntoMeeting_1 : decode cX7_turnIntoMeeting 1 = .ok (.istore_n 1, 1) := by decide +kernel
theorem dX7_turnIntoMeeting_2 : decode cX7_turnIntoMeeting 2 = .ok (.aload_n 0, 1) := by decide +kernel
theorem dX7_turnIntoMeeting_3 : decode cX7_turnIntoMeeting 3 = .ok (.getfield 18, 3) := by decide +kernel
theorem dX7_turnIntoMeeting_6 : decode cX7_turnIntoMeeting 6 = .ok (.iconst 1, 1) := by decide +kernel
theorem dX7_turnIntoMeeting_7 : decode cX7_turnIntoMeeting 7 = .ok (.isub, 1) := by decide +kernel
theorem dX7_turnIntoMeeting_8 : decode cX7_turnIntoMeeting 8 = .ok (.istore_n 2, 1) := by decide +kernel
theorem dX7_turnIntoMeeting_9 : decode cX7_turnIntoMeeting 9 = .ok (.iload_n 1, 1) := by decide +kernel
theorem dX7_turnIntoMeeting_10 : decode cX7_turnIntoMeeting 10 = .ok (.iload_n 2, 1) := by decide +kernel
theorem dX7_turnIntoMeeting_11 : decode cX7_turnIntoMeeting 11 = .ok (.if_icmp .gt 60, 3) := by decide +kernel
theorem dX7_turnIntoMeeting_14 : decode cX7_turnIntoMeeting 14 = .ok (.aload_n 0, 1) := by decide +kernel
theorem dX7_turnIntoMeeting_15 : decode cX7_turnIntoMeeting 15 = .ok (.getfield 11, 3) := by decide +kernel
theorem dX7_turnIntoMeeting_18 : decode cX7_turnIntoMeeting 18 = .ok (.iload_n 1, 1) := by decide +kernel
theorem dX7_turnIntoMeeting_19 : decode cX7_turnIntoMeeting 19 = .ok (.laload, 1) := by decide +kernel
theorem dX7_turnIntoMeeting_20 : decode cX7_turnIntoMeeting 20 = .ok (.bipush 63, 2) := by decide +kernel
theorem dX7_turnIntoMeeting_22 : decode cX7_turnIntoMeeting 22 = .ok (.invokestatic 40, 3) := by decide +kernel
theorem dX7_turnIntoMeeting_25 : decode cX7_turnIntoMeeting 25 = .ok (.ldc2_w 38, 3) := by decide +kernel
theorem dX7_turnIntoMeeting_28 : decode cX7_turnIntoMeeting 28 = .ok (.lxor, 1) := by decide +kernel
theorem dX7_turnIntoMeeting_29 : decode cX7_turnIntoMeeting 29 = .ok (.lstore_n 3, 1) := by decide +kernel
theorem dX7_turnIntoMeeting_30 : decode cX7_turnIntoMeeting 30 = .ok (.aload_n 0, 1) := by decide +kernel
theorem dX7_turnIntoMeeting_31 : decode cX7_turnIntoMeeting 31 = .ok (.getfield 11, 3) := by decide +kernel
theorem dX7_turnIntoMeeting_34 : decode cX7_turnIntoMeeting 34 = .ok (.iload_n 2, 1) := by decide +kernel
theorem dX7_turnIntoMeeting_35 : decode cX7_turnIntoMeeting 35 = .ok (.laload, 1) := by decide +kernel
theorem dX7_turnIntoMeeting_36 : decode cX7_turnIntoMeeting 36 = .ok (.bipush 63, 2) := by decide +kernel
theorem dX7_turnIntoMeeting_38 : decode cX7_turnIntoMeeting 38 = .ok (.invokestatic 40, 3) := by decide +kernel
theorem dX7_turnIntoMeeting_41 : decode cX7_turnIntoMeeting 41 = .ok (.ldc2_w 38, 3) := by decide +kernel
theorem dX7_turnIntoMeeting_44 : decode cX7_turnIntoMeeting 44 = .ok (.lxor, 1) := by decide +kernel
theorem dX7_turnIntoMeeting_45 : decode cX7_turnIntoMeeting 45 = .ok (.lstore 5, 2) := by decide +kernel
theorem dX7_turnIntoMeeting_47 : decode cX7_turnIntoMeeting 47 = .ok (.aload_n 0, 1) := by decide +kernel
theorem dX7_turnIntoMeeting_48 : decode cX7_turnIntoMeeting 48 = .ok (.getfield 11, 3) := by decide +kernel
theorem dX7_turnIntoMeeting_51 : decode cX7_turnIntoMeeting 51 = .ok (.iload_n 1, 1) := by decide +kernel
theorem dX7_turnIntoMeeting_52 : decode cX7_turnIntoMeeting 52 = .ok (.lload 5, 2) := by decide +kernel
theorem dX7_turnIntoMeeting_54 : decode cX7_turnIntoMeeting 54 = .ok (.lastore, 1) := by decide +kernel
theorem dX7_turnIntoMeeting_55 : decode cX7_turnIntoMeeting 55 = .ok (.aload_n 0, 1) := by decide +kernel
theorem dX7_turnIntoMeeting_56 : decode cX7_turnIntoMeeting 56 = .ok (.getfield 11, 3) := by decide +kernel
theorem dX7_turnIntoMeeting_59 : decode cX7_turnIntoMeeting 59 = .ok (.iload_n 2, 1) := by decide +kernel
theorem dX7_turnIntoMeeting_60 : decode cX7_turnIntoMeeting 60 = .ok (.lload_n 3, 1) := by decide +kernel
theorem dX7_turnIntoMeeting_61 : decode cX7_turnIntoMeeting 61 = .ok (.lastore, 1) := by decide +kernel
theorem dX7_turnIntoMeeting_62 : decode cX7_turnIntoMeeting 62 = .ok (.iinc 1 1, 3) := by decide +kernel
theorem dX7_turnIntoMeeting_65 : decode cX7_turnIntoMeeting 65 = .ok (.iinc 2 (-1), 3) := by decide +kernel
theorem dX7_turnIntoMeeting_68 : decode cX7_turnIntoMeeting 68 = .ok (.goto (-59), 3) := by decide +kernel
theorem dX7_turnIntoMeeting_71 : decode cX7_turnIntoMeeting 71 = .ok (.return_, 1) := by decide +kernel
theorem dX7_complete_0 : decode cX7_complete 0 = .ok (.iconst 0, 1) := by decide +kernel
theorem dX7_complete_1 : decode cX7_complete 1 = .ok (.istore_n 3, 1) := by decide +kernel
theorem dX7_complete_2 : decode cX7_complete 2 = .ok (.aload_n 0, 1) := by decide +kernel
theorem dX7_complete_3 : decode cX7_complete 3 = .ok (.iconst 0, 1) := by decide +kernel
theorem dX7_complete_4 : decode cX7_complete 4 = .ok (.iload_n 1, 1) := by decide +kernel
theorem dX7_complete_5 : decode cX7_complete 5 = .ok (.invokevirtual 44, 3) := by decide +kernel
theorem dX7_complete_8 : decode cX7_complete 8 = .ok (.istore 4, 2) := by decide +kernel
theorem dX7_complete_10 : decode cX7_complete 10 = .ok (.iload 4, 2) := by decide +kernel
theorem dX7_complete_12 : decode cX7_complete 12 = .ok (.ifCond .lt 29, 3) := by decide +kernel
theorem dX7_complete_15 : decode cX7_complete 15 = .ok (.iload_n 3, 1) := by decide +kernel
theorem dX7_complete_16 : decode cX7_complete 16 = .ok (.iload_n 2, 1) := by decide +kernel
theorem dX7_complete_17 : decode cX7_complete 17 = .ok (.if_icmp .gt 24, 3) := by decide +kernel
theorem dX7_complete_20 : decode cX7_complete 20 = .ok (.aload_n 0, 1) := by decide +kernel
theorem dX7_complete_21 : decode cX7_complete 21 = .ok (.iload 4, 2) := by decide +kernel
theorem dX7_complete_23 : decode cX7_complete 23 = .ok (.invokevirtual 47, 3) := by decide +kernel
theorem dX7_complete_26 : decode cX7_complete 26 = .ok (.iinc 3 1, 3) := by decide +kernel
theorem dX7_complete_29 : decode cX7_complete 29 = .ok (.aload_n 0, 1) := by decide +kernel
theorem dX7_complete_30 : decode cX7_complete 30 = .ok (.iload 4, 2) := by decide +kernel
theorem dX7_complete_32 : decode cX7_complete 32 = .ok (.iload_n 1, 1) := by decide +kernel
theorem dX7_complete_33 : decode cX7_complete 33 = .ok (.invokevirtual 44, 3) := by decide +kernel
theorem dX7_complete_36 : decode cX7_complete 36 = .ok (.istore 4, 2) := by decide +kernel
theorem dX7_complete_38 : decode cX7_complete 38 = .ok (.goto (-28), 3) := by decide +kernel
theorem dX7_complete_41 : decode cX7_complete 41 = .ok (.return_, 1) := by decide +kernel
theorem dX7_nextOpen_0 : decode cX7_nextOpen 0 = .ok (.iload_n 2, 1) := by decide +kernel
theorem dX7_nextOpen_1 : decode cX7_nextOpen 1 = .ok (.bipush 6, 2) := by decide +kernel
theorem dX7_nextOpen_3 : decode cX7_nextOpen 3 = .ok (.iushr, 1) := by decide +kernel
theorem dX7_nextOpen_4 : decode cX7_nextOpen 4 = .ok (.istore_n 3, 1) := by decide +kernel
theorem dX7_nextOpen_5 : decode cX7_nextOpen 5 = .ok (.iload_n 2, 1) := by decide +kernel
theorem dX7_nextOpen_6 : decode cX7_nextOpen 6 = .ok (.bipush 63, 2) := by decide +kernel
theorem dX7_nextOpen_8 : decode cX7_nextOpen 8 = .ok (.iand, 1) := by decide +kernel
theorem dX7_nextOpen_9 : decode cX7_nextOpen 9 = .ok (.istore 4, 2) := by decide +kernel
theorem dX7_nextOpen_11 : decode cX7_nextOpen 11 = .ok (.iload 4, 2) := by decide +kernel
theorem dX7_nextOpen_13 : decode cX7_nextOpen 13 = .ok (.invokestatic 51, 3) := by decide +kernel
theorem dX7_nextOpen_16 : decode cX7_nextOpen 16 = .ok (.lstore 5, 2) := by decide +kernel
theorem dX7_nextOpen_18 : decode cX7_nextOpen 18 = .ok (.iload_n 1, 1) := by decide +kernel
theorem dX7_nextOpen_19 : decode cX7_nextOpen 19 = .ok (.bipush 6, 2) := by decide +kernel
theorem dX7_nextOpen_21 : decode cX7_nextOpen 21 = .ok (.iushr, 1) := by decide +kernel
theorem dX7_nextOpen_22 : decode cX7_nextOpen 22 = .ok (.istore 7, 2) := by decide +kernel
theorem dX7_nextOpen_24 : decode cX7_nextOpen 24 = .ok (.iload 7, 2) := by decide +kernel
theorem dX7_nextOpen_26 : decode cX7_nextOpen 26 = .ok (.aload_n 0, 1) := by decide +kernel
theorem dX7_nextOpen_27 : decode cX7_nextOpen 27 = .ok (.getfield 18, 3) := by decide +kernel
theorem dX7_nextOpen_30 : decode cX7_nextOpen 30 = .ok (.if_icmp .ge 91, 3) := by decide +kernel
theorem dX7_nextOpen_33 : decode cX7_nextOpen 33 = .ok (.iload 7, 2) := by decide +kernel
theorem dX7_nextOpen_35 : decode cX7_nextOpen 35 = .ok (.iload_n 3, 1) := by decide +kernel
theorem dX7_nextOpen_36 : decode cX7_nextOpen 36 = .ok (.if_icmp .gt 85, 3) := by decide +kernel
theorem dX7_nextOpen_39 : decode cX7_nextOpen 39 = .ok (.iload_n 3, 1) := by decide +kernel
theorem dX7_nextOpen_40 : decode cX7_nextOpen 40 = .ok (.iload 7, 2) := by decide +kernel
theorem dX7_nextOpen_42 : decode cX7_nextOpen 42 = .ok (.isub, 1) := by decide +kernel
theorem dX7_nextOpen_43 : decode cX7_nextOpen 43 = .ok (.istore 8, 2) := by decide +kernel
theorem dX7_nextOpen_45 : decode cX7_nextOpen 45 = .ok (.iload 7, 2) := by decide +kernel
theorem dX7_nextOpen_47 : decode cX7_nextOpen 47 = .ok (.iload_n 3, 1) := by decide +kernel
theorem dX7_nextOpen_48 : decode cX7_nextOpen 48 = .ok (.iconst (-1), 1) := by decide +kernel
theorem dX7_nextOpen_49 : decode cX7_nextOpen 49 = .ok (.ixor, 1) := by decide +kernel
theorem dX7_nextOpen_50 : decode cX7_nextOpen 50 = .ok (.iand, 1) := by decide +kernel
theorem dX7_nextOpen_51 : decode cX7_nextOpen 51 = .ok (.ifCond .ne 64, 3) := by decide +kernel
theorem dX7_nextOpen_54 : decode cX7_nextOpen 54 = .ok (.iload 8, 2) := by decide +kernel
theorem dX7_nextOpen_56 : decode cX7_nextOpen 56 = .ok (.aload_n 0, 1) := by decide +kernel
theorem dX7_nextOpen_57 : decode cX7_nextOpen 57 = .ok (.getfield 18, 3) := by decide +kernel
theorem dX7_nextOpen_60 : decode cX7_nextOpen 60 = .ok (.if_icmp .ge 55, 3) := by decide +kernel
theorem dX7_nextOpen_63 : decode cX7_nextOpen 63 = .ok (.aload_n 0, 1) := by decide +kernel
theorem dX7_nextOpen_64 : decode cX7_nextOpen 64 = .ok (.getfield 11, 3) := by decide +kernel
theorem dX7_nextOpen_67 : decode cX7_nextOpen 67 = .ok (.iload 7, 2) := by decide +kernel
theorem dX7_nextOpen_69 : decode cX7_nextOpen 69 = .ok (.laload, 1) := by decide +kernel
theorem dX7_nextOpen_70 : decode cX7_nextOpen 70 = .ok (.ldc2_w 38, 3) := by decide +kernel
theorem dX7_nextOpen_73 : decode cX7_nextOpen 73 = .ok (.lxor, 1) := by decide +kernel
theorem dX7_nextOpen_74 : decode cX7_nextOpen 74 = .ok (.aload_n 0, 1) := by decide +kernel
theorem dX7_nextOpen_75 : decode cX7_nextOpen 75 = .ok (.getfield 11, 3) := by decide +kernel
theorem dX7_nextOpen_78 : decode cX7_nextOpen 78 = .ok (.iload 8, 2) := by decide +kernel
theorem dX7_nextOpen_80 : decode cX7_nextOpen 80 = .ok (.laload, 1) := by decide +kernel
theorem dX7_nextOpen_81 : decode cX7_nextOpen 81 = .ok (.iload 4, 2) := by decide +kernel
theorem dX7_nextOpen_83 : decode cX7_nextOpen 83 = .ok (.invokestatic 40, 3) := by decide +kernel
theorem dX7_nextOpen_86 : decode cX7_nextOpen 86 = .ok (.ldc2_w 38, 3) := by decide +kernel
theorem dX7_nextOpen_89 : decode cX7_nextOpen 89 = .ok (.lxor, 1) := by decide +kernel
theorem dX7_nextOpen_90 : decode cX7_nextOpen 90 = .ok (.land, 1) := by decide +kernel
theorem dX7_nextOpen_91 : decode cX7_nextOpen 91 = .ok (.lload 5, 2) := by decide +kernel
theorem dX7_nextOpen_93 : decode cX7_nextOpen 93 = .ok (.land, 1) := by decide +kernel
theorem dX7_nextOpen_94 : decode cX7_nextOpen 94 = .ok (.lstore 9, 2) := by decide +kernel
theorem dX7_nextOpen_96 : decode cX7_nextOpen 96 = .ok (.lload 9, 2) := by decide +kernel
theorem dX7_nextOpen_98 : decode cX7_nextOpen 98 = .ok (.lconst 0, 1) := by decide +kernel
theorem dX7_nextOpen_99 : decode cX7_nextOpen 99 = .ok (.lcmp, 1) := by decide +kernel
theorem dX7_nextOpen_100 : decode cX7_nextOpen 100 = .ok (.ifCond .eq 15, 3) := by decide +kernel
theorem dX7_nextOpen_103 : decode cX7_nextOpen 103 = .ok (.iload 7, 2) := by decide +kernel
theorem dX7_nextOpen_105 : decode cX7_nextOpen 105 = .ok (.bipush 6, 2) := by decide +kernel
theorem dX7_nextOpen_107 : decode cX7_nextOpen 107 = .ok (.ishl, 1) := by decide +kernel
theorem dX7_nextOpen_108 : decode cX7_nextOpen 108 = .ok (.lload 9, 2) := by decide +kernel
theorem dX7_nextOpen_110 : decode cX7_nextOpen 110 = .ok (.invokestatic 55, 3) := by decide +kernel
theorem dX7_nextOpen_113 : decode cX7_nextOpen 113 = .ok (.iadd, 1) := by decide +kernel
theorem dX7_nextOpen_114 : decode cX7_nextOpen 114 = .ok (.ireturn, 1) := by decide +kernel
theorem dX7_nextOpen_115 : decode cX7_nextOpen 115 = .ok (.iinc 7 1, 3) := by decide +kernel
theorem dX7_nextOpen_118 : decode cX7_nextOpen 118 = .ok (.goto (-94), 3) := by decide +kernel
theorem dX7_nextOpen_121 : decode cX7_nextOpen 121 = .ok (.iconst (-1), 1) := by decide +kernel
theorem dX7_nextOpen_122 : decode cX7_nextOpen 122 = .ok (.ireturn, 1) := by decide +kernel
theorem dX7_countSets_0 : decode cX7_countSets 0 = .ok (.iconst 0, 1) := by decide +kernel
theorem dX7_countSets_1 : decode cX7_countSets 1 = .ok (.istore_n 1, 1) := by decide +kernel
theorem dX7_countSets_2 : decode cX7_countSets 2 = .ok (.iconst 0, 1) := by decide +kernel
theorem dX7_countSets_3 : decode cX7_countSets 3 = .ok (.istore_n 2, 1) := by decide +kernel
theorem dX7_countSets_4 : decode cX7_countSets 4 = .ok (.iload_n 2, 1) := by decide +kernel
theorem dX7_countSets_5 : decode cX7_countSets 5 = .ok (.aload_n 0, 1) := by decide +kernel
theorem dX7_countSets_6 : decode cX7_countSets 6 = .ok (.getfield 18, 3) := by decide +kernel
theorem dX7_countSets_9 : decode cX7_countSets 9 = .ok (.if_icmp .ge 21, 3) := by decide +kernel
theorem dX7_countSets_12 : decode cX7_countSets 12 = .ok (.iload_n 1, 1) := by decide +kernel
theorem dX7_countSets_13 : decode cX7_countSets 13 = .ok (.aload_n 0, 1) := by decide +kernel
theorem dX7_countSets_14 : decode cX7_countSets 14 = .ok (.getfield 11, 3) := by decide +kernel
theorem dX7_countSets_17 : decode cX7_countSets 17 = .ok (.iload_n 2, 1) := by decide +kernel
theorem dX7_countSets_18 : decode cX7_countSets 18 = .ok (.laload, 1) := by decide +kernel
theorem dX7_countSets_19 : decode cX7_countSets 19 = .ok (.invokestatic 59, 3) := by decide +kernel
theorem dX7_countSets_22 : decode cX7_countSets 22 = .ok (.iadd, 1) := by decide +kernel
theorem dX7_countSets_23 : decode cX7_countSets 23 = .ok (.istore_n 1, 1) := by decide +kernel
theorem dX7_countSets_24 : decode cX7_countSets 24 = .ok (.iinc 2 1, 3) := by decide +kernel
theorem dX7_countSets_27 : decode cX7_countSets 27 = .ok (.goto (-23), 3) := by decide +kernel
theorem dX7_countSets_30 : decode cX7_countSets 30 = .ok (.iload_n 1, 1) := by decide +kernel
theorem dX7_countSets_31 : decode cX7_countSets 31 = .ok (.ireturn, 1) := by decide +kernel
theorem dX7_next_0 : decode cX7_next 0 = .ok (.iload_n 1, 1) := by decide +kernel
theorem dX7_next_1 : decode cX7_next 1 = .ok (.bipush 6, 2) := by decide +kernel
theorem dX7_next_3 : decode cX7_next 3 = .ok (.iushr, 1) := by decide +kernel
theorem dX7_next_4 : decode cX7_next 4 = .ok (.istore_n 2, 1) := by decide +kernel
theorem dX7_next_5 : decode cX7_next 5 = .ok (.iload_n 2, 1) := by decide +kernel
theorem dX7_next_6 : decode cX7_next 6 = .ok (.istore_n 3, 1) := by decide +kernel
theorem dX7_next_7 : decode cX7_next 7 = .ok (.iload_n 3, 1) := by decide +kernel
theorem dX7_next_8 : decode cX7_next 8 = .ok (.aload_n 0, 1) := by decide +kernel
theorem dX7_next_9 : decode cX7_next 9 = .ok (.getfield 18, 3) := by decide +kernel
theorem dX7_next_12 : decode cX7_next 12 = .ok (.if_icmp .ge 58, 3) := by decide +kernel
theorem dX7_next_15 : decode cX7_next 15 = .ok (.iload_n 3, 1) := by decide +kernel
theorem dX7_next_16 : decode cX7_next 16 = .ok (.iload_n 2, 1) := by decide +kernel
theorem dX7_next_17 : decode cX7_next 17 = .ok (.if_icmp .ne 21, 3) := by decide +kernel
theorem dX7_next_20 : decode cX7_next 20 = .ok (.aload_n 0, 1) := by decide +kernel
theorem dX7_next_21 : decode cX7_next 21 = .ok (.getfield 11, 3) := by decide +kernel
theorem dX7_next_24 : decode cX7_next 24 = .ok (.iload_n 3, 1) := by decide +kernel
theorem dX7_next_25 : decode cX7_next 25 = .ok (.laload, 1) := by decide +kernel
theorem dX7_next_26 : decode cX7_next 26 = .ok (.ldc2_w 38, 3) := by decide +kernel
theorem dX7_next_29 : decode cX7_next 29 = .ok (.iload_n 1, 1) := by decide +kernel
theorem dX7_next_30 : decode cX7_next 30 = .ok (.bipush 63, 2) := by decide +kernel
theorem dX7_next_32 : decode cX7_next 32 = .ok (.iand, 1) := by decide +kernel
theorem dX7_next_33 : decode cX7_next 33 = .ok (.lshl, 1) := by decide +kernel
theorem dX7_next_34 : decode cX7_next 34 = .ok (.land, 1) := by decide +kernel
theorem dX7_next_35 : decode cX7_next 35 = .ok (.goto 9, 3) := by decide +kernel
theorem dX7_next_38 : decode cX7_next 38 = .ok (.aload_n 0, 1) := by decide +kernel
theorem dX7_next_39 : decode cX7_next 39 = .ok (.getfield 11, 3) := by decide +kernel
theorem dX7_next_42 : decode cX7_next 42 = .ok (.iload_n 3, 1) := by decide +kernel
theorem dX7_next_43 : decode cX7_next 43 = .ok (.laload, 1) := by decide +kernel
theorem dX7_next_44 : decode cX7_next 44 = .ok (.lstore 4, 2) := by decide +kernel
theorem dX7_next_46 : decode cX7_next 46 = .ok (.lload 4, 2) := by decide +kernel
theorem dX7_next_48 : decode cX7_next 48 = .ok (.lconst 0, 1) := by decide +kernel
theorem dX7_next_49 : decode cX7_next 49 = .ok (.lcmp, 1) := by decide +kernel
theorem dX7_next_50 : decode cX7_next 50 = .ok (.ifCond .eq 14, 3) := by decide +kernel
theorem dX7_next_53 : decode cX7_next 53 = .ok (.iload_n 3, 1) := by decide +kernel
theorem dX7_next_54 : decode cX7_next 54 = .ok (.bipush 6, 2) := by decide +kernel
theorem dX7_next_56 : decode cX7_next 56 = .ok (.ishl, 1) := by decide +kernel
theorem dX7_next_57 : decode cX7_next 57 = .ok (.lload 4, 2) := by decide +kernel
theorem dX7_next_59 : decode cX7_next 59 = .ok (.invokestatic 55, 3) := by decide +kernel
theorem dX7_next_62 : decode cX7_next 62 = .ok (.iadd, 1) := by decide +kernel
theorem dX7_next_63 : decode cX7_next 63 = .ok (.ireturn, 1) := by decide +kernel
theorem dX7_next_64 : decode cX7_next 64 = .ok (.iinc 3 1, 3) := by decide +kernel
theorem dX7_next_67 : decode cX7_next 67 = .ok (.goto (-60), 3) := by decide +kernel
theorem dX7_next_70 : decode cX7_next 70 = .ok (.iconst (-1), 1) := by decide +kernel
theorem dX7_next_71 : decode cX7_next 71 = .ok (.ireturn, 1) := by decide +kernel
theorem dX7_smallestSet_0 : decode cX7_smallestSet 0 = .ok (.iconst (-1), 1) := by decide +kernel
theorem dX7_smallestSet_1 : decode cX7_smallestSet 1 = .ok (.istore_n 1, 1) := by decide +kernel
theorem dX7_smallestSet_2 : decode cX7_smallestSet 2 = .ok (.bipush 17, 2) := by decide +kernel
theorem dX7_smallestSet_4 : decode cX7_smallestSet 4 = .ok (.istore_n 2, 1) := by decide +kernel
theorem dX7_smallestSet_5 : decode cX7_smallestSet 5 = .ok (.aload_n 0, 1) := by decide +kernel
theorem dX7_smallestSet_6 : decode cX7_smallestSet 6 = .ok (.iconst 0, 1) := by decide +kernel
theorem dX7_smallestSet_7 : decode cX7_smallestSet 7 = .ok (.invokevirtual 64, 3) := by decide +kernel
theorem dX7_smallestSet_10 : decode cX7_smallestSet 10 = .ok (.istore_n 3, 1) := by decide +kernel
theorem dX7_smallestSet_11 : decode cX7_smallestSet 11 = .ok (.iload_n 3, 1) := by decide +kernel
theorem dX7_smallestSet_12 : decode cX7_smallestSet 12 = .ok (.ifCond .lt 37, 3) := by decide +kernel
theorem dX7_smallestSet_15 : decode cX7_smallestSet 15 = .ok (.iload_n 3, 1) := by decide +kernel
theorem dX7_smallestSet_16 : decode cX7_smallestSet 16 = .ok (.ldc 68, 2) := by decide +kernel
theorem dX7_smallestSet_18 : decode cX7_smallestSet 18 = .ok (.if_icmp .ge 31, 3) := by decide +kernel
theorem dX7_smallestSet_21 : decode cX7_smallestSet 21 = .ok (.iload_n 3, 1) := by decide +kernel
theorem dX7_smallestSet_22 : decode cX7_smallestSet 22 = .ok (.invokestatic 69, 3) := by decide +kernel
theorem dX7_smallestSet_25 : decode cX7_smallestSet 25 = .ok (.istore 4, 2) := by decide +kernel
theorem dX7_smallestSet_27 : decode cX7_smallestSet 27 = .ok (.iload 4, 2) := by decide +kernel
theorem dX7_smallestSet_29 : decode cX7_smallestSet 29 = .ok (.iload_n 2, 1) := by decide +kernel
theorem dX7_smallestSet_30 : decode cX7_smallestSet 30 = .ok (.if_icmp .ge 8, 3) := by decide +kernel
theorem dX7_smallestSet_33 : decode cX7_smallestSet 33 = .ok (.iload_n 3, 1) := by decide +kernel
theorem dX7_smallestSet_34 : decode cX7_smallestSet 34 = .ok (.istore_n 1, 1) := by decide +kernel
theorem dX7_smallestSet_35 : decode cX7_smallestSet 35 = .ok (.iload 4, 2) := by decide +kernel
theorem dX7_smallestSet_37 : decode cX7_smallestSet 37 = .ok (.istore_n 2, 1) := by decide +kernel
theorem dX7_smallestSet_38 : decode cX7_smallestSet 38 = .ok (.aload_n 0, 1) := by decide +kernel
theorem dX7_smallestSet_39 : decode cX7_smallestSet 39 = .ok (.iload_n 3, 1) := by decide +kernel
theorem dX7_smallestSet_40 : decode cX7_smallestSet 40 = .ok (.iconst 1, 1) := by decide +kernel
theorem dX7_smallestSet_41 : decode cX7_smallestSet 41 = .ok (.iadd, 1) := by decide +kernel
theorem dX7_smallestSet_42 : decode cX7_smallestSet 42 = .ok (.invokevirtual 64, 3) := by decide +kernel
theorem dX7_smallestSet_45 : decode cX7_smallestSet 45 = .ok (.istore_n 3, 1) := by decide +kernel
theorem dX7_smallestSet_46 : decode cX7_smallestSet 46 = .ok (.goto (-35), 3) := by decide +kernel
theorem dX7_smallestSet_49 : decode cX7_smallestSet 49 = .ok (.iload_n 1, 1) := by decide +kernel
theorem dX7_smallestSet_50 : decode cX7_smallestSet 50 = .ok (.ireturn, 1) := by decide +kernel
theorem dX7_chanceOfSets_0 : decode cX7_chanceOfSets 0 = .ok (.aload_n 0, 1) := by decide +kernel
theorem dX7_chanceOfSets_1 : decode cX7_chanceOfSets 1 = .ok (.aload_n 1, 1) := by decide +kernel
theorem dX7_chanceOfSets_2 : decode cX7_chanceOfSets 2 = .ok (.invokevirtual 73, 3) := by decide +kernel
theorem dX7_chanceOfSets_5 : decode cX7_chanceOfSets 5 = .ok (.iconst 0, 1) := by decide +kernel
theorem dX7_chanceOfSets_6 : decode cX7_chanceOfSets 6 = .ok (.istore_n 2, 1) := by decide +kernel
theorem dX7_chanceOfSets_7 : decode cX7_chanceOfSets 7 = .ok (.iload_n 2, 1) := by decide +kernel
theorem dX7_chanceOfSets_8 : decode cX7_chanceOfSets 8 = .ok (.aload_n 0, 1) := by decide +kernel
theorem dX7_chanceOfSets_9 : decode cX7_chanceOfSets 9 = .ok (.getfield 18, 3) := by decide +kernel
theorem dX7_chanceOfSets_12 : decode cX7_chanceOfSets 12 = .ok (.if_icmp .ge 25, 3) := by decide +kernel
theorem dX7_chanceOfSets_15 : decode cX7_chanceOfSets 15 = .ok (.aload_n 0, 1) := by decide +kernel
theorem dX7_chanceOfSets_16 : decode cX7_chanceOfSets 16 = .ok (.getfield 11, 3) := by decide +kernel
theorem dX7_chanceOfSets_19 : decode cX7_chanceOfSets 19 = .ok (.iload_n 2, 1) := by decide +kernel
theorem dX7_chanceOfSets_20 : decode cX7_chanceOfSets 20 = .ok (.aload_n 0, 1) := by decide +kernel
theorem dX7_chanceOfSets_21 : decode cX7_chanceOfSets 21 = .ok (.aload_n 0, 1) := by decide +kernel
theorem dX7_chanceOfSets_22 : decode cX7_chanceOfSets 22 = .ok (.getfield 11, 3) := by decide +kernel
theorem dX7_chanceOfSets_25 : decode cX7_chanceOfSets 25 = .ok (.iload_n 2, 1) := by decide +kernel
theorem dX7_chanceOfSets_26 : decode cX7_chanceOfSets 26 = .ok (.laload, 1) := by decide +kernel
theorem dX7_chanceOfSets_27 : decode cX7_chanceOfSets 27 = .ok (.invokevirtual 77, 3) := by decide +kernel
theorem dX7_chanceOfSets_30 : decode cX7_chanceOfSets 30 = .ok (.lastore, 1) := by decide +kernel
theorem dX7_chanceOfSets_31 : decode cX7_chanceOfSets 31 = .ok (.iinc 2 1, 3) := by decide +kernel
theorem dX7_chanceOfSets_34 : decode cX7_chanceOfSets 34 = .ok (.goto (-27), 3) := by decide +kernel
theorem dX7_chanceOfSets_37 : decode cX7_chanceOfSets 37 = .ok (.lconst 1, 1) := by decide +kernel
theorem dX7_chanceOfSets_38 : decode cX7_chanceOfSets 38 = .ok (.lstore_n 2, 1) := by decide +kernel
theorem dX7_chanceOfSets_39 : decode cX7_chanceOfSets 39 = .ok (.bipush 15, 2) := by decide +kernel
theorem dX7_chanceOfSets_41 : decode cX7_chanceOfSets 41 = .ok (.istore 4, 2) := by decide +kernel
theorem dX7_chanceOfSets_43 : decode cX7_chanceOfSets 43 = .ok (.iload 4, 2) := by decide +kernel
theorem dX7_chanceOfSets_45 : decode cX7_chanceOfSets 45 = .ok (.bipush 6, 2) := by decide +kernel
theorem dX7_chanceOfSets_47 : decode cX7_chanceOfSets 47 = .ok (.if_icmp .lt 48, 3) := by decide +kernel
theorem dX7_chanceOfSets_50 : decode cX7_chanceOfSets 50 = .ok (.iconst 1, 1) := by decide +kernel
theorem dX7_chanceOfSets_51 : decode cX7_chanceOfSets 51 = .ok (.iload 4, 2) := by decide +kernel
theorem dX7_chanceOfSets_53 : decode cX7_chanceOfSets 53 = .ok (.bipush 6, 2) := by decide +kernel
theorem dX7_chanceOfSets_55 : decode cX7_chanceOfSets 55 = .ok (.isub, 1) := by decide +kernel
theorem dX7_chanceOfSets_56 : decode cX7_chanceOfSets 56 = .ok (.ishl, 1) := by decide +kernel
theorem dX7_chanceOfSets_57 : decode cX7_chanceOfSets 57 = .ok (.istore 5, 2) := by decide +kernel
theorem dX7_chanceOfSets_59 : decode cX7_chanceOfSets 59 = .ok (.iload 5, 2) := by decide +kernel
theorem dX7_chanceOfSets_61 : decode cX7_chanceOfSets 61 = .ok (.aload_n 0, 1) := by decide +kernel
theorem dX7_chanceOfSets_62 : decode cX7_chanceOfSets 62 = .ok (.getfield 18, 3) := by decide +kernel
theorem dX7_chanceOfSets_65 : decode cX7_chanceOfSets 65 = .ok (.if_icmp .lt 12, 3) := by decide +kernel
theorem dX7_chanceOfSets_68 : decode cX7_chanceOfSets 68 = .ok (.lload_n 2, 1) := by decide +kernel
theorem dX7_chanceOfSets_69 : decode cX7_chanceOfSets 69 = .ok (.ldc2_w 80, 3) := by decide +kernel
theorem dX7_chanceOfSets_72 : decode cX7_chanceOfSets 72 = .ok (.lmul, 1) := by decide +kernel
theorem dX7_chanceOfSets_73 : decode cX7_chanceOfSets 73 = .ok (.lstore_n 2, 1) := by decide +kernel
theorem dX7_chanceOfSets_74 : decode cX7_chanceOfSets 74 = .ok (.goto 15, 3) := by decide +kernel
theorem dX7_chanceOfSets_77 : decode cX7_chanceOfSets 77 = .ok (.aload_n 0, 1) := by decide +kernel
theorem dX7_chanceOfSets_78 : decode cX7_chanceOfSets 78 = .ok (.iload 5, 2) := by decide +kernel
theorem dX7_chanceOfSets_80 : decode cX7_chanceOfSets 80 = .ok (.aload_n 1, 1) := by decide +kernel
theorem dX7_chanceOfSets_81 : decode cX7_chanceOfSets 81 = .ok (.iload 4, 2) := by decide +kernel
theorem dX7_chanceOfSets_83 : decode cX7_chanceOfSets 83 = .ok (.invokevirtual 82, 3) := by decide +kernel
theorem dX7_chanceOfSets_86 : decode cX7_chanceOfSets 86 = .ok (.invokevirtual 87, 3) := by decide +kernel
theorem dX7_chanceOfSets_89 : decode cX7_chanceOfSets 89 = .ok (.iinc 4 (-1), 3) := by decide +kernel
theorem dX7_chanceOfSets_92 : decode cX7_chanceOfSets 92 = .ok (.goto (-49), 3) := by decide +kernel
theorem dX7_chanceOfSets_95 : decode cX7_chanceOfSets 95 = .ok (.aload_n 0, 1) := by decide +kernel
theorem dX7_chanceOfSets_96 : decode cX7_chanceOfSets 96 = .ok (.getfield 11, 3) := by decide +kernel
theorem dX7_chanceOfSets_99 : decode cX7_chanceOfSets 99 = .ok (.iconst 0, 1) := by decide +kernel
theorem dX7_chanceOfSets_100 : decode cX7_chanceOfSets 100 = .ok (.laload, 1) := by decide +kernel
theorem dX7_chanceOfSets_101 : decode cX7_chanceOfSets 101 = .ok (.lload_n 2, 1) := by decide +kernel
theorem dX7_chanceOfSets_102 : decode cX7_chanceOfSets 102 = .ok (.lmul, 1) := by decide +kernel
theorem dX7_chanceOfSets_103 : decode cX7_chanceOfSets 103 = .ok (.lreturn, 1) := by decide +kernel
theorem dX7_fold_0 : decode cX7_fold 0 = .ok (.iconst 0, 1) := by decide +kernel
theorem dX7_fold_1 : decode cX7_fold 1 = .ok (.istore_n 3, 1) := by decide +kernel
theorem dX7_fold_2 : decode cX7_fold 2 = .ok (.iload_n 3, 1) := by decide +kernel
theorem dX7_fold_3 : decode cX7_fold 3 = .ok (.iload_n 1, 1) := by decide +kernel
theorem dX7_fold_4 : decode cX7_fold 4 = .ok (.if_icmp .ge 49, 3) := by decide +kernel
theorem dX7_fold_7 : decode cX7_fold 7 = .ok (.iload_n 3, 1) := by decide +kernel
theorem dX7_fold_8 : decode cX7_fold 8 = .ok (.iload_n 1, 1) := by decide +kernel
theorem dX7_fold_9 : decode cX7_fold 9 = .ok (.iadd, 1) := by decide +kernel
theorem dX7_fold_10 : decode cX7_fold 10 = .ok (.aload_n 0, 1) := by decide +kernel
theorem dX7_fold_11 : decode cX7_fold 11 = .ok (.getfield 18, 3) := by decide +kernel
theorem dX7_fold_14 : decode cX7_fold 14 = .ok (.if_icmp .ge 39, 3) := by decide +kernel
theorem dX7_fold_17 : decode cX7_fold 17 = .ok (.aload_n 0, 1) := by decide +kernel
theorem dX7_fold_18 : decode cX7_fold 18 = .ok (.getfield 11, 3) := by decide +kernel
theorem dX7_fold_21 : decode cX7_fold 21 = .ok (.iload_n 3, 1) := by decide +kernel
theorem dX7_fold_22 : decode cX7_fold 22 = .ok (.aload_n 0, 1) := by decide +kernel
theorem dX7_fold_23 : decode cX7_fold 23 = .ok (.getfield 11, 3) := by decide +kernel
theorem dX7_fold_26 : decode cX7_fold 26 = .ok (.iload_n 3, 1) := by decide +kernel
theorem dX7_fold_27 : decode cX7_fold 27 = .ok (.laload, 1) := by decide +kernel
theorem dX7_fold_28 : decode cX7_fold 28 = .ok (.bipush 10, 2) := by decide +kernel
theorem dX7_fold_30 : decode cX7_fold 30 = .ok (.iload_n 2, 1) := by decide +kernel
theorem dX7_fold_31 : decode cX7_fold 31 = .ok (.isub, 1) := by decide +kernel
theorem dX7_fold_32 : decode cX7_fold 32 = .ok (.i2l, 1) := by decide +kernel
theorem dX7_fold_33 : decode cX7_fold 33 = .ok (.lmul, 1) := by decide +kernel
theorem dX7_fold_34 : decode cX7_fold 34 = .ok (.aload_n 0, 1) := by decide +kernel
theorem dX7_fold_35 : decode cX7_fold 35 = .ok (.getfield 11, 3) := by decide +kernel
theorem dX7_fold_38 : decode cX7_fold 38 = .ok (.iload_n 3, 1) := by decide +kernel
theorem dX7_fold_39 : decode cX7_fold 39 = .ok (.iload_n 1, 1) := by decide +kernel
theorem dX7_fold_40 : decode cX7_fold 40 = .ok (.iadd, 1) := by decide +kernel
theorem dX7_fold_41 : decode cX7_fold 41 = .ok (.laload, 1) := by decide +kernel
theorem dX7_fold_42 : decode cX7_fold 42 = .ok (.iload_n 2, 1) := by decide +kernel
theorem dX7_fold_43 : decode cX7_fold 43 = .ok (.i2l, 1) := by decide +kernel
theorem dX7_fold_44 : decode cX7_fold 44 = .ok (.lmul, 1) := by decide +kernel
theorem dX7_fold_45 : decode cX7_fold 45 = .ok (.ladd, 1) := by decide +kernel
theorem dX7_fold_46 : decode cX7_fold 46 = .ok (.lastore, 1) := by decide +kernel
theorem dX7_fold_47 : decode cX7_fold 47 = .ok (.iinc 3 1, 3) := by decide +kernel
theorem dX7_fold_50 : decode cX7_fold 50 = .ok (.goto (-48), 3) := by decide +kernel
theorem dX7_fold_53 : decode cX7_fold 53 = .ok (.return_, 1) := by decide +kernel
theorem dX7_reckonLowChances_0 : decode cX7_reckonLowChances 0 = .ok (.aload_n 0, 1) := by decide +kernel
theorem dX7_reckonLowChances_1 : decode cX7_reckonLowChances 1 = .ok (.getfield 15, 3) := by decide +kernel
theorem dX7_reckonLowChances_4 : decode cX7_reckonLowChances 4 = .ok (.iconst 0, 1) := by decide +kernel
theorem dX7_reckonLowChances_5 : decode cX7_reckonLowChances 5 = .ok (.lconst 1, 1) := by decide +kernel
theorem dX7_reckonLowChances_6 : decode cX7_reckonLowChances 6 = .ok (.lastore, 1) := by decide +kernel
theorem dX7_reckonLowChances_7 : decode cX7_reckonLowChances 7 = .ok (.iconst 0, 1) := by decide +kernel
theorem dX7_reckonLowChances_8 : decode cX7_reckonLowChances 8 = .ok (.istore_n 2, 1) := by decide +kernel
theorem dX7_reckonLowChances_9 : decode cX7_reckonLowChances 9 = .ok (.iload_n 2, 1) := by decide +kernel
theorem dX7_reckonLowChances_10 : decode cX7_reckonLowChances 10 = .ok (.bipush 6, 2) := by decide +kernel
theorem dX7_reckonLowChances_12 : decode cX7_reckonLowChances 12 = .ok (.if_icmp .ge 76, 3) := by decide +kernel
theorem dX7_reckonLowChances_15 : decode cX7_reckonLowChances 15 = .ok (.aload_n 1, 1) := by decide +kernel
theorem dX7_reckonLowChances_16 : decode cX7_reckonLowChances 16 = .ok (.iload_n 2, 1) := by decide +kernel
theorem dX7_reckonLowChances_17 : decode cX7_reckonLowChances 17 = .ok (.invokevirtual 82, 3) := by decide +kernel
theorem dX7_reckonLowChances_20 : decode cX7_reckonLowChances 20 = .ok (.istore_n 3, 1) := by decide +kernel
theorem dX7_reckonLowChances_21 : decode cX7_reckonLowChances 21 = .ok (.iconst 1, 1) := by decide +kernel
theorem dX7_reckonLowChances_22 : decode cX7_reckonLowChances 22 = .ok (.iload_n 2, 1) := by decide +kernel
theorem dX7_reckonLowChances_23 : decode cX7_reckonLowChances 23 = .ok (.ishl, 1) := by decide +kernel
theorem dX7_reckonLowChances_24 : decode cX7_reckonLowChances 24 = .ok (.istore 4, 2) := by decide +kernel
theorem dX7_reckonLowChances_26 : decode cX7_reckonLowChances 26 = .ok (.iconst 0, 1) := by decide +kernel
theorem dX7_reckonLowChances_27 : decode cX7_reckonLowChances 27 = .ok (.istore 5, 2) := by decide +kernel
theorem dX7_reckonLowChances_29 : decode cX7_reckonLowChances 29 = .ok (.iload 5, 2) := by decide +kernel
theorem dX7_reckonLowChances_31 : decode cX7_reckonLowChances 31 = .ok (.iload 4, 2) := by decide +kernel
theorem dX7_reckonLowChances_33 : decode cX7_reckonLowChances 33 = .ok (.if_icmp .ge 49, 3) := by decide +kernel
theorem dX7_reckonLowChances_36 : decode cX7_reckonLowChances 36 = .ok (.aload_n 0, 1) := by decide +kernel
theorem dX7_reckonLowChances_37 : decode cX7_reckonLowChances 37 = .ok (.getfield 15, 3) := by decide +kernel
theorem dX7_reckonLowChances_40 : decode cX7_reckonLowChances 40 = .ok (.iload 5, 2) := by decide +kernel
theorem dX7_reckonLowChances_42 : decode cX7_reckonLowChances 42 = .ok (.iload 4, 2) := by decide +kernel
theorem dX7_reckonLowChances_44 : decode cX7_reckonLowChances 44 = .ok (.iadd, 1) := by decide +kernel
theorem dX7_reckonLowChances_45 : decode cX7_reckonLowChances 45 = .ok (.aload_n 0, 1) := by decide +kernel
theorem dX7_reckonLowChances_46 : decode cX7_reckonLowChances 46 = .ok (.getfield 15, 3) := by decide +kernel
theorem dX7_reckonLowChances_49 : decode cX7_reckonLowChances 49 = .ok (.iload 5, 2) := by decide +kernel
theorem dX7_reckonLowChances_51 : decode cX7_reckonLowChances 51 = .ok (.laload, 1) := by decide +kernel
theorem dX7_reckonLowChances_52 : decode cX7_reckonLowChances 52 = .ok (.iload_n 3, 1) := by decide +kernel
theorem dX7_reckonLowChances_53 : decode cX7_reckonLowChances 53 = .ok (.i2l, 1) := by decide +kernel
theorem dX7_reckonLowChances_54 : decode cX7_reckonLowChances 54 = .ok (.lmul, 1) := by decide +kernel
theorem dX7_reckonLowChances_55 : decode cX7_reckonLowChances 55 = .ok (.lastore, 1) := by decide +kernel
theorem dX7_reckonLowChances_56 : decode cX7_reckonLowChances 56 = .ok (.aload_n 0, 1) := by decide +kernel
theorem dX7_reckonLowChances_57 : decode cX7_reckonLowChances 57 = .ok (.getfield 15, 3) := by decide +kernel
theorem dX7_reckonLowChances_60 : decode cX7_reckonLowChances 60 = .ok (.iload 5, 2) := by decide +kernel
theorem dX7_reckonLowChances_62 : decode cX7_reckonLowChances 62 = .ok (.aload_n 0, 1) := by decide +kernel
theorem dX7_reckonLowChances_63 : decode cX7_reckonLowChances 63 = .ok (.getfield 15, 3) := by decide +kernel
end
section
theorem dX7_reckonLowChances_66 : decode cX7_reckonLowChances 66 = .ok (.iload 5, 2) := by decide +kernel
theorem dX7_reckonLowChances_68 : decode cX7_reckonLowChances 68 = .ok (.laload, 1) := by decide +kernel
theorem dX7_reckonLowChances_69 : decode cX7_reckonLowChances 69 = .ok (.bipush 10, 2) := by decide +kernel
theorem dX7_reckonLowChances_71 : decode cX7_reckonLowChances 71 = .ok (.iload_n 3, 1) := by decide +kernel
theorem dX7_reckonLowChances_72 : decode cX7_reckonLowChances 72 = .ok (.isub, 1) := by decide +kernel
theorem dX7_reckonLowChances_73 : decode cX7_reckonLowChances 73 = .ok (.i2l, 1) := by decide +kernel
theorem dX7_reckonLowChances_74 : decode cX7_reckonLowChances 74 = .ok (.lmul, 1) := by decide +kernel
theorem dX7_reckonLowChances_75 : decode cX7_reckonLowChances 75 = .ok (.lastore, 1) := by decide +kernel
theorem dX7_reckonLowChances_76 : decode cX7_reckonLowChances 76 = .ok (.iinc 5 1, 3) := by decide +kernel
theorem dX7_reckonLowChances_79 : decode cX7_reckonLowChances 79 = .ok (.goto (-50), 3) := by decide +kernel
theorem dX7_reckonLowChances_82 : decode cX7_reckonLowChances 82 = .ok (.iinc 2 1, 3) := by decide +kernel
theorem dX7_reckonLowChances_85 : decode cX7_reckonLowChances 85 = .ok (.goto (-76), 3) := by decide +kernel
theorem dX7_reckonLowChances_88 : decode cX7_reckonLowChances 88 = .ok (.return_, 1) := by decide +kernel
theorem dX7_chanceOfWord_0 : decode cX7_chanceOfWord 0 = .ok (.lconst 0, 1) := by decide +kernel
theorem dX7_chanceOfWord_1 : decode cX7_chanceOfWord 1 = .ok (.lstore_n 3, 1) := by decide +kernel
theorem dX7_chanceOfWord_2 : decode cX7_chanceOfWord 2 = .ok (.lload_n 1, 1) := by decide +kernel
theorem dX7_chanceOfWord_3 : decode cX7_chanceOfWord 3 = .ok (.lstore 5, 2) := by decide +kernel
theorem dX7_chanceOfWord_5 : decode cX7_chanceOfWord 5 = .ok (.iconst 0, 1) := by decide +kernel
theorem dX7_chanceOfWord_6 : decode cX7_chanceOfWord 6 = .ok (.istore 7, 2) := by decide +kernel
theorem dX7_chanceOfWord_8 : decode cX7_chanceOfWord 8 = .ok (.iload 7, 2) := by decide +kernel
theorem dX7_chanceOfWord_10 : decode cX7_chanceOfWord 10 = .ok (.bipush 64, 2) := by decide +kernel
theorem dX7_chanceOfWord_12 : decode cX7_chanceOfWord 12 = .ok (.if_icmp .ge 41, 3) := by decide +kernel
theorem dX7_chanceOfWord_15 : decode cX7_chanceOfWord 15 = .ok (.lload 5, 2) := by decide +kernel
theorem dX7_chanceOfWord_17 : decode cX7_chanceOfWord 17 = .ok (.lconst 0, 1) := by decide +kernel
theorem dX7_chanceOfWord_18 : decode cX7_chanceOfWord 18 = .ok (.lcmp, 1) := by decide +kernel
theorem dX7_chanceOfWord_19 : decode cX7_chanceOfWord 19 = .ok (.ifCond .eq 34, 3) := by decide +kernel
theorem dX7_chanceOfWord_22 : decode cX7_chanceOfWord 22 = .ok (.lload_n 3, 1) := by decide +kernel
theorem dX7_chanceOfWord_23 : decode cX7_chanceOfWord 23 = .ok (.aload_n 0, 1) := by decide +kernel
theorem dX7_chanceOfWord_24 : decode cX7_chanceOfWord 24 = .ok (.getfield 15, 3) := by decide +kernel
theorem dX7_chanceOfWord_27 : decode cX7_chanceOfWord 27 = .ok (.lload 5, 2) := by decide +kernel
theorem dX7_chanceOfWord_29 : decode cX7_chanceOfWord 29 = .ok (.invokestatic 55, 3) := by decide +kernel
theorem dX7_chanceOfWord_32 : decode cX7_chanceOfWord 32 = .ok (.bipush 63, 2) := by decide +kernel
theorem dX7_chanceOfWord_34 : decode cX7_chanceOfWord 34 = .ok (.iand, 1) := by decide +kernel
theorem dX7_chanceOfWord_35 : decode cX7_chanceOfWord 35 = .ok (.laload, 1) := by decide +kernel
theorem dX7_chanceOfWord_36 : decode cX7_chanceOfWord 36 = .ok (.ladd, 1) := by decide +kernel
theorem dX7_chanceOfWord_37 : decode cX7_chanceOfWord 37 = .ok (.lstore_n 3, 1) := by decide +kernel
theorem dX7_chanceOfWord_38 : decode cX7_chanceOfWord 38 = .ok (.lload 5, 2) := by decide +kernel
theorem dX7_chanceOfWord_40 : decode cX7_chanceOfWord 40 = .ok (.lload 5, 2) := by decide +kernel
theorem dX7_chanceOfWord_42 : decode cX7_chanceOfWord 42 = .ok (.lconst 1, 1) := by decide +kernel
theorem dX7_chanceOfWord_43 : decode cX7_chanceOfWord 43 = .ok (.lsub, 1) := by decide +kernel
theorem dX7_chanceOfWord_44 : decode cX7_chanceOfWord 44 = .ok (.land, 1) := by decide +kernel
theorem dX7_chanceOfWord_45 : decode cX7_chanceOfWord 45 = .ok (.lstore 5, 2) := by decide +kernel
theorem dX7_chanceOfWord_47 : decode cX7_chanceOfWord 47 = .ok (.iinc 7 1, 3) := by decide +kernel
theorem dX7_chanceOfWord_50 : decode cX7_chanceOfWord 50 = .ok (.goto (-42), 3) := by decide +kernel
theorem dX7_chanceOfWord_53 : decode cX7_chanceOfWord 53 = .ok (.lload_n 3, 1) := by decide +kernel
theorem dX7_chanceOfWord_54 : decode cX7_chanceOfWord 54 = .ok (.lreturn, 1) := by decide +kernel
theorem dX7_lowestBit_0 : decode cX7_lowestBit 0 = .ok (.lload_n 0, 1) := by decide +kernel
theorem dX7_lowestBit_1 : decode cX7_lowestBit 1 = .ok (.lload_n 0, 1) := by decide +kernel
theorem dX7_lowestBit_2 : decode cX7_lowestBit 2 = .ok (.lneg, 1) := by decide +kernel
theorem dX7_lowestBit_3 : decode cX7_lowestBit 3 = .ok (.land, 1) := by decide +kernel
theorem dX7_lowestBit_4 : decode cX7_lowestBit 4 = .ok (.lconst 1, 1) := by decide +kernel
theorem dX7_lowestBit_5 : decode cX7_lowestBit 5 = .ok (.lsub, 1) := by decide +kernel
theorem dX7_lowestBit_6 : decode cX7_lowestBit 6 = .ok (.invokestatic 59, 3) := by decide +kernel
theorem dX7_lowestBit_9 : decode cX7_lowestBit 9 = .ok (.ireturn, 1) := by decide +kernel
theorem dX7_closedWord_0 : decode cX7_closedWord 0 = .ok (.lload_n 0, 1) := by decide +kernel
theorem dX7_closedWord_1 : decode cX7_closedWord 1 = .ok (.lstore_n 2, 1) := by decide +kernel
theorem dX7_closedWord_2 : decode cX7_closedWord 2 = .ok (.iconst 0, 1) := by decide +kernel
theorem dX7_closedWord_3 : decode cX7_closedWord 3 = .ok (.istore 4, 2) := by decide +kernel
theorem dX7_closedWord_5 : decode cX7_closedWord 5 = .ok (.iload 4, 2) := by decide +kernel
theorem dX7_closedWord_7 : decode cX7_closedWord 7 = .ok (.bipush 6, 2) := by decide +kernel
theorem dX7_closedWord_9 : decode cX7_closedWord 9 = .ok (.if_icmp .ge 25, 3) := by decide +kernel
theorem dX7_closedWord_12 : decode cX7_closedWord 12 = .ok (.lload_n 2, 1) := by decide +kernel
theorem dX7_closedWord_13 : decode cX7_closedWord 13 = .ok (.lload_n 2, 1) := by decide +kernel
theorem dX7_closedWord_14 : decode cX7_closedWord 14 = .ok (.getstatic 91, 3) := by decide +kernel
theorem dX7_closedWord_17 : decode cX7_closedWord 17 = .ok (.iload 4, 2) := by decide +kernel
theorem dX7_closedWord_19 : decode cX7_closedWord 19 = .ok (.laload, 1) := by decide +kernel
theorem dX7_closedWord_20 : decode cX7_closedWord 20 = .ok (.land, 1) := by decide +kernel
theorem dX7_closedWord_21 : decode cX7_closedWord 21 = .ok (.iconst 1, 1) := by decide +kernel
theorem dX7_closedWord_22 : decode cX7_closedWord 22 = .ok (.iload 4, 2) := by decide +kernel
theorem dX7_closedWord_24 : decode cX7_closedWord 24 = .ok (.ishl, 1) := by decide +kernel
theorem dX7_closedWord_25 : decode cX7_closedWord 25 = .ok (.lshl, 1) := by decide +kernel
theorem dX7_closedWord_26 : decode cX7_closedWord 26 = .ok (.lor, 1) := by decide +kernel
theorem dX7_closedWord_27 : decode cX7_closedWord 27 = .ok (.lstore_n 2, 1) := by decide +kernel
theorem dX7_closedWord_28 : decode cX7_closedWord 28 = .ok (.iinc 4 1, 3) := by decide +kernel
theorem dX7_closedWord_31 : decode cX7_closedWord 31 = .ok (.goto (-26), 3) := by decide +kernel
theorem dX7_closedWord_34 : decode cX7_closedWord 34 = .ok (.lload_n 2, 1) := by decide +kernel
theorem dX7_closedWord_35 : decode cX7_closedWord 35 = .ok (.lreturn, 1) := by decide +kernel
theorem dX7_grownWord_0 : decode cX7_grownWord 0 = .ok (.lconst 0, 1) := by decide +kernel
theorem dX7_grownWord_1 : decode cX7_grownWord 1 = .ok (.lstore_n 2, 1) := by decide +kernel
theorem dX7_grownWord_2 : decode cX7_grownWord 2 = .ok (.iconst 0, 1) := by decide +kernel
theorem dX7_grownWord_3 : decode cX7_grownWord 3 = .ok (.istore 4, 2) := by decide +kernel
theorem dX7_grownWord_5 : decode cX7_grownWord 5 = .ok (.iload 4, 2) := by decide +kernel
theorem dX7_grownWord_7 : decode cX7_grownWord 7 = .ok (.bipush 6, 2) := by decide +kernel
theorem dX7_grownWord_9 : decode cX7_grownWord 9 = .ok (.if_icmp .ge 25, 3) := by decide +kernel
theorem dX7_grownWord_12 : decode cX7_grownWord 12 = .ok (.lload_n 2, 1) := by decide +kernel
theorem dX7_grownWord_13 : decode cX7_grownWord 13 = .ok (.lload_n 0, 1) := by decide +kernel
theorem dX7_grownWord_14 : decode cX7_grownWord 14 = .ok (.getstatic 91, 3) := by decide +kernel
theorem dX7_grownWord_17 : decode cX7_grownWord 17 = .ok (.iload 4, 2) := by decide +kernel
theorem dX7_grownWord_19 : decode cX7_grownWord 19 = .ok (.laload, 1) := by decide +kernel
theorem dX7_grownWord_20 : decode cX7_grownWord 20 = .ok (.land, 1) := by decide +kernel
theorem dX7_grownWord_21 : decode cX7_grownWord 21 = .ok (.iconst 1, 1) := by decide +kernel
theorem dX7_grownWord_22 : decode cX7_grownWord 22 = .ok (.iload 4, 2) := by decide +kernel
theorem dX7_grownWord_24 : decode cX7_grownWord 24 = .ok (.ishl, 1) := by decide +kernel
theorem dX7_grownWord_25 : decode cX7_grownWord 25 = .ok (.lshl, 1) := by decide +kernel
theorem dX7_grownWord_26 : decode cX7_grownWord 26 = .ok (.lor, 1) := by decide +kernel
theorem dX7_grownWord_27 : decode cX7_grownWord 27 = .ok (.lstore_n 2, 1) := by decide +kernel
theorem dX7_grownWord_28 : decode cX7_grownWord 28 = .ok (.iinc 4 1, 3) := by decide +kernel
theorem dX7_grownWord_31 : decode cX7_grownWord 31 = .ok (.goto (-26), 3) := by decide +kernel
theorem dX7_grownWord_34 : decode cX7_grownWord 34 = .ok (.lload_n 2, 1) := by decide +kernel
theorem dX7_grownWord_35 : decode cX7_grownWord 35 = .ok (.lreturn, 1) := by decide +kernel
theorem dX7_flippedWord_0 : decode cX7_flippedWord 0 = .ok (.lload_n 0, 1) := by decide +kernel
theorem dX7_flippedWord_1 : decode cX7_flippedWord 1 = .ok (.lstore_n 3, 1) := by decide +kernel
theorem dX7_flippedWord_2 : decode cX7_flippedWord 2 = .ok (.iconst 0, 1) := by decide +kernel
theorem dX7_flippedWord_3 : decode cX7_flippedWord 3 = .ok (.istore 5, 2) := by decide +kernel
theorem dX7_flippedWord_5 : decode cX7_flippedWord 5 = .ok (.iload 5, 2) := by decide +kernel
theorem dX7_flippedWord_7 : decode cX7_flippedWord 7 = .ok (.bipush 6, 2) := by decide +kernel
theorem dX7_flippedWord_9 : decode cX7_flippedWord 9 = .ok (.if_icmp .ge 48, 3) := by decide +kernel
theorem dX7_flippedWord_12 : decode cX7_flippedWord 12 = .ok (.iload_n 2, 1) := by decide +kernel
theorem dX7_flippedWord_13 : decode cX7_flippedWord 13 = .ok (.iload 5, 2) := by decide +kernel
theorem dX7_flippedWord_15 : decode cX7_flippedWord 15 = .ok (.ishr, 1) := by decide +kernel
theorem dX7_flippedWord_16 : decode cX7_flippedWord 16 = .ok (.iconst 1, 1) := by decide +kernel
theorem dX7_flippedWord_17 : decode cX7_flippedWord 17 = .ok (.iand, 1) := by decide +kernel
theorem dX7_flippedWord_18 : decode cX7_flippedWord 18 = .ok (.ifCond .eq 33, 3) := by decide +kernel
theorem dX7_flippedWord_21 : decode cX7_flippedWord 21 = .ok (.iconst 1, 1) := by decide +kernel
theorem dX7_flippedWord_22 : decode cX7_flippedWord 22 = .ok (.iload 5, 2) := by decide +kernel
theorem dX7_flippedWord_24 : decode cX7_flippedWord 24 = .ok (.ishl, 1) := by decide +kernel
theorem dX7_flippedWord_25 : decode cX7_flippedWord 25 = .ok (.istore 6, 2) := by decide +kernel
theorem dX7_flippedWord_27 : decode cX7_flippedWord 27 = .ok (.lload_n 3, 1) := by decide +kernel
theorem dX7_flippedWord_28 : decode cX7_flippedWord 28 = .ok (.getstatic 91, 3) := by decide +kernel
theorem dX7_flippedWord_31 : decode cX7_flippedWord 31 = .ok (.iload 5, 2) := by decide +kernel
theorem dX7_flippedWord_33 : decode cX7_flippedWord 33 = .ok (.laload, 1) := by decide +kernel
theorem dX7_flippedWord_34 : decode cX7_flippedWord 34 = .ok (.land, 1) := by decide +kernel
theorem dX7_flippedWord_35 : decode cX7_flippedWord 35 = .ok (.iload 6, 2) := by decide +kernel
theorem dX7_flippedWord_37 : decode cX7_flippedWord 37 = .ok (.lshl, 1) := by decide +kernel
theorem dX7_flippedWord_38 : decode cX7_flippedWord 38 = .ok (.lload_n 3, 1) := by decide +kernel
theorem dX7_flippedWord_39 : decode cX7_flippedWord 39 = .ok (.iload 6, 2) := by decide +kernel
theorem dX7_flippedWord_41 : decode cX7_flippedWord 41 = .ok (.lushr, 1) := by decide +kernel
theorem dX7_flippedWord_42 : decode cX7_flippedWord 42 = .ok (.getstatic 91, 3) := by decide +kernel
theorem dX7_flippedWord_45 : decode cX7_flippedWord 45 = .ok (.iload 5, 2) := by decide +kernel
theorem dX7_flippedWord_47 : decode cX7_flippedWord 47 = .ok (.laload, 1) := by decide +kernel
theorem dX7_flippedWord_48 : decode cX7_flippedWord 48 = .ok (.land, 1) := by decide +kernel
theorem dX7_flippedWord_49 : decode cX7_flippedWord 49 = .ok (.lor, 1) := by decide +kernel
theorem dX7_flippedWord_50 : decode cX7_flippedWord 50 = .ok (.lstore_n 3, 1) := by decide +kernel
theorem dX7_flippedWord_51 : decode cX7_flippedWord 51 = .ok (.iinc 5 1, 3) := by decide +kernel
theorem dX7_flippedWord_54 : decode cX7_flippedWord 54 = .ok (.goto (-49), 3) := by decide +kernel
theorem dX7_flippedWord_57 : decode cX7_flippedWord 57 = .ok (.lload_n 3, 1) := by decide +kernel
theorem dX7_flippedWord_58 : decode cX7_flippedWord 58 = .ok (.lreturn, 1) := by decide +kernel
theorem dX7_withinWord_0 : decode cX7_withinWord 0 = .ok (.ldc2_w 38, 3) := by decide +kernel
theorem dX7_withinWord_3 : decode cX7_withinWord 3 = .ok (.lstore_n 1, 1) := by decide +kernel
theorem dX7_withinWord_4 : decode cX7_withinWord 4 = .ok (.iconst 0, 1) := by decide +kernel
theorem dX7_withinWord_5 : decode cX7_withinWord 5 = .ok (.istore_n 3, 1) := by decide +kernel
theorem dX7_withinWord_6 : decode cX7_withinWord 6 = .ok (.iload_n 3, 1) := by decide +kernel
theorem dX7_withinWord_7 : decode cX7_withinWord 7 = .ok (.bipush 6, 2) := by decide +kernel
theorem dX7_withinWord_9 : decode cX7_withinWord 9 = .ok (.if_icmp .ge 25, 3) := by decide +kernel
theorem dX7_withinWord_12 : decode cX7_withinWord 12 = .ok (.iload_n 0, 1) := by decide +kernel
theorem dX7_withinWord_13 : decode cX7_withinWord 13 = .ok (.iload_n 3, 1) := by decide +kernel
theorem dX7_withinWord_14 : decode cX7_withinWord 14 = .ok (.ishr, 1) := by decide +kernel
theorem dX7_withinWord_15 : decode cX7_withinWord 15 = .ok (.iconst 1, 1) := by decide +kernel
theorem dX7_withinWord_16 : decode cX7_withinWord 16 = .ok (.iand, 1) := by decide +kernel
theorem dX7_withinWord_17 : decode cX7_withinWord 17 = .ok (.ifCond .ne 11, 3) := by decide +kernel
theorem dX7_withinWord_20 : decode cX7_withinWord 20 = .ok (.lload_n 1, 1) := by decide +kernel
theorem dX7_withinWord_21 : decode cX7_withinWord 21 = .ok (.getstatic 91, 3) := by decide +kernel
theorem dX7_withinWord_24 : decode cX7_withinWord 24 = .ok (.iload_n 3, 1) := by decide +kernel
theorem dX7_withinWord_25 : decode cX7_withinWord 25 = .ok (.laload, 1) := by decide +kernel
theorem dX7_withinWord_26 : decode cX7_withinWord 26 = .ok (.land, 1) := by decide +kernel
theorem dX7_withinWord_27 : decode cX7_withinWord 27 = .ok (.lstore_n 1, 1) := by decide +kernel
theorem dX7_withinWord_28 : decode cX7_withinWord 28 = .ok (.iinc 3 1, 3) := by decide +kernel
theorem dX7_withinWord_31 : decode cX7_withinWord 31 = .ok (.goto (-25), 3) := by decide +kernel
theorem dX7_withinWord_34 : decode cX7_withinWord 34 = .ok (.lload_n 1, 1) := by decide +kernel
theorem dX7_withinWord_35 : decode cX7_withinWord 35 = .ok (.lreturn, 1) := by decide +kernel
end
section
theorem dX10_init_0 : decode cX10_init 0 = .ok (.aload_n 0, 1) := by decide +kernel
theorem dX10_init_1 : decode cX10_init 1 = .ok (.invokespecial 1, 3) := by decide +kernel
theorem dX10_init_4 : decode cX10_init 4 = .ok (.aload_n 0, 1) := by decide +kernel
theorem dX10_init_5 : decode cX10_init 5 = .ok (.new 7, 3) := by decide +kernel
theorem dX10_init_8 : decode cX10_init 8 = .ok (.dup, 1) := by decide +kernel
theorem dX10_init_9 : decode cX10_init 9 = .ok (.invokespecial 9, 3) := by decide +kernel
theorem dX10_init_12 : decode cX10_init 12 = .ok (.putfield 10, 3) := by decide +kernel
theorem dX10_init_15 : decode cX10_init 15 = .ok (.aload_n 0, 1) := by decide +kernel
theorem dX10_init_16 : decode cX10_init 16 = .ok (.bipush 24, 2) := by decide +kernel
theorem dX10_init_18 : decode cX10_init 18 = .ok (.anewarray 16, 3) := by decide +kernel
theorem dX10_init_21 : decode cX10_init 21 = .ok (.putfield 18, 3) := by decide +kernel
theorem dX10_init_24 : decode cX10_init 24 = .ok (.aload_n 0, 1) := by decide +kernel
theorem dX10_init_25 : decode cX10_init 25 = .ok (.iconst 0, 1) := by decide +kernel
theorem dX10_init_26 : decode cX10_init 26 = .ok (.putfield 22, 3) := by decide +kernel
theorem dX10_init_29 : decode cX10_init 29 = .ok (.aload_n 0, 1) := by decide +kernel
theorem dX10_init_30 : decode cX10_init 30 = .ok (.bipush 120, 2) := by decide +kernel
theorem dX10_init_32 : decode cX10_init 32 = .ok (.newarray .int, 2) := by decide +kernel
theorem dX10_init_34 : decode cX10_init 34 = .ok (.putfield 26, 3) := by decide +kernel
theorem dX10_init_37 : decode cX10_init 37 = .ok (.aload_n 0, 1) := by decide +kernel
theorem dX10_init_38 : decode cX10_init 38 = .ok (.iconst 0, 1) := by decide +kernel
theorem dX10_init_39 : decode cX10_init 39 = .ok (.putfield 30, 3) := by decide +kernel
theorem dX10_init_42 : decode cX10_init 42 = .ok (.aload_n 0, 1) := by decide +kernel
theorem dX10_init_43 : decode cX10_init 43 = .ok (.new 33, 3) := by decide +kernel
theorem dX10_init_46 : decode cX10_init 46 = .ok (.dup, 1) := by decide +kernel
theorem dX10_init_47 : decode cX10_init 47 = .ok (.invokespecial 35, 3) := by decide +kernel
theorem dX10_init_50 : decode cX10_init 50 = .ok (.putfield 36, 3) := by decide +kernel
theorem dX10_init_53 : decode cX10_init 53 = .ok (.aload_n 0, 1) := by decide +kernel
theorem dX10_init_54 : decode cX10_init 54 = .ok (.bipush 16, 2) := by decide +kernel
theorem dX10_init_56 : decode cX10_init 56 = .ok (.anewarray 40, 3) := by decide +kernel
theorem dX10_init_59 : decode cX10_init 59 = .ok (.putfield 42, 3) := by decide +kernel
theorem dX10_init_62 : decode cX10_init 62 = .ok (.aload_n 0, 1) := by decide +kernel
theorem dX10_init_63 : decode cX10_init 63 = .ok (.new 46, 3) := by decide +kernel
theorem dX10_init_66 : decode cX10_init 66 = .ok (.dup, 1) := by decide +kernel
theorem dX10_init_67 : decode cX10_init 67 = .ok (.invokespecial 48, 3) := by decide +kernel
theorem dX10_init_70 : decode cX10_init 70 = .ok (.putfield 49, 3) := by decide +kernel
theorem dX10_init_73 : decode cX10_init 73 = .ok (.aload_n 0, 1) := by decide +kernel
theorem dX10_init_74 : decode cX10_init 74 = .ok (.new 53, 3) := by decide +kernel
theorem dX10_init_77 : decode cX10_init 77 = .ok (.dup, 1) := by decide +kernel
theorem dX10_init_78 : decode cX10_init 78 = .ok (.invokespecial 55, 3) := by decide +kernel
theorem dX10_init_81 : decode cX10_init 81 = .ok (.putfield 56, 3) := by decide +kernel
theorem dX10_init_84 : decode cX10_init 84 = .ok (.aload_n 0, 1) := by decide +kernel
theorem dX10_init_85 : decode cX10_init 85 = .ok (.new 60, 3) := by decide +kernel
theorem dX10_init_88 : decode cX10_init 88 = .ok (.dup, 1) := by decide +kernel
theorem dX10_init_89 : decode cX10_init 89 = .ok (.invokespecial 62, 3) := by decide +kernel
theorem dX10_init_92 : decode cX10_init 92 = .ok (.putfield 63, 3) := by decide +kernel
theorem dX10_init_95 : decode cX10_init 95 = .ok (.aload_n 0, 1) := by decide +kernel
theorem dX10_init_96 : decode cX10_init 96 = .ok (.new 67, 3) := by decide +kernel
theorem dX10_init_99 : decode cX10_init 99 = .ok (.dup, 1) := by decide +kernel
theorem dX10_init_100 : decode cX10_init 100 = .ok (.invokespecial 69, 3) := by decide +kernel
theorem dX10_init_103 : decode cX10_init 103 = .ok (.putfield 70, 3) := by decide +kernel
theorem dX10_init_106 : decode cX10_init 106 = .ok (.aload_n 0, 1) := by decide +kernel
theorem dX10_init_107 : decode cX10_init 107 = .ok (.iconst 0, 1) := by decide +kernel
theorem dX10_init_108 : decode cX10_init 108 = .ok (.putfield 74, 3) := by decide +kernel
theorem dX10_init_111 : decode cX10_init 111 = .ok (.iconst 0, 1) := by decide +kernel
theorem dX10_init_112 : decode cX10_init 112 = .ok (.istore_n 1, 1) := by decide +kernel
theorem dX10_init_113 : decode cX10_init 113 = .ok (.iload_n 1, 1) := by decide +kernel
theorem dX10_init_114 : decode cX10_init 114 = .ok (.bipush 24, 2) := by decide +kernel
theorem dX10_init_116 : decode cX10_init 116 = .ok (.if_icmp .ge 22, 3) := by decide +kernel
theorem dX10_init_119 : decode cX10_init 119 = .ok (.aload_n 0, 1) := by decide +kernel
theorem dX10_init_120 : decode cX10_init 120 = .ok (.getfield 18, 3) := by decide +kernel
theorem dX10_init_123 : decode cX10_init 123 = .ok (.iload_n 1, 1) := by decide +kernel
theorem dX10_init_124 : decode cX10_init 124 = .ok (.new 16, 3) := by decide +kernel
theorem dX10_init_127 : decode cX10_init 127 = .ok (.dup, 1) := by decide +kernel
theorem dX10_init_128 : decode cX10_init 128 = .ok (.invokespecial 77, 3) := by decide +kernel
theorem dX10_init_131 : decode cX10_init 131 = .ok (.aastore, 1) := by decide +kernel
theorem dX10_init_132 : decode cX10_init 132 = .ok (.iinc 1 1, 3) := by decide +kernel
theorem dX10_init_135 : decode cX10_init 135 = .ok (.goto (-22), 3) := by decide +kernel
theorem dX10_init_138 : decode cX10_init 138 = .ok (.iconst 0, 1) := by decide +kernel
theorem dX10_init_139 : decode cX10_init 139 = .ok (.istore_n 1, 1) := by decide +kernel
theorem dX10_init_140 : decode cX10_init 140 = .ok (.iload_n 1, 1) := by decide +kernel
theorem dX10_init_141 : decode cX10_init 141 = .ok (.bipush 16, 2) := by decide +kernel
theorem dX10_init_143 : decode cX10_init 143 = .ok (.if_icmp .ge 22, 3) := by decide +kernel
theorem dX10_init_146 : decode cX10_init 146 = .ok (.aload_n 0, 1) := by decide +kernel
theorem dX10_init_147 : decode cX10_init 147 = .ok (.getfield 42, 3) := by decide +kernel
theorem dX10_init_150 : decode cX10_init 150 = .ok (.iload_n 1, 1) := by decide +kernel
theorem dX10_init_151 : decode cX10_init 151 = .ok (.new 40, 3) := by decide +kernel
theorem dX10_init_154 : decode cX10_init 154 = .ok (.dup, 1) := by decide +kernel
theorem dX10_init_155 : decode cX10_init 155 = .ok (.invokespecial 78, 3) := by decide +kernel
theorem dX10_init_158 : decode cX10_init 158 = .ok (.aastore, 1) := by decide +kernel
theorem dX10_init_159 : decode cX10_init 159 = .ok (.iinc 1 1, 3) := by decide +kernel
theorem dX10_init_162 : decode cX10_init 162 = .ok (.goto (-22), 3) := by decide +kernel
theorem dX10_init_165 : decode cX10_init 165 = .ok (.return_, 1) := by decide +kernel
theorem dX10_keeper_0 : decode cX10_keeper 0 = .ok (.iload_n 1, 1) := by decide +kernel
theorem dX10_keeper_1 : decode cX10_keeper 1 = .ok (.iconst 1, 1) := by decide +kernel
theorem dX10_keeper_2 : decode cX10_keeper 2 = .ok (.if_icmp .lt 16, 3) := by decide +kernel
theorem dX10_keeper_5 : decode cX10_keeper 5 = .ok (.iload_n 1, 1) := by decide +kernel
theorem dX10_keeper_6 : decode cX10_keeper 6 = .ok (.bipush 100, 2) := by decide +kernel
theorem dX10_keeper_8 : decode cX10_keeper 8 = .ok (.if_icmp .gt 10, 3) := by decide +kernel
theorem dX10_keeper_11 : decode cX10_keeper 11 = .ok (.iload_n 2, 1) := by decide +kernel
theorem dX10_keeper_12 : decode cX10_keeper 12 = .ok (.invokestatic 79, 3) := by decide +kernel
theorem dX10_keeper_15 : decode cX10_keeper 15 = .ok (.ifCond .ne 9, 3) := by decide +kernel
theorem dX10_keeper_18 : decode cX10_keeper 18 = .ok (.aload_n 0, 1) := by decide +kernel
theorem dX10_keeper_19 : decode cX10_keeper 19 = .ok (.iconst 2, 1) := by decide +kernel
theorem dX10_keeper_20 : decode cX10_keeper 20 = .ok (.invokevirtual 83, 3) := by decide +kernel
theorem dX10_keeper_23 : decode cX10_keeper 23 = .ok (.ireturn, 1) := by decide +kernel
theorem dX10_keeper_24 : decode cX10_keeper 24 = .ok (.aload_n 0, 1) := by decide +kernel
theorem dX10_keeper_25 : decode cX10_keeper 25 = .ok (.getfield 10, 3) := by decide +kernel
theorem dX10_keeper_28 : decode cX10_keeper 28 = .ok (.getfield 87, 3) := by decide +kernel
theorem dX10_keeper_31 : decode cX10_keeper 31 = .ok (.istore_n 3, 1) := by decide +kernel
theorem dX10_keeper_32 : decode cX10_keeper 32 = .ok (.iload_n 3, 1) := by decide +kernel
theorem dX10_keeper_33 : decode cX10_keeper 33 = .ok (.ifCond .lt 9, 3) := by decide +kernel
theorem dX10_keeper_36 : decode cX10_keeper 36 = .ok (.iload_n 3, 1) := by decide +kernel
theorem dX10_keeper_37 : decode cX10_keeper 37 = .ok (.bipush 16, 2) := by decide +kernel
theorem dX10_keeper_39 : decode cX10_keeper 39 = .ok (.if_icmp .lt 9, 3) := by decide +kernel
theorem dX10_keeper_42 : decode cX10_keeper 42 = .ok (.aload_n 0, 1) := by decide +kernel
theorem dX10_keeper_43 : decode cX10_keeper 43 = .ok (.iconst 4, 1) := by decide +kernel
theorem dX10_keeper_44 : decode cX10_keeper 44 = .ok (.invokevirtual 83, 3) := by decide +kernel
theorem dX10_keeper_47 : decode cX10_keeper 47 = .ok (.ireturn, 1) := by decide +kernel
theorem dX10_keeper_48 : decode cX10_keeper 48 = .ok (.aload_n 0, 1) := by decide +kernel
theorem dX10_keeper_49 : decode cX10_keeper 49 = .ok (.getfield 10, 3) := by decide +kernel
theorem dX10_keeper_52 : decode cX10_keeper 52 = .ok (.getfield 90, 3) := by decide +kernel
theorem dX10_keeper_55 : decode cX10_keeper 55 = .ok (.iload_n 3, 1) := by decide +kernel
theorem dX10_keeper_56 : decode cX10_keeper 56 = .ok (.iload_n 1, 1) := by decide +kernel
theorem dX10_keeper_57 : decode cX10_keeper 57 = .ok (.iastore, 1) := by decide +kernel
theorem dX10_keeper_58 : decode cX10_keeper 58 = .ok (.aload_n 0, 1) := by decide +kernel
theorem dX10_keeper_59 : decode cX10_keeper 59 = .ok (.getfield 10, 3) := by decide +kernel
theorem dX10_keeper_62 : decode cX10_keeper 62 = .ok (.getfield 93, 3) := by decide +kernel
theorem dX10_keeper_65 : decode cX10_keeper 65 = .ok (.iload_n 3, 1) := by decide +kernel
theorem dX10_keeper_66 : decode cX10_keeper 66 = .ok (.iload_n 2, 1) := by decide +kernel
theorem dX10_keeper_67 : decode cX10_keeper 67 = .ok (.iastore, 1) := by decide +kernel
theorem dX10_keeper_68 : decode cX10_keeper 68 = .ok (.aload_n 0, 1) := by decide +kernel
theorem dX10_keeper_69 : decode cX10_keeper 69 = .ok (.getfield 10, 3) := by decide +kernel
theorem dX10_keeper_72 : decode cX10_keeper 72 = .ok (.getfield 96, 3) := by decide +kernel
theorem dX10_keeper_75 : decode cX10_keeper 75 = .ok (.iload_n 3, 1) := by decide +kernel
theorem dX10_keeper_76 : decode cX10_keeper 76 = .ok (.iconst 0, 1) := by decide +kernel
theorem dX10_keeper_77 : decode cX10_keeper 77 = .ok (.iastore, 1) := by decide +kernel
theorem dX10_keeper_78 : decode cX10_keeper 78 = .ok (.aload_n 0, 1) := by decide +kernel
theorem dX10_keeper_79 : decode cX10_keeper 79 = .ok (.getfield 10, 3) := by decide +kernel
theorem dX10_keeper_82 : decode cX10_keeper 82 = .ok (.iload_n 3, 1) := by decide +kernel
theorem dX10_keeper_83 : decode cX10_keeper 83 = .ok (.iconst 1, 1) := by decide +kernel
theorem dX10_keeper_84 : decode cX10_keeper 84 = .ok (.iadd, 1) := by decide +kernel
theorem dX10_keeper_85 : decode cX10_keeper 85 = .ok (.putfield 87, 3) := by decide +kernel
theorem dX10_keeper_88 : decode cX10_keeper 88 = .ok (.aload_n 0, 1) := by decide +kernel
theorem dX10_keeper_89 : decode cX10_keeper 89 = .ok (.getfield 49, 3) := by decide +kernel
theorem dX10_keeper_92 : decode cX10_keeper 92 = .ok (.iconst 0, 1) := by decide +kernel
theorem dX10_keeper_93 : decode cX10_keeper 93 = .ok (.iload_n 3, 1) := by decide +kernel
theorem dX10_keeper_94 : decode cX10_keeper 94 = .ok (.iconst 0, 1) := by decide +kernel
theorem dX10_keeper_95 : decode cX10_keeper 95 = .ok (.invokevirtual 99, 3) := by decide +kernel
theorem dX10_keeper_98 : decode cX10_keeper 98 = .ok (.pop, 1) := by decide +kernel
theorem dX10_keeper_99 : decode cX10_keeper 99 = .ok (.aload_n 0, 1) := by decide +kernel
theorem dX10_keeper_100 : decode cX10_keeper 100 = .ok (.iload_n 3, 1) := by decide +kernel
theorem dX10_keeper_101 : decode cX10_keeper 101 = .ok (.invokevirtual 103, 3) := by decide +kernel
theorem dX10_keeper_104 : decode cX10_keeper 104 = .ok (.ireturn, 1) := by decide +kernel
theorem dX10_tenths_0 : decode cX10_tenths 0 = .ok (.aload_n 0, 1) := by decide +kernel
theorem dX10_tenths_1 : decode cX10_tenths 1 = .ok (.getfield 10, 3) := by decide +kernel
theorem dX10_tenths_4 : decode cX10_tenths 4 = .ok (.iload_n 1, 1) := by decide +kernel
theorem dX10_tenths_5 : decode cX10_tenths 5 = .ok (.invokevirtual 106, 3) := by decide +kernel
theorem dX10_tenths_8 : decode cX10_tenths 8 = .ok (.ifCond .ne 9, 3) := by decide +kernel
theorem dX10_tenths_11 : decode cX10_tenths 11 = .ok (.aload_n 0, 1) := by decide +kernel
theorem dX10_tenths_12 : decode cX10_tenths 12 = .ok (.iconst 1, 1) := by decide +kernel
theorem dX10_tenths_13 : decode cX10_tenths 13 = .ok (.invokevirtual 109, 3) := by decide +kernel
theorem dX10_tenths_16 : decode cX10_tenths 16 = .ok (.ireturn, 1) := by decide +kernel
theorem dX10_tenths_17 : decode cX10_tenths 17 = .ok (.iload_n 2, 1) := by decide +kernel
theorem dX10_tenths_18 : decode cX10_tenths 18 = .ok (.invokestatic 79, 3) := by decide +kernel
theorem dX10_tenths_21 : decode cX10_tenths 21 = .ok (.ifCond .ne 9, 3) := by decide +kernel
theorem dX10_tenths_24 : decode cX10_tenths 24 = .ok (.aload_n 0, 1) := by decide +kernel
theorem dX10_tenths_25 : decode cX10_tenths 25 = .ok (.iconst 2, 1) := by decide +kernel
theorem dX10_tenths_26 : decode cX10_tenths 26 = .ok (.invokevirtual 109, 3) := by decide +kernel
theorem dX10_tenths_29 : decode cX10_tenths 29 = .ok (.ireturn, 1) := by decide +kernel
theorem dX10_tenths_30 : decode cX10_tenths 30 = .ok (.aload_n 0, 1) := by decide +kernel
theorem dX10_tenths_31 : decode cX10_tenths 31 = .ok (.getfield 49, 3) := by decide +kernel
theorem dX10_tenths_34 : decode cX10_tenths 34 = .ok (.iconst 1, 1) := by decide +kernel
theorem dX10_tenths_35 : decode cX10_tenths 35 = .ok (.iload_n 1, 1) := by decide +kernel
theorem dX10_tenths_36 : decode cX10_tenths 36 = .ok (.aload_n 0, 1) := by decide +kernel
theorem dX10_tenths_37 : decode cX10_tenths 37 = .ok (.getfield 10, 3) := by decide +kernel
theorem dX10_tenths_40 : decode cX10_tenths 40 = .ok (.getfield 93, 3) := by decide +kernel
theorem dX10_tenths_43 : decode cX10_tenths 43 = .ok (.iload_n 1, 1) := by decide +kernel
theorem dX10_tenths_44 : decode cX10_tenths 44 = .ok (.iaload, 1) := by decide +kernel
theorem dX10_tenths_45 : decode cX10_tenths 45 = .ok (.invokevirtual 99, 3) := by decide +kernel
theorem dX10_tenths_48 : decode cX10_tenths 48 = .ok (.pop, 1) := by decide +kernel
theorem dX10_tenths_49 : decode cX10_tenths 49 = .ok (.aload_n 0, 1) := by decide +kernel
theorem dX10_tenths_50 : decode cX10_tenths 50 = .ok (.getfield 10, 3) := by decide +kernel
theorem dX10_tenths_53 : decode cX10_tenths 53 = .ok (.getfield 93, 3) := by decide +kernel
theorem dX10_tenths_56 : decode cX10_tenths 56 = .ok (.iload_n 1, 1) := by decide +kernel
theorem dX10_tenths_57 : decode cX10_tenths 57 = .ok (.iload_n 2, 1) := by decide +kernel
theorem dX10_tenths_58 : decode cX10_tenths 58 = .ok (.iastore, 1) := by decide +kernel
theorem dX10_tenths_59 : decode cX10_tenths 59 = .ok (.aload_n 0, 1) := by decide +kernel
theorem dX10_tenths_60 : decode cX10_tenths 60 = .ok (.invokevirtual 112, 3) := by decide +kernel
theorem dX10_tenths_63 : decode cX10_tenths 63 = .ok (.ireturn, 1) := by decide +kernel
theorem dX10_keeperOf_0 : decode cX10_keeperOf 0 = .ok (.aload_n 0, 1) := by decide +kernel
theorem dX10_keeperOf_1 : decode cX10_keeperOf 1 = .ok (.getfield 10, 3) := by decide +kernel
theorem dX10_keeperOf_4 : decode cX10_keeperOf 4 = .ok (.iload_n 1, 1) := by decide +kernel
theorem dX10_keeperOf_5 : decode cX10_keeperOf 5 = .ok (.invokevirtual 106, 3) := by decide +kernel
theorem dX10_keeperOf_8 : decode cX10_keeperOf 8 = .ok (.ifCond .ne 5, 3) := by decide +kernel
theorem dX10_keeperOf_11 : decode cX10_keeperOf 11 = .ok (.iconst (-1), 1) := by decide +kernel
theorem dX10_keeperOf_12 : decode cX10_keeperOf 12 = .ok (.ireturn, 1) := by decide +kernel
theorem dX10_keeperOf_13 : decode cX10_keeperOf 13 = .ok (.iload_n 2, 1) := by decide +kernel
theorem dX10_keeperOf_14 : decode cX10_keeperOf 14 = .ok (.tableswitch 56 0 2 #[26, 36, 46], 26) := by decide +kernel
theorem dX10_keeperOf_40 : decode cX10_keeperOf 40 = .ok (.aload_n 0, 1) := by decide +kernel
theorem dX10_keeperOf_41 : decode cX10_keeperOf 41 = .ok (.getfield 10, 3) := by decide +kernel
theorem dX10_keeperOf_44 : decode cX10_keeperOf 44 = .ok (.getfield 90, 3) := by decide +kernel
theorem dX10_keeperOf_47 : decode cX10_keeperOf 47 = .ok (.iload_n 1, 1) := by decide +kernel
theorem dX10_keeperOf_48 : decode cX10_keeperOf 48 = .ok (.iaload, 1) := by decide +kernel
theorem dX10_keeperOf_49 : decode cX10_keeperOf 49 = .ok (.ireturn, 1) := by decide +kernel
theorem dX10_keeperOf_50 : decode cX10_keeperOf 50 = .ok (.aload_n 0, 1) := by decide +kernel
theorem dX10_keeperOf_51 : decode cX10_keeperOf 51 = .ok (.getfield 10, 3) := by decide +kernel
theorem dX10_keeperOf_54 : decode cX10_keeperOf 54 = .ok (.getfield 93, 3) := by decide +kernel
theorem dX10_keeperOf_57 : decode cX10_keeperOf 57 = .ok (.iload_n 1, 1) := by decide +kernel
theorem dX10_keeperOf_58 : decode cX10_keeperOf 58 = .ok (.iaload, 1) := by decide +kernel
theorem dX10_keeperOf_59 : decode cX10_keeperOf 59 = .ok (.ireturn, 1) := by decide +kernel
theorem dX10_keeperOf_60 : decode cX10_keeperOf 60 = .ok (.aload_n 0, 1) := by decide +kernel
theorem dX10_keeperOf_61 : decode cX10_keeperOf 61 = .ok (.getfield 10, 3) := by decide +kernel
theorem dX10_keeperOf_64 : decode cX10_keeperOf 64 = .ok (.getfield 96, 3) := by decide +kernel
theorem dX10_keeperOf_67 : decode cX10_keeperOf 67 = .ok (.iload_n 1, 1) := by decide +kernel
theorem dX10_keeperOf_68 : decode cX10_keeperOf 68 = .ok (.iaload, 1) := by decide +kernel
theorem dX10_keeperOf_69 : decode cX10_keeperOf 69 = .ok (.ireturn, 1) := by decide +kernel
theorem dX10_keeperOf_70 : decode cX10_keeperOf 70 = .ok (.iconst (-1), 1) := by decide +kernel
theorem dX10_keeperOf_71 : decode cX10_keeperOf 71 = .ok (.ireturn, 1) := by decide +kernel
theorem dX10_areTenths_0 : decode cX10_areTenths 0 = .ok (.iload_n 0, 1) := by decide +kernel
theorem dX10_areTenths_1 : decode cX10_areTenths 1 = .ok (.ifCond .lt 13, 3) := by decide +kernel
theorem dX10_areTenths_4 : decode cX10_areTenths 4 = .ok (.iload_n 0, 1) := by decide +kernel
theorem dX10_areTenths_5 : decode cX10_areTenths 5 = .ok (.bipush 10, 2) := by decide +kernel
theorem dX10_areTenths_7 : decode cX10_areTenths 7 = .ok (.if_icmp .gt 7, 3) := by decide +kernel
theorem dX10_areTenths_10 : decode cX10_areTenths 10 = .ok (.iconst 1, 1) := by decide +kernel
theorem dX10_areTenths_11 : decode cX10_areTenths 11 = .ok (.goto 4, 3) := by decide +kernel
theorem dX10_areTenths_14 : decode cX10_areTenths 14 = .ok (.iconst 0, 1) := by decide +kernel
theorem dX10_areTenths_15 : decode cX10_areTenths 15 = .ok (.ireturn, 1) := by decide +kernel
theorem dX10_list_0 : decode cX10_list 0 = .ok (.aload_n 0, 1) := by decide +kernel
theorem dX10_list_1 : decode cX10_list 1 = .ok (.getfield 10, 3) := by decide +kernel
theorem dX10_list_4 : decode cX10_list 4 = .ok (.iload_n 1, 1) := by decide +kernel
theorem dX10_list_5 : decode cX10_list 5 = .ok (.invokevirtual 116, 3) := by decide +kernel
theorem dX10_list_8 : decode cX10_list 8 = .ok (.ifCond .ne 9, 3) := by decide +kernel
theorem dX10_list_11 : decode cX10_list 11 = .ok (.aload_n 0, 1) := by decide +kernel
theorem dX10_list_12 : decode cX10_list 12 = .ok (.iconst 2, 1) := by decide +kernel
theorem dX10_list_13 : decode cX10_list 13 = .ok (.invokevirtual 83, 3) := by decide +kernel
theorem dX10_list_16 : decode cX10_list 16 = .ok (.ireturn, 1) := by decide +kernel
theorem dX10_list_17 : decode cX10_list 17 = .ok (.aload_n 0, 1) := by decide +kernel
theorem dX10_list_18 : decode cX10_list 18 = .ok (.getfield 30, 3) := by decide +kernel
theorem dX10_list_21 : decode cX10_list 21 = .ok (.ifCond .lt 12, 3) := by decide +kernel
theorem dX10_list_24 : decode cX10_list 24 = .ok (.aload_n 0, 1) := by decide +kernel
theorem dX10_list_25 : decode cX10_list 25 = .ok (.getfield 30, 3) := by decide +kernel
theorem dX10_list_28 : decode cX10_list 28 = .ok (.bipush 120, 2) := by decide +kernel
theorem dX10_list_30 : decode cX10_list 30 = .ok (.if_icmp .lt 9, 3) := by decide +kernel
theorem dX10_list_33 : decode cX10_list 33 = .ok (.aload_n 0, 1) := by decide +kernel
theorem dX10_list_34 : decode cX10_list 34 = .ok (.iconst 4, 1) := by decide +kernel
theorem dX10_list_35 : decode cX10_list 35 = .ok (.invokevirtual 83, 3) := by decide +kernel
theorem dX10_list_38 : decode cX10_list 38 = .ok (.ireturn, 1) := by decide +kernel
theorem dX10_list_39 : decode cX10_list 39 = .ok (.aload_n 0, 1) := by decide +kernel
theorem dX10_list_40 : decode cX10_list 40 = .ok (.getfield 26, 3) := by decide +kernel
theorem dX10_list_43 : decode cX10_list 43 = .ok (.aload_n 0, 1) := by decide +kernel
theorem dX10_list_44 : decode cX10_list 44 = .ok (.getfield 30, 3) := by decide +kernel
theorem dX10_list_47 : decode cX10_list 47 = .ok (.iload_n 1, 1) := by decide +kernel
theorem dX10_list_48 : decode cX10_list 48 = .ok (.iastore, 1) := by decide +kernel
theorem dX10_list_49 : decode cX10_list 49 = .ok (.aload_n 0, 1) := by decide +kernel
theorem dX10_list_50 : decode cX10_list 50 = .ok (.dup, 1) := by decide +kernel
theorem dX10_list_51 : decode cX10_list 51 = .ok (.getfield 30, 3) := by decide +kernel
theorem dX10_list_54 : decode cX10_list 54 = .ok (.iconst 1, 1) := by decide +kernel
theorem dX10_list_55 : decode cX10_list 55 = .ok (.iadd, 1) := by decide +kernel
theorem dX10_list_56 : decode cX10_list 56 = .ok (.putfield 30, 3) := by decide +kernel
theorem dX10_list_59 : decode cX10_list 59 = .ok (.aload_n 0, 1) := by decide +kernel
theorem dX10_list_60 : decode cX10_list 60 = .ok (.aload_n 0, 1) := by decide +kernel
theorem dX10_list_61 : decode cX10_list 61 = .ok (.getfield 30, 3) := by decide +kernel
theorem dX10_list_64 : decode cX10_list 64 = .ok (.invokevirtual 103, 3) := by decide +kernel
theorem dX10_list_67 : decode cX10_list 67 = .ok (.ireturn, 1) := by decide +kernel
theorem dX10_told_0 : decode cX10_told 0 = .ok (.aload_n 0, 1) := by decide +kernel
theorem dX10_told_1 : decode cX10_told 1 = .ok (.getfield 30, 3) := by decide +kernel
theorem dX10_told_4 : decode cX10_told 4 = .ok (.ifCond .ne 9, 3) := by decide +kernel
theorem dX10_told_7 : decode cX10_told 7 = .ok (.aload_n 0, 1) := by decide +kernel
theorem dX10_told_8 : decode cX10_told 8 = .ok (.iconst 5, 1) := by decide +kernel
theorem dX10_told_9 : decode cX10_told 9 = .ok (.invokevirtual 83, 3) := by decide +kernel
theorem dX10_told_12 : decode cX10_told 12 = .ok (.ireturn, 1) := by decide +kernel
theorem dX10_told_13 : decode cX10_told 13 = .ok (.aload_n 0, 1) := by decide +kernel
theorem dX10_told_14 : decode cX10_told 14 = .ok (.invokevirtual 119, 3) := by decide +kernel
theorem dX10_told_17 : decode cX10_told 17 = .ok (.ifCond .ne 9, 3) := by decide +kernel
theorem dX10_told_20 : decode cX10_told 20 = .ok (.aload_n 0, 1) := by decide +kernel
theorem dX10_told_21 : decode cX10_told 21 = .ok (.iconst 4, 1) := by decide +kernel
theorem dX10_told_22 : decode cX10_told 22 = .ok (.invokevirtual 83, 3) := by decide +kernel
theorem dX10_told_25 : decode cX10_told 25 = .ok (.ireturn, 1) := by decide +kernel
theorem dX10_told_26 : decode cX10_told 26 = .ok (.aload_n 0, 1) := by decide +kernel
theorem dX10_told_27 : decode cX10_told 27 = .ok (.getfield 63, 3) := by decide +kernel
theorem dX10_told_30 : decode cX10_told 30 = .ok (.aload_n 0, 1) := by decide +kernel
theorem dX10_told_31 : decode cX10_told 31 = .ok (.getfield 10, 3) := by decide +kernel
theorem dX10_told_34 : decode cX10_told 34 = .ok (.getfield 87, 3) := by decide +kernel
theorem dX10_told_37 : decode cX10_told 37 = .ok (.invokevirtual 122, 3) := by decide +kernel
theorem dX10_told_40 : decode cX10_told 40 = .ok (.iconst 0, 1) := by decide +kernel
theorem dX10_told_41 : decode cX10_told 41 = .ok (.istore_n 1, 1) := by decide +kernel
theorem dX10_told_42 : decode cX10_told 42 = .ok (.iload_n 1, 1) := by decide +kernel
theorem dX10_told_43 : decode cX10_told 43 = .ok (.aload_n 0, 1) := by decide +kernel
theorem dX10_told_44 : decode cX10_told 44 = .ok (.getfield 30, 3) := by decide +kernel
theorem dX10_told_47 : decode cX10_told 47 = .ok (.if_icmp .ge 31, 3) := by decide +kernel
theorem dX10_told_50 : decode cX10_told 50 = .ok (.iload_n 1, 1) := by decide +kernel
theorem dX10_told_51 : decode cX10_told 51 = .ok (.bipush 120, 2) := by decide +kernel
theorem dX10_told_53 : decode cX10_told 53 = .ok (.if_icmp .ge 25, 3) := by decide +kernel
theorem dX10_told_56 : decode cX10_told 56 = .ok (.aload_n 0, 1) := by decide +kernel
theorem dX10_told_57 : decode cX10_told 57 = .ok (.getfield 63, 3) := by decide +kernel
theorem dX10_told_60 : decode cX10_told 60 = .ok (.getfield 126, 3) := by decide +kernel
theorem dX10_told_63 : decode cX10_told 63 = .ok (.aload_n 0, 1) := by decide +kernel
theorem dX10_told_64 : decode cX10_told 64 = .ok (.getfield 26, 3) := by decide +kernel
theorem dX10_told_67 : decode cX10_told 67 = .ok (.iload_n 1, 1) := by decide +kernel
theorem dX10_told_68 : decode cX10_told 68 = .ok (.iaload, 1) := by decide +kernel
theorem dX10_told_69 : decode cX10_told 69 = .ok (.invokevirtual 130, 3) := by decide +kernel
theorem dX10_told_72 : decode cX10_told 72 = .ok (.iinc 1 1, 3) := by decide +kernel
theorem dX10_told_75 : decode cX10_told 75 = .ok (.goto (-33), 3) := by decide +kernel
theorem dX10_told_78 : decode cX10_told 78 = .ok (.aload_n 0, 1) := by decide +kernel
theorem dX10_told_79 : decode cX10_told 79 = .ok (.iconst 0, 1) := by decide +kernel
theorem dX10_told_80 : decode cX10_told 80 = .ok (.putfield 30, 3) := by decide +kernel
theorem dX10_told_83 : decode cX10_told 83 = .ok (.aload_n 0, 1) := by decide +kernel
theorem dX10_told_84 : decode cX10_told 84 = .ok (.iconst 0, 1) := by decide +kernel
theorem dX10_told_85 : decode cX10_told 85 = .ok (.invokevirtual 135, 3) := by decide +kernel
theorem dX10_told_88 : decode cX10_told 88 = .ok (.ireturn, 1) := by decide +kernel
theorem dX10_most_0 : decode cX10_most 0 = .ok (.aload_n 0, 1) := by decide +kernel
theorem dX10_most_1 : decode cX10_most 1 = .ok (.getfield 10, 3) := by decide +kernel
theorem dX10_most_4 : decode cX10_most 4 = .ok (.iload_n 1, 1) := by decide +kernel
theorem dX10_most_5 : decode cX10_most 5 = .ok (.invokevirtual 116, 3) := by decide +kernel
theorem dX10_most_8 : decode cX10_most 8 = .ok (.ifCond .ne 9, 3) := by decide +kernel
theorem dX10_most_11 : decode cX10_most 11 = .ok (.aload_n 0, 1) := by decide +kernel
theorem dX10_most_12 : decode cX10_most 12 = .ok (.iconst 2, 1) := by decide +kernel
theorem dX10_most_13 : decode cX10_most 13 = .ok (.invokevirtual 83, 3) := by decide +kernel
theorem dX10_most_16 : decode cX10_most 16 = .ok (.ireturn, 1) := by decide +kernel
theorem dX10_most_17 : decode cX10_most 17 = .ok (.aload_n 0, 1) := by decide +kernel
theorem dX10_most_18 : decode cX10_most 18 = .ok (.invokevirtual 119, 3) := by decide +kernel
theorem dX10_most_21 : decode cX10_most 21 = .ok (.ifCond .ne 9, 3) := by decide +kernel
theorem dX10_most_24 : decode cX10_most 24 = .ok (.aload_n 0, 1) := by decide +kernel
theorem dX10_most_25 : decode cX10_most 25 = .ok (.iconst 4, 1) := by decide +kernel
theorem dX10_most_26 : decode cX10_most 26 = .ok (.invokevirtual 83, 3) := by decide +kernel
theorem dX10_most_29 : decode cX10_most 29 = .ok (.ireturn, 1) := by decide +kernel
theorem dX10_most_30 : decode cX10_most 30 = .ok (.aload_n 0, 1) := by decide +kernel
theorem dX10_most_31 : decode cX10_most 31 = .ok (.getfield 63, 3) := by decide +kernel
theorem dX10_most_34 : decode cX10_most 34 = .ok (.aload_n 0, 1) := by decide +kernel
theorem dX10_most_35 : decode cX10_most 35 = .ok (.getfield 10, 3) := by decide +kernel
theorem dX10_most_38 : decode cX10_most 38 = .ok (.getfield 87, 3) := by decide +kernel
theorem dX10_most_41 : decode cX10_most 41 = .ok (.invokevirtual 122, 3) := by decide +kernel
theorem dX10_most_44 : decode cX10_most 44 = .ok (.aload_n 0, 1) := by decide +kernel
theorem dX10_most_45 : decode cX10_most 45 = .ok (.getfield 63, 3) := by decide +kernel
theorem dX10_most_48 : decode cX10_most 48 = .ok (.aload_n 0, 1) := by decide +kernel
theorem dX10_most_49 : decode cX10_most 49 = .ok (.getfield 10, 3) := by decide +kernel
theorem dX10_most_52 : decode cX10_most 52 = .ok (.iload_n 1, 1) := by decide +kernel
theorem dX10_most_53 : decode cX10_most 53 = .ok (.invokevirtual 138, 3) := by decide +kernel
theorem dX10_most_56 : decode cX10_most 56 = .ok (.aload_n 0, 1) := by decide +kernel
theorem dX10_most_57 : decode cX10_most 57 = .ok (.iconst 1, 1) := by decide +kernel
theorem dX10_most_58 : decode cX10_most 58 = .ok (.invokevirtual 135, 3) := by decide +kernel
theorem dX10_most_61 : decode cX10_most 61 = .ok (.ireturn, 1) := by decide +kernel
theorem dX10_grid_0 : decode cX10_grid 0 = .ok (.iload_n 1, 1) := by decide +kernel
theorem dX10_grid_1 : decode cX10_grid 1 = .ok (.iconst 1, 1) := by decide +kernel
theorem dX10_grid_2 : decode cX10_grid 2 = .ok (.if_icmp .lt 20, 3) := by decide +kernel
theorem dX10_grid_5 : decode cX10_grid 5 = .ok (.iload_n 1, 1) := by decide +kernel
theorem dX10_grid_6 : decode cX10_grid 6 = .ok (.bipush 16, 2) := by decide +kernel
theorem dX10_grid_8 : decode cX10_grid 8 = .ok (.if_icmp .gt 14, 3) := by decide +kernel
theorem dX10_grid_11 : decode cX10_grid 11 = .ok (.iload_n 2, 1) := by decide +kernel
theorem dX10_grid_12 : decode cX10_grid 12 = .ok (.iconst 1, 1) := by decide +kernel
theorem dX10_grid_13 : decode cX10_grid 13 = .ok (.if_icmp .lt 9, 3) := by decide +kernel
theorem dX10_grid_16 : decode cX10_grid 16 = .ok (.iload_n 2, 1) := by decide +kernel
theorem dX10_grid_17 : decode cX10_grid 17 = .ok (.bipush 16, 2) := by decide +kernel
theorem dX10_grid_19 : decode cX10_grid 19 = .ok (.if_icmp .le 9, 3) := by decide +kernel
theorem dX10_grid_22 : decode cX10_grid 22 = .ok (.aload_n 0, 1) := by decide +kernel
theorem dX10_grid_23 : decode cX10_grid 23 = .ok (.iconst 2, 1) := by decide +kernel
theorem dX10_grid_24 : decode cX10_grid 24 = .ok (.invokevirtual 83, 3) := by decide +kernel
theorem dX10_grid_27 : decode cX10_grid 27 = .ok (.ireturn, 1) := by decide +kernel
theorem dX10_grid_28 : decode cX10_grid 28 = .ok (.aload_n 0, 1) := by decide +kernel
theorem dX10_grid_29 : decode cX10_grid 29 = .ok (.getfield 63, 3) := by decide +kernel
theorem dX10_grid_32 : decode cX10_grid 32 = .ok (.invokevirtual 142, 3) := by decide +kernel
theorem dX10_grid_35 : decode cX10_grid 35 = .ok (.iconst 0, 1) := by decide +kernel
theorem dX10_grid_36 : decode cX10_grid 36 = .ok (.istore 4, 2) := by decide +kernel
theorem dX10_grid_38 : decode cX10_grid 38 = .ok (.iload 4, 2) := by decide +kernel
theorem dX10_grid_40 : decode cX10_grid 40 = .ok (.iload_n 1, 1) := by decide +kernel
theorem dX10_grid_41 : decode cX10_grid 41 = .ok (.if_icmp .ge 24, 3) := by decide +kernel
theorem dX10_grid_44 : decode cX10_grid 44 = .ok (.iload 4, 2) := by decide +kernel
theorem dX10_grid_46 : decode cX10_grid 46 = .ok (.bipush 16, 2) := by decide +kernel
theorem dX10_grid_48 : decode cX10_grid 48 = .ok (.if_icmp .ge 17, 3) := by decide +kernel
theorem dX10_grid_51 : decode cX10_grid 51 = .ok (.aload_n 0, 1) := by decide +kernel
theorem dX10_grid_52 : decode cX10_grid 52 = .ok (.getfield 63, 3) := by decide +kernel
theorem dX10_grid_55 : decode cX10_grid 55 = .ok (.iload_n 2, 1) := by decide +kernel
theorem dX10_grid_56 : decode cX10_grid 56 = .ok (.invokevirtual 145, 3) := by decide +kernel
theorem dX10_grid_59 : decode cX10_grid 59 = .ok (.iinc 4 1, 3) := by decide +kernel
theorem dX10_grid_62 : decode cX10_grid 62 = .ok (.goto (-24), 3) := by decide +kernel
theorem dX10_grid_65 : decode cX10_grid 65 = .ok (.aload_n 0, 1) := by decide +kernel
theorem dX10_grid_66 : decode cX10_grid 66 = .ok (.iload_n 3, 1) := by decide +kernel
theorem dX10_grid_67 : decode cX10_grid 67 = .ok (.iconst 2, 1) := by decide +kernel
theorem dX10_grid_68 : decode cX10_grid 68 = .ok (.invokevirtual 148, 3) := by decide +kernel
theorem dX10_grid_71 : decode cX10_grid 71 = .ok (.ireturn, 1) := by decide +kernel
theorem dX10_wall_0 : decode cX10_wall 0 = .ok (.iload_n 2, 1) := by decide +kernel
theorem dX10_wall_1 : decode cX10_wall 1 = .ok (.invokestatic 152, 3) := by decide +kernel
theorem dX10_wall_4 : decode cX10_wall 4 = .ok (.ifCond .eq 38, 3) := by decide +kernel
theorem dX10_wall_7 : decode cX10_wall 7 = .ok (.iload_n 3, 1) := by decide +kernel
theorem dX10_wall_8 : decode cX10_wall 8 = .ok (.invokestatic 152, 3) := by decide +kernel
theorem dX10_wall_11 : decode cX10_wall 11 = .ok (.ifCond .eq 31, 3) := by decide +kernel
theorem dX10_wall_14 : decode cX10_wall 14 = .ok (.iload 4, 2) := by decide +kernel
theorem dX10_wall_16 : decode cX10_wall 16 = .ok (.invokestatic 152, 3) := by decide +kernel
theorem dX10_wall_19 : decode cX10_wall 19 = .ok (.ifCond .eq 23, 3) := by decide +kernel
theorem dX10_wall_22 : decode cX10_wall 22 = .ok (.iload 5, 2) := by decide +kernel
theorem dX10_wall_24 : decode cX10_wall 24 = .ok (.invokestatic 152, 3) := by decide +kernel
theorem dX10_wall_27 : decode cX10_wall 27 = .ok (.ifCond .eq 15, 3) := by decide +kernel
theorem dX10_wall_30 : decode cX10_wall 30 = .ok (.iload 6, 2) := by decide +kernel
theorem dX10_wall_32 : decode cX10_wall 32 = .ok (.invokestatic 152, 3) := by decide +kernel
theorem dX10_wall_35 : decode cX10_wall 35 = .ok (.ifCond .eq 7, 3) := by decide +kernel
theorem dX10_wall_38 : decode cX10_wall 38 = .ok (.iconst 1, 1) := by decide +kernel
theorem dX10_wall_39 : decode cX10_wall 39 = .ok (.goto 4, 3) := by decide +kernel
theorem dX10_wall_42 : decode cX10_wall 42 = .ok (.iconst 0, 1) := by decide +kernel
theorem dX10_wall_43 : decode cX10_wall 43 = .ok (.istore 7, 2) := by decide +kernel
theorem dX10_wall_45 : decode cX10_wall 45 = .ok (.iload 7, 2) := by decide +kernel
theorem dX10_wall_47 : decode cX10_wall 47 = .ok (.ifCond .eq 7, 3) := by decide +kernel
theorem dX10_wall_50 : decode cX10_wall 50 = .ok (.iload_n 2, 1) := by decide +kernel
theorem dX10_wall_51 : decode cX10_wall 51 = .ok (.ifCond .ne 9, 3) := by decide +kernel
theorem dX10_wall_54 : decode cX10_wall 54 = .ok (.aload_n 0, 1) := by decide +kernel
theorem dX10_wall_55 : decode cX10_wall 55 = .ok (.iconst 2, 1) := by decide +kernel
theorem dX10_wall_56 : decode cX10_wall 56 = .ok (.invokevirtual 83, 3) := by decide +kernel
theorem dX10_wall_59 : decode cX10_wall 59 = .ok (.ireturn, 1) := by decide +kernel
theorem dX10_wall_60 : decode cX10_wall 60 = .ok (.aload_n 0, 1) := by decide +kernel
theorem dX10_wall_61 : decode cX10_wall 61 = .ok (.getfield 63, 3) := by decide +kernel
theorem dX10_wall_64 : decode cX10_wall 64 = .ok (.invokevirtual 142, 3) := by decide +kernel
theorem dX10_wall_67 : decode cX10_wall 67 = .ok (.aload_n 0, 1) := by decide +kernel
theorem dX10_wall_68 : decode cX10_wall 68 = .ok (.getfield 63, 3) := by decide +kernel
theorem dX10_wall_71 : decode cX10_wall 71 = .ok (.iload_n 2, 1) := by decide +kernel
theorem dX10_wall_72 : decode cX10_wall 72 = .ok (.invokevirtual 145, 3) := by decide +kernel
theorem dX10_wall_75 : decode cX10_wall 75 = .ok (.aload_n 0, 1) := by decide +kernel
theorem dX10_wall_76 : decode cX10_wall 76 = .ok (.getfield 63, 3) := by decide +kernel
theorem dX10_wall_79 : decode cX10_wall 79 = .ok (.iload_n 3, 1) := by decide +kernel
theorem dX10_wall_80 : decode cX10_wall 80 = .ok (.invokevirtual 145, 3) := by decide +kernel
theorem dX10_wall_83 : decode cX10_wall 83 = .ok (.aload_n 0, 1) := by decide +kernel
theorem dX10_wall_84 : decode cX10_wall 84 = .ok (.getfield 63, 3) := by decide +kernel
theorem dX10_wall_87 : decode cX10_wall 87 = .ok (.iload 4, 2) := by decide +kernel
theorem dX10_wall_89 : decode cX10_wall 89 = .ok (.invokevirtual 145, 3) := by decide +kernel
theorem dX10_wall_92 : decode cX10_wall 92 = .ok (.aload_n 0, 1) := by decide +kernel
theorem dX10_wall_93 : decode cX10_wall 93 = .ok (.getfield 63, 3) := by decide +kernel
theorem dX10_wall_96 : decode cX10_wall 96 = .ok (.iload 5, 2) := by decide +kernel
theorem dX10_wall_98 : decode cX10_wall 98 = .ok (.invokevirtual 145, 3) := by decide +kernel
theorem dX10_wall_101 : decode cX10_wall 101 = .ok (.aload_n 0, 1) := by decide +kernel
theorem dX10_wall_102 : decode cX10_wall 102 = .ok (.getfield 63, 3) := by decide +kernel
theorem dX10_wall_105 : decode cX10_wall 105 = .ok (.iload 6, 2) := by decide +kernel
theorem dX10_wall_107 : decode cX10_wall 107 = .ok (.invokevirtual 145, 3) := by decide +kernel
theorem dX10_wall_110 : decode cX10_wall 110 = .ok (.aload_n 0, 1) := by decide +kernel
theorem dX10_wall_111 : decode cX10_wall 111 = .ok (.iload_n 1, 1) := by decide +kernel
theorem dX10_wall_112 : decode cX10_wall 112 = .ok (.iconst 3, 1) := by decide +kernel
theorem dX10_wall_113 : decode cX10_wall 113 = .ok (.invokevirtual 148, 3) := by decide +kernel
theorem dX10_wall_116 : decode cX10_wall 116 = .ok (.ireturn, 1) := by decide +kernel
theorem dX10_tree_0 : decode cX10_tree 0 = .ok (.iload_n 1, 1) := by decide +kernel
theorem dX10_tree_1 : decode cX10_tree 1 = .ok (.iconst 1, 1) := by decide +kernel
theorem dX10_tree_2 : decode cX10_tree 2 = .ok (.if_icmp .lt 8, 3) := by decide +kernel
theorem dX10_tree_5 : decode cX10_tree 5 = .ok (.iload_n 1, 1) := by decide +kernel
theorem dX10_tree_6 : decode cX10_tree 6 = .ok (.iconst 4, 1) := by decide +kernel
theorem dX10_tree_7 : decode cX10_tree 7 = .ok (.if_icmp .le 9, 3) := by decide +kernel
theorem dX10_tree_10 : decode cX10_tree 10 = .ok (.aload_n 0, 1) := by decide +kernel
theorem dX10_tree_11 : decode cX10_tree 11 = .ok (.iconst 2, 1) := by decide +kernel
theorem dX10_tree_12 : decode cX10_tree 12 = .ok (.invokevirtual 83, 3) := by decide +kernel
theorem dX10_tree_15 : decode cX10_tree 15 = .ok (.ireturn, 1) := by decide +kernel
theorem dX10_tree_16 : decode cX10_tree 16 = .ok (.iconst 1, 1) := by decide +kernel
theorem dX10_tree_17 : decode cX10_tree 17 = .ok (.iload_n 1, 1) := by decide +kernel
theorem dX10_tree_18 : decode cX10_tree 18 = .ok (.ishl, 1) := by decide +kernel
theorem dX10_tree_19 : decode cX10_tree 19 = .ok (.iconst 1, 1) := by decide +kernel
theorem dX10_tree_20 : decode cX10_tree 20 = .ok (.isub, 1) := by decide +kernel
theorem dX10_tree_21 : decode cX10_tree 21 = .ok (.istore_n 3, 1) := by decide +kernel
theorem dX10_tree_22 : decode cX10_tree 22 = .ok (.aload_n 0, 1) := by decide +kernel
theorem dX10_tree_23 : decode cX10_tree 23 = .ok (.getfield 10, 3) := by decide +kernel
theorem dX10_tree_26 : decode cX10_tree 26 = .ok (.iload_n 2, 1) := by decide +kernel
theorem dX10_tree_27 : decode cX10_tree 27 = .ok (.iload_n 3, 1) := by decide +kernel
theorem dX10_tree_28 : decode cX10_tree 28 = .ok (.invokevirtual 155, 3) := by decide +kernel
theorem dX10_tree_31 : decode cX10_tree 31 = .ok (.ifCond .ne 9, 3) := by decide +kernel
theorem dX10_tree_34 : decode cX10_tree 34 = .ok (.aload_n 0, 1) := by decide +kernel
theorem dX10_tree_35 : decode cX10_tree 35 = .ok (.iconst 1, 1) := by decide +kernel
theorem dX10_tree_36 : decode cX10_tree 36 = .ok (.invokevirtual 83, 3) := by decide +kernel
theorem dX10_tree_39 : decode cX10_tree 39 = .ok (.ireturn, 1) := by decide +kernel
theorem dX10_tree_40 : decode cX10_tree 40 = .ok (.aload_n 0, 1) := by decide +kernel
theorem dX10_tree_41 : decode cX10_tree 41 = .ok (.invokevirtual 119, 3) := by decide +kernel
theorem dX10_tree_44 : decode cX10_tree 44 = .ok (.ifCond .ne 9, 3) := by decide +kernel
theorem dX10_tree_47 : decode cX10_tree 47 = .ok (.aload_n 0, 1) := by decide +kernel
theorem dX10_tree_48 : decode cX10_tree 48 = .ok (.iconst 4, 1) := by decide +kernel
theorem dX10_tree_49 : decode cX10_tree 49 = .ok (.invokevirtual 83, 3) := by decide +kernel
theorem dX10_tree_52 : decode cX10_tree 52 = .ok (.ireturn, 1) := by decide +kernel
theorem dX10_tree_53 : decode cX10_tree 53 = .ok (.aload_n 0, 1) := by decide +kernel
theorem dX10_tree_54 : decode cX10_tree 54 = .ok (.getfield 63, 3) := by decide +kernel
theorem dX10_tree_57 : decode cX10_tree 57 = .ok (.aload_n 0, 1) := by decide +kernel
theorem dX10_tree_58 : decode cX10_tree 58 = .ok (.getfield 10, 3) := by decide +kernel
theorem dX10_tree_61 : decode cX10_tree 61 = .ok (.getfield 87, 3) := by decide +kernel
theorem dX10_tree_64 : decode cX10_tree 64 = .ok (.invokevirtual 122, 3) := by decide +kernel
theorem dX10_tree_67 : decode cX10_tree 67 = .ok (.aload_n 0, 1) := by decide +kernel
theorem dX10_tree_68 : decode cX10_tree 68 = .ok (.getfield 63, 3) := by decide +kernel
theorem dX10_tree_71 : decode cX10_tree 71 = .ok (.iload_n 3, 1) := by decide +kernel
theorem dX10_tree_72 : decode cX10_tree 72 = .ok (.iload_n 2, 1) := by decide +kernel
theorem dX10_tree_73 : decode cX10_tree 73 = .ok (.invokevirtual 159, 3) := by decide +kernel
theorem dX10_tree_76 : decode cX10_tree 76 = .ok (.aload_n 0, 1) := by decide +kernel
theorem dX10_tree_77 : decode cX10_tree 77 = .ok (.iconst 4, 1) := by decide +kernel
theorem dX10_tree_78 : decode cX10_tree 78 = .ok (.invokevirtual 135, 3) := by decide +kernel
theorem dX10_tree_81 : decode cX10_tree 81 = .ok (.ireturn, 1) := by decide +kernel
theorem dX10_plane_0 : decode cX10_plane 0 = .ok (.iload_n 1, 1) := by decide +kernel
theorem dX10_plane_1 : decode cX10_plane 1 = .ok (.iconst 2, 1) := by decide +kernel
theorem dX10_plane_2 : decode cX10_plane 2 = .ok (.if_icmp .eq 14, 3) := by decide +kernel
theorem dX10_plane_5 : decode cX10_plane 5 = .ok (.iload_n 1, 1) := by decide +kernel
theorem dX10_plane_6 : decode cX10_plane 6 = .ok (.iconst 3, 1) := by decide +kernel
theorem dX10_plane_7 : decode cX10_plane 7 = .ok (.if_icmp .eq 9, 3) := by decide +kernel
theorem dX10_plane_10 : decode cX10_plane 10 = .ok (.aload_n 0, 1) := by decide +kernel
theorem dX10_plane_11 : decode cX10_plane 11 = .ok (.iconst 2, 1) := by decide +kernel
theorem dX10_plane_12 : decode cX10_plane 12 = .ok (.invokevirtual 83, 3) := by decide +kernel
theorem dX10_plane_15 : decode cX10_plane 15 = .ok (.ireturn, 1) := by decide +kernel
theorem dX10_plane_16 : decode cX10_plane 16 = .ok (.iload_n 1, 1) := by decide +kernel
theorem dX10_plane_17 : decode cX10_plane 17 = .ok (.iconst 2, 1) := by decide +kernel
theorem dX10_plane_18 : decode cX10_plane 18 = .ok (.if_icmp .ne 8, 3) := by decide +kernel
theorem dX10_plane_21 : decode cX10_plane 21 = .ok (.bipush 7, 2) := by decide +kernel
theorem dX10_plane_23 : decode cX10_plane 23 = .ok (.goto 5, 3) := by decide +kernel
theorem dX10_plane_26 : decode cX10_plane 26 = .ok (.bipush 13, 2) := by decide +kernel
theorem dX10_plane_28 : decode cX10_plane 28 = .ok (.istore_n 3, 1) := by decide +kernel
theorem dX10_plane_29 : decode cX10_plane 29 = .ok (.aload_n 0, 1) := by decide +kernel
theorem dX10_plane_30 : decode cX10_plane 30 = .ok (.getfield 10, 3) := by decide +kernel
theorem dX10_plane_33 : decode cX10_plane 33 = .ok (.iload_n 2, 1) := by decide +kernel
theorem dX10_plane_34 : decode cX10_plane 34 = .ok (.iload_n 3, 1) := by decide +kernel
theorem dX10_plane_35 : decode cX10_plane 35 = .ok (.invokevirtual 155, 3) := by decide +kernel
theorem dX10_plane_38 : decode cX10_plane 38 = .ok (.ifCond .ne 9, 3) := by decide +kernel
theorem dX10_plane_41 : decode cX10_plane 41 = .ok (.aload_n 0, 1) := by decide +kernel
theorem dX10_plane_42 : decode cX10_plane 42 = .ok (.iconst 1, 1) := by decide +kernel
theorem dX10_plane_43 : decode cX10_plane 43 = .ok (.invokevirtual 83, 3) := by decide +kernel
theorem dX10_plane_46 : decode cX10_plane 46 = .ok (.ireturn, 1) := by decide +kernel
theorem dX10_plane_47 : decode cX10_plane 47 = .ok (.aload_n 0, 1) := by decide +kernel
theorem dX10_plane_48 : decode cX10_plane 48 = .ok (.invokevirtual 119, 3) := by decide +kernel
theorem dX10_plane_51 : decode cX10_plane 51 = .ok (.ifCond .ne 9, 3) := by decide +kernel
theorem dX10_plane_54 : decode cX10_plane 54 = .ok (.aload_n 0, 1) := by decide +kernel
theorem dX10_plane_55 : decode cX10_plane 55 = .ok (.iconst 4, 1) := by decide +kernel
theorem dX10_plane_56 : decode cX10_plane 56 = .ok (.invokevirtual 83, 3) := by decide +kernel
theorem dX10_plane_59 : decode cX10_plane 59 = .ok (.ireturn, 1) := by decide +kernel
theorem dX10_plane_60 : decode cX10_plane 60 = .ok (.aload_n 0, 1) := by decide +kernel
theorem dX10_plane_61 : decode cX10_plane 61 = .ok (.getfield 63, 3) := by decide +kernel
theorem dX10_plane_64 : decode cX10_plane 64 = .ok (.aload_n 0, 1) := by decide +kernel
theorem dX10_plane_65 : decode cX10_plane 65 = .ok (.getfield 10, 3) := by decide +kernel
theorem dX10_plane_68 : decode cX10_plane 68 = .ok (.getfield 87, 3) := by decide +kernel
theorem dX10_plane_71 : decode cX10_plane 71 = .ok (.invokevirtual 122, 3) := by decide +kernel
theorem dX10_plane_74 : decode cX10_plane 74 = .ok (.aload_n 0, 1) := by decide +kernel
theorem dX10_plane_75 : decode cX10_plane 75 = .ok (.getfield 63, 3) := by decide +kernel
theorem dX10_plane_78 : decode cX10_plane 78 = .ok (.iload_n 3, 1) := by decide +kernel
theorem dX10_plane_79 : decode cX10_plane 79 = .ok (.iload_n 2, 1) := by decide +kernel
theorem dX10_plane_80 : decode cX10_plane 80 = .ok (.invokevirtual 163, 3) := by decide +kernel
theorem dX10_plane_83 : decode cX10_plane 83 = .ok (.aload_n 0, 1) := by decide +kernel
theorem dX10_plane_84 : decode cX10_plane 84 = .ok (.iconst 5, 1) := by decide +kernel
theorem dX10_plane_85 : decode cX10_plane 85 = .ok (.invokevirtual 135, 3) := by decide +kernel
theorem dX10_plane_88 : decode cX10_plane 88 = .ok (.ireturn, 1) := by decide +kernel
theorem dX10_join_0 : decode cX10_join 0 = .ok (.aload_n 0, 1) := by decide +kernel
theorem dX10_join_1 : decode cX10_join 1 = .ok (.iload_n 1, 1) := by decide +kernel
theorem dX10_join_2 : decode cX10_join 2 = .ok (.invokevirtual 166, 3) := by decide +kernel
theorem dX10_join_5 : decode cX10_join 5 = .ok (.astore 4, 2) := by decide +kernel
theorem dX10_join_7 : decode cX10_join 7 = .ok (.aload_n 0, 1) := by decide +kernel
theorem dX10_join_8 : decode cX10_join 8 = .ok (.iload_n 3, 1) := by decide +kernel
theorem dX10_join_9 : decode cX10_join 9 = .ok (.invokevirtual 166, 3) := by decide +kernel
theorem dX10_join_12 : decode cX10_join 12 = .ok (.astore 5, 2) := by decide +kernel
theorem dX10_join_14 : decode cX10_join 14 = .ok (.aload 4, 2) := by decide +kernel
theorem dX10_join_16 : decode cX10_join 16 = .ok (.ifnull 19, 3) := by decide +kernel
theorem dX10_join_19 : decode cX10_join 19 = .ok (.aload 5, 2) := by decide +kernel
theorem dX10_join_21 : decode cX10_join 21 = .ok (.ifnull 14, 3) := by decide +kernel
theorem dX10_join_24 : decode cX10_join 24 = .ok (.aload_n 0, 1) := by decide +kernel
theorem dX10_join_25 : decode cX10_join 25 = .ok (.getfield 10, 3) := by decide +kernel
theorem dX10_join_28 : decode cX10_join 28 = .ok (.iload_n 2, 1) := by decide +kernel
theorem dX10_join_29 : decode cX10_join 29 = .ok (.invokevirtual 106, 3) := by decide +kernel
theorem dX10_join_32 : decode cX10_join 32 = .ok (.ifCond .ne 9, 3) := by decide +kernel
theorem dX10_join_35 : decode cX10_join 35 = .ok (.aload_n 0, 1) := by decide +kernel
theorem dX10_join_36 : decode cX10_join 36 = .ok (.iconst 1, 1) := by decide +kernel
theorem dX10_join_37 : decode cX10_join 37 = .ok (.invokevirtual 83, 3) := by decide +kernel
theorem dX10_join_40 : decode cX10_join 40 = .ok (.ireturn, 1) := by decide +kernel
theorem dX10_join_41 : decode cX10_join 41 = .ok (.aload_n 0, 1) := by decide +kernel
theorem dX10_join_42 : decode cX10_join 42 = .ok (.invokevirtual 119, 3) := by decide +kernel
theorem dX10_join_45 : decode cX10_join 45 = .ok (.ifCond .ne 9, 3) := by decide +kernel
theorem dX10_join_48 : decode cX10_join 48 = .ok (.aload_n 0, 1) := by decide +kernel
theorem dX10_join_49 : decode cX10_join 49 = .ok (.iconst 4, 1) := by decide +kernel
theorem dX10_join_50 : decode cX10_join 50 = .ok (.invokevirtual 83, 3) := by decide +kernel
theorem dX10_join_53 : decode cX10_join 53 = .ok (.ireturn, 1) := by decide +kernel
theorem dX10_join_54 : decode cX10_join 54 = .ok (.aload_n 0, 1) := by decide +kernel
theorem dX10_join_55 : decode cX10_join 55 = .ok (.getfield 63, 3) := by decide +kernel
theorem dX10_join_58 : decode cX10_join 58 = .ok (.aload_n 0, 1) := by decide +kernel
theorem dX10_join_59 : decode cX10_join 59 = .ok (.getfield 10, 3) := by decide +kernel
theorem dX10_join_62 : decode cX10_join 62 = .ok (.getfield 87, 3) := by decide +kernel
theorem dX10_join_65 : decode cX10_join 65 = .ok (.invokevirtual 122, 3) := by decide +kernel
theorem dX10_join_68 : decode cX10_join 68 = .ok (.aload_n 0, 1) := by decide +kernel
theorem dX10_join_69 : decode cX10_join 69 = .ok (.getfield 63, 3) := by decide +kernel
theorem dX10_join_72 : decode cX10_join 72 = .ok (.aload 4, 2) := by decide +kernel
theorem dX10_join_74 : decode cX10_join 74 = .ok (.iload_n 2, 1) := by decide +kernel
theorem dX10_join_75 : decode cX10_join 75 = .ok (.aload 5, 2) := by decide +kernel
theorem dX10_join_77 : decode cX10_join 77 = .ok (.invokevirtual 170, 3) := by decide +kernel
theorem dX10_join_80 : decode cX10_join 80 = .ok (.aload_n 0, 1) := by decide +kernel
theorem dX10_join_81 : decode cX10_join 81 = .ok (.bipush 6, 2) := by decide +kernel
theorem dX10_join_83 : decode cX10_join 83 = .ok (.invokevirtual 135, 3) := by decide +kernel
theorem dX10_join_86 : decode cX10_join 86 = .ok (.ireturn, 1) := by decide +kernel
theorem dX10_dual_0 : decode cX10_dual 0 = .ok (.aload_n 0, 1) := by decide +kernel
theorem dX10_dual_1 : decode cX10_dual 1 = .ok (.iload_n 1, 1) := by decide +kernel
theorem dX10_dual_2 : decode cX10_dual 2 = .ok (.invokevirtual 166, 3) := by decide +kernel
theorem dX10_dual_5 : decode cX10_dual 5 = .ok (.astore_n 2, 1) := by decide +kernel
theorem dX10_dual_6 : decode cX10_dual 6 = .ok (.aload_n 2, 1) := by decide +kernel
theorem dX10_dual_7 : decode cX10_dual 7 = .ok (.ifnonnull 9, 3) := by decide +kernel
theorem dX10_dual_10 : decode cX10_dual 10 = .ok (.aload_n 0, 1) := by decide +kernel
theorem dX10_dual_11 : decode cX10_dual 11 = .ok (.iconst 1, 1) := by decide +kernel
theorem dX10_dual_12 : decode cX10_dual 12 = .ok (.invokevirtual 83, 3) := by decide +kernel
theorem dX10_dual_15 : decode cX10_dual 15 = .ok (.ireturn, 1) := by decide +kernel
theorem dX10_dual_16 : decode cX10_dual 16 = .ok (.aload_n 0, 1) := by decide +kernel
theorem dX10_dual_17 : decode cX10_dual 17 = .ok (.invokevirtual 119, 3) := by decide +kernel
theorem dX10_dual_20 : decode cX10_dual 20 = .ok (.ifCond .ne 9, 3) := by decide +kernel
theorem dX10_dual_23 : decode cX10_dual 23 = .ok (.aload_n 0, 1) := by decide +kernel
theorem dX10_dual_24 : decode cX10_dual 24 = .ok (.iconst 4, 1) := by decide +kernel
theorem dX10_dual_25 : decode cX10_dual 25 = .ok (.invokevirtual 83, 3) := by decide +kernel
theorem dX10_dual_28 : decode cX10_dual 28 = .ok (.ireturn, 1) := by decide +kernel
theorem dX10_dual_29 : decode cX10_dual 29 = .ok (.aload_n 0, 1) := by decide +kernel
theorem dX10_dual_30 : decode cX10_dual 30 = .ok (.getfield 63, 3) := by decide +kernel
theorem dX10_dual_33 : decode cX10_dual 33 = .ok (.aload_n 0, 1) := by decide +kernel
theorem dX10_dual_34 : decode cX10_dual 34 = .ok (.getfield 10, 3) := by decide +kernel
theorem dX10_dual_37 : decode cX10_dual 37 = .ok (.getfield 87, 3) := by decide +kernel
theorem dX10_dual_40 : decode cX10_dual 40 = .ok (.invokevirtual 122, 3) := by decide +kernel
theorem dX10_dual_43 : decode cX10_dual 43 = .ok (.aload_n 0, 1) := by decide +kernel
theorem dX10_dual_44 : decode cX10_dual 44 = .ok (.getfield 63, 3) := by decide +kernel
theorem dX10_dual_47 : decode cX10_dual 47 = .ok (.aload_n 2, 1) := by decide +kernel
theorem dX10_dual_48 : decode cX10_dual 48 = .ok (.invokevirtual 174, 3) := by decide +kernel
theorem dX10_dual_51 : decode cX10_dual 51 = .ok (.aload_n 0, 1) := by decide +kernel
theorem dX10_dual_52 : decode cX10_dual 52 = .ok (.bipush 7, 2) := by decide +kernel
theorem dX10_dual_54 : decode cX10_dual 54 = .ok (.invokevirtual 178, 3) := by decide +kernel
theorem dX10_dual_57 : decode cX10_dual 57 = .ok (.ireturn, 1) := by decide +kernel
theorem dX10_thin_0 : decode cX10_thin 0 = .ok (.aload_n 0, 1) := by decide +kernel
theorem dX10_thin_1 : decode cX10_thin 1 = .ok (.iload_n 1, 1) := by decide +kernel
theorem dX10_thin_2 : decode cX10_thin 2 = .ok (.invokevirtual 166, 3) := by decide +kernel
theorem dX10_thin_5 : decode cX10_thin 5 = .ok (.astore_n 3, 1) := by decide +kernel
theorem dX10_thin_6 : decode cX10_thin 6 = .ok (.aload_n 3, 1) := by decide +kernel
theorem dX10_thin_7 : decode cX10_thin 7 = .ok (.ifnonnull 9, 3) := by decide +kernel
theorem dX10_thin_10 : decode cX10_thin 10 = .ok (.aload_n 0, 1) := by decide +kernel
theorem dX10_thin_11 : decode cX10_thin 11 = .ok (.iconst 1, 1) := by decide +kernel
theorem dX10_thin_12 : decode cX10_thin 12 = .ok (.invokevirtual 83, 3) := by decide +kernel
theorem dX10_thin_15 : decode cX10_thin 15 = .ok (.ireturn, 1) := by decide +kernel
theorem dX10_thin_16 : decode cX10_thin 16 = .ok (.aload_n 0, 1) := by decide +kernel
theorem dX10_thin_17 : decode cX10_thin 17 = .ok (.invokevirtual 119, 3) := by decide +kernel
theorem dX10_thin_20 : decode cX10_thin 20 = .ok (.ifCond .ne 9, 3) := by decide +kernel
theorem dX10_thin_23 : decode cX10_thin 23 = .ok (.aload_n 0, 1) := by decide +kernel
theorem dX10_thin_24 : decode cX10_thin 24 = .ok (.iconst 4, 1) := by decide +kernel
theorem dX10_thin_25 : decode cX10_thin 25 = .ok (.invokevirtual 83, 3) := by decide +kernel
theorem dX10_thin_28 : decode cX10_thin 28 = .ok (.ireturn, 1) := by decide +kernel
theorem dX10_thin_29 : decode cX10_thin 29 = .ok (.aload_n 3, 1) := by decide +kernel
theorem dX10_thin_30 : decode cX10_thin 30 = .ok (.iload_n 2, 1) := by decide +kernel
theorem dX10_thin_31 : decode cX10_thin 31 = .ok (.invokevirtual 181, 3) := by decide +kernel
theorem dX10_thin_34 : decode cX10_thin 34 = .ok (.ifCond .ne 9, 3) := by decide +kernel
theorem dX10_thin_37 : decode cX10_thin 37 = .ok (.aload_n 0, 1) := by decide +kernel
theorem dX10_thin_38 : decode cX10_thin 38 = .ok (.iconst 5, 1) := by decide +kernel
theorem dX10_thin_39 : decode cX10_thin 39 = .ok (.invokevirtual 83, 3) := by decide +kernel
theorem dX10_thin_42 : decode cX10_thin 42 = .ok (.ireturn, 1) := by decide +kernel
theorem dX10_thin_43 : decode cX10_thin 43 = .ok (.aload_n 0, 1) := by decide +kernel
theorem dX10_thin_44 : decode cX10_thin 44 = .ok (.getfield 63, 3) := by decide +kernel
theorem dX10_thin_47 : decode cX10_thin 47 = .ok (.aload_n 0, 1) := by decide +kernel
theorem dX10_thin_48 : decode cX10_thin 48 = .ok (.getfield 10, 3) := by decide +kernel
theorem dX10_thin_51 : decode cX10_thin 51 = .ok (.getfield 87, 3) := by decide +kernel
theorem dX10_thin_54 : decode cX10_thin 54 = .ok (.invokevirtual 122, 3) := by decide +kernel
theorem dX10_thin_57 : decode cX10_thin 57 = .ok (.aload_n 0, 1) := by decide +kernel
theorem dX10_thin_58 : decode cX10_thin 58 = .ok (.getfield 63, 3) := by decide +kernel
theorem dX10_thin_61 : decode cX10_thin 61 = .ok (.aload_n 3, 1) := by decide +kernel
theorem dX10_thin_62 : decode cX10_thin 62 = .ok (.iload_n 2, 1) := by decide +kernel
theorem dX10_thin_63 : decode cX10_thin 63 = .ok (.invokevirtual 184, 3) := by decide +kernel
theorem dX10_thin_66 : decode cX10_thin 66 = .ok (.aload_n 0, 1) := by decide +kernel
theorem dX10_thin_67 : decode cX10_thin 67 = .ok (.bipush 8, 2) := by decide +kernel
theorem dX10_thin_69 : decode cX10_thin 69 = .ok (.invokevirtual 135, 3) := by decide +kernel
theorem dX10_thin_72 : decode cX10_thin 72 = .ok (.ireturn, 1) := by decide +kernel
theorem dX10_both_0 : decode cX10_both 0 = .ok (.aload_n 0, 1) := by decide +kernel
theorem dX10_both_1 : decode cX10_both 1 = .ok (.iload_n 1, 1) := by decide +kernel
theorem dX10_both_2 : decode cX10_both 2 = .ok (.invokevirtual 166, 3) := by decide +kernel
theorem dX10_both_5 : decode cX10_both 5 = .ok (.astore_n 3, 1) := by decide +kernel
theorem dX10_both_6 : decode cX10_both 6 = .ok (.aload_n 0, 1) := by decide +kernel
theorem dX10_both_7 : decode cX10_both 7 = .ok (.iload_n 2, 1) := by decide +kernel
theorem dX10_both_8 : decode cX10_both 8 = .ok (.invokevirtual 166, 3) := by decide +kernel
theorem dX10_both_11 : decode cX10_both 11 = .ok (.astore 4, 2) := by decide +kernel
theorem dX10_both_13 : decode cX10_both 13 = .ok (.aload_n 3, 1) := by decide +kernel
theorem dX10_both_14 : decode cX10_both 14 = .ok (.ifnull 8, 3) := by decide +kernel
theorem dX10_both_17 : decode cX10_both 17 = .ok (.aload 4, 2) := by decide +kernel
theorem dX10_both_19 : decode cX10_both 19 = .ok (.ifnonnull 9, 3) := by decide +kernel
theorem dX10_both_22 : decode cX10_both 22 = .ok (.aload_n 0, 1) := by decide +kernel
theorem dX10_both_23 : decode cX10_both 23 = .ok (.iconst 1, 1) := by decide +kernel
theorem dX10_both_24 : decode cX10_both 24 = .ok (.invokevirtual 83, 3) := by decide +kernel
theorem dX10_both_27 : decode cX10_both 27 = .ok (.ireturn, 1) := by decide +kernel
theorem dX10_both_28 : decode cX10_both 28 = .ok (.aload_n 0, 1) := by decide +kernel
theorem dX10_both_29 : decode cX10_both 29 = .ok (.invokevirtual 119, 3) := by decide +kernel
theorem dX10_both_32 : decode cX10_both 32 = .ok (.ifCond .ne 9, 3) := by decide +kernel
theorem dX10_both_35 : decode cX10_both 35 = .ok (.aload_n 0, 1) := by decide +kernel
theorem dX10_both_36 : decode cX10_both 36 = .ok (.iconst 4, 1) := by decide +kernel
theorem dX10_both_37 : decode cX10_both 37 = .ok (.invokevirtual 83, 3) := by decide +kernel
theorem dX10_both_40 : decode cX10_both 40 = .ok (.ireturn, 1) := by decide +kernel
theorem dX10_both_41 : decode cX10_both 41 = .ok (.aload_n 0, 1) := by decide +kernel
theorem dX10_both_42 : decode cX10_both 42 = .ok (.getfield 63, 3) := by decide +kernel
theorem dX10_both_45 : decode cX10_both 45 = .ok (.aload_n 0, 1) := by decide +kernel
theorem dX10_both_46 : decode cX10_both 46 = .ok (.getfield 10, 3) := by decide +kernel
theorem dX10_both_49 : decode cX10_both 49 = .ok (.getfield 87, 3) := by decide +kernel
theorem dX10_both_52 : decode cX10_both 52 = .ok (.invokevirtual 122, 3) := by decide +kernel
theorem dX10_both_55 : decode cX10_both 55 = .ok (.aload_n 0, 1) := by decide +kernel
theorem dX10_both_56 : decode cX10_both 56 = .ok (.getfield 63, 3) := by decide +kernel
theorem dX10_both_59 : decode cX10_both 59 = .ok (.aload_n 3, 1) := by decide +kernel
theorem dX10_both_60 : decode cX10_both 60 = .ok (.aload 4, 2) := by decide +kernel
theorem dX10_both_62 : decode cX10_both 62 = .ok (.invokevirtual 188, 3) := by decide +kernel
theorem dX10_both_65 : decode cX10_both 65 = .ok (.aload_n 0, 1) := by decide +kernel
theorem dX10_both_66 : decode cX10_both 66 = .ok (.bipush 9, 2) := by decide +kernel
theorem dX10_both_68 : decode cX10_both 68 = .ok (.invokevirtual 135, 3) := by decide +kernel
theorem dX10_both_71 : decode cX10_both 71 = .ok (.ireturn, 1) := by decide +kernel
theorem dX10_better_0 : decode cX10_better 0 = .ok (.aload_n 0, 1) := by decide +kernel
theorem dX10_better_1 : decode cX10_better 1 = .ok (.iload_n 1, 1) := by decide +kernel
theorem dX10_better_2 : decode cX10_better 2 = .ok (.invokevirtual 166, 3) := by decide +kernel
theorem dX10_better_5 : decode cX10_better 5 = .ok (.astore_n 2, 1) := by decide +kernel
theorem dX10_better_6 : decode cX10_better 6 = .ok (.aload_n 2, 1) := by decide +kernel
theorem dX10_better_7 : decode cX10_better 7 = .ok (.ifnonnull 9, 3) := by decide +kernel
theorem dX10_better_10 : decode cX10_better 10 = .ok (.aload_n 0, 1) := by decide +kernel
theorem dX10_better_11 : decode cX10_better 11 = .ok (.iconst 1, 1) := by decide +kernel
theorem dX10_better_12 : decode cX10_better 12 = .ok (.invokevirtual 83, 3) := by decide +kernel
theorem dX10_better_15 : decode cX10_better 15 = .ok (.ireturn, 1) := by decide +kernel
theorem dX10_better_16 : decode cX10_better 16 = .ok (.aload_n 2, 1) := by decide +kernel
theorem dX10_better_17 : decode cX10_better 17 = .ok (.aload_n 2, 1) := by decide +kernel
theorem dX10_better_18 : decode cX10_better 18 = .ok (.invokestatic 192, 3) := by decide +kernel
theorem dX10_better_21 : decode cX10_better 21 = .ok (.bipush (-2), 2) := by decide +kernel
theorem dX10_better_23 : decode cX10_better 23 = .ok (.if_icmp .eq 10, 3) := by decide +kernel
theorem dX10_better_26 : decode cX10_better 26 = .ok (.aload_n 0, 1) := by decide +kernel
theorem dX10_better_27 : decode cX10_better 27 = .ok (.bipush 7, 2) := by decide +kernel
theorem dX10_better_29 : decode cX10_better 29 = .ok (.invokevirtual 83, 3) := by decide +kernel
theorem dX10_better_32 : decode cX10_better 32 = .ok (.ireturn, 1) := by decide +kernel
theorem dX10_better_33 : decode cX10_better 33 = .ok (.aload_n 0, 1) := by decide +kernel
theorem dX10_better_34 : decode cX10_better 34 = .ok (.invokevirtual 119, 3) := by decide +kernel
theorem dX10_better_37 : decode cX10_better 37 = .ok (.ifCond .ne 9, 3) := by decide +kernel
theorem dX10_better_40 : decode cX10_better 40 = .ok (.aload_n 0, 1) := by decide +kernel
theorem dX10_better_41 : decode cX10_better 41 = .ok (.iconst 4, 1) := by decide +kernel
theorem dX10_better_42 : decode cX10_better 42 = .ok (.invokevirtual 83, 3) := by decide +kernel
theorem dX10_better_45 : decode cX10_better 45 = .ok (.ireturn, 1) := by decide +kernel
theorem dX10_better_46 : decode cX10_better 46 = .ok (.aload_n 0, 1) := by decide +kernel
theorem dX10_better_47 : decode cX10_better 47 = .ok (.getfield 63, 3) := by decide +kernel
theorem dX10_better_50 : decode cX10_better 50 = .ok (.aload_n 0, 1) := by decide +kernel
theorem dX10_better_51 : decode cX10_better 51 = .ok (.getfield 10, 3) := by decide +kernel
theorem dX10_better_54 : decode cX10_better 54 = .ok (.getfield 87, 3) := by decide +kernel
theorem dX10_better_57 : decode cX10_better 57 = .ok (.invokevirtual 122, 3) := by decide +kernel
theorem dX10_better_60 : decode cX10_better 60 = .ok (.aload_n 0, 1) := by decide +kernel
theorem dX10_better_61 : decode cX10_better 61 = .ok (.getfield 63, 3) := by decide +kernel
theorem dX10_better_64 : decode cX10_better 64 = .ok (.aload_n 2, 1) := by decide +kernel
theorem dX10_better_65 : decode cX10_better 65 = .ok (.invokevirtual 196, 3) := by decide +kernel
theorem dX10_better_68 : decode cX10_better 68 = .ok (.aload_n 0, 1) := by decide +kernel
theorem dX10_better_69 : decode cX10_better 69 = .ok (.bipush 10, 2) := by decide +kernel
theorem dX10_better_71 : decode cX10_better 71 = .ok (.invokevirtual 178, 3) := by decide +kernel
theorem dX10_better_74 : decode cX10_better 74 = .ok (.ireturn, 1) := by decide +kernel
theorem dX10_family_0 : decode cX10_family 0 = .ok (.aload_n 0, 1) := by decide +kernel
theorem dX10_family_1 : decode cX10_family 1 = .ok (.iload_n 1, 1) := by decide +kernel
theorem dX10_family_2 : decode cX10_family 2 = .ok (.invokevirtual 166, 3) := by decide +kernel
theorem dX10_family_5 : decode cX10_family 5 = .ok (.astore_n 3, 1) := by decide +kernel
theorem dX10_family_6 : decode cX10_family 6 = .ok (.aload_n 3, 1) := by decide +kernel
theorem dX10_family_7 : decode cX10_family 7 = .ok (.ifnonnull 5, 3) := by decide +kernel
theorem dX10_family_10 : decode cX10_family 10 = .ok (.iconst (-1), 1) := by decide +kernel
theorem dX10_family_11 : decode cX10_family 11 = .ok (.ireturn, 1) := by decide +kernel
theorem dX10_family_12 : decode cX10_family 12 = .ok (.iload_n 2, 1) := by decide +kernel
theorem dX10_family_13 : decode cX10_family 13 = .ok (.tableswitch 60 0 4 #[35, 40, 45, 50, 55], 35) := by decide +kernel
theorem dX10_family_48 : decode cX10_family 48 = .ok (.aload_n 3, 1) := by decide +kernel
theorem dX10_family_49 : decode cX10_family 49 = .ok (.getfield 199, 3) := by decide +kernel
theorem dX10_family_52 : decode cX10_family 52 = .ok (.ireturn, 1) := by decide +kernel
theorem dX10_family_53 : decode cX10_family 53 = .ok (.aload_n 3, 1) := by decide +kernel
theorem dX10_family_54 : decode cX10_family 54 = .ok (.getfield 202, 3) := by decide +kernel
theorem dX10_family_57 : decode cX10_family 57 = .ok (.ireturn, 1) := by decide +kernel
theorem dX10_family_58 : decode cX10_family 58 = .ok (.aload_n 3, 1) := by decide +kernel
theorem dX10_family_59 : decode cX10_family 59 = .ok (.invokevirtual 203, 3) := by decide +kernel
theorem dX10_family_62 : decode cX10_family 62 = .ok (.ireturn, 1) := by decide +kernel
theorem dX10_family_63 : decode cX10_family 63 = .ok (.aload_n 3, 1) := by decide +kernel
theorem dX10_family_64 : decode cX10_family 64 = .ok (.invokevirtual 207, 3) := by decide +kernel
theorem dX10_family_67 : decode cX10_family 67 = .ok (.ireturn, 1) := by decide +kernel
theorem dX10_family_68 : decode cX10_family 68 = .ok (.aload_n 3, 1) := by decide +kernel
theorem dX10_family_69 : decode cX10_family 69 = .ok (.invokevirtual 210, 3) := by decide +kernel
theorem dX10_family_72 : decode cX10_family 72 = .ok (.ireturn, 1) := by decide +kernel
theorem dX10_family_73 : decode cX10_family 73 = .ok (.iconst (-1), 1) := by decide +kernel
theorem dX10_family_74 : decode cX10_family 74 = .ok (.ireturn, 1) := by decide +kernel
theorem dX10_quorum_0 : decode cX10_quorum 0 = .ok (.aload_n 0, 1) := by decide +kernel
theorem dX10_quorum_1 : decode cX10_quorum 1 = .ok (.iload_n 1, 1) := by decide +kernel
theorem dX10_quorum_2 : decode cX10_quorum 2 = .ok (.invokevirtual 166, 3) := by decide +kernel
theorem dX10_quorum_5 : decode cX10_quorum 5 = .ok (.astore_n 3, 1) := by decide +kernel
theorem dX10_quorum_6 : decode cX10_quorum 6 = .ok (.aload_n 3, 1) := by decide +kernel
theorem dX10_quorum_7 : decode cX10_quorum 7 = .ok (.ifnull 15, 3) := by decide +kernel
theorem dX10_quorum_10 : decode cX10_quorum 10 = .ok (.iload_n 2, 1) := by decide +kernel
theorem dX10_quorum_11 : decode cX10_quorum 11 = .ok (.ifCond .lt 11, 3) := by decide +kernel
theorem dX10_quorum_14 : decode cX10_quorum 14 = .ok (.iload_n 2, 1) := by decide +kernel
theorem dX10_quorum_15 : decode cX10_quorum 15 = .ok (.aload_n 3, 1) := by decide +kernel
theorem dX10_quorum_16 : decode cX10_quorum 16 = .ok (.getfield 202, 3) := by decide +kernel
theorem dX10_quorum_19 : decode cX10_quorum 19 = .ok (.if_icmp .lt 5, 3) := by decide +kernel
theorem dX10_quorum_22 : decode cX10_quorum 22 = .ok (.iconst (-1), 1) := by decide +kernel
theorem dX10_quorum_23 : decode cX10_quorum 23 = .ok (.ireturn, 1) := by decide +kernel
theorem dX10_quorum_24 : decode cX10_quorum 24 = .ok (.aload_n 3, 1) := by decide +kernel
theorem dX10_quorum_25 : decode cX10_quorum 25 = .ok (.getfield 213, 3) := by decide +kernel
theorem dX10_quorum_28 : decode cX10_quorum 28 = .ok (.iload_n 2, 1) := by decide +kernel
theorem dX10_quorum_29 : decode cX10_quorum 29 = .ok (.iaload, 1) := by decide +kernel
theorem dX10_quorum_30 : decode cX10_quorum 30 = .ok (.ireturn, 1) := by decide +kernel
theorem dX10_isLength_0 : decode cX10_isLength 0 = .ok (.iload_n 0, 1) := by decide +kernel
theorem dX10_isLength_1 : decode cX10_isLength 1 = .ok (.ifCond .lt 13, 3) := by decide +kernel
theorem dX10_isLength_4 : decode cX10_isLength 4 = .ok (.iload_n 0, 1) := by decide +kernel
theorem dX10_isLength_5 : decode cX10_isLength 5 = .ok (.bipush 16, 2) := by decide +kernel
theorem dX10_isLength_7 : decode cX10_isLength 7 = .ok (.if_icmp .gt 7, 3) := by decide +kernel
theorem dX10_isLength_10 : decode cX10_isLength 10 = .ok (.iconst 1, 1) := by decide +kernel
theorem dX10_isLength_11 : decode cX10_isLength 11 = .ok (.goto 4, 3) := by decide +kernel
theorem dX10_isLength_14 : decode cX10_isLength 14 = .ok (.iconst 0, 1) := by decide +kernel
theorem dX10_isLength_15 : decode cX10_isLength 15 = .ok (.ireturn, 1) := by decide +kernel
theorem dX10_familyAt_0 : decode cX10_familyAt 0 = .ok (.iload_n 1, 1) := by decide +kernel
theorem dX10_familyAt_1 : decode cX10_familyAt 1 = .ok (.ifCond .lt 17, 3) := by decide +kernel
theorem dX10_familyAt_4 : decode cX10_familyAt 4 = .ok (.iload_n 1, 1) := by decide +kernel
theorem dX10_familyAt_5 : decode cX10_familyAt 5 = .ok (.aload_n 0, 1) := by decide +kernel
theorem dX10_familyAt_6 : decode cX10_familyAt 6 = .ok (.getfield 22, 3) := by decide +kernel
theorem dX10_familyAt_9 : decode cX10_familyAt 9 = .ok (.if_icmp .ge 9, 3) := by decide +kernel
theorem dX10_familyAt_12 : decode cX10_familyAt 12 = .ok (.iload_n 1, 1) := by decide +kernel
theorem dX10_familyAt_13 : decode cX10_familyAt 13 = .ok (.bipush 24, 2) := by decide +kernel
theorem dX10_familyAt_15 : decode cX10_familyAt 15 = .ok (.if_icmp .lt 5, 3) := by decide +kernel
theorem dX10_familyAt_18 : decode cX10_familyAt 18 = .ok (.aconst_null, 1) := by decide +kernel
theorem dX10_familyAt_19 : decode cX10_familyAt 19 = .ok (.areturn, 1) := by decide +kernel
theorem dX10_familyAt_20 : decode cX10_familyAt 20 = .ok (.aload_n 0, 1) := by decide +kernel
theorem dX10_familyAt_21 : decode cX10_familyAt 21 = .ok (.getfield 18, 3) := by decide +kernel
theorem dX10_familyAt_24 : decode cX10_familyAt 24 = .ok (.iload_n 1, 1) := by decide +kernel
theorem dX10_familyAt_25 : decode cX10_familyAt 25 = .ok (.aaload, 1) := by decide +kernel
theorem dX10_familyAt_26 : decode cX10_familyAt 26 = .ok (.areturn, 1) := by decide +kernel
theorem dX10_roomForFamily_0 : decode cX10_roomForFamily 0 = .ok (.aload_n 0, 1) := by decide +kernel
theorem dX10_roomForFamily_1 : decode cX10_roomForFamily 1 = .ok (.getfield 22, 3) := by decide +kernel
theorem dX10_roomForFamily_4 : decode cX10_roomForFamily 4 = .ok (.ifCond .lt 16, 3) := by decide +kernel
theorem dX10_roomForFamily_7 : decode cX10_roomForFamily 7 = .ok (.aload_n 0, 1) := by decide +kernel
theorem dX10_roomForFamily_8 : decode cX10_roomForFamily 8 = .ok (.getfield 22, 3) := by decide +kernel
theorem dX10_roomForFamily_11 : decode cX10_roomForFamily 11 = .ok (.bipush 24, 2) := by decide +kernel
theorem dX10_roomForFamily_13 : decode cX10_roomForFamily 13 = .ok (.if_icmp .ge 7, 3) := by decide +kernel
theorem dX10_roomForFamily_16 : decode cX10_roomForFamily 16 = .ok (.iconst 1, 1) := by decide +kernel
theorem dX10_roomForFamily_17 : decode cX10_roomForFamily 17 = .ok (.goto 4, 3) := by decide +kernel
theorem dX10_roomForFamily_20 : decode cX10_roomForFamily 20 = .ok (.iconst 0, 1) := by decide +kernel
theorem dX10_roomForFamily_21 : decode cX10_roomForFamily 21 = .ok (.ireturn, 1) := by decide +kernel
theorem dX10_settleRows_0 : decode cX10_settleRows 0 = .ok (.aload_n 0, 1) := by decide +kernel
theorem dX10_settleRows_1 : decode cX10_settleRows 1 = .ok (.getfield 10, 3) := by decide +kernel
theorem dX10_settleRows_4 : decode cX10_settleRows 4 = .ok (.iload_n 1, 1) := by decide +kernel
theorem dX10_settleRows_5 : decode cX10_settleRows 5 = .ok (.aload_n 0, 1) := by decide +kernel
theorem dX10_settleRows_6 : decode cX10_settleRows 6 = .ok (.getfield 63, 3) := by decide +kernel
theorem dX10_settleRows_9 : decode cX10_settleRows 9 = .ok (.invokevirtual 216, 3) := by decide +kernel
theorem dX10_settleRows_12 : decode cX10_settleRows 12 = .ok (.invokevirtual 155, 3) := by decide +kernel
theorem dX10_settleRows_15 : decode cX10_settleRows 15 = .ok (.ifCond .ne 9, 3) := by decide +kernel
theorem dX10_settleRows_18 : decode cX10_settleRows 18 = .ok (.aload_n 0, 1) := by decide +kernel
theorem dX10_settleRows_19 : decode cX10_settleRows 19 = .ok (.iconst 1, 1) := by decide +kernel
theorem dX10_settleRows_20 : decode cX10_settleRows 20 = .ok (.invokevirtual 83, 3) := by decide +kernel
theorem dX10_settleRows_23 : decode cX10_settleRows 23 = .ok (.ireturn, 1) := by decide +kernel
theorem dX10_settleRows_24 : decode cX10_settleRows 24 = .ok (.aload_n 0, 1) := by decide +kernel
theorem dX10_settleRows_25 : decode cX10_settleRows 25 = .ok (.invokevirtual 119, 3) := by decide +kernel
theorem dX10_settleRows_28 : decode cX10_settleRows 28 = .ok (.ifCond .ne 9, 3) := by decide +kernel
theorem dX10_settleRows_31 : decode cX10_settleRows 31 = .ok (.aload_n 0, 1) := by decide +kernel
theorem dX10_settleRows_32 : decode cX10_settleRows 32 = .ok (.iconst 4, 1) := by decide +kernel
theorem dX10_settleRows_33 : decode cX10_settleRows 33 = .ok (.invokevirtual 83, 3) := by decide +kernel
theorem dX10_settleRows_36 : decode cX10_settleRows 36 = .ok (.ireturn, 1) := by decide +kernel
theorem dX10_settleRows_37 : decode cX10_settleRows 37 = .ok (.aload_n 0, 1) := by decide +kernel
theorem dX10_settleRows_38 : decode cX10_settleRows 38 = .ok (.getfield 63, 3) := by decide +kernel
theorem dX10_settleRows_41 : decode cX10_settleRows 41 = .ok (.aload_n 0, 1) := by decide +kernel
theorem dX10_settleRows_42 : decode cX10_settleRows 42 = .ok (.getfield 10, 3) := by decide +kernel
theorem dX10_settleRows_45 : decode cX10_settleRows 45 = .ok (.getfield 87, 3) := by decide +kernel
theorem dX10_settleRows_48 : decode cX10_settleRows 48 = .ok (.invokevirtual 122, 3) := by decide +kernel
theorem dX10_settleRows_51 : decode cX10_settleRows 51 = .ok (.aload_n 0, 1) := by decide +kernel
theorem dX10_settleRows_52 : decode cX10_settleRows 52 = .ok (.getfield 63, 3) := by decide +kernel
theorem dX10_settleRows_55 : decode cX10_settleRows 55 = .ok (.iload_n 1, 1) := by decide +kernel
theorem dX10_settleRows_56 : decode cX10_settleRows 56 = .ok (.invokevirtual 219, 3) := by decide +kernel
theorem dX10_settleRows_59 : decode cX10_settleRows 59 = .ok (.aload_n 0, 1) := by decide +kernel
theorem dX10_settleRows_60 : decode cX10_settleRows 60 = .ok (.iload_n 2, 1) := by decide +kernel
theorem dX10_settleRows_61 : decode cX10_settleRows 61 = .ok (.invokevirtual 135, 3) := by decide +kernel
theorem dX10_settleRows_64 : decode cX10_settleRows 64 = .ok (.ireturn, 1) := by decide +kernel
theorem dX10_settleGathered_0 : decode cX10_settleGathered 0 = .ok (.aload_n 0, 1) := by decide +kernel
theorem dX10_settleGathered_1 : decode cX10_settleGathered 1 = .ok (.getfield 63, 3) := by decide +kernel
theorem dX10_settleGathered_4 : decode cX10_settleGathered 4 = .ok (.getfield 126, 3) := by decide +kernel
theorem dX10_settleGathered_7 : decode cX10_settleGathered 7 = .ok (.invokevirtual 222, 3) := by decide +kernel
theorem dX10_settleGathered_10 : decode cX10_settleGathered 10 = .ok (.aload_n 0, 1) := by decide +kernel
theorem dX10_settleGathered_11 : decode cX10_settleGathered 11 = .ok (.iload_n 1, 1) := by decide +kernel
theorem dX10_settleGathered_12 : decode cX10_settleGathered 12 = .ok (.invokevirtual 178, 3) := by decide +kernel
theorem dX10_settleGathered_15 : decode cX10_settleGathered 15 = .ok (.ireturn, 1) := by decide +kernel
theorem dX10_settle_0 : decode cX10_settle 0 = .ok (.aload_n 0, 1) := by decide +kernel
theorem dX10_settle_1 : decode cX10_settle 1 = .ok (.getfield 63, 3) := by decide +kernel
theorem dX10_settle_4 : decode cX10_settle 4 = .ok (.getfield 126, 3) := by decide +kernel
theorem dX10_settle_7 : decode cX10_settle 7 = .ok (.invokevirtual 225, 3) := by decide +kernel
theorem dX10_settle_10 : decode cX10_settle 10 = .ok (.aload_n 0, 1) := by decide +kernel
theorem dX10_settle_11 : decode cX10_settle 11 = .ok (.getfield 63, 3) := by decide +kernel
theorem dX10_settle_14 : decode cX10_settle 14 = .ok (.getfield 126, 3) := by decide +kernel
theorem dX10_settle_17 : decode cX10_settle 17 = .ok (.invokevirtual 228, 3) := by decide +kernel
theorem dX10_settle_20 : decode cX10_settle 20 = .ok (.bipush 120, 2) := by decide +kernel
theorem dX10_settle_22 : decode cX10_settle 22 = .ok (.if_icmp .le 9, 3) := by decide +kernel
theorem dX10_settle_25 : decode cX10_settle 25 = .ok (.aload_n 0, 1) := by decide +kernel
theorem dX10_settle_26 : decode cX10_settle 26 = .ok (.iconst 3, 1) := by decide +kernel
theorem dX10_settle_27 : decode cX10_settle 27 = .ok (.invokevirtual 83, 3) := by decide +kernel
theorem dX10_settle_30 : decode cX10_settle 30 = .ok (.ireturn, 1) := by decide +kernel
theorem dX10_settle_31 : decode cX10_settle 31 = .ok (.aload_n 0, 1) := by decide +kernel
theorem dX10_settle_32 : decode cX10_settle 32 = .ok (.getfield 22, 3) := by decide +kernel
theorem dX10_settle_35 : decode cX10_settle 35 = .ok (.istore_n 2, 1) := by decide +kernel
theorem dX10_settle_36 : decode cX10_settle 36 = .ok (.iload_n 2, 1) := by decide +kernel
theorem dX10_settle_37 : decode cX10_settle 37 = .ok (.ifCond .lt 9, 3) := by decide +kernel
theorem dX10_settle_40 : decode cX10_settle 40 = .ok (.iload_n 2, 1) := by decide +kernel
theorem dX10_settle_41 : decode cX10_settle 41 = .ok (.bipush 24, 2) := by decide +kernel
theorem dX10_settle_43 : decode cX10_settle 43 = .ok (.if_icmp .lt 9, 3) := by decide +kernel
theorem dX10_settle_46 : decode cX10_settle 46 = .ok (.aload_n 0, 1) := by decide +kernel
theorem dX10_settle_47 : decode cX10_settle 47 = .ok (.iconst 4, 1) := by decide +kernel
theorem dX10_settle_48 : decode cX10_settle 48 = .ok (.invokevirtual 83, 3) := by decide +kernel
theorem dX10_settle_51 : decode cX10_settle 51 = .ok (.ireturn, 1) := by decide +kernel
theorem dX10_settle_52 : decode cX10_settle 52 = .ok (.aload_n 0, 1) := by decide +kernel
theorem dX10_settle_53 : decode cX10_settle 53 = .ok (.getfield 18, 3) := by decide +kernel
theorem dX10_settle_56 : decode cX10_settle 56 = .ok (.iload_n 2, 1) := by decide +kernel
theorem dX10_settle_57 : decode cX10_settle 57 = .ok (.aaload, 1) := by decide +kernel
theorem dX10_settle_58 : decode cX10_settle 58 = .ok (.iload_n 1, 1) := by decide +kernel
theorem dX10_settle_59 : decode cX10_settle 59 = .ok (.aload_n 0, 1) := by decide +kernel
theorem dX10_settle_60 : decode cX10_settle 60 = .ok (.getfield 63, 3) := by decide +kernel
theorem dX10_settle_63 : decode cX10_settle 63 = .ok (.getfield 126, 3) := by decide +kernel
theorem dX10_settle_66 : decode cX10_settle 66 = .ok (.invokevirtual 231, 3) := by decide +kernel
theorem dX10_settle_69 : decode cX10_settle 69 = .ok (.aload_n 0, 1) := by decide +kernel
theorem dX10_settle_70 : decode cX10_settle 70 = .ok (.iload_n 2, 1) := by decide +kernel
theorem dX10_settle_71 : decode cX10_settle 71 = .ok (.iconst 1, 1) := by decide +kernel
theorem dX10_settle_72 : decode cX10_settle 72 = .ok (.iadd, 1) := by decide +kernel
theorem dX10_settle_73 : decode cX10_settle 73 = .ok (.putfield 22, 3) := by decide +kernel
theorem dX10_settle_76 : decode cX10_settle 76 = .ok (.aload_n 0, 1) := by decide +kernel
theorem dX10_settle_77 : decode cX10_settle 77 = .ok (.getfield 49, 3) := by decide +kernel
theorem dX10_settle_80 : decode cX10_settle 80 = .ok (.iconst 2, 1) := by decide +kernel
theorem dX10_settle_81 : decode cX10_settle 81 = .ok (.iload_n 2, 1) := by decide +kernel
theorem dX10_settle_82 : decode cX10_settle 82 = .ok (.iconst 0, 1) := by decide +kernel
theorem dX10_settle_83 : decode cX10_settle 83 = .ok (.invokevirtual 99, 3) := by decide +kernel
theorem dX10_settle_86 : decode cX10_settle 86 = .ok (.pop, 1) := by decide +kernel
theorem dX10_settle_87 : decode cX10_settle 87 = .ok (.aload_n 0, 1) := by decide +kernel
theorem dX10_settle_88 : decode cX10_settle 88 = .ok (.iload_n 2, 1) := by decide +kernel
theorem dX10_settle_89 : decode cX10_settle 89 = .ok (.invokevirtual 103, 3) := by decide +kernel
theorem dX10_settle_92 : decode cX10_settle 92 = .ok (.ireturn, 1) := by decide +kernel
theorem dX10_has_0 : decode cX10_has 0 = .ok (.aload_n 0, 1) := by decide +kernel
theorem dX10_has_1 : decode cX10_has 1 = .ok (.iload_n 1, 1) := by decide +kernel
theorem dX10_has_2 : decode cX10_has 2 = .ok (.invokevirtual 166, 3) := by decide +kernel
theorem dX10_has_5 : decode cX10_has 5 = .ok (.astore_n 3, 1) := by decide +kernel
theorem dX10_has_6 : decode cX10_has 6 = .ok (.aload_n 3, 1) := by decide +kernel
theorem dX10_has_7 : decode cX10_has 7 = .ok (.ifnonnull 9, 3) := by decide +kernel
theorem dX10_has_10 : decode cX10_has 10 = .ok (.aload_n 0, 1) := by decide +kernel
theorem dX10_has_11 : decode cX10_has 11 = .ok (.iconst 1, 1) := by decide +kernel
theorem dX10_has_12 : decode cX10_has 12 = .ok (.invokevirtual 83, 3) := by decide +kernel
theorem dX10_has_15 : decode cX10_has 15 = .ok (.ireturn, 1) := by decide +kernel
theorem dX10_has_16 : decode cX10_has 16 = .ok (.aload_n 0, 1) := by decide +kernel
theorem dX10_has_17 : decode cX10_has 17 = .ok (.aload_n 3, 1) := by decide +kernel
theorem dX10_has_18 : decode cX10_has 18 = .ok (.iload_n 2, 1) := by decide +kernel
theorem dX10_has_19 : decode cX10_has 19 = .ok (.invokevirtual 181, 3) := by decide +kernel
theorem dX10_has_22 : decode cX10_has 22 = .ok (.ifCond .eq 7, 3) := by decide +kernel
theorem dX10_has_25 : decode cX10_has 25 = .ok (.iconst 1, 1) := by decide +kernel
theorem dX10_has_26 : decode cX10_has 26 = .ok (.goto 4, 3) := by decide +kernel
theorem dX10_has_29 : decode cX10_has 29 = .ok (.iconst 0, 1) := by decide +kernel
theorem dX10_has_30 : decode cX10_has 30 = .ok (.invokevirtual 103, 3) := by decide +kernel
theorem dX10_has_33 : decode cX10_has 33 = .ok (.ireturn, 1) := by decide +kernel
theorem dX10_apart_0 : decode cX10_apart 0 = .ok (.aload_n 0, 1) := by decide +kernel
theorem dX10_apart_1 : decode cX10_apart 1 = .ok (.iload_n 1, 1) := by decide +kernel
theorem dX10_apart_2 : decode cX10_apart 2 = .ok (.invokevirtual 166, 3) := by decide +kernel
theorem dX10_apart_5 : decode cX10_apart 5 = .ok (.astore_n 3, 1) := by decide +kernel
theorem dX10_apart_6 : decode cX10_apart 6 = .ok (.aload_n 0, 1) := by decide +kernel
theorem dX10_apart_7 : decode cX10_apart 7 = .ok (.iload_n 2, 1) := by decide +kernel
theorem dX10_apart_8 : decode cX10_apart 8 = .ok (.invokevirtual 166, 3) := by decide +kernel
theorem dX10_apart_11 : decode cX10_apart 11 = .ok (.astore 4, 2) := by decide +kernel
theorem dX10_apart_13 : decode cX10_apart 13 = .ok (.aload_n 3, 1) := by decide +kernel
theorem dX10_apart_14 : decode cX10_apart 14 = .ok (.ifnull 8, 3) := by decide +kernel
theorem dX10_apart_17 : decode cX10_apart 17 = .ok (.aload 4, 2) := by decide +kernel
theorem dX10_apart_19 : decode cX10_apart 19 = .ok (.ifnonnull 9, 3) := by decide +kernel
theorem dX10_apart_22 : decode cX10_apart 22 = .ok (.aload_n 0, 1) := by decide +kernel
theorem dX10_apart_23 : decode cX10_apart 23 = .ok (.iconst 1, 1) := by decide +kernel
theorem dX10_apart_24 : decode cX10_apart 24 = .ok (.invokevirtual 83, 3) := by decide +kernel
theorem dX10_apart_27 : decode cX10_apart 27 = .ok (.ireturn, 1) := by decide +kernel
theorem dX10_apart_28 : decode cX10_apart 28 = .ok (.aload_n 0, 1) := by decide +kernel
theorem dX10_apart_29 : decode cX10_apart 29 = .ok (.aload_n 3, 1) := by decide +kernel
theorem dX10_apart_30 : decode cX10_apart 30 = .ok (.aload 4, 2) := by decide +kernel
theorem dX10_apart_32 : decode cX10_apart 32 = .ok (.invokestatic 192, 3) := by decide +kernel
theorem dX10_apart_35 : decode cX10_apart 35 = .ok (.invokevirtual 103, 3) := by decide +kernel
theorem dX10_apart_38 : decode cX10_apart 38 = .ok (.ireturn, 1) := by decide +kernel
theorem dX10_hit_0 : decode cX10_hit 0 = .ok (.aload_n 0, 1) := by decide +kernel
theorem dX10_hit_1 : decode cX10_hit 1 = .ok (.iload_n 1, 1) := by decide +kernel
theorem dX10_hit_2 : decode cX10_hit 2 = .ok (.invokevirtual 166, 3) := by decide +kernel
theorem dX10_hit_5 : decode cX10_hit 5 = .ok (.astore_n 2, 1) := by decide +kernel
theorem dX10_hit_6 : decode cX10_hit 6 = .ok (.aload_n 2, 1) := by decide +kernel
theorem dX10_hit_7 : decode cX10_hit 7 = .ok (.ifnonnull 9, 3) := by decide +kernel
theorem dX10_hit_10 : decode cX10_hit 10 = .ok (.aload_n 0, 1) := by decide +kernel
theorem dX10_hit_11 : decode cX10_hit 11 = .ok (.iconst 1, 1) := by decide +kernel
theorem dX10_hit_12 : decode cX10_hit 12 = .ok (.invokevirtual 83, 3) := by decide +kernel
theorem dX10_hit_15 : decode cX10_hit 15 = .ok (.ireturn, 1) := by decide +kernel
theorem dX10_hit_16 : decode cX10_hit 16 = .ok (.aload_n 0, 1) := by decide +kernel
theorem dX10_hit_17 : decode cX10_hit 17 = .ok (.aload_n 0, 1) := by decide +kernel
theorem dX10_hit_18 : decode cX10_hit 18 = .ok (.aload_n 2, 1) := by decide +kernel
theorem dX10_hit_19 : decode cX10_hit 19 = .ok (.invokevirtual 235, 3) := by decide +kernel
theorem dX10_hit_22 : decode cX10_hit 22 = .ok (.invokevirtual 103, 3) := by decide +kernel
theorem dX10_hit_25 : decode cX10_hit 25 = .ok (.ireturn, 1) := by decide +kernel
theorem dX10_falls_0 : decode cX10_falls 0 = .ok (.aload_n 0, 1) := by decide +kernel
theorem dX10_falls_1 : decode cX10_falls 1 = .ok (.iload_n 1, 1) := by decide +kernel
theorem dX10_falls_2 : decode cX10_falls 2 = .ok (.invokevirtual 166, 3) := by decide +kernel
theorem dX10_falls_5 : decode cX10_falls 5 = .ok (.astore_n 2, 1) := by decide +kernel
theorem dX10_falls_6 : decode cX10_falls 6 = .ok (.aload_n 2, 1) := by decide +kernel
theorem dX10_falls_7 : decode cX10_falls 7 = .ok (.ifnonnull 9, 3) := by decide +kernel
theorem dX10_falls_10 : decode cX10_falls 10 = .ok (.aload_n 0, 1) := by decide +kernel
theorem dX10_falls_11 : decode cX10_falls 11 = .ok (.iconst 1, 1) := by decide +kernel
theorem dX10_falls_12 : decode cX10_falls 12 = .ok (.invokevirtual 83, 3) := by decide +kernel
theorem dX10_falls_15 : decode cX10_falls 15 = .ok (.ireturn, 1) := by decide +kernel
theorem dX10_falls_16 : decode cX10_falls 16 = .ok (.aload_n 0, 1) := by decide +kernel
theorem dX10_falls_17 : decode cX10_falls 17 = .ok (.aload_n 0, 1) := by decide +kernel
theorem dX10_falls_18 : decode cX10_falls 18 = .ok (.aload_n 2, 1) := by decide +kernel
theorem dX10_falls_19 : decode cX10_falls 19 = .ok (.invokevirtual 235, 3) := by decide +kernel
theorem dX10_falls_22 : decode cX10_falls 22 = .ok (.invokestatic 239, 3) := by decide +kernel
theorem dX10_falls_25 : decode cX10_falls 25 = .ok (.iconst 1, 1) := by decide +kernel
theorem dX10_falls_26 : decode cX10_falls 26 = .ok (.isub, 1) := by decide +kernel
theorem dX10_falls_27 : decode cX10_falls 27 = .ok (.invokevirtual 103, 3) := by decide +kernel
theorem dX10_falls_30 : decode cX10_falls 30 = .ok (.ireturn, 1) := by decide +kernel
theorem dX10_liars_0 : decode cX10_liars 0 = .ok (.aload_n 0, 1) := by decide +kernel
theorem dX10_liars_1 : decode cX10_liars 1 = .ok (.iload_n 1, 1) := by decide +kernel
theorem dX10_liars_2 : decode cX10_liars 2 = .ok (.invokevirtual 166, 3) := by decide +kernel
theorem dX10_liars_5 : decode cX10_liars 5 = .ok (.astore_n 3, 1) := by decide +kernel
theorem dX10_liars_6 : decode cX10_liars 6 = .ok (.aload_n 3, 1) := by decide +kernel
theorem dX10_liars_7 : decode cX10_liars 7 = .ok (.ifnonnull 9, 3) := by decide +kernel
theorem dX10_liars_10 : decode cX10_liars 10 = .ok (.aload_n 0, 1) := by decide +kernel
theorem dX10_liars_11 : decode cX10_liars 11 = .ok (.iconst 1, 1) := by decide +kernel
theorem dX10_liars_12 : decode cX10_liars 12 = .ok (.invokevirtual 83, 3) := by decide +kernel
theorem dX10_liars_15 : decode cX10_liars 15 = .ok (.ireturn, 1) := by decide +kernel
theorem dX10_liars_16 : decode cX10_liars 16 = .ok (.aload_n 3, 1) := by decide +kernel
theorem dX10_liars_17 : decode cX10_liars 17 = .ok (.invokevirtual 244, 3) := by decide +kernel
theorem dX10_liars_20 : decode cX10_liars 20 = .ok (.istore 4, 2) := by decide +kernel
theorem dX10_liars_22 : decode cX10_liars 22 = .ok (.iload 4, 2) := by decide +kernel
theorem dX10_liars_24 : decode cX10_liars 24 = .ok (.ifCond .ne 9, 3) := by decide +kernel
theorem dX10_liars_27 : decode cX10_liars 27 = .ok (.aload_n 0, 1) := by decide +kernel
theorem dX10_liars_28 : decode cX10_liars 28 = .ok (.iconst (-1), 1) := by decide +kernel
theorem dX10_liars_29 : decode cX10_liars 29 = .ok (.invokevirtual 103, 3) := by decide +kernel
theorem dX10_liars_32 : decode cX10_liars 32 = .ok (.ireturn, 1) := by decide +kernel
theorem dX10_liars_33 : decode cX10_liars 33 = .ok (.aload_n 0, 1) := by decide +kernel
theorem dX10_liars_34 : decode cX10_liars 34 = .ok (.iload_n 2, 1) := by decide +kernel
theorem dX10_liars_35 : decode cX10_liars 35 = .ok (.ifCond .eq 12, 3) := by decide +kernel
theorem dX10_liars_38 : decode cX10_liars 38 = .ok (.iload 4, 2) := by decide +kernel
theorem dX10_liars_40 : decode cX10_liars 40 = .ok (.iconst 1, 1) := by decide +kernel
theorem dX10_liars_41 : decode cX10_liars 41 = .ok (.isub, 1) := by decide +kernel
theorem dX10_liars_42 : decode cX10_liars 42 = .ok (.iconst 2, 1) := by decide +kernel
theorem dX10_liars_43 : decode cX10_liars 43 = .ok (.idiv, 1) := by decide +kernel
theorem dX10_liars_44 : decode cX10_liars 44 = .ok (.goto 7, 3) := by decide +kernel
theorem dX10_liars_47 : decode cX10_liars 47 = .ok (.iload 4, 2) := by decide +kernel
theorem dX10_liars_49 : decode cX10_liars 49 = .ok (.iconst 1, 1) := by decide +kernel
theorem dX10_liars_50 : decode cX10_liars 50 = .ok (.isub, 1) := by decide +kernel
theorem dX10_liars_51 : decode cX10_liars 51 = .ok (.invokevirtual 103, 3) := by decide +kernel
theorem dX10_liars_54 : decode cX10_liars 54 = .ok (.ireturn, 1) := by decide +kernel
theorem dX10_chance_0 : decode cX10_chance 0 = .ok (.aload_n 0, 1) := by decide +kernel
theorem dX10_chance_1 : decode cX10_chance 1 = .ok (.iload_n 1, 1) := by decide +kernel
theorem dX10_chance_2 : decode cX10_chance 2 = .ok (.invokevirtual 166, 3) := by decide +kernel
theorem dX10_chance_5 : decode cX10_chance 5 = .ok (.astore_n 2, 1) := by decide +kernel
theorem dX10_chance_6 : decode cX10_chance 6 = .ok (.aload_n 2, 1) := by decide +kernel
theorem dX10_chance_7 : decode cX10_chance 7 = .ok (.ifnonnull 10, 3) := by decide +kernel
theorem dX10_chance_10 : decode cX10_chance 10 = .ok (.aload_n 0, 1) := by decide +kernel
theorem dX10_chance_11 : decode cX10_chance 11 = .ok (.iconst 1, 1) := by decide +kernel
theorem dX10_chance_12 : decode cX10_chance 12 = .ok (.invokevirtual 83, 3) := by decide +kernel
theorem dX10_chance_15 : decode cX10_chance 15 = .ok (.i2l, 1) := by decide +kernel
theorem dX10_chance_16 : decode cX10_chance 16 = .ok (.lreturn, 1) := by decide +kernel
theorem dX10_chance_17 : decode cX10_chance 17 = .ok (.aload_n 0, 1) := by decide +kernel
theorem dX10_chance_18 : decode cX10_chance 18 = .ok (.getfield 63, 3) := by decide +kernel
theorem dX10_chance_21 : decode cX10_chance 21 = .ok (.aload_n 0, 1) := by decide +kernel
theorem dX10_chance_22 : decode cX10_chance 22 = .ok (.getfield 10, 3) := by decide +kernel
theorem dX10_chance_25 : decode cX10_chance 25 = .ok (.getfield 87, 3) := by decide +kernel
theorem dX10_chance_28 : decode cX10_chance 28 = .ok (.invokevirtual 122, 3) := by decide +kernel
theorem dX10_chance_31 : decode cX10_chance 31 = .ok (.aload_n 0, 1) := by decide +kernel
theorem dX10_chance_32 : decode cX10_chance 32 = .ok (.getfield 63, 3) := by decide +kernel
theorem dX10_chance_35 : decode cX10_chance 35 = .ok (.aload_n 2, 1) := by decide +kernel
theorem dX10_chance_36 : decode cX10_chance 36 = .ok (.invokevirtual 247, 3) := by decide +kernel
theorem dX10_chance_39 : decode cX10_chance 39 = .ok (.aload_n 0, 1) := by decide +kernel
theorem dX10_chance_40 : decode cX10_chance 40 = .ok (.iconst 0, 1) := by decide +kernel
theorem dX10_chance_41 : decode cX10_chance 41 = .ok (.putfield 74, 3) := by decide +kernel
theorem dX10_chance_44 : decode cX10_chance 44 = .ok (.aload_n 0, 1) := by decide +kernel
theorem dX10_chance_45 : decode cX10_chance 45 = .ok (.getfield 63, 3) := by decide +kernel
theorem dX10_chance_48 : decode cX10_chance 48 = .ok (.getfield 126, 3) := by decide +kernel
theorem dX10_chance_51 : decode cX10_chance 51 = .ok (.aload_n 0, 1) := by decide +kernel
theorem dX10_chance_52 : decode cX10_chance 52 = .ok (.getfield 10, 3) := by decide +kernel
theorem dX10_chance_55 : decode cX10_chance 55 = .ok (.invokevirtual 250, 3) := by decide +kernel
theorem dX10_chance_58 : decode cX10_chance 58 = .ok (.lreturn, 1) := by decide +kernel
theorem dX10_firstApart_0 : decode cX10_firstApart 0 = .ok (.iconst 0, 1) := by decide +kernel
theorem dX10_firstApart_1 : decode cX10_firstApart 1 = .ok (.istore_n 2, 1) := by decide +kernel
theorem dX10_firstApart_2 : decode cX10_firstApart 2 = .ok (.iload_n 2, 1) := by decide +kernel
theorem dX10_firstApart_3 : decode cX10_firstApart 3 = .ok (.aload_n 0, 1) := by decide +kernel
theorem dX10_firstApart_4 : decode cX10_firstApart 4 = .ok (.getfield 202, 3) := by decide +kernel
theorem dX10_firstApart_7 : decode cX10_firstApart 7 = .ok (.if_icmp .ge 60, 3) := by decide +kernel
theorem dX10_firstApart_10 : decode cX10_firstApart 10 = .ok (.aload_n 0, 1) := by decide +kernel
theorem dX10_firstApart_11 : decode cX10_firstApart 11 = .ok (.aload_n 1, 1) := by decide +kernel
theorem dX10_firstApart_12 : decode cX10_firstApart 12 = .ok (.if_acmp .ne 9, 3) := by decide +kernel
theorem dX10_firstApart_15 : decode cX10_firstApart 15 = .ok (.iload_n 2, 1) := by decide +kernel
theorem dX10_firstApart_16 : decode cX10_firstApart 16 = .ok (.iconst 1, 1) := by decide +kernel
theorem dX10_firstApart_17 : decode cX10_firstApart 17 = .ok (.iadd, 1) := by decide +kernel
theorem dX10_firstApart_18 : decode cX10_firstApart 18 = .ok (.goto 4, 3) := by decide +kernel
theorem dX10_firstApart_21 : decode cX10_firstApart 21 = .ok (.iconst 0, 1) := by decide +kernel
theorem dX10_firstApart_22 : decode cX10_firstApart 22 = .ok (.istore_n 3, 1) := by decide +kernel
theorem dX10_firstApart_23 : decode cX10_firstApart 23 = .ok (.iload_n 3, 1) := by decide +kernel
theorem dX10_firstApart_24 : decode cX10_firstApart 24 = .ok (.aload_n 1, 1) := by decide +kernel
theorem dX10_firstApart_25 : decode cX10_firstApart 25 = .ok (.getfield 202, 3) := by decide +kernel
theorem dX10_firstApart_28 : decode cX10_firstApart 28 = .ok (.if_icmp .ge 33, 3) := by decide +kernel
theorem dX10_firstApart_31 : decode cX10_firstApart 31 = .ok (.aload_n 0, 1) := by decide +kernel
theorem dX10_firstApart_32 : decode cX10_firstApart 32 = .ok (.getfield 213, 3) := by decide +kernel
theorem dX10_firstApart_35 : decode cX10_firstApart 35 = .ok (.iload_n 2, 1) := by decide +kernel
theorem dX10_firstApart_36 : decode cX10_firstApart 36 = .ok (.iaload, 1) := by decide +kernel
theorem dX10_firstApart_37 : decode cX10_firstApart 37 = .ok (.aload_n 1, 1) := by decide +kernel
theorem dX10_firstApart_38 : decode cX10_firstApart 38 = .ok (.getfield 213, 3) := by decide +kernel
theorem dX10_firstApart_41 : decode cX10_firstApart 41 = .ok (.iload_n 3, 1) := by decide +kernel
theorem dX10_firstApart_42 : decode cX10_firstApart 42 = .ok (.iaload, 1) := by decide +kernel
theorem dX10_firstApart_43 : decode cX10_firstApart 43 = .ok (.iand, 1) := by decide +kernel
theorem dX10_firstApart_44 : decode cX10_firstApart 44 = .ok (.ifCond .ne 11, 3) := by decide +kernel
theorem dX10_firstApart_47 : decode cX10_firstApart 47 = .ok (.sipush 1000, 3) := by decide +kernel
theorem dX10_firstApart_50 : decode cX10_firstApart 50 = .ok (.iload_n 2, 1) := by decide +kernel
theorem dX10_firstApart_51 : decode cX10_firstApart 51 = .ok (.imul, 1) := by decide +kernel
theorem dX10_firstApart_52 : decode cX10_firstApart 52 = .ok (.iload_n 3, 1) := by decide +kernel
theorem dX10_firstApart_53 : decode cX10_firstApart 53 = .ok (.iadd, 1) := by decide +kernel
theorem dX10_firstApart_54 : decode cX10_firstApart 54 = .ok (.ireturn, 1) := by decide +kernel
theorem dX10_firstApart_55 : decode cX10_firstApart 55 = .ok (.iinc 3 1, 3) := by decide +kernel
theorem dX10_firstApart_58 : decode cX10_firstApart 58 = .ok (.goto (-35), 3) := by decide +kernel
theorem dX10_firstApart_61 : decode cX10_firstApart 61 = .ok (.iinc 2 1, 3) := by decide +kernel
theorem dX10_firstApart_64 : decode cX10_firstApart 64 = .ok (.goto (-62), 3) := by decide +kernel
theorem dX10_firstApart_67 : decode cX10_firstApart 67 = .ok (.bipush (-2), 2) := by decide +kernel
theorem dX10_firstApart_69 : decode cX10_firstApart 69 = .ok (.ireturn, 1) := by decide +kernel
theorem dX10_smallestMeeting_0 : decode cX10_smallestMeeting 0 = .ok (.aload_n 0, 1) := by decide +kernel
theorem dX10_smallestMeeting_1 : decode cX10_smallestMeeting 1 = .ok (.getfield 63, 3) := by decide +kernel
theorem dX10_smallestMeeting_4 : decode cX10_smallestMeeting 4 = .ok (.aload_n 0, 1) := by decide +kernel
theorem dX10_smallestMeeting_5 : decode cX10_smallestMeeting 5 = .ok (.getfield 10, 3) := by decide +kernel
theorem dX10_smallestMeeting_8 : decode cX10_smallestMeeting 8 = .ok (.getfield 87, 3) := by decide +kernel
theorem dX10_smallestMeeting_11 : decode cX10_smallestMeeting 11 = .ok (.invokevirtual 122, 3) := by decide +kernel
theorem dX10_smallestMeeting_14 : decode cX10_smallestMeeting 14 = .ok (.aload_n 0, 1) := by decide +kernel
theorem dX10_smallestMeeting_15 : decode cX10_smallestMeeting 15 = .ok (.getfield 63, 3) := by decide +kernel
theorem dX10_smallestMeeting_18 : decode cX10_smallestMeeting 18 = .ok (.aload_n 1, 1) := by decide +kernel
theorem dX10_smallestMeeting_19 : decode cX10_smallestMeeting 19 = .ok (.invokevirtual 174, 3) := by decide +kernel
theorem dX10_smallestMeeting_22 : decode cX10_smallestMeeting 22 = .ok (.aload_n 0, 1) := by decide +kernel
theorem dX10_smallestMeeting_23 : decode cX10_smallestMeeting 23 = .ok (.getfield 63, 3) := by decide +kernel
theorem dX10_smallestMeeting_26 : decode cX10_smallestMeeting 26 = .ok (.getfield 126, 3) := by decide +kernel
theorem dX10_smallestMeeting_29 : decode cX10_smallestMeeting 29 = .ok (.invokevirtual 225, 3) := by decide +kernel
theorem dX10_smallestMeeting_32 : decode cX10_smallestMeeting 32 = .ok (.aload_n 0, 1) := by decide +kernel
theorem dX10_smallestMeeting_33 : decode cX10_smallestMeeting 33 = .ok (.getfield 63, 3) := by decide +kernel
theorem dX10_smallestMeeting_36 : decode cX10_smallestMeeting 36 = .ok (.getfield 126, 3) := by decide +kernel
theorem dX10_smallestMeeting_39 : decode cX10_smallestMeeting 39 = .ok (.invokevirtual 254, 3) := by decide +kernel
theorem dX10_smallestMeeting_42 : decode cX10_smallestMeeting 42 = .ok (.ireturn, 1) := by decide +kernel
theorem dX10_even_0 : decode cX10_even 0 = .ok (.aload_n 0, 1) := by decide +kernel
theorem dX10_even_1 : decode cX10_even 1 = .ok (.iload_n 1, 1) := by decide +kernel
theorem dX10_even_2 : decode cX10_even 2 = .ok (.invokevirtual 166, 3) := by decide +kernel
theorem dX10_even_5 : decode cX10_even 5 = .ok (.astore_n 2, 1) := by decide +kernel
theorem dX10_even_6 : decode cX10_even 6 = .ok (.aload_n 2, 1) := by decide +kernel
theorem dX10_even_7 : decode cX10_even 7 = .ok (.ifnonnull 9, 3) := by decide +kernel
theorem dX10_even_10 : decode cX10_even 10 = .ok (.aload_n 0, 1) := by decide +kernel
theorem dX10_even_11 : decode cX10_even 11 = .ok (.iconst 1, 1) := by decide +kernel
theorem dX10_even_12 : decode cX10_even 12 = .ok (.invokevirtual 109, 3) := by decide +kernel
theorem dX10_even_15 : decode cX10_even 15 = .ok (.ireturn, 1) := by decide +kernel
theorem dX10_even_16 : decode cX10_even 16 = .ok (.aload_n 0, 1) := by decide +kernel
theorem dX10_even_17 : decode cX10_even 17 = .ok (.getfield 49, 3) := by decide +kernel
theorem dX10_even_20 : decode cX10_even 20 = .ok (.iconst 5, 1) := by decide +kernel
theorem dX10_even_21 : decode cX10_even 21 = .ok (.iconst 0, 1) := by decide +kernel
theorem dX10_even_22 : decode cX10_even 22 = .ok (.iconst 0, 1) := by decide +kernel
theorem dX10_even_23 : decode cX10_even 23 = .ok (.invokevirtual 99, 3) := by decide +kernel
theorem dX10_even_26 : decode cX10_even 26 = .ok (.getfield 257, 3) := by decide +kernel
theorem dX10_even_29 : decode cX10_even 29 = .ok (.getfield 263, 3) := by decide +kernel
theorem dX10_even_32 : decode cX10_even 32 = .ok (.aload_n 0, 1) := by decide +kernel
theorem dX10_even_33 : decode cX10_even 33 = .ok (.getfield 36, 3) := by decide +kernel
theorem dX10_even_36 : decode cX10_even 36 = .ok (.invokevirtual 264, 3) := by decide +kernel
theorem dX10_even_39 : decode cX10_even 39 = .ok (.aload_n 0, 1) := by decide +kernel
theorem dX10_even_40 : decode cX10_even 40 = .ok (.getfield 36, 3) := by decide +kernel
theorem dX10_even_43 : decode cX10_even 43 = .ok (.iload_n 1, 1) := by decide +kernel
theorem dX10_even_44 : decode cX10_even 44 = .ok (.aload_n 2, 1) := by decide +kernel
theorem dX10_even_45 : decode cX10_even 45 = .ok (.getfield 202, 3) := by decide +kernel
theorem dX10_even_48 : decode cX10_even 48 = .ok (.invokevirtual 268, 3) := by decide +kernel
theorem dX10_even_51 : decode cX10_even 51 = .ok (.aload_n 0, 1) := by decide +kernel
theorem dX10_even_52 : decode cX10_even 52 = .ok (.invokevirtual 112, 3) := by decide +kernel
theorem dX10_even_55 : decode cX10_even 55 = .ok (.ireturn, 1) := by decide +kernel
theorem dX10_part_0 : decode cX10_part 0 = .ok (.aload_n 0, 1) := by decide +kernel
theorem dX10_part_1 : decode cX10_part 1 = .ok (.getfield 36, 3) := by decide +kernel
theorem dX10_part_4 : decode cX10_part 4 = .ok (.iload_n 1, 1) := by decide +kernel
theorem dX10_part_5 : decode cX10_part 5 = .ok (.invokevirtual 271, 3) := by decide +kernel
theorem dX10_part_8 : decode cX10_part 8 = .ok (.ifCond .ne 9, 3) := by decide +kernel
theorem dX10_part_11 : decode cX10_part 11 = .ok (.aload_n 0, 1) := by decide +kernel
theorem dX10_part_12 : decode cX10_part 12 = .ok (.iconst 1, 1) := by decide +kernel
theorem dX10_part_13 : decode cX10_part 13 = .ok (.invokevirtual 109, 3) := by decide +kernel
theorem dX10_part_16 : decode cX10_part 16 = .ok (.ireturn, 1) := by decide +kernel
theorem dX10_part_17 : decode cX10_part 17 = .ok (.iload_n 2, 1) := by decide +kernel
theorem dX10_part_18 : decode cX10_part 18 = .ok (.ifCond .lt 32, 3) := by decide +kernel
theorem dX10_part_21 : decode cX10_part 21 = .ok (.iload_n 2, 1) := by decide +kernel
theorem dX10_part_22 : decode cX10_part 22 = .ok (.sipush 1000, 3) := by decide +kernel
theorem dX10_part_25 : decode cX10_part 25 = .ok (.if_icmp .gt 25, 3) := by decide +kernel
theorem dX10_part_28 : decode cX10_part 28 = .ok (.aload_n 0, 1) := by decide +kernel
theorem dX10_part_29 : decode cX10_part 29 = .ok (.getfield 36, 3) := by decide +kernel
theorem dX10_part_32 : decode cX10_part 32 = .ok (.invokevirtual 274, 3) := by decide +kernel
theorem dX10_part_35 : decode cX10_part 35 = .ok (.aload_n 0, 1) := by decide +kernel
theorem dX10_part_36 : decode cX10_part 36 = .ok (.getfield 36, 3) := by decide +kernel
theorem dX10_part_39 : decode cX10_part 39 = .ok (.getfield 277, 3) := by decide +kernel
theorem dX10_part_42 : decode cX10_part 42 = .ok (.iload_n 1, 1) := by decide +kernel
theorem dX10_part_43 : decode cX10_part 43 = .ok (.iaload, 1) := by decide +kernel
theorem dX10_part_44 : decode cX10_part 44 = .ok (.isub, 1) := by decide +kernel
theorem dX10_part_45 : decode cX10_part 45 = .ok (.iload_n 2, 1) := by decide +kernel
theorem dX10_part_46 : decode cX10_part 46 = .ok (.iadd, 1) := by decide +kernel
theorem dX10_part_47 : decode cX10_part 47 = .ok (.ifCond .ne 9, 3) := by decide +kernel
theorem dX10_part_50 : decode cX10_part 50 = .ok (.aload_n 0, 1) := by decide +kernel
theorem dX10_part_51 : decode cX10_part 51 = .ok (.iconst 2, 1) := by decide +kernel
theorem dX10_part_52 : decode cX10_part 52 = .ok (.invokevirtual 109, 3) := by decide +kernel
theorem dX10_part_55 : decode cX10_part 55 = .ok (.ireturn, 1) := by decide +kernel
theorem dX10_part_56 : decode cX10_part 56 = .ok (.aload_n 0, 1) := by decide +kernel
theorem dX10_part_57 : decode cX10_part 57 = .ok (.getfield 49, 3) := by decide +kernel
theorem dX10_part_60 : decode cX10_part 60 = .ok (.iconst 4, 1) := by decide +kernel
theorem dX10_part_61 : decode cX10_part 61 = .ok (.iload_n 1, 1) := by decide +kernel
theorem dX10_part_62 : decode cX10_part 62 = .ok (.aload_n 0, 1) := by decide +kernel
theorem dX10_part_63 : decode cX10_part 63 = .ok (.getfield 36, 3) := by decide +kernel
theorem dX10_part_66 : decode cX10_part 66 = .ok (.getfield 277, 3) := by decide +kernel
theorem dX10_part_69 : decode cX10_part 69 = .ok (.iload_n 1, 1) := by decide +kernel
theorem dX10_part_70 : decode cX10_part 70 = .ok (.iaload, 1) := by decide +kernel
theorem dX10_part_71 : decode cX10_part 71 = .ok (.invokevirtual 99, 3) := by decide +kernel
theorem dX10_part_74 : decode cX10_part 74 = .ok (.pop, 1) := by decide +kernel
theorem dX10_part_75 : decode cX10_part 75 = .ok (.aload_n 0, 1) := by decide +kernel
theorem dX10_part_76 : decode cX10_part 76 = .ok (.getfield 36, 3) := by decide +kernel
theorem dX10_part_79 : decode cX10_part 79 = .ok (.getfield 277, 3) := by decide +kernel
theorem dX10_part_82 : decode cX10_part 82 = .ok (.iload_n 1, 1) := by decide +kernel
theorem dX10_part_83 : decode cX10_part 83 = .ok (.iload_n 2, 1) := by decide +kernel
theorem dX10_part_84 : decode cX10_part 84 = .ok (.iastore, 1) := by decide +kernel
theorem dX10_part_85 : decode cX10_part 85 = .ok (.aload_n 0, 1) := by decide +kernel
theorem dX10_part_86 : decode cX10_part 86 = .ok (.invokevirtual 112, 3) := by decide +kernel
theorem dX10_part_89 : decode cX10_part 89 = .ok (.ireturn, 1) := by decide +kernel
theorem dX10_partOf_0 : decode cX10_partOf 0 = .ok (.aload_n 0, 1) := by decide +kernel
theorem dX10_partOf_1 : decode cX10_partOf 1 = .ok (.getfield 36, 3) := by decide +kernel
theorem dX10_partOf_4 : decode cX10_partOf 4 = .ok (.iload_n 1, 1) := by decide +kernel
theorem dX10_partOf_5 : decode cX10_partOf 5 = .ok (.invokevirtual 271, 3) := by decide +kernel
theorem dX10_partOf_8 : decode cX10_partOf 8 = .ok (.ifCond .eq 15, 3) := by decide +kernel
theorem dX10_partOf_11 : decode cX10_partOf 11 = .ok (.aload_n 0, 1) := by decide +kernel
theorem dX10_partOf_12 : decode cX10_partOf 12 = .ok (.getfield 36, 3) := by decide +kernel
theorem dX10_partOf_15 : decode cX10_partOf 15 = .ok (.getfield 277, 3) := by decide +kernel
theorem dX10_partOf_18 : decode cX10_partOf 18 = .ok (.iload_n 1, 1) := by decide +kernel
theorem dX10_partOf_19 : decode cX10_partOf 19 = .ok (.iaload, 1) := by decide +kernel
theorem dX10_partOf_20 : decode cX10_partOf 20 = .ok (.goto 4, 3) := by decide +kernel
theorem dX10_partOf_23 : decode cX10_partOf 23 = .ok (.iconst (-1), 1) := by decide +kernel
theorem dX10_partOf_24 : decode cX10_partOf 24 = .ok (.ireturn, 1) := by decide +kernel
theorem dX10_load_0 : decode cX10_load 0 = .ok (.aload_n 0, 1) := by decide +kernel
theorem dX10_load_1 : decode cX10_load 1 = .ok (.aload_n 0, 1) := by decide +kernel
theorem dX10_load_2 : decode cX10_load 2 = .ok (.getfield 36, 3) := by decide +kernel
theorem dX10_load_5 : decode cX10_load 5 = .ok (.getfield 280, 3) := by decide +kernel
theorem dX10_load_8 : decode cX10_load 8 = .ok (.invokevirtual 166, 3) := by decide +kernel
theorem dX10_load_11 : decode cX10_load 11 = .ok (.astore_n 2, 1) := by decide +kernel
theorem dX10_load_12 : decode cX10_load 12 = .ok (.aload_n 2, 1) := by decide +kernel
theorem dX10_load_13 : decode cX10_load 13 = .ok (.ifnonnull 5, 3) := by decide +kernel
theorem dX10_load_16 : decode cX10_load 16 = .ok (.iconst (-1), 1) := by decide +kernel
theorem dX10_load_17 : decode cX10_load 17 = .ok (.ireturn, 1) := by decide +kernel
theorem dX10_load_18 : decode cX10_load 18 = .ok (.iload_n 1, 1) := by decide +kernel
theorem dX10_load_19 : decode cX10_load 19 = .ok (.tableswitch 79 0 3 #[29, 37, 55, 73], 29) := by decide +kernel
theorem dX10_load_48 : decode cX10_load 48 = .ok (.aload_n 0, 1) := by decide +kernel
theorem dX10_load_49 : decode cX10_load 49 = .ok (.getfield 36, 3) := by decide +kernel
theorem dX10_load_52 : decode cX10_load 52 = .ok (.getfield 280, 3) := by decide +kernel
theorem dX10_load_55 : decode cX10_load 55 = .ok (.ireturn, 1) := by decide +kernel
theorem dX10_load_56 : decode cX10_load 56 = .ok (.aload_n 0, 1) := by decide +kernel
theorem dX10_load_57 : decode cX10_load 57 = .ok (.aload_n 2, 1) := by decide +kernel
theorem dX10_load_58 : decode cX10_load 58 = .ok (.aload_n 0, 1) := by decide +kernel
theorem dX10_load_59 : decode cX10_load 59 = .ok (.aload_n 2, 1) := by decide +kernel
theorem dX10_load_60 : decode cX10_load 60 = .ok (.invokevirtual 283, 3) := by decide +kernel
theorem dX10_load_63 : decode cX10_load 63 = .ok (.invokevirtual 286, 3) := by decide +kernel
theorem dX10_load_66 : decode cX10_load 66 = .ok (.aload_n 0, 1) := by decide +kernel
theorem dX10_load_67 : decode cX10_load 67 = .ok (.getfield 70, 3) := by decide +kernel
theorem dX10_load_70 : decode cX10_load 70 = .ok (.getfield 289, 3) := by decide +kernel
theorem dX10_load_73 : decode cX10_load 73 = .ok (.ireturn, 1) := by decide +kernel
theorem dX10_load_74 : decode cX10_load 74 = .ok (.aload_n 0, 1) := by decide +kernel
theorem dX10_load_75 : decode cX10_load 75 = .ok (.aload_n 2, 1) := by decide +kernel
theorem dX10_load_76 : decode cX10_load 76 = .ok (.aload_n 0, 1) := by decide +kernel
theorem dX10_load_77 : decode cX10_load 77 = .ok (.aload_n 2, 1) := by decide +kernel
theorem dX10_load_78 : decode cX10_load 78 = .ok (.invokevirtual 283, 3) := by decide +kernel
theorem dX10_load_81 : decode cX10_load 81 = .ok (.invokevirtual 286, 3) := by decide +kernel
theorem dX10_load_84 : decode cX10_load 84 = .ok (.aload_n 0, 1) := by decide +kernel
theorem dX10_load_85 : decode cX10_load 85 = .ok (.getfield 70, 3) := by decide +kernel
theorem dX10_load_88 : decode cX10_load 88 = .ok (.getfield 292, 3) := by decide +kernel
theorem dX10_load_91 : decode cX10_load 91 = .ok (.ireturn, 1) := by decide +kernel
theorem dX10_load_92 : decode cX10_load 92 = .ok (.aload_n 0, 1) := by decide +kernel
theorem dX10_load_93 : decode cX10_load 93 = .ok (.aload_n 2, 1) := by decide +kernel
theorem dX10_load_94 : decode cX10_load 94 = .ok (.invokevirtual 283, 3) := by decide +kernel
theorem dX10_load_97 : decode cX10_load 97 = .ok (.ireturn, 1) := by decide +kernel
theorem dX10_load_98 : decode cX10_load 98 = .ok (.iconst (-1), 1) := by decide +kernel
theorem dX10_load_99 : decode cX10_load 99 = .ok (.ireturn, 1) := by decide +kernel
theorem dX10_loadOf_0 : decode cX10_loadOf 0 = .ok (.aload_n 0, 1) := by decide +kernel
theorem dX10_loadOf_1 : decode cX10_loadOf 1 = .ok (.aload_n 0, 1) := by decide +kernel
theorem dX10_loadOf_2 : decode cX10_loadOf 2 = .ok (.getfield 36, 3) := by decide +kernel
theorem dX10_loadOf_5 : decode cX10_loadOf 5 = .ok (.getfield 280, 3) := by decide +kernel
theorem dX10_loadOf_8 : decode cX10_loadOf 8 = .ok (.invokevirtual 166, 3) := by decide +kernel
theorem dX10_loadOf_11 : decode cX10_loadOf 11 = .ok (.astore_n 3, 1) := by decide +kernel
theorem dX10_loadOf_12 : decode cX10_loadOf 12 = .ok (.aload_n 3, 1) := by decide +kernel
theorem dX10_loadOf_13 : decode cX10_loadOf 13 = .ok (.ifnull 14, 3) := by decide +kernel
theorem dX10_loadOf_16 : decode cX10_loadOf 16 = .ok (.aload_n 0, 1) := by decide +kernel
theorem dX10_loadOf_17 : decode cX10_loadOf 17 = .ok (.getfield 10, 3) := by decide +kernel
theorem dX10_loadOf_20 : decode cX10_loadOf 20 = .ok (.iload_n 1, 1) := by decide +kernel
theorem dX10_loadOf_21 : decode cX10_loadOf 21 = .ok (.invokevirtual 106, 3) := by decide +kernel
theorem dX10_loadOf_24 : decode cX10_loadOf 24 = .ok (.ifCond .ne 5, 3) := by decide +kernel
theorem dX10_loadOf_27 : decode cX10_loadOf 27 = .ok (.iconst (-1), 1) := by decide +kernel
theorem dX10_loadOf_28 : decode cX10_loadOf 28 = .ok (.ireturn, 1) := by decide +kernel
theorem dX10_loadOf_29 : decode cX10_loadOf 29 = .ok (.aload_n 0, 1) := by decide +kernel
theorem dX10_loadOf_30 : decode cX10_loadOf 30 = .ok (.aload_n 3, 1) := by decide +kernel
theorem dX10_loadOf_31 : decode cX10_loadOf 31 = .ok (.iload_n 1, 1) := by decide +kernel
theorem dX10_loadOf_32 : decode cX10_loadOf 32 = .ok (.invokevirtual 286, 3) := by decide +kernel
theorem dX10_loadOf_35 : decode cX10_loadOf 35 = .ok (.aload_n 0, 1) := by decide +kernel
theorem dX10_loadOf_36 : decode cX10_loadOf 36 = .ok (.getfield 70, 3) := by decide +kernel
theorem dX10_loadOf_39 : decode cX10_loadOf 39 = .ok (.iload_n 2, 1) := by decide +kernel
theorem dX10_loadOf_40 : decode cX10_loadOf 40 = .ok (.invokevirtual 295, 3) := by decide +kernel
theorem dX10_loadOf_43 : decode cX10_loadOf 43 = .ok (.ireturn, 1) := by decide +kernel
theorem dX10_weight_0 : decode cX10_weight 0 = .ok (.aload_n 0, 1) := by decide +kernel
theorem dX10_weight_1 : decode cX10_weight 1 = .ok (.getfield 10, 3) := by decide +kernel
theorem dX10_weight_4 : decode cX10_weight 4 = .ok (.iload_n 1, 1) := by decide +kernel
theorem dX10_weight_5 : decode cX10_weight 5 = .ok (.invokevirtual 106, 3) := by decide +kernel
theorem dX10_weight_8 : decode cX10_weight 8 = .ok (.ifCond .ne 9, 3) := by decide +kernel
theorem dX10_weight_11 : decode cX10_weight 11 = .ok (.aload_n 0, 1) := by decide +kernel
theorem dX10_weight_12 : decode cX10_weight 12 = .ok (.iconst 1, 1) := by decide +kernel
theorem dX10_weight_13 : decode cX10_weight 13 = .ok (.invokevirtual 109, 3) := by decide +kernel
theorem dX10_weight_16 : decode cX10_weight 16 = .ok (.ireturn, 1) := by decide +kernel
theorem dX10_weight_17 : decode cX10_weight 17 = .ok (.iload_n 2, 1) := by decide +kernel
theorem dX10_weight_18 : decode cX10_weight 18 = .ok (.ifCond .lt 10, 3) := by decide +kernel
theorem dX10_weight_21 : decode cX10_weight 21 = .ok (.iload_n 2, 1) := by decide +kernel
theorem dX10_weight_22 : decode cX10_weight 22 = .ok (.sipush 1000, 3) := by decide +kernel
theorem dX10_weight_25 : decode cX10_weight 25 = .ok (.if_icmp .le 9, 3) := by decide +kernel
theorem dX10_weight_28 : decode cX10_weight 28 = .ok (.aload_n 0, 1) := by decide +kernel
theorem dX10_weight_29 : decode cX10_weight 29 = .ok (.iconst 2, 1) := by decide +kernel
theorem dX10_weight_30 : decode cX10_weight 30 = .ok (.invokevirtual 109, 3) := by decide +kernel
theorem dX10_weight_33 : decode cX10_weight 33 = .ok (.ireturn, 1) := by decide +kernel
theorem dX10_weight_34 : decode cX10_weight 34 = .ok (.aload_n 0, 1) := by decide +kernel
theorem dX10_weight_35 : decode cX10_weight 35 = .ok (.getfield 49, 3) := by decide +kernel
theorem dX10_weight_38 : decode cX10_weight 38 = .ok (.iconst 3, 1) := by decide +kernel
theorem dX10_weight_39 : decode cX10_weight 39 = .ok (.iload_n 1, 1) := by decide +kernel
theorem dX10_weight_40 : decode cX10_weight 40 = .ok (.aload_n 0, 1) := by decide +kernel
theorem dX10_weight_41 : decode cX10_weight 41 = .ok (.getfield 10, 3) := by decide +kernel
theorem dX10_weight_44 : decode cX10_weight 44 = .ok (.getfield 96, 3) := by decide +kernel
theorem dX10_weight_47 : decode cX10_weight 47 = .ok (.iload_n 1, 1) := by decide +kernel
theorem dX10_weight_48 : decode cX10_weight 48 = .ok (.iaload, 1) := by decide +kernel
theorem dX10_weight_49 : decode cX10_weight 49 = .ok (.invokevirtual 99, 3) := by decide +kernel
theorem dX10_weight_52 : decode cX10_weight 52 = .ok (.pop, 1) := by decide +kernel
theorem dX10_weight_53 : decode cX10_weight 53 = .ok (.aload_n 0, 1) := by decide +kernel
theorem dX10_weight_54 : decode cX10_weight 54 = .ok (.getfield 10, 3) := by decide +kernel
theorem dX10_weight_57 : decode cX10_weight 57 = .ok (.getfield 96, 3) := by decide +kernel
theorem dX10_weight_60 : decode cX10_weight 60 = .ok (.iload_n 1, 1) := by decide +kernel
theorem dX10_weight_61 : decode cX10_weight 61 = .ok (.iload_n 2, 1) := by decide +kernel
theorem dX10_weight_62 : decode cX10_weight 62 = .ok (.iastore, 1) := by decide +kernel
theorem dX10_weight_63 : decode cX10_weight 63 = .ok (.aload_n 0, 1) := by decide +kernel
theorem dX10_weight_64 : decode cX10_weight 64 = .ok (.invokevirtual 112, 3) := by decide +kernel
theorem dX10_weight_67 : decode cX10_weight 67 = .ok (.ireturn, 1) := by decide +kernel
theorem dX10_bound_0 : decode cX10_bound 0 = .ok (.aload_n 0, 1) := by decide +kernel
theorem dX10_bound_1 : decode cX10_bound 1 = .ok (.iload_n 1, 1) := by decide +kernel
theorem dX10_bound_2 : decode cX10_bound 2 = .ok (.invokevirtual 166, 3) := by decide +kernel
theorem dX10_bound_5 : decode cX10_bound 5 = .ok (.astore_n 3, 1) := by decide +kernel
theorem dX10_bound_6 : decode cX10_bound 6 = .ok (.aload_n 3, 1) := by decide +kernel
theorem dX10_bound_7 : decode cX10_bound 7 = .ok (.ifnonnull 9, 3) := by decide +kernel
theorem dX10_bound_10 : decode cX10_bound 10 = .ok (.aload_n 0, 1) := by decide +kernel
theorem dX10_bound_11 : decode cX10_bound 11 = .ok (.iconst 1, 1) := by decide +kernel
theorem dX10_bound_12 : decode cX10_bound 12 = .ok (.invokevirtual 83, 3) := by decide +kernel
theorem dX10_bound_15 : decode cX10_bound 15 = .ok (.ireturn, 1) := by decide +kernel
theorem dX10_bound_16 : decode cX10_bound 16 = .ok (.aload_n 0, 1) := by decide +kernel
theorem dX10_bound_17 : decode cX10_bound 17 = .ok (.aload_n 3, 1) := by decide +kernel
theorem dX10_bound_18 : decode cX10_bound 18 = .ok (.invokevirtual 299, 3) := by decide +kernel
end
section
theorem dX10_bound_21 : decode cX10_bound 21 = .ok (.aload_n 0, 1) := by decide +kernel
theorem dX10_bound_22 : decode cX10_bound 22 = .ok (.aload_n 0, 1) := by decide +kernel
theorem dX10_bound_23 : decode cX10_bound 23 = .ok (.getfield 70, 3) := by decide +kernel
theorem dX10_bound_26 : decode cX10_bound 26 = .ok (.iload_n 2, 1) := by decide +kernel
theorem dX10_bound_27 : decode cX10_bound 27 = .ok (.invokevirtual 295, 3) := by decide +kernel
theorem dX10_bound_30 : decode cX10_bound 30 = .ok (.invokevirtual 103, 3) := by decide +kernel
theorem dX10_bound_33 : decode cX10_bound 33 = .ok (.ireturn, 1) := by decide +kernel
theorem dX10_proved_0 : decode cX10_proved 0 = .ok (.aload_n 0, 1) := by decide +kernel
theorem dX10_proved_1 : decode cX10_proved 1 = .ok (.aload_n 0, 1) := by decide +kernel
theorem dX10_proved_2 : decode cX10_proved 2 = .ok (.getfield 36, 3) := by decide +kernel
theorem dX10_proved_5 : decode cX10_proved 5 = .ok (.getfield 280, 3) := by decide +kernel
theorem dX10_proved_8 : decode cX10_proved 8 = .ok (.invokevirtual 166, 3) := by decide +kernel
theorem dX10_proved_11 : decode cX10_proved 11 = .ok (.astore_n 1, 1) := by decide +kernel
theorem dX10_proved_12 : decode cX10_proved 12 = .ok (.aload_n 1, 1) := by decide +kernel
theorem dX10_proved_13 : decode cX10_proved 13 = .ok (.ifnonnull 9, 3) := by decide +kernel
theorem dX10_proved_16 : decode cX10_proved 16 = .ok (.aload_n 0, 1) := by decide +kernel
theorem dX10_proved_17 : decode cX10_proved 17 = .ok (.iconst 1, 1) := by decide +kernel
theorem dX10_proved_18 : decode cX10_proved 18 = .ok (.invokevirtual 83, 3) := by decide +kernel
theorem dX10_proved_21 : decode cX10_proved 21 = .ok (.ireturn, 1) := by decide +kernel
theorem dX10_proved_22 : decode cX10_proved 22 = .ok (.aload_n 0, 1) := by decide +kernel
theorem dX10_proved_23 : decode cX10_proved 23 = .ok (.aload_n 1, 1) := by decide +kernel
theorem dX10_proved_24 : decode cX10_proved 24 = .ok (.invokevirtual 299, 3) := by decide +kernel
theorem dX10_proved_27 : decode cX10_proved 27 = .ok (.aload_n 0, 1) := by decide +kernel
theorem dX10_proved_28 : decode cX10_proved 28 = .ok (.getfield 70, 3) := by decide +kernel
theorem dX10_proved_31 : decode cX10_proved 31 = .ok (.getfield 289, 3) := by decide +kernel
theorem dX10_proved_34 : decode cX10_proved 34 = .ok (.istore_n 2, 1) := by decide +kernel
theorem dX10_proved_35 : decode cX10_proved 35 = .ok (.aload_n 0, 1) := by decide +kernel
theorem dX10_proved_36 : decode cX10_proved 36 = .ok (.getfield 70, 3) := by decide +kernel
theorem dX10_proved_39 : decode cX10_proved 39 = .ok (.getfield 292, 3) := by decide +kernel
theorem dX10_proved_42 : decode cX10_proved 42 = .ok (.istore_n 3, 1) := by decide +kernel
theorem dX10_proved_43 : decode cX10_proved 43 = .ok (.aload_n 0, 1) := by decide +kernel
theorem dX10_proved_44 : decode cX10_proved 44 = .ok (.aload_n 1, 1) := by decide +kernel
theorem dX10_proved_45 : decode cX10_proved 45 = .ok (.aload_n 0, 1) := by decide +kernel
theorem dX10_proved_46 : decode cX10_proved 46 = .ok (.aload_n 1, 1) := by decide +kernel
theorem dX10_proved_47 : decode cX10_proved 47 = .ok (.invokevirtual 283, 3) := by decide +kernel
theorem dX10_proved_50 : decode cX10_proved 50 = .ok (.invokevirtual 286, 3) := by decide +kernel
theorem dX10_proved_53 : decode cX10_proved 53 = .ok (.aload_n 0, 1) := by decide +kernel
theorem dX10_proved_54 : decode cX10_proved 54 = .ok (.getfield 70, 3) := by decide +kernel
theorem dX10_proved_57 : decode cX10_proved 57 = .ok (.getfield 289, 3) := by decide +kernel
theorem dX10_proved_60 : decode cX10_proved 60 = .ok (.iload_n 2, 1) := by decide +kernel
theorem dX10_proved_61 : decode cX10_proved 61 = .ok (.if_icmp .ne 18, 3) := by decide +kernel
theorem dX10_proved_64 : decode cX10_proved 64 = .ok (.aload_n 0, 1) := by decide +kernel
theorem dX10_proved_65 : decode cX10_proved 65 = .ok (.getfield 70, 3) := by decide +kernel
theorem dX10_proved_68 : decode cX10_proved 68 = .ok (.getfield 292, 3) := by decide +kernel
theorem dX10_proved_71 : decode cX10_proved 71 = .ok (.iload_n 3, 1) := by decide +kernel
theorem dX10_proved_72 : decode cX10_proved 72 = .ok (.if_icmp .ne 7, 3) := by decide +kernel
theorem dX10_proved_75 : decode cX10_proved 75 = .ok (.iconst 1, 1) := by decide +kernel
theorem dX10_proved_76 : decode cX10_proved 76 = .ok (.goto 4, 3) := by decide +kernel
theorem dX10_proved_79 : decode cX10_proved 79 = .ok (.iconst 0, 1) := by decide +kernel
theorem dX10_proved_80 : decode cX10_proved 80 = .ok (.istore 4, 2) := by decide +kernel
theorem dX10_proved_82 : decode cX10_proved 82 = .ok (.aload_n 0, 1) := by decide +kernel
theorem dX10_proved_83 : decode cX10_proved 83 = .ok (.iload 4, 2) := by decide +kernel
theorem dX10_proved_85 : decode cX10_proved 85 = .ok (.ifCond .eq 7, 3) := by decide +kernel
theorem dX10_proved_88 : decode cX10_proved 88 = .ok (.iconst 0, 1) := by decide +kernel
theorem dX10_proved_89 : decode cX10_proved 89 = .ok (.goto 4, 3) := by decide +kernel
theorem dX10_proved_92 : decode cX10_proved 92 = .ok (.iconst 1, 1) := by decide +kernel
theorem dX10_proved_93 : decode cX10_proved 93 = .ok (.invokevirtual 103, 3) := by decide +kernel
theorem dX10_proved_96 : decode cX10_proved 96 = .ok (.ireturn, 1) := by decide +kernel
theorem dX10_mostLoaded_0 : decode cX10_mostLoaded 0 = .ok (.iconst 0, 1) := by decide +kernel
theorem dX10_mostLoaded_1 : decode cX10_mostLoaded 1 = .ok (.istore_n 2, 1) := by decide +kernel
theorem dX10_mostLoaded_2 : decode cX10_mostLoaded 2 = .ok (.aload_n 0, 1) := by decide +kernel
theorem dX10_mostLoaded_3 : decode cX10_mostLoaded 3 = .ok (.getfield 36, 3) := by decide +kernel
theorem dX10_mostLoaded_6 : decode cX10_mostLoaded 6 = .ok (.aload_n 1, 1) := by decide +kernel
theorem dX10_mostLoaded_7 : decode cX10_mostLoaded 7 = .ok (.iconst 0, 1) := by decide +kernel
theorem dX10_mostLoaded_8 : decode cX10_mostLoaded 8 = .ok (.invokevirtual 302, 3) := by decide +kernel
theorem dX10_mostLoaded_11 : decode cX10_mostLoaded 11 = .ok (.istore_n 3, 1) := by decide +kernel
theorem dX10_mostLoaded_12 : decode cX10_mostLoaded 12 = .ok (.iconst 1, 1) := by decide +kernel
theorem dX10_mostLoaded_13 : decode cX10_mostLoaded 13 = .ok (.istore 4, 2) := by decide +kernel
theorem dX10_mostLoaded_15 : decode cX10_mostLoaded 15 = .ok (.iload 4, 2) := by decide +kernel
theorem dX10_mostLoaded_17 : decode cX10_mostLoaded 17 = .ok (.aload_n 0, 1) := by decide +kernel
theorem dX10_mostLoaded_18 : decode cX10_mostLoaded 18 = .ok (.getfield 10, 3) := by decide +kernel
theorem dX10_mostLoaded_21 : decode cX10_mostLoaded 21 = .ok (.getfield 87, 3) := by decide +kernel
theorem dX10_mostLoaded_24 : decode cX10_mostLoaded 24 = .ok (.if_icmp .ge 61, 3) := by decide +kernel
theorem dX10_mostLoaded_27 : decode cX10_mostLoaded 27 = .ok (.iload 4, 2) := by decide +kernel
theorem dX10_mostLoaded_29 : decode cX10_mostLoaded 29 = .ok (.bipush 16, 2) := by decide +kernel
theorem dX10_mostLoaded_31 : decode cX10_mostLoaded 31 = .ok (.if_icmp .ge 54, 3) := by decide +kernel
theorem dX10_mostLoaded_34 : decode cX10_mostLoaded 34 = .ok (.aload_n 0, 1) := by decide +kernel
theorem dX10_mostLoaded_35 : decode cX10_mostLoaded 35 = .ok (.getfield 36, 3) := by decide +kernel
theorem dX10_mostLoaded_38 : decode cX10_mostLoaded 38 = .ok (.aload_n 1, 1) := by decide +kernel
theorem dX10_mostLoaded_39 : decode cX10_mostLoaded 39 = .ok (.iload 4, 2) := by decide +kernel
theorem dX10_mostLoaded_41 : decode cX10_mostLoaded 41 = .ok (.invokevirtual 302, 3) := by decide +kernel
theorem dX10_mostLoaded_44 : decode cX10_mostLoaded 44 = .ok (.istore 5, 2) := by decide +kernel
theorem dX10_mostLoaded_46 : decode cX10_mostLoaded 46 = .ok (.iload 5, 2) := by decide +kernel
theorem dX10_mostLoaded_48 : decode cX10_mostLoaded 48 = .ok (.aload_n 0, 1) := by decide +kernel
theorem dX10_mostLoaded_49 : decode cX10_mostLoaded 49 = .ok (.getfield 10, 3) := by decide +kernel
theorem dX10_mostLoaded_52 : decode cX10_mostLoaded 52 = .ok (.getfield 90, 3) := by decide +kernel
theorem dX10_mostLoaded_55 : decode cX10_mostLoaded 55 = .ok (.iload_n 2, 1) := by decide +kernel
theorem dX10_mostLoaded_56 : decode cX10_mostLoaded 56 = .ok (.iaload, 1) := by decide +kernel
theorem dX10_mostLoaded_57 : decode cX10_mostLoaded 57 = .ok (.imul, 1) := by decide +kernel
theorem dX10_mostLoaded_58 : decode cX10_mostLoaded 58 = .ok (.iload_n 3, 1) := by decide +kernel
theorem dX10_mostLoaded_59 : decode cX10_mostLoaded 59 = .ok (.aload_n 0, 1) := by decide +kernel
theorem dX10_mostLoaded_60 : decode cX10_mostLoaded 60 = .ok (.getfield 10, 3) := by decide +kernel
theorem dX10_mostLoaded_63 : decode cX10_mostLoaded 63 = .ok (.getfield 90, 3) := by decide +kernel
theorem dX10_mostLoaded_66 : decode cX10_mostLoaded 66 = .ok (.iload 4, 2) := by decide +kernel
theorem dX10_mostLoaded_68 : decode cX10_mostLoaded 68 = .ok (.iaload, 1) := by decide +kernel
theorem dX10_mostLoaded_69 : decode cX10_mostLoaded 69 = .ok (.imul, 1) := by decide +kernel
theorem dX10_mostLoaded_70 : decode cX10_mostLoaded 70 = .ok (.if_icmp .le 9, 3) := by decide +kernel
theorem dX10_mostLoaded_73 : decode cX10_mostLoaded 73 = .ok (.iload 4, 2) := by decide +kernel
theorem dX10_mostLoaded_75 : decode cX10_mostLoaded 75 = .ok (.istore_n 2, 1) := by decide +kernel
theorem dX10_mostLoaded_76 : decode cX10_mostLoaded 76 = .ok (.iload 5, 2) := by decide +kernel
theorem dX10_mostLoaded_78 : decode cX10_mostLoaded 78 = .ok (.istore_n 3, 1) := by decide +kernel
theorem dX10_mostLoaded_79 : decode cX10_mostLoaded 79 = .ok (.iinc 4 1, 3) := by decide +kernel
theorem dX10_mostLoaded_82 : decode cX10_mostLoaded 82 = .ok (.goto (-67), 3) := by decide +kernel
theorem dX10_mostLoaded_85 : decode cX10_mostLoaded 85 = .ok (.iload_n 2, 1) := by decide +kernel
theorem dX10_mostLoaded_86 : decode cX10_mostLoaded 86 = .ok (.ireturn, 1) := by decide +kernel
theorem dX10_reckonLoad_0 : decode cX10_reckonLoad 0 = .ok (.aload_n 0, 1) := by decide +kernel
theorem dX10_reckonLoad_1 : decode cX10_reckonLoad 1 = .ok (.getfield 10, 3) := by decide +kernel
theorem dX10_reckonLoad_4 : decode cX10_reckonLoad 4 = .ok (.iload_n 2, 1) := by decide +kernel
theorem dX10_reckonLoad_5 : decode cX10_reckonLoad 5 = .ok (.invokevirtual 106, 3) := by decide +kernel
theorem dX10_reckonLoad_8 : decode cX10_reckonLoad 8 = .ok (.ifCond .eq 15, 3) := by decide +kernel
theorem dX10_reckonLoad_11 : decode cX10_reckonLoad 11 = .ok (.aload_n 0, 1) := by decide +kernel
theorem dX10_reckonLoad_12 : decode cX10_reckonLoad 12 = .ok (.getfield 10, 3) := by decide +kernel
theorem dX10_reckonLoad_15 : decode cX10_reckonLoad 15 = .ok (.getfield 90, 3) := by decide +kernel
theorem dX10_reckonLoad_18 : decode cX10_reckonLoad 18 = .ok (.iload_n 2, 1) := by decide +kernel
theorem dX10_reckonLoad_19 : decode cX10_reckonLoad 19 = .ok (.iaload, 1) := by decide +kernel
theorem dX10_reckonLoad_20 : decode cX10_reckonLoad 20 = .ok (.goto 4, 3) := by decide +kernel
theorem dX10_reckonLoad_23 : decode cX10_reckonLoad 23 = .ok (.iconst 0, 1) := by decide +kernel
theorem dX10_reckonLoad_24 : decode cX10_reckonLoad 24 = .ok (.istore_n 3, 1) := by decide +kernel
theorem dX10_reckonLoad_25 : decode cX10_reckonLoad 25 = .ok (.aload_n 0, 1) := by decide +kernel
theorem dX10_reckonLoad_26 : decode cX10_reckonLoad 26 = .ok (.getfield 70, 3) := by decide +kernel
theorem dX10_reckonLoad_29 : decode cX10_reckonLoad 29 = .ok (.aload_n 0, 1) := by decide +kernel
theorem dX10_reckonLoad_30 : decode cX10_reckonLoad 30 = .ok (.getfield 36, 3) := by decide +kernel
theorem dX10_reckonLoad_33 : decode cX10_reckonLoad 33 = .ok (.aload_n 1, 1) := by decide +kernel
theorem dX10_reckonLoad_34 : decode cX10_reckonLoad 34 = .ok (.iload_n 2, 1) := by decide +kernel
theorem dX10_reckonLoad_35 : decode cX10_reckonLoad 35 = .ok (.invokevirtual 302, 3) := by decide +kernel
theorem dX10_reckonLoad_38 : decode cX10_reckonLoad 38 = .ok (.aload_n 0, 1) := by decide +kernel
theorem dX10_reckonLoad_39 : decode cX10_reckonLoad 39 = .ok (.getfield 36, 3) := by decide +kernel
theorem dX10_reckonLoad_42 : decode cX10_reckonLoad 42 = .ok (.invokevirtual 274, 3) := by decide +kernel
theorem dX10_reckonLoad_45 : decode cX10_reckonLoad 45 = .ok (.iload_n 3, 1) := by decide +kernel
theorem dX10_reckonLoad_46 : decode cX10_reckonLoad 46 = .ok (.imul, 1) := by decide +kernel
theorem dX10_reckonLoad_47 : decode cX10_reckonLoad 47 = .ok (.invokevirtual 306, 3) := by decide +kernel
theorem dX10_reckonLoad_50 : decode cX10_reckonLoad 50 = .ok (.return_, 1) := by decide +kernel
theorem dX10_reckonBound_0 : decode cX10_reckonBound 0 = .ok (.aload_n 0, 1) := by decide +kernel
theorem dX10_reckonBound_1 : decode cX10_reckonBound 1 = .ok (.getfield 10, 3) := by decide +kernel
theorem dX10_reckonBound_4 : decode cX10_reckonBound 4 = .ok (.aload_n 1, 1) := by decide +kernel
theorem dX10_reckonBound_5 : decode cX10_reckonBound 5 = .ok (.getfield 213, 3) := by decide +kernel
theorem dX10_reckonBound_8 : decode cX10_reckonBound 8 = .ok (.iconst 0, 1) := by decide +kernel
theorem dX10_reckonBound_9 : decode cX10_reckonBound 9 = .ok (.iaload, 1) := by decide +kernel
theorem dX10_reckonBound_10 : decode cX10_reckonBound 10 = .ok (.invokevirtual 308, 3) := by decide +kernel
theorem dX10_reckonBound_13 : decode cX10_reckonBound 13 = .ok (.istore_n 2, 1) := by decide +kernel
theorem dX10_reckonBound_14 : decode cX10_reckonBound 14 = .ok (.iconst 1, 1) := by decide +kernel
theorem dX10_reckonBound_15 : decode cX10_reckonBound 15 = .ok (.istore_n 3, 1) := by decide +kernel
theorem dX10_reckonBound_16 : decode cX10_reckonBound 16 = .ok (.iload_n 3, 1) := by decide +kernel
theorem dX10_reckonBound_17 : decode cX10_reckonBound 17 = .ok (.aload_n 1, 1) := by decide +kernel
theorem dX10_reckonBound_18 : decode cX10_reckonBound 18 = .ok (.getfield 202, 3) := by decide +kernel
theorem dX10_reckonBound_21 : decode cX10_reckonBound 21 = .ok (.if_icmp .ge 27, 3) := by decide +kernel
theorem dX10_reckonBound_24 : decode cX10_reckonBound 24 = .ok (.iload_n 2, 1) := by decide +kernel
theorem dX10_reckonBound_25 : decode cX10_reckonBound 25 = .ok (.aload_n 0, 1) := by decide +kernel
theorem dX10_reckonBound_26 : decode cX10_reckonBound 26 = .ok (.getfield 10, 3) := by decide +kernel
theorem dX10_reckonBound_29 : decode cX10_reckonBound 29 = .ok (.aload_n 1, 1) := by decide +kernel
theorem dX10_reckonBound_30 : decode cX10_reckonBound 30 = .ok (.getfield 213, 3) := by decide +kernel
theorem dX10_reckonBound_33 : decode cX10_reckonBound 33 = .ok (.iload_n 3, 1) := by decide +kernel
theorem dX10_reckonBound_34 : decode cX10_reckonBound 34 = .ok (.iaload, 1) := by decide +kernel
theorem dX10_reckonBound_35 : decode cX10_reckonBound 35 = .ok (.invokevirtual 308, 3) := by decide +kernel
theorem dX10_reckonBound_38 : decode cX10_reckonBound 38 = .ok (.invokestatic 311, 3) := by decide +kernel
theorem dX10_reckonBound_41 : decode cX10_reckonBound 41 = .ok (.istore_n 2, 1) := by decide +kernel
theorem dX10_reckonBound_42 : decode cX10_reckonBound 42 = .ok (.iinc 3 1, 3) := by decide +kernel
theorem dX10_reckonBound_45 : decode cX10_reckonBound 45 = .ok (.goto (-29), 3) := by decide +kernel
theorem dX10_reckonBound_48 : decode cX10_reckonBound 48 = .ok (.aload_n 0, 1) := by decide +kernel
theorem dX10_reckonBound_49 : decode cX10_reckonBound 49 = .ok (.getfield 70, 3) := by decide +kernel
theorem dX10_reckonBound_52 : decode cX10_reckonBound 52 = .ok (.iload_n 2, 1) := by decide +kernel
theorem dX10_reckonBound_53 : decode cX10_reckonBound 53 = .ok (.aload_n 0, 1) := by decide +kernel
theorem dX10_reckonBound_54 : decode cX10_reckonBound 54 = .ok (.getfield 10, 3) := by decide +kernel
theorem dX10_reckonBound_57 : decode cX10_reckonBound 57 = .ok (.invokevirtual 316, 3) := by decide +kernel
theorem dX10_reckonBound_60 : decode cX10_reckonBound 60 = .ok (.invokevirtual 306, 3) := by decide +kernel
theorem dX10_reckonBound_63 : decode cX10_reckonBound 63 = .ok (.return_, 1) := by decide +kernel
theorem dX10_witness_0 : decode cX10_witness 0 = .ok (.aload_n 0, 1) := by decide +kernel
theorem dX10_witness_1 : decode cX10_witness 1 = .ok (.iload_n 1, 1) := by decide +kernel
theorem dX10_witness_2 : decode cX10_witness 2 = .ok (.invokevirtual 166, 3) := by decide +kernel
theorem dX10_witness_5 : decode cX10_witness 5 = .ok (.astore_n 2, 1) := by decide +kernel
theorem dX10_witness_6 : decode cX10_witness 6 = .ok (.aload_n 2, 1) := by decide +kernel
theorem dX10_witness_7 : decode cX10_witness 7 = .ok (.ifnonnull 9, 3) := by decide +kernel
theorem dX10_witness_10 : decode cX10_witness 10 = .ok (.aload_n 0, 1) := by decide +kernel
theorem dX10_witness_11 : decode cX10_witness 11 = .ok (.iconst 1, 1) := by decide +kernel
theorem dX10_witness_12 : decode cX10_witness 12 = .ok (.invokevirtual 83, 3) := by decide +kernel
theorem dX10_witness_15 : decode cX10_witness 15 = .ok (.ireturn, 1) := by decide +kernel
theorem dX10_witness_16 : decode cX10_witness 16 = .ok (.aload_n 0, 1) := by decide +kernel
theorem dX10_witness_17 : decode cX10_witness 17 = .ok (.getfield 56, 3) := by decide +kernel
theorem dX10_witness_20 : decode cX10_witness 20 = .ok (.aload_n 2, 1) := by decide +kernel
theorem dX10_witness_21 : decode cX10_witness 21 = .ok (.invokevirtual 319, 3) := by decide +kernel
theorem dX10_witness_24 : decode cX10_witness 24 = .ok (.aload_n 0, 1) := by decide +kernel
theorem dX10_witness_25 : decode cX10_witness 25 = .ok (.aload_n 0, 1) := by decide +kernel
theorem dX10_witness_26 : decode cX10_witness 26 = .ok (.getfield 56, 3) := by decide +kernel
theorem dX10_witness_29 : decode cX10_witness 29 = .ok (.getfield 322, 3) := by decide +kernel
theorem dX10_witness_32 : decode cX10_witness 32 = .ok (.invokevirtual 103, 3) := by decide +kernel
theorem dX10_witness_35 : decode cX10_witness 35 = .ok (.ireturn, 1) := by decide +kernel
theorem dX10_names_0 : decode cX10_names 0 = .ok (.aload_n 0, 1) := by decide +kernel
theorem dX10_names_1 : decode cX10_names 1 = .ok (.getfield 56, 3) := by decide +kernel
theorem dX10_names_4 : decode cX10_names 4 = .ok (.iload_n 1, 1) := by decide +kernel
theorem dX10_names_5 : decode cX10_names 5 = .ok (.invokevirtual 323, 3) := by decide +kernel
theorem dX10_names_8 : decode cX10_names 8 = .ok (.ifCond .eq 15, 3) := by decide +kernel
theorem dX10_names_11 : decode cX10_names 11 = .ok (.aload_n 0, 1) := by decide +kernel
theorem dX10_names_12 : decode cX10_names 12 = .ok (.getfield 56, 3) := by decide +kernel
theorem dX10_names_15 : decode cX10_names 15 = .ok (.getfield 326, 3) := by decide +kernel
theorem dX10_names_18 : decode cX10_names 18 = .ok (.iload_n 1, 1) := by decide +kernel
theorem dX10_names_19 : decode cX10_names 19 = .ok (.iaload, 1) := by decide +kernel
theorem dX10_names_20 : decode cX10_names 20 = .ok (.goto 5, 3) := by decide +kernel
theorem dX10_names_23 : decode cX10_names 23 = .ok (.bipush (-2), 2) := by decide +kernel
theorem dX10_names_25 : decode cX10_names 25 = .ok (.ireturn, 1) := by decide +kernel
theorem dX10_forge_0 : decode cX10_forge 0 = .ok (.aload_n 0, 1) := by decide +kernel
theorem dX10_forge_1 : decode cX10_forge 1 = .ok (.getfield 56, 3) := by decide +kernel
theorem dX10_forge_4 : decode cX10_forge 4 = .ok (.iload_n 1, 1) := by decide +kernel
theorem dX10_forge_5 : decode cX10_forge 5 = .ok (.invokevirtual 323, 3) := by decide +kernel
theorem dX10_forge_8 : decode cX10_forge 8 = .ok (.ifCond .ne 9, 3) := by decide +kernel
theorem dX10_forge_11 : decode cX10_forge 11 = .ok (.aload_n 0, 1) := by decide +kernel
theorem dX10_forge_12 : decode cX10_forge 12 = .ok (.iconst 1, 1) := by decide +kernel
theorem dX10_forge_13 : decode cX10_forge 13 = .ok (.invokevirtual 109, 3) := by decide +kernel
theorem dX10_forge_16 : decode cX10_forge 16 = .ok (.ireturn, 1) := by decide +kernel
theorem dX10_forge_17 : decode cX10_forge 17 = .ok (.aload_n 0, 1) := by decide +kernel
theorem dX10_forge_18 : decode cX10_forge 18 = .ok (.getfield 56, 3) := by decide +kernel
theorem dX10_forge_21 : decode cX10_forge 21 = .ok (.getfield 326, 3) := by decide +kernel
theorem dX10_forge_24 : decode cX10_forge 24 = .ok (.iload_n 1, 1) := by decide +kernel
theorem dX10_forge_25 : decode cX10_forge 25 = .ok (.dup2, 1) := by decide +kernel
theorem dX10_forge_26 : decode cX10_forge 26 = .ok (.iaload, 1) := by decide +kernel
theorem dX10_forge_27 : decode cX10_forge 27 = .ok (.iload_n 2, 1) := by decide +kernel
theorem dX10_forge_28 : decode cX10_forge 28 = .ok (.ixor, 1) := by decide +kernel
theorem dX10_forge_29 : decode cX10_forge 29 = .ok (.iastore, 1) := by decide +kernel
theorem dX10_forge_30 : decode cX10_forge 30 = .ok (.aload_n 0, 1) := by decide +kernel
theorem dX10_forge_31 : decode cX10_forge 31 = .ok (.invokevirtual 112, 3) := by decide +kernel
theorem dX10_forge_34 : decode cX10_forge 34 = .ok (.ireturn, 1) := by decide +kernel
theorem dX10_judge_0 : decode cX10_judge 0 = .ok (.aload_n 0, 1) := by decide +kernel
theorem dX10_judge_1 : decode cX10_judge 1 = .ok (.iload_n 1, 1) := by decide +kernel
theorem dX10_judge_2 : decode cX10_judge 2 = .ok (.invokevirtual 166, 3) := by decide +kernel
theorem dX10_judge_5 : decode cX10_judge 5 = .ok (.astore_n 2, 1) := by decide +kernel
theorem dX10_judge_6 : decode cX10_judge 6 = .ok (.aload_n 2, 1) := by decide +kernel
theorem dX10_judge_7 : decode cX10_judge 7 = .ok (.ifnonnull 9, 3) := by decide +kernel
theorem dX10_judge_10 : decode cX10_judge 10 = .ok (.aload_n 0, 1) := by decide +kernel
theorem dX10_judge_11 : decode cX10_judge 11 = .ok (.iconst 1, 1) := by decide +kernel
theorem dX10_judge_12 : decode cX10_judge 12 = .ok (.invokevirtual 83, 3) := by decide +kernel
theorem dX10_judge_15 : decode cX10_judge 15 = .ok (.ireturn, 1) := by decide +kernel
theorem dX10_judge_16 : decode cX10_judge 16 = .ok (.aload_n 0, 1) := by decide +kernel
theorem dX10_judge_17 : decode cX10_judge 17 = .ok (.getfield 56, 3) := by decide +kernel
theorem dX10_judge_20 : decode cX10_judge 20 = .ok (.getfield 322, 3) := by decide +kernel
theorem dX10_judge_23 : decode cX10_judge 23 = .ok (.aload_n 2, 1) := by decide +kernel
theorem dX10_judge_24 : decode cX10_judge 24 = .ok (.invokevirtual 329, 3) := by decide +kernel
theorem dX10_judge_27 : decode cX10_judge 27 = .ok (.if_icmp .eq 10, 3) := by decide +kernel
theorem dX10_judge_30 : decode cX10_judge 30 = .ok (.aload_n 0, 1) := by decide +kernel
theorem dX10_judge_31 : decode cX10_judge 31 = .ok (.bipush (-3), 2) := by decide +kernel
theorem dX10_judge_33 : decode cX10_judge 33 = .ok (.invokevirtual 103, 3) := by decide +kernel
theorem dX10_judge_36 : decode cX10_judge 36 = .ok (.ireturn, 1) := by decide +kernel
theorem dX10_judge_37 : decode cX10_judge 37 = .ok (.aload_n 0, 1) := by decide +kernel
theorem dX10_judge_38 : decode cX10_judge 38 = .ok (.aload_n 0, 1) := by decide +kernel
theorem dX10_judge_39 : decode cX10_judge 39 = .ok (.getfield 56, 3) := by decide +kernel
theorem dX10_judge_42 : decode cX10_judge 42 = .ok (.aload_n 2, 1) := by decide +kernel
theorem dX10_judge_43 : decode cX10_judge 43 = .ok (.invokevirtual 332, 3) := by decide +kernel
theorem dX10_judge_46 : decode cX10_judge 46 = .ok (.invokevirtual 103, 3) := by decide +kernel
theorem dX10_judge_49 : decode cX10_judge 49 = .ok (.ireturn, 1) := by decide +kernel
theorem dX10_lay_0 : decode cX10_lay 0 = .ok (.aload_n 0, 1) := by decide +kernel
theorem dX10_lay_1 : decode cX10_lay 1 = .ok (.iload_n 1, 1) := by decide +kernel
theorem dX10_lay_2 : decode cX10_lay 2 = .ok (.invokevirtual 335, 3) := by decide +kernel
theorem dX10_lay_5 : decode cX10_lay 5 = .ok (.astore 4, 2) := by decide +kernel
theorem dX10_lay_7 : decode cX10_lay 7 = .ok (.aload 4, 2) := by decide +kernel
theorem dX10_lay_9 : decode cX10_lay 9 = .ok (.ifnonnull 9, 3) := by decide +kernel
theorem dX10_lay_12 : decode cX10_lay 12 = .ok (.aload_n 0, 1) := by decide +kernel
theorem dX10_lay_13 : decode cX10_lay 13 = .ok (.iconst 1, 1) := by decide +kernel
theorem dX10_lay_14 : decode cX10_lay 14 = .ok (.invokevirtual 83, 3) := by decide +kernel
theorem dX10_lay_17 : decode cX10_lay 17 = .ok (.ireturn, 1) := by decide +kernel
theorem dX10_lay_18 : decode cX10_lay 18 = .ok (.iload_n 2, 1) := by decide +kernel
theorem dX10_lay_19 : decode cX10_lay 19 = .ok (.ifCond .lt 8, 3) := by decide +kernel
theorem dX10_lay_22 : decode cX10_lay 22 = .ok (.iload_n 2, 1) := by decide +kernel
theorem dX10_lay_23 : decode cX10_lay 23 = .ok (.iconst 3, 1) := by decide +kernel
theorem dX10_lay_24 : decode cX10_lay 24 = .ok (.if_icmp .le 9, 3) := by decide +kernel
theorem dX10_lay_27 : decode cX10_lay 27 = .ok (.aload_n 0, 1) := by decide +kernel
theorem dX10_lay_28 : decode cX10_lay 28 = .ok (.iconst 2, 1) := by decide +kernel
theorem dX10_lay_29 : decode cX10_lay 29 = .ok (.invokevirtual 83, 3) := by decide +kernel
theorem dX10_lay_32 : decode cX10_lay 32 = .ok (.ireturn, 1) := by decide +kernel
theorem dX10_lay_33 : decode cX10_lay 33 = .ok (.iload_n 2, 1) := by decide +kernel
theorem dX10_lay_34 : decode cX10_lay 34 = .ok (.iconst 1, 1) := by decide +kernel
theorem dX10_lay_35 : decode cX10_lay 35 = .ok (.if_icmp .ne 11, 3) := by decide +kernel
theorem dX10_lay_38 : decode cX10_lay 38 = .ok (.aload_n 0, 1) := by decide +kernel
theorem dX10_lay_39 : decode cX10_lay 39 = .ok (.iload_n 3, 1) := by decide +kernel
theorem dX10_lay_40 : decode cX10_lay 40 = .ok (.invokevirtual 166, 3) := by decide +kernel
theorem dX10_lay_43 : decode cX10_lay 43 = .ok (.ifnull 18, 3) := by decide +kernel
theorem dX10_lay_46 : decode cX10_lay 46 = .ok (.iload_n 2, 1) := by decide +kernel
theorem dX10_lay_47 : decode cX10_lay 47 = .ok (.iconst 3, 1) := by decide +kernel
theorem dX10_lay_48 : decode cX10_lay 48 = .ok (.if_icmp .ne 19, 3) := by decide +kernel
theorem dX10_lay_51 : decode cX10_lay 51 = .ok (.aload_n 0, 1) := by decide +kernel
theorem dX10_lay_52 : decode cX10_lay 52 = .ok (.getfield 36, 3) := by decide +kernel
theorem dX10_lay_55 : decode cX10_lay 55 = .ok (.invokevirtual 339, 3) := by decide +kernel
theorem dX10_lay_58 : decode cX10_lay 58 = .ok (.ifCond .ne 9, 3) := by decide +kernel
theorem dX10_lay_61 : decode cX10_lay 61 = .ok (.aload_n 0, 1) := by decide +kernel
theorem dX10_lay_62 : decode cX10_lay 62 = .ok (.iconst 1, 1) := by decide +kernel
theorem dX10_lay_63 : decode cX10_lay 63 = .ok (.invokevirtual 83, 3) := by decide +kernel
theorem dX10_lay_66 : decode cX10_lay 66 = .ok (.ireturn, 1) := by decide +kernel
theorem dX10_lay_67 : decode cX10_lay 67 = .ok (.iload_n 2, 1) := by decide +kernel
theorem dX10_lay_68 : decode cX10_lay 68 = .ok (.iconst 2, 1) := by decide +kernel
theorem dX10_lay_69 : decode cX10_lay 69 = .ok (.if_icmp .ne 20, 3) := by decide +kernel
theorem dX10_lay_72 : decode cX10_lay 72 = .ok (.aload_n 0, 1) := by decide +kernel
theorem dX10_lay_73 : decode cX10_lay 73 = .ok (.getfield 10, 3) := by decide +kernel
theorem dX10_lay_76 : decode cX10_lay 76 = .ok (.iload_n 3, 1) := by decide +kernel
theorem dX10_lay_77 : decode cX10_lay 77 = .ok (.invokevirtual 116, 3) := by decide +kernel
theorem dX10_lay_80 : decode cX10_lay 80 = .ok (.ifCond .ne 9, 3) := by decide +kernel
theorem dX10_lay_83 : decode cX10_lay 83 = .ok (.aload_n 0, 1) := by decide +kernel
theorem dX10_lay_84 : decode cX10_lay 84 = .ok (.iconst 2, 1) := by decide +kernel
theorem dX10_lay_85 : decode cX10_lay 85 = .ok (.invokevirtual 83, 3) := by decide +kernel
theorem dX10_lay_88 : decode cX10_lay 88 = .ok (.ireturn, 1) := by decide +kernel
theorem dX10_lay_89 : decode cX10_lay 89 = .ok (.aload_n 0, 1) := by decide +kernel
theorem dX10_lay_90 : decode cX10_lay 90 = .ok (.getfield 49, 3) := by decide +kernel
theorem dX10_lay_93 : decode cX10_lay 93 = .ok (.bipush 6, 2) := by decide +kernel
theorem dX10_lay_95 : decode cX10_lay 95 = .ok (.iload_n 1, 1) := by decide +kernel
theorem dX10_lay_96 : decode cX10_lay 96 = .ok (.iconst 0, 1) := by decide +kernel
theorem dX10_lay_97 : decode cX10_lay 97 = .ok (.invokevirtual 99, 3) := by decide +kernel
theorem dX10_lay_100 : decode cX10_lay 100 = .ok (.getfield 257, 3) := by decide +kernel
theorem dX10_lay_103 : decode cX10_lay 103 = .ok (.aload 4, 2) := by decide +kernel
theorem dX10_lay_105 : decode cX10_lay 105 = .ok (.invokevirtual 341, 3) := by decide +kernel
theorem dX10_lay_108 : decode cX10_lay 108 = .ok (.aload 4, 2) := by decide +kernel
theorem dX10_lay_110 : decode cX10_lay 110 = .ok (.iload_n 2, 1) := by decide +kernel
theorem dX10_lay_111 : decode cX10_lay 111 = .ok (.putfield 344, 3) := by decide +kernel
theorem dX10_lay_114 : decode cX10_lay 114 = .ok (.aload 4, 2) := by decide +kernel
theorem dX10_lay_116 : decode cX10_lay 116 = .ok (.iload_n 3, 1) := by decide +kernel
theorem dX10_lay_117 : decode cX10_lay 117 = .ok (.putfield 347, 3) := by decide +kernel
theorem dX10_lay_120 : decode cX10_lay 120 = .ok (.iload_n 2, 1) := by decide +kernel
theorem dX10_lay_121 : decode cX10_lay 121 = .ok (.iconst 3, 1) := by decide +kernel
theorem dX10_lay_122 : decode cX10_lay 122 = .ok (.if_icmp .ne 15, 3) := by decide +kernel
theorem dX10_lay_125 : decode cX10_lay 125 = .ok (.aload 4, 2) := by decide +kernel
theorem dX10_lay_127 : decode cX10_lay 127 = .ok (.getfield 263, 3) := by decide +kernel
theorem dX10_lay_130 : decode cX10_lay 130 = .ok (.aload_n 0, 1) := by decide +kernel
theorem dX10_lay_131 : decode cX10_lay 131 = .ok (.getfield 36, 3) := by decide +kernel
theorem dX10_lay_134 : decode cX10_lay 134 = .ok (.invokevirtual 264, 3) := by decide +kernel
theorem dX10_lay_137 : decode cX10_lay 137 = .ok (.aload_n 0, 1) := by decide +kernel
theorem dX10_lay_138 : decode cX10_lay 138 = .ok (.iconst 1, 1) := by decide +kernel
theorem dX10_lay_139 : decode cX10_lay 139 = .ok (.invokevirtual 103, 3) := by decide +kernel
theorem dX10_lay_142 : decode cX10_lay 142 = .ok (.ireturn, 1) := by decide +kernel
theorem dX10_lies_0 : decode cX10_lies 0 = .ok (.aload_n 0, 1) := by decide +kernel
theorem dX10_lies_1 : decode cX10_lies 1 = .ok (.iload_n 1, 1) := by decide +kernel
theorem dX10_lies_2 : decode cX10_lies 2 = .ok (.invokevirtual 335, 3) := by decide +kernel
theorem dX10_lies_5 : decode cX10_lies 5 = .ok (.astore_n 2, 1) := by decide +kernel
theorem dX10_lies_6 : decode cX10_lies 6 = .ok (.aload_n 2, 1) := by decide +kernel
theorem dX10_lies_7 : decode cX10_lies 7 = .ok (.ifnonnull 9, 3) := by decide +kernel
theorem dX10_lies_10 : decode cX10_lies 10 = .ok (.aload_n 0, 1) := by decide +kernel
theorem dX10_lies_11 : decode cX10_lies 11 = .ok (.iconst 1, 1) := by decide +kernel
theorem dX10_lies_12 : decode cX10_lies 12 = .ok (.invokevirtual 83, 3) := by decide +kernel
theorem dX10_lies_15 : decode cX10_lies 15 = .ok (.ireturn, 1) := by decide +kernel
theorem dX10_lies_16 : decode cX10_lies 16 = .ok (.aload_n 0, 1) := by decide +kernel
theorem dX10_lies_17 : decode cX10_lies 17 = .ok (.aload_n 2, 1) := by decide +kernel
theorem dX10_lies_18 : decode cX10_lies 18 = .ok (.getfield 344, 3) := by decide +kernel
theorem dX10_lies_21 : decode cX10_lies 21 = .ok (.invokevirtual 103, 3) := by decide +kernel
theorem dX10_lies_24 : decode cX10_lies 24 = .ok (.ireturn, 1) := by decide +kernel
theorem dX10_taken_0 : decode cX10_taken 0 = .ok (.aload_n 0, 1) := by decide +kernel
theorem dX10_taken_1 : decode cX10_taken 1 = .ok (.iload_n 1, 1) := by decide +kernel
theorem dX10_taken_2 : decode cX10_taken 2 = .ok (.invokevirtual 335, 3) := by decide +kernel
theorem dX10_taken_5 : decode cX10_taken 5 = .ok (.astore 4, 2) := by decide +kernel
theorem dX10_taken_7 : decode cX10_taken 7 = .ok (.aload 4, 2) := by decide +kernel
theorem dX10_taken_9 : decode cX10_taken 9 = .ok (.ifnonnull 9, 3) := by decide +kernel
theorem dX10_taken_12 : decode cX10_taken 12 = .ok (.aload_n 0, 1) := by decide +kernel
theorem dX10_taken_13 : decode cX10_taken 13 = .ok (.iconst 1, 1) := by decide +kernel
theorem dX10_taken_14 : decode cX10_taken 14 = .ok (.invokevirtual 83, 3) := by decide +kernel
theorem dX10_taken_17 : decode cX10_taken 17 = .ok (.ireturn, 1) := by decide +kernel
theorem dX10_taken_18 : decode cX10_taken 18 = .ok (.iload_n 2, 1) := by decide +kernel
theorem dX10_taken_19 : decode cX10_taken 19 = .ok (.iconst 1, 1) := by decide +kernel
theorem dX10_taken_20 : decode cX10_taken 20 = .ok (.if_icmp .lt 8, 3) := by decide +kernel
theorem dX10_taken_23 : decode cX10_taken 23 = .ok (.iload_n 2, 1) := by decide +kernel
theorem dX10_taken_24 : decode cX10_taken 24 = .ok (.iconst 3, 1) := by decide +kernel
theorem dX10_taken_25 : decode cX10_taken 25 = .ok (.if_icmp .le 9, 3) := by decide +kernel
theorem dX10_taken_28 : decode cX10_taken 28 = .ok (.aload_n 0, 1) := by decide +kernel
theorem dX10_taken_29 : decode cX10_taken 29 = .ok (.iconst 2, 1) := by decide +kernel
theorem dX10_taken_30 : decode cX10_taken 30 = .ok (.invokevirtual 83, 3) := by decide +kernel
theorem dX10_taken_33 : decode cX10_taken 33 = .ok (.ireturn, 1) := by decide +kernel
theorem dX10_taken_34 : decode cX10_taken 34 = .ok (.aload 4, 2) := by decide +kernel
theorem dX10_taken_36 : decode cX10_taken 36 = .ok (.getfield 344, 3) := by decide +kernel
theorem dX10_taken_39 : decode cX10_taken 39 = .ok (.iload_n 2, 1) := by decide +kernel
theorem dX10_taken_40 : decode cX10_taken 40 = .ok (.if_icmp .eq 10, 3) := by decide +kernel
theorem dX10_taken_43 : decode cX10_taken 43 = .ok (.aload_n 0, 1) := by decide +kernel
theorem dX10_taken_44 : decode cX10_taken 44 = .ok (.bipush 6, 2) := by decide +kernel
theorem dX10_taken_46 : decode cX10_taken 46 = .ok (.invokevirtual 83, 3) := by decide +kernel
theorem dX10_taken_49 : decode cX10_taken 49 = .ok (.ireturn, 1) := by decide +kernel
theorem dX10_taken_50 : decode cX10_taken 50 = .ok (.iload_n 2, 1) := by decide +kernel
theorem dX10_taken_51 : decode cX10_taken 51 = .ok (.iconst 3, 1) := by decide +kernel
theorem dX10_taken_52 : decode cX10_taken 52 = .ok (.if_icmp .eq 13, 3) := by decide +kernel
theorem dX10_taken_55 : decode cX10_taken 55 = .ok (.aload_n 0, 1) := by decide +kernel
theorem dX10_taken_56 : decode cX10_taken 56 = .ok (.aload 4, 2) := by decide +kernel
theorem dX10_taken_58 : decode cX10_taken 58 = .ok (.getfield 347, 3) := by decide +kernel
theorem dX10_taken_61 : decode cX10_taken 61 = .ok (.invokevirtual 103, 3) := by decide +kernel
theorem dX10_taken_64 : decode cX10_taken 64 = .ok (.ireturn, 1) := by decide +kernel
theorem dX10_taken_65 : decode cX10_taken 65 = .ok (.aload 4, 2) := by decide +kernel
theorem dX10_taken_67 : decode cX10_taken 67 = .ok (.getfield 263, 3) := by decide +kernel
theorem dX10_taken_70 : decode cX10_taken 70 = .ok (.iload_n 3, 1) := by decide +kernel
theorem dX10_taken_71 : decode cX10_taken 71 = .ok (.invokevirtual 271, 3) := by decide +kernel
theorem dX10_taken_74 : decode cX10_taken 74 = .ok (.ifCond .ne 9, 3) := by decide +kernel
theorem dX10_taken_77 : decode cX10_taken 77 = .ok (.aload_n 0, 1) := by decide +kernel
theorem dX10_taken_78 : decode cX10_taken 78 = .ok (.iconst 1, 1) := by decide +kernel
theorem dX10_taken_79 : decode cX10_taken 79 = .ok (.invokevirtual 83, 3) := by decide +kernel
theorem dX10_taken_82 : decode cX10_taken 82 = .ok (.ireturn, 1) := by decide +kernel
theorem dX10_taken_83 : decode cX10_taken 83 = .ok (.aload_n 0, 1) := by decide +kernel
theorem dX10_taken_84 : decode cX10_taken 84 = .ok (.aload 4, 2) := by decide +kernel
theorem dX10_taken_86 : decode cX10_taken 86 = .ok (.getfield 263, 3) := by decide +kernel
theorem dX10_taken_89 : decode cX10_taken 89 = .ok (.getfield 277, 3) := by decide +kernel
theorem dX10_taken_92 : decode cX10_taken 92 = .ok (.iload_n 3, 1) := by decide +kernel
theorem dX10_taken_93 : decode cX10_taken 93 = .ok (.iaload, 1) := by decide +kernel
theorem dX10_taken_94 : decode cX10_taken 94 = .ok (.invokevirtual 103, 3) := by decide +kernel
theorem dX10_taken_97 : decode cX10_taken 97 = .ok (.ireturn, 1) := by decide +kernel
theorem dX10_copy_0 : decode cX10_copy 0 = .ok (.aload_n 0, 1) := by decide +kernel
theorem dX10_copy_1 : decode cX10_copy 1 = .ok (.iload_n 1, 1) := by decide +kernel
theorem dX10_copy_2 : decode cX10_copy 2 = .ok (.invokevirtual 335, 3) := by decide +kernel
theorem dX10_copy_5 : decode cX10_copy 5 = .ok (.astore 6, 2) := by decide +kernel
theorem dX10_copy_7 : decode cX10_copy 7 = .ok (.aload_n 0, 1) := by decide +kernel
theorem dX10_copy_8 : decode cX10_copy 8 = .ok (.iload_n 3, 1) := by decide +kernel
theorem dX10_copy_9 : decode cX10_copy 9 = .ok (.invokevirtual 335, 3) := by decide +kernel
theorem dX10_copy_12 : decode cX10_copy 12 = .ok (.astore 7, 2) := by decide +kernel
theorem dX10_copy_14 : decode cX10_copy 14 = .ok (.aload 6, 2) := by decide +kernel
theorem dX10_copy_16 : decode cX10_copy 16 = .ok (.ifnull 8, 3) := by decide +kernel
theorem dX10_copy_19 : decode cX10_copy 19 = .ok (.aload 7, 2) := by decide +kernel
theorem dX10_copy_21 : decode cX10_copy 21 = .ok (.ifnonnull 9, 3) := by decide +kernel
theorem dX10_copy_24 : decode cX10_copy 24 = .ok (.aload_n 0, 1) := by decide +kernel
theorem dX10_copy_25 : decode cX10_copy 25 = .ok (.iconst 1, 1) := by decide +kernel
theorem dX10_copy_26 : decode cX10_copy 26 = .ok (.invokevirtual 83, 3) := by decide +kernel
theorem dX10_copy_29 : decode cX10_copy 29 = .ok (.ireturn, 1) := by decide +kernel
theorem dX10_copy_30 : decode cX10_copy 30 = .ok (.aload 6, 2) := by decide +kernel
theorem dX10_copy_32 : decode cX10_copy 32 = .ok (.getfield 344, 3) := by decide +kernel
theorem dX10_copy_35 : decode cX10_copy 35 = .ok (.iconst 3, 1) := by decide +kernel
theorem dX10_copy_36 : decode cX10_copy 36 = .ok (.if_icmp .ne 12, 3) := by decide +kernel
theorem dX10_copy_39 : decode cX10_copy 39 = .ok (.aload 7, 2) := by decide +kernel
theorem dX10_copy_41 : decode cX10_copy 41 = .ok (.getfield 344, 3) := by decide +kernel
theorem dX10_copy_44 : decode cX10_copy 44 = .ok (.iconst 3, 1) := by decide +kernel
theorem dX10_copy_45 : decode cX10_copy 45 = .ok (.if_icmp .eq 10, 3) := by decide +kernel
theorem dX10_copy_48 : decode cX10_copy 48 = .ok (.aload_n 0, 1) := by decide +kernel
theorem dX10_copy_49 : decode cX10_copy 49 = .ok (.bipush 6, 2) := by decide +kernel
theorem dX10_copy_51 : decode cX10_copy 51 = .ok (.invokevirtual 83, 3) := by decide +kernel
theorem dX10_copy_54 : decode cX10_copy 54 = .ok (.ireturn, 1) := by decide +kernel
theorem dX10_copy_55 : decode cX10_copy 55 = .ok (.aload 6, 2) := by decide +kernel
theorem dX10_copy_57 : decode cX10_copy 57 = .ok (.getfield 263, 3) := by decide +kernel
theorem dX10_copy_60 : decode cX10_copy 60 = .ok (.iload_n 2, 1) := by decide +kernel
theorem dX10_copy_61 : decode cX10_copy 61 = .ok (.iload 5, 2) := by decide +kernel
theorem dX10_copy_63 : decode cX10_copy 63 = .ok (.invokevirtual 350, 3) := by decide +kernel
theorem dX10_copy_66 : decode cX10_copy 66 = .ok (.ifCond .eq 18, 3) := by decide +kernel
theorem dX10_copy_69 : decode cX10_copy 69 = .ok (.aload 7, 2) := by decide +kernel
theorem dX10_copy_71 : decode cX10_copy 71 = .ok (.getfield 263, 3) := by decide +kernel
theorem dX10_copy_74 : decode cX10_copy 74 = .ok (.iload 4, 2) := by decide +kernel
theorem dX10_copy_76 : decode cX10_copy 76 = .ok (.iload 5, 2) := by decide +kernel
theorem dX10_copy_78 : decode cX10_copy 78 = .ok (.invokevirtual 350, 3) := by decide +kernel
theorem dX10_copy_81 : decode cX10_copy 81 = .ok (.ifCond .ne 9, 3) := by decide +kernel
theorem dX10_copy_84 : decode cX10_copy 84 = .ok (.aload_n 0, 1) := by decide +kernel
theorem dX10_copy_85 : decode cX10_copy 85 = .ok (.iconst 2, 1) := by decide +kernel
theorem dX10_copy_86 : decode cX10_copy 86 = .ok (.invokevirtual 83, 3) := by decide +kernel
theorem dX10_copy_89 : decode cX10_copy 89 = .ok (.ireturn, 1) := by decide +kernel
theorem dX10_copy_90 : decode cX10_copy 90 = .ok (.aload_n 0, 1) := by decide +kernel
theorem dX10_copy_91 : decode cX10_copy 91 = .ok (.getfield 49, 3) := by decide +kernel
theorem dX10_copy_94 : decode cX10_copy 94 = .ok (.bipush 6, 2) := by decide +kernel
theorem dX10_copy_96 : decode cX10_copy 96 = .ok (.iload_n 3, 1) := by decide +kernel
theorem dX10_copy_97 : decode cX10_copy 97 = .ok (.iconst 0, 1) := by decide +kernel
theorem dX10_copy_98 : decode cX10_copy 98 = .ok (.invokevirtual 99, 3) := by decide +kernel
theorem dX10_copy_101 : decode cX10_copy 101 = .ok (.getfield 257, 3) := by decide +kernel
theorem dX10_copy_104 : decode cX10_copy 104 = .ok (.aload 7, 2) := by decide +kernel
theorem dX10_copy_106 : decode cX10_copy 106 = .ok (.invokevirtual 341, 3) := by decide +kernel
theorem dX10_copy_109 : decode cX10_copy 109 = .ok (.aload 7, 2) := by decide +kernel
theorem dX10_copy_111 : decode cX10_copy 111 = .ok (.getfield 263, 3) := by decide +kernel
theorem dX10_copy_114 : decode cX10_copy 114 = .ok (.iload 4, 2) := by decide +kernel
theorem dX10_copy_116 : decode cX10_copy 116 = .ok (.aload 6, 2) := by decide +kernel
theorem dX10_copy_118 : decode cX10_copy 118 = .ok (.getfield 263, 3) := by decide +kernel
theorem dX10_copy_121 : decode cX10_copy 121 = .ok (.iload_n 2, 1) := by decide +kernel
theorem dX10_copy_122 : decode cX10_copy 122 = .ok (.iload 5, 2) := by decide +kernel
theorem dX10_copy_124 : decode cX10_copy 124 = .ok (.invokevirtual 353, 3) := by decide +kernel
theorem dX10_copy_127 : decode cX10_copy 127 = .ok (.aload_n 0, 1) := by decide +kernel
theorem dX10_copy_128 : decode cX10_copy 128 = .ok (.iconst 1, 1) := by decide +kernel
theorem dX10_copy_129 : decode cX10_copy 129 = .ok (.invokevirtual 103, 3) := by decide +kernel
theorem dX10_copy_132 : decode cX10_copy 132 = .ok (.ireturn, 1) := by decide +kernel
theorem dX10_use_0 : decode cX10_use 0 = .ok (.aload_n 0, 1) := by decide +kernel
theorem dX10_use_1 : decode cX10_use 1 = .ok (.iload_n 1, 1) := by decide +kernel
theorem dX10_use_2 : decode cX10_use 2 = .ok (.invokevirtual 335, 3) := by decide +kernel
theorem dX10_use_5 : decode cX10_use 5 = .ok (.astore_n 2, 1) := by decide +kernel
theorem dX10_use_6 : decode cX10_use 6 = .ok (.aload_n 2, 1) := by decide +kernel
theorem dX10_use_7 : decode cX10_use 7 = .ok (.ifnonnull 9, 3) := by decide +kernel
theorem dX10_use_10 : decode cX10_use 10 = .ok (.aload_n 0, 1) := by decide +kernel
theorem dX10_use_11 : decode cX10_use 11 = .ok (.iconst 1, 1) := by decide +kernel
theorem dX10_use_12 : decode cX10_use 12 = .ok (.invokevirtual 83, 3) := by decide +kernel
theorem dX10_use_15 : decode cX10_use 15 = .ok (.ireturn, 1) := by decide +kernel
theorem dX10_use_16 : decode cX10_use 16 = .ok (.aload_n 2, 1) := by decide +kernel
theorem dX10_use_17 : decode cX10_use 17 = .ok (.getfield 344, 3) := by decide +kernel
theorem dX10_use_20 : decode cX10_use 20 = .ok (.iconst 3, 1) := by decide +kernel
theorem dX10_use_21 : decode cX10_use 21 = .ok (.if_icmp .eq 10, 3) := by decide +kernel
theorem dX10_use_24 : decode cX10_use 24 = .ok (.aload_n 0, 1) := by decide +kernel
theorem dX10_use_25 : decode cX10_use 25 = .ok (.bipush 6, 2) := by decide +kernel
theorem dX10_use_27 : decode cX10_use 27 = .ok (.invokevirtual 83, 3) := by decide +kernel
theorem dX10_use_30 : decode cX10_use 30 = .ok (.ireturn, 1) := by decide +kernel
theorem dX10_use_31 : decode cX10_use 31 = .ok (.aload_n 2, 1) := by decide +kernel
theorem dX10_use_32 : decode cX10_use 32 = .ok (.getfield 263, 3) := by decide +kernel
theorem dX10_use_35 : decode cX10_use 35 = .ok (.invokevirtual 274, 3) := by decide +kernel
theorem dX10_use_38 : decode cX10_use 38 = .ok (.ifCond .ne 9, 3) := by decide +kernel
theorem dX10_use_41 : decode cX10_use 41 = .ok (.aload_n 0, 1) := by decide +kernel
theorem dX10_use_42 : decode cX10_use 42 = .ok (.iconst 5, 1) := by decide +kernel
theorem dX10_use_43 : decode cX10_use 43 = .ok (.invokevirtual 83, 3) := by decide +kernel
theorem dX10_use_46 : decode cX10_use 46 = .ok (.ireturn, 1) := by decide +kernel
theorem dX10_use_47 : decode cX10_use 47 = .ok (.aload_n 0, 1) := by decide +kernel
theorem dX10_use_48 : decode cX10_use 48 = .ok (.getfield 49, 3) := by decide +kernel
theorem dX10_use_51 : decode cX10_use 51 = .ok (.iconst 5, 1) := by decide +kernel
theorem dX10_use_52 : decode cX10_use 52 = .ok (.iconst 0, 1) := by decide +kernel
theorem dX10_use_53 : decode cX10_use 53 = .ok (.iconst 0, 1) := by decide +kernel
theorem dX10_use_54 : decode cX10_use 54 = .ok (.invokevirtual 99, 3) := by decide +kernel
theorem dX10_use_57 : decode cX10_use 57 = .ok (.getfield 257, 3) := by decide +kernel
theorem dX10_use_60 : decode cX10_use 60 = .ok (.getfield 263, 3) := by decide +kernel
theorem dX10_use_63 : decode cX10_use 63 = .ok (.aload_n 0, 1) := by decide +kernel
theorem dX10_use_64 : decode cX10_use 64 = .ok (.getfield 36, 3) := by decide +kernel
theorem dX10_use_67 : decode cX10_use 67 = .ok (.invokevirtual 264, 3) := by decide +kernel
theorem dX10_use_70 : decode cX10_use 70 = .ok (.aload_n 0, 1) := by decide +kernel
theorem dX10_use_71 : decode cX10_use 71 = .ok (.getfield 36, 3) := by decide +kernel
theorem dX10_use_74 : decode cX10_use 74 = .ok (.aload_n 2, 1) := by decide +kernel
theorem dX10_use_75 : decode cX10_use 75 = .ok (.getfield 263, 3) := by decide +kernel
theorem dX10_use_78 : decode cX10_use 78 = .ok (.invokevirtual 264, 3) := by decide +kernel
theorem dX10_use_81 : decode cX10_use 81 = .ok (.aload_n 0, 1) := by decide +kernel
theorem dX10_use_82 : decode cX10_use 82 = .ok (.iconst 1, 1) := by decide +kernel
theorem dX10_use_83 : decode cX10_use 83 = .ok (.invokevirtual 103, 3) := by decide +kernel
theorem dX10_use_86 : decode cX10_use 86 = .ok (.ireturn, 1) := by decide +kernel
theorem dX10_undo_0 : decode cX10_undo 0 = .ok (.aload_n 0, 1) := by decide +kernel
theorem dX10_undo_1 : decode cX10_undo 1 = .ok (.getfield 49, 3) := by decide +kernel
theorem dX10_undo_4 : decode cX10_undo 4 = .ok (.invokevirtual 357, 3) := by decide +kernel
theorem dX10_undo_7 : decode cX10_undo 7 = .ok (.astore_n 1, 1) := by decide +kernel
theorem dX10_undo_8 : decode cX10_undo 8 = .ok (.aload_n 1, 1) := by decide +kernel
theorem dX10_undo_9 : decode cX10_undo 9 = .ok (.ifnonnull 5, 3) := by decide +kernel
theorem dX10_undo_12 : decode cX10_undo 12 = .ok (.iconst 0, 1) := by decide +kernel
theorem dX10_undo_13 : decode cX10_undo 13 = .ok (.ireturn, 1) := by decide +kernel
theorem dX10_undo_14 : decode cX10_undo 14 = .ok (.aload_n 0, 1) := by decide +kernel
theorem dX10_undo_15 : decode cX10_undo 15 = .ok (.aload_n 1, 1) := by decide +kernel
theorem dX10_undo_16 : decode cX10_undo 16 = .ok (.invokevirtual 361, 3) := by decide +kernel
theorem dX10_undo_19 : decode cX10_undo 19 = .ok (.iconst 1, 1) := by decide +kernel
theorem dX10_undo_20 : decode cX10_undo 20 = .ok (.ireturn, 1) := by decide +kernel
theorem dX10_size_0 : decode cX10_size 0 = .ok (.iload_n 1, 1) := by decide +kernel
theorem dX10_size_1 : decode cX10_size 1 = .ok (.tableswitch 69 0 4 #[35, 43, 48, 53, 61], 35) := by decide +kernel
theorem dX10_size_36 : decode cX10_size 36 = .ok (.aload_n 0, 1) := by decide +kernel
theorem dX10_size_37 : decode cX10_size 37 = .ok (.getfield 10, 3) := by decide +kernel
theorem dX10_size_40 : decode cX10_size 40 = .ok (.getfield 87, 3) := by decide +kernel
theorem dX10_size_43 : decode cX10_size 43 = .ok (.ireturn, 1) := by decide +kernel
theorem dX10_size_44 : decode cX10_size 44 = .ok (.aload_n 0, 1) := by decide +kernel
theorem dX10_size_45 : decode cX10_size 45 = .ok (.getfield 22, 3) := by decide +kernel
theorem dX10_size_48 : decode cX10_size 48 = .ok (.ireturn, 1) := by decide +kernel
theorem dX10_size_49 : decode cX10_size 49 = .ok (.aload_n 0, 1) := by decide +kernel
theorem dX10_size_50 : decode cX10_size 50 = .ok (.getfield 30, 3) := by decide +kernel
theorem dX10_size_53 : decode cX10_size 53 = .ok (.ireturn, 1) := by decide +kernel
theorem dX10_size_54 : decode cX10_size 54 = .ok (.aload_n 0, 1) := by decide +kernel
theorem dX10_size_55 : decode cX10_size 55 = .ok (.getfield 49, 3) := by decide +kernel
theorem dX10_size_58 : decode cX10_size 58 = .ok (.getfield 365, 3) := by decide +kernel
theorem dX10_size_61 : decode cX10_size 61 = .ok (.ireturn, 1) := by decide +kernel
theorem dX10_size_62 : decode cX10_size 62 = .ok (.aload_n 0, 1) := by decide +kernel
theorem dX10_size_63 : decode cX10_size 63 = .ok (.getfield 56, 3) := by decide +kernel
theorem dX10_size_66 : decode cX10_size 66 = .ok (.getfield 322, 3) := by decide +kernel
theorem dX10_size_69 : decode cX10_size 69 = .ok (.ireturn, 1) := by decide +kernel
theorem dX10_size_70 : decode cX10_size 70 = .ok (.iconst (-1), 1) := by decide +kernel
theorem dX10_size_71 : decode cX10_size 71 = .ok (.ireturn, 1) := by decide +kernel
theorem dX10_status_0 : decode cX10_status 0 = .ok (.aload_n 0, 1) := by decide +kernel
theorem dX10_status_1 : decode cX10_status 1 = .ok (.getfield 74, 3) := by decide +kernel
theorem dX10_status_4 : decode cX10_status 4 = .ok (.ireturn, 1) := by decide +kernel
theorem dX10_placeAt_0 : decode cX10_placeAt 0 = .ok (.iload_n 1, 1) := by decide +kernel
theorem dX10_placeAt_1 : decode cX10_placeAt 1 = .ok (.ifCond .lt 9, 3) := by decide +kernel
theorem dX10_placeAt_4 : decode cX10_placeAt 4 = .ok (.iload_n 1, 1) := by decide +kernel
theorem dX10_placeAt_5 : decode cX10_placeAt 5 = .ok (.bipush 16, 2) := by decide +kernel
theorem dX10_placeAt_7 : decode cX10_placeAt 7 = .ok (.if_icmp .lt 5, 3) := by decide +kernel
theorem dX10_placeAt_10 : decode cX10_placeAt 10 = .ok (.aconst_null, 1) := by decide +kernel
theorem dX10_placeAt_11 : decode cX10_placeAt 11 = .ok (.areturn, 1) := by decide +kernel
theorem dX10_placeAt_12 : decode cX10_placeAt 12 = .ok (.aload_n 0, 1) := by decide +kernel
theorem dX10_placeAt_13 : decode cX10_placeAt 13 = .ok (.getfield 42, 3) := by decide +kernel
theorem dX10_placeAt_16 : decode cX10_placeAt 16 = .ok (.iload_n 1, 1) := by decide +kernel
theorem dX10_placeAt_17 : decode cX10_placeAt 17 = .ok (.aaload, 1) := by decide +kernel
theorem dX10_placeAt_18 : decode cX10_placeAt 18 = .ok (.areturn, 1) := by decide +kernel
theorem dX10_takeBack_0 : decode cX10_takeBack 0 = .ok (.aload_n 1, 1) := by decide +kernel
theorem dX10_takeBack_1 : decode cX10_takeBack 1 = .ok (.getfield 368, 3) := by decide +kernel
theorem dX10_takeBack_4 : decode cX10_takeBack 4 = .ok (.tableswitch 186 0 5 #[40, 59, 92, 103, 136, 169], 40) := by decide +kernel
theorem dX10_takeBack_44 : decode cX10_takeBack 44 = .ok (.aload_n 0, 1) := by decide +kernel
theorem dX10_takeBack_45 : decode cX10_takeBack 45 = .ok (.getfield 10, 3) := by decide +kernel
theorem dX10_takeBack_48 : decode cX10_takeBack 48 = .ok (.aload_n 1, 1) := by decide +kernel
theorem dX10_takeBack_49 : decode cX10_takeBack 49 = .ok (.getfield 369, 3) := by decide +kernel
theorem dX10_takeBack_52 : decode cX10_takeBack 52 = .ok (.putfield 87, 3) := by decide +kernel
theorem dX10_takeBack_55 : decode cX10_takeBack 55 = .ok (.aload_n 0, 1) := by decide +kernel
theorem dX10_takeBack_56 : decode cX10_takeBack 56 = .ok (.iconst 0, 1) := by decide +kernel
theorem dX10_takeBack_57 : decode cX10_takeBack 57 = .ok (.putfield 30, 3) := by decide +kernel
theorem dX10_takeBack_60 : decode cX10_takeBack 60 = .ok (.goto 135, 3) := by decide +kernel
theorem dX10_takeBack_63 : decode cX10_takeBack 63 = .ok (.aload_n 0, 1) := by decide +kernel
theorem dX10_takeBack_64 : decode cX10_takeBack 64 = .ok (.getfield 10, 3) := by decide +kernel
theorem dX10_takeBack_67 : decode cX10_takeBack 67 = .ok (.aload_n 1, 1) := by decide +kernel
theorem dX10_takeBack_68 : decode cX10_takeBack 68 = .ok (.getfield 369, 3) := by decide +kernel
theorem dX10_takeBack_71 : decode cX10_takeBack 71 = .ok (.invokevirtual 106, 3) := by decide +kernel
theorem dX10_takeBack_74 : decode cX10_takeBack 74 = .ok (.ifCond .eq 121, 3) := by decide +kernel
theorem dX10_takeBack_77 : decode cX10_takeBack 77 = .ok (.aload_n 0, 1) := by decide +kernel
theorem dX10_takeBack_78 : decode cX10_takeBack 78 = .ok (.getfield 10, 3) := by decide +kernel
theorem dX10_takeBack_81 : decode cX10_takeBack 81 = .ok (.getfield 93, 3) := by decide +kernel
theorem dX10_takeBack_84 : decode cX10_takeBack 84 = .ok (.aload_n 1, 1) := by decide +kernel
theorem dX10_takeBack_85 : decode cX10_takeBack 85 = .ok (.getfield 369, 3) := by decide +kernel
theorem dX10_takeBack_88 : decode cX10_takeBack 88 = .ok (.aload_n 1, 1) := by decide +kernel
theorem dX10_takeBack_89 : decode cX10_takeBack 89 = .ok (.getfield 372, 3) := by decide +kernel
theorem dX10_takeBack_92 : decode cX10_takeBack 92 = .ok (.iastore, 1) := by decide +kernel
theorem dX10_takeBack_93 : decode cX10_takeBack 93 = .ok (.goto 102, 3) := by decide +kernel
theorem dX10_takeBack_96 : decode cX10_takeBack 96 = .ok (.aload_n 0, 1) := by decide +kernel
theorem dX10_takeBack_97 : decode cX10_takeBack 97 = .ok (.aload_n 1, 1) := by decide +kernel
theorem dX10_takeBack_98 : decode cX10_takeBack 98 = .ok (.getfield 369, 3) := by decide +kernel
theorem dX10_takeBack_101 : decode cX10_takeBack 101 = .ok (.putfield 22, 3) := by decide +kernel
theorem dX10_takeBack_104 : decode cX10_takeBack 104 = .ok (.goto 91, 3) := by decide +kernel
theorem dX10_takeBack_107 : decode cX10_takeBack 107 = .ok (.aload_n 0, 1) := by decide +kernel
theorem dX10_takeBack_108 : decode cX10_takeBack 108 = .ok (.getfield 10, 3) := by decide +kernel
theorem dX10_takeBack_111 : decode cX10_takeBack 111 = .ok (.aload_n 1, 1) := by decide +kernel
theorem dX10_takeBack_112 : decode cX10_takeBack 112 = .ok (.getfield 369, 3) := by decide +kernel
theorem dX10_takeBack_115 : decode cX10_takeBack 115 = .ok (.invokevirtual 106, 3) := by decide +kernel
theorem dX10_takeBack_118 : decode cX10_takeBack 118 = .ok (.ifCond .eq 77, 3) := by decide +kernel
theorem dX10_takeBack_121 : decode cX10_takeBack 121 = .ok (.aload_n 0, 1) := by decide +kernel
theorem dX10_takeBack_122 : decode cX10_takeBack 122 = .ok (.getfield 10, 3) := by decide +kernel
theorem dX10_takeBack_125 : decode cX10_takeBack 125 = .ok (.getfield 96, 3) := by decide +kernel
theorem dX10_takeBack_128 : decode cX10_takeBack 128 = .ok (.aload_n 1, 1) := by decide +kernel
theorem dX10_takeBack_129 : decode cX10_takeBack 129 = .ok (.getfield 369, 3) := by decide +kernel
theorem dX10_takeBack_132 : decode cX10_takeBack 132 = .ok (.aload_n 1, 1) := by decide +kernel
theorem dX10_takeBack_133 : decode cX10_takeBack 133 = .ok (.getfield 372, 3) := by decide +kernel
theorem dX10_takeBack_136 : decode cX10_takeBack 136 = .ok (.iastore, 1) := by decide +kernel
theorem dX10_takeBack_137 : decode cX10_takeBack 137 = .ok (.goto 58, 3) := by decide +kernel
theorem dX10_takeBack_140 : decode cX10_takeBack 140 = .ok (.aload_n 0, 1) := by decide +kernel
theorem dX10_takeBack_141 : decode cX10_takeBack 141 = .ok (.getfield 36, 3) := by decide +kernel
theorem dX10_takeBack_144 : decode cX10_takeBack 144 = .ok (.aload_n 1, 1) := by decide +kernel
theorem dX10_takeBack_145 : decode cX10_takeBack 145 = .ok (.getfield 369, 3) := by decide +kernel
theorem dX10_takeBack_148 : decode cX10_takeBack 148 = .ok (.invokevirtual 271, 3) := by decide +kernel
theorem dX10_takeBack_151 : decode cX10_takeBack 151 = .ok (.ifCond .eq 44, 3) := by decide +kernel
theorem dX10_takeBack_154 : decode cX10_takeBack 154 = .ok (.aload_n 0, 1) := by decide +kernel
theorem dX10_takeBack_155 : decode cX10_takeBack 155 = .ok (.getfield 36, 3) := by decide +kernel
theorem dX10_takeBack_158 : decode cX10_takeBack 158 = .ok (.getfield 277, 3) := by decide +kernel
theorem dX10_takeBack_161 : decode cX10_takeBack 161 = .ok (.aload_n 1, 1) := by decide +kernel
theorem dX10_takeBack_162 : decode cX10_takeBack 162 = .ok (.getfield 369, 3) := by decide +kernel
theorem dX10_takeBack_165 : decode cX10_takeBack 165 = .ok (.aload_n 1, 1) := by decide +kernel
theorem dX10_takeBack_166 : decode cX10_takeBack 166 = .ok (.getfield 372, 3) := by decide +kernel
theorem dX10_takeBack_169 : decode cX10_takeBack 169 = .ok (.iastore, 1) := by decide +kernel
theorem dX10_takeBack_170 : decode cX10_takeBack 170 = .ok (.goto 25, 3) := by decide +kernel
theorem dX10_takeBack_173 : decode cX10_takeBack 173 = .ok (.aload_n 0, 1) := by decide +kernel
theorem dX10_takeBack_174 : decode cX10_takeBack 174 = .ok (.getfield 36, 3) := by decide +kernel
theorem dX10_takeBack_177 : decode cX10_takeBack 177 = .ok (.aload_n 1, 1) := by decide +kernel
theorem dX10_takeBack_178 : decode cX10_takeBack 178 = .ok (.getfield 257, 3) := by decide +kernel
theorem dX10_takeBack_181 : decode cX10_takeBack 181 = .ok (.getfield 263, 3) := by decide +kernel
theorem dX10_takeBack_184 : decode cX10_takeBack 184 = .ok (.invokevirtual 264, 3) := by decide +kernel
theorem dX10_takeBack_187 : decode cX10_takeBack 187 = .ok (.goto 8, 3) := by decide +kernel
theorem dX10_takeBack_190 : decode cX10_takeBack 190 = .ok (.aload_n 0, 1) := by decide +kernel
theorem dX10_takeBack_191 : decode cX10_takeBack 191 = .ok (.aload_n 1, 1) := by decide +kernel
theorem dX10_takeBack_192 : decode cX10_takeBack 192 = .ok (.invokevirtual 375, 3) := by decide +kernel
theorem dX10_takeBack_195 : decode cX10_takeBack 195 = .ok (.return_, 1) := by decide +kernel
theorem dX10_takeBackPlace_0 : decode cX10_takeBackPlace 0 = .ok (.aload_n 0, 1) := by decide +kernel
theorem dX10_takeBackPlace_1 : decode cX10_takeBackPlace 1 = .ok (.aload_n 1, 1) := by decide +kernel
theorem dX10_takeBackPlace_2 : decode cX10_takeBackPlace 2 = .ok (.getfield 369, 3) := by decide +kernel
theorem dX10_takeBackPlace_5 : decode cX10_takeBackPlace 5 = .ok (.invokevirtual 335, 3) := by decide +kernel
theorem dX10_takeBackPlace_8 : decode cX10_takeBackPlace 8 = .ok (.astore_n 2, 1) := by decide +kernel
theorem dX10_takeBackPlace_9 : decode cX10_takeBackPlace 9 = .ok (.aload_n 2, 1) := by decide +kernel
theorem dX10_takeBackPlace_10 : decode cX10_takeBackPlace 10 = .ok (.ifnull 11, 3) := by decide +kernel
theorem dX10_takeBackPlace_13 : decode cX10_takeBackPlace 13 = .ok (.aload_n 2, 1) := by decide +kernel
theorem dX10_takeBackPlace_14 : decode cX10_takeBackPlace 14 = .ok (.aload_n 1, 1) := by decide +kernel
theorem dX10_takeBackPlace_15 : decode cX10_takeBackPlace 15 = .ok (.getfield 257, 3) := by decide +kernel
theorem dX10_takeBackPlace_18 : decode cX10_takeBackPlace 18 = .ok (.invokevirtual 341, 3) := by decide +kernel
theorem dX10_takeBackPlace_21 : decode cX10_takeBackPlace 21 = .ok (.return_, 1) := by decide +kernel
theorem dX10_refuse_0 : decode cX10_refuse 0 = .ok (.aload_n 0, 1) := by decide +kernel
theorem dX10_refuse_1 : decode cX10_refuse 1 = .ok (.iload_n 1, 1) := by decide +kernel
theorem dX10_refuse_2 : decode cX10_refuse 2 = .ok (.putfield 74, 3) := by decide +kernel
theorem dX10_refuse_5 : decode cX10_refuse 5 = .ok (.iconst (-1), 1) := by decide +kernel
theorem dX10_refuse_6 : decode cX10_refuse 6 = .ok (.ireturn, 1) := by decide +kernel
theorem dX10_refuseFalse_0 : decode cX10_refuseFalse 0 = .ok (.aload_n 0, 1) := by decide +kernel
theorem dX10_refuseFalse_1 : decode cX10_refuseFalse 1 = .ok (.iload_n 1, 1) := by decide +kernel
theorem dX10_refuseFalse_2 : decode cX10_refuseFalse 2 = .ok (.putfield 74, 3) := by decide +kernel
theorem dX10_refuseFalse_5 : decode cX10_refuseFalse 5 = .ok (.iconst 0, 1) := by decide +kernel
theorem dX10_refuseFalse_6 : decode cX10_refuseFalse 6 = .ok (.ireturn, 1) := by decide +kernel
theorem dX10_accept_0 : decode cX10_accept 0 = .ok (.aload_n 0, 1) := by decide +kernel
theorem dX10_accept_1 : decode cX10_accept 1 = .ok (.iconst 0, 1) := by decide +kernel
theorem dX10_accept_2 : decode cX10_accept 2 = .ok (.putfield 74, 3) := by decide +kernel
theorem dX10_accept_5 : decode cX10_accept 5 = .ok (.iload_n 1, 1) := by decide +kernel
theorem dX10_accept_6 : decode cX10_accept 6 = .ok (.ireturn, 1) := by decide +kernel
theorem dX10_acceptTrue_0 : decode cX10_acceptTrue 0 = .ok (.aload_n 0, 1) := by decide +kernel
theorem dX10_acceptTrue_1 : decode cX10_acceptTrue 1 = .ok (.iconst 0, 1) := by decide +kernel
theorem dX10_acceptTrue_2 : decode cX10_acceptTrue 2 = .ok (.putfield 74, 3) := by decide +kernel
theorem dX10_acceptTrue_5 : decode cX10_acceptTrue 5 = .ok (.iconst 1, 1) := by decide +kernel
theorem dX10_acceptTrue_6 : decode cX10_acceptTrue 6 = .ok (.ireturn, 1) := by decide +kernel
end
section
theorem dX11_init_0 : decode cX11_init 0 = .ok (.aload_n 0, 1) := by decide +kernel
theorem dX11_init_1 : decode cX11_init 1 = .ok (.invokespecial 1, 3) := by decide +kernel
theorem dX11_init_4 : decode cX11_init 4 = .ok (.aload_n 0, 1) := by decide +kernel
theorem dX11_init_5 : decode cX11_init 5 = .ok (.bipush 16, 2) := by decide +kernel
theorem dX11_init_7 : decode cX11_init 7 = .ok (.newarray .int, 2) := by decide +kernel
theorem dX11_init_9 : decode cX11_init 9 = .ok (.putfield 7, 3) := by decide +kernel
theorem dX11_init_12 : decode cX11_init 12 = .ok (.aload_n 0, 1) := by decide +kernel
theorem dX11_init_13 : decode cX11_init 13 = .ok (.bipush 16, 2) := by decide +kernel
theorem dX11_init_15 : decode cX11_init 15 = .ok (.newarray .int, 2) := by decide +kernel
theorem dX11_init_17 : decode cX11_init 17 = .ok (.putfield 13, 3) := by decide +kernel
theorem dX11_init_20 : decode cX11_init 20 = .ok (.aload_n 0, 1) := by decide +kernel
theorem dX11_init_21 : decode cX11_init 21 = .ok (.bipush 16, 2) := by decide +kernel
theorem dX11_init_23 : decode cX11_init 23 = .ok (.newarray .int, 2) := by decide +kernel
theorem dX11_init_25 : decode cX11_init 25 = .ok (.putfield 16, 3) := by decide +kernel
theorem dX11_init_28 : decode cX11_init 28 = .ok (.aload_n 0, 1) := by decide +kernel
theorem dX11_init_29 : decode cX11_init 29 = .ok (.bipush 120, 2) := by decide +kernel
theorem dX11_init_31 : decode cX11_init 31 = .ok (.newarray .int, 2) := by decide +kernel
theorem dX11_init_33 : decode cX11_init 33 = .ok (.putfield 19, 3) := by decide +kernel
theorem dX11_init_36 : decode cX11_init 36 = .ok (.aload_n 0, 1) := by decide +kernel
theorem dX11_init_37 : decode cX11_init 37 = .ok (.bipush 24, 2) := by decide +kernel
theorem dX11_init_39 : decode cX11_init 39 = .ok (.newarray .int, 2) := by decide +kernel
theorem dX11_init_41 : decode cX11_init 41 = .ok (.putfield 22, 3) := by decide +kernel
theorem dX11_init_44 : decode cX11_init 44 = .ok (.aload_n 0, 1) := by decide +kernel
theorem dX11_init_45 : decode cX11_init 45 = .ok (.bipush 24, 2) := by decide +kernel
theorem dX11_init_47 : decode cX11_init 47 = .ok (.newarray .int, 2) := by decide +kernel
theorem dX11_init_49 : decode cX11_init 49 = .ok (.putfield 25, 3) := by decide +kernel
theorem dX11_init_52 : decode cX11_init 52 = .ok (.aload_n 0, 1) := by decide +kernel
theorem dX11_init_53 : decode cX11_init 53 = .ok (.sipush 2880, 3) := by decide +kernel
theorem dX11_init_56 : decode cX11_init 56 = .ok (.newarray .int, 2) := by decide +kernel
theorem dX11_init_58 : decode cX11_init 58 = .ok (.putfield 28, 3) := by decide +kernel
theorem dX11_init_61 : decode cX11_init 61 = .ok (.aload_n 0, 1) := by decide +kernel
theorem dX11_init_62 : decode cX11_init 62 = .ok (.bipush 121, 2) := by decide +kernel
theorem dX11_init_64 : decode cX11_init 64 = .ok (.newarray .int, 2) := by decide +kernel
theorem dX11_init_66 : decode cX11_init 66 = .ok (.putfield 31, 3) := by decide +kernel
theorem dX11_init_69 : decode cX11_init 69 = .ok (.aload_n 0, 1) := by decide +kernel
theorem dX11_init_70 : decode cX11_init 70 = .ok (.bipush 16, 2) := by decide +kernel
theorem dX11_init_72 : decode cX11_init 72 = .ok (.newarray .int, 2) := by decide +kernel
theorem dX11_init_74 : decode cX11_init 74 = .ok (.putfield 34, 3) := by decide +kernel
theorem dX11_init_77 : decode cX11_init 77 = .ok (.aload_n 0, 1) := by decide +kernel
theorem dX11_init_78 : decode cX11_init 78 = .ok (.bipush 16, 2) := by decide +kernel
theorem dX11_init_80 : decode cX11_init 80 = .ok (.newarray .int, 2) := by decide +kernel
theorem dX11_init_82 : decode cX11_init 82 = .ok (.putfield 37, 3) := by decide +kernel
theorem dX11_init_85 : decode cX11_init 85 = .ok (.aload_n 0, 1) := by decide +kernel
theorem dX11_init_86 : decode cX11_init 86 = .ok (.sipush 1936, 3) := by decide +kernel
theorem dX11_init_89 : decode cX11_init 89 = .ok (.newarray .int, 2) := by decide +kernel
theorem dX11_init_91 : decode cX11_init 91 = .ok (.putfield 40, 3) := by decide +kernel
theorem dX11_init_94 : decode cX11_init 94 = .ok (.aload_n 0, 1) := by decide +kernel
theorem dX11_init_95 : decode cX11_init 95 = .ok (.sipush 7140, 3) := by decide +kernel
theorem dX11_init_98 : decode cX11_init 98 = .ok (.newarray .int, 2) := by decide +kernel
theorem dX11_init_100 : decode cX11_init 100 = .ok (.putfield 43, 3) := by decide +kernel
theorem dX11_init_103 : decode cX11_init 103 = .ok (.aload_n 0, 1) := by decide +kernel
theorem dX11_init_104 : decode cX11_init 104 = .ok (.sipush 7560, 3) := by decide +kernel
theorem dX11_init_107 : decode cX11_init 107 = .ok (.newarray .int, 2) := by decide +kernel
theorem dX11_init_109 : decode cX11_init 109 = .ok (.putfield 46, 3) := by decide +kernel
theorem dX11_init_112 : decode cX11_init 112 = .ok (.aload_n 0, 1) := by decide +kernel
theorem dX11_init_113 : decode cX11_init 113 = .ok (.ldc 49, 2) := by decide +kernel
theorem dX11_init_115 : decode cX11_init 115 = .ok (.newarray .boolean, 2) := by decide +kernel
theorem dX11_init_117 : decode cX11_init 117 = .ok (.putfield 50, 3) := by decide +kernel
theorem dX11_init_120 : decode cX11_init 120 = .ok (.aload_n 0, 1) := by decide +kernel
theorem dX11_init_121 : decode cX11_init 121 = .ok (.ldc 49, 2) := by decide +kernel
theorem dX11_init_123 : decode cX11_init 123 = .ok (.newarray .boolean, 2) := by decide +kernel
theorem dX11_init_125 : decode cX11_init 125 = .ok (.putfield 54, 3) := by decide +kernel
theorem dX11_init_128 : decode cX11_init 128 = .ok (.aload_n 0, 1) := by decide +kernel
theorem dX11_init_129 : decode cX11_init 129 = .ok (.bipush 120, 2) := by decide +kernel
theorem dX11_init_131 : decode cX11_init 131 = .ok (.newarray .int, 2) := by decide +kernel
theorem dX11_init_133 : decode cX11_init 133 = .ok (.putfield 57, 3) := by decide +kernel
theorem dX11_init_136 : decode cX11_init 136 = .ok (.aload_n 0, 1) := by decide +kernel
theorem dX11_init_137 : decode cX11_init 137 = .ok (.bipush 17, 2) := by decide +kernel
theorem dX11_init_139 : decode cX11_init 139 = .ok (.newarray .int, 2) := by decide +kernel
theorem dX11_init_141 : decode cX11_init 141 = .ok (.putfield 60, 3) := by decide +kernel
theorem dX11_init_144 : decode cX11_init 144 = .ok (.aload_n 0, 1) := by decide +kernel
theorem dX11_init_145 : decode cX11_init 145 = .ok (.bipush 17, 2) := by decide +kernel
theorem dX11_init_147 : decode cX11_init 147 = .ok (.newarray .int, 2) := by decide +kernel
theorem dX11_init_149 : decode cX11_init 149 = .ok (.putfield 63, 3) := by decide +kernel
theorem dX11_init_152 : decode cX11_init 152 = .ok (.aload_n 0, 1) := by decide +kernel
theorem dX11_init_153 : decode cX11_init 153 = .ok (.bipush 17, 2) := by decide +kernel
theorem dX11_init_155 : decode cX11_init 155 = .ok (.newarray .int, 2) := by decide +kernel
theorem dX11_init_157 : decode cX11_init 157 = .ok (.putfield 66, 3) := by decide +kernel
theorem dX11_init_160 : decode cX11_init 160 = .ok (.aload_n 0, 1) := by decide +kernel
theorem dX11_init_161 : decode cX11_init 161 = .ok (.sipush 4096, 3) := by decide +kernel
theorem dX11_init_164 : decode cX11_init 164 = .ok (.newarray .int, 2) := by decide +kernel
theorem dX11_init_166 : decode cX11_init 166 = .ok (.putfield 69, 3) := by decide +kernel
theorem dX11_init_169 : decode cX11_init 169 = .ok (.aload_n 0, 1) := by decide +kernel
theorem dX11_init_170 : decode cX11_init 170 = .ok (.bipush 16, 2) := by decide +kernel
theorem dX11_init_172 : decode cX11_init 172 = .ok (.newarray .int, 2) := by decide +kernel
theorem dX11_init_174 : decode cX11_init 174 = .ok (.putfield 72, 3) := by decide +kernel
theorem dX11_init_177 : decode cX11_init 177 = .ok (.aload_n 0, 1) := by decide +kernel
theorem dX11_init_178 : decode cX11_init 178 = .ok (.ldc 49, 2) := by decide +kernel
theorem dX11_init_180 : decode cX11_init 180 = .ok (.newarray .boolean, 2) := by decide +kernel
theorem dX11_init_182 : decode cX11_init 182 = .ok (.putfield 75, 3) := by decide +kernel
theorem dX11_init_185 : decode cX11_init 185 = .ok (.aload_n 0, 1) := by decide +kernel
theorem dX11_init_186 : decode cX11_init 186 = .ok (.ldc 49, 2) := by decide +kernel
theorem dX11_init_188 : decode cX11_init 188 = .ok (.newarray .boolean, 2) := by decide +kernel
theorem dX11_init_190 : decode cX11_init 190 = .ok (.putfield 78, 3) := by decide +kernel
theorem dX11_init_193 : decode cX11_init 193 = .ok (.aload_n 0, 1) := by decide +kernel
theorem dX11_init_194 : decode cX11_init 194 = .ok (.bipush 120, 2) := by decide +kernel
theorem dX11_init_196 : decode cX11_init 196 = .ok (.newarray .int, 2) := by decide +kernel
theorem dX11_init_198 : decode cX11_init 198 = .ok (.putfield 81, 3) := by decide +kernel
theorem dX11_init_201 : decode cX11_init 201 = .ok (.return_, 1) := by decide +kernel
theorem dX11_no_0 : decode cX11_no 0 = .ok (.aload_n 0, 1) := by decide +kernel
theorem dX11_no_1 : decode cX11_no 1 = .ok (.iload_n 1, 1) := by decide +kernel
theorem dX11_no_2 : decode cX11_no 2 = .ok (.putfield 88, 3) := by decide +kernel
theorem dX11_no_5 : decode cX11_no 5 = .ok (.iconst (-1), 1) := by decide +kernel
theorem dX11_no_6 : decode cX11_no 6 = .ok (.ireturn, 1) := by decide +kernel
theorem dX11_not_0 : decode cX11_not 0 = .ok (.aload_n 0, 1) := by decide +kernel
theorem dX11_not_1 : decode cX11_not 1 = .ok (.iload_n 1, 1) := by decide +kernel
theorem dX11_not_2 : decode cX11_not 2 = .ok (.putfield 88, 3) := by decide +kernel
theorem dX11_not_5 : decode cX11_not 5 = .ok (.iconst 0, 1) := by decide +kernel
theorem dX11_not_6 : decode cX11_not 6 = .ok (.ireturn, 1) := by decide +kernel
theorem dX11_in_0 : decode cX11_in 0 = .ok (.iload_n 1, 1) := by decide +kernel
theorem dX11_in_1 : decode cX11_in 1 = .ok (.iload_n 2, 1) := by decide +kernel
theorem dX11_in_2 : decode cX11_in 2 = .ok (.if_icmp .lt 12, 3) := by decide +kernel
theorem dX11_in_5 : decode cX11_in 5 = .ok (.iload_n 1, 1) := by decide +kernel
theorem dX11_in_6 : decode cX11_in 6 = .ok (.iload_n 3, 1) := by decide +kernel
theorem dX11_in_7 : decode cX11_in 7 = .ok (.if_icmp .gt 7, 3) := by decide +kernel
theorem dX11_in_10 : decode cX11_in 10 = .ok (.iconst 1, 1) := by decide +kernel
theorem dX11_in_11 : decode cX11_in 11 = .ok (.goto 4, 3) := by decide +kernel
theorem dX11_in_14 : decode cX11_in 14 = .ok (.iconst 0, 1) := by decide +kernel
theorem dX11_in_15 : decode cX11_in 15 = .ok (.ireturn, 1) := by decide +kernel
theorem dX11_bitsOf_0 : decode cX11_bitsOf 0 = .ok (.iconst 0, 1) := by decide +kernel
theorem dX11_bitsOf_1 : decode cX11_bitsOf 1 = .ok (.istore_n 2, 1) := by decide +kernel
theorem dX11_bitsOf_2 : decode cX11_bitsOf 2 = .ok (.iload_n 1, 1) := by decide +kernel
theorem dX11_bitsOf_3 : decode cX11_bitsOf 3 = .ok (.istore_n 3, 1) := by decide +kernel
theorem dX11_bitsOf_4 : decode cX11_bitsOf 4 = .ok (.iload_n 3, 1) := by decide +kernel
theorem dX11_bitsOf_5 : decode cX11_bitsOf 5 = .ok (.ifCond .eq 15, 3) := by decide +kernel
theorem dX11_bitsOf_8 : decode cX11_bitsOf 8 = .ok (.iinc 2 1, 3) := by decide +kernel
theorem dX11_bitsOf_11 : decode cX11_bitsOf 11 = .ok (.iload_n 3, 1) := by decide +kernel
theorem dX11_bitsOf_12 : decode cX11_bitsOf 12 = .ok (.iload_n 3, 1) := by decide +kernel
theorem dX11_bitsOf_13 : decode cX11_bitsOf 13 = .ok (.iconst 1, 1) := by decide +kernel
theorem dX11_bitsOf_14 : decode cX11_bitsOf 14 = .ok (.isub, 1) := by decide +kernel
theorem dX11_bitsOf_15 : decode cX11_bitsOf 15 = .ok (.iand, 1) := by decide +kernel
theorem dX11_bitsOf_16 : decode cX11_bitsOf 16 = .ok (.istore_n 3, 1) := by decide +kernel
theorem dX11_bitsOf_17 : decode cX11_bitsOf 17 = .ok (.goto (-13), 3) := by decide +kernel
theorem dX11_bitsOf_20 : decode cX11_bitsOf 20 = .ok (.iload_n 2, 1) := by decide +kernel
theorem dX11_bitsOf_21 : decode cX11_bitsOf 21 = .ok (.ireturn, 1) := by decide +kernel
theorem dX11_isSet_0 : decode cX11_isSet 0 = .ok (.iload_n 1, 1) := by decide +kernel
theorem dX11_isSet_1 : decode cX11_isSet 1 = .ok (.ifCond .le 17, 3) := by decide +kernel
theorem dX11_isSet_4 : decode cX11_isSet 4 = .ok (.iload_n 1, 1) := by decide +kernel
theorem dX11_isSet_5 : decode cX11_isSet 5 = .ok (.iconst 1, 1) := by decide +kernel
theorem dX11_isSet_6 : decode cX11_isSet 6 = .ok (.aload_n 0, 1) := by decide +kernel
theorem dX11_isSet_7 : decode cX11_isSet 7 = .ok (.getfield 91, 3) := by decide +kernel
theorem dX11_isSet_10 : decode cX11_isSet 10 = .ok (.ishl, 1) := by decide +kernel
theorem dX11_isSet_11 : decode cX11_isSet 11 = .ok (.if_icmp .ge 7, 3) := by decide +kernel
theorem dX11_isSet_14 : decode cX11_isSet 14 = .ok (.iconst 1, 1) := by decide +kernel
theorem dX11_isSet_15 : decode cX11_isSet 15 = .ok (.goto 4, 3) := by decide +kernel
theorem dX11_isSet_18 : decode cX11_isSet 18 = .ok (.iconst 0, 1) := by decide +kernel
theorem dX11_isSet_19 : decode cX11_isSet 19 = .ok (.ireturn, 1) := by decide +kernel
theorem dX11_isFamily_0 : decode cX11_isFamily 0 = .ok (.aload_n 0, 1) := by decide +kernel
theorem dX11_isFamily_1 : decode cX11_isFamily 1 = .ok (.iload_n 1, 1) := by decide +kernel
theorem dX11_isFamily_2 : decode cX11_isFamily 2 = .ok (.iconst 0, 1) := by decide +kernel
theorem dX11_isFamily_3 : decode cX11_isFamily 3 = .ok (.aload_n 0, 1) := by decide +kernel
theorem dX11_isFamily_4 : decode cX11_isFamily 4 = .ok (.getfield 94, 3) := by decide +kernel
theorem dX11_isFamily_7 : decode cX11_isFamily 7 = .ok (.iconst 1, 1) := by decide +kernel
theorem dX11_isFamily_8 : decode cX11_isFamily 8 = .ok (.isub, 1) := by decide +kernel
theorem dX11_isFamily_9 : decode cX11_isFamily 9 = .ok (.invokevirtual 97, 3) := by decide +kernel
theorem dX11_isFamily_12 : decode cX11_isFamily 12 = .ok (.ireturn, 1) := by decide +kernel
theorem dX11_quorumOf_0 : decode cX11_quorumOf 0 = .ok (.aload_n 0, 1) := by decide +kernel
theorem dX11_quorumOf_1 : decode cX11_quorumOf 1 = .ok (.getfield 28, 3) := by decide +kernel
theorem dX11_quorumOf_4 : decode cX11_quorumOf 4 = .ok (.bipush 120, 2) := by decide +kernel
theorem dX11_quorumOf_6 : decode cX11_quorumOf 6 = .ok (.iload_n 1, 1) := by decide +kernel
theorem dX11_quorumOf_7 : decode cX11_quorumOf 7 = .ok (.imul, 1) := by decide +kernel
theorem dX11_quorumOf_8 : decode cX11_quorumOf 8 = .ok (.iload_n 2, 1) := by decide +kernel
theorem dX11_quorumOf_9 : decode cX11_quorumOf 9 = .ok (.iadd, 1) := by decide +kernel
theorem dX11_quorumOf_10 : decode cX11_quorumOf 10 = .ok (.iaload, 1) := by decide +kernel
theorem dX11_quorumOf_11 : decode cX11_quorumOf 11 = .ok (.ireturn, 1) := by decide +kernel
theorem dX11_act_0 : decode cX11_act 0 = .ok (.aload_n 0, 1) := by decide +kernel
theorem dX11_act_1 : decode cX11_act 1 = .ok (.getfield 101, 3) := by decide +kernel
theorem dX11_act_4 : decode cX11_act 4 = .ok (.bipush 60, 2) := by decide +kernel
theorem dX11_act_6 : decode cX11_act 6 = .ok (.if_icmp .ne 48, 3) := by decide +kernel
theorem dX11_act_9 : decode cX11_act 9 = .ok (.bipush 126, 2) := by decide +kernel
theorem dX11_act_11 : decode cX11_act 11 = .ok (.istore 4, 2) := by decide +kernel
theorem dX11_act_13 : decode cX11_act 13 = .ok (.iload 4, 2) := by decide +kernel
theorem dX11_act_15 : decode cX11_act 15 = .ok (.sipush 7560, 3) := by decide +kernel
theorem dX11_act_18 : decode cX11_act 18 = .ok (.if_icmp .ge 26, 3) := by decide +kernel
theorem dX11_act_21 : decode cX11_act 21 = .ok (.aload_n 0, 1) := by decide +kernel
theorem dX11_act_22 : decode cX11_act 22 = .ok (.getfield 46, 3) := by decide +kernel
theorem dX11_act_25 : decode cX11_act 25 = .ok (.iload 4, 2) := by decide +kernel
theorem dX11_act_27 : decode cX11_act 27 = .ok (.bipush 126, 2) := by decide +kernel
theorem dX11_act_29 : decode cX11_act 29 = .ok (.isub, 1) := by decide +kernel
theorem dX11_act_30 : decode cX11_act 30 = .ok (.aload_n 0, 1) := by decide +kernel
theorem dX11_act_31 : decode cX11_act 31 = .ok (.getfield 46, 3) := by decide +kernel
theorem dX11_act_34 : decode cX11_act 34 = .ok (.iload 4, 2) := by decide +kernel
theorem dX11_act_36 : decode cX11_act 36 = .ok (.iaload, 1) := by decide +kernel
theorem dX11_act_37 : decode cX11_act 37 = .ok (.iastore, 1) := by decide +kernel
theorem dX11_act_38 : decode cX11_act 38 = .ok (.iinc 4 1, 3) := by decide +kernel
theorem dX11_act_41 : decode cX11_act 41 = .ok (.goto (-28), 3) := by decide +kernel
theorem dX11_act_44 : decode cX11_act 44 = .ok (.aload_n 0, 1) := by decide +kernel
theorem dX11_act_45 : decode cX11_act 45 = .ok (.dup, 1) := by decide +kernel
theorem dX11_act_46 : decode cX11_act 46 = .ok (.getfield 101, 3) := by decide +kernel
theorem dX11_act_49 : decode cX11_act 49 = .ok (.iconst 1, 1) := by decide +kernel
theorem dX11_act_50 : decode cX11_act 50 = .ok (.isub, 1) := by decide +kernel
theorem dX11_act_51 : decode cX11_act 51 = .ok (.putfield 101, 3) := by decide +kernel
theorem dX11_act_54 : decode cX11_act 54 = .ok (.bipush 126, 2) := by decide +kernel
theorem dX11_act_56 : decode cX11_act 56 = .ok (.aload_n 0, 1) := by decide +kernel
theorem dX11_act_57 : decode cX11_act 57 = .ok (.getfield 101, 3) := by decide +kernel
theorem dX11_act_60 : decode cX11_act 60 = .ok (.imul, 1) := by decide +kernel
theorem dX11_act_61 : decode cX11_act 61 = .ok (.istore 4, 2) := by decide +kernel
theorem dX11_act_63 : decode cX11_act 63 = .ok (.aload_n 0, 1) := by decide +kernel
theorem dX11_act_64 : decode cX11_act 64 = .ok (.getfield 46, 3) := by decide +kernel
theorem dX11_act_67 : decode cX11_act 67 = .ok (.iload 4, 2) := by decide +kernel
theorem dX11_act_69 : decode cX11_act 69 = .ok (.iload_n 1, 1) := by decide +kernel
theorem dX11_act_70 : decode cX11_act 70 = .ok (.iastore, 1) := by decide +kernel
theorem dX11_act_71 : decode cX11_act 71 = .ok (.aload_n 0, 1) := by decide +kernel
theorem dX11_act_72 : decode cX11_act 72 = .ok (.getfield 46, 3) := by decide +kernel
theorem dX11_act_75 : decode cX11_act 75 = .ok (.iload 4, 2) := by decide +kernel
theorem dX11_act_77 : decode cX11_act 77 = .ok (.iconst 1, 1) := by decide +kernel
theorem dX11_act_78 : decode cX11_act 78 = .ok (.iadd, 1) := by decide +kernel
theorem dX11_act_79 : decode cX11_act 79 = .ok (.iload_n 2, 1) := by decide +kernel
theorem dX11_act_80 : decode cX11_act 80 = .ok (.iastore, 1) := by decide +kernel
theorem dX11_act_81 : decode cX11_act 81 = .ok (.aload_n 0, 1) := by decide +kernel
theorem dX11_act_82 : decode cX11_act 82 = .ok (.getfield 46, 3) := by decide +kernel
theorem dX11_act_85 : decode cX11_act 85 = .ok (.iload 4, 2) := by decide +kernel
theorem dX11_act_87 : decode cX11_act 87 = .ok (.iconst 2, 1) := by decide +kernel
theorem dX11_act_88 : decode cX11_act 88 = .ok (.iadd, 1) := by decide +kernel
theorem dX11_act_89 : decode cX11_act 89 = .ok (.iload_n 3, 1) := by decide +kernel
theorem dX11_act_90 : decode cX11_act 90 = .ok (.iastore, 1) := by decide +kernel
theorem dX11_act_91 : decode cX11_act 91 = .ok (.aload_n 0, 1) := by decide +kernel
theorem dX11_act_92 : decode cX11_act 92 = .ok (.dup, 1) := by decide +kernel
theorem dX11_act_93 : decode cX11_act 93 = .ok (.getfield 101, 3) := by decide +kernel
theorem dX11_act_96 : decode cX11_act 96 = .ok (.iconst 1, 1) := by decide +kernel
theorem dX11_act_97 : decode cX11_act 97 = .ok (.iadd, 1) := by decide +kernel
theorem dX11_act_98 : decode cX11_act 98 = .ok (.putfield 101, 3) := by decide +kernel
theorem dX11_act_101 : decode cX11_act 101 = .ok (.aload_n 0, 1) := by decide +kernel
theorem dX11_act_102 : decode cX11_act 102 = .ok (.iconst 0, 1) := by decide +kernel
theorem dX11_act_103 : decode cX11_act 103 = .ok (.putfield 88, 3) := by decide +kernel
theorem dX11_act_106 : decode cX11_act 106 = .ok (.return_, 1) := by decide +kernel
theorem dX11_planActs_0 : decode cX11_planActs 0 = .ok (.aload_n 0, 1) := by decide +kernel
theorem dX11_planActs_1 : decode cX11_planActs 1 = .ok (.iconst 4, 1) := by decide +kernel
theorem dX11_planActs_2 : decode cX11_planActs 2 = .ok (.iconst 0, 1) := by decide +kernel
theorem dX11_planActs_3 : decode cX11_planActs 3 = .ok (.aload_n 0, 1) := by decide +kernel
theorem dX11_planActs_4 : decode cX11_planActs 4 = .ok (.getfield 104, 3) := by decide +kernel
theorem dX11_planActs_7 : decode cX11_planActs 7 = .ok (.ifCond .eq 7, 3) := by decide +kernel
theorem dX11_planActs_10 : decode cX11_planActs 10 = .ok (.iconst 1, 1) := by decide +kernel
theorem dX11_planActs_11 : decode cX11_planActs 11 = .ok (.goto 4, 3) := by decide +kernel
theorem dX11_planActs_14 : decode cX11_planActs 14 = .ok (.iconst 0, 1) := by decide +kernel
theorem dX11_planActs_15 : decode cX11_planActs 15 = .ok (.invokevirtual 108, 3) := by decide +kernel
theorem dX11_planActs_18 : decode cX11_planActs 18 = .ok (.iconst 0, 1) := by decide +kernel
theorem dX11_planActs_19 : decode cX11_planActs 19 = .ok (.istore_n 1, 1) := by decide +kernel
theorem dX11_planActs_20 : decode cX11_planActs 20 = .ok (.iload_n 1, 1) := by decide +kernel
theorem dX11_planActs_21 : decode cX11_planActs 21 = .ok (.bipush 121, 2) := by decide +kernel
theorem dX11_planActs_23 : decode cX11_planActs 23 = .ok (.if_icmp .ge 33, 3) := by decide +kernel
theorem dX11_planActs_26 : decode cX11_planActs 26 = .ok (.aload_n 0, 1) := by decide +kernel
theorem dX11_planActs_27 : decode cX11_planActs 27 = .ok (.getfield 46, 3) := by decide +kernel
theorem dX11_planActs_30 : decode cX11_planActs 30 = .ok (.bipush 126, 2) := by decide +kernel
theorem dX11_planActs_32 : decode cX11_planActs 32 = .ok (.aload_n 0, 1) := by decide +kernel
theorem dX11_planActs_33 : decode cX11_planActs 33 = .ok (.getfield 101, 3) := by decide +kernel
theorem dX11_planActs_36 : decode cX11_planActs 36 = .ok (.iconst 1, 1) := by decide +kernel
theorem dX11_planActs_37 : decode cX11_planActs 37 = .ok (.isub, 1) := by decide +kernel
theorem dX11_planActs_38 : decode cX11_planActs 38 = .ok (.imul, 1) := by decide +kernel
theorem dX11_planActs_39 : decode cX11_planActs 39 = .ok (.iconst 3, 1) := by decide +kernel
theorem dX11_planActs_40 : decode cX11_planActs 40 = .ok (.iadd, 1) := by decide +kernel
theorem dX11_planActs_41 : decode cX11_planActs 41 = .ok (.iload_n 1, 1) := by decide +kernel
theorem dX11_planActs_42 : decode cX11_planActs 42 = .ok (.iadd, 1) := by decide +kernel
theorem dX11_planActs_43 : decode cX11_planActs 43 = .ok (.aload_n 0, 1) := by decide +kernel
theorem dX11_planActs_44 : decode cX11_planActs 44 = .ok (.getfield 31, 3) := by decide +kernel
theorem dX11_planActs_47 : decode cX11_planActs 47 = .ok (.iload_n 1, 1) := by decide +kernel
theorem dX11_planActs_48 : decode cX11_planActs 48 = .ok (.iaload, 1) := by decide +kernel
theorem dX11_planActs_49 : decode cX11_planActs 49 = .ok (.iastore, 1) := by decide +kernel
theorem dX11_planActs_50 : decode cX11_planActs 50 = .ok (.iinc 1 1, 3) := by decide +kernel
theorem dX11_planActs_53 : decode cX11_planActs 53 = .ok (.goto (-33), 3) := by decide +kernel
theorem dX11_planActs_56 : decode cX11_planActs 56 = .ok (.return_, 1) := by decide +kernel
theorem dX11_caseActs_0 : decode cX11_caseActs 0 = .ok (.aload_n 0, 1) := by decide +kernel
theorem dX11_caseActs_1 : decode cX11_caseActs 1 = .ok (.iconst 5, 1) := by decide +kernel
theorem dX11_caseActs_2 : decode cX11_caseActs 2 = .ok (.iload_n 1, 1) := by decide +kernel
theorem dX11_caseActs_3 : decode cX11_caseActs 3 = .ok (.aload_n 0, 1) := by decide +kernel
theorem dX11_caseActs_4 : decode cX11_caseActs 4 = .ok (.getfield 34, 3) := by decide +kernel
theorem dX11_caseActs_7 : decode cX11_caseActs 7 = .ok (.iload_n 1, 1) := by decide +kernel
theorem dX11_caseActs_8 : decode cX11_caseActs 8 = .ok (.iaload, 1) := by decide +kernel
theorem dX11_caseActs_9 : decode cX11_caseActs 9 = .ok (.invokevirtual 108, 3) := by decide +kernel
theorem dX11_caseActs_12 : decode cX11_caseActs 12 = .ok (.bipush 126, 2) := by decide +kernel
theorem dX11_caseActs_14 : decode cX11_caseActs 14 = .ok (.aload_n 0, 1) := by decide +kernel
theorem dX11_caseActs_15 : decode cX11_caseActs 15 = .ok (.getfield 101, 3) := by decide +kernel
theorem dX11_caseActs_18 : decode cX11_caseActs 18 = .ok (.iconst 1, 1) := by decide +kernel
theorem dX11_caseActs_19 : decode cX11_caseActs 19 = .ok (.isub, 1) := by decide +kernel
theorem dX11_caseActs_20 : decode cX11_caseActs 20 = .ok (.imul, 1) := by decide +kernel
theorem dX11_caseActs_21 : decode cX11_caseActs 21 = .ok (.istore_n 2, 1) := by decide +kernel
theorem dX11_caseActs_22 : decode cX11_caseActs 22 = .ok (.aload_n 0, 1) := by decide +kernel
theorem dX11_caseActs_23 : decode cX11_caseActs 23 = .ok (.getfield 46, 3) := by decide +kernel
theorem dX11_caseActs_26 : decode cX11_caseActs 26 = .ok (.iload_n 2, 1) := by decide +kernel
theorem dX11_caseActs_27 : decode cX11_caseActs 27 = .ok (.iconst 3, 1) := by decide +kernel
theorem dX11_caseActs_28 : decode cX11_caseActs 28 = .ok (.iadd, 1) := by decide +kernel
theorem dX11_caseActs_29 : decode cX11_caseActs 29 = .ok (.aload_n 0, 1) := by decide +kernel
theorem dX11_caseActs_30 : decode cX11_caseActs 30 = .ok (.getfield 37, 3) := by decide +kernel
theorem dX11_caseActs_33 : decode cX11_caseActs 33 = .ok (.iload_n 1, 1) := by decide +kernel
theorem dX11_caseActs_34 : decode cX11_caseActs 34 = .ok (.iaload, 1) := by decide +kernel
theorem dX11_caseActs_35 : decode cX11_caseActs 35 = .ok (.iastore, 1) := by decide +kernel
theorem dX11_caseActs_36 : decode cX11_caseActs 36 = .ok (.iconst 0, 1) := by decide +kernel
theorem dX11_caseActs_37 : decode cX11_caseActs 37 = .ok (.istore_n 3, 1) := by decide +kernel
theorem dX11_caseActs_38 : decode cX11_caseActs 38 = .ok (.iload_n 3, 1) := by decide +kernel
theorem dX11_caseActs_39 : decode cX11_caseActs 39 = .ok (.bipush 121, 2) := by decide +kernel
theorem dX11_caseActs_41 : decode cX11_caseActs 41 = .ok (.if_icmp .ge 30, 3) := by decide +kernel
theorem dX11_caseActs_44 : decode cX11_caseActs 44 = .ok (.aload_n 0, 1) := by decide +kernel
theorem dX11_caseActs_45 : decode cX11_caseActs 45 = .ok (.getfield 46, 3) := by decide +kernel
theorem dX11_caseActs_48 : decode cX11_caseActs 48 = .ok (.iload_n 2, 1) := by decide +kernel
theorem dX11_caseActs_49 : decode cX11_caseActs 49 = .ok (.iconst 4, 1) := by decide +kernel
theorem dX11_caseActs_50 : decode cX11_caseActs 50 = .ok (.iadd, 1) := by decide +kernel
theorem dX11_caseActs_51 : decode cX11_caseActs 51 = .ok (.iload_n 3, 1) := by decide +kernel
theorem dX11_caseActs_52 : decode cX11_caseActs 52 = .ok (.iadd, 1) := by decide +kernel
theorem dX11_caseActs_53 : decode cX11_caseActs 53 = .ok (.aload_n 0, 1) := by decide +kernel
theorem dX11_caseActs_54 : decode cX11_caseActs 54 = .ok (.getfield 40, 3) := by decide +kernel
theorem dX11_caseActs_57 : decode cX11_caseActs 57 = .ok (.bipush 121, 2) := by decide +kernel
theorem dX11_caseActs_59 : decode cX11_caseActs 59 = .ok (.iload_n 1, 1) := by decide +kernel
theorem dX11_caseActs_60 : decode cX11_caseActs 60 = .ok (.imul, 1) := by decide +kernel
theorem dX11_caseActs_61 : decode cX11_caseActs 61 = .ok (.iload_n 3, 1) := by decide +kernel
theorem dX11_caseActs_62 : decode cX11_caseActs 62 = .ok (.iadd, 1) := by decide +kernel
theorem dX11_caseActs_63 : decode cX11_caseActs 63 = .ok (.iaload, 1) := by decide +kernel
theorem dX11_caseActs_64 : decode cX11_caseActs 64 = .ok (.iastore, 1) := by decide +kernel
theorem dX11_caseActs_65 : decode cX11_caseActs 65 = .ok (.iinc 3 1, 3) := by decide +kernel
theorem dX11_caseActs_68 : decode cX11_caseActs 68 = .ok (.goto (-30), 3) := by decide +kernel
theorem dX11_caseActs_71 : decode cX11_caseActs 71 = .ok (.return_, 1) := by decide +kernel
theorem dX11_undo_0 : decode cX11_undo 0 = .ok (.aload_n 0, 1) := by decide +kernel
theorem dX11_undo_1 : decode cX11_undo 1 = .ok (.iconst 0, 1) := by decide +kernel
theorem dX11_undo_2 : decode cX11_undo 2 = .ok (.putfield 84, 3) := by decide +kernel
theorem dX11_undo_5 : decode cX11_undo 5 = .ok (.aload_n 0, 1) := by decide +kernel
theorem dX11_undo_6 : decode cX11_undo 6 = .ok (.getfield 101, 3) := by decide +kernel
theorem dX11_undo_9 : decode cX11_undo 9 = .ok (.ifCond .ne 5, 3) := by decide +kernel
theorem dX11_undo_12 : decode cX11_undo 12 = .ok (.iconst 0, 1) := by decide +kernel
theorem dX11_undo_13 : decode cX11_undo 13 = .ok (.ireturn, 1) := by decide +kernel
theorem dX11_undo_14 : decode cX11_undo 14 = .ok (.aload_n 0, 1) := by decide +kernel
theorem dX11_undo_15 : decode cX11_undo 15 = .ok (.dup, 1) := by decide +kernel
theorem dX11_undo_16 : decode cX11_undo 16 = .ok (.getfield 101, 3) := by decide +kernel
theorem dX11_undo_19 : decode cX11_undo 19 = .ok (.iconst 1, 1) := by decide +kernel
theorem dX11_undo_20 : decode cX11_undo 20 = .ok (.isub, 1) := by decide +kernel
theorem dX11_undo_21 : decode cX11_undo 21 = .ok (.putfield 101, 3) := by decide +kernel
theorem dX11_undo_24 : decode cX11_undo 24 = .ok (.bipush 126, 2) := by decide +kernel
theorem dX11_undo_26 : decode cX11_undo 26 = .ok (.aload_n 0, 1) := by decide +kernel
theorem dX11_undo_27 : decode cX11_undo 27 = .ok (.getfield 101, 3) := by decide +kernel
theorem dX11_undo_30 : decode cX11_undo 30 = .ok (.imul, 1) := by decide +kernel
theorem dX11_undo_31 : decode cX11_undo 31 = .ok (.istore_n 1, 1) := by decide +kernel
theorem dX11_undo_32 : decode cX11_undo 32 = .ok (.aload_n 0, 1) := by decide +kernel
theorem dX11_undo_33 : decode cX11_undo 33 = .ok (.getfield 46, 3) := by decide +kernel
theorem dX11_undo_36 : decode cX11_undo 36 = .ok (.iload_n 1, 1) := by decide +kernel
theorem dX11_undo_37 : decode cX11_undo 37 = .ok (.iconst 1, 1) := by decide +kernel
theorem dX11_undo_38 : decode cX11_undo 38 = .ok (.iadd, 1) := by decide +kernel
theorem dX11_undo_39 : decode cX11_undo 39 = .ok (.iaload, 1) := by decide +kernel
theorem dX11_undo_40 : decode cX11_undo 40 = .ok (.istore_n 2, 1) := by decide +kernel
theorem dX11_undo_41 : decode cX11_undo 41 = .ok (.aload_n 0, 1) := by decide +kernel
theorem dX11_undo_42 : decode cX11_undo 42 = .ok (.getfield 46, 3) := by decide +kernel
theorem dX11_undo_45 : decode cX11_undo 45 = .ok (.iload_n 1, 1) := by decide +kernel
theorem dX11_undo_46 : decode cX11_undo 46 = .ok (.iconst 2, 1) := by decide +kernel
theorem dX11_undo_47 : decode cX11_undo 47 = .ok (.iadd, 1) := by decide +kernel
theorem dX11_undo_48 : decode cX11_undo 48 = .ok (.iaload, 1) := by decide +kernel
theorem dX11_undo_49 : decode cX11_undo 49 = .ok (.istore_n 3, 1) := by decide +kernel
theorem dX11_undo_50 : decode cX11_undo 50 = .ok (.aload_n 0, 1) := by decide +kernel
theorem dX11_undo_51 : decode cX11_undo 51 = .ok (.getfield 46, 3) := by decide +kernel
theorem dX11_undo_54 : decode cX11_undo 54 = .ok (.iload_n 1, 1) := by decide +kernel
theorem dX11_undo_55 : decode cX11_undo 55 = .ok (.iaload, 1) := by decide +kernel
theorem dX11_undo_56 : decode cX11_undo 56 = .ok (.tableswitch 138 0 4 #[36, 54, 64, 77, 87], 36) := by decide +kernel
theorem dX11_undo_92 : decode cX11_undo 92 = .ok (.aload_n 0, 1) := by decide +kernel
theorem dX11_undo_93 : decode cX11_undo 93 = .ok (.dup, 1) := by decide +kernel
theorem dX11_undo_94 : decode cX11_undo 94 = .ok (.getfield 91, 3) := by decide +kernel
theorem dX11_undo_97 : decode cX11_undo 97 = .ok (.iconst 1, 1) := by decide +kernel
theorem dX11_undo_98 : decode cX11_undo 98 = .ok (.isub, 1) := by decide +kernel
theorem dX11_undo_99 : decode cX11_undo 99 = .ok (.putfield 91, 3) := by decide +kernel
theorem dX11_undo_102 : decode cX11_undo 102 = .ok (.aload_n 0, 1) := by decide +kernel
theorem dX11_undo_103 : decode cX11_undo 103 = .ok (.iconst 0, 1) := by decide +kernel
theorem dX11_undo_104 : decode cX11_undo 104 = .ok (.putfield 112, 3) := by decide +kernel
theorem dX11_undo_107 : decode cX11_undo 107 = .ok (.goto 147, 3) := by decide +kernel
theorem dX11_undo_110 : decode cX11_undo 110 = .ok (.aload_n 0, 1) := by decide +kernel
theorem dX11_undo_111 : decode cX11_undo 111 = .ok (.getfield 13, 3) := by decide +kernel
theorem dX11_undo_114 : decode cX11_undo 114 = .ok (.iload_n 2, 1) := by decide +kernel
theorem dX11_undo_115 : decode cX11_undo 115 = .ok (.iload_n 3, 1) := by decide +kernel
theorem dX11_undo_116 : decode cX11_undo 116 = .ok (.iastore, 1) := by decide +kernel
theorem dX11_undo_117 : decode cX11_undo 117 = .ok (.goto 137, 3) := by decide +kernel
theorem dX11_undo_120 : decode cX11_undo 120 = .ok (.aload_n 0, 1) := by decide +kernel
theorem dX11_undo_121 : decode cX11_undo 121 = .ok (.dup, 1) := by decide +kernel
theorem dX11_undo_122 : decode cX11_undo 122 = .ok (.getfield 94, 3) := by decide +kernel
theorem dX11_undo_125 : decode cX11_undo 125 = .ok (.iconst 1, 1) := by decide +kernel
theorem dX11_undo_126 : decode cX11_undo 126 = .ok (.isub, 1) := by decide +kernel
theorem dX11_undo_127 : decode cX11_undo 127 = .ok (.putfield 94, 3) := by decide +kernel
theorem dX11_undo_130 : decode cX11_undo 130 = .ok (.goto 124, 3) := by decide +kernel
theorem dX11_undo_133 : decode cX11_undo 133 = .ok (.aload_n 0, 1) := by decide +kernel
theorem dX11_undo_134 : decode cX11_undo 134 = .ok (.getfield 16, 3) := by decide +kernel
theorem dX11_undo_137 : decode cX11_undo 137 = .ok (.iload_n 2, 1) := by decide +kernel
theorem dX11_undo_138 : decode cX11_undo 138 = .ok (.iload_n 3, 1) := by decide +kernel
theorem dX11_undo_139 : decode cX11_undo 139 = .ok (.iastore, 1) := by decide +kernel
theorem dX11_undo_140 : decode cX11_undo 140 = .ok (.goto 114, 3) := by decide +kernel
theorem dX11_undo_143 : decode cX11_undo 143 = .ok (.aload_n 0, 1) := by decide +kernel
theorem dX11_undo_144 : decode cX11_undo 144 = .ok (.iload_n 3, 1) := by decide +kernel
theorem dX11_undo_145 : decode cX11_undo 145 = .ok (.iconst 1, 1) := by decide +kernel
theorem dX11_undo_146 : decode cX11_undo 146 = .ok (.if_icmp .ne 7, 3) := by decide +kernel
theorem dX11_undo_149 : decode cX11_undo 149 = .ok (.iconst 1, 1) := by decide +kernel
theorem dX11_undo_150 : decode cX11_undo 150 = .ok (.goto 4, 3) := by decide +kernel
theorem dX11_undo_153 : decode cX11_undo 153 = .ok (.iconst 0, 1) := by decide +kernel
theorem dX11_undo_154 : decode cX11_undo 154 = .ok (.putfield 104, 3) := by decide +kernel
theorem dX11_undo_157 : decode cX11_undo 157 = .ok (.iconst 0, 1) := by decide +kernel
theorem dX11_undo_158 : decode cX11_undo 158 = .ok (.istore 4, 2) := by decide +kernel
theorem dX11_undo_160 : decode cX11_undo 160 = .ok (.iload 4, 2) := by decide +kernel
theorem dX11_undo_162 : decode cX11_undo 162 = .ok (.bipush 121, 2) := by decide +kernel
theorem dX11_undo_164 : decode cX11_undo 164 = .ok (.if_icmp .ge 27, 3) := by decide +kernel
theorem dX11_undo_167 : decode cX11_undo 167 = .ok (.aload_n 0, 1) := by decide +kernel
theorem dX11_undo_168 : decode cX11_undo 168 = .ok (.getfield 31, 3) := by decide +kernel
theorem dX11_undo_171 : decode cX11_undo 171 = .ok (.iload 4, 2) := by decide +kernel
theorem dX11_undo_173 : decode cX11_undo 173 = .ok (.aload_n 0, 1) := by decide +kernel
theorem dX11_undo_174 : decode cX11_undo 174 = .ok (.getfield 46, 3) := by decide +kernel
theorem dX11_undo_177 : decode cX11_undo 177 = .ok (.iload_n 1, 1) := by decide +kernel
theorem dX11_undo_178 : decode cX11_undo 178 = .ok (.iconst 3, 1) := by decide +kernel
theorem dX11_undo_179 : decode cX11_undo 179 = .ok (.iadd, 1) := by decide +kernel
theorem dX11_undo_180 : decode cX11_undo 180 = .ok (.iload 4, 2) := by decide +kernel
theorem dX11_undo_182 : decode cX11_undo 182 = .ok (.iadd, 1) := by decide +kernel
theorem dX11_undo_183 : decode cX11_undo 183 = .ok (.iaload, 1) := by decide +kernel
theorem dX11_undo_184 : decode cX11_undo 184 = .ok (.iastore, 1) := by decide +kernel
theorem dX11_undo_185 : decode cX11_undo 185 = .ok (.iinc 4 1, 3) := by decide +kernel
theorem dX11_undo_188 : decode cX11_undo 188 = .ok (.goto (-28), 3) := by decide +kernel
theorem dX11_undo_191 : decode cX11_undo 191 = .ok (.goto 63, 3) := by decide +kernel
theorem dX11_undo_194 : decode cX11_undo 194 = .ok (.aload_n 0, 1) := by decide +kernel
theorem dX11_undo_195 : decode cX11_undo 195 = .ok (.getfield 34, 3) := by decide +kernel
theorem dX11_undo_198 : decode cX11_undo 198 = .ok (.iload_n 2, 1) := by decide +kernel
theorem dX11_undo_199 : decode cX11_undo 199 = .ok (.iload_n 3, 1) := by decide +kernel
theorem dX11_undo_200 : decode cX11_undo 200 = .ok (.iastore, 1) := by decide +kernel
theorem dX11_undo_201 : decode cX11_undo 201 = .ok (.aload_n 0, 1) := by decide +kernel
theorem dX11_undo_202 : decode cX11_undo 202 = .ok (.getfield 37, 3) := by decide +kernel
theorem dX11_undo_205 : decode cX11_undo 205 = .ok (.iload_n 2, 1) := by decide +kernel
theorem dX11_undo_206 : decode cX11_undo 206 = .ok (.aload_n 0, 1) := by decide +kernel
theorem dX11_undo_207 : decode cX11_undo 207 = .ok (.getfield 46, 3) := by decide +kernel
theorem dX11_undo_210 : decode cX11_undo 210 = .ok (.iload_n 1, 1) := by decide +kernel
theorem dX11_undo_211 : decode cX11_undo 211 = .ok (.iconst 3, 1) := by decide +kernel
theorem dX11_undo_212 : decode cX11_undo 212 = .ok (.iadd, 1) := by decide +kernel
theorem dX11_undo_213 : decode cX11_undo 213 = .ok (.iaload, 1) := by decide +kernel
theorem dX11_undo_214 : decode cX11_undo 214 = .ok (.iastore, 1) := by decide +kernel
theorem dX11_undo_215 : decode cX11_undo 215 = .ok (.iconst 0, 1) := by decide +kernel
theorem dX11_undo_216 : decode cX11_undo 216 = .ok (.istore 4, 2) := by decide +kernel
theorem dX11_undo_218 : decode cX11_undo 218 = .ok (.iload 4, 2) := by decide +kernel
theorem dX11_undo_220 : decode cX11_undo 220 = .ok (.bipush 121, 2) := by decide +kernel
theorem dX11_undo_222 : decode cX11_undo 222 = .ok (.if_icmp .ge 32, 3) := by decide +kernel
theorem dX11_undo_225 : decode cX11_undo 225 = .ok (.aload_n 0, 1) := by decide +kernel
theorem dX11_undo_226 : decode cX11_undo 226 = .ok (.getfield 40, 3) := by decide +kernel
theorem dX11_undo_229 : decode cX11_undo 229 = .ok (.bipush 121, 2) := by decide +kernel
theorem dX11_undo_231 : decode cX11_undo 231 = .ok (.iload_n 2, 1) := by decide +kernel
theorem dX11_undo_232 : decode cX11_undo 232 = .ok (.imul, 1) := by decide +kernel
theorem dX11_undo_233 : decode cX11_undo 233 = .ok (.iload 4, 2) := by decide +kernel
theorem dX11_undo_235 : decode cX11_undo 235 = .ok (.iadd, 1) := by decide +kernel
theorem dX11_undo_236 : decode cX11_undo 236 = .ok (.aload_n 0, 1) := by decide +kernel
theorem dX11_undo_237 : decode cX11_undo 237 = .ok (.getfield 46, 3) := by decide +kernel
theorem dX11_undo_240 : decode cX11_undo 240 = .ok (.iload_n 1, 1) := by decide +kernel
theorem dX11_undo_241 : decode cX11_undo 241 = .ok (.iconst 4, 1) := by decide +kernel
theorem dX11_undo_242 : decode cX11_undo 242 = .ok (.iadd, 1) := by decide +kernel
theorem dX11_undo_243 : decode cX11_undo 243 = .ok (.iload 4, 2) := by decide +kernel
theorem dX11_undo_245 : decode cX11_undo 245 = .ok (.iadd, 1) := by decide +kernel
theorem dX11_undo_246 : decode cX11_undo 246 = .ok (.iaload, 1) := by decide +kernel
theorem dX11_undo_247 : decode cX11_undo 247 = .ok (.iastore, 1) := by decide +kernel
theorem dX11_undo_248 : decode cX11_undo 248 = .ok (.iinc 4 1, 3) := by decide +kernel
theorem dX11_undo_251 : decode cX11_undo 251 = .ok (.goto (-33), 3) := by decide +kernel
theorem dX11_undo_254 : decode cX11_undo 254 = .ok (.iconst 1, 1) := by decide +kernel
theorem dX11_undo_255 : decode cX11_undo 255 = .ok (.ireturn, 1) := by decide +kernel
theorem dX11_keeper_0 : decode cX11_keeper 0 = .ok (.aload_n 0, 1) := by decide +kernel
theorem dX11_keeper_1 : decode cX11_keeper 1 = .ok (.iconst 0, 1) := by decide +kernel
theorem dX11_keeper_2 : decode cX11_keeper 2 = .ok (.putfield 84, 3) := by decide +kernel
theorem dX11_keeper_5 : decode cX11_keeper 5 = .ok (.aload_n 0, 1) := by decide +kernel
theorem dX11_keeper_6 : decode cX11_keeper 6 = .ok (.iload_n 1, 1) := by decide +kernel
theorem dX11_keeper_7 : decode cX11_keeper 7 = .ok (.iconst 1, 1) := by decide +kernel
theorem dX11_keeper_8 : decode cX11_keeper 8 = .ok (.bipush 100, 2) := by decide +kernel
theorem dX11_keeper_10 : decode cX11_keeper 10 = .ok (.invokevirtual 97, 3) := by decide +kernel
theorem dX11_keeper_13 : decode cX11_keeper 13 = .ok (.ifCond .eq 14, 3) := by decide +kernel
theorem dX11_keeper_16 : decode cX11_keeper 16 = .ok (.aload_n 0, 1) := by decide +kernel
theorem dX11_keeper_17 : decode cX11_keeper 17 = .ok (.iload_n 2, 1) := by decide +kernel
theorem dX11_keeper_18 : decode cX11_keeper 18 = .ok (.iconst 0, 1) := by decide +kernel
theorem dX11_keeper_19 : decode cX11_keeper 19 = .ok (.bipush 10, 2) := by decide +kernel
theorem dX11_keeper_21 : decode cX11_keeper 21 = .ok (.invokevirtual 97, 3) := by decide +kernel
theorem dX11_keeper_24 : decode cX11_keeper 24 = .ok (.ifCond .ne 9, 3) := by decide +kernel
theorem dX11_keeper_27 : decode cX11_keeper 27 = .ok (.aload_n 0, 1) := by decide +kernel
theorem dX11_keeper_28 : decode cX11_keeper 28 = .ok (.iconst 2, 1) := by decide +kernel
theorem dX11_keeper_29 : decode cX11_keeper 29 = .ok (.invokevirtual 115, 3) := by decide +kernel
theorem dX11_keeper_32 : decode cX11_keeper 32 = .ok (.ireturn, 1) := by decide +kernel
theorem dX11_keeper_33 : decode cX11_keeper 33 = .ok (.aload_n 0, 1) := by decide +kernel
theorem dX11_keeper_34 : decode cX11_keeper 34 = .ok (.getfield 91, 3) := by decide +kernel
theorem dX11_keeper_37 : decode cX11_keeper 37 = .ok (.bipush 16, 2) := by decide +kernel
theorem dX11_keeper_39 : decode cX11_keeper 39 = .ok (.if_icmp .ne 9, 3) := by decide +kernel
theorem dX11_keeper_42 : decode cX11_keeper 42 = .ok (.aload_n 0, 1) := by decide +kernel
theorem dX11_keeper_43 : decode cX11_keeper 43 = .ok (.iconst 4, 1) := by decide +kernel
theorem dX11_keeper_44 : decode cX11_keeper 44 = .ok (.invokevirtual 115, 3) := by decide +kernel
theorem dX11_keeper_47 : decode cX11_keeper 47 = .ok (.ireturn, 1) := by decide +kernel
theorem dX11_keeper_48 : decode cX11_keeper 48 = .ok (.aload_n 0, 1) := by decide +kernel
theorem dX11_keeper_49 : decode cX11_keeper 49 = .ok (.getfield 7, 3) := by decide +kernel
theorem dX11_keeper_52 : decode cX11_keeper 52 = .ok (.aload_n 0, 1) := by decide +kernel
theorem dX11_keeper_53 : decode cX11_keeper 53 = .ok (.getfield 91, 3) := by decide +kernel
theorem dX11_keeper_56 : decode cX11_keeper 56 = .ok (.iload_n 1, 1) := by decide +kernel
theorem dX11_keeper_57 : decode cX11_keeper 57 = .ok (.iastore, 1) := by decide +kernel
theorem dX11_keeper_58 : decode cX11_keeper 58 = .ok (.aload_n 0, 1) := by decide +kernel
theorem dX11_keeper_59 : decode cX11_keeper 59 = .ok (.getfield 13, 3) := by decide +kernel
theorem dX11_keeper_62 : decode cX11_keeper 62 = .ok (.aload_n 0, 1) := by decide +kernel
theorem dX11_keeper_63 : decode cX11_keeper 63 = .ok (.getfield 91, 3) := by decide +kernel
theorem dX11_keeper_66 : decode cX11_keeper 66 = .ok (.iload_n 2, 1) := by decide +kernel
theorem dX11_keeper_67 : decode cX11_keeper 67 = .ok (.iastore, 1) := by decide +kernel
theorem dX11_keeper_68 : decode cX11_keeper 68 = .ok (.aload_n 0, 1) := by decide +kernel
theorem dX11_keeper_69 : decode cX11_keeper 69 = .ok (.getfield 16, 3) := by decide +kernel
theorem dX11_keeper_72 : decode cX11_keeper 72 = .ok (.aload_n 0, 1) := by decide +kernel
theorem dX11_keeper_73 : decode cX11_keeper 73 = .ok (.getfield 91, 3) := by decide +kernel
theorem dX11_keeper_76 : decode cX11_keeper 76 = .ok (.iconst 0, 1) := by decide +kernel
theorem dX11_keeper_77 : decode cX11_keeper 77 = .ok (.iastore, 1) := by decide +kernel
theorem dX11_keeper_78 : decode cX11_keeper 78 = .ok (.aload_n 0, 1) := by decide +kernel
theorem dX11_keeper_79 : decode cX11_keeper 79 = .ok (.dup, 1) := by decide +kernel
theorem dX11_keeper_80 : decode cX11_keeper 80 = .ok (.getfield 91, 3) := by decide +kernel
theorem dX11_keeper_83 : decode cX11_keeper 83 = .ok (.iconst 1, 1) := by decide +kernel
theorem dX11_keeper_84 : decode cX11_keeper 84 = .ok (.iadd, 1) := by decide +kernel
theorem dX11_keeper_85 : decode cX11_keeper 85 = .ok (.putfield 91, 3) := by decide +kernel
theorem dX11_keeper_88 : decode cX11_keeper 88 = .ok (.aload_n 0, 1) := by decide +kernel
theorem dX11_keeper_89 : decode cX11_keeper 89 = .ok (.iconst 0, 1) := by decide +kernel
theorem dX11_keeper_90 : decode cX11_keeper 90 = .ok (.iconst 0, 1) := by decide +kernel
theorem dX11_keeper_91 : decode cX11_keeper 91 = .ok (.iconst 0, 1) := by decide +kernel
theorem dX11_keeper_92 : decode cX11_keeper 92 = .ok (.invokevirtual 108, 3) := by decide +kernel
theorem dX11_keeper_95 : decode cX11_keeper 95 = .ok (.aload_n 0, 1) := by decide +kernel
theorem dX11_keeper_96 : decode cX11_keeper 96 = .ok (.getfield 91, 3) := by decide +kernel
theorem dX11_keeper_99 : decode cX11_keeper 99 = .ok (.iconst 1, 1) := by decide +kernel
theorem dX11_keeper_100 : decode cX11_keeper 100 = .ok (.isub, 1) := by decide +kernel
theorem dX11_keeper_101 : decode cX11_keeper 101 = .ok (.ireturn, 1) := by decide +kernel
theorem dX11_tenths_0 : decode cX11_tenths 0 = .ok (.aload_n 0, 1) := by decide +kernel
theorem dX11_tenths_1 : decode cX11_tenths 1 = .ok (.iconst 0, 1) := by decide +kernel
theorem dX11_tenths_2 : decode cX11_tenths 2 = .ok (.putfield 84, 3) := by decide +kernel
theorem dX11_tenths_5 : decode cX11_tenths 5 = .ok (.aload_n 0, 1) := by decide +kernel
theorem dX11_tenths_6 : decode cX11_tenths 6 = .ok (.iload_n 1, 1) := by decide +kernel
theorem dX11_tenths_7 : decode cX11_tenths 7 = .ok (.iconst 0, 1) := by decide +kernel
theorem dX11_tenths_8 : decode cX11_tenths 8 = .ok (.aload_n 0, 1) := by decide +kernel
theorem dX11_tenths_9 : decode cX11_tenths 9 = .ok (.getfield 91, 3) := by decide +kernel
theorem dX11_tenths_12 : decode cX11_tenths 12 = .ok (.iconst 1, 1) := by decide +kernel
theorem dX11_tenths_13 : decode cX11_tenths 13 = .ok (.isub, 1) := by decide +kernel
theorem dX11_tenths_14 : decode cX11_tenths 14 = .ok (.invokevirtual 97, 3) := by decide +kernel
theorem dX11_tenths_17 : decode cX11_tenths 17 = .ok (.ifCond .ne 9, 3) := by decide +kernel
theorem dX11_tenths_20 : decode cX11_tenths 20 = .ok (.aload_n 0, 1) := by decide +kernel
theorem dX11_tenths_21 : decode cX11_tenths 21 = .ok (.iconst 1, 1) := by decide +kernel
theorem dX11_tenths_22 : decode cX11_tenths 22 = .ok (.invokevirtual 119, 3) := by decide +kernel
theorem dX11_tenths_25 : decode cX11_tenths 25 = .ok (.ireturn, 1) := by decide +kernel
theorem dX11_tenths_26 : decode cX11_tenths 26 = .ok (.aload_n 0, 1) := by decide +kernel
theorem dX11_tenths_27 : decode cX11_tenths 27 = .ok (.iload_n 2, 1) := by decide +kernel
theorem dX11_tenths_28 : decode cX11_tenths 28 = .ok (.iconst 0, 1) := by decide +kernel
theorem dX11_tenths_29 : decode cX11_tenths 29 = .ok (.bipush 10, 2) := by decide +kernel
theorem dX11_tenths_31 : decode cX11_tenths 31 = .ok (.invokevirtual 97, 3) := by decide +kernel
theorem dX11_tenths_34 : decode cX11_tenths 34 = .ok (.ifCond .ne 9, 3) := by decide +kernel
theorem dX11_tenths_37 : decode cX11_tenths 37 = .ok (.aload_n 0, 1) := by decide +kernel
theorem dX11_tenths_38 : decode cX11_tenths 38 = .ok (.iconst 2, 1) := by decide +kernel
theorem dX11_tenths_39 : decode cX11_tenths 39 = .ok (.invokevirtual 119, 3) := by decide +kernel
theorem dX11_tenths_42 : decode cX11_tenths 42 = .ok (.ireturn, 1) := by decide +kernel
theorem dX11_tenths_43 : decode cX11_tenths 43 = .ok (.aload_n 0, 1) := by decide +kernel
theorem dX11_tenths_44 : decode cX11_tenths 44 = .ok (.iconst 1, 1) := by decide +kernel
theorem dX11_tenths_45 : decode cX11_tenths 45 = .ok (.iload_n 1, 1) := by decide +kernel
theorem dX11_tenths_46 : decode cX11_tenths 46 = .ok (.aload_n 0, 1) := by decide +kernel
theorem dX11_tenths_47 : decode cX11_tenths 47 = .ok (.getfield 13, 3) := by decide +kernel
theorem dX11_tenths_50 : decode cX11_tenths 50 = .ok (.iload_n 1, 1) := by decide +kernel
theorem dX11_tenths_51 : decode cX11_tenths 51 = .ok (.iaload, 1) := by decide +kernel
theorem dX11_tenths_52 : decode cX11_tenths 52 = .ok (.invokevirtual 108, 3) := by decide +kernel
theorem dX11_tenths_55 : decode cX11_tenths 55 = .ok (.aload_n 0, 1) := by decide +kernel
theorem dX11_tenths_56 : decode cX11_tenths 56 = .ok (.getfield 13, 3) := by decide +kernel
theorem dX11_tenths_59 : decode cX11_tenths 59 = .ok (.iload_n 1, 1) := by decide +kernel
theorem dX11_tenths_60 : decode cX11_tenths 60 = .ok (.iload_n 2, 1) := by decide +kernel
theorem dX11_tenths_61 : decode cX11_tenths 61 = .ok (.iastore, 1) := by decide +kernel
theorem dX11_tenths_62 : decode cX11_tenths 62 = .ok (.iconst 1, 1) := by decide +kernel
theorem dX11_tenths_63 : decode cX11_tenths 63 = .ok (.ireturn, 1) := by decide +kernel
theorem dX11_keeperOf_0 : decode cX11_keeperOf 0 = .ok (.aload_n 0, 1) := by decide +kernel
theorem dX11_keeperOf_1 : decode cX11_keeperOf 1 = .ok (.iconst 0, 1) := by decide +kernel
theorem dX11_keeperOf_2 : decode cX11_keeperOf 2 = .ok (.putfield 84, 3) := by decide +kernel
theorem dX11_keeperOf_5 : decode cX11_keeperOf 5 = .ok (.aload_n 0, 1) := by decide +kernel
theorem dX11_keeperOf_6 : decode cX11_keeperOf 6 = .ok (.iload_n 1, 1) := by decide +kernel
theorem dX11_keeperOf_7 : decode cX11_keeperOf 7 = .ok (.iconst 0, 1) := by decide +kernel
theorem dX11_keeperOf_8 : decode cX11_keeperOf 8 = .ok (.aload_n 0, 1) := by decide +kernel
theorem dX11_keeperOf_9 : decode cX11_keeperOf 9 = .ok (.getfield 91, 3) := by decide +kernel
theorem dX11_keeperOf_12 : decode cX11_keeperOf 12 = .ok (.iconst 1, 1) := by decide +kernel
theorem dX11_keeperOf_13 : decode cX11_keeperOf 13 = .ok (.isub, 1) := by decide +kernel
theorem dX11_keeperOf_14 : decode cX11_keeperOf 14 = .ok (.invokevirtual 97, 3) := by decide +kernel
theorem dX11_keeperOf_17 : decode cX11_keeperOf 17 = .ok (.ifCond .ne 5, 3) := by decide +kernel
theorem dX11_keeperOf_20 : decode cX11_keeperOf 20 = .ok (.iconst (-1), 1) := by decide +kernel
theorem dX11_keeperOf_21 : decode cX11_keeperOf 21 = .ok (.ireturn, 1) := by decide +kernel
theorem dX11_keeperOf_22 : decode cX11_keeperOf 22 = .ok (.iload_n 2, 1) := by decide +kernel
theorem dX11_keeperOf_23 : decode cX11_keeperOf 23 = .ok (.ifCond .ne 12, 3) := by decide +kernel
theorem dX11_keeperOf_26 : decode cX11_keeperOf 26 = .ok (.aload_n 0, 1) := by decide +kernel
theorem dX11_keeperOf_27 : decode cX11_keeperOf 27 = .ok (.getfield 7, 3) := by decide +kernel
theorem dX11_keeperOf_30 : decode cX11_keeperOf 30 = .ok (.iload_n 1, 1) := by decide +kernel
theorem dX11_keeperOf_31 : decode cX11_keeperOf 31 = .ok (.iaload, 1) := by decide +kernel
theorem dX11_keeperOf_32 : decode cX11_keeperOf 32 = .ok (.goto 32, 3) := by decide +kernel
theorem dX11_keeperOf_35 : decode cX11_keeperOf 35 = .ok (.iload_n 2, 1) := by decide +kernel
theorem dX11_keeperOf_36 : decode cX11_keeperOf 36 = .ok (.iconst 1, 1) := by decide +kernel
theorem dX11_keeperOf_37 : decode cX11_keeperOf 37 = .ok (.if_icmp .ne 12, 3) := by decide +kernel
theorem dX11_keeperOf_40 : decode cX11_keeperOf 40 = .ok (.aload_n 0, 1) := by decide +kernel
theorem dX11_keeperOf_41 : decode cX11_keeperOf 41 = .ok (.getfield 13, 3) := by decide +kernel
theorem dX11_keeperOf_44 : decode cX11_keeperOf 44 = .ok (.iload_n 1, 1) := by decide +kernel
theorem dX11_keeperOf_45 : decode cX11_keeperOf 45 = .ok (.iaload, 1) := by decide +kernel
theorem dX11_keeperOf_46 : decode cX11_keeperOf 46 = .ok (.goto 18, 3) := by decide +kernel
theorem dX11_keeperOf_49 : decode cX11_keeperOf 49 = .ok (.iload_n 2, 1) := by decide +kernel
theorem dX11_keeperOf_50 : decode cX11_keeperOf 50 = .ok (.iconst 2, 1) := by decide +kernel
theorem dX11_keeperOf_51 : decode cX11_keeperOf 51 = .ok (.if_icmp .ne 12, 3) := by decide +kernel
theorem dX11_keeperOf_54 : decode cX11_keeperOf 54 = .ok (.aload_n 0, 1) := by decide +kernel
theorem dX11_keeperOf_55 : decode cX11_keeperOf 55 = .ok (.getfield 16, 3) := by decide +kernel
theorem dX11_keeperOf_58 : decode cX11_keeperOf 58 = .ok (.iload_n 1, 1) := by decide +kernel
theorem dX11_keeperOf_59 : decode cX11_keeperOf 59 = .ok (.iaload, 1) := by decide +kernel
theorem dX11_keeperOf_60 : decode cX11_keeperOf 60 = .ok (.goto 4, 3) := by decide +kernel
theorem dX11_keeperOf_63 : decode cX11_keeperOf 63 = .ok (.iconst (-1), 1) := by decide +kernel
theorem dX11_keeperOf_64 : decode cX11_keeperOf 64 = .ok (.ireturn, 1) := by decide +kernel
theorem dX11_noSets_0 : decode cX11_noSets 0 = .ok (.iconst 0, 1) := by decide +kernel
theorem dX11_noSets_1 : decode cX11_noSets 1 = .ok (.istore_n 1, 1) := by decide +kernel
theorem dX11_noSets_2 : decode cX11_noSets 2 = .ok (.iload_n 1, 1) := by decide +kernel
theorem dX11_noSets_3 : decode cX11_noSets 3 = .ok (.ldc 49, 2) := by decide +kernel
theorem dX11_noSets_5 : decode cX11_noSets 5 = .ok (.if_icmp .ge 16, 3) := by decide +kernel
theorem dX11_noSets_8 : decode cX11_noSets 8 = .ok (.aload_n 0, 1) := by decide +kernel
theorem dX11_noSets_9 : decode cX11_noSets 9 = .ok (.getfield 50, 3) := by decide +kernel
theorem dX11_noSets_12 : decode cX11_noSets 12 = .ok (.iload_n 1, 1) := by decide +kernel
theorem dX11_noSets_13 : decode cX11_noSets 13 = .ok (.iconst 0, 1) := by decide +kernel
theorem dX11_noSets_14 : decode cX11_noSets 14 = .ok (.bastore, 1) := by decide +kernel
theorem dX11_noSets_15 : decode cX11_noSets 15 = .ok (.iinc 1 1, 3) := by decide +kernel
theorem dX11_noSets_18 : decode cX11_noSets 18 = .ok (.goto (-16), 3) := by decide +kernel
theorem dX11_noSets_21 : decode cX11_noSets 21 = .ok (.return_, 1) := by decide +kernel
theorem dX11_isBelow_0 : decode cX11_isBelow 0 = .ok (.iconst 0, 1) := by decide +kernel
theorem dX11_isBelow_1 : decode cX11_isBelow 1 = .ok (.istore_n 2, 1) := by decide +kernel
theorem dX11_isBelow_2 : decode cX11_isBelow 2 = .ok (.iload_n 2, 1) := by decide +kernel
theorem dX11_isBelow_3 : decode cX11_isBelow 3 = .ok (.bipush 16, 2) := by decide +kernel
theorem dX11_isBelow_5 : decode cX11_isBelow 5 = .ok (.if_icmp .ge 33, 3) := by decide +kernel
theorem dX11_isBelow_8 : decode cX11_isBelow 8 = .ok (.iload_n 1, 1) := by decide +kernel
theorem dX11_isBelow_9 : decode cX11_isBelow 9 = .ok (.iload_n 2, 1) := by decide +kernel
theorem dX11_isBelow_10 : decode cX11_isBelow 10 = .ok (.ishr, 1) := by decide +kernel
theorem dX11_isBelow_11 : decode cX11_isBelow 11 = .ok (.iconst 1, 1) := by decide +kernel
theorem dX11_isBelow_12 : decode cX11_isBelow 12 = .ok (.iand, 1) := by decide +kernel
theorem dX11_isBelow_13 : decode cX11_isBelow 13 = .ok (.iconst 1, 1) := by decide +kernel
theorem dX11_isBelow_14 : decode cX11_isBelow 14 = .ok (.if_icmp .ne 18, 3) := by decide +kernel
theorem dX11_isBelow_17 : decode cX11_isBelow 17 = .ok (.aload_n 0, 1) := by decide +kernel
theorem dX11_isBelow_18 : decode cX11_isBelow 18 = .ok (.getfield 54, 3) := by decide +kernel
theorem dX11_isBelow_21 : decode cX11_isBelow 21 = .ok (.iload_n 1, 1) := by decide +kernel
theorem dX11_isBelow_22 : decode cX11_isBelow 22 = .ok (.iconst 1, 1) := by decide +kernel
theorem dX11_isBelow_23 : decode cX11_isBelow 23 = .ok (.iload_n 2, 1) := by decide +kernel
theorem dX11_isBelow_24 : decode cX11_isBelow 24 = .ok (.ishl, 1) := by decide +kernel
theorem dX11_isBelow_25 : decode cX11_isBelow 25 = .ok (.ixor, 1) := by decide +kernel
theorem dX11_isBelow_26 : decode cX11_isBelow 26 = .ok (.baload, 1) := by decide +kernel
theorem dX11_isBelow_27 : decode cX11_isBelow 27 = .ok (.ifCond .eq 5, 3) := by decide +kernel
theorem dX11_isBelow_30 : decode cX11_isBelow 30 = .ok (.iconst 1, 1) := by decide +kernel
theorem dX11_isBelow_31 : decode cX11_isBelow 31 = .ok (.ireturn, 1) := by decide +kernel
theorem dX11_isBelow_32 : decode cX11_isBelow 32 = .ok (.iinc 2 1, 3) := by decide +kernel
theorem dX11_isBelow_35 : decode cX11_isBelow 35 = .ok (.goto (-33), 3) := by decide +kernel
theorem dX11_isBelow_38 : decode cX11_isBelow 38 = .ok (.iconst 0, 1) := by decide +kernel
theorem dX11_isBelow_39 : decode cX11_isBelow 39 = .ok (.ireturn, 1) := by decide +kernel
theorem dX11_least_0 : decode cX11_least 0 = .ok (.aload_n 0, 1) := by decide +kernel
theorem dX11_least_1 : decode cX11_least 1 = .ok (.iconst 0, 1) := by decide +kernel
theorem dX11_least_2 : decode cX11_least 2 = .ok (.putfield 123, 3) := by decide +kernel
theorem dX11_least_5 : decode cX11_least 5 = .ok (.iconst 1, 1) := by decide +kernel
theorem dX11_least_6 : decode cX11_least 6 = .ok (.istore_n 1, 1) := by decide +kernel
theorem dX11_least_7 : decode cX11_least 7 = .ok (.iconst 0, 1) := by decide +kernel
theorem dX11_least_8 : decode cX11_least 8 = .ok (.istore_n 2, 1) := by decide +kernel
theorem dX11_least_9 : decode cX11_least 9 = .ok (.iload_n 2, 1) := by decide +kernel
theorem dX11_least_10 : decode cX11_least 10 = .ok (.ldc 49, 2) := by decide +kernel
theorem dX11_least_12 : decode cX11_least 12 = .ok (.if_icmp .ge 89, 3) := by decide +kernel
theorem dX11_least_15 : decode cX11_least 15 = .ok (.aload_n 0, 1) := by decide +kernel
theorem dX11_least_16 : decode cX11_least 16 = .ok (.iload_n 2, 1) := by decide +kernel
theorem dX11_least_17 : decode cX11_least 17 = .ok (.invokevirtual 126, 3) := by decide +kernel
theorem dX11_least_20 : decode cX11_least 20 = .ok (.istore_n 3, 1) := by decide +kernel
theorem dX11_least_21 : decode cX11_least 21 = .ok (.aload_n 0, 1) := by decide +kernel
theorem dX11_least_22 : decode cX11_least 22 = .ok (.getfield 54, 3) := by decide +kernel
theorem dX11_least_25 : decode cX11_least 25 = .ok (.iload_n 2, 1) := by decide +kernel
theorem dX11_least_26 : decode cX11_least 26 = .ok (.aload_n 0, 1) := by decide +kernel
theorem dX11_least_27 : decode cX11_least 27 = .ok (.getfield 50, 3) := by decide +kernel
theorem dX11_least_30 : decode cX11_least 30 = .ok (.iload_n 2, 1) := by decide +kernel
theorem dX11_least_31 : decode cX11_least 31 = .ok (.baload, 1) := by decide +kernel
theorem dX11_least_32 : decode cX11_least 32 = .ok (.ifCond .ne 7, 3) := by decide +kernel
theorem dX11_least_35 : decode cX11_least 35 = .ok (.iload_n 3, 1) := by decide +kernel
theorem dX11_least_36 : decode cX11_least 36 = .ok (.ifCond .eq 7, 3) := by decide +kernel
theorem dX11_least_39 : decode cX11_least 39 = .ok (.iconst 1, 1) := by decide +kernel
theorem dX11_least_40 : decode cX11_least 40 = .ok (.goto 4, 3) := by decide +kernel
theorem dX11_least_43 : decode cX11_least 43 = .ok (.iconst 0, 1) := by decide +kernel
theorem dX11_least_44 : decode cX11_least 44 = .ok (.bastore, 1) := by decide +kernel
theorem dX11_least_45 : decode cX11_least 45 = .ok (.aload_n 0, 1) := by decide +kernel
theorem dX11_least_46 : decode cX11_least 46 = .ok (.getfield 50, 3) := by decide +kernel
theorem dX11_least_49 : decode cX11_least 49 = .ok (.iload_n 2, 1) := by decide +kernel
theorem dX11_least_50 : decode cX11_least 50 = .ok (.baload, 1) := by decide +kernel
theorem dX11_least_51 : decode cX11_least 51 = .ok (.ifCond .eq 44, 3) := by decide +kernel
theorem dX11_least_54 : decode cX11_least 54 = .ok (.iload_n 3, 1) := by decide +kernel
theorem dX11_least_55 : decode cX11_least 55 = .ok (.ifCond .eq 6, 3) := by decide +kernel
theorem dX11_least_58 : decode cX11_least 58 = .ok (.goto 37, 3) := by decide +kernel
theorem dX11_least_61 : decode cX11_least 61 = .ok (.aload_n 0, 1) := by decide +kernel
theorem dX11_least_62 : decode cX11_least 62 = .ok (.getfield 123, 3) := by decide +kernel
theorem dX11_least_65 : decode cX11_least 65 = .ok (.bipush 120, 2) := by decide +kernel
theorem dX11_least_67 : decode cX11_least 67 = .ok (.if_icmp .ge 16, 3) := by decide +kernel
theorem dX11_least_70 : decode cX11_least 70 = .ok (.aload_n 0, 1) := by decide +kernel
theorem dX11_least_71 : decode cX11_least 71 = .ok (.getfield 57, 3) := by decide +kernel
theorem dX11_least_74 : decode cX11_least 74 = .ok (.aload_n 0, 1) := by decide +kernel
theorem dX11_least_75 : decode cX11_least 75 = .ok (.getfield 123, 3) := by decide +kernel
theorem dX11_least_78 : decode cX11_least 78 = .ok (.iload_n 2, 1) := by decide +kernel
theorem dX11_least_79 : decode cX11_least 79 = .ok (.iastore, 1) := by decide +kernel
theorem dX11_least_80 : decode cX11_least 80 = .ok (.goto 5, 3) := by decide +kernel
theorem dX11_least_83 : decode cX11_least 83 = .ok (.iconst 0, 1) := by decide +kernel
theorem dX11_least_84 : decode cX11_least 84 = .ok (.istore_n 1, 1) := by decide +kernel
theorem dX11_least_85 : decode cX11_least 85 = .ok (.aload_n 0, 1) := by decide +kernel
theorem dX11_least_86 : decode cX11_least 86 = .ok (.dup, 1) := by decide +kernel
theorem dX11_least_87 : decode cX11_least 87 = .ok (.getfield 123, 3) := by decide +kernel
theorem dX11_least_90 : decode cX11_least 90 = .ok (.iconst 1, 1) := by decide +kernel
theorem dX11_least_91 : decode cX11_least 91 = .ok (.iadd, 1) := by decide +kernel
theorem dX11_least_92 : decode cX11_least 92 = .ok (.putfield 123, 3) := by decide +kernel
theorem dX11_least_95 : decode cX11_least 95 = .ok (.iinc 2 1, 3) := by decide +kernel
theorem dX11_least_98 : decode cX11_least 98 = .ok (.goto (-89), 3) := by decide +kernel
theorem dX11_least_101 : decode cX11_least 101 = .ok (.iload_n 1, 1) := by decide +kernel
theorem dX11_least_102 : decode cX11_least 102 = .ok (.ireturn, 1) := by decide +kernel
theorem dX11_made_0 : decode cX11_made 0 = .ok (.aload_n 0, 1) := by decide +kernel
theorem dX11_made_1 : decode cX11_made 1 = .ok (.getfield 94, 3) := by decide +kernel
theorem dX11_made_4 : decode cX11_made 4 = .ok (.bipush 24, 2) := by decide +kernel
theorem dX11_made_6 : decode cX11_made 6 = .ok (.if_icmp .ne 9, 3) := by decide +kernel
theorem dX11_made_9 : decode cX11_made 9 = .ok (.aload_n 0, 1) := by decide +kernel
theorem dX11_made_10 : decode cX11_made 10 = .ok (.iconst 4, 1) := by decide +kernel
theorem dX11_made_11 : decode cX11_made 11 = .ok (.invokevirtual 115, 3) := by decide +kernel
theorem dX11_made_14 : decode cX11_made 14 = .ok (.ireturn, 1) := by decide +kernel
theorem dX11_made_15 : decode cX11_made 15 = .ok (.aload_n 0, 1) := by decide +kernel
theorem dX11_made_16 : decode cX11_made 16 = .ok (.invokevirtual 129, 3) := by decide +kernel
theorem dX11_made_19 : decode cX11_made 19 = .ok (.ifCond .ne 9, 3) := by decide +kernel
theorem dX11_made_22 : decode cX11_made 22 = .ok (.aload_n 0, 1) := by decide +kernel
theorem dX11_made_23 : decode cX11_made 23 = .ok (.iconst 3, 1) := by decide +kernel
theorem dX11_made_24 : decode cX11_made 24 = .ok (.invokevirtual 115, 3) := by decide +kernel
theorem dX11_made_27 : decode cX11_made 27 = .ok (.ireturn, 1) := by decide +kernel
theorem dX11_made_28 : decode cX11_made 28 = .ok (.iconst 0, 1) := by decide +kernel
theorem dX11_made_29 : decode cX11_made 29 = .ok (.istore_n 2, 1) := by decide +kernel
theorem dX11_made_30 : decode cX11_made 30 = .ok (.iload_n 2, 1) := by decide +kernel
theorem dX11_made_31 : decode cX11_made 31 = .ok (.aload_n 0, 1) := by decide +kernel
theorem dX11_made_32 : decode cX11_made 32 = .ok (.getfield 123, 3) := by decide +kernel
theorem dX11_made_35 : decode cX11_made 35 = .ok (.if_icmp .ge 29, 3) := by decide +kernel
theorem dX11_made_38 : decode cX11_made 38 = .ok (.aload_n 0, 1) := by decide +kernel
theorem dX11_made_39 : decode cX11_made 39 = .ok (.getfield 28, 3) := by decide +kernel
theorem dX11_made_42 : decode cX11_made 42 = .ok (.bipush 120, 2) := by decide +kernel
theorem dX11_made_44 : decode cX11_made 44 = .ok (.aload_n 0, 1) := by decide +kernel
theorem dX11_made_45 : decode cX11_made 45 = .ok (.getfield 94, 3) := by decide +kernel
theorem dX11_made_48 : decode cX11_made 48 = .ok (.imul, 1) := by decide +kernel
theorem dX11_made_49 : decode cX11_made 49 = .ok (.iload_n 2, 1) := by decide +kernel
theorem dX11_made_50 : decode cX11_made 50 = .ok (.iadd, 1) := by decide +kernel
theorem dX11_made_51 : decode cX11_made 51 = .ok (.aload_n 0, 1) := by decide +kernel
theorem dX11_made_52 : decode cX11_made 52 = .ok (.getfield 57, 3) := by decide +kernel
theorem dX11_made_55 : decode cX11_made 55 = .ok (.iload_n 2, 1) := by decide +kernel
theorem dX11_made_56 : decode cX11_made 56 = .ok (.iaload, 1) := by decide +kernel
theorem dX11_made_57 : decode cX11_made 57 = .ok (.iastore, 1) := by decide +kernel
theorem dX11_made_58 : decode cX11_made 58 = .ok (.iinc 2 1, 3) := by decide +kernel
theorem dX11_made_61 : decode cX11_made 61 = .ok (.goto (-31), 3) := by decide +kernel
theorem dX11_made_64 : decode cX11_made 64 = .ok (.aload_n 0, 1) := by decide +kernel
theorem dX11_made_65 : decode cX11_made 65 = .ok (.getfield 22, 3) := by decide +kernel
theorem dX11_made_68 : decode cX11_made 68 = .ok (.aload_n 0, 1) := by decide +kernel
theorem dX11_made_69 : decode cX11_made 69 = .ok (.getfield 94, 3) := by decide +kernel
theorem dX11_made_72 : decode cX11_made 72 = .ok (.iload_n 1, 1) := by decide +kernel
theorem dX11_made_73 : decode cX11_made 73 = .ok (.iastore, 1) := by decide +kernel
theorem dX11_made_74 : decode cX11_made 74 = .ok (.aload_n 0, 1) := by decide +kernel
theorem dX11_made_75 : decode cX11_made 75 = .ok (.getfield 25, 3) := by decide +kernel
theorem dX11_made_78 : decode cX11_made 78 = .ok (.aload_n 0, 1) := by decide +kernel
theorem dX11_made_79 : decode cX11_made 79 = .ok (.getfield 94, 3) := by decide +kernel
theorem dX11_made_82 : decode cX11_made 82 = .ok (.aload_n 0, 1) := by decide +kernel
theorem dX11_made_83 : decode cX11_made 83 = .ok (.getfield 123, 3) := by decide +kernel
theorem dX11_made_86 : decode cX11_made 86 = .ok (.iastore, 1) := by decide +kernel
theorem dX11_made_87 : decode cX11_made 87 = .ok (.aload_n 0, 1) := by decide +kernel
theorem dX11_made_88 : decode cX11_made 88 = .ok (.dup, 1) := by decide +kernel
theorem dX11_made_89 : decode cX11_made 89 = .ok (.getfield 94, 3) := by decide +kernel
theorem dX11_made_92 : decode cX11_made 92 = .ok (.iconst 1, 1) := by decide +kernel
theorem dX11_made_93 : decode cX11_made 93 = .ok (.iadd, 1) := by decide +kernel
theorem dX11_made_94 : decode cX11_made 94 = .ok (.putfield 94, 3) := by decide +kernel
theorem dX11_made_97 : decode cX11_made 97 = .ok (.aload_n 0, 1) := by decide +kernel
theorem dX11_made_98 : decode cX11_made 98 = .ok (.iconst 2, 1) := by decide +kernel
theorem dX11_made_99 : decode cX11_made 99 = .ok (.iconst 0, 1) := by decide +kernel
theorem dX11_made_100 : decode cX11_made 100 = .ok (.iconst 0, 1) := by decide +kernel
theorem dX11_made_101 : decode cX11_made 101 = .ok (.invokevirtual 108, 3) := by decide +kernel
theorem dX11_made_104 : decode cX11_made 104 = .ok (.aload_n 0, 1) := by decide +kernel
theorem dX11_made_105 : decode cX11_made 105 = .ok (.getfield 94, 3) := by decide +kernel
theorem dX11_made_108 : decode cX11_made 108 = .ok (.iconst 1, 1) := by decide +kernel
theorem dX11_made_109 : decode cX11_made 109 = .ok (.isub, 1) := by decide +kernel
theorem dX11_made_110 : decode cX11_made 110 = .ok (.ireturn, 1) := by decide +kernel
theorem dX11_comeAll_0 : decode cX11_comeAll 0 = .ok (.aload_n 0, 1) := by decide +kernel
theorem dX11_comeAll_1 : decode cX11_comeAll 1 = .ok (.invokevirtual 133, 3) := by decide +kernel
theorem dX11_comeAll_4 : decode cX11_comeAll 4 = .ok (.iconst 0, 1) := by decide +kernel
theorem dX11_comeAll_5 : decode cX11_comeAll 5 = .ok (.istore_n 2, 1) := by decide +kernel
theorem dX11_comeAll_6 : decode cX11_comeAll 6 = .ok (.iload_n 2, 1) := by decide +kernel
theorem dX11_comeAll_7 : decode cX11_comeAll 7 = .ok (.aload_n 0, 1) := by decide +kernel
theorem dX11_comeAll_8 : decode cX11_comeAll 8 = .ok (.getfield 25, 3) := by decide +kernel
theorem dX11_comeAll_11 : decode cX11_comeAll 11 = .ok (.iload_n 1, 1) := by decide +kernel
theorem dX11_comeAll_12 : decode cX11_comeAll 12 = .ok (.iaload, 1) := by decide +kernel
theorem dX11_comeAll_13 : decode cX11_comeAll 13 = .ok (.if_icmp .ge 21, 3) := by decide +kernel
theorem dX11_comeAll_16 : decode cX11_comeAll 16 = .ok (.aload_n 0, 1) := by decide +kernel
theorem dX11_comeAll_17 : decode cX11_comeAll 17 = .ok (.getfield 50, 3) := by decide +kernel
theorem dX11_comeAll_20 : decode cX11_comeAll 20 = .ok (.aload_n 0, 1) := by decide +kernel
theorem dX11_comeAll_21 : decode cX11_comeAll 21 = .ok (.iload_n 1, 1) := by decide +kernel
theorem dX11_comeAll_22 : decode cX11_comeAll 22 = .ok (.iload_n 2, 1) := by decide +kernel
theorem dX11_comeAll_23 : decode cX11_comeAll 23 = .ok (.invokevirtual 136, 3) := by decide +kernel
theorem dX11_comeAll_26 : decode cX11_comeAll 26 = .ok (.iconst 1, 1) := by decide +kernel
theorem dX11_comeAll_27 : decode cX11_comeAll 27 = .ok (.bastore, 1) := by decide +kernel
theorem dX11_comeAll_28 : decode cX11_comeAll 28 = .ok (.iinc 2 1, 3) := by decide +kernel
theorem dX11_comeAll_31 : decode cX11_comeAll 31 = .ok (.goto (-25), 3) := by decide +kernel
theorem dX11_comeAll_34 : decode cX11_comeAll 34 = .ok (.return_, 1) := by decide +kernel
theorem dX11_list_0 : decode cX11_list 0 = .ok (.aload_n 0, 1) := by decide +kernel
theorem dX11_list_1 : decode cX11_list 1 = .ok (.iconst 0, 1) := by decide +kernel
theorem dX11_list_2 : decode cX11_list 2 = .ok (.putfield 84, 3) := by decide +kernel
theorem dX11_list_5 : decode cX11_list 5 = .ok (.aload_n 0, 1) := by decide +kernel
theorem dX11_list_6 : decode cX11_list 6 = .ok (.iload_n 1, 1) := by decide +kernel
theorem dX11_list_7 : decode cX11_list 7 = .ok (.invokevirtual 140, 3) := by decide +kernel
theorem dX11_list_10 : decode cX11_list 10 = .ok (.ifCond .ne 9, 3) := by decide +kernel
theorem dX11_list_13 : decode cX11_list 13 = .ok (.aload_n 0, 1) := by decide +kernel
theorem dX11_list_14 : decode cX11_list 14 = .ok (.iconst 2, 1) := by decide +kernel
theorem dX11_list_15 : decode cX11_list 15 = .ok (.invokevirtual 115, 3) := by decide +kernel
theorem dX11_list_18 : decode cX11_list 18 = .ok (.ireturn, 1) := by decide +kernel
theorem dX11_list_19 : decode cX11_list 19 = .ok (.aload_n 0, 1) := by decide +kernel
theorem dX11_list_20 : decode cX11_list 20 = .ok (.getfield 112, 3) := by decide +kernel
theorem dX11_list_23 : decode cX11_list 23 = .ok (.bipush 120, 2) := by decide +kernel
theorem dX11_list_25 : decode cX11_list 25 = .ok (.if_icmp .ne 9, 3) := by decide +kernel
theorem dX11_list_28 : decode cX11_list 28 = .ok (.aload_n 0, 1) := by decide +kernel
theorem dX11_list_29 : decode cX11_list 29 = .ok (.iconst 4, 1) := by decide +kernel
theorem dX11_list_30 : decode cX11_list 30 = .ok (.invokevirtual 115, 3) := by decide +kernel
theorem dX11_list_33 : decode cX11_list 33 = .ok (.ireturn, 1) := by decide +kernel
theorem dX11_list_34 : decode cX11_list 34 = .ok (.aload_n 0, 1) := by decide +kernel
theorem dX11_list_35 : decode cX11_list 35 = .ok (.getfield 19, 3) := by decide +kernel
theorem dX11_list_38 : decode cX11_list 38 = .ok (.aload_n 0, 1) := by decide +kernel
theorem dX11_list_39 : decode cX11_list 39 = .ok (.getfield 112, 3) := by decide +kernel
theorem dX11_list_42 : decode cX11_list 42 = .ok (.iload_n 1, 1) := by decide +kernel
theorem dX11_list_43 : decode cX11_list 43 = .ok (.iastore, 1) := by decide +kernel
theorem dX11_list_44 : decode cX11_list 44 = .ok (.aload_n 0, 1) := by decide +kernel
theorem dX11_list_45 : decode cX11_list 45 = .ok (.dup, 1) := by decide +kernel
theorem dX11_list_46 : decode cX11_list 46 = .ok (.getfield 112, 3) := by decide +kernel
theorem dX11_list_49 : decode cX11_list 49 = .ok (.iconst 1, 1) := by decide +kernel
theorem dX11_list_50 : decode cX11_list 50 = .ok (.iadd, 1) := by decide +kernel
theorem dX11_list_51 : decode cX11_list 51 = .ok (.putfield 112, 3) := by decide +kernel
theorem dX11_list_54 : decode cX11_list 54 = .ok (.aload_n 0, 1) := by decide +kernel
theorem dX11_list_55 : decode cX11_list 55 = .ok (.iconst 0, 1) := by decide +kernel
theorem dX11_list_56 : decode cX11_list 56 = .ok (.putfield 88, 3) := by decide +kernel
theorem dX11_list_59 : decode cX11_list 59 = .ok (.aload_n 0, 1) := by decide +kernel
theorem dX11_list_60 : decode cX11_list 60 = .ok (.getfield 112, 3) := by decide +kernel
theorem dX11_list_63 : decode cX11_list 63 = .ok (.ireturn, 1) := by decide +kernel
theorem dX11_told_0 : decode cX11_told 0 = .ok (.aload_n 0, 1) := by decide +kernel
theorem dX11_told_1 : decode cX11_told 1 = .ok (.iconst 0, 1) := by decide +kernel
theorem dX11_told_2 : decode cX11_told 2 = .ok (.putfield 84, 3) := by decide +kernel
theorem dX11_told_5 : decode cX11_told 5 = .ok (.aload_n 0, 1) := by decide +kernel
theorem dX11_told_6 : decode cX11_told 6 = .ok (.getfield 112, 3) := by decide +kernel
theorem dX11_told_9 : decode cX11_told 9 = .ok (.ifCond .ne 9, 3) := by decide +kernel
theorem dX11_told_12 : decode cX11_told 12 = .ok (.aload_n 0, 1) := by decide +kernel
theorem dX11_told_13 : decode cX11_told 13 = .ok (.iconst 5, 1) := by decide +kernel
theorem dX11_told_14 : decode cX11_told 14 = .ok (.invokevirtual 115, 3) := by decide +kernel
theorem dX11_told_17 : decode cX11_told 17 = .ok (.ireturn, 1) := by decide +kernel
theorem dX11_told_18 : decode cX11_told 18 = .ok (.aload_n 0, 1) := by decide +kernel
theorem dX11_told_19 : decode cX11_told 19 = .ok (.invokevirtual 133, 3) := by decide +kernel
theorem dX11_told_22 : decode cX11_told 22 = .ok (.iconst 0, 1) := by decide +kernel
theorem dX11_told_23 : decode cX11_told 23 = .ok (.istore_n 1, 1) := by decide +kernel
theorem dX11_told_24 : decode cX11_told 24 = .ok (.iload_n 1, 1) := by decide +kernel
theorem dX11_told_25 : decode cX11_told 25 = .ok (.aload_n 0, 1) := by decide +kernel
theorem dX11_told_26 : decode cX11_told 26 = .ok (.getfield 112, 3) := by decide +kernel
theorem dX11_told_29 : decode cX11_told 29 = .ok (.if_icmp .ge 21, 3) := by decide +kernel
theorem dX11_told_32 : decode cX11_told 32 = .ok (.aload_n 0, 1) := by decide +kernel
theorem dX11_told_33 : decode cX11_told 33 = .ok (.getfield 50, 3) := by decide +kernel
theorem dX11_told_36 : decode cX11_told 36 = .ok (.aload_n 0, 1) := by decide +kernel
theorem dX11_told_37 : decode cX11_told 37 = .ok (.getfield 19, 3) := by decide +kernel
theorem dX11_told_40 : decode cX11_told 40 = .ok (.iload_n 1, 1) := by decide +kernel
theorem dX11_told_41 : decode cX11_told 41 = .ok (.iaload, 1) := by decide +kernel
theorem dX11_told_42 : decode cX11_told 42 = .ok (.iconst 1, 1) := by decide +kernel
theorem dX11_told_43 : decode cX11_told 43 = .ok (.bastore, 1) := by decide +kernel
theorem dX11_told_44 : decode cX11_told 44 = .ok (.iinc 1 1, 3) := by decide +kernel
theorem dX11_told_47 : decode cX11_told 47 = .ok (.goto (-23), 3) := by decide +kernel
theorem dX11_told_50 : decode cX11_told 50 = .ok (.aload_n 0, 1) := by decide +kernel
theorem dX11_told_51 : decode cX11_told 51 = .ok (.iconst 0, 1) := by decide +kernel
theorem dX11_told_52 : decode cX11_told 52 = .ok (.invokevirtual 143, 3) := by decide +kernel
theorem dX11_told_55 : decode cX11_told 55 = .ok (.istore_n 1, 1) := by decide +kernel
theorem dX11_told_56 : decode cX11_told 56 = .ok (.iload_n 1, 1) := by decide +kernel
theorem dX11_told_57 : decode cX11_told 57 = .ok (.iconst (-1), 1) := by decide +kernel
theorem dX11_told_58 : decode cX11_told 58 = .ok (.if_icmp .eq 8, 3) := by decide +kernel
theorem dX11_told_61 : decode cX11_told 61 = .ok (.aload_n 0, 1) := by decide +kernel
theorem dX11_told_62 : decode cX11_told 62 = .ok (.iconst 0, 1) := by decide +kernel
theorem dX11_told_63 : decode cX11_told 63 = .ok (.putfield 112, 3) := by decide +kernel
theorem dX11_told_66 : decode cX11_told 66 = .ok (.iload_n 1, 1) := by decide +kernel
theorem dX11_told_67 : decode cX11_told 67 = .ok (.ireturn, 1) := by decide +kernel
theorem dX11_strengthOf_0 : decode cX11_strengthOf 0 = .ok (.iconst 0, 1) := by decide +kernel
theorem dX11_strengthOf_1 : decode cX11_strengthOf 1 = .ok (.istore_n 2, 1) := by decide +kernel
theorem dX11_strengthOf_2 : decode cX11_strengthOf 2 = .ok (.iconst 0, 1) := by decide +kernel
theorem dX11_strengthOf_3 : decode cX11_strengthOf 3 = .ok (.istore_n 3, 1) := by decide +kernel
theorem dX11_strengthOf_4 : decode cX11_strengthOf 4 = .ok (.iload_n 3, 1) := by decide +kernel
theorem dX11_strengthOf_5 : decode cX11_strengthOf 5 = .ok (.aload_n 0, 1) := by decide +kernel
theorem dX11_strengthOf_6 : decode cX11_strengthOf 6 = .ok (.getfield 91, 3) := by decide +kernel
theorem dX11_strengthOf_9 : decode cX11_strengthOf 9 = .ok (.if_icmp .ge 31, 3) := by decide +kernel
theorem dX11_strengthOf_12 : decode cX11_strengthOf 12 = .ok (.iload_n 2, 1) := by decide +kernel
theorem dX11_strengthOf_13 : decode cX11_strengthOf 13 = .ok (.iload_n 1, 1) := by decide +kernel
theorem dX11_strengthOf_14 : decode cX11_strengthOf 14 = .ok (.iload_n 3, 1) := by decide +kernel
theorem dX11_strengthOf_15 : decode cX11_strengthOf 15 = .ok (.ishr, 1) := by decide +kernel
theorem dX11_strengthOf_16 : decode cX11_strengthOf 16 = .ok (.iconst 1, 1) := by decide +kernel
theorem dX11_strengthOf_17 : decode cX11_strengthOf 17 = .ok (.iand, 1) := by decide +kernel
theorem dX11_strengthOf_18 : decode cX11_strengthOf 18 = .ok (.iconst 1, 1) := by decide +kernel
theorem dX11_strengthOf_19 : decode cX11_strengthOf 19 = .ok (.if_icmp .ne 12, 3) := by decide +kernel
theorem dX11_strengthOf_22 : decode cX11_strengthOf 22 = .ok (.aload_n 0, 1) := by decide +kernel
theorem dX11_strengthOf_23 : decode cX11_strengthOf 23 = .ok (.getfield 7, 3) := by decide +kernel
theorem dX11_strengthOf_26 : decode cX11_strengthOf 26 = .ok (.iload_n 3, 1) := by decide +kernel
theorem dX11_strengthOf_27 : decode cX11_strengthOf 27 = .ok (.iaload, 1) := by decide +kernel
theorem dX11_strengthOf_28 : decode cX11_strengthOf 28 = .ok (.goto 4, 3) := by decide +kernel
theorem dX11_strengthOf_31 : decode cX11_strengthOf 31 = .ok (.iconst 0, 1) := by decide +kernel
theorem dX11_strengthOf_32 : decode cX11_strengthOf 32 = .ok (.iadd, 1) := by decide +kernel
theorem dX11_strengthOf_33 : decode cX11_strengthOf 33 = .ok (.istore_n 2, 1) := by decide +kernel
theorem dX11_strengthOf_34 : decode cX11_strengthOf 34 = .ok (.iinc 3 1, 3) := by decide +kernel
theorem dX11_strengthOf_37 : decode cX11_strengthOf 37 = .ok (.goto (-33), 3) := by decide +kernel
theorem dX11_strengthOf_40 : decode cX11_strengthOf 40 = .ok (.iload_n 2, 1) := by decide +kernel
theorem dX11_strengthOf_41 : decode cX11_strengthOf 41 = .ok (.ireturn, 1) := by decide +kernel
theorem dX11_most_0 : decode cX11_most 0 = .ok (.aload_n 0, 1) := by decide +kernel
theorem dX11_most_1 : decode cX11_most 1 = .ok (.iconst 0, 1) := by decide +kernel
theorem dX11_most_2 : decode cX11_most 2 = .ok (.putfield 84, 3) := by decide +kernel
theorem dX11_most_5 : decode cX11_most 5 = .ok (.aload_n 0, 1) := by decide +kernel
theorem dX11_most_6 : decode cX11_most 6 = .ok (.iload_n 1, 1) := by decide +kernel
theorem dX11_most_7 : decode cX11_most 7 = .ok (.invokevirtual 140, 3) := by decide +kernel
theorem dX11_most_10 : decode cX11_most 10 = .ok (.ifCond .ne 9, 3) := by decide +kernel
theorem dX11_most_13 : decode cX11_most 13 = .ok (.aload_n 0, 1) := by decide +kernel
theorem dX11_most_14 : decode cX11_most 14 = .ok (.iconst 2, 1) := by decide +kernel
theorem dX11_most_15 : decode cX11_most 15 = .ok (.invokevirtual 115, 3) := by decide +kernel
theorem dX11_most_18 : decode cX11_most 18 = .ok (.ireturn, 1) := by decide +kernel
theorem dX11_most_19 : decode cX11_most 19 = .ok (.aload_n 0, 1) := by decide +kernel
theorem dX11_most_20 : decode cX11_most 20 = .ok (.invokevirtual 133, 3) := by decide +kernel
theorem dX11_most_23 : decode cX11_most 23 = .ok (.aload_n 0, 1) := by decide +kernel
theorem dX11_most_24 : decode cX11_most 24 = .ok (.iload_n 1, 1) := by decide +kernel
theorem dX11_most_25 : decode cX11_most 25 = .ok (.invokevirtual 146, 3) := by decide +kernel
theorem dX11_most_28 : decode cX11_most 28 = .ok (.istore_n 2, 1) := by decide +kernel
theorem dX11_most_29 : decode cX11_most 29 = .ok (.iload_n 1, 1) := by decide +kernel
theorem dX11_most_30 : decode cX11_most 30 = .ok (.istore_n 3, 1) := by decide +kernel
theorem dX11_most_31 : decode cX11_most 31 = .ok (.iload_n 3, 1) := by decide +kernel
theorem dX11_most_32 : decode cX11_most 32 = .ok (.ifCond .le 34, 3) := by decide +kernel
theorem dX11_most_35 : decode cX11_most 35 = .ok (.aload_n 0, 1) := by decide +kernel
theorem dX11_most_36 : decode cX11_most 36 = .ok (.getfield 50, 3) := by decide +kernel
theorem dX11_most_39 : decode cX11_most 39 = .ok (.iload_n 3, 1) := by decide +kernel
theorem dX11_most_40 : decode cX11_most 40 = .ok (.iconst 2, 1) := by decide +kernel
theorem dX11_most_41 : decode cX11_most 41 = .ok (.aload_n 0, 1) := by decide +kernel
theorem dX11_most_42 : decode cX11_most 42 = .ok (.iload_n 3, 1) := by decide +kernel
theorem dX11_most_43 : decode cX11_most 43 = .ok (.invokevirtual 146, 3) := by decide +kernel
theorem dX11_most_46 : decode cX11_most 46 = .ok (.imul, 1) := by decide +kernel
theorem dX11_most_47 : decode cX11_most 47 = .ok (.iload_n 2, 1) := by decide +kernel
theorem dX11_most_48 : decode cX11_most 48 = .ok (.if_icmp .le 7, 3) := by decide +kernel
theorem dX11_most_51 : decode cX11_most 51 = .ok (.iconst 1, 1) := by decide +kernel
theorem dX11_most_52 : decode cX11_most 52 = .ok (.goto 4, 3) := by decide +kernel
theorem dX11_most_55 : decode cX11_most 55 = .ok (.iconst 0, 1) := by decide +kernel
theorem dX11_most_56 : decode cX11_most 56 = .ok (.bastore, 1) := by decide +kernel
theorem dX11_most_57 : decode cX11_most 57 = .ok (.iload_n 3, 1) := by decide +kernel
theorem dX11_most_58 : decode cX11_most 58 = .ok (.iconst 1, 1) := by decide +kernel
theorem dX11_most_59 : decode cX11_most 59 = .ok (.isub, 1) := by decide +kernel
theorem dX11_most_60 : decode cX11_most 60 = .ok (.iload_n 1, 1) := by decide +kernel
theorem dX11_most_61 : decode cX11_most 61 = .ok (.iand, 1) := by decide +kernel
theorem dX11_most_62 : decode cX11_most 62 = .ok (.istore_n 3, 1) := by decide +kernel
theorem dX11_most_63 : decode cX11_most 63 = .ok (.goto (-32), 3) := by decide +kernel
theorem dX11_most_66 : decode cX11_most 66 = .ok (.aload_n 0, 1) := by decide +kernel
theorem dX11_most_67 : decode cX11_most 67 = .ok (.iconst 1, 1) := by decide +kernel
theorem dX11_most_68 : decode cX11_most 68 = .ok (.invokevirtual 143, 3) := by decide +kernel
theorem dX11_most_71 : decode cX11_most 71 = .ok (.ireturn, 1) := by decide +kernel
theorem dX11_comeRows_0 : decode cX11_comeRows 0 = .ok (.aload_n 0, 1) := by decide +kernel
theorem dX11_comeRows_1 : decode cX11_comeRows 1 = .ok (.invokevirtual 133, 3) := by decide +kernel
theorem dX11_comeRows_4 : decode cX11_comeRows 4 = .ok (.iconst 0, 1) := by decide +kernel
theorem dX11_comeRows_5 : decode cX11_comeRows 5 = .ok (.istore_n 1, 1) := by decide +kernel
theorem dX11_comeRows_6 : decode cX11_comeRows 6 = .ok (.iload_n 1, 1) := by decide +kernel
theorem dX11_comeRows_7 : decode cX11_comeRows 7 = .ok (.aload_n 0, 1) := by decide +kernel
theorem dX11_comeRows_8 : decode cX11_comeRows 8 = .ok (.getfield 149, 3) := by decide +kernel
theorem dX11_comeRows_11 : decode cX11_comeRows 11 = .ok (.if_icmp .ge 188, 3) := by decide +kernel
theorem dX11_comeRows_14 : decode cX11_comeRows 14 = .ok (.iconst 1, 1) := by decide +kernel
theorem dX11_comeRows_15 : decode cX11_comeRows 15 = .ok (.aload_n 0, 1) := by decide +kernel
theorem dX11_comeRows_16 : decode cX11_comeRows 16 = .ok (.getfield 63, 3) := by decide +kernel
theorem dX11_comeRows_19 : decode cX11_comeRows 19 = .ok (.iload_n 1, 1) := by decide +kernel
theorem dX11_comeRows_20 : decode cX11_comeRows 20 = .ok (.iaload, 1) := by decide +kernel
theorem dX11_comeRows_21 : decode cX11_comeRows 21 = .ok (.ishl, 1) := by decide +kernel
theorem dX11_comeRows_22 : decode cX11_comeRows 22 = .ok (.iconst 1, 1) := by decide +kernel
theorem dX11_comeRows_23 : decode cX11_comeRows 23 = .ok (.isub, 1) := by decide +kernel
theorem dX11_comeRows_24 : decode cX11_comeRows 24 = .ok (.aload_n 0, 1) := by decide +kernel
theorem dX11_comeRows_25 : decode cX11_comeRows 25 = .ok (.getfield 60, 3) := by decide +kernel
theorem dX11_comeRows_28 : decode cX11_comeRows 28 = .ok (.iload_n 1, 1) := by decide +kernel
theorem dX11_comeRows_29 : decode cX11_comeRows 29 = .ok (.iaload, 1) := by decide +kernel
theorem dX11_comeRows_30 : decode cX11_comeRows 30 = .ok (.ishl, 1) := by decide +kernel
theorem dX11_comeRows_31 : decode cX11_comeRows 31 = .ok (.istore_n 2, 1) := by decide +kernel
theorem dX11_comeRows_32 : decode cX11_comeRows 32 = .ok (.iload_n 1, 1) := by decide +kernel
theorem dX11_comeRows_33 : decode cX11_comeRows 33 = .ok (.iconst 1, 1) := by decide +kernel
theorem dX11_comeRows_34 : decode cX11_comeRows 34 = .ok (.iadd, 1) := by decide +kernel
theorem dX11_comeRows_35 : decode cX11_comeRows 35 = .ok (.istore_n 3, 1) := by decide +kernel
theorem dX11_comeRows_36 : decode cX11_comeRows 36 = .ok (.iload_n 3, 1) := by decide +kernel
theorem dX11_comeRows_37 : decode cX11_comeRows 37 = .ok (.aload_n 0, 1) := by decide +kernel
theorem dX11_comeRows_38 : decode cX11_comeRows 38 = .ok (.getfield 149, 3) := by decide +kernel
theorem dX11_comeRows_41 : decode cX11_comeRows 41 = .ok (.if_icmp .ge 16, 3) := by decide +kernel
theorem dX11_comeRows_44 : decode cX11_comeRows 44 = .ok (.aload_n 0, 1) := by decide +kernel
theorem dX11_comeRows_45 : decode cX11_comeRows 45 = .ok (.getfield 66, 3) := by decide +kernel
theorem dX11_comeRows_48 : decode cX11_comeRows 48 = .ok (.iload_n 3, 1) := by decide +kernel
theorem dX11_comeRows_49 : decode cX11_comeRows 49 = .ok (.iconst 0, 1) := by decide +kernel
theorem dX11_comeRows_50 : decode cX11_comeRows 50 = .ok (.iastore, 1) := by decide +kernel
theorem dX11_comeRows_51 : decode cX11_comeRows 51 = .ok (.iinc 3 1, 3) := by decide +kernel
theorem dX11_comeRows_54 : decode cX11_comeRows 54 = .ok (.goto (-18), 3) := by decide +kernel
theorem dX11_comeRows_57 : decode cX11_comeRows 57 = .ok (.iconst 1, 1) := by decide +kernel
theorem dX11_comeRows_58 : decode cX11_comeRows 58 = .ok (.istore_n 3, 1) := by decide +kernel
theorem dX11_comeRows_59 : decode cX11_comeRows 59 = .ok (.iload_n 3, 1) := by decide +kernel
theorem dX11_comeRows_60 : decode cX11_comeRows 60 = .ok (.ifCond .eq 133, 3) := by decide +kernel
theorem dX11_comeRows_63 : decode cX11_comeRows 63 = .ok (.iload_n 2, 1) := by decide +kernel
theorem dX11_comeRows_64 : decode cX11_comeRows 64 = .ok (.istore 4, 2) := by decide +kernel
theorem dX11_comeRows_66 : decode cX11_comeRows 66 = .ok (.iload_n 1, 1) := by decide +kernel
theorem dX11_comeRows_67 : decode cX11_comeRows 67 = .ok (.iconst 1, 1) := by decide +kernel
theorem dX11_comeRows_68 : decode cX11_comeRows 68 = .ok (.iadd, 1) := by decide +kernel
theorem dX11_comeRows_69 : decode cX11_comeRows 69 = .ok (.istore 5, 2) := by decide +kernel
theorem dX11_comeRows_71 : decode cX11_comeRows 71 = .ok (.iload 5, 2) := by decide +kernel
theorem dX11_comeRows_73 : decode cX11_comeRows 73 = .ok (.aload_n 0, 1) := by decide +kernel
theorem dX11_comeRows_74 : decode cX11_comeRows 74 = .ok (.getfield 149, 3) := by decide +kernel
theorem dX11_comeRows_77 : decode cX11_comeRows 77 = .ok (.if_icmp .ge 31, 3) := by decide +kernel
theorem dX11_comeRows_80 : decode cX11_comeRows 80 = .ok (.iload 4, 2) := by decide +kernel
theorem dX11_comeRows_82 : decode cX11_comeRows 82 = .ok (.iconst 1, 1) := by decide +kernel
theorem dX11_comeRows_83 : decode cX11_comeRows 83 = .ok (.aload_n 0, 1) := by decide +kernel
theorem dX11_comeRows_84 : decode cX11_comeRows 84 = .ok (.getfield 60, 3) := by decide +kernel
theorem dX11_comeRows_87 : decode cX11_comeRows 87 = .ok (.iload 5, 2) := by decide +kernel
theorem dX11_comeRows_89 : decode cX11_comeRows 89 = .ok (.iaload, 1) := by decide +kernel
theorem dX11_comeRows_90 : decode cX11_comeRows 90 = .ok (.aload_n 0, 1) := by decide +kernel
theorem dX11_comeRows_91 : decode cX11_comeRows 91 = .ok (.getfield 66, 3) := by decide +kernel
theorem dX11_comeRows_94 : decode cX11_comeRows 94 = .ok (.iload 5, 2) := by decide +kernel
theorem dX11_comeRows_96 : decode cX11_comeRows 96 = .ok (.iaload, 1) := by decide +kernel
theorem dX11_comeRows_97 : decode cX11_comeRows 97 = .ok (.iadd, 1) := by decide +kernel
theorem dX11_comeRows_98 : decode cX11_comeRows 98 = .ok (.ishl, 1) := by decide +kernel
theorem dX11_comeRows_99 : decode cX11_comeRows 99 = .ok (.ior, 1) := by decide +kernel
theorem dX11_comeRows_100 : decode cX11_comeRows 100 = .ok (.istore 4, 2) := by decide +kernel
theorem dX11_comeRows_102 : decode cX11_comeRows 102 = .ok (.iinc 5 1, 3) := by decide +kernel
theorem dX11_comeRows_105 : decode cX11_comeRows 105 = .ok (.goto (-34), 3) := by decide +kernel
theorem dX11_comeRows_108 : decode cX11_comeRows 108 = .ok (.aload_n 0, 1) := by decide +kernel
theorem dX11_comeRows_109 : decode cX11_comeRows 109 = .ok (.getfield 50, 3) := by decide +kernel
theorem dX11_comeRows_112 : decode cX11_comeRows 112 = .ok (.iload 4, 2) := by decide +kernel
theorem dX11_comeRows_114 : decode cX11_comeRows 114 = .ok (.iconst 1, 1) := by decide +kernel
theorem dX11_comeRows_115 : decode cX11_comeRows 115 = .ok (.bastore, 1) := by decide +kernel
theorem dX11_comeRows_116 : decode cX11_comeRows 116 = .ok (.aload_n 0, 1) := by decide +kernel
theorem dX11_comeRows_117 : decode cX11_comeRows 117 = .ok (.getfield 149, 3) := by decide +kernel
theorem dX11_comeRows_120 : decode cX11_comeRows 120 = .ok (.iconst 1, 1) := by decide +kernel
theorem dX11_comeRows_121 : decode cX11_comeRows 121 = .ok (.isub, 1) := by decide +kernel
theorem dX11_comeRows_122 : decode cX11_comeRows 122 = .ok (.istore 5, 2) := by decide +kernel
theorem dX11_comeRows_124 : decode cX11_comeRows 124 = .ok (.iload 5, 2) := by decide +kernel
theorem dX11_comeRows_126 : decode cX11_comeRows 126 = .ok (.iload_n 1, 1) := by decide +kernel
theorem dX11_comeRows_127 : decode cX11_comeRows 127 = .ok (.if_icmp .le 36, 3) := by decide +kernel
theorem dX11_comeRows_130 : decode cX11_comeRows 130 = .ok (.aload_n 0, 1) := by decide +kernel
theorem dX11_comeRows_131 : decode cX11_comeRows 131 = .ok (.getfield 66, 3) := by decide +kernel
theorem dX11_comeRows_134 : decode cX11_comeRows 134 = .ok (.iload 5, 2) := by decide +kernel
theorem dX11_comeRows_136 : decode cX11_comeRows 136 = .ok (.iaload, 1) := by decide +kernel
theorem dX11_comeRows_137 : decode cX11_comeRows 137 = .ok (.aload_n 0, 1) := by decide +kernel
theorem dX11_comeRows_138 : decode cX11_comeRows 138 = .ok (.getfield 63, 3) := by decide +kernel
theorem dX11_comeRows_141 : decode cX11_comeRows 141 = .ok (.iload 5, 2) := by decide +kernel
theorem dX11_comeRows_143 : decode cX11_comeRows 143 = .ok (.iaload, 1) := by decide +kernel
theorem dX11_comeRows_144 : decode cX11_comeRows 144 = .ok (.iconst 1, 1) := by decide +kernel
theorem dX11_comeRows_145 : decode cX11_comeRows 145 = .ok (.isub, 1) := by decide +kernel
theorem dX11_comeRows_146 : decode cX11_comeRows 146 = .ok (.if_icmp .ne 17, 3) := by decide +kernel
theorem dX11_comeRows_149 : decode cX11_comeRows 149 = .ok (.aload_n 0, 1) := by decide +kernel
theorem dX11_comeRows_150 : decode cX11_comeRows 150 = .ok (.getfield 66, 3) := by decide +kernel
theorem dX11_comeRows_153 : decode cX11_comeRows 153 = .ok (.iload 5, 2) := by decide +kernel
theorem dX11_comeRows_155 : decode cX11_comeRows 155 = .ok (.iconst 0, 1) := by decide +kernel
theorem dX11_comeRows_156 : decode cX11_comeRows 156 = .ok (.iastore, 1) := by decide +kernel
theorem dX11_comeRows_157 : decode cX11_comeRows 157 = .ok (.iinc 5 (-1), 3) := by decide +kernel
theorem dX11_comeRows_160 : decode cX11_comeRows 160 = .ok (.goto (-36), 3) := by decide +kernel
theorem dX11_comeRows_163 : decode cX11_comeRows 163 = .ok (.iload 5, 2) := by decide +kernel
theorem dX11_comeRows_165 : decode cX11_comeRows 165 = .ok (.iload_n 1, 1) := by decide +kernel
theorem dX11_comeRows_166 : decode cX11_comeRows 166 = .ok (.if_icmp .le 7, 3) := by decide +kernel
theorem dX11_comeRows_169 : decode cX11_comeRows 169 = .ok (.iconst 1, 1) := by decide +kernel
theorem dX11_comeRows_170 : decode cX11_comeRows 170 = .ok (.goto 4, 3) := by decide +kernel
theorem dX11_comeRows_173 : decode cX11_comeRows 173 = .ok (.iconst 0, 1) := by decide +kernel
theorem dX11_comeRows_174 : decode cX11_comeRows 174 = .ok (.istore_n 3, 1) := by decide +kernel
theorem dX11_comeRows_175 : decode cX11_comeRows 175 = .ok (.iload_n 3, 1) := by decide +kernel
theorem dX11_comeRows_176 : decode cX11_comeRows 176 = .ok (.ifCond .eq 14, 3) := by decide +kernel
theorem dX11_comeRows_179 : decode cX11_comeRows 179 = .ok (.aload_n 0, 1) := by decide +kernel
theorem dX11_comeRows_180 : decode cX11_comeRows 180 = .ok (.getfield 66, 3) := by decide +kernel
theorem dX11_comeRows_183 : decode cX11_comeRows 183 = .ok (.iload 5, 2) := by decide +kernel
theorem dX11_comeRows_185 : decode cX11_comeRows 185 = .ok (.dup2, 1) := by decide +kernel
theorem dX11_comeRows_186 : decode cX11_comeRows 186 = .ok (.iaload, 1) := by decide +kernel
theorem dX11_comeRows_187 : decode cX11_comeRows 187 = .ok (.iconst 1, 1) := by decide +kernel
theorem dX11_comeRows_188 : decode cX11_comeRows 188 = .ok (.iadd, 1) := by decide +kernel
theorem dX11_comeRows_189 : decode cX11_comeRows 189 = .ok (.iastore, 1) := by decide +kernel
theorem dX11_comeRows_190 : decode cX11_comeRows 190 = .ok (.goto (-131), 3) := by decide +kernel
theorem dX11_comeRows_193 : decode cX11_comeRows 193 = .ok (.iinc 1 1, 3) := by decide +kernel
theorem dX11_comeRows_196 : decode cX11_comeRows 196 = .ok (.goto (-190), 3) := by decide +kernel
theorem dX11_comeRows_199 : decode cX11_comeRows 199 = .ok (.return_, 1) := by decide +kernel
theorem dX11_areKeepers_0 : decode cX11_areKeepers 0 = .ok (.iload_n 1, 1) := by decide +kernel
theorem dX11_areKeepers_1 : decode cX11_areKeepers 1 = .ok (.ifCond .lt 25, 3) := by decide +kernel
theorem dX11_areKeepers_4 : decode cX11_areKeepers 4 = .ok (.iload_n 1, 1) := by decide +kernel
theorem dX11_areKeepers_5 : decode cX11_areKeepers 5 = .ok (.aload_n 0, 1) := by decide +kernel
theorem dX11_areKeepers_6 : decode cX11_areKeepers 6 = .ok (.getfield 91, 3) := by decide +kernel
theorem dX11_areKeepers_9 : decode cX11_areKeepers 9 = .ok (.if_icmp .ge 17, 3) := by decide +kernel
theorem dX11_areKeepers_12 : decode cX11_areKeepers 12 = .ok (.iload_n 2, 1) := by decide +kernel
theorem dX11_areKeepers_13 : decode cX11_areKeepers 13 = .ok (.aload_n 0, 1) := by decide +kernel
theorem dX11_areKeepers_14 : decode cX11_areKeepers 14 = .ok (.getfield 91, 3) := by decide +kernel
theorem dX11_areKeepers_17 : decode cX11_areKeepers 17 = .ok (.iload_n 1, 1) := by decide +kernel
theorem dX11_areKeepers_18 : decode cX11_areKeepers 18 = .ok (.isub, 1) := by decide +kernel
theorem dX11_areKeepers_19 : decode cX11_areKeepers 19 = .ok (.if_icmp .gt 7, 3) := by decide +kernel
theorem dX11_areKeepers_22 : decode cX11_areKeepers 22 = .ok (.iconst 1, 1) := by decide +kernel
theorem dX11_areKeepers_23 : decode cX11_areKeepers 23 = .ok (.goto 4, 3) := by decide +kernel
theorem dX11_areKeepers_26 : decode cX11_areKeepers 26 = .ok (.iconst 0, 1) := by decide +kernel
theorem dX11_areKeepers_27 : decode cX11_areKeepers 27 = .ok (.ireturn, 1) := by decide +kernel
theorem dX11_grid_0 : decode cX11_grid 0 = .ok (.aload_n 0, 1) := by decide +kernel
theorem dX11_grid_1 : decode cX11_grid 1 = .ok (.iconst 0, 1) := by decide +kernel
theorem dX11_grid_2 : decode cX11_grid 2 = .ok (.putfield 84, 3) := by decide +kernel
theorem dX11_grid_5 : decode cX11_grid 5 = .ok (.aload_n 0, 1) := by decide +kernel
theorem dX11_grid_6 : decode cX11_grid 6 = .ok (.iload_n 1, 1) := by decide +kernel
theorem dX11_grid_7 : decode cX11_grid 7 = .ok (.iconst 1, 1) := by decide +kernel
theorem dX11_grid_8 : decode cX11_grid 8 = .ok (.bipush 16, 2) := by decide +kernel
theorem dX11_grid_10 : decode cX11_grid 10 = .ok (.invokevirtual 97, 3) := by decide +kernel
theorem dX11_grid_13 : decode cX11_grid 13 = .ok (.ifCond .eq 14, 3) := by decide +kernel
theorem dX11_grid_16 : decode cX11_grid 16 = .ok (.aload_n 0, 1) := by decide +kernel
theorem dX11_grid_17 : decode cX11_grid 17 = .ok (.iload_n 2, 1) := by decide +kernel
theorem dX11_grid_18 : decode cX11_grid 18 = .ok (.iconst 1, 1) := by decide +kernel
theorem dX11_grid_19 : decode cX11_grid 19 = .ok (.bipush 16, 2) := by decide +kernel
theorem dX11_grid_21 : decode cX11_grid 21 = .ok (.invokevirtual 97, 3) := by decide +kernel
theorem dX11_grid_24 : decode cX11_grid 24 = .ok (.ifCond .ne 9, 3) := by decide +kernel
theorem dX11_grid_27 : decode cX11_grid 27 = .ok (.aload_n 0, 1) := by decide +kernel
theorem dX11_grid_28 : decode cX11_grid 28 = .ok (.iconst 2, 1) := by decide +kernel
theorem dX11_grid_29 : decode cX11_grid 29 = .ok (.invokevirtual 115, 3) := by decide +kernel
theorem dX11_grid_32 : decode cX11_grid 32 = .ok (.ireturn, 1) := by decide +kernel
theorem dX11_grid_33 : decode cX11_grid 33 = .ok (.aload_n 0, 1) := by decide +kernel
theorem dX11_grid_34 : decode cX11_grid 34 = .ok (.iload_n 3, 1) := by decide +kernel
theorem dX11_grid_35 : decode cX11_grid 35 = .ok (.iload_n 1, 1) := by decide +kernel
theorem dX11_grid_36 : decode cX11_grid 36 = .ok (.iload_n 2, 1) := by decide +kernel
theorem dX11_grid_37 : decode cX11_grid 37 = .ok (.imul, 1) := by decide +kernel
theorem dX11_grid_38 : decode cX11_grid 38 = .ok (.invokevirtual 152, 3) := by decide +kernel
theorem dX11_grid_41 : decode cX11_grid 41 = .ok (.ifCond .ne 9, 3) := by decide +kernel
theorem dX11_grid_44 : decode cX11_grid 44 = .ok (.aload_n 0, 1) := by decide +kernel
theorem dX11_grid_45 : decode cX11_grid 45 = .ok (.iconst 1, 1) := by decide +kernel
theorem dX11_grid_46 : decode cX11_grid 46 = .ok (.invokevirtual 115, 3) := by decide +kernel
theorem dX11_grid_49 : decode cX11_grid 49 = .ok (.ireturn, 1) := by decide +kernel
theorem dX11_grid_50 : decode cX11_grid 50 = .ok (.aload_n 0, 1) := by decide +kernel
theorem dX11_grid_51 : decode cX11_grid 51 = .ok (.iload_n 1, 1) := by decide +kernel
theorem dX11_grid_52 : decode cX11_grid 52 = .ok (.putfield 149, 3) := by decide +kernel
theorem dX11_grid_55 : decode cX11_grid 55 = .ok (.iconst 0, 1) := by decide +kernel
theorem dX11_grid_56 : decode cX11_grid 56 = .ok (.istore 4, 2) := by decide +kernel
theorem dX11_grid_58 : decode cX11_grid 58 = .ok (.iload 4, 2) := by decide +kernel
theorem dX11_grid_60 : decode cX11_grid 60 = .ok (.aload_n 0, 1) := by decide +kernel
theorem dX11_grid_61 : decode cX11_grid 61 = .ok (.getfield 149, 3) := by decide +kernel
theorem dX11_grid_64 : decode cX11_grid 64 = .ok (.if_icmp .ge 30, 3) := by decide +kernel
theorem dX11_grid_67 : decode cX11_grid 67 = .ok (.aload_n 0, 1) := by decide +kernel
theorem dX11_grid_68 : decode cX11_grid 68 = .ok (.getfield 60, 3) := by decide +kernel
theorem dX11_grid_71 : decode cX11_grid 71 = .ok (.iload 4, 2) := by decide +kernel
theorem dX11_grid_73 : decode cX11_grid 73 = .ok (.iload_n 3, 1) := by decide +kernel
theorem dX11_grid_74 : decode cX11_grid 74 = .ok (.iload 4, 2) := by decide +kernel
theorem dX11_grid_76 : decode cX11_grid 76 = .ok (.iload_n 2, 1) := by decide +kernel
theorem dX11_grid_77 : decode cX11_grid 77 = .ok (.imul, 1) := by decide +kernel
theorem dX11_grid_78 : decode cX11_grid 78 = .ok (.iadd, 1) := by decide +kernel
theorem dX11_grid_79 : decode cX11_grid 79 = .ok (.iastore, 1) := by decide +kernel
theorem dX11_grid_80 : decode cX11_grid 80 = .ok (.aload_n 0, 1) := by decide +kernel
theorem dX11_grid_81 : decode cX11_grid 81 = .ok (.getfield 63, 3) := by decide +kernel
theorem dX11_grid_84 : decode cX11_grid 84 = .ok (.iload 4, 2) := by decide +kernel
theorem dX11_grid_86 : decode cX11_grid 86 = .ok (.iload_n 2, 1) := by decide +kernel
theorem dX11_grid_87 : decode cX11_grid 87 = .ok (.iastore, 1) := by decide +kernel
theorem dX11_grid_88 : decode cX11_grid 88 = .ok (.iinc 4 1, 3) := by decide +kernel
theorem dX11_grid_91 : decode cX11_grid 91 = .ok (.goto (-33), 3) := by decide +kernel
theorem dX11_grid_94 : decode cX11_grid 94 = .ok (.aload_n 0, 1) := by decide +kernel
theorem dX11_grid_95 : decode cX11_grid 95 = .ok (.invokevirtual 156, 3) := by decide +kernel
theorem dX11_grid_98 : decode cX11_grid 98 = .ok (.aload_n 0, 1) := by decide +kernel
theorem dX11_grid_99 : decode cX11_grid 99 = .ok (.iconst 2, 1) := by decide +kernel
theorem dX11_grid_100 : decode cX11_grid 100 = .ok (.invokevirtual 143, 3) := by decide +kernel
theorem dX11_grid_103 : decode cX11_grid 103 = .ok (.ireturn, 1) := by decide +kernel
theorem dX11_wall_0 : decode cX11_wall 0 = .ok (.aload_n 0, 1) := by decide +kernel
theorem dX11_wall_1 : decode cX11_wall 1 = .ok (.iconst 0, 1) := by decide +kernel
theorem dX11_wall_2 : decode cX11_wall 2 = .ok (.putfield 84, 3) := by decide +kernel
theorem dX11_wall_5 : decode cX11_wall 5 = .ok (.aload_n 0, 1) := by decide +kernel
theorem dX11_wall_6 : decode cX11_wall 6 = .ok (.iconst 0, 1) := by decide +kernel
theorem dX11_wall_7 : decode cX11_wall 7 = .ok (.putfield 149, 3) := by decide +kernel
theorem dX11_wall_10 : decode cX11_wall 10 = .ok (.iconst 0, 1) := by decide +kernel
theorem dX11_wall_11 : decode cX11_wall 11 = .ok (.istore 7, 2) := by decide +kernel
theorem dX11_wall_13 : decode cX11_wall 13 = .ok (.iconst 1, 1) := by decide +kernel
theorem dX11_wall_14 : decode cX11_wall 14 = .ok (.istore 8, 2) := by decide +kernel
theorem dX11_wall_16 : decode cX11_wall 16 = .ok (.iconst 0, 1) := by decide +kernel
theorem dX11_wall_17 : decode cX11_wall 17 = .ok (.istore 9, 2) := by decide +kernel
theorem dX11_wall_19 : decode cX11_wall 19 = .ok (.iload 9, 2) := by decide +kernel
theorem dX11_wall_21 : decode cX11_wall 21 = .ok (.iconst 5, 1) := by decide +kernel
theorem dX11_wall_22 : decode cX11_wall 22 = .ok (.if_icmp .ge 145, 3) := by decide +kernel
theorem dX11_wall_25 : decode cX11_wall 25 = .ok (.iload 9, 2) := by decide +kernel
theorem dX11_wall_27 : decode cX11_wall 27 = .ok (.ifCond .ne 7, 3) := by decide +kernel
theorem dX11_wall_30 : decode cX11_wall 30 = .ok (.iload_n 2, 1) := by decide +kernel
theorem dX11_wall_31 : decode cX11_wall 31 = .ok (.goto 37, 3) := by decide +kernel
theorem dX11_wall_34 : decode cX11_wall 34 = .ok (.iload 9, 2) := by decide +kernel
theorem dX11_wall_36 : decode cX11_wall 36 = .ok (.iconst 1, 1) := by decide +kernel
theorem dX11_wall_37 : decode cX11_wall 37 = .ok (.if_icmp .ne 7, 3) := by decide +kernel
theorem dX11_wall_40 : decode cX11_wall 40 = .ok (.iload_n 3, 1) := by decide +kernel
theorem dX11_wall_41 : decode cX11_wall 41 = .ok (.goto 27, 3) := by decide +kernel
theorem dX11_wall_44 : decode cX11_wall 44 = .ok (.iload 9, 2) := by decide +kernel
theorem dX11_wall_46 : decode cX11_wall 46 = .ok (.iconst 2, 1) := by decide +kernel
theorem dX11_wall_47 : decode cX11_wall 47 = .ok (.if_icmp .ne 8, 3) := by decide +kernel
theorem dX11_wall_50 : decode cX11_wall 50 = .ok (.iload 4, 2) := by decide +kernel
theorem dX11_wall_52 : decode cX11_wall 52 = .ok (.goto 16, 3) := by decide +kernel
theorem dX11_wall_55 : decode cX11_wall 55 = .ok (.iload 9, 2) := by decide +kernel
theorem dX11_wall_57 : decode cX11_wall 57 = .ok (.iconst 3, 1) := by decide +kernel
theorem dX11_wall_58 : decode cX11_wall 58 = .ok (.if_icmp .ne 8, 3) := by decide +kernel
theorem dX11_wall_61 : decode cX11_wall 61 = .ok (.iload 5, 2) := by decide +kernel
theorem dX11_wall_63 : decode cX11_wall 63 = .ok (.goto 5, 3) := by decide +kernel
theorem dX11_wall_66 : decode cX11_wall 66 = .ok (.iload 6, 2) := by decide +kernel
theorem dX11_wall_68 : decode cX11_wall 68 = .ok (.istore 10, 2) := by decide +kernel
theorem dX11_wall_70 : decode cX11_wall 70 = .ok (.aload_n 0, 1) := by decide +kernel
theorem dX11_wall_71 : decode cX11_wall 71 = .ok (.iload 10, 2) := by decide +kernel
theorem dX11_wall_73 : decode cX11_wall 73 = .ok (.iload 9, 2) := by decide +kernel
theorem dX11_wall_75 : decode cX11_wall 75 = .ok (.ifCond .ne 7, 3) := by decide +kernel
theorem dX11_wall_78 : decode cX11_wall 78 = .ok (.iconst 1, 1) := by decide +kernel
theorem dX11_wall_79 : decode cX11_wall 79 = .ok (.goto 4, 3) := by decide +kernel
theorem dX11_wall_82 : decode cX11_wall 82 = .ok (.iconst 0, 1) := by decide +kernel
theorem dX11_wall_83 : decode cX11_wall 83 = .ok (.bipush 16, 2) := by decide +kernel
theorem dX11_wall_85 : decode cX11_wall 85 = .ok (.invokevirtual 97, 3) := by decide +kernel
theorem dX11_wall_88 : decode cX11_wall 88 = .ok (.ifCond .ne 9, 3) := by decide +kernel
theorem dX11_wall_91 : decode cX11_wall 91 = .ok (.aload_n 0, 1) := by decide +kernel
theorem dX11_wall_92 : decode cX11_wall 92 = .ok (.iconst 2, 1) := by decide +kernel
theorem dX11_wall_93 : decode cX11_wall 93 = .ok (.invokevirtual 115, 3) := by decide +kernel
theorem dX11_wall_96 : decode cX11_wall 96 = .ok (.ireturn, 1) := by decide +kernel
theorem dX11_wall_97 : decode cX11_wall 97 = .ok (.iload 8, 2) := by decide +kernel
theorem dX11_wall_99 : decode cX11_wall 99 = .ok (.ifCond .eq 12, 3) := by decide +kernel
theorem dX11_wall_102 : decode cX11_wall 102 = .ok (.iload 10, 2) := by decide +kernel
theorem dX11_wall_104 : decode cX11_wall 104 = .ok (.ifCond .le 7, 3) := by decide +kernel
theorem dX11_wall_107 : decode cX11_wall 107 = .ok (.iconst 1, 1) := by decide +kernel
theorem dX11_wall_108 : decode cX11_wall 108 = .ok (.goto 4, 3) := by decide +kernel
theorem dX11_wall_111 : decode cX11_wall 111 = .ok (.iconst 0, 1) := by decide +kernel
theorem dX11_wall_112 : decode cX11_wall 112 = .ok (.istore 8, 2) := by decide +kernel
theorem dX11_wall_114 : decode cX11_wall 114 = .ok (.iload 8, 2) := by decide +kernel
theorem dX11_wall_116 : decode cX11_wall 116 = .ok (.ifCond .ne 6, 3) := by decide +kernel
theorem dX11_wall_119 : decode cX11_wall 119 = .ok (.goto 42, 3) := by decide +kernel
theorem dX11_wall_122 : decode cX11_wall 122 = .ok (.aload_n 0, 1) := by decide +kernel
theorem dX11_wall_123 : decode cX11_wall 123 = .ok (.getfield 60, 3) := by decide +kernel
theorem dX11_wall_126 : decode cX11_wall 126 = .ok (.aload_n 0, 1) := by decide +kernel
theorem dX11_wall_127 : decode cX11_wall 127 = .ok (.getfield 149, 3) := by decide +kernel
theorem dX11_wall_130 : decode cX11_wall 130 = .ok (.iload 7, 2) := by decide +kernel
theorem dX11_wall_132 : decode cX11_wall 132 = .ok (.iastore, 1) := by decide +kernel
theorem dX11_wall_133 : decode cX11_wall 133 = .ok (.aload_n 0, 1) := by decide +kernel
theorem dX11_wall_134 : decode cX11_wall 134 = .ok (.getfield 63, 3) := by decide +kernel
theorem dX11_wall_137 : decode cX11_wall 137 = .ok (.aload_n 0, 1) := by decide +kernel
theorem dX11_wall_138 : decode cX11_wall 138 = .ok (.getfield 149, 3) := by decide +kernel
theorem dX11_wall_141 : decode cX11_wall 141 = .ok (.iload 10, 2) := by decide +kernel
theorem dX11_wall_143 : decode cX11_wall 143 = .ok (.iastore, 1) := by decide +kernel
theorem dX11_wall_144 : decode cX11_wall 144 = .ok (.aload_n 0, 1) := by decide +kernel
theorem dX11_wall_145 : decode cX11_wall 145 = .ok (.dup, 1) := by decide +kernel
theorem dX11_wall_146 : decode cX11_wall 146 = .ok (.getfield 149, 3) := by decide +kernel
theorem dX11_wall_149 : decode cX11_wall 149 = .ok (.iconst 1, 1) := by decide +kernel
theorem dX11_wall_150 : decode cX11_wall 150 = .ok (.iadd, 1) := by decide +kernel
theorem dX11_wall_151 : decode cX11_wall 151 = .ok (.putfield 149, 3) := by decide +kernel
theorem dX11_wall_154 : decode cX11_wall 154 = .ok (.iload 7, 2) := by decide +kernel
theorem dX11_wall_156 : decode cX11_wall 156 = .ok (.iload 10, 2) := by decide +kernel
theorem dX11_wall_158 : decode cX11_wall 158 = .ok (.iadd, 1) := by decide +kernel
theorem dX11_wall_159 : decode cX11_wall 159 = .ok (.istore 7, 2) := by decide +kernel
theorem dX11_wall_161 : decode cX11_wall 161 = .ok (.iinc 9 1, 3) := by decide +kernel
theorem dX11_wall_164 : decode cX11_wall 164 = .ok (.goto (-145), 3) := by decide +kernel
theorem dX11_wall_167 : decode cX11_wall 167 = .ok (.aload_n 0, 1) := by decide +kernel
theorem dX11_wall_168 : decode cX11_wall 168 = .ok (.iload_n 1, 1) := by decide +kernel
theorem dX11_wall_169 : decode cX11_wall 169 = .ok (.iload 7, 2) := by decide +kernel
theorem dX11_wall_171 : decode cX11_wall 171 = .ok (.invokevirtual 152, 3) := by decide +kernel
theorem dX11_wall_174 : decode cX11_wall 174 = .ok (.ifCond .ne 9, 3) := by decide +kernel
theorem dX11_wall_177 : decode cX11_wall 177 = .ok (.aload_n 0, 1) := by decide +kernel
theorem dX11_wall_178 : decode cX11_wall 178 = .ok (.iconst 1, 1) := by decide +kernel
theorem dX11_wall_179 : decode cX11_wall 179 = .ok (.invokevirtual 115, 3) := by decide +kernel
theorem dX11_wall_182 : decode cX11_wall 182 = .ok (.ireturn, 1) := by decide +kernel
theorem dX11_wall_183 : decode cX11_wall 183 = .ok (.iconst 0, 1) := by decide +kernel
theorem dX11_wall_184 : decode cX11_wall 184 = .ok (.istore 9, 2) := by decide +kernel
theorem dX11_wall_186 : decode cX11_wall 186 = .ok (.iload 9, 2) := by decide +kernel
theorem dX11_wall_188 : decode cX11_wall 188 = .ok (.aload_n 0, 1) := by decide +kernel
theorem dX11_wall_189 : decode cX11_wall 189 = .ok (.getfield 149, 3) := by decide +kernel
theorem dX11_wall_192 : decode cX11_wall 192 = .ok (.if_icmp .ge 20, 3) := by decide +kernel
theorem dX11_wall_195 : decode cX11_wall 195 = .ok (.aload_n 0, 1) := by decide +kernel
theorem dX11_wall_196 : decode cX11_wall 196 = .ok (.getfield 60, 3) := by decide +kernel
theorem dX11_wall_199 : decode cX11_wall 199 = .ok (.iload 9, 2) := by decide +kernel
theorem dX11_wall_201 : decode cX11_wall 201 = .ok (.dup2, 1) := by decide +kernel
theorem dX11_wall_202 : decode cX11_wall 202 = .ok (.iaload, 1) := by decide +kernel
theorem dX11_wall_203 : decode cX11_wall 203 = .ok (.iload_n 1, 1) := by decide +kernel
theorem dX11_wall_204 : decode cX11_wall 204 = .ok (.iadd, 1) := by decide +kernel
theorem dX11_wall_205 : decode cX11_wall 205 = .ok (.iastore, 1) := by decide +kernel
theorem dX11_wall_206 : decode cX11_wall 206 = .ok (.iinc 9 1, 3) := by decide +kernel
theorem dX11_wall_209 : decode cX11_wall 209 = .ok (.goto (-23), 3) := by decide +kernel
theorem dX11_wall_212 : decode cX11_wall 212 = .ok (.aload_n 0, 1) := by decide +kernel
theorem dX11_wall_213 : decode cX11_wall 213 = .ok (.invokevirtual 156, 3) := by decide +kernel
theorem dX11_wall_216 : decode cX11_wall 216 = .ok (.aload_n 0, 1) := by decide +kernel
theorem dX11_wall_217 : decode cX11_wall 217 = .ok (.iconst 3, 1) := by decide +kernel
theorem dX11_wall_218 : decode cX11_wall 218 = .ok (.invokevirtual 143, 3) := by decide +kernel
theorem dX11_wall_221 : decode cX11_wall 221 = .ok (.ireturn, 1) := by decide +kernel
theorem dX11_enoughs_0 : decode cX11_enoughs 0 = .ok (.aload_n 0, 1) := by decide +kernel
theorem dX11_enoughs_1 : decode cX11_enoughs 1 = .ok (.getfield 69, 3) := by decide +kernel
theorem dX11_enoughs_4 : decode cX11_enoughs 4 = .ok (.sipush 256, 3) := by decide +kernel
theorem dX11_enoughs_7 : decode cX11_enoughs 7 = .ok (.iload_n 1, 1) := by decide +kernel
theorem dX11_enoughs_8 : decode cX11_enoughs 8 = .ok (.imul, 1) := by decide +kernel
theorem dX11_enoughs_9 : decode cX11_enoughs 9 = .ok (.aload_n 0, 1) := by decide +kernel
theorem dX11_enoughs_10 : decode cX11_enoughs 10 = .ok (.getfield 72, 3) := by decide +kernel
theorem dX11_enoughs_13 : decode cX11_enoughs 13 = .ok (.iload_n 1, 1) := by decide +kernel
theorem dX11_enoughs_14 : decode cX11_enoughs 14 = .ok (.iaload, 1) := by decide +kernel
theorem dX11_enoughs_15 : decode cX11_enoughs 15 = .ok (.iadd, 1) := by decide +kernel
theorem dX11_enoughs_16 : decode cX11_enoughs 16 = .ok (.iload_n 2, 1) := by decide +kernel
theorem dX11_enoughs_17 : decode cX11_enoughs 17 = .ok (.iastore, 1) := by decide +kernel
theorem dX11_enoughs_18 : decode cX11_enoughs 18 = .ok (.aload_n 0, 1) := by decide +kernel
theorem dX11_enoughs_19 : decode cX11_enoughs 19 = .ok (.getfield 72, 3) := by decide +kernel
theorem dX11_enoughs_22 : decode cX11_enoughs 22 = .ok (.iload_n 1, 1) := by decide +kernel
theorem dX11_enoughs_23 : decode cX11_enoughs 23 = .ok (.dup2, 1) := by decide +kernel
theorem dX11_enoughs_24 : decode cX11_enoughs 24 = .ok (.iaload, 1) := by decide +kernel
theorem dX11_enoughs_25 : decode cX11_enoughs 25 = .ok (.iconst 1, 1) := by decide +kernel
theorem dX11_enoughs_26 : decode cX11_enoughs 26 = .ok (.iadd, 1) := by decide +kernel
theorem dX11_enoughs_27 : decode cX11_enoughs 27 = .ok (.iastore, 1) := by decide +kernel
theorem dX11_enoughs_28 : decode cX11_enoughs 28 = .ok (.return_, 1) := by decide +kernel
theorem dX11_tree_0 : decode cX11_tree 0 = .ok (.aload_n 0, 1) := by decide +kernel
theorem dX11_tree_1 : decode cX11_tree 1 = .ok (.iconst 0, 1) := by decide +kernel
theorem dX11_tree_2 : decode cX11_tree 2 = .ok (.putfield 84, 3) := by decide +kernel
theorem dX11_tree_5 : decode cX11_tree 5 = .ok (.aload_n 0, 1) := by decide +kernel
theorem dX11_tree_6 : decode cX11_tree 6 = .ok (.iload_n 1, 1) := by decide +kernel
theorem dX11_tree_7 : decode cX11_tree 7 = .ok (.iconst 1, 1) := by decide +kernel
theorem dX11_tree_8 : decode cX11_tree 8 = .ok (.iconst 4, 1) := by decide +kernel
theorem dX11_tree_9 : decode cX11_tree 9 = .ok (.invokevirtual 97, 3) := by decide +kernel
theorem dX11_tree_12 : decode cX11_tree 12 = .ok (.ifCond .ne 9, 3) := by decide +kernel
theorem dX11_tree_15 : decode cX11_tree 15 = .ok (.aload_n 0, 1) := by decide +kernel
theorem dX11_tree_16 : decode cX11_tree 16 = .ok (.iconst 2, 1) := by decide +kernel
theorem dX11_tree_17 : decode cX11_tree 17 = .ok (.invokevirtual 115, 3) := by decide +kernel
theorem dX11_tree_20 : decode cX11_tree 20 = .ok (.ireturn, 1) := by decide +kernel
theorem dX11_tree_21 : decode cX11_tree 21 = .ok (.iconst 1, 1) := by decide +kernel
theorem dX11_tree_22 : decode cX11_tree 22 = .ok (.iload_n 1, 1) := by decide +kernel
theorem dX11_tree_23 : decode cX11_tree 23 = .ok (.ishl, 1) := by decide +kernel
theorem dX11_tree_24 : decode cX11_tree 24 = .ok (.iconst 1, 1) := by decide +kernel
theorem dX11_tree_25 : decode cX11_tree 25 = .ok (.isub, 1) := by decide +kernel
theorem dX11_tree_26 : decode cX11_tree 26 = .ok (.istore_n 3, 1) := by decide +kernel
theorem dX11_tree_27 : decode cX11_tree 27 = .ok (.aload_n 0, 1) := by decide +kernel
theorem dX11_tree_28 : decode cX11_tree 28 = .ok (.iload_n 2, 1) := by decide +kernel
theorem dX11_tree_29 : decode cX11_tree 29 = .ok (.iload_n 3, 1) := by decide +kernel
theorem dX11_tree_30 : decode cX11_tree 30 = .ok (.invokevirtual 152, 3) := by decide +kernel
theorem dX11_tree_33 : decode cX11_tree 33 = .ok (.ifCond .ne 9, 3) := by decide +kernel
theorem dX11_tree_36 : decode cX11_tree 36 = .ok (.aload_n 0, 1) := by decide +kernel
theorem dX11_tree_37 : decode cX11_tree 37 = .ok (.iconst 1, 1) := by decide +kernel
theorem dX11_tree_38 : decode cX11_tree 38 = .ok (.invokevirtual 115, 3) := by decide +kernel
theorem dX11_tree_41 : decode cX11_tree 41 = .ok (.ireturn, 1) := by decide +kernel
theorem dX11_tree_42 : decode cX11_tree 42 = .ok (.iload_n 3, 1) := by decide +kernel
theorem dX11_tree_43 : decode cX11_tree 43 = .ok (.istore 4, 2) := by decide +kernel
theorem dX11_tree_45 : decode cX11_tree 45 = .ok (.iload 4, 2) := by decide +kernel
theorem dX11_tree_47 : decode cX11_tree 47 = .ok (.ifCond .le 223, 3) := by decide +kernel
theorem dX11_tree_50 : decode cX11_tree 50 = .ok (.iconst 1, 1) := by decide +kernel
theorem dX11_tree_51 : decode cX11_tree 51 = .ok (.iload_n 2, 1) := by decide +kernel
theorem dX11_tree_52 : decode cX11_tree 52 = .ok (.iload 4, 2) := by decide +kernel
theorem dX11_tree_54 : decode cX11_tree 54 = .ok (.iadd, 1) := by decide +kernel
theorem dX11_tree_55 : decode cX11_tree 55 = .ok (.iconst 1, 1) := by decide +kernel
theorem dX11_tree_56 : decode cX11_tree 56 = .ok (.isub, 1) := by decide +kernel
theorem dX11_tree_57 : decode cX11_tree 57 = .ok (.ishl, 1) := by decide +kernel
theorem dX11_tree_58 : decode cX11_tree 58 = .ok (.istore 5, 2) := by decide +kernel
theorem dX11_tree_60 : decode cX11_tree 60 = .ok (.aload_n 0, 1) := by decide +kernel
theorem dX11_tree_61 : decode cX11_tree 61 = .ok (.getfield 72, 3) := by decide +kernel
theorem dX11_tree_64 : decode cX11_tree 64 = .ok (.iload 4, 2) := by decide +kernel
theorem dX11_tree_66 : decode cX11_tree 66 = .ok (.iconst 0, 1) := by decide +kernel
theorem dX11_tree_67 : decode cX11_tree 67 = .ok (.iastore, 1) := by decide +kernel
end
section
theorem dX11_tree_68 : decode cX11_tree 68 = .ok (.iconst 2, 1) := by decide +kernel
theorem dX11_tree_69 : decode cX11_tree 69 = .ok (.iload 4, 2) := by decide +kernel
theorem dX11_tree_71 : decode cX11_tree 71 = .ok (.imul, 1) := by decide +kernel
theorem dX11_tree_72 : decode cX11_tree 72 = .ok (.iload_n 3, 1) := by decide +kernel
theorem dX11_tree_73 : decode cX11_tree 73 = .ok (.if_icmp .le 14, 3) := by decide +kernel
theorem dX11_tree_76 : decode cX11_tree 76 = .ok (.aload_n 0, 1) := by decide +kernel
theorem dX11_tree_77 : decode cX11_tree 77 = .ok (.iload 4, 2) := by decide +kernel
theorem dX11_tree_79 : decode cX11_tree 79 = .ok (.iload 5, 2) := by decide +kernel
theorem dX11_tree_81 : decode cX11_tree 81 = .ok (.invokevirtual 159, 3) := by decide +kernel
theorem dX11_tree_84 : decode cX11_tree 84 = .ok (.goto 180, 3) := by decide +kernel
theorem dX11_tree_87 : decode cX11_tree 87 = .ok (.iconst 2, 1) := by decide +kernel
theorem dX11_tree_88 : decode cX11_tree 88 = .ok (.iload 4, 2) := by decide +kernel
theorem dX11_tree_90 : decode cX11_tree 90 = .ok (.imul, 1) := by decide +kernel
theorem dX11_tree_91 : decode cX11_tree 91 = .ok (.istore 6, 2) := by decide +kernel
theorem dX11_tree_93 : decode cX11_tree 93 = .ok (.iload 6, 2) := by decide +kernel
theorem dX11_tree_95 : decode cX11_tree 95 = .ok (.iconst 1, 1) := by decide +kernel
theorem dX11_tree_96 : decode cX11_tree 96 = .ok (.iadd, 1) := by decide +kernel
theorem dX11_tree_97 : decode cX11_tree 97 = .ok (.istore 7, 2) := by decide +kernel
theorem dX11_tree_99 : decode cX11_tree 99 = .ok (.iconst 0, 1) := by decide +kernel
theorem dX11_tree_100 : decode cX11_tree 100 = .ok (.istore 8, 2) := by decide +kernel
theorem dX11_tree_102 : decode cX11_tree 102 = .ok (.iload 8, 2) := by decide +kernel
theorem dX11_tree_104 : decode cX11_tree 104 = .ok (.aload_n 0, 1) := by decide +kernel
theorem dX11_tree_105 : decode cX11_tree 105 = .ok (.getfield 72, 3) := by decide +kernel
theorem dX11_tree_108 : decode cX11_tree 108 = .ok (.iload 6, 2) := by decide +kernel
theorem dX11_tree_110 : decode cX11_tree 110 = .ok (.iaload, 1) := by decide +kernel
theorem dX11_tree_111 : decode cX11_tree 111 = .ok (.if_icmp .ge 32, 3) := by decide +kernel
theorem dX11_tree_114 : decode cX11_tree 114 = .ok (.aload_n 0, 1) := by decide +kernel
theorem dX11_tree_115 : decode cX11_tree 115 = .ok (.iload 4, 2) := by decide +kernel
theorem dX11_tree_117 : decode cX11_tree 117 = .ok (.iload 5, 2) := by decide +kernel
theorem dX11_tree_119 : decode cX11_tree 119 = .ok (.aload_n 0, 1) := by decide +kernel
theorem dX11_tree_120 : decode cX11_tree 120 = .ok (.getfield 69, 3) := by decide +kernel
theorem dX11_tree_123 : decode cX11_tree 123 = .ok (.sipush 256, 3) := by decide +kernel
theorem dX11_tree_126 : decode cX11_tree 126 = .ok (.iload 6, 2) := by decide +kernel
theorem dX11_tree_128 : decode cX11_tree 128 = .ok (.imul, 1) := by decide +kernel
theorem dX11_tree_129 : decode cX11_tree 129 = .ok (.iload 8, 2) := by decide +kernel
theorem dX11_tree_131 : decode cX11_tree 131 = .ok (.iadd, 1) := by decide +kernel
theorem dX11_tree_132 : decode cX11_tree 132 = .ok (.iaload, 1) := by decide +kernel
theorem dX11_tree_133 : decode cX11_tree 133 = .ok (.ior, 1) := by decide +kernel
theorem dX11_tree_134 : decode cX11_tree 134 = .ok (.invokevirtual 159, 3) := by decide +kernel
theorem dX11_tree_137 : decode cX11_tree 137 = .ok (.iinc 8 1, 3) := by decide +kernel
theorem dX11_tree_140 : decode cX11_tree 140 = .ok (.goto (-38), 3) := by decide +kernel
theorem dX11_tree_143 : decode cX11_tree 143 = .ok (.iconst 0, 1) := by decide +kernel
theorem dX11_tree_144 : decode cX11_tree 144 = .ok (.istore 8, 2) := by decide +kernel
theorem dX11_tree_146 : decode cX11_tree 146 = .ok (.iload 8, 2) := by decide +kernel
theorem dX11_tree_148 : decode cX11_tree 148 = .ok (.aload_n 0, 1) := by decide +kernel
theorem dX11_tree_149 : decode cX11_tree 149 = .ok (.getfield 72, 3) := by decide +kernel
theorem dX11_tree_152 : decode cX11_tree 152 = .ok (.iload 7, 2) := by decide +kernel
theorem dX11_tree_154 : decode cX11_tree 154 = .ok (.iaload, 1) := by decide +kernel
theorem dX11_tree_155 : decode cX11_tree 155 = .ok (.if_icmp .ge 32, 3) := by decide +kernel
theorem dX11_tree_158 : decode cX11_tree 158 = .ok (.aload_n 0, 1) := by decide +kernel
theorem dX11_tree_159 : decode cX11_tree 159 = .ok (.iload 4, 2) := by decide +kernel
theorem dX11_tree_161 : decode cX11_tree 161 = .ok (.iload 5, 2) := by decide +kernel
theorem dX11_tree_163 : decode cX11_tree 163 = .ok (.aload_n 0, 1) := by decide +kernel
theorem dX11_tree_164 : decode cX11_tree 164 = .ok (.getfield 69, 3) := by decide +kernel
theorem dX11_tree_167 : decode cX11_tree 167 = .ok (.sipush 256, 3) := by decide +kernel
theorem dX11_tree_170 : decode cX11_tree 170 = .ok (.iload 7, 2) := by decide +kernel
theorem dX11_tree_172 : decode cX11_tree 172 = .ok (.imul, 1) := by decide +kernel
theorem dX11_tree_173 : decode cX11_tree 173 = .ok (.iload 8, 2) := by decide +kernel
theorem dX11_tree_175 : decode cX11_tree 175 = .ok (.iadd, 1) := by decide +kernel
theorem dX11_tree_176 : decode cX11_tree 176 = .ok (.iaload, 1) := by decide +kernel
theorem dX11_tree_177 : decode cX11_tree 177 = .ok (.ior, 1) := by decide +kernel
theorem dX11_tree_178 : decode cX11_tree 178 = .ok (.invokevirtual 159, 3) := by decide +kernel
theorem dX11_tree_181 : decode cX11_tree 181 = .ok (.iinc 8 1, 3) := by decide +kernel
theorem dX11_tree_184 : decode cX11_tree 184 = .ok (.goto (-38), 3) := by decide +kernel
theorem dX11_tree_187 : decode cX11_tree 187 = .ok (.iconst 0, 1) := by decide +kernel
theorem dX11_tree_188 : decode cX11_tree 188 = .ok (.istore 8, 2) := by decide +kernel
theorem dX11_tree_190 : decode cX11_tree 190 = .ok (.iload 8, 2) := by decide +kernel
theorem dX11_tree_192 : decode cX11_tree 192 = .ok (.aload_n 0, 1) := by decide +kernel
theorem dX11_tree_193 : decode cX11_tree 193 = .ok (.getfield 72, 3) := by decide +kernel
theorem dX11_tree_196 : decode cX11_tree 196 = .ok (.iload 6, 2) := by decide +kernel
theorem dX11_tree_198 : decode cX11_tree 198 = .ok (.iaload, 1) := by decide +kernel
theorem dX11_tree_199 : decode cX11_tree 199 = .ok (.if_icmp .ge 65, 3) := by decide +kernel
theorem dX11_tree_202 : decode cX11_tree 202 = .ok (.iconst 0, 1) := by decide +kernel
theorem dX11_tree_203 : decode cX11_tree 203 = .ok (.istore 9, 2) := by decide +kernel
theorem dX11_tree_205 : decode cX11_tree 205 = .ok (.iload 9, 2) := by decide +kernel
theorem dX11_tree_207 : decode cX11_tree 207 = .ok (.aload_n 0, 1) := by decide +kernel
theorem dX11_tree_208 : decode cX11_tree 208 = .ok (.getfield 72, 3) := by decide +kernel
theorem dX11_tree_211 : decode cX11_tree 211 = .ok (.iload 7, 2) := by decide +kernel
theorem dX11_tree_213 : decode cX11_tree 213 = .ok (.iaload, 1) := by decide +kernel
theorem dX11_tree_214 : decode cX11_tree 214 = .ok (.if_icmp .ge 44, 3) := by decide +kernel
theorem dX11_tree_217 : decode cX11_tree 217 = .ok (.aload_n 0, 1) := by decide +kernel
theorem dX11_tree_218 : decode cX11_tree 218 = .ok (.iload 4, 2) := by decide +kernel
theorem dX11_tree_220 : decode cX11_tree 220 = .ok (.aload_n 0, 1) := by decide +kernel
theorem dX11_tree_221 : decode cX11_tree 221 = .ok (.getfield 69, 3) := by decide +kernel
theorem dX11_tree_224 : decode cX11_tree 224 = .ok (.sipush 256, 3) := by decide +kernel
theorem dX11_tree_227 : decode cX11_tree 227 = .ok (.iload 6, 2) := by decide +kernel
theorem dX11_tree_229 : decode cX11_tree 229 = .ok (.imul, 1) := by decide +kernel
theorem dX11_tree_230 : decode cX11_tree 230 = .ok (.iload 8, 2) := by decide +kernel
theorem dX11_tree_232 : decode cX11_tree 232 = .ok (.iadd, 1) := by decide +kernel
theorem dX11_tree_233 : decode cX11_tree 233 = .ok (.iaload, 1) := by decide +kernel
theorem dX11_tree_234 : decode cX11_tree 234 = .ok (.aload_n 0, 1) := by decide +kernel
theorem dX11_tree_235 : decode cX11_tree 235 = .ok (.getfield 69, 3) := by decide +kernel
theorem dX11_tree_238 : decode cX11_tree 238 = .ok (.sipush 256, 3) := by decide +kernel
theorem dX11_tree_241 : decode cX11_tree 241 = .ok (.iload 7, 2) := by decide +kernel
theorem dX11_tree_243 : decode cX11_tree 243 = .ok (.imul, 1) := by decide +kernel
theorem dX11_tree_244 : decode cX11_tree 244 = .ok (.iload 9, 2) := by decide +kernel
theorem dX11_tree_246 : decode cX11_tree 246 = .ok (.iadd, 1) := by decide +kernel
theorem dX11_tree_247 : decode cX11_tree 247 = .ok (.iaload, 1) := by decide +kernel
theorem dX11_tree_248 : decode cX11_tree 248 = .ok (.ior, 1) := by decide +kernel
theorem dX11_tree_249 : decode cX11_tree 249 = .ok (.invokevirtual 159, 3) := by decide +kernel
theorem dX11_tree_252 : decode cX11_tree 252 = .ok (.iinc 9 1, 3) := by decide +kernel
theorem dX11_tree_255 : decode cX11_tree 255 = .ok (.goto (-50), 3) := by decide +kernel
theorem dX11_tree_258 : decode cX11_tree 258 = .ok (.iinc 8 1, 3) := by decide +kernel
theorem dX11_tree_261 : decode cX11_tree 261 = .ok (.goto (-71), 3) := by decide +kernel
theorem dX11_tree_264 : decode cX11_tree 264 = .ok (.iinc 4 (-1), 3) := by decide +kernel
theorem dX11_tree_267 : decode cX11_tree 267 = .ok (.goto (-222), 3) := by decide +kernel
theorem dX11_tree_270 : decode cX11_tree 270 = .ok (.aload_n 0, 1) := by decide +kernel
theorem dX11_tree_271 : decode cX11_tree 271 = .ok (.invokevirtual 133, 3) := by decide +kernel
theorem dX11_tree_274 : decode cX11_tree 274 = .ok (.iconst 0, 1) := by decide +kernel
theorem dX11_tree_275 : decode cX11_tree 275 = .ok (.istore 4, 2) := by decide +kernel
theorem dX11_tree_277 : decode cX11_tree 277 = .ok (.iload 4, 2) := by decide +kernel
theorem dX11_tree_279 : decode cX11_tree 279 = .ok (.aload_n 0, 1) := by decide +kernel
theorem dX11_tree_280 : decode cX11_tree 280 = .ok (.getfield 72, 3) := by decide +kernel
theorem dX11_tree_283 : decode cX11_tree 283 = .ok (.iconst 1, 1) := by decide +kernel
theorem dX11_tree_284 : decode cX11_tree 284 = .ok (.iaload, 1) := by decide +kernel
theorem dX11_tree_285 : decode cX11_tree 285 = .ok (.if_icmp .ge 26, 3) := by decide +kernel
theorem dX11_tree_288 : decode cX11_tree 288 = .ok (.aload_n 0, 1) := by decide +kernel
theorem dX11_tree_289 : decode cX11_tree 289 = .ok (.getfield 50, 3) := by decide +kernel
theorem dX11_tree_292 : decode cX11_tree 292 = .ok (.aload_n 0, 1) := by decide +kernel
theorem dX11_tree_293 : decode cX11_tree 293 = .ok (.getfield 69, 3) := by decide +kernel
theorem dX11_tree_296 : decode cX11_tree 296 = .ok (.sipush 256, 3) := by decide +kernel
theorem dX11_tree_299 : decode cX11_tree 299 = .ok (.iload 4, 2) := by decide +kernel
theorem dX11_tree_301 : decode cX11_tree 301 = .ok (.iadd, 1) := by decide +kernel
theorem dX11_tree_302 : decode cX11_tree 302 = .ok (.iaload, 1) := by decide +kernel
theorem dX11_tree_303 : decode cX11_tree 303 = .ok (.iconst 1, 1) := by decide +kernel
theorem dX11_tree_304 : decode cX11_tree 304 = .ok (.bastore, 1) := by decide +kernel
theorem dX11_tree_305 : decode cX11_tree 305 = .ok (.iinc 4 1, 3) := by decide +kernel
theorem dX11_tree_308 : decode cX11_tree 308 = .ok (.goto (-31), 3) := by decide +kernel
theorem dX11_tree_311 : decode cX11_tree 311 = .ok (.aload_n 0, 1) := by decide +kernel
theorem dX11_tree_312 : decode cX11_tree 312 = .ok (.iconst 4, 1) := by decide +kernel
theorem dX11_tree_313 : decode cX11_tree 313 = .ok (.invokevirtual 143, 3) := by decide +kernel
theorem dX11_tree_316 : decode cX11_tree 316 = .ok (.ireturn, 1) := by decide +kernel
theorem dX11_plane_0 : decode cX11_plane 0 = .ok (.aload_n 0, 1) := by decide +kernel
theorem dX11_plane_1 : decode cX11_plane 1 = .ok (.iconst 0, 1) := by decide +kernel
theorem dX11_plane_2 : decode cX11_plane 2 = .ok (.putfield 84, 3) := by decide +kernel
theorem dX11_plane_5 : decode cX11_plane 5 = .ok (.aload_n 0, 1) := by decide +kernel
theorem dX11_plane_6 : decode cX11_plane 6 = .ok (.iload_n 1, 1) := by decide +kernel
theorem dX11_plane_7 : decode cX11_plane 7 = .ok (.iconst 2, 1) := by decide +kernel
theorem dX11_plane_8 : decode cX11_plane 8 = .ok (.iconst 3, 1) := by decide +kernel
theorem dX11_plane_9 : decode cX11_plane 9 = .ok (.invokevirtual 97, 3) := by decide +kernel
theorem dX11_plane_12 : decode cX11_plane 12 = .ok (.ifCond .ne 9, 3) := by decide +kernel
theorem dX11_plane_15 : decode cX11_plane 15 = .ok (.aload_n 0, 1) := by decide +kernel
theorem dX11_plane_16 : decode cX11_plane 16 = .ok (.iconst 2, 1) := by decide +kernel
theorem dX11_plane_17 : decode cX11_plane 17 = .ok (.invokevirtual 115, 3) := by decide +kernel
theorem dX11_plane_20 : decode cX11_plane 20 = .ok (.ireturn, 1) := by decide +kernel
theorem dX11_plane_21 : decode cX11_plane 21 = .ok (.iload_n 1, 1) := by decide +kernel
theorem dX11_plane_22 : decode cX11_plane 22 = .ok (.iconst 2, 1) := by decide +kernel
theorem dX11_plane_23 : decode cX11_plane 23 = .ok (.if_icmp .ne 8, 3) := by decide +kernel
theorem dX11_plane_26 : decode cX11_plane 26 = .ok (.bipush 7, 2) := by decide +kernel
theorem dX11_plane_28 : decode cX11_plane 28 = .ok (.goto 5, 3) := by decide +kernel
theorem dX11_plane_31 : decode cX11_plane 31 = .ok (.bipush 13, 2) := by decide +kernel
theorem dX11_plane_33 : decode cX11_plane 33 = .ok (.istore_n 3, 1) := by decide +kernel
theorem dX11_plane_34 : decode cX11_plane 34 = .ok (.aload_n 0, 1) := by decide +kernel
theorem dX11_plane_35 : decode cX11_plane 35 = .ok (.iload_n 2, 1) := by decide +kernel
theorem dX11_plane_36 : decode cX11_plane 36 = .ok (.iload_n 3, 1) := by decide +kernel
theorem dX11_plane_37 : decode cX11_plane 37 = .ok (.invokevirtual 152, 3) := by decide +kernel
theorem dX11_plane_40 : decode cX11_plane 40 = .ok (.ifCond .ne 9, 3) := by decide +kernel
theorem dX11_plane_43 : decode cX11_plane 43 = .ok (.aload_n 0, 1) := by decide +kernel
theorem dX11_plane_44 : decode cX11_plane 44 = .ok (.iconst 1, 1) := by decide +kernel
theorem dX11_plane_45 : decode cX11_plane 45 = .ok (.invokevirtual 115, 3) := by decide +kernel
theorem dX11_plane_48 : decode cX11_plane 48 = .ok (.ireturn, 1) := by decide +kernel
theorem dX11_plane_49 : decode cX11_plane 49 = .ok (.aload_n 0, 1) := by decide +kernel
theorem dX11_plane_50 : decode cX11_plane 50 = .ok (.invokevirtual 133, 3) := by decide +kernel
theorem dX11_plane_53 : decode cX11_plane 53 = .ok (.iconst 0, 1) := by decide +kernel
theorem dX11_plane_54 : decode cX11_plane 54 = .ok (.istore 4, 2) := by decide +kernel
theorem dX11_plane_56 : decode cX11_plane 56 = .ok (.iload 4, 2) := by decide +kernel
theorem dX11_plane_58 : decode cX11_plane 58 = .ok (.iload_n 3, 1) := by decide +kernel
theorem dX11_plane_59 : decode cX11_plane 59 = .ok (.if_icmp .ge 62, 3) := by decide +kernel
theorem dX11_plane_62 : decode cX11_plane 62 = .ok (.iconst 1, 1) := by decide +kernel
theorem dX11_plane_63 : decode cX11_plane 63 = .ok (.iload 4, 2) := by decide +kernel
theorem dX11_plane_65 : decode cX11_plane 65 = .ok (.ishl, 1) := by decide +kernel
theorem dX11_plane_66 : decode cX11_plane 66 = .ok (.iconst 1, 1) := by decide +kernel
theorem dX11_plane_67 : decode cX11_plane 67 = .ok (.iload 4, 2) := by decide +kernel
theorem dX11_plane_69 : decode cX11_plane 69 = .ok (.iconst 1, 1) := by decide +kernel
theorem dX11_plane_70 : decode cX11_plane 70 = .ok (.iadd, 1) := by decide +kernel
theorem dX11_plane_71 : decode cX11_plane 71 = .ok (.iload_n 3, 1) := by decide +kernel
theorem dX11_plane_72 : decode cX11_plane 72 = .ok (.irem, 1) := by decide +kernel
theorem dX11_plane_73 : decode cX11_plane 73 = .ok (.ishl, 1) := by decide +kernel
theorem dX11_plane_74 : decode cX11_plane 74 = .ok (.ior, 1) := by decide +kernel
theorem dX11_plane_75 : decode cX11_plane 75 = .ok (.iconst 1, 1) := by decide +kernel
theorem dX11_plane_76 : decode cX11_plane 76 = .ok (.iload 4, 2) := by decide +kernel
theorem dX11_plane_78 : decode cX11_plane 78 = .ok (.iconst 3, 1) := by decide +kernel
theorem dX11_plane_79 : decode cX11_plane 79 = .ok (.iadd, 1) := by decide +kernel
theorem dX11_plane_80 : decode cX11_plane 80 = .ok (.iload_n 3, 1) := by decide +kernel
theorem dX11_plane_81 : decode cX11_plane 81 = .ok (.irem, 1) := by decide +kernel
theorem dX11_plane_82 : decode cX11_plane 82 = .ok (.ishl, 1) := by decide +kernel
theorem dX11_plane_83 : decode cX11_plane 83 = .ok (.ior, 1) := by decide +kernel
theorem dX11_plane_84 : decode cX11_plane 84 = .ok (.istore 5, 2) := by decide +kernel
theorem dX11_plane_86 : decode cX11_plane 86 = .ok (.iload_n 1, 1) := by decide +kernel
theorem dX11_plane_87 : decode cX11_plane 87 = .ok (.iconst 3, 1) := by decide +kernel
theorem dX11_plane_88 : decode cX11_plane 88 = .ok (.if_icmp .ne 17, 3) := by decide +kernel
theorem dX11_plane_91 : decode cX11_plane 91 = .ok (.iload 5, 2) := by decide +kernel
theorem dX11_plane_93 : decode cX11_plane 93 = .ok (.iconst 1, 1) := by decide +kernel
theorem dX11_plane_94 : decode cX11_plane 94 = .ok (.iload 4, 2) := by decide +kernel
theorem dX11_plane_96 : decode cX11_plane 96 = .ok (.bipush 9, 2) := by decide +kernel
theorem dX11_plane_98 : decode cX11_plane 98 = .ok (.iadd, 1) := by decide +kernel
theorem dX11_plane_99 : decode cX11_plane 99 = .ok (.iload_n 3, 1) := by decide +kernel
theorem dX11_plane_100 : decode cX11_plane 100 = .ok (.irem, 1) := by decide +kernel
theorem dX11_plane_101 : decode cX11_plane 101 = .ok (.ishl, 1) := by decide +kernel
theorem dX11_plane_102 : decode cX11_plane 102 = .ok (.ior, 1) := by decide +kernel
theorem dX11_plane_103 : decode cX11_plane 103 = .ok (.istore 5, 2) := by decide +kernel
theorem dX11_plane_105 : decode cX11_plane 105 = .ok (.aload_n 0, 1) := by decide +kernel
theorem dX11_plane_106 : decode cX11_plane 106 = .ok (.getfield 50, 3) := by decide +kernel
theorem dX11_plane_109 : decode cX11_plane 109 = .ok (.iload 5, 2) := by decide +kernel
theorem dX11_plane_111 : decode cX11_plane 111 = .ok (.iload_n 2, 1) := by decide +kernel
theorem dX11_plane_112 : decode cX11_plane 112 = .ok (.ishl, 1) := by decide +kernel
theorem dX11_plane_113 : decode cX11_plane 113 = .ok (.iconst 1, 1) := by decide +kernel
theorem dX11_plane_114 : decode cX11_plane 114 = .ok (.bastore, 1) := by decide +kernel
theorem dX11_plane_115 : decode cX11_plane 115 = .ok (.iinc 4 1, 3) := by decide +kernel
theorem dX11_plane_118 : decode cX11_plane 118 = .ok (.goto (-62), 3) := by decide +kernel
theorem dX11_plane_121 : decode cX11_plane 121 = .ok (.aload_n 0, 1) := by decide +kernel
theorem dX11_plane_122 : decode cX11_plane 122 = .ok (.iconst 5, 1) := by decide +kernel
theorem dX11_plane_123 : decode cX11_plane 123 = .ok (.invokevirtual 143, 3) := by decide +kernel
theorem dX11_plane_126 : decode cX11_plane 126 = .ok (.ireturn, 1) := by decide +kernel
theorem dX11_join_0 : decode cX11_join 0 = .ok (.aload_n 0, 1) := by decide +kernel
theorem dX11_join_1 : decode cX11_join 1 = .ok (.iconst 0, 1) := by decide +kernel
theorem dX11_join_2 : decode cX11_join 2 = .ok (.putfield 84, 3) := by decide +kernel
theorem dX11_join_5 : decode cX11_join 5 = .ok (.aload_n 0, 1) := by decide +kernel
theorem dX11_join_6 : decode cX11_join 6 = .ok (.iload_n 1, 1) := by decide +kernel
theorem dX11_join_7 : decode cX11_join 7 = .ok (.invokevirtual 163, 3) := by decide +kernel
theorem dX11_join_10 : decode cX11_join 10 = .ok (.ifCond .eq 26, 3) := by decide +kernel
theorem dX11_join_13 : decode cX11_join 13 = .ok (.aload_n 0, 1) := by decide +kernel
theorem dX11_join_14 : decode cX11_join 14 = .ok (.iload_n 3, 1) := by decide +kernel
theorem dX11_join_15 : decode cX11_join 15 = .ok (.invokevirtual 163, 3) := by decide +kernel
theorem dX11_join_18 : decode cX11_join 18 = .ok (.ifCond .eq 18, 3) := by decide +kernel
theorem dX11_join_21 : decode cX11_join 21 = .ok (.aload_n 0, 1) := by decide +kernel
theorem dX11_join_22 : decode cX11_join 22 = .ok (.iload_n 2, 1) := by decide +kernel
theorem dX11_join_23 : decode cX11_join 23 = .ok (.iconst 0, 1) := by decide +kernel
theorem dX11_join_24 : decode cX11_join 24 = .ok (.aload_n 0, 1) := by decide +kernel
theorem dX11_join_25 : decode cX11_join 25 = .ok (.getfield 91, 3) := by decide +kernel
theorem dX11_join_28 : decode cX11_join 28 = .ok (.iconst 1, 1) := by decide +kernel
theorem dX11_join_29 : decode cX11_join 29 = .ok (.isub, 1) := by decide +kernel
theorem dX11_join_30 : decode cX11_join 30 = .ok (.invokevirtual 97, 3) := by decide +kernel
theorem dX11_join_33 : decode cX11_join 33 = .ok (.ifCond .ne 9, 3) := by decide +kernel
theorem dX11_join_36 : decode cX11_join 36 = .ok (.aload_n 0, 1) := by decide +kernel
theorem dX11_join_37 : decode cX11_join 37 = .ok (.iconst 1, 1) := by decide +kernel
theorem dX11_join_38 : decode cX11_join 38 = .ok (.invokevirtual 115, 3) := by decide +kernel
theorem dX11_join_41 : decode cX11_join 41 = .ok (.ireturn, 1) := by decide +kernel
theorem dX11_join_42 : decode cX11_join 42 = .ok (.aload_n 0, 1) := by decide +kernel
theorem dX11_join_43 : decode cX11_join 43 = .ok (.invokevirtual 133, 3) := by decide +kernel
theorem dX11_join_46 : decode cX11_join 46 = .ok (.iconst 1, 1) := by decide +kernel
theorem dX11_join_47 : decode cX11_join 47 = .ok (.iload_n 2, 1) := by decide +kernel
theorem dX11_join_48 : decode cX11_join 48 = .ok (.ishl, 1) := by decide +kernel
theorem dX11_join_49 : decode cX11_join 49 = .ok (.istore 4, 2) := by decide +kernel
theorem dX11_join_51 : decode cX11_join 51 = .ok (.iconst 0, 1) := by decide +kernel
theorem dX11_join_52 : decode cX11_join 52 = .ok (.istore 5, 2) := by decide +kernel
theorem dX11_join_54 : decode cX11_join 54 = .ok (.iload 5, 2) := by decide +kernel
theorem dX11_join_56 : decode cX11_join 56 = .ok (.aload_n 0, 1) := by decide +kernel
theorem dX11_join_57 : decode cX11_join 57 = .ok (.getfield 25, 3) := by decide +kernel
theorem dX11_join_60 : decode cX11_join 60 = .ok (.iload_n 1, 1) := by decide +kernel
theorem dX11_join_61 : decode cX11_join 61 = .ok (.iaload, 1) := by decide +kernel
theorem dX11_join_62 : decode cX11_join 62 = .ok (.if_icmp .ge 78, 3) := by decide +kernel
theorem dX11_join_65 : decode cX11_join 65 = .ok (.aload_n 0, 1) := by decide +kernel
theorem dX11_join_66 : decode cX11_join 66 = .ok (.iload_n 1, 1) := by decide +kernel
theorem dX11_join_67 : decode cX11_join 67 = .ok (.iload 5, 2) := by decide +kernel
theorem dX11_join_69 : decode cX11_join 69 = .ok (.invokevirtual 136, 3) := by decide +kernel
theorem dX11_join_72 : decode cX11_join 72 = .ok (.istore 6, 2) := by decide +kernel
theorem dX11_join_74 : decode cX11_join 74 = .ok (.iload 6, 2) := by decide +kernel
theorem dX11_join_76 : decode cX11_join 76 = .ok (.iload 4, 2) := by decide +kernel
theorem dX11_join_78 : decode cX11_join 78 = .ok (.iand, 1) := by decide +kernel
theorem dX11_join_79 : decode cX11_join 79 = .ok (.ifCond .ne 14, 3) := by decide +kernel
theorem dX11_join_82 : decode cX11_join 82 = .ok (.aload_n 0, 1) := by decide +kernel
theorem dX11_join_83 : decode cX11_join 83 = .ok (.getfield 50, 3) := by decide +kernel
theorem dX11_join_86 : decode cX11_join 86 = .ok (.iload 6, 2) := by decide +kernel
theorem dX11_join_88 : decode cX11_join 88 = .ok (.iconst 1, 1) := by decide +kernel
theorem dX11_join_89 : decode cX11_join 89 = .ok (.bastore, 1) := by decide +kernel
theorem dX11_join_90 : decode cX11_join 90 = .ok (.goto 44, 3) := by decide +kernel
theorem dX11_join_93 : decode cX11_join 93 = .ok (.iconst 0, 1) := by decide +kernel
theorem dX11_join_94 : decode cX11_join 94 = .ok (.istore 7, 2) := by decide +kernel
theorem dX11_join_96 : decode cX11_join 96 = .ok (.iload 7, 2) := by decide +kernel
theorem dX11_join_98 : decode cX11_join 98 = .ok (.aload_n 0, 1) := by decide +kernel
theorem dX11_join_99 : decode cX11_join 99 = .ok (.getfield 25, 3) := by decide +kernel
theorem dX11_join_102 : decode cX11_join 102 = .ok (.iload_n 3, 1) := by decide +kernel
theorem dX11_join_103 : decode cX11_join 103 = .ok (.iaload, 1) := by decide +kernel
theorem dX11_join_104 : decode cX11_join 104 = .ok (.if_icmp .ge 30, 3) := by decide +kernel
theorem dX11_join_107 : decode cX11_join 107 = .ok (.aload_n 0, 1) := by decide +kernel
theorem dX11_join_108 : decode cX11_join 108 = .ok (.getfield 50, 3) := by decide +kernel
theorem dX11_join_111 : decode cX11_join 111 = .ok (.iload 6, 2) := by decide +kernel
theorem dX11_join_113 : decode cX11_join 113 = .ok (.iload 4, 2) := by decide +kernel
theorem dX11_join_115 : decode cX11_join 115 = .ok (.iconst (-1), 1) := by decide +kernel
theorem dX11_join_116 : decode cX11_join 116 = .ok (.ixor, 1) := by decide +kernel
theorem dX11_join_117 : decode cX11_join 117 = .ok (.iand, 1) := by decide +kernel
theorem dX11_join_118 : decode cX11_join 118 = .ok (.aload_n 0, 1) := by decide +kernel
theorem dX11_join_119 : decode cX11_join 119 = .ok (.iload_n 3, 1) := by decide +kernel
theorem dX11_join_120 : decode cX11_join 120 = .ok (.iload 7, 2) := by decide +kernel
theorem dX11_join_122 : decode cX11_join 122 = .ok (.invokevirtual 136, 3) := by decide +kernel
theorem dX11_join_125 : decode cX11_join 125 = .ok (.ior, 1) := by decide +kernel
theorem dX11_join_126 : decode cX11_join 126 = .ok (.iconst 1, 1) := by decide +kernel
theorem dX11_join_127 : decode cX11_join 127 = .ok (.bastore, 1) := by decide +kernel
theorem dX11_join_128 : decode cX11_join 128 = .ok (.iinc 7 1, 3) := by decide +kernel
theorem dX11_join_131 : decode cX11_join 131 = .ok (.goto (-35), 3) := by decide +kernel
theorem dX11_join_134 : decode cX11_join 134 = .ok (.iinc 5 1, 3) := by decide +kernel
theorem dX11_join_137 : decode cX11_join 137 = .ok (.goto (-83), 3) := by decide +kernel
theorem dX11_join_140 : decode cX11_join 140 = .ok (.aload_n 0, 1) := by decide +kernel
theorem dX11_join_141 : decode cX11_join 141 = .ok (.bipush 6, 2) := by decide +kernel
theorem dX11_join_143 : decode cX11_join 143 = .ok (.invokevirtual 143, 3) := by decide +kernel
theorem dX11_join_146 : decode cX11_join 146 = .ok (.ireturn, 1) := by decide +kernel
theorem dX11_meetsAll_0 : decode cX11_meetsAll 0 = .ok (.iconst 0, 1) := by decide +kernel
theorem dX11_meetsAll_1 : decode cX11_meetsAll 1 = .ok (.istore_n 3, 1) := by decide +kernel
theorem dX11_meetsAll_2 : decode cX11_meetsAll 2 = .ok (.iload_n 3, 1) := by decide +kernel
theorem dX11_meetsAll_3 : decode cX11_meetsAll 3 = .ok (.aload_n 0, 1) := by decide +kernel
theorem dX11_meetsAll_4 : decode cX11_meetsAll 4 = .ok (.getfield 25, 3) := by decide +kernel
theorem dX11_meetsAll_7 : decode cX11_meetsAll 7 = .ok (.iload_n 2, 1) := by decide +kernel
theorem dX11_meetsAll_8 : decode cX11_meetsAll 8 = .ok (.iaload, 1) := by decide +kernel
theorem dX11_meetsAll_9 : decode cX11_meetsAll 9 = .ok (.if_icmp .ge 22, 3) := by decide +kernel
theorem dX11_meetsAll_12 : decode cX11_meetsAll 12 = .ok (.iload_n 1, 1) := by decide +kernel
theorem dX11_meetsAll_13 : decode cX11_meetsAll 13 = .ok (.aload_n 0, 1) := by decide +kernel
theorem dX11_meetsAll_14 : decode cX11_meetsAll 14 = .ok (.iload_n 2, 1) := by decide +kernel
theorem dX11_meetsAll_15 : decode cX11_meetsAll 15 = .ok (.iload_n 3, 1) := by decide +kernel
theorem dX11_meetsAll_16 : decode cX11_meetsAll 16 = .ok (.invokevirtual 136, 3) := by decide +kernel
theorem dX11_meetsAll_19 : decode cX11_meetsAll 19 = .ok (.iand, 1) := by decide +kernel
theorem dX11_meetsAll_20 : decode cX11_meetsAll 20 = .ok (.ifCond .ne 5, 3) := by decide +kernel
theorem dX11_meetsAll_23 : decode cX11_meetsAll 23 = .ok (.iconst 0, 1) := by decide +kernel
theorem dX11_meetsAll_24 : decode cX11_meetsAll 24 = .ok (.ireturn, 1) := by decide +kernel
theorem dX11_meetsAll_25 : decode cX11_meetsAll 25 = .ok (.iinc 3 1, 3) := by decide +kernel
theorem dX11_meetsAll_28 : decode cX11_meetsAll 28 = .ok (.goto (-26), 3) := by decide +kernel
theorem dX11_meetsAll_31 : decode cX11_meetsAll 31 = .ok (.iconst 1, 1) := by decide +kernel
theorem dX11_meetsAll_32 : decode cX11_meetsAll 32 = .ok (.ireturn, 1) := by decide +kernel
theorem dX11_allOf_0 : decode cX11_allOf 0 = .ok (.iconst 0, 1) := by decide +kernel
theorem dX11_allOf_1 : decode cX11_allOf 1 = .ok (.istore_n 2, 1) := by decide +kernel
theorem dX11_allOf_2 : decode cX11_allOf 2 = .ok (.iconst 0, 1) := by decide +kernel
theorem dX11_allOf_3 : decode cX11_allOf 3 = .ok (.istore_n 3, 1) := by decide +kernel
theorem dX11_allOf_4 : decode cX11_allOf 4 = .ok (.iload_n 3, 1) := by decide +kernel
theorem dX11_allOf_5 : decode cX11_allOf 5 = .ok (.aload_n 0, 1) := by decide +kernel
theorem dX11_allOf_6 : decode cX11_allOf 6 = .ok (.getfield 25, 3) := by decide +kernel
theorem dX11_allOf_9 : decode cX11_allOf 9 = .ok (.iload_n 1, 1) := by decide +kernel
theorem dX11_allOf_10 : decode cX11_allOf 10 = .ok (.iaload, 1) := by decide +kernel
theorem dX11_allOf_11 : decode cX11_allOf 11 = .ok (.if_icmp .ge 18, 3) := by decide +kernel
theorem dX11_allOf_14 : decode cX11_allOf 14 = .ok (.iload_n 2, 1) := by decide +kernel
theorem dX11_allOf_15 : decode cX11_allOf 15 = .ok (.aload_n 0, 1) := by decide +kernel
theorem dX11_allOf_16 : decode cX11_allOf 16 = .ok (.iload_n 1, 1) := by decide +kernel
theorem dX11_allOf_17 : decode cX11_allOf 17 = .ok (.iload_n 3, 1) := by decide +kernel
theorem dX11_allOf_18 : decode cX11_allOf 18 = .ok (.invokevirtual 136, 3) := by decide +kernel
theorem dX11_allOf_21 : decode cX11_allOf 21 = .ok (.ior, 1) := by decide +kernel
theorem dX11_allOf_22 : decode cX11_allOf 22 = .ok (.istore_n 2, 1) := by decide +kernel
theorem dX11_allOf_23 : decode cX11_allOf 23 = .ok (.iinc 3 1, 3) := by decide +kernel
theorem dX11_allOf_26 : decode cX11_allOf 26 = .ok (.goto (-22), 3) := by decide +kernel
theorem dX11_allOf_29 : decode cX11_allOf 29 = .ok (.iload_n 2, 1) := by decide +kernel
theorem dX11_allOf_30 : decode cX11_allOf 30 = .ok (.ireturn, 1) := by decide +kernel
theorem dX11_dual_0 : decode cX11_dual 0 = .ok (.aload_n 0, 1) := by decide +kernel
theorem dX11_dual_1 : decode cX11_dual 1 = .ok (.iconst 0, 1) := by decide +kernel
theorem dX11_dual_2 : decode cX11_dual 2 = .ok (.putfield 84, 3) := by decide +kernel
theorem dX11_dual_5 : decode cX11_dual 5 = .ok (.aload_n 0, 1) := by decide +kernel
theorem dX11_dual_6 : decode cX11_dual 6 = .ok (.iload_n 1, 1) := by decide +kernel
theorem dX11_dual_7 : decode cX11_dual 7 = .ok (.invokevirtual 163, 3) := by decide +kernel
theorem dX11_dual_10 : decode cX11_dual 10 = .ok (.ifCond .ne 9, 3) := by decide +kernel
theorem dX11_dual_13 : decode cX11_dual 13 = .ok (.aload_n 0, 1) := by decide +kernel
theorem dX11_dual_14 : decode cX11_dual 14 = .ok (.iconst 1, 1) := by decide +kernel
theorem dX11_dual_15 : decode cX11_dual 15 = .ok (.invokevirtual 115, 3) := by decide +kernel
theorem dX11_dual_18 : decode cX11_dual 18 = .ok (.ireturn, 1) := by decide +kernel
theorem dX11_dual_19 : decode cX11_dual 19 = .ok (.aload_n 0, 1) := by decide +kernel
theorem dX11_dual_20 : decode cX11_dual 20 = .ok (.invokevirtual 133, 3) := by decide +kernel
theorem dX11_dual_23 : decode cX11_dual 23 = .ok (.aload_n 0, 1) := by decide +kernel
theorem dX11_dual_24 : decode cX11_dual 24 = .ok (.iload_n 1, 1) := by decide +kernel
theorem dX11_dual_25 : decode cX11_dual 25 = .ok (.invokevirtual 166, 3) := by decide +kernel
theorem dX11_dual_28 : decode cX11_dual 28 = .ok (.istore_n 2, 1) := by decide +kernel
theorem dX11_dual_29 : decode cX11_dual 29 = .ok (.iload_n 2, 1) := by decide +kernel
theorem dX11_dual_30 : decode cX11_dual 30 = .ok (.istore_n 3, 1) := by decide +kernel
theorem dX11_dual_31 : decode cX11_dual 31 = .ok (.iload_n 3, 1) := by decide +kernel
theorem dX11_dual_32 : decode cX11_dual 32 = .ok (.ifCond .le 24, 3) := by decide +kernel
theorem dX11_dual_35 : decode cX11_dual 35 = .ok (.aload_n 0, 1) := by decide +kernel
theorem dX11_dual_36 : decode cX11_dual 36 = .ok (.getfield 50, 3) := by decide +kernel
theorem dX11_dual_39 : decode cX11_dual 39 = .ok (.iload_n 3, 1) := by decide +kernel
theorem dX11_dual_40 : decode cX11_dual 40 = .ok (.aload_n 0, 1) := by decide +kernel
theorem dX11_dual_41 : decode cX11_dual 41 = .ok (.iload_n 3, 1) := by decide +kernel
theorem dX11_dual_42 : decode cX11_dual 42 = .ok (.iload_n 1, 1) := by decide +kernel
theorem dX11_dual_43 : decode cX11_dual 43 = .ok (.invokevirtual 169, 3) := by decide +kernel
theorem dX11_dual_46 : decode cX11_dual 46 = .ok (.bastore, 1) := by decide +kernel
theorem dX11_dual_47 : decode cX11_dual 47 = .ok (.iload_n 3, 1) := by decide +kernel
theorem dX11_dual_48 : decode cX11_dual 48 = .ok (.iconst 1, 1) := by decide +kernel
theorem dX11_dual_49 : decode cX11_dual 49 = .ok (.isub, 1) := by decide +kernel
theorem dX11_dual_50 : decode cX11_dual 50 = .ok (.iload_n 2, 1) := by decide +kernel
theorem dX11_dual_51 : decode cX11_dual 51 = .ok (.iand, 1) := by decide +kernel
theorem dX11_dual_52 : decode cX11_dual 52 = .ok (.istore_n 3, 1) := by decide +kernel
theorem dX11_dual_53 : decode cX11_dual 53 = .ok (.goto (-22), 3) := by decide +kernel
theorem dX11_dual_56 : decode cX11_dual 56 = .ok (.aload_n 0, 1) := by decide +kernel
theorem dX11_dual_57 : decode cX11_dual 57 = .ok (.bipush 7, 2) := by decide +kernel
theorem dX11_dual_59 : decode cX11_dual 59 = .ok (.invokevirtual 143, 3) := by decide +kernel
theorem dX11_dual_62 : decode cX11_dual 62 = .ok (.ireturn, 1) := by decide +kernel
theorem dX11_thin_0 : decode cX11_thin 0 = .ok (.aload_n 0, 1) := by decide +kernel
theorem dX11_thin_1 : decode cX11_thin 1 = .ok (.iconst 0, 1) := by decide +kernel
theorem dX11_thin_2 : decode cX11_thin 2 = .ok (.putfield 84, 3) := by decide +kernel
theorem dX11_thin_5 : decode cX11_thin 5 = .ok (.aload_n 0, 1) := by decide +kernel
theorem dX11_thin_6 : decode cX11_thin 6 = .ok (.iload_n 1, 1) := by decide +kernel
theorem dX11_thin_7 : decode cX11_thin 7 = .ok (.invokevirtual 163, 3) := by decide +kernel
theorem dX11_thin_10 : decode cX11_thin 10 = .ok (.ifCond .ne 9, 3) := by decide +kernel
theorem dX11_thin_13 : decode cX11_thin 13 = .ok (.aload_n 0, 1) := by decide +kernel
theorem dX11_thin_14 : decode cX11_thin 14 = .ok (.iconst 1, 1) := by decide +kernel
theorem dX11_thin_15 : decode cX11_thin 15 = .ok (.invokevirtual 115, 3) := by decide +kernel
theorem dX11_thin_18 : decode cX11_thin 18 = .ok (.ireturn, 1) := by decide +kernel
theorem dX11_thin_19 : decode cX11_thin 19 = .ok (.aload_n 0, 1) := by decide +kernel
theorem dX11_thin_20 : decode cX11_thin 20 = .ok (.getfield 94, 3) := by decide +kernel
theorem dX11_thin_23 : decode cX11_thin 23 = .ok (.bipush 24, 2) := by decide +kernel
theorem dX11_thin_25 : decode cX11_thin 25 = .ok (.if_icmp .ne 9, 3) := by decide +kernel
theorem dX11_thin_28 : decode cX11_thin 28 = .ok (.aload_n 0, 1) := by decide +kernel
theorem dX11_thin_29 : decode cX11_thin 29 = .ok (.iconst 4, 1) := by decide +kernel
theorem dX11_thin_30 : decode cX11_thin 30 = .ok (.invokevirtual 115, 3) := by decide +kernel
theorem dX11_thin_33 : decode cX11_thin 33 = .ok (.ireturn, 1) := by decide +kernel
theorem dX11_thin_34 : decode cX11_thin 34 = .ok (.aload_n 0, 1) := by decide +kernel
theorem dX11_thin_35 : decode cX11_thin 35 = .ok (.invokevirtual 133, 3) := by decide +kernel
theorem dX11_thin_38 : decode cX11_thin 38 = .ok (.iconst 0, 1) := by decide +kernel
theorem dX11_thin_39 : decode cX11_thin 39 = .ok (.istore_n 3, 1) := by decide +kernel
theorem dX11_thin_40 : decode cX11_thin 40 = .ok (.iconst 0, 1) := by decide +kernel
theorem dX11_thin_41 : decode cX11_thin 41 = .ok (.istore 4, 2) := by decide +kernel
theorem dX11_thin_43 : decode cX11_thin 43 = .ok (.iload 4, 2) := by decide +kernel
theorem dX11_thin_45 : decode cX11_thin 45 = .ok (.aload_n 0, 1) := by decide +kernel
theorem dX11_thin_46 : decode cX11_thin 46 = .ok (.getfield 25, 3) := by decide +kernel
theorem dX11_thin_49 : decode cX11_thin 49 = .ok (.iload_n 1, 1) := by decide +kernel
theorem dX11_thin_50 : decode cX11_thin 50 = .ok (.iaload, 1) := by decide +kernel
theorem dX11_thin_51 : decode cX11_thin 51 = .ok (.if_icmp .ge 41, 3) := by decide +kernel
theorem dX11_thin_54 : decode cX11_thin 54 = .ok (.aload_n 0, 1) := by decide +kernel
theorem dX11_thin_55 : decode cX11_thin 55 = .ok (.iload_n 1, 1) := by decide +kernel
theorem dX11_thin_56 : decode cX11_thin 56 = .ok (.iload 4, 2) := by decide +kernel
theorem dX11_thin_58 : decode cX11_thin 58 = .ok (.invokevirtual 136, 3) := by decide +kernel
theorem dX11_thin_61 : decode cX11_thin 61 = .ok (.iload_n 2, 1) := by decide +kernel
theorem dX11_thin_62 : decode cX11_thin 62 = .ok (.iconst (-1), 1) := by decide +kernel
theorem dX11_thin_63 : decode cX11_thin 63 = .ok (.ixor, 1) := by decide +kernel
theorem dX11_thin_64 : decode cX11_thin 64 = .ok (.iand, 1) := by decide +kernel
theorem dX11_thin_65 : decode cX11_thin 65 = .ok (.ifCond .eq 6, 3) := by decide +kernel
theorem dX11_thin_68 : decode cX11_thin 68 = .ok (.goto 18, 3) := by decide +kernel
theorem dX11_thin_71 : decode cX11_thin 71 = .ok (.aload_n 0, 1) := by decide +kernel
theorem dX11_thin_72 : decode cX11_thin 72 = .ok (.getfield 50, 3) := by decide +kernel
theorem dX11_thin_75 : decode cX11_thin 75 = .ok (.aload_n 0, 1) := by decide +kernel
theorem dX11_thin_76 : decode cX11_thin 76 = .ok (.iload_n 1, 1) := by decide +kernel
theorem dX11_thin_77 : decode cX11_thin 77 = .ok (.iload 4, 2) := by decide +kernel
theorem dX11_thin_79 : decode cX11_thin 79 = .ok (.invokevirtual 136, 3) := by decide +kernel
theorem dX11_thin_82 : decode cX11_thin 82 = .ok (.iconst 1, 1) := by decide +kernel
theorem dX11_thin_83 : decode cX11_thin 83 = .ok (.bastore, 1) := by decide +kernel
theorem dX11_thin_84 : decode cX11_thin 84 = .ok (.iconst 1, 1) := by decide +kernel
theorem dX11_thin_85 : decode cX11_thin 85 = .ok (.istore_n 3, 1) := by decide +kernel
theorem dX11_thin_86 : decode cX11_thin 86 = .ok (.iinc 4 1, 3) := by decide +kernel
theorem dX11_thin_89 : decode cX11_thin 89 = .ok (.goto (-46), 3) := by decide +kernel
theorem dX11_thin_92 : decode cX11_thin 92 = .ok (.iload_n 3, 1) := by decide +kernel
theorem dX11_thin_93 : decode cX11_thin 93 = .ok (.ifCond .eq 12, 3) := by decide +kernel
theorem dX11_thin_96 : decode cX11_thin 96 = .ok (.aload_n 0, 1) := by decide +kernel
theorem dX11_thin_97 : decode cX11_thin 97 = .ok (.bipush 8, 2) := by decide +kernel
theorem dX11_thin_99 : decode cX11_thin 99 = .ok (.invokevirtual 143, 3) := by decide +kernel
theorem dX11_thin_102 : decode cX11_thin 102 = .ok (.goto 8, 3) := by decide +kernel
theorem dX11_thin_105 : decode cX11_thin 105 = .ok (.aload_n 0, 1) := by decide +kernel
theorem dX11_thin_106 : decode cX11_thin 106 = .ok (.iconst 5, 1) := by decide +kernel
theorem dX11_thin_107 : decode cX11_thin 107 = .ok (.invokevirtual 115, 3) := by decide +kernel
theorem dX11_thin_110 : decode cX11_thin 110 = .ok (.ireturn, 1) := by decide +kernel
theorem dX11_both_0 : decode cX11_both 0 = .ok (.aload_n 0, 1) := by decide +kernel
theorem dX11_both_1 : decode cX11_both 1 = .ok (.iconst 0, 1) := by decide +kernel
theorem dX11_both_2 : decode cX11_both 2 = .ok (.putfield 84, 3) := by decide +kernel
theorem dX11_both_5 : decode cX11_both 5 = .ok (.aload_n 0, 1) := by decide +kernel
theorem dX11_both_6 : decode cX11_both 6 = .ok (.iload_n 1, 1) := by decide +kernel
theorem dX11_both_7 : decode cX11_both 7 = .ok (.invokevirtual 163, 3) := by decide +kernel
theorem dX11_both_10 : decode cX11_both 10 = .ok (.ifCond .eq 11, 3) := by decide +kernel
theorem dX11_both_13 : decode cX11_both 13 = .ok (.aload_n 0, 1) := by decide +kernel
theorem dX11_both_14 : decode cX11_both 14 = .ok (.iload_n 2, 1) := by decide +kernel
theorem dX11_both_15 : decode cX11_both 15 = .ok (.invokevirtual 163, 3) := by decide +kernel
theorem dX11_both_18 : decode cX11_both 18 = .ok (.ifCond .ne 9, 3) := by decide +kernel
theorem dX11_both_21 : decode cX11_both 21 = .ok (.aload_n 0, 1) := by decide +kernel
theorem dX11_both_22 : decode cX11_both 22 = .ok (.iconst 1, 1) := by decide +kernel
theorem dX11_both_23 : decode cX11_both 23 = .ok (.invokevirtual 115, 3) := by decide +kernel
theorem dX11_both_26 : decode cX11_both 26 = .ok (.ireturn, 1) := by decide +kernel
theorem dX11_both_27 : decode cX11_both 27 = .ok (.aload_n 0, 1) := by decide +kernel
theorem dX11_both_28 : decode cX11_both 28 = .ok (.invokevirtual 133, 3) := by decide +kernel
theorem dX11_both_31 : decode cX11_both 31 = .ok (.iconst 0, 1) := by decide +kernel
theorem dX11_both_32 : decode cX11_both 32 = .ok (.istore_n 3, 1) := by decide +kernel
theorem dX11_both_33 : decode cX11_both 33 = .ok (.iload_n 3, 1) := by decide +kernel
theorem dX11_both_34 : decode cX11_both 34 = .ok (.aload_n 0, 1) := by decide +kernel
theorem dX11_both_35 : decode cX11_both 35 = .ok (.getfield 25, 3) := by decide +kernel
theorem dX11_both_38 : decode cX11_both 38 = .ok (.iload_n 1, 1) := by decide +kernel
theorem dX11_both_39 : decode cX11_both 39 = .ok (.iaload, 1) := by decide +kernel
theorem dX11_both_40 : decode cX11_both 40 = .ok (.if_icmp .ge 49, 3) := by decide +kernel
theorem dX11_both_43 : decode cX11_both 43 = .ok (.iconst 0, 1) := by decide +kernel
theorem dX11_both_44 : decode cX11_both 44 = .ok (.istore 4, 2) := by decide +kernel
theorem dX11_both_46 : decode cX11_both 46 = .ok (.iload 4, 2) := by decide +kernel
theorem dX11_both_48 : decode cX11_both 48 = .ok (.aload_n 0, 1) := by decide +kernel
theorem dX11_both_49 : decode cX11_both 49 = .ok (.getfield 25, 3) := by decide +kernel
theorem dX11_both_52 : decode cX11_both 52 = .ok (.iload_n 2, 1) := by decide +kernel
theorem dX11_both_53 : decode cX11_both 53 = .ok (.iaload, 1) := by decide +kernel
theorem dX11_both_54 : decode cX11_both 54 = .ok (.if_icmp .ge 29, 3) := by decide +kernel
theorem dX11_both_57 : decode cX11_both 57 = .ok (.aload_n 0, 1) := by decide +kernel
theorem dX11_both_58 : decode cX11_both 58 = .ok (.getfield 50, 3) := by decide +kernel
theorem dX11_both_61 : decode cX11_both 61 = .ok (.aload_n 0, 1) := by decide +kernel
theorem dX11_both_62 : decode cX11_both 62 = .ok (.iload_n 1, 1) := by decide +kernel
theorem dX11_both_63 : decode cX11_both 63 = .ok (.iload_n 3, 1) := by decide +kernel
theorem dX11_both_64 : decode cX11_both 64 = .ok (.invokevirtual 136, 3) := by decide +kernel
theorem dX11_both_67 : decode cX11_both 67 = .ok (.aload_n 0, 1) := by decide +kernel
theorem dX11_both_68 : decode cX11_both 68 = .ok (.iload_n 2, 1) := by decide +kernel
theorem dX11_both_69 : decode cX11_both 69 = .ok (.iload 4, 2) := by decide +kernel
theorem dX11_both_71 : decode cX11_both 71 = .ok (.invokevirtual 136, 3) := by decide +kernel
theorem dX11_both_74 : decode cX11_both 74 = .ok (.ior, 1) := by decide +kernel
theorem dX11_both_75 : decode cX11_both 75 = .ok (.iconst 1, 1) := by decide +kernel
theorem dX11_both_76 : decode cX11_both 76 = .ok (.bastore, 1) := by decide +kernel
theorem dX11_both_77 : decode cX11_both 77 = .ok (.iinc 4 1, 3) := by decide +kernel
theorem dX11_both_80 : decode cX11_both 80 = .ok (.goto (-34), 3) := by decide +kernel
theorem dX11_both_83 : decode cX11_both 83 = .ok (.iinc 3 1, 3) := by decide +kernel
theorem dX11_both_86 : decode cX11_both 86 = .ok (.goto (-53), 3) := by decide +kernel
theorem dX11_both_89 : decode cX11_both 89 = .ok (.aload_n 0, 1) := by decide +kernel
theorem dX11_both_90 : decode cX11_both 90 = .ok (.bipush 9, 2) := by decide +kernel
theorem dX11_both_92 : decode cX11_both 92 = .ok (.invokevirtual 143, 3) := by decide +kernel
theorem dX11_both_95 : decode cX11_both 95 = .ok (.ireturn, 1) := by decide +kernel
theorem dX11_apartOf_0 : decode cX11_apartOf 0 = .ok (.iconst 0, 1) := by decide +kernel
theorem dX11_apartOf_1 : decode cX11_apartOf 1 = .ok (.istore_n 3, 1) := by decide +kernel
theorem dX11_apartOf_2 : decode cX11_apartOf 2 = .ok (.iload_n 3, 1) := by decide +kernel
theorem dX11_apartOf_3 : decode cX11_apartOf 3 = .ok (.aload_n 0, 1) := by decide +kernel
theorem dX11_apartOf_4 : decode cX11_apartOf 4 = .ok (.getfield 25, 3) := by decide +kernel
theorem dX11_apartOf_7 : decode cX11_apartOf 7 = .ok (.iload_n 1, 1) := by decide +kernel
theorem dX11_apartOf_8 : decode cX11_apartOf 8 = .ok (.iaload, 1) := by decide +kernel
theorem dX11_apartOf_9 : decode cX11_apartOf 9 = .ok (.if_icmp .ge 66, 3) := by decide +kernel
theorem dX11_apartOf_12 : decode cX11_apartOf 12 = .ok (.iload_n 1, 1) := by decide +kernel
theorem dX11_apartOf_13 : decode cX11_apartOf 13 = .ok (.iload_n 2, 1) := by decide +kernel
theorem dX11_apartOf_14 : decode cX11_apartOf 14 = .ok (.if_icmp .ne 9, 3) := by decide +kernel
theorem dX11_apartOf_17 : decode cX11_apartOf 17 = .ok (.iload_n 3, 1) := by decide +kernel
theorem dX11_apartOf_18 : decode cX11_apartOf 18 = .ok (.iconst 1, 1) := by decide +kernel
theorem dX11_apartOf_19 : decode cX11_apartOf 19 = .ok (.iadd, 1) := by decide +kernel
theorem dX11_apartOf_20 : decode cX11_apartOf 20 = .ok (.goto 4, 3) := by decide +kernel
theorem dX11_apartOf_23 : decode cX11_apartOf 23 = .ok (.iconst 0, 1) := by decide +kernel
theorem dX11_apartOf_24 : decode cX11_apartOf 24 = .ok (.istore 4, 2) := by decide +kernel
theorem dX11_apartOf_26 : decode cX11_apartOf 26 = .ok (.iload 4, 2) := by decide +kernel
theorem dX11_apartOf_28 : decode cX11_apartOf 28 = .ok (.aload_n 0, 1) := by decide +kernel
theorem dX11_apartOf_29 : decode cX11_apartOf 29 = .ok (.getfield 25, 3) := by decide +kernel
theorem dX11_apartOf_32 : decode cX11_apartOf 32 = .ok (.iload_n 2, 1) := by decide +kernel
theorem dX11_apartOf_33 : decode cX11_apartOf 33 = .ok (.iaload, 1) := by decide +kernel
theorem dX11_apartOf_34 : decode cX11_apartOf 34 = .ok (.if_icmp .ge 35, 3) := by decide +kernel
theorem dX11_apartOf_37 : decode cX11_apartOf 37 = .ok (.aload_n 0, 1) := by decide +kernel
theorem dX11_apartOf_38 : decode cX11_apartOf 38 = .ok (.iload_n 1, 1) := by decide +kernel
theorem dX11_apartOf_39 : decode cX11_apartOf 39 = .ok (.iload_n 3, 1) := by decide +kernel
theorem dX11_apartOf_40 : decode cX11_apartOf 40 = .ok (.invokevirtual 136, 3) := by decide +kernel
theorem dX11_apartOf_43 : decode cX11_apartOf 43 = .ok (.aload_n 0, 1) := by decide +kernel
theorem dX11_apartOf_44 : decode cX11_apartOf 44 = .ok (.iload_n 2, 1) := by decide +kernel
theorem dX11_apartOf_45 : decode cX11_apartOf 45 = .ok (.iload 4, 2) := by decide +kernel
theorem dX11_apartOf_47 : decode cX11_apartOf 47 = .ok (.invokevirtual 136, 3) := by decide +kernel
theorem dX11_apartOf_50 : decode cX11_apartOf 50 = .ok (.iand, 1) := by decide +kernel
theorem dX11_apartOf_51 : decode cX11_apartOf 51 = .ok (.ifCond .ne 12, 3) := by decide +kernel
theorem dX11_apartOf_54 : decode cX11_apartOf 54 = .ok (.sipush 1000, 3) := by decide +kernel
theorem dX11_apartOf_57 : decode cX11_apartOf 57 = .ok (.iload_n 3, 1) := by decide +kernel
theorem dX11_apartOf_58 : decode cX11_apartOf 58 = .ok (.imul, 1) := by decide +kernel
theorem dX11_apartOf_59 : decode cX11_apartOf 59 = .ok (.iload 4, 2) := by decide +kernel
theorem dX11_apartOf_61 : decode cX11_apartOf 61 = .ok (.iadd, 1) := by decide +kernel
theorem dX11_apartOf_62 : decode cX11_apartOf 62 = .ok (.ireturn, 1) := by decide +kernel
theorem dX11_apartOf_63 : decode cX11_apartOf 63 = .ok (.iinc 4 1, 3) := by decide +kernel
theorem dX11_apartOf_66 : decode cX11_apartOf 66 = .ok (.goto (-40), 3) := by decide +kernel
theorem dX11_apartOf_69 : decode cX11_apartOf 69 = .ok (.iinc 3 1, 3) := by decide +kernel
theorem dX11_apartOf_72 : decode cX11_apartOf 72 = .ok (.goto (-70), 3) := by decide +kernel
theorem dX11_apartOf_75 : decode cX11_apartOf 75 = .ok (.bipush (-2), 2) := by decide +kernel
theorem dX11_apartOf_77 : decode cX11_apartOf 77 = .ok (.ireturn, 1) := by decide +kernel
theorem dX11_better_0 : decode cX11_better 0 = .ok (.aload_n 0, 1) := by decide +kernel
theorem dX11_better_1 : decode cX11_better 1 = .ok (.iconst 0, 1) := by decide +kernel
theorem dX11_better_2 : decode cX11_better 2 = .ok (.putfield 84, 3) := by decide +kernel
theorem dX11_better_5 : decode cX11_better 5 = .ok (.aload_n 0, 1) := by decide +kernel
theorem dX11_better_6 : decode cX11_better 6 = .ok (.iload_n 1, 1) := by decide +kernel
theorem dX11_better_7 : decode cX11_better 7 = .ok (.invokevirtual 163, 3) := by decide +kernel
theorem dX11_better_10 : decode cX11_better 10 = .ok (.ifCond .ne 9, 3) := by decide +kernel
theorem dX11_better_13 : decode cX11_better 13 = .ok (.aload_n 0, 1) := by decide +kernel
theorem dX11_better_14 : decode cX11_better 14 = .ok (.iconst 1, 1) := by decide +kernel
theorem dX11_better_15 : decode cX11_better 15 = .ok (.invokevirtual 115, 3) := by decide +kernel
theorem dX11_better_18 : decode cX11_better 18 = .ok (.ireturn, 1) := by decide +kernel
theorem dX11_better_19 : decode cX11_better 19 = .ok (.aload_n 0, 1) := by decide +kernel
theorem dX11_better_20 : decode cX11_better 20 = .ok (.iload_n 1, 1) := by decide +kernel
theorem dX11_better_21 : decode cX11_better 21 = .ok (.iload_n 1, 1) := by decide +kernel
theorem dX11_better_22 : decode cX11_better 22 = .ok (.invokevirtual 172, 3) := by decide +kernel
theorem dX11_better_25 : decode cX11_better 25 = .ok (.bipush (-2), 2) := by decide +kernel
theorem dX11_better_27 : decode cX11_better 27 = .ok (.if_icmp .eq 10, 3) := by decide +kernel
theorem dX11_better_30 : decode cX11_better 30 = .ok (.aload_n 0, 1) := by decide +kernel
theorem dX11_better_31 : decode cX11_better 31 = .ok (.bipush 7, 2) := by decide +kernel
theorem dX11_better_33 : decode cX11_better 33 = .ok (.invokevirtual 115, 3) := by decide +kernel
theorem dX11_better_36 : decode cX11_better 36 = .ok (.ireturn, 1) := by decide +kernel
theorem dX11_better_37 : decode cX11_better 37 = .ok (.aload_n 0, 1) := by decide +kernel
theorem dX11_better_38 : decode cX11_better 38 = .ok (.getfield 94, 3) := by decide +kernel
theorem dX11_better_41 : decode cX11_better 41 = .ok (.bipush 24, 2) := by decide +kernel
theorem dX11_better_43 : decode cX11_better 43 = .ok (.if_icmp .ne 9, 3) := by decide +kernel
theorem dX11_better_46 : decode cX11_better 46 = .ok (.aload_n 0, 1) := by decide +kernel
theorem dX11_better_47 : decode cX11_better 47 = .ok (.iconst 4, 1) := by decide +kernel
theorem dX11_better_48 : decode cX11_better 48 = .ok (.invokevirtual 115, 3) := by decide +kernel
theorem dX11_better_51 : decode cX11_better 51 = .ok (.ireturn, 1) := by decide +kernel
theorem dX11_better_52 : decode cX11_better 52 = .ok (.aload_n 0, 1) := by decide +kernel
theorem dX11_better_53 : decode cX11_better 53 = .ok (.iload_n 1, 1) := by decide +kernel
theorem dX11_better_54 : decode cX11_better 54 = .ok (.invokevirtual 175, 3) := by decide +kernel
theorem dX11_better_57 : decode cX11_better 57 = .ok (.aload_n 0, 1) := by decide +kernel
theorem dX11_better_58 : decode cX11_better 58 = .ok (.invokevirtual 129, 3) := by decide +kernel
theorem dX11_better_61 : decode cX11_better 61 = .ok (.istore_n 2, 1) := by decide +kernel
theorem dX11_better_62 : decode cX11_better 62 = .ok (.iconst 0, 1) := by decide +kernel
theorem dX11_better_63 : decode cX11_better 63 = .ok (.istore_n 3, 1) := by decide +kernel
theorem dX11_better_64 : decode cX11_better 64 = .ok (.iload_n 3, 1) := by decide +kernel
theorem dX11_better_65 : decode cX11_better 65 = .ok (.ldc 49, 2) := by decide +kernel
theorem dX11_better_67 : decode cX11_better 67 = .ok (.if_icmp .ge 28, 3) := by decide +kernel
theorem dX11_better_70 : decode cX11_better 70 = .ok (.aload_n 0, 1) := by decide +kernel
theorem dX11_better_71 : decode cX11_better 71 = .ok (.getfield 75, 3) := by decide +kernel
theorem dX11_better_74 : decode cX11_better 74 = .ok (.iload_n 3, 1) := by decide +kernel
theorem dX11_better_75 : decode cX11_better 75 = .ok (.aload_n 0, 1) := by decide +kernel
theorem dX11_better_76 : decode cX11_better 76 = .ok (.getfield 54, 3) := by decide +kernel
theorem dX11_better_79 : decode cX11_better 79 = .ok (.iload_n 3, 1) := by decide +kernel
theorem dX11_better_80 : decode cX11_better 80 = .ok (.baload, 1) := by decide +kernel
theorem dX11_better_81 : decode cX11_better 81 = .ok (.bastore, 1) := by decide +kernel
theorem dX11_better_82 : decode cX11_better 82 = .ok (.aload_n 0, 1) := by decide +kernel
theorem dX11_better_83 : decode cX11_better 83 = .ok (.getfield 78, 3) := by decide +kernel
theorem dX11_better_86 : decode cX11_better 86 = .ok (.iload_n 3, 1) := by decide +kernel
theorem dX11_better_87 : decode cX11_better 87 = .ok (.iconst 0, 1) := by decide +kernel
theorem dX11_better_88 : decode cX11_better 88 = .ok (.bastore, 1) := by decide +kernel
theorem dX11_better_89 : decode cX11_better 89 = .ok (.iinc 3 1, 3) := by decide +kernel
theorem dX11_better_92 : decode cX11_better 92 = .ok (.goto (-28), 3) := by decide +kernel
theorem dX11_better_95 : decode cX11_better 95 = .ok (.aload_n 0, 1) := by decide +kernel
theorem dX11_better_96 : decode cX11_better 96 = .ok (.iload_n 1, 1) := by decide +kernel
theorem dX11_better_97 : decode cX11_better 97 = .ok (.invokevirtual 166, 3) := by decide +kernel
theorem dX11_better_100 : decode cX11_better 100 = .ok (.istore_n 3, 1) := by decide +kernel
theorem dX11_better_101 : decode cX11_better 101 = .ok (.iconst 0, 1) := by decide +kernel
theorem dX11_better_102 : decode cX11_better 102 = .ok (.iload_n 3, 1) := by decide +kernel
theorem dX11_better_103 : decode cX11_better 103 = .ok (.isub, 1) := by decide +kernel
theorem dX11_better_104 : decode cX11_better 104 = .ok (.iload_n 3, 1) := by decide +kernel
theorem dX11_better_105 : decode cX11_better 105 = .ok (.iand, 1) := by decide +kernel
theorem dX11_better_106 : decode cX11_better 106 = .ok (.istore 4, 2) := by decide +kernel
theorem dX11_better_108 : decode cX11_better 108 = .ok (.iload 4, 2) := by decide +kernel
theorem dX11_better_110 : decode cX11_better 110 = .ok (.ifCond .eq 97, 3) := by decide +kernel
theorem dX11_better_113 : decode cX11_better 113 = .ok (.aload_n 0, 1) := by decide +kernel
theorem dX11_better_114 : decode cX11_better 114 = .ok (.getfield 75, 3) := by decide +kernel
theorem dX11_better_117 : decode cX11_better 117 = .ok (.iload 4, 2) := by decide +kernel
theorem dX11_better_119 : decode cX11_better 119 = .ok (.baload, 1) := by decide +kernel
theorem dX11_better_120 : decode cX11_better 120 = .ok (.ifCond .ne 76, 3) := by decide +kernel
theorem dX11_better_123 : decode cX11_better 123 = .ok (.aload_n 0, 1) := by decide +kernel
theorem dX11_better_124 : decode cX11_better 124 = .ok (.getfield 75, 3) := by decide +kernel
theorem dX11_better_127 : decode cX11_better 127 = .ok (.iload_n 3, 1) := by decide +kernel
theorem dX11_better_128 : decode cX11_better 128 = .ok (.iload 4, 2) := by decide +kernel
theorem dX11_better_130 : decode cX11_better 130 = .ok (.iconst (-1), 1) := by decide +kernel
theorem dX11_better_131 : decode cX11_better 131 = .ok (.ixor, 1) := by decide +kernel
theorem dX11_better_132 : decode cX11_better 132 = .ok (.iand, 1) := by decide +kernel
theorem dX11_better_133 : decode cX11_better 133 = .ok (.baload, 1) := by decide +kernel
theorem dX11_better_134 : decode cX11_better 134 = .ok (.ifCond .eq 6, 3) := by decide +kernel
theorem dX11_better_137 : decode cX11_better 137 = .ok (.goto 59, 3) := by decide +kernel
theorem dX11_better_140 : decode cX11_better 140 = .ok (.aload_n 0, 1) := by decide +kernel
theorem dX11_better_141 : decode cX11_better 141 = .ok (.getfield 78, 3) := by decide +kernel
theorem dX11_better_144 : decode cX11_better 144 = .ok (.iload 4, 2) := by decide +kernel
theorem dX11_better_146 : decode cX11_better 146 = .ok (.iconst 1, 1) := by decide +kernel
theorem dX11_better_147 : decode cX11_better 147 = .ok (.bastore, 1) := by decide +kernel
theorem dX11_better_148 : decode cX11_better 148 = .ok (.iload_n 3, 1) := by decide +kernel
theorem dX11_better_149 : decode cX11_better 149 = .ok (.iload 4, 2) := by decide +kernel
theorem dX11_better_151 : decode cX11_better 151 = .ok (.iconst (-1), 1) := by decide +kernel
theorem dX11_better_152 : decode cX11_better 152 = .ok (.ixor, 1) := by decide +kernel
theorem dX11_better_153 : decode cX11_better 153 = .ok (.iand, 1) := by decide +kernel
theorem dX11_better_154 : decode cX11_better 154 = .ok (.istore 5, 2) := by decide +kernel
theorem dX11_better_156 : decode cX11_better 156 = .ok (.iload 5, 2) := by decide +kernel
theorem dX11_better_158 : decode cX11_better 158 = .ok (.istore 6, 2) := by decide +kernel
theorem dX11_better_160 : decode cX11_better 160 = .ok (.iload 6, 2) := by decide +kernel
theorem dX11_better_162 : decode cX11_better 162 = .ok (.ifCond .le 26, 3) := by decide +kernel
theorem dX11_better_165 : decode cX11_better 165 = .ok (.aload_n 0, 1) := by decide +kernel
theorem dX11_better_166 : decode cX11_better 166 = .ok (.getfield 75, 3) := by decide +kernel
theorem dX11_better_169 : decode cX11_better 169 = .ok (.iload 4, 2) := by decide +kernel
theorem dX11_better_171 : decode cX11_better 171 = .ok (.iload 6, 2) := by decide +kernel
theorem dX11_better_173 : decode cX11_better 173 = .ok (.ior, 1) := by decide +kernel
theorem dX11_better_174 : decode cX11_better 174 = .ok (.iconst 1, 1) := by decide +kernel
theorem dX11_better_175 : decode cX11_better 175 = .ok (.bastore, 1) := by decide +kernel
theorem dX11_better_176 : decode cX11_better 176 = .ok (.iload 6, 2) := by decide +kernel
theorem dX11_better_178 : decode cX11_better 178 = .ok (.iconst 1, 1) := by decide +kernel
theorem dX11_better_179 : decode cX11_better 179 = .ok (.isub, 1) := by decide +kernel
theorem dX11_better_180 : decode cX11_better 180 = .ok (.iload 5, 2) := by decide +kernel
theorem dX11_better_182 : decode cX11_better 182 = .ok (.iand, 1) := by decide +kernel
theorem dX11_better_183 : decode cX11_better 183 = .ok (.istore 6, 2) := by decide +kernel
theorem dX11_better_185 : decode cX11_better 185 = .ok (.goto (-25), 3) := by decide +kernel
theorem dX11_better_188 : decode cX11_better 188 = .ok (.aload_n 0, 1) := by decide +kernel
theorem dX11_better_189 : decode cX11_better 189 = .ok (.getfield 75, 3) := by decide +kernel
theorem dX11_better_192 : decode cX11_better 192 = .ok (.iload 4, 2) := by decide +kernel
theorem dX11_better_194 : decode cX11_better 194 = .ok (.iconst 1, 1) := by decide +kernel
theorem dX11_better_195 : decode cX11_better 195 = .ok (.bastore, 1) := by decide +kernel
theorem dX11_better_196 : decode cX11_better 196 = .ok (.iload 4, 2) := by decide +kernel
theorem dX11_better_198 : decode cX11_better 198 = .ok (.iload_n 3, 1) := by decide +kernel
theorem dX11_better_199 : decode cX11_better 199 = .ok (.isub, 1) := by decide +kernel
theorem dX11_better_200 : decode cX11_better 200 = .ok (.iload_n 3, 1) := by decide +kernel
theorem dX11_better_201 : decode cX11_better 201 = .ok (.iand, 1) := by decide +kernel
theorem dX11_better_202 : decode cX11_better 202 = .ok (.istore 4, 2) := by decide +kernel
theorem dX11_better_204 : decode cX11_better 204 = .ok (.goto (-96), 3) := by decide +kernel
theorem dX11_better_207 : decode cX11_better 207 = .ok (.aload_n 0, 1) := by decide +kernel
theorem dX11_better_208 : decode cX11_better 208 = .ok (.iload_n 1, 1) := by decide +kernel
theorem dX11_better_209 : decode cX11_better 209 = .ok (.invokevirtual 175, 3) := by decide +kernel
theorem dX11_better_212 : decode cX11_better 212 = .ok (.iconst 0, 1) := by decide +kernel
theorem dX11_better_213 : decode cX11_better 213 = .ok (.istore 4, 2) := by decide +kernel
theorem dX11_better_215 : decode cX11_better 215 = .ok (.iload 4, 2) := by decide +kernel
theorem dX11_better_217 : decode cX11_better 217 = .ok (.ldc 49, 2) := by decide +kernel
theorem dX11_better_219 : decode cX11_better 219 = .ok (.if_icmp .ge 41, 3) := by decide +kernel
theorem dX11_better_222 : decode cX11_better 222 = .ok (.aload_n 0, 1) := by decide +kernel
theorem dX11_better_223 : decode cX11_better 223 = .ok (.getfield 50, 3) := by decide +kernel
theorem dX11_better_226 : decode cX11_better 226 = .ok (.iload 4, 2) := by decide +kernel
theorem dX11_better_228 : decode cX11_better 228 = .ok (.aload_n 0, 1) := by decide +kernel
theorem dX11_better_229 : decode cX11_better 229 = .ok (.getfield 50, 3) := by decide +kernel
theorem dX11_better_232 : decode cX11_better 232 = .ok (.iload 4, 2) := by decide +kernel
theorem dX11_better_234 : decode cX11_better 234 = .ok (.baload, 1) := by decide +kernel
theorem dX11_better_235 : decode cX11_better 235 = .ok (.ifCond .ne 13, 3) := by decide +kernel
theorem dX11_better_238 : decode cX11_better 238 = .ok (.aload_n 0, 1) := by decide +kernel
theorem dX11_better_239 : decode cX11_better 239 = .ok (.getfield 78, 3) := by decide +kernel
theorem dX11_better_242 : decode cX11_better 242 = .ok (.iload 4, 2) := by decide +kernel
theorem dX11_better_244 : decode cX11_better 244 = .ok (.baload, 1) := by decide +kernel
theorem dX11_better_245 : decode cX11_better 245 = .ok (.ifCond .eq 7, 3) := by decide +kernel
theorem dX11_better_248 : decode cX11_better 248 = .ok (.iconst 1, 1) := by decide +kernel
theorem dX11_better_249 : decode cX11_better 249 = .ok (.goto 4, 3) := by decide +kernel
theorem dX11_better_252 : decode cX11_better 252 = .ok (.iconst 0, 1) := by decide +kernel
theorem dX11_better_253 : decode cX11_better 253 = .ok (.bastore, 1) := by decide +kernel
theorem dX11_better_254 : decode cX11_better 254 = .ok (.iinc 4 1, 3) := by decide +kernel
theorem dX11_better_257 : decode cX11_better 257 = .ok (.goto (-42), 3) := by decide +kernel
theorem dX11_better_260 : decode cX11_better 260 = .ok (.aload_n 0, 1) := by decide +kernel
theorem dX11_better_261 : decode cX11_better 261 = .ok (.bipush 10, 2) := by decide +kernel
theorem dX11_better_263 : decode cX11_better 263 = .ok (.invokevirtual 143, 3) := by decide +kernel
theorem dX11_better_266 : decode cX11_better 266 = .ok (.ireturn, 1) := by decide +kernel
theorem dX11_family_0 : decode cX11_family 0 = .ok (.aload_n 0, 1) := by decide +kernel
theorem dX11_family_1 : decode cX11_family 1 = .ok (.iconst 0, 1) := by decide +kernel
theorem dX11_family_2 : decode cX11_family 2 = .ok (.putfield 84, 3) := by decide +kernel
theorem dX11_family_5 : decode cX11_family 5 = .ok (.aload_n 0, 1) := by decide +kernel
theorem dX11_family_6 : decode cX11_family 6 = .ok (.iload_n 1, 1) := by decide +kernel
theorem dX11_family_7 : decode cX11_family 7 = .ok (.invokevirtual 163, 3) := by decide +kernel
theorem dX11_family_10 : decode cX11_family 10 = .ok (.ifCond .ne 5, 3) := by decide +kernel
theorem dX11_family_13 : decode cX11_family 13 = .ok (.iconst (-1), 1) := by decide +kernel
theorem dX11_family_14 : decode cX11_family 14 = .ok (.ireturn, 1) := by decide +kernel
theorem dX11_family_15 : decode cX11_family 15 = .ok (.bipush 16, 2) := by decide +kernel
theorem dX11_family_17 : decode cX11_family 17 = .ok (.istore_n 3, 1) := by decide +kernel
theorem dX11_family_18 : decode cX11_family 18 = .ok (.iconst 0, 1) := by decide +kernel
theorem dX11_family_19 : decode cX11_family 19 = .ok (.istore 4, 2) := by decide +kernel
theorem dX11_family_21 : decode cX11_family 21 = .ok (.iconst 0, 1) := by decide +kernel
theorem dX11_family_22 : decode cX11_family 22 = .ok (.istore 5, 2) := by decide +kernel
theorem dX11_family_24 : decode cX11_family 24 = .ok (.iload 5, 2) := by decide +kernel
theorem dX11_family_26 : decode cX11_family 26 = .ok (.aload_n 0, 1) := by decide +kernel
theorem dX11_family_27 : decode cX11_family 27 = .ok (.getfield 25, 3) := by decide +kernel
theorem dX11_family_30 : decode cX11_family 30 = .ok (.iload_n 1, 1) := by decide +kernel
theorem dX11_family_31 : decode cX11_family 31 = .ok (.iaload, 1) := by decide +kernel
theorem dX11_family_32 : decode cX11_family 32 = .ok (.if_icmp .ge 51, 3) := by decide +kernel
theorem dX11_family_35 : decode cX11_family 35 = .ok (.aload_n 0, 1) := by decide +kernel
theorem dX11_family_36 : decode cX11_family 36 = .ok (.aload_n 0, 1) := by decide +kernel
theorem dX11_family_37 : decode cX11_family 37 = .ok (.iload_n 1, 1) := by decide +kernel
theorem dX11_family_38 : decode cX11_family 38 = .ok (.iload 5, 2) := by decide +kernel
theorem dX11_family_40 : decode cX11_family 40 = .ok (.invokevirtual 136, 3) := by decide +kernel
theorem dX11_family_43 : decode cX11_family 43 = .ok (.invokevirtual 179, 3) := by decide +kernel
theorem dX11_family_46 : decode cX11_family 46 = .ok (.istore 6, 2) := by decide +kernel
theorem dX11_family_48 : decode cX11_family 48 = .ok (.iload 6, 2) := by decide +kernel
theorem dX11_family_50 : decode cX11_family 50 = .ok (.iload_n 3, 1) := by decide +kernel
theorem dX11_family_51 : decode cX11_family 51 = .ok (.if_icmp .ge 8, 3) := by decide +kernel
theorem dX11_family_54 : decode cX11_family 54 = .ok (.iload 6, 2) := by decide +kernel
theorem dX11_family_56 : decode cX11_family 56 = .ok (.goto 4, 3) := by decide +kernel
theorem dX11_family_59 : decode cX11_family 59 = .ok (.iload_n 3, 1) := by decide +kernel
theorem dX11_family_60 : decode cX11_family 60 = .ok (.istore_n 3, 1) := by decide +kernel
theorem dX11_family_61 : decode cX11_family 61 = .ok (.iload 6, 2) := by decide +kernel
theorem dX11_family_63 : decode cX11_family 63 = .ok (.iload 4, 2) := by decide +kernel
theorem dX11_family_65 : decode cX11_family 65 = .ok (.if_icmp .le 8, 3) := by decide +kernel
theorem dX11_family_68 : decode cX11_family 68 = .ok (.iload 6, 2) := by decide +kernel
theorem dX11_family_70 : decode cX11_family 70 = .ok (.goto 5, 3) := by decide +kernel
theorem dX11_family_73 : decode cX11_family 73 = .ok (.iload 4, 2) := by decide +kernel
theorem dX11_family_75 : decode cX11_family 75 = .ok (.istore 4, 2) := by decide +kernel
theorem dX11_family_77 : decode cX11_family 77 = .ok (.iinc 5 1, 3) := by decide +kernel
theorem dX11_family_80 : decode cX11_family 80 = .ok (.goto (-56), 3) := by decide +kernel
theorem dX11_family_83 : decode cX11_family 83 = .ok (.iload_n 2, 1) := by decide +kernel
theorem dX11_family_84 : decode cX11_family 84 = .ok (.tableswitch 61 0 4 #[36, 43, 50, 56, 58], 36) := by decide +kernel
theorem dX11_family_120 : decode cX11_family 120 = .ok (.aload_n 0, 1) := by decide +kernel
theorem dX11_family_121 : decode cX11_family 121 = .ok (.getfield 22, 3) := by decide +kernel
theorem dX11_family_124 : decode cX11_family 124 = .ok (.iload_n 1, 1) := by decide +kernel
theorem dX11_family_125 : decode cX11_family 125 = .ok (.iaload, 1) := by decide +kernel
theorem dX11_family_126 : decode cX11_family 126 = .ok (.ireturn, 1) := by decide +kernel
theorem dX11_family_127 : decode cX11_family 127 = .ok (.aload_n 0, 1) := by decide +kernel
theorem dX11_family_128 : decode cX11_family 128 = .ok (.getfield 25, 3) := by decide +kernel
theorem dX11_family_131 : decode cX11_family 131 = .ok (.iload_n 1, 1) := by decide +kernel
theorem dX11_family_132 : decode cX11_family 132 = .ok (.iaload, 1) := by decide +kernel
theorem dX11_family_133 : decode cX11_family 133 = .ok (.ireturn, 1) := by decide +kernel
theorem dX11_family_134 : decode cX11_family 134 = .ok (.aload_n 0, 1) := by decide +kernel
theorem dX11_family_135 : decode cX11_family 135 = .ok (.iload_n 1, 1) := by decide +kernel
theorem dX11_family_136 : decode cX11_family 136 = .ok (.invokevirtual 166, 3) := by decide +kernel
theorem dX11_family_139 : decode cX11_family 139 = .ok (.ireturn, 1) := by decide +kernel
theorem dX11_family_140 : decode cX11_family 140 = .ok (.iload_n 3, 1) := by decide +kernel
theorem dX11_family_141 : decode cX11_family 141 = .ok (.ireturn, 1) := by decide +kernel
theorem dX11_family_142 : decode cX11_family 142 = .ok (.iload 4, 2) := by decide +kernel
theorem dX11_family_144 : decode cX11_family 144 = .ok (.ireturn, 1) := by decide +kernel
theorem dX11_family_145 : decode cX11_family 145 = .ok (.iconst (-1), 1) := by decide +kernel
theorem dX11_family_146 : decode cX11_family 146 = .ok (.ireturn, 1) := by decide +kernel
theorem dX11_quorum_0 : decode cX11_quorum 0 = .ok (.aload_n 0, 1) := by decide +kernel
theorem dX11_quorum_1 : decode cX11_quorum 1 = .ok (.iconst 0, 1) := by decide +kernel
theorem dX11_quorum_2 : decode cX11_quorum 2 = .ok (.putfield 84, 3) := by decide +kernel
theorem dX11_quorum_5 : decode cX11_quorum 5 = .ok (.aload_n 0, 1) := by decide +kernel
theorem dX11_quorum_6 : decode cX11_quorum 6 = .ok (.iload_n 1, 1) := by decide +kernel
theorem dX11_quorum_7 : decode cX11_quorum 7 = .ok (.invokevirtual 163, 3) := by decide +kernel
theorem dX11_quorum_10 : decode cX11_quorum 10 = .ok (.ifCond .eq 29, 3) := by decide +kernel
theorem dX11_quorum_13 : decode cX11_quorum 13 = .ok (.aload_n 0, 1) := by decide +kernel
theorem dX11_quorum_14 : decode cX11_quorum 14 = .ok (.iload_n 2, 1) := by decide +kernel
theorem dX11_quorum_15 : decode cX11_quorum 15 = .ok (.iconst 0, 1) := by decide +kernel
theorem dX11_quorum_16 : decode cX11_quorum 16 = .ok (.aload_n 0, 1) := by decide +kernel
theorem dX11_quorum_17 : decode cX11_quorum 17 = .ok (.getfield 25, 3) := by decide +kernel
theorem dX11_quorum_20 : decode cX11_quorum 20 = .ok (.iload_n 1, 1) := by decide +kernel
theorem dX11_quorum_21 : decode cX11_quorum 21 = .ok (.iaload, 1) := by decide +kernel
theorem dX11_quorum_22 : decode cX11_quorum 22 = .ok (.iconst 1, 1) := by decide +kernel
theorem dX11_quorum_23 : decode cX11_quorum 23 = .ok (.isub, 1) := by decide +kernel
theorem dX11_quorum_24 : decode cX11_quorum 24 = .ok (.invokevirtual 97, 3) := by decide +kernel
theorem dX11_quorum_27 : decode cX11_quorum 27 = .ok (.ifCond .eq 12, 3) := by decide +kernel
theorem dX11_quorum_30 : decode cX11_quorum 30 = .ok (.aload_n 0, 1) := by decide +kernel
theorem dX11_quorum_31 : decode cX11_quorum 31 = .ok (.iload_n 1, 1) := by decide +kernel
theorem dX11_quorum_32 : decode cX11_quorum 32 = .ok (.iload_n 2, 1) := by decide +kernel
theorem dX11_quorum_33 : decode cX11_quorum 33 = .ok (.invokevirtual 136, 3) := by decide +kernel
theorem dX11_quorum_36 : decode cX11_quorum 36 = .ok (.goto 4, 3) := by decide +kernel
theorem dX11_quorum_39 : decode cX11_quorum 39 = .ok (.iconst (-1), 1) := by decide +kernel
theorem dX11_quorum_40 : decode cX11_quorum 40 = .ok (.ireturn, 1) := by decide +kernel
theorem dX11_hasOne_0 : decode cX11_hasOne 0 = .ok (.iconst 0, 1) := by decide +kernel
theorem dX11_hasOne_1 : decode cX11_hasOne 1 = .ok (.istore_n 3, 1) := by decide +kernel
theorem dX11_hasOne_2 : decode cX11_hasOne 2 = .ok (.iload_n 3, 1) := by decide +kernel
theorem dX11_hasOne_3 : decode cX11_hasOne 3 = .ok (.aload_n 0, 1) := by decide +kernel
theorem dX11_hasOne_4 : decode cX11_hasOne 4 = .ok (.getfield 25, 3) := by decide +kernel
theorem dX11_hasOne_7 : decode cX11_hasOne 7 = .ok (.iload_n 1, 1) := by decide +kernel
theorem dX11_hasOne_8 : decode cX11_hasOne 8 = .ok (.iaload, 1) := by decide +kernel
theorem dX11_hasOne_9 : decode cX11_hasOne 9 = .ok (.if_icmp .ge 24, 3) := by decide +kernel
theorem dX11_hasOne_12 : decode cX11_hasOne 12 = .ok (.aload_n 0, 1) := by decide +kernel
theorem dX11_hasOne_13 : decode cX11_hasOne 13 = .ok (.iload_n 1, 1) := by decide +kernel
theorem dX11_hasOne_14 : decode cX11_hasOne 14 = .ok (.iload_n 3, 1) := by decide +kernel
theorem dX11_hasOne_15 : decode cX11_hasOne 15 = .ok (.invokevirtual 136, 3) := by decide +kernel
theorem dX11_hasOne_18 : decode cX11_hasOne 18 = .ok (.iload_n 2, 1) := by decide +kernel
theorem dX11_hasOne_19 : decode cX11_hasOne 19 = .ok (.iconst (-1), 1) := by decide +kernel
theorem dX11_hasOne_20 : decode cX11_hasOne 20 = .ok (.ixor, 1) := by decide +kernel
theorem dX11_hasOne_21 : decode cX11_hasOne 21 = .ok (.iand, 1) := by decide +kernel
theorem dX11_hasOne_22 : decode cX11_hasOne 22 = .ok (.ifCond .ne 5, 3) := by decide +kernel
theorem dX11_hasOne_25 : decode cX11_hasOne 25 = .ok (.iconst 1, 1) := by decide +kernel
theorem dX11_hasOne_26 : decode cX11_hasOne 26 = .ok (.ireturn, 1) := by decide +kernel
theorem dX11_hasOne_27 : decode cX11_hasOne 27 = .ok (.iinc 3 1, 3) := by decide +kernel
theorem dX11_hasOne_30 : decode cX11_hasOne 30 = .ok (.goto (-28), 3) := by decide +kernel
theorem dX11_hasOne_33 : decode cX11_hasOne 33 = .ok (.iconst 0, 1) := by decide +kernel
theorem dX11_hasOne_34 : decode cX11_hasOne 34 = .ok (.ireturn, 1) := by decide +kernel
theorem dX11_has_0 : decode cX11_has 0 = .ok (.aload_n 0, 1) := by decide +kernel
theorem dX11_has_1 : decode cX11_has 1 = .ok (.iconst 0, 1) := by decide +kernel
theorem dX11_has_2 : decode cX11_has 2 = .ok (.putfield 84, 3) := by decide +kernel
theorem dX11_has_5 : decode cX11_has 5 = .ok (.aload_n 0, 1) := by decide +kernel
theorem dX11_has_6 : decode cX11_has 6 = .ok (.iload_n 1, 1) := by decide +kernel
theorem dX11_has_7 : decode cX11_has 7 = .ok (.invokevirtual 163, 3) := by decide +kernel
theorem dX11_has_10 : decode cX11_has 10 = .ok (.ifCond .ne 9, 3) := by decide +kernel
theorem dX11_has_13 : decode cX11_has 13 = .ok (.aload_n 0, 1) := by decide +kernel
theorem dX11_has_14 : decode cX11_has 14 = .ok (.iconst 1, 1) := by decide +kernel
theorem dX11_has_15 : decode cX11_has 15 = .ok (.invokevirtual 115, 3) := by decide +kernel
theorem dX11_has_18 : decode cX11_has 18 = .ok (.ireturn, 1) := by decide +kernel
theorem dX11_has_19 : decode cX11_has 19 = .ok (.aload_n 0, 1) := by decide +kernel
theorem dX11_has_20 : decode cX11_has 20 = .ok (.iconst 0, 1) := by decide +kernel
theorem dX11_has_21 : decode cX11_has 21 = .ok (.putfield 88, 3) := by decide +kernel
theorem dX11_has_24 : decode cX11_has 24 = .ok (.aload_n 0, 1) := by decide +kernel
theorem dX11_has_25 : decode cX11_has 25 = .ok (.iload_n 1, 1) := by decide +kernel
theorem dX11_has_26 : decode cX11_has 26 = .ok (.iload_n 2, 1) := by decide +kernel
theorem dX11_has_27 : decode cX11_has 27 = .ok (.invokevirtual 182, 3) := by decide +kernel
theorem dX11_has_30 : decode cX11_has 30 = .ok (.ifCond .eq 7, 3) := by decide +kernel
theorem dX11_has_33 : decode cX11_has 33 = .ok (.iconst 1, 1) := by decide +kernel
theorem dX11_has_34 : decode cX11_has 34 = .ok (.goto 4, 3) := by decide +kernel
theorem dX11_has_37 : decode cX11_has 37 = .ok (.iconst 0, 1) := by decide +kernel
theorem dX11_has_38 : decode cX11_has 38 = .ok (.ireturn, 1) := by decide +kernel
theorem dX11_apart_0 : decode cX11_apart 0 = .ok (.aload_n 0, 1) := by decide +kernel
theorem dX11_apart_1 : decode cX11_apart 1 = .ok (.iconst 0, 1) := by decide +kernel
theorem dX11_apart_2 : decode cX11_apart 2 = .ok (.putfield 84, 3) := by decide +kernel
theorem dX11_apart_5 : decode cX11_apart 5 = .ok (.aload_n 0, 1) := by decide +kernel
theorem dX11_apart_6 : decode cX11_apart 6 = .ok (.iload_n 1, 1) := by decide +kernel
theorem dX11_apart_7 : decode cX11_apart 7 = .ok (.invokevirtual 163, 3) := by decide +kernel
theorem dX11_apart_10 : decode cX11_apart 10 = .ok (.ifCond .eq 11, 3) := by decide +kernel
theorem dX11_apart_13 : decode cX11_apart 13 = .ok (.aload_n 0, 1) := by decide +kernel
theorem dX11_apart_14 : decode cX11_apart 14 = .ok (.iload_n 2, 1) := by decide +kernel
theorem dX11_apart_15 : decode cX11_apart 15 = .ok (.invokevirtual 163, 3) := by decide +kernel
theorem dX11_apart_18 : decode cX11_apart 18 = .ok (.ifCond .ne 9, 3) := by decide +kernel
theorem dX11_apart_21 : decode cX11_apart 21 = .ok (.aload_n 0, 1) := by decide +kernel
theorem dX11_apart_22 : decode cX11_apart 22 = .ok (.iconst 1, 1) := by decide +kernel
theorem dX11_apart_23 : decode cX11_apart 23 = .ok (.invokevirtual 115, 3) := by decide +kernel
theorem dX11_apart_26 : decode cX11_apart 26 = .ok (.ireturn, 1) := by decide +kernel
theorem dX11_apart_27 : decode cX11_apart 27 = .ok (.aload_n 0, 1) := by decide +kernel
theorem dX11_apart_28 : decode cX11_apart 28 = .ok (.iconst 0, 1) := by decide +kernel
theorem dX11_apart_29 : decode cX11_apart 29 = .ok (.putfield 88, 3) := by decide +kernel
theorem dX11_apart_32 : decode cX11_apart 32 = .ok (.aload_n 0, 1) := by decide +kernel
theorem dX11_apart_33 : decode cX11_apart 33 = .ok (.iload_n 1, 1) := by decide +kernel
theorem dX11_apart_34 : decode cX11_apart 34 = .ok (.iload_n 2, 1) := by decide +kernel
theorem dX11_apart_35 : decode cX11_apart 35 = .ok (.invokevirtual 172, 3) := by decide +kernel
theorem dX11_apart_38 : decode cX11_apart 38 = .ok (.ireturn, 1) := by decide +kernel
theorem dX11_hitOf_0 : decode cX11_hitOf 0 = .ok (.aload_n 0, 1) := by decide +kernel
theorem dX11_hitOf_1 : decode cX11_hitOf 1 = .ok (.iload_n 1, 1) := by decide +kernel
theorem dX11_hitOf_2 : decode cX11_hitOf 2 = .ok (.invokevirtual 166, 3) := by decide +kernel
theorem dX11_hitOf_5 : decode cX11_hitOf 5 = .ok (.istore_n 2, 1) := by decide +kernel
theorem dX11_hitOf_6 : decode cX11_hitOf 6 = .ok (.iload_n 2, 1) := by decide +kernel
theorem dX11_hitOf_7 : decode cX11_hitOf 7 = .ok (.istore_n 3, 1) := by decide +kernel
theorem dX11_hitOf_8 : decode cX11_hitOf 8 = .ok (.iconst 0, 1) := by decide +kernel
theorem dX11_hitOf_9 : decode cX11_hitOf 9 = .ok (.iload_n 2, 1) := by decide +kernel
theorem dX11_hitOf_10 : decode cX11_hitOf 10 = .ok (.isub, 1) := by decide +kernel
theorem dX11_hitOf_11 : decode cX11_hitOf 11 = .ok (.iload_n 2, 1) := by decide +kernel
theorem dX11_hitOf_12 : decode cX11_hitOf 12 = .ok (.iand, 1) := by decide +kernel
theorem dX11_hitOf_13 : decode cX11_hitOf 13 = .ok (.istore 4, 2) := by decide +kernel
theorem dX11_hitOf_15 : decode cX11_hitOf 15 = .ok (.iload 4, 2) := by decide +kernel
theorem dX11_hitOf_17 : decode cX11_hitOf 17 = .ok (.ifCond .eq 41, 3) := by decide +kernel
theorem dX11_hitOf_20 : decode cX11_hitOf 20 = .ok (.aload_n 0, 1) := by decide +kernel
theorem dX11_hitOf_21 : decode cX11_hitOf 21 = .ok (.iload 4, 2) := by decide +kernel
theorem dX11_hitOf_23 : decode cX11_hitOf 23 = .ok (.invokevirtual 179, 3) := by decide +kernel
theorem dX11_hitOf_26 : decode cX11_hitOf 26 = .ok (.aload_n 0, 1) := by decide +kernel
theorem dX11_hitOf_27 : decode cX11_hitOf 27 = .ok (.iload_n 3, 1) := by decide +kernel
theorem dX11_hitOf_28 : decode cX11_hitOf 28 = .ok (.invokevirtual 179, 3) := by decide +kernel
theorem dX11_hitOf_31 : decode cX11_hitOf 31 = .ok (.if_icmp .ge 16, 3) := by decide +kernel
theorem dX11_hitOf_34 : decode cX11_hitOf 34 = .ok (.aload_n 0, 1) := by decide +kernel
theorem dX11_hitOf_35 : decode cX11_hitOf 35 = .ok (.iload 4, 2) := by decide +kernel
theorem dX11_hitOf_37 : decode cX11_hitOf 37 = .ok (.iload_n 1, 1) := by decide +kernel
theorem dX11_hitOf_38 : decode cX11_hitOf 38 = .ok (.invokevirtual 169, 3) := by decide +kernel
theorem dX11_hitOf_41 : decode cX11_hitOf 41 = .ok (.ifCond .eq 6, 3) := by decide +kernel
theorem dX11_hitOf_44 : decode cX11_hitOf 44 = .ok (.iload 4, 2) := by decide +kernel
theorem dX11_hitOf_46 : decode cX11_hitOf 46 = .ok (.istore_n 3, 1) := by decide +kernel
theorem dX11_hitOf_47 : decode cX11_hitOf 47 = .ok (.iload 4, 2) := by decide +kernel
theorem dX11_hitOf_49 : decode cX11_hitOf 49 = .ok (.iload_n 2, 1) := by decide +kernel
theorem dX11_hitOf_50 : decode cX11_hitOf 50 = .ok (.isub, 1) := by decide +kernel
theorem dX11_hitOf_51 : decode cX11_hitOf 51 = .ok (.iload_n 2, 1) := by decide +kernel
theorem dX11_hitOf_52 : decode cX11_hitOf 52 = .ok (.iand, 1) := by decide +kernel
theorem dX11_hitOf_53 : decode cX11_hitOf 53 = .ok (.istore 4, 2) := by decide +kernel
theorem dX11_hitOf_55 : decode cX11_hitOf 55 = .ok (.goto (-40), 3) := by decide +kernel
theorem dX11_hitOf_58 : decode cX11_hitOf 58 = .ok (.iload_n 3, 1) := by decide +kernel
theorem dX11_hitOf_59 : decode cX11_hitOf 59 = .ok (.ireturn, 1) := by decide +kernel
theorem dX11_hit_0 : decode cX11_hit 0 = .ok (.aload_n 0, 1) := by decide +kernel
theorem dX11_hit_1 : decode cX11_hit 1 = .ok (.iconst 0, 1) := by decide +kernel
theorem dX11_hit_2 : decode cX11_hit 2 = .ok (.putfield 84, 3) := by decide +kernel
theorem dX11_hit_5 : decode cX11_hit 5 = .ok (.aload_n 0, 1) := by decide +kernel
theorem dX11_hit_6 : decode cX11_hit 6 = .ok (.iload_n 1, 1) := by decide +kernel
theorem dX11_hit_7 : decode cX11_hit 7 = .ok (.invokevirtual 163, 3) := by decide +kernel
theorem dX11_hit_10 : decode cX11_hit 10 = .ok (.ifCond .ne 9, 3) := by decide +kernel
theorem dX11_hit_13 : decode cX11_hit 13 = .ok (.aload_n 0, 1) := by decide +kernel
theorem dX11_hit_14 : decode cX11_hit 14 = .ok (.iconst 1, 1) := by decide +kernel
theorem dX11_hit_15 : decode cX11_hit 15 = .ok (.invokevirtual 115, 3) := by decide +kernel
theorem dX11_hit_18 : decode cX11_hit 18 = .ok (.ireturn, 1) := by decide +kernel
theorem dX11_hit_19 : decode cX11_hit 19 = .ok (.aload_n 0, 1) := by decide +kernel
theorem dX11_hit_20 : decode cX11_hit 20 = .ok (.iconst 0, 1) := by decide +kernel
theorem dX11_hit_21 : decode cX11_hit 21 = .ok (.putfield 88, 3) := by decide +kernel
theorem dX11_hit_24 : decode cX11_hit 24 = .ok (.aload_n 0, 1) := by decide +kernel
theorem dX11_hit_25 : decode cX11_hit 25 = .ok (.iload_n 1, 1) := by decide +kernel
theorem dX11_hit_26 : decode cX11_hit 26 = .ok (.invokevirtual 185, 3) := by decide +kernel
theorem dX11_hit_29 : decode cX11_hit 29 = .ok (.ireturn, 1) := by decide +kernel
theorem dX11_falls_0 : decode cX11_falls 0 = .ok (.aload_n 0, 1) := by decide +kernel
theorem dX11_falls_1 : decode cX11_falls 1 = .ok (.iconst 0, 1) := by decide +kernel
theorem dX11_falls_2 : decode cX11_falls 2 = .ok (.putfield 84, 3) := by decide +kernel
theorem dX11_falls_5 : decode cX11_falls 5 = .ok (.aload_n 0, 1) := by decide +kernel
theorem dX11_falls_6 : decode cX11_falls 6 = .ok (.iload_n 1, 1) := by decide +kernel
theorem dX11_falls_7 : decode cX11_falls 7 = .ok (.invokevirtual 163, 3) := by decide +kernel
theorem dX11_falls_10 : decode cX11_falls 10 = .ok (.ifCond .ne 9, 3) := by decide +kernel
theorem dX11_falls_13 : decode cX11_falls 13 = .ok (.aload_n 0, 1) := by decide +kernel
theorem dX11_falls_14 : decode cX11_falls 14 = .ok (.iconst 1, 1) := by decide +kernel
theorem dX11_falls_15 : decode cX11_falls 15 = .ok (.invokevirtual 115, 3) := by decide +kernel
theorem dX11_falls_18 : decode cX11_falls 18 = .ok (.ireturn, 1) := by decide +kernel
theorem dX11_falls_19 : decode cX11_falls 19 = .ok (.aload_n 0, 1) := by decide +kernel
theorem dX11_falls_20 : decode cX11_falls 20 = .ok (.iconst 0, 1) := by decide +kernel
theorem dX11_falls_21 : decode cX11_falls 21 = .ok (.putfield 88, 3) := by decide +kernel
theorem dX11_falls_24 : decode cX11_falls 24 = .ok (.aload_n 0, 1) := by decide +kernel
theorem dX11_falls_25 : decode cX11_falls 25 = .ok (.aload_n 0, 1) := by decide +kernel
theorem dX11_falls_26 : decode cX11_falls 26 = .ok (.iload_n 1, 1) := by decide +kernel
theorem dX11_falls_27 : decode cX11_falls 27 = .ok (.invokevirtual 185, 3) := by decide +kernel
theorem dX11_falls_30 : decode cX11_falls 30 = .ok (.invokevirtual 179, 3) := by decide +kernel
theorem dX11_falls_33 : decode cX11_falls 33 = .ok (.iconst 1, 1) := by decide +kernel
theorem dX11_falls_34 : decode cX11_falls 34 = .ok (.isub, 1) := by decide +kernel
theorem dX11_falls_35 : decode cX11_falls 35 = .ok (.ireturn, 1) := by decide +kernel
theorem dX11_liars_0 : decode cX11_liars 0 = .ok (.aload_n 0, 1) := by decide +kernel
theorem dX11_liars_1 : decode cX11_liars 1 = .ok (.iconst 0, 1) := by decide +kernel
theorem dX11_liars_2 : decode cX11_liars 2 = .ok (.putfield 84, 3) := by decide +kernel
theorem dX11_liars_5 : decode cX11_liars 5 = .ok (.aload_n 0, 1) := by decide +kernel
theorem dX11_liars_6 : decode cX11_liars 6 = .ok (.iload_n 1, 1) := by decide +kernel
theorem dX11_liars_7 : decode cX11_liars 7 = .ok (.invokevirtual 163, 3) := by decide +kernel
theorem dX11_liars_10 : decode cX11_liars 10 = .ok (.ifCond .ne 9, 3) := by decide +kernel
theorem dX11_liars_13 : decode cX11_liars 13 = .ok (.aload_n 0, 1) := by decide +kernel
theorem dX11_liars_14 : decode cX11_liars 14 = .ok (.iconst 1, 1) := by decide +kernel
theorem dX11_liars_15 : decode cX11_liars 15 = .ok (.invokevirtual 115, 3) := by decide +kernel
theorem dX11_liars_18 : decode cX11_liars 18 = .ok (.ireturn, 1) := by decide +kernel
theorem dX11_liars_19 : decode cX11_liars 19 = .ok (.aload_n 0, 1) := by decide +kernel
theorem dX11_liars_20 : decode cX11_liars 20 = .ok (.iconst 0, 1) := by decide +kernel
theorem dX11_liars_21 : decode cX11_liars 21 = .ok (.putfield 88, 3) := by decide +kernel
theorem dX11_liars_24 : decode cX11_liars 24 = .ok (.aload_n 0, 1) := by decide +kernel
theorem dX11_liars_25 : decode cX11_liars 25 = .ok (.aload_n 0, 1) := by decide +kernel
theorem dX11_liars_26 : decode cX11_liars 26 = .ok (.iload_n 1, 1) := by decide +kernel
theorem dX11_liars_27 : decode cX11_liars 27 = .ok (.iconst 0, 1) := by decide +kernel
theorem dX11_liars_28 : decode cX11_liars 28 = .ok (.invokevirtual 136, 3) := by decide +kernel
theorem dX11_liars_31 : decode cX11_liars 31 = .ok (.invokevirtual 179, 3) := by decide +kernel
theorem dX11_liars_34 : decode cX11_liars 34 = .ok (.istore_n 3, 1) := by decide +kernel
theorem dX11_liars_35 : decode cX11_liars 35 = .ok (.iconst 0, 1) := by decide +kernel
theorem dX11_liars_36 : decode cX11_liars 36 = .ok (.istore 4, 2) := by decide +kernel
theorem dX11_liars_38 : decode cX11_liars 38 = .ok (.iload 4, 2) := by decide +kernel
theorem dX11_liars_40 : decode cX11_liars 40 = .ok (.aload_n 0, 1) := by decide +kernel
theorem dX11_liars_41 : decode cX11_liars 41 = .ok (.getfield 25, 3) := by decide +kernel
theorem dX11_liars_44 : decode cX11_liars 44 = .ok (.iload_n 1, 1) := by decide +kernel
theorem dX11_liars_45 : decode cX11_liars 45 = .ok (.iaload, 1) := by decide +kernel
theorem dX11_liars_46 : decode cX11_liars 46 = .ok (.if_icmp .ge 66, 3) := by decide +kernel
theorem dX11_liars_49 : decode cX11_liars 49 = .ok (.iload 4, 2) := by decide +kernel
theorem dX11_liars_51 : decode cX11_liars 51 = .ok (.iconst 1, 1) := by decide +kernel
theorem dX11_liars_52 : decode cX11_liars 52 = .ok (.iadd, 1) := by decide +kernel
theorem dX11_liars_53 : decode cX11_liars 53 = .ok (.istore 5, 2) := by decide +kernel
theorem dX11_liars_55 : decode cX11_liars 55 = .ok (.iload 5, 2) := by decide +kernel
theorem dX11_liars_57 : decode cX11_liars 57 = .ok (.aload_n 0, 1) := by decide +kernel
theorem dX11_liars_58 : decode cX11_liars 58 = .ok (.getfield 25, 3) := by decide +kernel
theorem dX11_liars_61 : decode cX11_liars 61 = .ok (.iload_n 1, 1) := by decide +kernel
theorem dX11_liars_62 : decode cX11_liars 62 = .ok (.iaload, 1) := by decide +kernel
theorem dX11_liars_63 : decode cX11_liars 63 = .ok (.if_icmp .ge 43, 3) := by decide +kernel
theorem dX11_liars_66 : decode cX11_liars 66 = .ok (.aload_n 0, 1) := by decide +kernel
theorem dX11_liars_67 : decode cX11_liars 67 = .ok (.aload_n 0, 1) := by decide +kernel
theorem dX11_liars_68 : decode cX11_liars 68 = .ok (.iload_n 1, 1) := by decide +kernel
theorem dX11_liars_69 : decode cX11_liars 69 = .ok (.iload 4, 2) := by decide +kernel
theorem dX11_liars_71 : decode cX11_liars 71 = .ok (.invokevirtual 136, 3) := by decide +kernel
theorem dX11_liars_74 : decode cX11_liars 74 = .ok (.aload_n 0, 1) := by decide +kernel
theorem dX11_liars_75 : decode cX11_liars 75 = .ok (.iload_n 1, 1) := by decide +kernel
theorem dX11_liars_76 : decode cX11_liars 76 = .ok (.iload 5, 2) := by decide +kernel
theorem dX11_liars_78 : decode cX11_liars 78 = .ok (.invokevirtual 136, 3) := by decide +kernel
theorem dX11_liars_81 : decode cX11_liars 81 = .ok (.iand, 1) := by decide +kernel
theorem dX11_liars_82 : decode cX11_liars 82 = .ok (.invokevirtual 179, 3) := by decide +kernel
theorem dX11_liars_85 : decode cX11_liars 85 = .ok (.istore 6, 2) := by decide +kernel
theorem dX11_liars_87 : decode cX11_liars 87 = .ok (.iload 6, 2) := by decide +kernel
theorem dX11_liars_89 : decode cX11_liars 89 = .ok (.iload_n 3, 1) := by decide +kernel
theorem dX11_liars_90 : decode cX11_liars 90 = .ok (.if_icmp .ge 8, 3) := by decide +kernel
theorem dX11_liars_93 : decode cX11_liars 93 = .ok (.iload 6, 2) := by decide +kernel
theorem dX11_liars_95 : decode cX11_liars 95 = .ok (.goto 4, 3) := by decide +kernel
theorem dX11_liars_98 : decode cX11_liars 98 = .ok (.iload_n 3, 1) := by decide +kernel
theorem dX11_liars_99 : decode cX11_liars 99 = .ok (.istore_n 3, 1) := by decide +kernel
theorem dX11_liars_100 : decode cX11_liars 100 = .ok (.iinc 5 1, 3) := by decide +kernel
theorem dX11_liars_103 : decode cX11_liars 103 = .ok (.goto (-48), 3) := by decide +kernel
theorem dX11_liars_106 : decode cX11_liars 106 = .ok (.iinc 4 1, 3) := by decide +kernel
theorem dX11_liars_109 : decode cX11_liars 109 = .ok (.goto (-71), 3) := by decide +kernel
theorem dX11_liars_112 : decode cX11_liars 112 = .ok (.iload_n 3, 1) := by decide +kernel
theorem dX11_liars_113 : decode cX11_liars 113 = .ok (.ifCond .ne 7, 3) := by decide +kernel
theorem dX11_liars_116 : decode cX11_liars 116 = .ok (.iconst (-1), 1) := by decide +kernel
theorem dX11_liars_117 : decode cX11_liars 117 = .ok (.goto 18, 3) := by decide +kernel
theorem dX11_liars_120 : decode cX11_liars 120 = .ok (.iload_n 2, 1) := by decide +kernel
theorem dX11_liars_121 : decode cX11_liars 121 = .ok (.ifCond .eq 11, 3) := by decide +kernel
theorem dX11_liars_124 : decode cX11_liars 124 = .ok (.iload_n 3, 1) := by decide +kernel
theorem dX11_liars_125 : decode cX11_liars 125 = .ok (.iconst 1, 1) := by decide +kernel
theorem dX11_liars_126 : decode cX11_liars 126 = .ok (.isub, 1) := by decide +kernel
theorem dX11_liars_127 : decode cX11_liars 127 = .ok (.iconst 2, 1) := by decide +kernel
theorem dX11_liars_128 : decode cX11_liars 128 = .ok (.idiv, 1) := by decide +kernel
theorem dX11_liars_129 : decode cX11_liars 129 = .ok (.goto 6, 3) := by decide +kernel
theorem dX11_liars_132 : decode cX11_liars 132 = .ok (.iload_n 3, 1) := by decide +kernel
theorem dX11_liars_133 : decode cX11_liars 133 = .ok (.iconst 1, 1) := by decide +kernel
theorem dX11_liars_134 : decode cX11_liars 134 = .ok (.isub, 1) := by decide +kernel
theorem dX11_liars_135 : decode cX11_liars 135 = .ok (.ireturn, 1) := by decide +kernel
theorem dX11_chance_0 : decode cX11_chance 0 = .ok (.aload_n 0, 1) := by decide +kernel
theorem dX11_chance_1 : decode cX11_chance 1 = .ok (.iconst 0, 1) := by decide +kernel
theorem dX11_chance_2 : decode cX11_chance 2 = .ok (.putfield 84, 3) := by decide +kernel
theorem dX11_chance_5 : decode cX11_chance 5 = .ok (.aload_n 0, 1) := by decide +kernel
theorem dX11_chance_6 : decode cX11_chance 6 = .ok (.iload_n 1, 1) := by decide +kernel
theorem dX11_chance_7 : decode cX11_chance 7 = .ok (.invokevirtual 163, 3) := by decide +kernel
theorem dX11_chance_10 : decode cX11_chance 10 = .ok (.ifCond .ne 10, 3) := by decide +kernel
theorem dX11_chance_13 : decode cX11_chance 13 = .ok (.aload_n 0, 1) := by decide +kernel
theorem dX11_chance_14 : decode cX11_chance 14 = .ok (.iconst 1, 1) := by decide +kernel
theorem dX11_chance_15 : decode cX11_chance 15 = .ok (.invokevirtual 115, 3) := by decide +kernel
theorem dX11_chance_18 : decode cX11_chance 18 = .ok (.i2l, 1) := by decide +kernel
theorem dX11_chance_19 : decode cX11_chance 19 = .ok (.lreturn, 1) := by decide +kernel
theorem dX11_chance_20 : decode cX11_chance 20 = .ok (.aload_n 0, 1) := by decide +kernel
theorem dX11_chance_21 : decode cX11_chance 21 = .ok (.iconst 0, 1) := by decide +kernel
theorem dX11_chance_22 : decode cX11_chance 22 = .ok (.putfield 88, 3) := by decide +kernel
theorem dX11_chance_25 : decode cX11_chance 25 = .ok (.aload_n 0, 1) := by decide +kernel
theorem dX11_chance_26 : decode cX11_chance 26 = .ok (.iload_n 1, 1) := by decide +kernel
theorem dX11_chance_27 : decode cX11_chance 27 = .ok (.invokevirtual 166, 3) := by decide +kernel
theorem dX11_chance_30 : decode cX11_chance 30 = .ok (.istore_n 2, 1) := by decide +kernel
theorem dX11_chance_31 : decode cX11_chance 31 = .ok (.lconst 0, 1) := by decide +kernel
theorem dX11_chance_32 : decode cX11_chance 32 = .ok (.lstore_n 3, 1) := by decide +kernel
theorem dX11_chance_33 : decode cX11_chance 33 = .ok (.iload_n 2, 1) := by decide +kernel
theorem dX11_chance_34 : decode cX11_chance 34 = .ok (.istore 5, 2) := by decide +kernel
theorem dX11_chance_36 : decode cX11_chance 36 = .ok (.iload 5, 2) := by decide +kernel
theorem dX11_chance_38 : decode cX11_chance 38 = .ok (.ifCond .le 104, 3) := by decide +kernel
theorem dX11_chance_41 : decode cX11_chance 41 = .ok (.aload_n 0, 1) := by decide +kernel
theorem dX11_chance_42 : decode cX11_chance 42 = .ok (.iload_n 1, 1) := by decide +kernel
theorem dX11_chance_43 : decode cX11_chance 43 = .ok (.iload 5, 2) := by decide +kernel
theorem dX11_chance_45 : decode cX11_chance 45 = .ok (.invokevirtual 182, 3) := by decide +kernel
theorem dX11_chance_48 : decode cX11_chance 48 = .ok (.ifCond .ne 6, 3) := by decide +kernel
theorem dX11_chance_51 : decode cX11_chance 51 = .ok (.goto 80, 3) := by decide +kernel
theorem dX11_chance_54 : decode cX11_chance 54 = .ok (.lconst 1, 1) := by decide +kernel
theorem dX11_chance_55 : decode cX11_chance 55 = .ok (.lstore 6, 2) := by decide +kernel
theorem dX11_chance_57 : decode cX11_chance 57 = .ok (.iconst 0, 1) := by decide +kernel
theorem dX11_chance_58 : decode cX11_chance 58 = .ok (.istore 8, 2) := by decide +kernel
theorem dX11_chance_60 : decode cX11_chance 60 = .ok (.iload 8, 2) := by decide +kernel
theorem dX11_chance_62 : decode cX11_chance 62 = .ok (.bipush 16, 2) := by decide +kernel
theorem dX11_chance_64 : decode cX11_chance 64 = .ok (.if_icmp .ge 62, 3) := by decide +kernel
theorem dX11_chance_67 : decode cX11_chance 67 = .ok (.lload 6, 2) := by decide +kernel
theorem dX11_chance_69 : decode cX11_chance 69 = .ok (.iload_n 2, 1) := by decide +kernel
theorem dX11_chance_70 : decode cX11_chance 70 = .ok (.iload 8, 2) := by decide +kernel
theorem dX11_chance_72 : decode cX11_chance 72 = .ok (.ishr, 1) := by decide +kernel
theorem dX11_chance_73 : decode cX11_chance 73 = .ok (.iconst 1, 1) := by decide +kernel
theorem dX11_chance_74 : decode cX11_chance 74 = .ok (.iand, 1) := by decide +kernel
theorem dX11_chance_75 : decode cX11_chance 75 = .ok (.ifCond .ne 9, 3) := by decide +kernel
theorem dX11_chance_78 : decode cX11_chance 78 = .ok (.ldc2_w 188, 3) := by decide +kernel
theorem dX11_chance_81 : decode cX11_chance 81 = .ok (.goto 36, 3) := by decide +kernel
theorem dX11_chance_84 : decode cX11_chance 84 = .ok (.iload 5, 2) := by decide +kernel
theorem dX11_chance_86 : decode cX11_chance 86 = .ok (.iload 8, 2) := by decide +kernel
theorem dX11_chance_88 : decode cX11_chance 88 = .ok (.ishr, 1) := by decide +kernel
theorem dX11_chance_89 : decode cX11_chance 89 = .ok (.iconst 1, 1) := by decide +kernel
theorem dX11_chance_90 : decode cX11_chance 90 = .ok (.iand, 1) := by decide +kernel
theorem dX11_chance_91 : decode cX11_chance 91 = .ok (.iconst 1, 1) := by decide +kernel
theorem dX11_chance_92 : decode cX11_chance 92 = .ok (.if_icmp .ne 14, 3) := by decide +kernel
theorem dX11_chance_95 : decode cX11_chance 95 = .ok (.aload_n 0, 1) := by decide +kernel
theorem dX11_chance_96 : decode cX11_chance 96 = .ok (.getfield 13, 3) := by decide +kernel
theorem dX11_chance_99 : decode cX11_chance 99 = .ok (.iload 8, 2) := by decide +kernel
theorem dX11_chance_101 : decode cX11_chance 101 = .ok (.iaload, 1) := by decide +kernel
theorem dX11_chance_102 : decode cX11_chance 102 = .ok (.i2l, 1) := by decide +kernel
theorem dX11_chance_103 : decode cX11_chance 103 = .ok (.goto 14, 3) := by decide +kernel
theorem dX11_chance_106 : decode cX11_chance 106 = .ok (.bipush 10, 2) := by decide +kernel
theorem dX11_chance_108 : decode cX11_chance 108 = .ok (.aload_n 0, 1) := by decide +kernel
theorem dX11_chance_109 : decode cX11_chance 109 = .ok (.getfield 13, 3) := by decide +kernel
theorem dX11_chance_112 : decode cX11_chance 112 = .ok (.iload 8, 2) := by decide +kernel
theorem dX11_chance_114 : decode cX11_chance 114 = .ok (.iaload, 1) := by decide +kernel
theorem dX11_chance_115 : decode cX11_chance 115 = .ok (.isub, 1) := by decide +kernel
theorem dX11_chance_116 : decode cX11_chance 116 = .ok (.i2l, 1) := by decide +kernel
theorem dX11_chance_117 : decode cX11_chance 117 = .ok (.lmul, 1) := by decide +kernel
theorem dX11_chance_118 : decode cX11_chance 118 = .ok (.lstore 6, 2) := by decide +kernel
theorem dX11_chance_120 : decode cX11_chance 120 = .ok (.iinc 8 1, 3) := by decide +kernel
theorem dX11_chance_123 : decode cX11_chance 123 = .ok (.goto (-63), 3) := by decide +kernel
theorem dX11_chance_126 : decode cX11_chance 126 = .ok (.lload_n 3, 1) := by decide +kernel
theorem dX11_chance_127 : decode cX11_chance 127 = .ok (.lload 6, 2) := by decide +kernel
theorem dX11_chance_129 : decode cX11_chance 129 = .ok (.ladd, 1) := by decide +kernel
theorem dX11_chance_130 : decode cX11_chance 130 = .ok (.lstore_n 3, 1) := by decide +kernel
theorem dX11_chance_131 : decode cX11_chance 131 = .ok (.iload 5, 2) := by decide +kernel
theorem dX11_chance_133 : decode cX11_chance 133 = .ok (.iconst 1, 1) := by decide +kernel
theorem dX11_chance_134 : decode cX11_chance 134 = .ok (.isub, 1) := by decide +kernel
theorem dX11_chance_135 : decode cX11_chance 135 = .ok (.iload_n 2, 1) := by decide +kernel
theorem dX11_chance_136 : decode cX11_chance 136 = .ok (.iand, 1) := by decide +kernel
theorem dX11_chance_137 : decode cX11_chance 137 = .ok (.istore 5, 2) := by decide +kernel
theorem dX11_chance_139 : decode cX11_chance 139 = .ok (.goto (-103), 3) := by decide +kernel
theorem dX11_chance_142 : decode cX11_chance 142 = .ok (.lload_n 3, 1) := by decide +kernel
theorem dX11_chance_143 : decode cX11_chance 143 = .ok (.lreturn, 1) := by decide +kernel
theorem dX11_even_0 : decode cX11_even 0 = .ok (.aload_n 0, 1) := by decide +kernel
theorem dX11_even_1 : decode cX11_even 1 = .ok (.iconst 0, 1) := by decide +kernel
theorem dX11_even_2 : decode cX11_even 2 = .ok (.putfield 84, 3) := by decide +kernel
theorem dX11_even_5 : decode cX11_even 5 = .ok (.aload_n 0, 1) := by decide +kernel
theorem dX11_even_6 : decode cX11_even 6 = .ok (.iload_n 1, 1) := by decide +kernel
theorem dX11_even_7 : decode cX11_even 7 = .ok (.invokevirtual 163, 3) := by decide +kernel
theorem dX11_even_10 : decode cX11_even 10 = .ok (.ifCond .ne 9, 3) := by decide +kernel
theorem dX11_even_13 : decode cX11_even 13 = .ok (.aload_n 0, 1) := by decide +kernel
theorem dX11_even_14 : decode cX11_even 14 = .ok (.iconst 1, 1) := by decide +kernel
theorem dX11_even_15 : decode cX11_even 15 = .ok (.invokevirtual 119, 3) := by decide +kernel
theorem dX11_even_18 : decode cX11_even 18 = .ok (.ireturn, 1) := by decide +kernel
theorem dX11_even_19 : decode cX11_even 19 = .ok (.aload_n 0, 1) := by decide +kernel
theorem dX11_even_20 : decode cX11_even 20 = .ok (.invokevirtual 190, 3) := by decide +kernel
theorem dX11_even_23 : decode cX11_even 23 = .ok (.aload_n 0, 1) := by decide +kernel
theorem dX11_even_24 : decode cX11_even 24 = .ok (.iconst 1, 1) := by decide +kernel
theorem dX11_even_25 : decode cX11_even 25 = .ok (.putfield 104, 3) := by decide +kernel
theorem dX11_even_28 : decode cX11_even 28 = .ok (.aload_n 0, 1) := by decide +kernel
theorem dX11_even_29 : decode cX11_even 29 = .ok (.getfield 31, 3) := by decide +kernel
theorem dX11_even_32 : decode cX11_even 32 = .ok (.iconst 0, 1) := by decide +kernel
theorem dX11_even_33 : decode cX11_even 33 = .ok (.iload_n 1, 1) := by decide +kernel
theorem dX11_even_34 : decode cX11_even 34 = .ok (.iastore, 1) := by decide +kernel
theorem dX11_even_35 : decode cX11_even 35 = .ok (.iconst 0, 1) := by decide +kernel
theorem dX11_even_36 : decode cX11_even 36 = .ok (.istore_n 2, 1) := by decide +kernel
theorem dX11_even_37 : decode cX11_even 37 = .ok (.iload_n 2, 1) := by decide +kernel
theorem dX11_even_38 : decode cX11_even 38 = .ok (.bipush 120, 2) := by decide +kernel
theorem dX11_even_40 : decode cX11_even 40 = .ok (.if_icmp .ge 32, 3) := by decide +kernel
theorem dX11_even_43 : decode cX11_even 43 = .ok (.aload_n 0, 1) := by decide +kernel
theorem dX11_even_44 : decode cX11_even 44 = .ok (.getfield 31, 3) := by decide +kernel
theorem dX11_even_47 : decode cX11_even 47 = .ok (.iconst 1, 1) := by decide +kernel
theorem dX11_even_48 : decode cX11_even 48 = .ok (.iload_n 2, 1) := by decide +kernel
theorem dX11_even_49 : decode cX11_even 49 = .ok (.iadd, 1) := by decide +kernel
theorem dX11_even_50 : decode cX11_even 50 = .ok (.iload_n 2, 1) := by decide +kernel
theorem dX11_even_51 : decode cX11_even 51 = .ok (.aload_n 0, 1) := by decide +kernel
theorem dX11_even_52 : decode cX11_even 52 = .ok (.getfield 25, 3) := by decide +kernel
theorem dX11_even_55 : decode cX11_even 55 = .ok (.iload_n 1, 1) := by decide +kernel
theorem dX11_even_56 : decode cX11_even 56 = .ok (.iaload, 1) := by decide +kernel
theorem dX11_even_57 : decode cX11_even 57 = .ok (.if_icmp .ge 7, 3) := by decide +kernel
theorem dX11_even_60 : decode cX11_even 60 = .ok (.iconst 1, 1) := by decide +kernel
theorem dX11_even_61 : decode cX11_even 61 = .ok (.goto 4, 3) := by decide +kernel
theorem dX11_even_64 : decode cX11_even 64 = .ok (.iconst 0, 1) := by decide +kernel
theorem dX11_even_65 : decode cX11_even 65 = .ok (.iastore, 1) := by decide +kernel
theorem dX11_even_66 : decode cX11_even 66 = .ok (.iinc 2 1, 3) := by decide +kernel
theorem dX11_even_69 : decode cX11_even 69 = .ok (.goto (-32), 3) := by decide +kernel
theorem dX11_even_72 : decode cX11_even 72 = .ok (.iconst 1, 1) := by decide +kernel
theorem dX11_even_73 : decode cX11_even 73 = .ok (.ireturn, 1) := by decide +kernel
theorem dX11_isPart_0 : decode cX11_isPart 0 = .ok (.aload_n 0, 1) := by decide +kernel
theorem dX11_isPart_1 : decode cX11_isPart 1 = .ok (.getfield 104, 3) := by decide +kernel
theorem dX11_isPart_4 : decode cX11_isPart 4 = .ok (.ifCond .eq 29, 3) := by decide +kernel
theorem dX11_isPart_7 : decode cX11_isPart 7 = .ok (.aload_n 0, 1) := by decide +kernel
theorem dX11_isPart_8 : decode cX11_isPart 8 = .ok (.iload_n 1, 1) := by decide +kernel
theorem dX11_isPart_9 : decode cX11_isPart 9 = .ok (.iconst 0, 1) := by decide +kernel
theorem dX11_isPart_10 : decode cX11_isPart 10 = .ok (.aload_n 0, 1) := by decide +kernel
theorem dX11_isPart_11 : decode cX11_isPart 11 = .ok (.getfield 25, 3) := by decide +kernel
theorem dX11_isPart_14 : decode cX11_isPart 14 = .ok (.aload_n 0, 1) := by decide +kernel
theorem dX11_isPart_15 : decode cX11_isPart 15 = .ok (.getfield 31, 3) := by decide +kernel
theorem dX11_isPart_18 : decode cX11_isPart 18 = .ok (.iconst 0, 1) := by decide +kernel
theorem dX11_isPart_19 : decode cX11_isPart 19 = .ok (.iaload, 1) := by decide +kernel
theorem dX11_isPart_20 : decode cX11_isPart 20 = .ok (.iaload, 1) := by decide +kernel
theorem dX11_isPart_21 : decode cX11_isPart 21 = .ok (.iconst 1, 1) := by decide +kernel
theorem dX11_isPart_22 : decode cX11_isPart 22 = .ok (.isub, 1) := by decide +kernel
theorem dX11_isPart_23 : decode cX11_isPart 23 = .ok (.invokevirtual 97, 3) := by decide +kernel
theorem dX11_isPart_26 : decode cX11_isPart 26 = .ok (.ifCond .eq 7, 3) := by decide +kernel
theorem dX11_isPart_29 : decode cX11_isPart 29 = .ok (.iconst 1, 1) := by decide +kernel
theorem dX11_isPart_30 : decode cX11_isPart 30 = .ok (.goto 4, 3) := by decide +kernel
theorem dX11_isPart_33 : decode cX11_isPart 33 = .ok (.iconst 0, 1) := by decide +kernel
theorem dX11_isPart_34 : decode cX11_isPart 34 = .ok (.ireturn, 1) := by decide +kernel
theorem dX11_allParts_0 : decode cX11_allParts 0 = .ok (.iconst 0, 1) := by decide +kernel
theorem dX11_allParts_1 : decode cX11_allParts 1 = .ok (.istore_n 1, 1) := by decide +kernel
theorem dX11_allParts_2 : decode cX11_allParts 2 = .ok (.iconst 0, 1) := by decide +kernel
theorem dX11_allParts_3 : decode cX11_allParts 3 = .ok (.istore_n 2, 1) := by decide +kernel
theorem dX11_allParts_4 : decode cX11_allParts 4 = .ok (.iload_n 2, 1) := by decide +kernel
theorem dX11_allParts_5 : decode cX11_allParts 5 = .ok (.aload_n 0, 1) := by decide +kernel
theorem dX11_allParts_6 : decode cX11_allParts 6 = .ok (.getfield 25, 3) := by decide +kernel
theorem dX11_allParts_9 : decode cX11_allParts 9 = .ok (.aload_n 0, 1) := by decide +kernel
theorem dX11_allParts_10 : decode cX11_allParts 10 = .ok (.getfield 31, 3) := by decide +kernel
theorem dX11_allParts_13 : decode cX11_allParts 13 = .ok (.iconst 0, 1) := by decide +kernel
theorem dX11_allParts_14 : decode cX11_allParts 14 = .ok (.iaload, 1) := by decide +kernel
theorem dX11_allParts_15 : decode cX11_allParts 15 = .ok (.iaload, 1) := by decide +kernel
theorem dX11_allParts_16 : decode cX11_allParts 16 = .ok (.if_icmp .ge 20, 3) := by decide +kernel
theorem dX11_allParts_19 : decode cX11_allParts 19 = .ok (.iload_n 1, 1) := by decide +kernel
theorem dX11_allParts_20 : decode cX11_allParts 20 = .ok (.aload_n 0, 1) := by decide +kernel
theorem dX11_allParts_21 : decode cX11_allParts 21 = .ok (.getfield 31, 3) := by decide +kernel
theorem dX11_allParts_24 : decode cX11_allParts 24 = .ok (.iconst 1, 1) := by decide +kernel
theorem dX11_allParts_25 : decode cX11_allParts 25 = .ok (.iload_n 2, 1) := by decide +kernel
theorem dX11_allParts_26 : decode cX11_allParts 26 = .ok (.iadd, 1) := by decide +kernel
theorem dX11_allParts_27 : decode cX11_allParts 27 = .ok (.iaload, 1) := by decide +kernel
theorem dX11_allParts_28 : decode cX11_allParts 28 = .ok (.iadd, 1) := by decide +kernel
theorem dX11_allParts_29 : decode cX11_allParts 29 = .ok (.istore_n 1, 1) := by decide +kernel
theorem dX11_allParts_30 : decode cX11_allParts 30 = .ok (.iinc 2 1, 3) := by decide +kernel
theorem dX11_allParts_33 : decode cX11_allParts 33 = .ok (.goto (-29), 3) := by decide +kernel
theorem dX11_allParts_36 : decode cX11_allParts 36 = .ok (.iload_n 1, 1) := by decide +kernel
theorem dX11_allParts_37 : decode cX11_allParts 37 = .ok (.ireturn, 1) := by decide +kernel
theorem dX11_part_0 : decode cX11_part 0 = .ok (.aload_n 0, 1) := by decide +kernel
theorem dX11_part_1 : decode cX11_part 1 = .ok (.iconst 0, 1) := by decide +kernel
theorem dX11_part_2 : decode cX11_part 2 = .ok (.putfield 84, 3) := by decide +kernel
theorem dX11_part_5 : decode cX11_part 5 = .ok (.aload_n 0, 1) := by decide +kernel
theorem dX11_part_6 : decode cX11_part 6 = .ok (.iload_n 1, 1) := by decide +kernel
theorem dX11_part_7 : decode cX11_part 7 = .ok (.invokevirtual 193, 3) := by decide +kernel
theorem dX11_part_10 : decode cX11_part 10 = .ok (.ifCond .ne 9, 3) := by decide +kernel
theorem dX11_part_13 : decode cX11_part 13 = .ok (.aload_n 0, 1) := by decide +kernel
theorem dX11_part_14 : decode cX11_part 14 = .ok (.iconst 1, 1) := by decide +kernel
theorem dX11_part_15 : decode cX11_part 15 = .ok (.invokevirtual 119, 3) := by decide +kernel
theorem dX11_part_18 : decode cX11_part 18 = .ok (.ireturn, 1) := by decide +kernel
theorem dX11_part_19 : decode cX11_part 19 = .ok (.aload_n 0, 1) := by decide +kernel
theorem dX11_part_20 : decode cX11_part 20 = .ok (.iload_n 2, 1) := by decide +kernel
theorem dX11_part_21 : decode cX11_part 21 = .ok (.iconst 0, 1) := by decide +kernel
theorem dX11_part_22 : decode cX11_part 22 = .ok (.sipush 1000, 3) := by decide +kernel
theorem dX11_part_25 : decode cX11_part 25 = .ok (.invokevirtual 97, 3) := by decide +kernel
theorem dX11_part_28 : decode cX11_part 28 = .ok (.ifCond .eq 21, 3) := by decide +kernel
theorem dX11_part_31 : decode cX11_part 31 = .ok (.aload_n 0, 1) := by decide +kernel
theorem dX11_part_32 : decode cX11_part 32 = .ok (.invokevirtual 196, 3) := by decide +kernel
theorem dX11_part_35 : decode cX11_part 35 = .ok (.aload_n 0, 1) := by decide +kernel
theorem dX11_part_36 : decode cX11_part 36 = .ok (.getfield 31, 3) := by decide +kernel
theorem dX11_part_39 : decode cX11_part 39 = .ok (.iconst 1, 1) := by decide +kernel
theorem dX11_part_40 : decode cX11_part 40 = .ok (.iload_n 1, 1) := by decide +kernel
theorem dX11_part_41 : decode cX11_part 41 = .ok (.iadd, 1) := by decide +kernel
theorem dX11_part_42 : decode cX11_part 42 = .ok (.iaload, 1) := by decide +kernel
theorem dX11_part_43 : decode cX11_part 43 = .ok (.isub, 1) := by decide +kernel
theorem dX11_part_44 : decode cX11_part 44 = .ok (.iload_n 2, 1) := by decide +kernel
theorem dX11_part_45 : decode cX11_part 45 = .ok (.iadd, 1) := by decide +kernel
theorem dX11_part_46 : decode cX11_part 46 = .ok (.ifCond .ne 9, 3) := by decide +kernel
theorem dX11_part_49 : decode cX11_part 49 = .ok (.aload_n 0, 1) := by decide +kernel
theorem dX11_part_50 : decode cX11_part 50 = .ok (.iconst 2, 1) := by decide +kernel
theorem dX11_part_51 : decode cX11_part 51 = .ok (.invokevirtual 119, 3) := by decide +kernel
theorem dX11_part_54 : decode cX11_part 54 = .ok (.ireturn, 1) := by decide +kernel
theorem dX11_part_55 : decode cX11_part 55 = .ok (.aload_n 0, 1) := by decide +kernel
theorem dX11_part_56 : decode cX11_part 56 = .ok (.invokevirtual 190, 3) := by decide +kernel
theorem dX11_part_59 : decode cX11_part 59 = .ok (.aload_n 0, 1) := by decide +kernel
theorem dX11_part_60 : decode cX11_part 60 = .ok (.getfield 31, 3) := by decide +kernel
theorem dX11_part_63 : decode cX11_part 63 = .ok (.iconst 1, 1) := by decide +kernel
theorem dX11_part_64 : decode cX11_part 64 = .ok (.iload_n 1, 1) := by decide +kernel
theorem dX11_part_65 : decode cX11_part 65 = .ok (.iadd, 1) := by decide +kernel
theorem dX11_part_66 : decode cX11_part 66 = .ok (.iload_n 2, 1) := by decide +kernel
theorem dX11_part_67 : decode cX11_part 67 = .ok (.iastore, 1) := by decide +kernel
theorem dX11_part_68 : decode cX11_part 68 = .ok (.iconst 1, 1) := by decide +kernel
theorem dX11_part_69 : decode cX11_part 69 = .ok (.ireturn, 1) := by decide +kernel
theorem dX11_partOf_0 : decode cX11_partOf 0 = .ok (.aload_n 0, 1) := by decide +kernel
theorem dX11_partOf_1 : decode cX11_partOf 1 = .ok (.iconst 0, 1) := by decide +kernel
theorem dX11_partOf_2 : decode cX11_partOf 2 = .ok (.putfield 84, 3) := by decide +kernel
theorem dX11_partOf_5 : decode cX11_partOf 5 = .ok (.aload_n 0, 1) := by decide +kernel
theorem dX11_partOf_6 : decode cX11_partOf 6 = .ok (.iload_n 1, 1) := by decide +kernel
theorem dX11_partOf_7 : decode cX11_partOf 7 = .ok (.invokevirtual 193, 3) := by decide +kernel
theorem dX11_partOf_10 : decode cX11_partOf 10 = .ok (.ifCond .eq 14, 3) := by decide +kernel
theorem dX11_partOf_13 : decode cX11_partOf 13 = .ok (.aload_n 0, 1) := by decide +kernel
theorem dX11_partOf_14 : decode cX11_partOf 14 = .ok (.getfield 31, 3) := by decide +kernel
theorem dX11_partOf_17 : decode cX11_partOf 17 = .ok (.iconst 1, 1) := by decide +kernel
theorem dX11_partOf_18 : decode cX11_partOf 18 = .ok (.iload_n 1, 1) := by decide +kernel
theorem dX11_partOf_19 : decode cX11_partOf 19 = .ok (.iadd, 1) := by decide +kernel
theorem dX11_partOf_20 : decode cX11_partOf 20 = .ok (.iaload, 1) := by decide +kernel
theorem dX11_partOf_21 : decode cX11_partOf 21 = .ok (.goto 4, 3) := by decide +kernel
theorem dX11_partOf_24 : decode cX11_partOf 24 = .ok (.iconst (-1), 1) := by decide +kernel
theorem dX11_partOf_25 : decode cX11_partOf 25 = .ok (.ireturn, 1) := by decide +kernel
theorem dX11_divisor_0 : decode cX11_divisor 0 = .ok (.iload_n 1, 1) := by decide +kernel
theorem dX11_divisor_1 : decode cX11_divisor 1 = .ok (.istore_n 3, 1) := by decide +kernel
theorem dX11_divisor_2 : decode cX11_divisor 2 = .ok (.iload_n 2, 1) := by decide +kernel
theorem dX11_divisor_3 : decode cX11_divisor 3 = .ok (.istore 4, 2) := by decide +kernel
theorem dX11_divisor_5 : decode cX11_divisor 5 = .ok (.iload 4, 2) := by decide +kernel
theorem dX11_divisor_7 : decode cX11_divisor 7 = .ok (.ifCond .eq 19, 3) := by decide +kernel
theorem dX11_divisor_10 : decode cX11_divisor 10 = .ok (.iload_n 3, 1) := by decide +kernel
theorem dX11_divisor_11 : decode cX11_divisor 11 = .ok (.iload 4, 2) := by decide +kernel
theorem dX11_divisor_13 : decode cX11_divisor 13 = .ok (.irem, 1) := by decide +kernel
theorem dX11_divisor_14 : decode cX11_divisor 14 = .ok (.istore 5, 2) := by decide +kernel
theorem dX11_divisor_16 : decode cX11_divisor 16 = .ok (.iload 4, 2) := by decide +kernel
theorem dX11_divisor_18 : decode cX11_divisor 18 = .ok (.istore_n 3, 1) := by decide +kernel
theorem dX11_divisor_19 : decode cX11_divisor 19 = .ok (.iload 5, 2) := by decide +kernel
theorem dX11_divisor_21 : decode cX11_divisor 21 = .ok (.istore 4, 2) := by decide +kernel
theorem dX11_divisor_23 : decode cX11_divisor 23 = .ok (.goto (-18), 3) := by decide +kernel
theorem dX11_divisor_26 : decode cX11_divisor 26 = .ok (.iload_n 3, 1) := by decide +kernel
theorem dX11_divisor_27 : decode cX11_divisor 27 = .ok (.ireturn, 1) := by decide +kernel
theorem dX11_fraction_0 : decode cX11_fraction 0 = .ok (.aload_n 0, 1) := by decide +kernel
theorem dX11_fraction_1 : decode cX11_fraction 1 = .ok (.iload_n 1, 1) := by decide +kernel
theorem dX11_fraction_2 : decode cX11_fraction 2 = .ok (.iload_n 2, 1) := by decide +kernel
theorem dX11_fraction_3 : decode cX11_fraction 3 = .ok (.invokevirtual 200, 3) := by decide +kernel
theorem dX11_fraction_6 : decode cX11_fraction 6 = .ok (.istore_n 3, 1) := by decide +kernel
theorem dX11_fraction_7 : decode cX11_fraction 7 = .ok (.aload_n 0, 1) := by decide +kernel
theorem dX11_fraction_8 : decode cX11_fraction 8 = .ok (.iload_n 1, 1) := by decide +kernel
theorem dX11_fraction_9 : decode cX11_fraction 9 = .ok (.iload_n 3, 1) := by decide +kernel
theorem dX11_fraction_10 : decode cX11_fraction 10 = .ok (.idiv, 1) := by decide +kernel
theorem dX11_fraction_11 : decode cX11_fraction 11 = .ok (.putfield 203, 3) := by decide +kernel
theorem dX11_fraction_14 : decode cX11_fraction 14 = .ok (.aload_n 0, 1) := by decide +kernel
theorem dX11_fraction_15 : decode cX11_fraction 15 = .ok (.iload_n 2, 1) := by decide +kernel
theorem dX11_fraction_16 : decode cX11_fraction 16 = .ok (.iload_n 3, 1) := by decide +kernel
theorem dX11_fraction_17 : decode cX11_fraction 17 = .ok (.idiv, 1) := by decide +kernel
theorem dX11_fraction_18 : decode cX11_fraction 18 = .ok (.putfield 206, 3) := by decide +kernel
theorem dX11_fraction_21 : decode cX11_fraction 21 = .ok (.return_, 1) := by decide +kernel
theorem dX11_loadsOf_0 : decode cX11_loadsOf 0 = .ok (.iconst 0, 1) := by decide +kernel
theorem dX11_loadsOf_1 : decode cX11_loadsOf 1 = .ok (.istore_n 2, 1) := by decide +kernel
theorem dX11_loadsOf_2 : decode cX11_loadsOf 2 = .ok (.iconst 0, 1) := by decide +kernel
theorem dX11_loadsOf_3 : decode cX11_loadsOf 3 = .ok (.istore_n 3, 1) := by decide +kernel
theorem dX11_loadsOf_4 : decode cX11_loadsOf 4 = .ok (.iload_n 3, 1) := by decide +kernel
theorem dX11_loadsOf_5 : decode cX11_loadsOf 5 = .ok (.aload_n 0, 1) := by decide +kernel
theorem dX11_loadsOf_6 : decode cX11_loadsOf 6 = .ok (.getfield 25, 3) := by decide +kernel
theorem dX11_loadsOf_9 : decode cX11_loadsOf 9 = .ok (.aload_n 0, 1) := by decide +kernel
theorem dX11_loadsOf_10 : decode cX11_loadsOf 10 = .ok (.getfield 31, 3) := by decide +kernel
theorem dX11_loadsOf_13 : decode cX11_loadsOf 13 = .ok (.iconst 0, 1) := by decide +kernel
theorem dX11_loadsOf_14 : decode cX11_loadsOf 14 = .ok (.iaload, 1) := by decide +kernel
theorem dX11_loadsOf_15 : decode cX11_loadsOf 15 = .ok (.iaload, 1) := by decide +kernel
theorem dX11_loadsOf_16 : decode cX11_loadsOf 16 = .ok (.if_icmp .ge 43, 3) := by decide +kernel
theorem dX11_loadsOf_19 : decode cX11_loadsOf 19 = .ok (.iload_n 2, 1) := by decide +kernel
theorem dX11_loadsOf_20 : decode cX11_loadsOf 20 = .ok (.aload_n 0, 1) := by decide +kernel
theorem dX11_loadsOf_21 : decode cX11_loadsOf 21 = .ok (.aload_n 0, 1) := by decide +kernel
theorem dX11_loadsOf_22 : decode cX11_loadsOf 22 = .ok (.getfield 31, 3) := by decide +kernel
theorem dX11_loadsOf_25 : decode cX11_loadsOf 25 = .ok (.iconst 0, 1) := by decide +kernel
theorem dX11_loadsOf_26 : decode cX11_loadsOf 26 = .ok (.iaload, 1) := by decide +kernel
theorem dX11_loadsOf_27 : decode cX11_loadsOf 27 = .ok (.iload_n 3, 1) := by decide +kernel
theorem dX11_loadsOf_28 : decode cX11_loadsOf 28 = .ok (.invokevirtual 136, 3) := by decide +kernel
end
section
theorem dX11_loadsOf_31 : decode cX11_loadsOf 31 = .ok (.iload_n 1, 1) := by decide +kernel
theorem dX11_loadsOf_32 : decode cX11_loadsOf 32 = .ok (.ishr, 1) := by decide +kernel
theorem dX11_loadsOf_33 : decode cX11_loadsOf 33 = .ok (.iconst 1, 1) := by decide +kernel
theorem dX11_loadsOf_34 : decode cX11_loadsOf 34 = .ok (.iand, 1) := by decide +kernel
theorem dX11_loadsOf_35 : decode cX11_loadsOf 35 = .ok (.iconst 1, 1) := by decide +kernel
theorem dX11_loadsOf_36 : decode cX11_loadsOf 36 = .ok (.if_icmp .ne 14, 3) := by decide +kernel
theorem dX11_loadsOf_39 : decode cX11_loadsOf 39 = .ok (.aload_n 0, 1) := by decide +kernel
theorem dX11_loadsOf_40 : decode cX11_loadsOf 40 = .ok (.getfield 31, 3) := by decide +kernel
theorem dX11_loadsOf_43 : decode cX11_loadsOf 43 = .ok (.iconst 1, 1) := by decide +kernel
theorem dX11_loadsOf_44 : decode cX11_loadsOf 44 = .ok (.iload_n 3, 1) := by decide +kernel
theorem dX11_loadsOf_45 : decode cX11_loadsOf 45 = .ok (.iadd, 1) := by decide +kernel
theorem dX11_loadsOf_46 : decode cX11_loadsOf 46 = .ok (.iaload, 1) := by decide +kernel
theorem dX11_loadsOf_47 : decode cX11_loadsOf 47 = .ok (.goto 4, 3) := by decide +kernel
theorem dX11_loadsOf_50 : decode cX11_loadsOf 50 = .ok (.iconst 0, 1) := by decide +kernel
theorem dX11_loadsOf_51 : decode cX11_loadsOf 51 = .ok (.iadd, 1) := by decide +kernel
theorem dX11_loadsOf_52 : decode cX11_loadsOf 52 = .ok (.istore_n 2, 1) := by decide +kernel
theorem dX11_loadsOf_53 : decode cX11_loadsOf 53 = .ok (.iinc 3 1, 3) := by decide +kernel
theorem dX11_loadsOf_56 : decode cX11_loadsOf 56 = .ok (.goto (-52), 3) := by decide +kernel
theorem dX11_loadsOf_59 : decode cX11_loadsOf 59 = .ok (.aload_n 0, 1) := by decide +kernel
theorem dX11_loadsOf_60 : decode cX11_loadsOf 60 = .ok (.iload_n 2, 1) := by decide +kernel
theorem dX11_loadsOf_61 : decode cX11_loadsOf 61 = .ok (.aload_n 0, 1) := by decide +kernel
theorem dX11_loadsOf_62 : decode cX11_loadsOf 62 = .ok (.invokevirtual 196, 3) := by decide +kernel
theorem dX11_loadsOf_65 : decode cX11_loadsOf 65 = .ok (.aload_n 0, 1) := by decide +kernel
theorem dX11_loadsOf_66 : decode cX11_loadsOf 66 = .ok (.getfield 7, 3) := by decide +kernel
theorem dX11_loadsOf_69 : decode cX11_loadsOf 69 = .ok (.iload_n 1, 1) := by decide +kernel
theorem dX11_loadsOf_70 : decode cX11_loadsOf 70 = .ok (.iaload, 1) := by decide +kernel
theorem dX11_loadsOf_71 : decode cX11_loadsOf 71 = .ok (.imul, 1) := by decide +kernel
theorem dX11_loadsOf_72 : decode cX11_loadsOf 72 = .ok (.invokevirtual 209, 3) := by decide +kernel
theorem dX11_loadsOf_75 : decode cX11_loadsOf 75 = .ok (.return_, 1) := by decide +kernel
theorem dX11_loaded_0 : decode cX11_loaded 0 = .ok (.iconst 0, 1) := by decide +kernel
theorem dX11_loaded_1 : decode cX11_loaded 1 = .ok (.istore_n 1, 1) := by decide +kernel
theorem dX11_loaded_2 : decode cX11_loaded 2 = .ok (.iconst 0, 1) := by decide +kernel
theorem dX11_loaded_3 : decode cX11_loaded 3 = .ok (.istore_n 2, 1) := by decide +kernel
theorem dX11_loaded_4 : decode cX11_loaded 4 = .ok (.iconst 1, 1) := by decide +kernel
theorem dX11_loaded_5 : decode cX11_loaded 5 = .ok (.istore_n 3, 1) := by decide +kernel
theorem dX11_loaded_6 : decode cX11_loaded 6 = .ok (.iconst 0, 1) := by decide +kernel
theorem dX11_loaded_7 : decode cX11_loaded 7 = .ok (.istore 4, 2) := by decide +kernel
theorem dX11_loaded_9 : decode cX11_loaded 9 = .ok (.iload 4, 2) := by decide +kernel
theorem dX11_loaded_11 : decode cX11_loaded 11 = .ok (.aload_n 0, 1) := by decide +kernel
theorem dX11_loaded_12 : decode cX11_loaded 12 = .ok (.getfield 91, 3) := by decide +kernel
theorem dX11_loaded_15 : decode cX11_loaded 15 = .ok (.if_icmp .ge 51, 3) := by decide +kernel
theorem dX11_loaded_18 : decode cX11_loaded 18 = .ok (.aload_n 0, 1) := by decide +kernel
theorem dX11_loaded_19 : decode cX11_loaded 19 = .ok (.iload 4, 2) := by decide +kernel
theorem dX11_loaded_21 : decode cX11_loaded 21 = .ok (.invokevirtual 212, 3) := by decide +kernel
theorem dX11_loaded_24 : decode cX11_loaded 24 = .ok (.aload_n 0, 1) := by decide +kernel
theorem dX11_loaded_25 : decode cX11_loaded 25 = .ok (.getfield 203, 3) := by decide +kernel
theorem dX11_loaded_28 : decode cX11_loaded 28 = .ok (.i2l, 1) := by decide +kernel
theorem dX11_loaded_29 : decode cX11_loaded 29 = .ok (.iload_n 3, 1) := by decide +kernel
theorem dX11_loaded_30 : decode cX11_loaded 30 = .ok (.i2l, 1) := by decide +kernel
theorem dX11_loaded_31 : decode cX11_loaded 31 = .ok (.lmul, 1) := by decide +kernel
theorem dX11_loaded_32 : decode cX11_loaded 32 = .ok (.iload_n 2, 1) := by decide +kernel
theorem dX11_loaded_33 : decode cX11_loaded 33 = .ok (.i2l, 1) := by decide +kernel
theorem dX11_loaded_34 : decode cX11_loaded 34 = .ok (.aload_n 0, 1) := by decide +kernel
theorem dX11_loaded_35 : decode cX11_loaded 35 = .ok (.getfield 206, 3) := by decide +kernel
theorem dX11_loaded_38 : decode cX11_loaded 38 = .ok (.i2l, 1) := by decide +kernel
theorem dX11_loaded_39 : decode cX11_loaded 39 = .ok (.lmul, 1) := by decide +kernel
theorem dX11_loaded_40 : decode cX11_loaded 40 = .ok (.lcmp, 1) := by decide +kernel
theorem dX11_loaded_41 : decode cX11_loaded 41 = .ok (.ifCond .gt 6, 3) := by decide +kernel
theorem dX11_loaded_44 : decode cX11_loaded 44 = .ok (.goto 16, 3) := by decide +kernel
theorem dX11_loaded_47 : decode cX11_loaded 47 = .ok (.iload 4, 2) := by decide +kernel
theorem dX11_loaded_49 : decode cX11_loaded 49 = .ok (.istore_n 1, 1) := by decide +kernel
theorem dX11_loaded_50 : decode cX11_loaded 50 = .ok (.aload_n 0, 1) := by decide +kernel
theorem dX11_loaded_51 : decode cX11_loaded 51 = .ok (.getfield 203, 3) := by decide +kernel
theorem dX11_loaded_54 : decode cX11_loaded 54 = .ok (.istore_n 2, 1) := by decide +kernel
theorem dX11_loaded_55 : decode cX11_loaded 55 = .ok (.aload_n 0, 1) := by decide +kernel
theorem dX11_loaded_56 : decode cX11_loaded 56 = .ok (.getfield 206, 3) := by decide +kernel
theorem dX11_loaded_59 : decode cX11_loaded 59 = .ok (.istore_n 3, 1) := by decide +kernel
theorem dX11_loaded_60 : decode cX11_loaded 60 = .ok (.iinc 4 1, 3) := by decide +kernel
theorem dX11_loaded_63 : decode cX11_loaded 63 = .ok (.goto (-54), 3) := by decide +kernel
theorem dX11_loaded_66 : decode cX11_loaded 66 = .ok (.aload_n 0, 1) := by decide +kernel
theorem dX11_loaded_67 : decode cX11_loaded 67 = .ok (.iload_n 2, 1) := by decide +kernel
theorem dX11_loaded_68 : decode cX11_loaded 68 = .ok (.putfield 203, 3) := by decide +kernel
theorem dX11_loaded_71 : decode cX11_loaded 71 = .ok (.aload_n 0, 1) := by decide +kernel
theorem dX11_loaded_72 : decode cX11_loaded 72 = .ok (.iload_n 3, 1) := by decide +kernel
theorem dX11_loaded_73 : decode cX11_loaded 73 = .ok (.putfield 206, 3) := by decide +kernel
theorem dX11_loaded_76 : decode cX11_loaded 76 = .ok (.iload_n 1, 1) := by decide +kernel
theorem dX11_loaded_77 : decode cX11_loaded 77 = .ok (.ireturn, 1) := by decide +kernel
theorem dX11_load_0 : decode cX11_load 0 = .ok (.aload_n 0, 1) := by decide +kernel
theorem dX11_load_1 : decode cX11_load 1 = .ok (.iconst 0, 1) := by decide +kernel
theorem dX11_load_2 : decode cX11_load 2 = .ok (.putfield 84, 3) := by decide +kernel
theorem dX11_load_5 : decode cX11_load 5 = .ok (.aload_n 0, 1) := by decide +kernel
theorem dX11_load_6 : decode cX11_load 6 = .ok (.getfield 104, 3) := by decide +kernel
theorem dX11_load_9 : decode cX11_load 9 = .ok (.ifCond .eq 13, 3) := by decide +kernel
theorem dX11_load_12 : decode cX11_load 12 = .ok (.aload_n 0, 1) := by decide +kernel
theorem dX11_load_13 : decode cX11_load 13 = .ok (.iload_n 1, 1) := by decide +kernel
theorem dX11_load_14 : decode cX11_load 14 = .ok (.iconst 0, 1) := by decide +kernel
theorem dX11_load_15 : decode cX11_load 15 = .ok (.iconst 3, 1) := by decide +kernel
theorem dX11_load_16 : decode cX11_load 16 = .ok (.invokevirtual 97, 3) := by decide +kernel
theorem dX11_load_19 : decode cX11_load 19 = .ok (.ifCond .ne 5, 3) := by decide +kernel
theorem dX11_load_22 : decode cX11_load 22 = .ok (.iconst (-1), 1) := by decide +kernel
theorem dX11_load_23 : decode cX11_load 23 = .ok (.ireturn, 1) := by decide +kernel
theorem dX11_load_24 : decode cX11_load 24 = .ok (.aload_n 0, 1) := by decide +kernel
theorem dX11_load_25 : decode cX11_load 25 = .ok (.invokevirtual 215, 3) := by decide +kernel
theorem dX11_load_28 : decode cX11_load 28 = .ok (.istore_n 2, 1) := by decide +kernel
theorem dX11_load_29 : decode cX11_load 29 = .ok (.iload_n 1, 1) := by decide +kernel
theorem dX11_load_30 : decode cX11_load 30 = .ok (.ifCond .ne 12, 3) := by decide +kernel
theorem dX11_load_33 : decode cX11_load 33 = .ok (.aload_n 0, 1) := by decide +kernel
theorem dX11_load_34 : decode cX11_load 34 = .ok (.getfield 31, 3) := by decide +kernel
theorem dX11_load_37 : decode cX11_load 37 = .ok (.iconst 0, 1) := by decide +kernel
theorem dX11_load_38 : decode cX11_load 38 = .ok (.iaload, 1) := by decide +kernel
theorem dX11_load_39 : decode cX11_load 39 = .ok (.goto 28, 3) := by decide +kernel
theorem dX11_load_42 : decode cX11_load 42 = .ok (.iload_n 1, 1) := by decide +kernel
theorem dX11_load_43 : decode cX11_load 43 = .ok (.iconst 1, 1) := by decide +kernel
theorem dX11_load_44 : decode cX11_load 44 = .ok (.if_icmp .ne 10, 3) := by decide +kernel
theorem dX11_load_47 : decode cX11_load 47 = .ok (.aload_n 0, 1) := by decide +kernel
theorem dX11_load_48 : decode cX11_load 48 = .ok (.getfield 203, 3) := by decide +kernel
theorem dX11_load_51 : decode cX11_load 51 = .ok (.goto 16, 3) := by decide +kernel
theorem dX11_load_54 : decode cX11_load 54 = .ok (.iload_n 1, 1) := by decide +kernel
theorem dX11_load_55 : decode cX11_load 55 = .ok (.iconst 2, 1) := by decide +kernel
theorem dX11_load_56 : decode cX11_load 56 = .ok (.if_icmp .ne 10, 3) := by decide +kernel
theorem dX11_load_59 : decode cX11_load 59 = .ok (.aload_n 0, 1) := by decide +kernel
theorem dX11_load_60 : decode cX11_load 60 = .ok (.getfield 206, 3) := by decide +kernel
theorem dX11_load_63 : decode cX11_load 63 = .ok (.goto 4, 3) := by decide +kernel
theorem dX11_load_66 : decode cX11_load 66 = .ok (.iload_n 2, 1) := by decide +kernel
theorem dX11_load_67 : decode cX11_load 67 = .ok (.ireturn, 1) := by decide +kernel
theorem dX11_loadOf_0 : decode cX11_loadOf 0 = .ok (.aload_n 0, 1) := by decide +kernel
theorem dX11_loadOf_1 : decode cX11_loadOf 1 = .ok (.iconst 0, 1) := by decide +kernel
theorem dX11_loadOf_2 : decode cX11_loadOf 2 = .ok (.putfield 84, 3) := by decide +kernel
theorem dX11_loadOf_5 : decode cX11_loadOf 5 = .ok (.aload_n 0, 1) := by decide +kernel
theorem dX11_loadOf_6 : decode cX11_loadOf 6 = .ok (.getfield 104, 3) := by decide +kernel
theorem dX11_loadOf_9 : decode cX11_loadOf 9 = .ok (.ifCond .eq 18, 3) := by decide +kernel
theorem dX11_loadOf_12 : decode cX11_loadOf 12 = .ok (.aload_n 0, 1) := by decide +kernel
theorem dX11_loadOf_13 : decode cX11_loadOf 13 = .ok (.iload_n 1, 1) := by decide +kernel
theorem dX11_loadOf_14 : decode cX11_loadOf 14 = .ok (.iconst 0, 1) := by decide +kernel
theorem dX11_loadOf_15 : decode cX11_loadOf 15 = .ok (.aload_n 0, 1) := by decide +kernel
theorem dX11_loadOf_16 : decode cX11_loadOf 16 = .ok (.getfield 91, 3) := by decide +kernel
theorem dX11_loadOf_19 : decode cX11_loadOf 19 = .ok (.iconst 1, 1) := by decide +kernel
theorem dX11_loadOf_20 : decode cX11_loadOf 20 = .ok (.isub, 1) := by decide +kernel
theorem dX11_loadOf_21 : decode cX11_loadOf 21 = .ok (.invokevirtual 97, 3) := by decide +kernel
theorem dX11_loadOf_24 : decode cX11_loadOf 24 = .ok (.ifCond .ne 5, 3) := by decide +kernel
theorem dX11_loadOf_27 : decode cX11_loadOf 27 = .ok (.iconst (-1), 1) := by decide +kernel
theorem dX11_loadOf_28 : decode cX11_loadOf 28 = .ok (.ireturn, 1) := by decide +kernel
theorem dX11_loadOf_29 : decode cX11_loadOf 29 = .ok (.aload_n 0, 1) := by decide +kernel
theorem dX11_loadOf_30 : decode cX11_loadOf 30 = .ok (.iload_n 1, 1) := by decide +kernel
theorem dX11_loadOf_31 : decode cX11_loadOf 31 = .ok (.invokevirtual 212, 3) := by decide +kernel
theorem dX11_loadOf_34 : decode cX11_loadOf 34 = .ok (.iload_n 2, 1) := by decide +kernel
theorem dX11_loadOf_35 : decode cX11_loadOf 35 = .ok (.ifCond .eq 10, 3) := by decide +kernel
theorem dX11_loadOf_38 : decode cX11_loadOf 38 = .ok (.aload_n 0, 1) := by decide +kernel
theorem dX11_loadOf_39 : decode cX11_loadOf 39 = .ok (.getfield 206, 3) := by decide +kernel
theorem dX11_loadOf_42 : decode cX11_loadOf 42 = .ok (.goto 7, 3) := by decide +kernel
theorem dX11_loadOf_45 : decode cX11_loadOf 45 = .ok (.aload_n 0, 1) := by decide +kernel
theorem dX11_loadOf_46 : decode cX11_loadOf 46 = .ok (.getfield 203, 3) := by decide +kernel
theorem dX11_loadOf_49 : decode cX11_loadOf 49 = .ok (.ireturn, 1) := by decide +kernel
theorem dX11_weight_0 : decode cX11_weight 0 = .ok (.aload_n 0, 1) := by decide +kernel
theorem dX11_weight_1 : decode cX11_weight 1 = .ok (.iconst 0, 1) := by decide +kernel
theorem dX11_weight_2 : decode cX11_weight 2 = .ok (.putfield 84, 3) := by decide +kernel
theorem dX11_weight_5 : decode cX11_weight 5 = .ok (.aload_n 0, 1) := by decide +kernel
theorem dX11_weight_6 : decode cX11_weight 6 = .ok (.iload_n 1, 1) := by decide +kernel
theorem dX11_weight_7 : decode cX11_weight 7 = .ok (.iconst 0, 1) := by decide +kernel
theorem dX11_weight_8 : decode cX11_weight 8 = .ok (.aload_n 0, 1) := by decide +kernel
theorem dX11_weight_9 : decode cX11_weight 9 = .ok (.getfield 91, 3) := by decide +kernel
theorem dX11_weight_12 : decode cX11_weight 12 = .ok (.iconst 1, 1) := by decide +kernel
theorem dX11_weight_13 : decode cX11_weight 13 = .ok (.isub, 1) := by decide +kernel
theorem dX11_weight_14 : decode cX11_weight 14 = .ok (.invokevirtual 97, 3) := by decide +kernel
theorem dX11_weight_17 : decode cX11_weight 17 = .ok (.ifCond .ne 9, 3) := by decide +kernel
theorem dX11_weight_20 : decode cX11_weight 20 = .ok (.aload_n 0, 1) := by decide +kernel
theorem dX11_weight_21 : decode cX11_weight 21 = .ok (.iconst 1, 1) := by decide +kernel
theorem dX11_weight_22 : decode cX11_weight 22 = .ok (.invokevirtual 119, 3) := by decide +kernel
theorem dX11_weight_25 : decode cX11_weight 25 = .ok (.ireturn, 1) := by decide +kernel
theorem dX11_weight_26 : decode cX11_weight 26 = .ok (.aload_n 0, 1) := by decide +kernel
theorem dX11_weight_27 : decode cX11_weight 27 = .ok (.iload_n 2, 1) := by decide +kernel
theorem dX11_weight_28 : decode cX11_weight 28 = .ok (.iconst 0, 1) := by decide +kernel
theorem dX11_weight_29 : decode cX11_weight 29 = .ok (.sipush 1000, 3) := by decide +kernel
theorem dX11_weight_32 : decode cX11_weight 32 = .ok (.invokevirtual 97, 3) := by decide +kernel
theorem dX11_weight_35 : decode cX11_weight 35 = .ok (.ifCond .ne 9, 3) := by decide +kernel
theorem dX11_weight_38 : decode cX11_weight 38 = .ok (.aload_n 0, 1) := by decide +kernel
theorem dX11_weight_39 : decode cX11_weight 39 = .ok (.iconst 2, 1) := by decide +kernel
theorem dX11_weight_40 : decode cX11_weight 40 = .ok (.invokevirtual 119, 3) := by decide +kernel
theorem dX11_weight_43 : decode cX11_weight 43 = .ok (.ireturn, 1) := by decide +kernel
theorem dX11_weight_44 : decode cX11_weight 44 = .ok (.aload_n 0, 1) := by decide +kernel
theorem dX11_weight_45 : decode cX11_weight 45 = .ok (.iconst 3, 1) := by decide +kernel
theorem dX11_weight_46 : decode cX11_weight 46 = .ok (.iload_n 1, 1) := by decide +kernel
theorem dX11_weight_47 : decode cX11_weight 47 = .ok (.aload_n 0, 1) := by decide +kernel
theorem dX11_weight_48 : decode cX11_weight 48 = .ok (.getfield 16, 3) := by decide +kernel
theorem dX11_weight_51 : decode cX11_weight 51 = .ok (.iload_n 1, 1) := by decide +kernel
theorem dX11_weight_52 : decode cX11_weight 52 = .ok (.iaload, 1) := by decide +kernel
theorem dX11_weight_53 : decode cX11_weight 53 = .ok (.invokevirtual 108, 3) := by decide +kernel
theorem dX11_weight_56 : decode cX11_weight 56 = .ok (.aload_n 0, 1) := by decide +kernel
theorem dX11_weight_57 : decode cX11_weight 57 = .ok (.getfield 16, 3) := by decide +kernel
theorem dX11_weight_60 : decode cX11_weight 60 = .ok (.iload_n 1, 1) := by decide +kernel
theorem dX11_weight_61 : decode cX11_weight 61 = .ok (.iload_n 2, 1) := by decide +kernel
theorem dX11_weight_62 : decode cX11_weight 62 = .ok (.iastore, 1) := by decide +kernel
theorem dX11_weight_63 : decode cX11_weight 63 = .ok (.iconst 1, 1) := by decide +kernel
theorem dX11_weight_64 : decode cX11_weight 64 = .ok (.ireturn, 1) := by decide +kernel
theorem dX11_boundOf_0 : decode cX11_boundOf 0 = .ok (.iconst 0, 1) := by decide +kernel
theorem dX11_boundOf_1 : decode cX11_boundOf 1 = .ok (.istore_n 2, 1) := by decide +kernel
theorem dX11_boundOf_2 : decode cX11_boundOf 2 = .ok (.iconst 0, 1) := by decide +kernel
theorem dX11_boundOf_3 : decode cX11_boundOf 3 = .ok (.istore_n 3, 1) := by decide +kernel
theorem dX11_boundOf_4 : decode cX11_boundOf 4 = .ok (.iload_n 3, 1) := by decide +kernel
theorem dX11_boundOf_5 : decode cX11_boundOf 5 = .ok (.aload_n 0, 1) := by decide +kernel
theorem dX11_boundOf_6 : decode cX11_boundOf 6 = .ok (.getfield 91, 3) := by decide +kernel
theorem dX11_boundOf_9 : decode cX11_boundOf 9 = .ok (.if_icmp .ge 25, 3) := by decide +kernel
theorem dX11_boundOf_12 : decode cX11_boundOf 12 = .ok (.iload_n 2, 1) := by decide +kernel
theorem dX11_boundOf_13 : decode cX11_boundOf 13 = .ok (.aload_n 0, 1) := by decide +kernel
theorem dX11_boundOf_14 : decode cX11_boundOf 14 = .ok (.getfield 16, 3) := by decide +kernel
theorem dX11_boundOf_17 : decode cX11_boundOf 17 = .ok (.iload_n 3, 1) := by decide +kernel
theorem dX11_boundOf_18 : decode cX11_boundOf 18 = .ok (.iaload, 1) := by decide +kernel
theorem dX11_boundOf_19 : decode cX11_boundOf 19 = .ok (.aload_n 0, 1) := by decide +kernel
theorem dX11_boundOf_20 : decode cX11_boundOf 20 = .ok (.getfield 7, 3) := by decide +kernel
theorem dX11_boundOf_23 : decode cX11_boundOf 23 = .ok (.iload_n 3, 1) := by decide +kernel
theorem dX11_boundOf_24 : decode cX11_boundOf 24 = .ok (.iaload, 1) := by decide +kernel
theorem dX11_boundOf_25 : decode cX11_boundOf 25 = .ok (.imul, 1) := by decide +kernel
theorem dX11_boundOf_26 : decode cX11_boundOf 26 = .ok (.iadd, 1) := by decide +kernel
theorem dX11_boundOf_27 : decode cX11_boundOf 27 = .ok (.istore_n 2, 1) := by decide +kernel
theorem dX11_boundOf_28 : decode cX11_boundOf 28 = .ok (.iinc 3 1, 3) := by decide +kernel
theorem dX11_boundOf_31 : decode cX11_boundOf 31 = .ok (.goto (-27), 3) := by decide +kernel
theorem dX11_boundOf_34 : decode cX11_boundOf 34 = .ok (.sipush 16000, 3) := by decide +kernel
theorem dX11_boundOf_37 : decode cX11_boundOf 37 = .ok (.istore_n 3, 1) := by decide +kernel
theorem dX11_boundOf_38 : decode cX11_boundOf 38 = .ok (.iconst 0, 1) := by decide +kernel
theorem dX11_boundOf_39 : decode cX11_boundOf 39 = .ok (.istore 4, 2) := by decide +kernel
theorem dX11_boundOf_41 : decode cX11_boundOf 41 = .ok (.iload 4, 2) := by decide +kernel
theorem dX11_boundOf_43 : decode cX11_boundOf 43 = .ok (.aload_n 0, 1) := by decide +kernel
theorem dX11_boundOf_44 : decode cX11_boundOf 44 = .ok (.getfield 25, 3) := by decide +kernel
theorem dX11_boundOf_47 : decode cX11_boundOf 47 = .ok (.iload_n 1, 1) := by decide +kernel
theorem dX11_boundOf_48 : decode cX11_boundOf 48 = .ok (.iaload, 1) := by decide +kernel
theorem dX11_boundOf_49 : decode cX11_boundOf 49 = .ok (.if_icmp .ge 75, 3) := by decide +kernel
theorem dX11_boundOf_52 : decode cX11_boundOf 52 = .ok (.iconst 0, 1) := by decide +kernel
theorem dX11_boundOf_53 : decode cX11_boundOf 53 = .ok (.istore 5, 2) := by decide +kernel
theorem dX11_boundOf_55 : decode cX11_boundOf 55 = .ok (.iconst 0, 1) := by decide +kernel
theorem dX11_boundOf_56 : decode cX11_boundOf 56 = .ok (.istore 6, 2) := by decide +kernel
theorem dX11_boundOf_58 : decode cX11_boundOf 58 = .ok (.iload 6, 2) := by decide +kernel
theorem dX11_boundOf_60 : decode cX11_boundOf 60 = .ok (.aload_n 0, 1) := by decide +kernel
theorem dX11_boundOf_61 : decode cX11_boundOf 61 = .ok (.getfield 91, 3) := by decide +kernel
theorem dX11_boundOf_64 : decode cX11_boundOf 64 = .ok (.if_icmp .ge 41, 3) := by decide +kernel
theorem dX11_boundOf_67 : decode cX11_boundOf 67 = .ok (.iload 5, 2) := by decide +kernel
theorem dX11_boundOf_69 : decode cX11_boundOf 69 = .ok (.aload_n 0, 1) := by decide +kernel
theorem dX11_boundOf_70 : decode cX11_boundOf 70 = .ok (.iload_n 1, 1) := by decide +kernel
theorem dX11_boundOf_71 : decode cX11_boundOf 71 = .ok (.iload 4, 2) := by decide +kernel
theorem dX11_boundOf_73 : decode cX11_boundOf 73 = .ok (.invokevirtual 136, 3) := by decide +kernel
theorem dX11_boundOf_76 : decode cX11_boundOf 76 = .ok (.iload 6, 2) := by decide +kernel
theorem dX11_boundOf_78 : decode cX11_boundOf 78 = .ok (.ishr, 1) := by decide +kernel
theorem dX11_boundOf_79 : decode cX11_boundOf 79 = .ok (.iconst 1, 1) := by decide +kernel
theorem dX11_boundOf_80 : decode cX11_boundOf 80 = .ok (.iand, 1) := by decide +kernel
theorem dX11_boundOf_81 : decode cX11_boundOf 81 = .ok (.iconst 1, 1) := by decide +kernel
theorem dX11_boundOf_82 : decode cX11_boundOf 82 = .ok (.if_icmp .ne 13, 3) := by decide +kernel
theorem dX11_boundOf_85 : decode cX11_boundOf 85 = .ok (.aload_n 0, 1) := by decide +kernel
theorem dX11_boundOf_86 : decode cX11_boundOf 86 = .ok (.getfield 16, 3) := by decide +kernel
theorem dX11_boundOf_89 : decode cX11_boundOf 89 = .ok (.iload 6, 2) := by decide +kernel
theorem dX11_boundOf_91 : decode cX11_boundOf 91 = .ok (.iaload, 1) := by decide +kernel
theorem dX11_boundOf_92 : decode cX11_boundOf 92 = .ok (.goto 4, 3) := by decide +kernel
theorem dX11_boundOf_95 : decode cX11_boundOf 95 = .ok (.iconst 0, 1) := by decide +kernel
theorem dX11_boundOf_96 : decode cX11_boundOf 96 = .ok (.iadd, 1) := by decide +kernel
theorem dX11_boundOf_97 : decode cX11_boundOf 97 = .ok (.istore 5, 2) := by decide +kernel
theorem dX11_boundOf_99 : decode cX11_boundOf 99 = .ok (.iinc 6 1, 3) := by decide +kernel
theorem dX11_boundOf_102 : decode cX11_boundOf 102 = .ok (.goto (-44), 3) := by decide +kernel
theorem dX11_boundOf_105 : decode cX11_boundOf 105 = .ok (.iload 5, 2) := by decide +kernel
theorem dX11_boundOf_107 : decode cX11_boundOf 107 = .ok (.iload_n 3, 1) := by decide +kernel
theorem dX11_boundOf_108 : decode cX11_boundOf 108 = .ok (.if_icmp .ge 8, 3) := by decide +kernel
theorem dX11_boundOf_111 : decode cX11_boundOf 111 = .ok (.iload 5, 2) := by decide +kernel
theorem dX11_boundOf_113 : decode cX11_boundOf 113 = .ok (.goto 4, 3) := by decide +kernel
theorem dX11_boundOf_116 : decode cX11_boundOf 116 = .ok (.iload_n 3, 1) := by decide +kernel
theorem dX11_boundOf_117 : decode cX11_boundOf 117 = .ok (.istore_n 3, 1) := by decide +kernel
theorem dX11_boundOf_118 : decode cX11_boundOf 118 = .ok (.iinc 4 1, 3) := by decide +kernel
theorem dX11_boundOf_121 : decode cX11_boundOf 121 = .ok (.goto (-80), 3) := by decide +kernel
theorem dX11_boundOf_124 : decode cX11_boundOf 124 = .ok (.iload_n 2, 1) := by decide +kernel
theorem dX11_boundOf_125 : decode cX11_boundOf 125 = .ok (.ifCond .ne 12, 3) := by decide +kernel
theorem dX11_boundOf_128 : decode cX11_boundOf 128 = .ok (.aload_n 0, 1) := by decide +kernel
theorem dX11_boundOf_129 : decode cX11_boundOf 129 = .ok (.iconst 0, 1) := by decide +kernel
theorem dX11_boundOf_130 : decode cX11_boundOf 130 = .ok (.iconst 1, 1) := by decide +kernel
theorem dX11_boundOf_131 : decode cX11_boundOf 131 = .ok (.invokevirtual 209, 3) := by decide +kernel
theorem dX11_boundOf_134 : decode cX11_boundOf 134 = .ok (.goto 9, 3) := by decide +kernel
theorem dX11_boundOf_137 : decode cX11_boundOf 137 = .ok (.aload_n 0, 1) := by decide +kernel
theorem dX11_boundOf_138 : decode cX11_boundOf 138 = .ok (.iload_n 3, 1) := by decide +kernel
theorem dX11_boundOf_139 : decode cX11_boundOf 139 = .ok (.iload_n 2, 1) := by decide +kernel
theorem dX11_boundOf_140 : decode cX11_boundOf 140 = .ok (.invokevirtual 209, 3) := by decide +kernel
theorem dX11_boundOf_143 : decode cX11_boundOf 143 = .ok (.return_, 1) := by decide +kernel
theorem dX11_bound_0 : decode cX11_bound 0 = .ok (.aload_n 0, 1) := by decide +kernel
theorem dX11_bound_1 : decode cX11_bound 1 = .ok (.iconst 0, 1) := by decide +kernel
theorem dX11_bound_2 : decode cX11_bound 2 = .ok (.putfield 84, 3) := by decide +kernel
theorem dX11_bound_5 : decode cX11_bound 5 = .ok (.aload_n 0, 1) := by decide +kernel
theorem dX11_bound_6 : decode cX11_bound 6 = .ok (.iload_n 1, 1) := by decide +kernel
theorem dX11_bound_7 : decode cX11_bound 7 = .ok (.invokevirtual 163, 3) := by decide +kernel
theorem dX11_bound_10 : decode cX11_bound 10 = .ok (.ifCond .ne 9, 3) := by decide +kernel
theorem dX11_bound_13 : decode cX11_bound 13 = .ok (.aload_n 0, 1) := by decide +kernel
theorem dX11_bound_14 : decode cX11_bound 14 = .ok (.iconst 1, 1) := by decide +kernel
theorem dX11_bound_15 : decode cX11_bound 15 = .ok (.invokevirtual 115, 3) := by decide +kernel
theorem dX11_bound_18 : decode cX11_bound 18 = .ok (.ireturn, 1) := by decide +kernel
theorem dX11_bound_19 : decode cX11_bound 19 = .ok (.aload_n 0, 1) := by decide +kernel
theorem dX11_bound_20 : decode cX11_bound 20 = .ok (.iconst 0, 1) := by decide +kernel
theorem dX11_bound_21 : decode cX11_bound 21 = .ok (.putfield 88, 3) := by decide +kernel
theorem dX11_bound_24 : decode cX11_bound 24 = .ok (.aload_n 0, 1) := by decide +kernel
theorem dX11_bound_25 : decode cX11_bound 25 = .ok (.iload_n 1, 1) := by decide +kernel
theorem dX11_bound_26 : decode cX11_bound 26 = .ok (.invokevirtual 218, 3) := by decide +kernel
theorem dX11_bound_29 : decode cX11_bound 29 = .ok (.iload_n 2, 1) := by decide +kernel
theorem dX11_bound_30 : decode cX11_bound 30 = .ok (.ifCond .eq 10, 3) := by decide +kernel
theorem dX11_bound_33 : decode cX11_bound 33 = .ok (.aload_n 0, 1) := by decide +kernel
theorem dX11_bound_34 : decode cX11_bound 34 = .ok (.getfield 206, 3) := by decide +kernel
theorem dX11_bound_37 : decode cX11_bound 37 = .ok (.goto 7, 3) := by decide +kernel
theorem dX11_bound_40 : decode cX11_bound 40 = .ok (.aload_n 0, 1) := by decide +kernel
theorem dX11_bound_41 : decode cX11_bound 41 = .ok (.getfield 203, 3) := by decide +kernel
theorem dX11_bound_44 : decode cX11_bound 44 = .ok (.ireturn, 1) := by decide +kernel
theorem dX11_proved_0 : decode cX11_proved 0 = .ok (.aload_n 0, 1) := by decide +kernel
theorem dX11_proved_1 : decode cX11_proved 1 = .ok (.iconst 0, 1) := by decide +kernel
theorem dX11_proved_2 : decode cX11_proved 2 = .ok (.putfield 84, 3) := by decide +kernel
theorem dX11_proved_5 : decode cX11_proved 5 = .ok (.aload_n 0, 1) := by decide +kernel
theorem dX11_proved_6 : decode cX11_proved 6 = .ok (.getfield 104, 3) := by decide +kernel
theorem dX11_proved_9 : decode cX11_proved 9 = .ok (.ifCond .ne 9, 3) := by decide +kernel
theorem dX11_proved_12 : decode cX11_proved 12 = .ok (.aload_n 0, 1) := by decide +kernel
theorem dX11_proved_13 : decode cX11_proved 13 = .ok (.iconst 1, 1) := by decide +kernel
theorem dX11_proved_14 : decode cX11_proved 14 = .ok (.invokevirtual 115, 3) := by decide +kernel
theorem dX11_proved_17 : decode cX11_proved 17 = .ok (.ireturn, 1) := by decide +kernel
theorem dX11_proved_18 : decode cX11_proved 18 = .ok (.aload_n 0, 1) := by decide +kernel
theorem dX11_proved_19 : decode cX11_proved 19 = .ok (.iconst 0, 1) := by decide +kernel
theorem dX11_proved_20 : decode cX11_proved 20 = .ok (.putfield 88, 3) := by decide +kernel
theorem dX11_proved_23 : decode cX11_proved 23 = .ok (.aload_n 0, 1) := by decide +kernel
theorem dX11_proved_24 : decode cX11_proved 24 = .ok (.invokevirtual 215, 3) := by decide +kernel
theorem dX11_proved_27 : decode cX11_proved 27 = .ok (.istore_n 1, 1) := by decide +kernel
theorem dX11_proved_28 : decode cX11_proved 28 = .ok (.aload_n 0, 1) := by decide +kernel
theorem dX11_proved_29 : decode cX11_proved 29 = .ok (.getfield 203, 3) := by decide +kernel
theorem dX11_proved_32 : decode cX11_proved 32 = .ok (.istore_n 2, 1) := by decide +kernel
theorem dX11_proved_33 : decode cX11_proved 33 = .ok (.aload_n 0, 1) := by decide +kernel
theorem dX11_proved_34 : decode cX11_proved 34 = .ok (.getfield 206, 3) := by decide +kernel
theorem dX11_proved_37 : decode cX11_proved 37 = .ok (.istore_n 3, 1) := by decide +kernel
theorem dX11_proved_38 : decode cX11_proved 38 = .ok (.aload_n 0, 1) := by decide +kernel
theorem dX11_proved_39 : decode cX11_proved 39 = .ok (.aload_n 0, 1) := by decide +kernel
theorem dX11_proved_40 : decode cX11_proved 40 = .ok (.getfield 31, 3) := by decide +kernel
theorem dX11_proved_43 : decode cX11_proved 43 = .ok (.iconst 0, 1) := by decide +kernel
theorem dX11_proved_44 : decode cX11_proved 44 = .ok (.iaload, 1) := by decide +kernel
theorem dX11_proved_45 : decode cX11_proved 45 = .ok (.invokevirtual 218, 3) := by decide +kernel
theorem dX11_proved_48 : decode cX11_proved 48 = .ok (.iload_n 2, 1) := by decide +kernel
theorem dX11_proved_49 : decode cX11_proved 49 = .ok (.aload_n 0, 1) := by decide +kernel
theorem dX11_proved_50 : decode cX11_proved 50 = .ok (.getfield 203, 3) := by decide +kernel
theorem dX11_proved_53 : decode cX11_proved 53 = .ok (.if_icmp .ne 15, 3) := by decide +kernel
theorem dX11_proved_56 : decode cX11_proved 56 = .ok (.iload_n 3, 1) := by decide +kernel
theorem dX11_proved_57 : decode cX11_proved 57 = .ok (.aload_n 0, 1) := by decide +kernel
theorem dX11_proved_58 : decode cX11_proved 58 = .ok (.getfield 206, 3) := by decide +kernel
theorem dX11_proved_61 : decode cX11_proved 61 = .ok (.if_icmp .ne 7, 3) := by decide +kernel
theorem dX11_proved_64 : decode cX11_proved 64 = .ok (.iconst 0, 1) := by decide +kernel
theorem dX11_proved_65 : decode cX11_proved 65 = .ok (.goto 4, 3) := by decide +kernel
theorem dX11_proved_68 : decode cX11_proved 68 = .ok (.iconst 1, 1) := by decide +kernel
theorem dX11_proved_69 : decode cX11_proved 69 = .ok (.ireturn, 1) := by decide +kernel
theorem dX11_witness_0 : decode cX11_witness 0 = .ok (.aload_n 0, 1) := by decide +kernel
theorem dX11_witness_1 : decode cX11_witness 1 = .ok (.iconst 0, 1) := by decide +kernel
theorem dX11_witness_2 : decode cX11_witness 2 = .ok (.putfield 84, 3) := by decide +kernel
theorem dX11_witness_5 : decode cX11_witness 5 = .ok (.aload_n 0, 1) := by decide +kernel
theorem dX11_witness_6 : decode cX11_witness 6 = .ok (.iload_n 1, 1) := by decide +kernel
theorem dX11_witness_7 : decode cX11_witness 7 = .ok (.invokevirtual 163, 3) := by decide +kernel
theorem dX11_witness_10 : decode cX11_witness 10 = .ok (.ifCond .ne 9, 3) := by decide +kernel
theorem dX11_witness_13 : decode cX11_witness 13 = .ok (.aload_n 0, 1) := by decide +kernel
theorem dX11_witness_14 : decode cX11_witness 14 = .ok (.iconst 1, 1) := by decide +kernel
theorem dX11_witness_15 : decode cX11_witness 15 = .ok (.invokevirtual 115, 3) := by decide +kernel
theorem dX11_witness_18 : decode cX11_witness 18 = .ok (.ireturn, 1) := by decide +kernel
theorem dX11_witness_19 : decode cX11_witness 19 = .ok (.aload_n 0, 1) := by decide +kernel
theorem dX11_witness_20 : decode cX11_witness 20 = .ok (.iconst 0, 1) := by decide +kernel
theorem dX11_witness_21 : decode cX11_witness 21 = .ok (.putfield 88, 3) := by decide +kernel
theorem dX11_witness_24 : decode cX11_witness 24 = .ok (.aload_n 0, 1) := by decide +kernel
theorem dX11_witness_25 : decode cX11_witness 25 = .ok (.iconst 0, 1) := by decide +kernel
theorem dX11_witness_26 : decode cX11_witness 26 = .ok (.putfield 221, 3) := by decide +kernel
theorem dX11_witness_29 : decode cX11_witness 29 = .ok (.iconst 0, 1) := by decide +kernel
theorem dX11_witness_30 : decode cX11_witness 30 = .ok (.istore_n 2, 1) := by decide +kernel
theorem dX11_witness_31 : decode cX11_witness 31 = .ok (.iload_n 2, 1) := by decide +kernel
theorem dX11_witness_32 : decode cX11_witness 32 = .ok (.aload_n 0, 1) := by decide +kernel
theorem dX11_witness_33 : decode cX11_witness 33 = .ok (.getfield 25, 3) := by decide +kernel
theorem dX11_witness_36 : decode cX11_witness 36 = .ok (.iload_n 1, 1) := by decide +kernel
theorem dX11_witness_37 : decode cX11_witness 37 = .ok (.iaload, 1) := by decide +kernel
theorem dX11_witness_38 : decode cX11_witness 38 = .ok (.if_icmp .ge 102, 3) := by decide +kernel
theorem dX11_witness_41 : decode cX11_witness 41 = .ok (.iload_n 2, 1) := by decide +kernel
theorem dX11_witness_42 : decode cX11_witness 42 = .ok (.iconst 1, 1) := by decide +kernel
theorem dX11_witness_43 : decode cX11_witness 43 = .ok (.iadd, 1) := by decide +kernel
theorem dX11_witness_44 : decode cX11_witness 44 = .ok (.istore_n 3, 1) := by decide +kernel
theorem dX11_witness_45 : decode cX11_witness 45 = .ok (.iload_n 3, 1) := by decide +kernel
theorem dX11_witness_46 : decode cX11_witness 46 = .ok (.aload_n 0, 1) := by decide +kernel
theorem dX11_witness_47 : decode cX11_witness 47 = .ok (.getfield 25, 3) := by decide +kernel
theorem dX11_witness_50 : decode cX11_witness 50 = .ok (.iload_n 1, 1) := by decide +kernel
theorem dX11_witness_51 : decode cX11_witness 51 = .ok (.iaload, 1) := by decide +kernel
theorem dX11_witness_52 : decode cX11_witness 52 = .ok (.if_icmp .ge 82, 3) := by decide +kernel
theorem dX11_witness_55 : decode cX11_witness 55 = .ok (.aload_n 0, 1) := by decide +kernel
theorem dX11_witness_56 : decode cX11_witness 56 = .ok (.iload_n 1, 1) := by decide +kernel
theorem dX11_witness_57 : decode cX11_witness 57 = .ok (.iload_n 2, 1) := by decide +kernel
theorem dX11_witness_58 : decode cX11_witness 58 = .ok (.invokevirtual 136, 3) := by decide +kernel
theorem dX11_witness_61 : decode cX11_witness 61 = .ok (.aload_n 0, 1) := by decide +kernel
theorem dX11_witness_62 : decode cX11_witness 62 = .ok (.iload_n 1, 1) := by decide +kernel
theorem dX11_witness_63 : decode cX11_witness 63 = .ok (.iload_n 3, 1) := by decide +kernel
theorem dX11_witness_64 : decode cX11_witness 64 = .ok (.invokevirtual 136, 3) := by decide +kernel
theorem dX11_witness_67 : decode cX11_witness 67 = .ok (.iand, 1) := by decide +kernel
theorem dX11_witness_68 : decode cX11_witness 68 = .ok (.istore 4, 2) := by decide +kernel
theorem dX11_witness_70 : decode cX11_witness 70 = .ok (.iconst 0, 1) := by decide +kernel
theorem dX11_witness_71 : decode cX11_witness 71 = .ok (.istore 5, 2) := by decide +kernel
theorem dX11_witness_73 : decode cX11_witness 73 = .ok (.iload 5, 2) := by decide +kernel
theorem dX11_witness_75 : decode cX11_witness 75 = .ok (.bipush 16, 2) := by decide +kernel
theorem dX11_witness_77 : decode cX11_witness 77 = .ok (.if_icmp .ge 19, 3) := by decide +kernel
theorem dX11_witness_80 : decode cX11_witness 80 = .ok (.iload 4, 2) := by decide +kernel
theorem dX11_witness_82 : decode cX11_witness 82 = .ok (.iload 5, 2) := by decide +kernel
theorem dX11_witness_84 : decode cX11_witness 84 = .ok (.ishr, 1) := by decide +kernel
theorem dX11_witness_85 : decode cX11_witness 85 = .ok (.iconst 1, 1) := by decide +kernel
theorem dX11_witness_86 : decode cX11_witness 86 = .ok (.iand, 1) := by decide +kernel
theorem dX11_witness_87 : decode cX11_witness 87 = .ok (.ifCond .ne 9, 3) := by decide +kernel
theorem dX11_witness_90 : decode cX11_witness 90 = .ok (.iinc 5 1, 3) := by decide +kernel
theorem dX11_witness_93 : decode cX11_witness 93 = .ok (.goto (-20), 3) := by decide +kernel
theorem dX11_witness_96 : decode cX11_witness 96 = .ok (.aload_n 0, 1) := by decide +kernel
theorem dX11_witness_97 : decode cX11_witness 97 = .ok (.getfield 43, 3) := by decide +kernel
theorem dX11_witness_100 : decode cX11_witness 100 = .ok (.aload_n 0, 1) := by decide +kernel
theorem dX11_witness_101 : decode cX11_witness 101 = .ok (.getfield 221, 3) := by decide +kernel
theorem dX11_witness_104 : decode cX11_witness 104 = .ok (.iload 5, 2) := by decide +kernel
theorem dX11_witness_106 : decode cX11_witness 106 = .ok (.bipush 16, 2) := by decide +kernel
theorem dX11_witness_108 : decode cX11_witness 108 = .ok (.if_icmp .ge 8, 3) := by decide +kernel
theorem dX11_witness_111 : decode cX11_witness 111 = .ok (.iload 5, 2) := by decide +kernel
theorem dX11_witness_113 : decode cX11_witness 113 = .ok (.goto 4, 3) := by decide +kernel
theorem dX11_witness_116 : decode cX11_witness 116 = .ok (.iconst (-1), 1) := by decide +kernel
theorem dX11_witness_117 : decode cX11_witness 117 = .ok (.iastore, 1) := by decide +kernel
theorem dX11_witness_118 : decode cX11_witness 118 = .ok (.aload_n 0, 1) := by decide +kernel
theorem dX11_witness_119 : decode cX11_witness 119 = .ok (.dup, 1) := by decide +kernel
theorem dX11_witness_120 : decode cX11_witness 120 = .ok (.getfield 221, 3) := by decide +kernel
theorem dX11_witness_123 : decode cX11_witness 123 = .ok (.iconst 1, 1) := by decide +kernel
theorem dX11_witness_124 : decode cX11_witness 124 = .ok (.iadd, 1) := by decide +kernel
theorem dX11_witness_125 : decode cX11_witness 125 = .ok (.putfield 221, 3) := by decide +kernel
theorem dX11_witness_128 : decode cX11_witness 128 = .ok (.iinc 3 1, 3) := by decide +kernel
theorem dX11_witness_131 : decode cX11_witness 131 = .ok (.goto (-86), 3) := by decide +kernel
theorem dX11_witness_134 : decode cX11_witness 134 = .ok (.iinc 2 1, 3) := by decide +kernel
theorem dX11_witness_137 : decode cX11_witness 137 = .ok (.goto (-106), 3) := by decide +kernel
theorem dX11_witness_140 : decode cX11_witness 140 = .ok (.aload_n 0, 1) := by decide +kernel
theorem dX11_witness_141 : decode cX11_witness 141 = .ok (.getfield 221, 3) := by decide +kernel
theorem dX11_witness_144 : decode cX11_witness 144 = .ok (.ireturn, 1) := by decide +kernel
theorem dX11_names_0 : decode cX11_names 0 = .ok (.aload_n 0, 1) := by decide +kernel
theorem dX11_names_1 : decode cX11_names 1 = .ok (.iconst 0, 1) := by decide +kernel
theorem dX11_names_2 : decode cX11_names 2 = .ok (.putfield 84, 3) := by decide +kernel
theorem dX11_names_5 : decode cX11_names 5 = .ok (.aload_n 0, 1) := by decide +kernel
theorem dX11_names_6 : decode cX11_names 6 = .ok (.iload_n 1, 1) := by decide +kernel
theorem dX11_names_7 : decode cX11_names 7 = .ok (.iconst 0, 1) := by decide +kernel
theorem dX11_names_8 : decode cX11_names 8 = .ok (.aload_n 0, 1) := by decide +kernel
theorem dX11_names_9 : decode cX11_names 9 = .ok (.getfield 221, 3) := by decide +kernel
theorem dX11_names_12 : decode cX11_names 12 = .ok (.iconst 1, 1) := by decide +kernel
theorem dX11_names_13 : decode cX11_names 13 = .ok (.isub, 1) := by decide +kernel
theorem dX11_names_14 : decode cX11_names 14 = .ok (.invokevirtual 97, 3) := by decide +kernel
theorem dX11_names_17 : decode cX11_names 17 = .ok (.ifCond .eq 12, 3) := by decide +kernel
theorem dX11_names_20 : decode cX11_names 20 = .ok (.aload_n 0, 1) := by decide +kernel
theorem dX11_names_21 : decode cX11_names 21 = .ok (.getfield 43, 3) := by decide +kernel
theorem dX11_names_24 : decode cX11_names 24 = .ok (.iload_n 1, 1) := by decide +kernel
theorem dX11_names_25 : decode cX11_names 25 = .ok (.iaload, 1) := by decide +kernel
theorem dX11_names_26 : decode cX11_names 26 = .ok (.goto 5, 3) := by decide +kernel
theorem dX11_names_29 : decode cX11_names 29 = .ok (.bipush (-2), 2) := by decide +kernel
theorem dX11_names_31 : decode cX11_names 31 = .ok (.ireturn, 1) := by decide +kernel
theorem dX11_forge_0 : decode cX11_forge 0 = .ok (.aload_n 0, 1) := by decide +kernel
theorem dX11_forge_1 : decode cX11_forge 1 = .ok (.iconst 0, 1) := by decide +kernel
theorem dX11_forge_2 : decode cX11_forge 2 = .ok (.putfield 84, 3) := by decide +kernel
theorem dX11_forge_5 : decode cX11_forge 5 = .ok (.aload_n 0, 1) := by decide +kernel
theorem dX11_forge_6 : decode cX11_forge 6 = .ok (.iload_n 1, 1) := by decide +kernel
theorem dX11_forge_7 : decode cX11_forge 7 = .ok (.iconst 0, 1) := by decide +kernel
theorem dX11_forge_8 : decode cX11_forge 8 = .ok (.aload_n 0, 1) := by decide +kernel
theorem dX11_forge_9 : decode cX11_forge 9 = .ok (.getfield 221, 3) := by decide +kernel
theorem dX11_forge_12 : decode cX11_forge 12 = .ok (.iconst 1, 1) := by decide +kernel
theorem dX11_forge_13 : decode cX11_forge 13 = .ok (.isub, 1) := by decide +kernel
theorem dX11_forge_14 : decode cX11_forge 14 = .ok (.invokevirtual 97, 3) := by decide +kernel
theorem dX11_forge_17 : decode cX11_forge 17 = .ok (.ifCond .ne 9, 3) := by decide +kernel
theorem dX11_forge_20 : decode cX11_forge 20 = .ok (.aload_n 0, 1) := by decide +kernel
theorem dX11_forge_21 : decode cX11_forge 21 = .ok (.iconst 1, 1) := by decide +kernel
theorem dX11_forge_22 : decode cX11_forge 22 = .ok (.invokevirtual 119, 3) := by decide +kernel
theorem dX11_forge_25 : decode cX11_forge 25 = .ok (.ireturn, 1) := by decide +kernel
theorem dX11_forge_26 : decode cX11_forge 26 = .ok (.aload_n 0, 1) := by decide +kernel
theorem dX11_forge_27 : decode cX11_forge 27 = .ok (.getfield 43, 3) := by decide +kernel
theorem dX11_forge_30 : decode cX11_forge 30 = .ok (.iload_n 1, 1) := by decide +kernel
theorem dX11_forge_31 : decode cX11_forge 31 = .ok (.dup2, 1) := by decide +kernel
theorem dX11_forge_32 : decode cX11_forge 32 = .ok (.iaload, 1) := by decide +kernel
theorem dX11_forge_33 : decode cX11_forge 33 = .ok (.iload_n 2, 1) := by decide +kernel
theorem dX11_forge_34 : decode cX11_forge 34 = .ok (.ixor, 1) := by decide +kernel
theorem dX11_forge_35 : decode cX11_forge 35 = .ok (.iastore, 1) := by decide +kernel
theorem dX11_forge_36 : decode cX11_forge 36 = .ok (.aload_n 0, 1) := by decide +kernel
theorem dX11_forge_37 : decode cX11_forge 37 = .ok (.iconst 0, 1) := by decide +kernel
theorem dX11_forge_38 : decode cX11_forge 38 = .ok (.putfield 88, 3) := by decide +kernel
theorem dX11_forge_41 : decode cX11_forge 41 = .ok (.iconst 1, 1) := by decide +kernel
theorem dX11_forge_42 : decode cX11_forge 42 = .ok (.ireturn, 1) := by decide +kernel
theorem dX11_judge_0 : decode cX11_judge 0 = .ok (.aload_n 0, 1) := by decide +kernel
theorem dX11_judge_1 : decode cX11_judge 1 = .ok (.iconst 0, 1) := by decide +kernel
theorem dX11_judge_2 : decode cX11_judge 2 = .ok (.putfield 84, 3) := by decide +kernel
theorem dX11_judge_5 : decode cX11_judge 5 = .ok (.aload_n 0, 1) := by decide +kernel
theorem dX11_judge_6 : decode cX11_judge 6 = .ok (.iload_n 1, 1) := by decide +kernel
theorem dX11_judge_7 : decode cX11_judge 7 = .ok (.invokevirtual 163, 3) := by decide +kernel
theorem dX11_judge_10 : decode cX11_judge 10 = .ok (.ifCond .ne 9, 3) := by decide +kernel
theorem dX11_judge_13 : decode cX11_judge 13 = .ok (.aload_n 0, 1) := by decide +kernel
theorem dX11_judge_14 : decode cX11_judge 14 = .ok (.iconst 1, 1) := by decide +kernel
theorem dX11_judge_15 : decode cX11_judge 15 = .ok (.invokevirtual 115, 3) := by decide +kernel
theorem dX11_judge_18 : decode cX11_judge 18 = .ok (.ireturn, 1) := by decide +kernel
theorem dX11_judge_19 : decode cX11_judge 19 = .ok (.aload_n 0, 1) := by decide +kernel
theorem dX11_judge_20 : decode cX11_judge 20 = .ok (.iconst 0, 1) := by decide +kernel
theorem dX11_judge_21 : decode cX11_judge 21 = .ok (.putfield 88, 3) := by decide +kernel
theorem dX11_judge_24 : decode cX11_judge 24 = .ok (.aload_n 0, 1) := by decide +kernel
theorem dX11_judge_25 : decode cX11_judge 25 = .ok (.getfield 221, 3) := by decide +kernel
theorem dX11_judge_28 : decode cX11_judge 28 = .ok (.aload_n 0, 1) := by decide +kernel
theorem dX11_judge_29 : decode cX11_judge 29 = .ok (.getfield 25, 3) := by decide +kernel
theorem dX11_judge_32 : decode cX11_judge 32 = .ok (.iload_n 1, 1) := by decide +kernel
theorem dX11_judge_33 : decode cX11_judge 33 = .ok (.iaload, 1) := by decide +kernel
theorem dX11_judge_34 : decode cX11_judge 34 = .ok (.aload_n 0, 1) := by decide +kernel
theorem dX11_judge_35 : decode cX11_judge 35 = .ok (.getfield 25, 3) := by decide +kernel
theorem dX11_judge_38 : decode cX11_judge 38 = .ok (.iload_n 1, 1) := by decide +kernel
theorem dX11_judge_39 : decode cX11_judge 39 = .ok (.iaload, 1) := by decide +kernel
theorem dX11_judge_40 : decode cX11_judge 40 = .ok (.iconst 1, 1) := by decide +kernel
theorem dX11_judge_41 : decode cX11_judge 41 = .ok (.isub, 1) := by decide +kernel
theorem dX11_judge_42 : decode cX11_judge 42 = .ok (.imul, 1) := by decide +kernel
theorem dX11_judge_43 : decode cX11_judge 43 = .ok (.iconst 2, 1) := by decide +kernel
theorem dX11_judge_44 : decode cX11_judge 44 = .ok (.idiv, 1) := by decide +kernel
theorem dX11_judge_45 : decode cX11_judge 45 = .ok (.if_icmp .eq 6, 3) := by decide +kernel
theorem dX11_judge_48 : decode cX11_judge 48 = .ok (.bipush (-3), 2) := by decide +kernel
theorem dX11_judge_50 : decode cX11_judge 50 = .ok (.ireturn, 1) := by decide +kernel
theorem dX11_judge_51 : decode cX11_judge 51 = .ok (.iconst 0, 1) := by decide +kernel
theorem dX11_judge_52 : decode cX11_judge 52 = .ok (.istore_n 2, 1) := by decide +kernel
theorem dX11_judge_53 : decode cX11_judge 53 = .ok (.iconst 0, 1) := by decide +kernel
theorem dX11_judge_54 : decode cX11_judge 54 = .ok (.istore_n 3, 1) := by decide +kernel
theorem dX11_judge_55 : decode cX11_judge 55 = .ok (.iload_n 3, 1) := by decide +kernel
theorem dX11_judge_56 : decode cX11_judge 56 = .ok (.aload_n 0, 1) := by decide +kernel
theorem dX11_judge_57 : decode cX11_judge 57 = .ok (.getfield 25, 3) := by decide +kernel
theorem dX11_judge_60 : decode cX11_judge 60 = .ok (.iload_n 1, 1) := by decide +kernel
theorem dX11_judge_61 : decode cX11_judge 61 = .ok (.iaload, 1) := by decide +kernel
theorem dX11_judge_62 : decode cX11_judge 62 = .ok (.if_icmp .ge 82, 3) := by decide +kernel
theorem dX11_judge_65 : decode cX11_judge 65 = .ok (.iload_n 3, 1) := by decide +kernel
theorem dX11_judge_66 : decode cX11_judge 66 = .ok (.iconst 1, 1) := by decide +kernel
theorem dX11_judge_67 : decode cX11_judge 67 = .ok (.iadd, 1) := by decide +kernel
theorem dX11_judge_68 : decode cX11_judge 68 = .ok (.istore 4, 2) := by decide +kernel
theorem dX11_judge_70 : decode cX11_judge 70 = .ok (.iload 4, 2) := by decide +kernel
theorem dX11_judge_72 : decode cX11_judge 72 = .ok (.aload_n 0, 1) := by decide +kernel
theorem dX11_judge_73 : decode cX11_judge 73 = .ok (.getfield 25, 3) := by decide +kernel
theorem dX11_judge_76 : decode cX11_judge 76 = .ok (.iload_n 1, 1) := by decide +kernel
theorem dX11_judge_77 : decode cX11_judge 77 = .ok (.iaload, 1) := by decide +kernel
theorem dX11_judge_78 : decode cX11_judge 78 = .ok (.if_icmp .ge 60, 3) := by decide +kernel
theorem dX11_judge_81 : decode cX11_judge 81 = .ok (.aload_n 0, 1) := by decide +kernel
theorem dX11_judge_82 : decode cX11_judge 82 = .ok (.iload_n 1, 1) := by decide +kernel
theorem dX11_judge_83 : decode cX11_judge 83 = .ok (.iload_n 3, 1) := by decide +kernel
theorem dX11_judge_84 : decode cX11_judge 84 = .ok (.invokevirtual 136, 3) := by decide +kernel
theorem dX11_judge_87 : decode cX11_judge 87 = .ok (.aload_n 0, 1) := by decide +kernel
theorem dX11_judge_88 : decode cX11_judge 88 = .ok (.iload_n 1, 1) := by decide +kernel
theorem dX11_judge_89 : decode cX11_judge 89 = .ok (.iload 4, 2) := by decide +kernel
theorem dX11_judge_91 : decode cX11_judge 91 = .ok (.invokevirtual 136, 3) := by decide +kernel
theorem dX11_judge_94 : decode cX11_judge 94 = .ok (.iand, 1) := by decide +kernel
theorem dX11_judge_95 : decode cX11_judge 95 = .ok (.istore 5, 2) := by decide +kernel
theorem dX11_judge_97 : decode cX11_judge 97 = .ok (.aload_n 0, 1) := by decide +kernel
theorem dX11_judge_98 : decode cX11_judge 98 = .ok (.aload_n 0, 1) := by decide +kernel
theorem dX11_judge_99 : decode cX11_judge 99 = .ok (.getfield 43, 3) := by decide +kernel
theorem dX11_judge_102 : decode cX11_judge 102 = .ok (.iload_n 2, 1) := by decide +kernel
theorem dX11_judge_103 : decode cX11_judge 103 = .ok (.iaload, 1) := by decide +kernel
theorem dX11_judge_104 : decode cX11_judge 104 = .ok (.iconst 0, 1) := by decide +kernel
theorem dX11_judge_105 : decode cX11_judge 105 = .ok (.bipush 15, 2) := by decide +kernel
theorem dX11_judge_107 : decode cX11_judge 107 = .ok (.invokevirtual 97, 3) := by decide +kernel
theorem dX11_judge_110 : decode cX11_judge 110 = .ok (.ifCond .eq 17, 3) := by decide +kernel
theorem dX11_judge_113 : decode cX11_judge 113 = .ok (.iload 5, 2) := by decide +kernel
theorem dX11_judge_115 : decode cX11_judge 115 = .ok (.aload_n 0, 1) := by decide +kernel
theorem dX11_judge_116 : decode cX11_judge 116 = .ok (.getfield 43, 3) := by decide +kernel
theorem dX11_judge_119 : decode cX11_judge 119 = .ok (.iload_n 2, 1) := by decide +kernel
theorem dX11_judge_120 : decode cX11_judge 120 = .ok (.iaload, 1) := by decide +kernel
theorem dX11_judge_121 : decode cX11_judge 121 = .ok (.ishr, 1) := by decide +kernel
theorem dX11_judge_122 : decode cX11_judge 122 = .ok (.iconst 1, 1) := by decide +kernel
theorem dX11_judge_123 : decode cX11_judge 123 = .ok (.iand, 1) := by decide +kernel
theorem dX11_judge_124 : decode cX11_judge 124 = .ok (.ifCond .ne 5, 3) := by decide +kernel
theorem dX11_judge_127 : decode cX11_judge 127 = .ok (.iload_n 2, 1) := by decide +kernel
theorem dX11_judge_128 : decode cX11_judge 128 = .ok (.ireturn, 1) := by decide +kernel
theorem dX11_judge_129 : decode cX11_judge 129 = .ok (.iinc 2 1, 3) := by decide +kernel
theorem dX11_judge_132 : decode cX11_judge 132 = .ok (.iinc 4 1, 3) := by decide +kernel
theorem dX11_judge_135 : decode cX11_judge 135 = .ok (.goto (-65), 3) := by decide +kernel
theorem dX11_judge_138 : decode cX11_judge 138 = .ok (.iinc 3 1, 3) := by decide +kernel
theorem dX11_judge_141 : decode cX11_judge 141 = .ok (.goto (-86), 3) := by decide +kernel
theorem dX11_judge_144 : decode cX11_judge 144 = .ok (.bipush (-2), 2) := by decide +kernel
theorem dX11_judge_146 : decode cX11_judge 146 = .ok (.ireturn, 1) := by decide +kernel
theorem dX11_isPlace_0 : decode cX11_isPlace 0 = .ok (.aload_n 0, 1) := by decide +kernel
theorem dX11_isPlace_1 : decode cX11_isPlace 1 = .ok (.iload_n 1, 1) := by decide +kernel
theorem dX11_isPlace_2 : decode cX11_isPlace 2 = .ok (.iconst 0, 1) := by decide +kernel
theorem dX11_isPlace_3 : decode cX11_isPlace 3 = .ok (.bipush 15, 2) := by decide +kernel
theorem dX11_isPlace_5 : decode cX11_isPlace 5 = .ok (.invokevirtual 97, 3) := by decide +kernel
theorem dX11_isPlace_8 : decode cX11_isPlace 8 = .ok (.ireturn, 1) := by decide +kernel
theorem dX11_lay_0 : decode cX11_lay 0 = .ok (.aload_n 0, 1) := by decide +kernel
theorem dX11_lay_1 : decode cX11_lay 1 = .ok (.iconst 0, 1) := by decide +kernel
theorem dX11_lay_2 : decode cX11_lay 2 = .ok (.putfield 84, 3) := by decide +kernel
theorem dX11_lay_5 : decode cX11_lay 5 = .ok (.aload_n 0, 1) := by decide +kernel
theorem dX11_lay_6 : decode cX11_lay 6 = .ok (.iload_n 1, 1) := by decide +kernel
theorem dX11_lay_7 : decode cX11_lay 7 = .ok (.invokevirtual 224, 3) := by decide +kernel
theorem dX11_lay_10 : decode cX11_lay 10 = .ok (.ifCond .ne 9, 3) := by decide +kernel
theorem dX11_lay_13 : decode cX11_lay 13 = .ok (.aload_n 0, 1) := by decide +kernel
theorem dX11_lay_14 : decode cX11_lay 14 = .ok (.iconst 1, 1) := by decide +kernel
theorem dX11_lay_15 : decode cX11_lay 15 = .ok (.invokevirtual 115, 3) := by decide +kernel
theorem dX11_lay_18 : decode cX11_lay 18 = .ok (.ireturn, 1) := by decide +kernel
theorem dX11_lay_19 : decode cX11_lay 19 = .ok (.aload_n 0, 1) := by decide +kernel
theorem dX11_lay_20 : decode cX11_lay 20 = .ok (.iload_n 2, 1) := by decide +kernel
theorem dX11_lay_21 : decode cX11_lay 21 = .ok (.iconst 0, 1) := by decide +kernel
theorem dX11_lay_22 : decode cX11_lay 22 = .ok (.iconst 3, 1) := by decide +kernel
theorem dX11_lay_23 : decode cX11_lay 23 = .ok (.invokevirtual 97, 3) := by decide +kernel
theorem dX11_lay_26 : decode cX11_lay 26 = .ok (.ifCond .ne 9, 3) := by decide +kernel
theorem dX11_lay_29 : decode cX11_lay 29 = .ok (.aload_n 0, 1) := by decide +kernel
theorem dX11_lay_30 : decode cX11_lay 30 = .ok (.iconst 2, 1) := by decide +kernel
theorem dX11_lay_31 : decode cX11_lay 31 = .ok (.invokevirtual 115, 3) := by decide +kernel
theorem dX11_lay_34 : decode cX11_lay 34 = .ok (.ireturn, 1) := by decide +kernel
theorem dX11_lay_35 : decode cX11_lay 35 = .ok (.iload_n 2, 1) := by decide +kernel
theorem dX11_lay_36 : decode cX11_lay 36 = .ok (.iconst 1, 1) := by decide +kernel
theorem dX11_lay_37 : decode cX11_lay 37 = .ok (.if_icmp .ne 11, 3) := by decide +kernel
theorem dX11_lay_40 : decode cX11_lay 40 = .ok (.aload_n 0, 1) := by decide +kernel
theorem dX11_lay_41 : decode cX11_lay 41 = .ok (.iload_n 3, 1) := by decide +kernel
theorem dX11_lay_42 : decode cX11_lay 42 = .ok (.invokevirtual 163, 3) := by decide +kernel
theorem dX11_lay_45 : decode cX11_lay 45 = .ok (.ifCond .eq 15, 3) := by decide +kernel
theorem dX11_lay_48 : decode cX11_lay 48 = .ok (.iload_n 2, 1) := by decide +kernel
theorem dX11_lay_49 : decode cX11_lay 49 = .ok (.iconst 3, 1) := by decide +kernel
theorem dX11_lay_50 : decode cX11_lay 50 = .ok (.if_icmp .ne 16, 3) := by decide +kernel
theorem dX11_lay_53 : decode cX11_lay 53 = .ok (.aload_n 0, 1) := by decide +kernel
theorem dX11_lay_54 : decode cX11_lay 54 = .ok (.getfield 104, 3) := by decide +kernel
theorem dX11_lay_57 : decode cX11_lay 57 = .ok (.ifCond .ne 9, 3) := by decide +kernel
theorem dX11_lay_60 : decode cX11_lay 60 = .ok (.aload_n 0, 1) := by decide +kernel
theorem dX11_lay_61 : decode cX11_lay 61 = .ok (.iconst 1, 1) := by decide +kernel
theorem dX11_lay_62 : decode cX11_lay 62 = .ok (.invokevirtual 115, 3) := by decide +kernel
theorem dX11_lay_65 : decode cX11_lay 65 = .ok (.ireturn, 1) := by decide +kernel
theorem dX11_lay_66 : decode cX11_lay 66 = .ok (.iload_n 2, 1) := by decide +kernel
theorem dX11_lay_67 : decode cX11_lay 67 = .ok (.iconst 2, 1) := by decide +kernel
theorem dX11_lay_68 : decode cX11_lay 68 = .ok (.if_icmp .ne 17, 3) := by decide +kernel
theorem dX11_lay_71 : decode cX11_lay 71 = .ok (.aload_n 0, 1) := by decide +kernel
theorem dX11_lay_72 : decode cX11_lay 72 = .ok (.iload_n 3, 1) := by decide +kernel
theorem dX11_lay_73 : decode cX11_lay 73 = .ok (.invokevirtual 140, 3) := by decide +kernel
theorem dX11_lay_76 : decode cX11_lay 76 = .ok (.ifCond .ne 9, 3) := by decide +kernel
theorem dX11_lay_79 : decode cX11_lay 79 = .ok (.aload_n 0, 1) := by decide +kernel
theorem dX11_lay_80 : decode cX11_lay 80 = .ok (.iconst 2, 1) := by decide +kernel
theorem dX11_lay_81 : decode cX11_lay 81 = .ok (.invokevirtual 115, 3) := by decide +kernel
theorem dX11_lay_84 : decode cX11_lay 84 = .ok (.ireturn, 1) := by decide +kernel
theorem dX11_lay_85 : decode cX11_lay 85 = .ok (.aload_n 0, 1) := by decide +kernel
theorem dX11_lay_86 : decode cX11_lay 86 = .ok (.iload_n 1, 1) := by decide +kernel
theorem dX11_lay_87 : decode cX11_lay 87 = .ok (.invokevirtual 227, 3) := by decide +kernel
theorem dX11_lay_90 : decode cX11_lay 90 = .ok (.aload_n 0, 1) := by decide +kernel
theorem dX11_lay_91 : decode cX11_lay 91 = .ok (.getfield 34, 3) := by decide +kernel
theorem dX11_lay_94 : decode cX11_lay 94 = .ok (.iload_n 1, 1) := by decide +kernel
theorem dX11_lay_95 : decode cX11_lay 95 = .ok (.iload_n 2, 1) := by decide +kernel
theorem dX11_lay_96 : decode cX11_lay 96 = .ok (.iastore, 1) := by decide +kernel
theorem dX11_lay_97 : decode cX11_lay 97 = .ok (.aload_n 0, 1) := by decide +kernel
theorem dX11_lay_98 : decode cX11_lay 98 = .ok (.getfield 37, 3) := by decide +kernel
theorem dX11_lay_101 : decode cX11_lay 101 = .ok (.iload_n 1, 1) := by decide +kernel
theorem dX11_lay_102 : decode cX11_lay 102 = .ok (.iload_n 2, 1) := by decide +kernel
theorem dX11_lay_103 : decode cX11_lay 103 = .ok (.iconst 1, 1) := by decide +kernel
theorem dX11_lay_104 : decode cX11_lay 104 = .ok (.if_icmp .eq 8, 3) := by decide +kernel
theorem dX11_lay_107 : decode cX11_lay 107 = .ok (.iload_n 2, 1) := by decide +kernel
theorem dX11_lay_108 : decode cX11_lay 108 = .ok (.iconst 2, 1) := by decide +kernel
theorem dX11_lay_109 : decode cX11_lay 109 = .ok (.if_icmp .ne 7, 3) := by decide +kernel
theorem dX11_lay_112 : decode cX11_lay 112 = .ok (.iload_n 3, 1) := by decide +kernel
theorem dX11_lay_113 : decode cX11_lay 113 = .ok (.goto 4, 3) := by decide +kernel
theorem dX11_lay_116 : decode cX11_lay 116 = .ok (.iconst 0, 1) := by decide +kernel
theorem dX11_lay_117 : decode cX11_lay 117 = .ok (.iastore, 1) := by decide +kernel
theorem dX11_lay_118 : decode cX11_lay 118 = .ok (.iconst 0, 1) := by decide +kernel
theorem dX11_lay_119 : decode cX11_lay 119 = .ok (.istore 4, 2) := by decide +kernel
theorem dX11_lay_121 : decode cX11_lay 121 = .ok (.iload 4, 2) := by decide +kernel
theorem dX11_lay_123 : decode cX11_lay 123 = .ok (.bipush 121, 2) := by decide +kernel
theorem dX11_lay_125 : decode cX11_lay 125 = .ok (.if_icmp .ge 37, 3) := by decide +kernel
theorem dX11_lay_128 : decode cX11_lay 128 = .ok (.aload_n 0, 1) := by decide +kernel
theorem dX11_lay_129 : decode cX11_lay 129 = .ok (.getfield 40, 3) := by decide +kernel
theorem dX11_lay_132 : decode cX11_lay 132 = .ok (.bipush 121, 2) := by decide +kernel
theorem dX11_lay_134 : decode cX11_lay 134 = .ok (.iload_n 1, 1) := by decide +kernel
theorem dX11_lay_135 : decode cX11_lay 135 = .ok (.imul, 1) := by decide +kernel
theorem dX11_lay_136 : decode cX11_lay 136 = .ok (.iload 4, 2) := by decide +kernel
theorem dX11_lay_138 : decode cX11_lay 138 = .ok (.iadd, 1) := by decide +kernel
theorem dX11_lay_139 : decode cX11_lay 139 = .ok (.iload_n 2, 1) := by decide +kernel
theorem dX11_lay_140 : decode cX11_lay 140 = .ok (.iconst 3, 1) := by decide +kernel
theorem dX11_lay_141 : decode cX11_lay 141 = .ok (.if_icmp .ne 13, 3) := by decide +kernel
theorem dX11_lay_144 : decode cX11_lay 144 = .ok (.aload_n 0, 1) := by decide +kernel
theorem dX11_lay_145 : decode cX11_lay 145 = .ok (.getfield 31, 3) := by decide +kernel
theorem dX11_lay_148 : decode cX11_lay 148 = .ok (.iload 4, 2) := by decide +kernel
theorem dX11_lay_150 : decode cX11_lay 150 = .ok (.iaload, 1) := by decide +kernel
theorem dX11_lay_151 : decode cX11_lay 151 = .ok (.goto 4, 3) := by decide +kernel
theorem dX11_lay_154 : decode cX11_lay 154 = .ok (.iconst 0, 1) := by decide +kernel
theorem dX11_lay_155 : decode cX11_lay 155 = .ok (.iastore, 1) := by decide +kernel
theorem dX11_lay_156 : decode cX11_lay 156 = .ok (.iinc 4 1, 3) := by decide +kernel
theorem dX11_lay_159 : decode cX11_lay 159 = .ok (.goto (-38), 3) := by decide +kernel
theorem dX11_lay_162 : decode cX11_lay 162 = .ok (.iconst 1, 1) := by decide +kernel
theorem dX11_lay_163 : decode cX11_lay 163 = .ok (.ireturn, 1) := by decide +kernel
theorem dX11_lies_0 : decode cX11_lies 0 = .ok (.aload_n 0, 1) := by decide +kernel
theorem dX11_lies_1 : decode cX11_lies 1 = .ok (.iconst 0, 1) := by decide +kernel
theorem dX11_lies_2 : decode cX11_lies 2 = .ok (.putfield 84, 3) := by decide +kernel
theorem dX11_lies_5 : decode cX11_lies 5 = .ok (.aload_n 0, 1) := by decide +kernel
theorem dX11_lies_6 : decode cX11_lies 6 = .ok (.iload_n 1, 1) := by decide +kernel
theorem dX11_lies_7 : decode cX11_lies 7 = .ok (.invokevirtual 224, 3) := by decide +kernel
theorem dX11_lies_10 : decode cX11_lies 10 = .ok (.ifCond .ne 9, 3) := by decide +kernel
theorem dX11_lies_13 : decode cX11_lies 13 = .ok (.aload_n 0, 1) := by decide +kernel
theorem dX11_lies_14 : decode cX11_lies 14 = .ok (.iconst 1, 1) := by decide +kernel
theorem dX11_lies_15 : decode cX11_lies 15 = .ok (.invokevirtual 115, 3) := by decide +kernel
theorem dX11_lies_18 : decode cX11_lies 18 = .ok (.ireturn, 1) := by decide +kernel
theorem dX11_lies_19 : decode cX11_lies 19 = .ok (.aload_n 0, 1) := by decide +kernel
theorem dX11_lies_20 : decode cX11_lies 20 = .ok (.iconst 0, 1) := by decide +kernel
theorem dX11_lies_21 : decode cX11_lies 21 = .ok (.putfield 88, 3) := by decide +kernel
theorem dX11_lies_24 : decode cX11_lies 24 = .ok (.aload_n 0, 1) := by decide +kernel
theorem dX11_lies_25 : decode cX11_lies 25 = .ok (.getfield 34, 3) := by decide +kernel
theorem dX11_lies_28 : decode cX11_lies 28 = .ok (.iload_n 1, 1) := by decide +kernel
theorem dX11_lies_29 : decode cX11_lies 29 = .ok (.iaload, 1) := by decide +kernel
theorem dX11_lies_30 : decode cX11_lies 30 = .ok (.ireturn, 1) := by decide +kernel
theorem dX11_partsIn_0 : decode cX11_partsIn 0 = .ok (.aload_n 0, 1) := by decide +kernel
theorem dX11_partsIn_1 : decode cX11_partsIn 1 = .ok (.getfield 25, 3) := by decide +kernel
theorem dX11_partsIn_4 : decode cX11_partsIn 4 = .ok (.aload_n 0, 1) := by decide +kernel
theorem dX11_partsIn_5 : decode cX11_partsIn 5 = .ok (.getfield 40, 3) := by decide +kernel
theorem dX11_partsIn_8 : decode cX11_partsIn 8 = .ok (.bipush 121, 2) := by decide +kernel
theorem dX11_partsIn_10 : decode cX11_partsIn 10 = .ok (.iload_n 1, 1) := by decide +kernel
theorem dX11_partsIn_11 : decode cX11_partsIn 11 = .ok (.imul, 1) := by decide +kernel
theorem dX11_partsIn_12 : decode cX11_partsIn 12 = .ok (.iaload, 1) := by decide +kernel
theorem dX11_partsIn_13 : decode cX11_partsIn 13 = .ok (.iaload, 1) := by decide +kernel
theorem dX11_partsIn_14 : decode cX11_partsIn 14 = .ok (.ireturn, 1) := by decide +kernel
theorem dX11_taken_0 : decode cX11_taken 0 = .ok (.aload_n 0, 1) := by decide +kernel
theorem dX11_taken_1 : decode cX11_taken 1 = .ok (.iconst 0, 1) := by decide +kernel
theorem dX11_taken_2 : decode cX11_taken 2 = .ok (.putfield 84, 3) := by decide +kernel
theorem dX11_taken_5 : decode cX11_taken 5 = .ok (.aload_n 0, 1) := by decide +kernel
theorem dX11_taken_6 : decode cX11_taken 6 = .ok (.iload_n 1, 1) := by decide +kernel
theorem dX11_taken_7 : decode cX11_taken 7 = .ok (.invokevirtual 224, 3) := by decide +kernel
theorem dX11_taken_10 : decode cX11_taken 10 = .ok (.ifCond .ne 9, 3) := by decide +kernel
theorem dX11_taken_13 : decode cX11_taken 13 = .ok (.aload_n 0, 1) := by decide +kernel
theorem dX11_taken_14 : decode cX11_taken 14 = .ok (.iconst 1, 1) := by decide +kernel
theorem dX11_taken_15 : decode cX11_taken 15 = .ok (.invokevirtual 115, 3) := by decide +kernel
theorem dX11_taken_18 : decode cX11_taken 18 = .ok (.ireturn, 1) := by decide +kernel
theorem dX11_taken_19 : decode cX11_taken 19 = .ok (.aload_n 0, 1) := by decide +kernel
theorem dX11_taken_20 : decode cX11_taken 20 = .ok (.iload_n 2, 1) := by decide +kernel
theorem dX11_taken_21 : decode cX11_taken 21 = .ok (.iconst 1, 1) := by decide +kernel
theorem dX11_taken_22 : decode cX11_taken 22 = .ok (.iconst 3, 1) := by decide +kernel
theorem dX11_taken_23 : decode cX11_taken 23 = .ok (.invokevirtual 97, 3) := by decide +kernel
theorem dX11_taken_26 : decode cX11_taken 26 = .ok (.ifCond .ne 9, 3) := by decide +kernel
theorem dX11_taken_29 : decode cX11_taken 29 = .ok (.aload_n 0, 1) := by decide +kernel
theorem dX11_taken_30 : decode cX11_taken 30 = .ok (.iconst 2, 1) := by decide +kernel
theorem dX11_taken_31 : decode cX11_taken 31 = .ok (.invokevirtual 115, 3) := by decide +kernel
theorem dX11_taken_34 : decode cX11_taken 34 = .ok (.ireturn, 1) := by decide +kernel
theorem dX11_taken_35 : decode cX11_taken 35 = .ok (.aload_n 0, 1) := by decide +kernel
theorem dX11_taken_36 : decode cX11_taken 36 = .ok (.getfield 34, 3) := by decide +kernel
theorem dX11_taken_39 : decode cX11_taken 39 = .ok (.iload_n 1, 1) := by decide +kernel
theorem dX11_taken_40 : decode cX11_taken 40 = .ok (.iaload, 1) := by decide +kernel
theorem dX11_taken_41 : decode cX11_taken 41 = .ok (.iload_n 2, 1) := by decide +kernel
theorem dX11_taken_42 : decode cX11_taken 42 = .ok (.if_icmp .eq 10, 3) := by decide +kernel
theorem dX11_taken_45 : decode cX11_taken 45 = .ok (.aload_n 0, 1) := by decide +kernel
theorem dX11_taken_46 : decode cX11_taken 46 = .ok (.bipush 6, 2) := by decide +kernel
theorem dX11_taken_48 : decode cX11_taken 48 = .ok (.invokevirtual 115, 3) := by decide +kernel
theorem dX11_taken_51 : decode cX11_taken 51 = .ok (.ireturn, 1) := by decide +kernel
theorem dX11_taken_52 : decode cX11_taken 52 = .ok (.iload_n 2, 1) := by decide +kernel
theorem dX11_taken_53 : decode cX11_taken 53 = .ok (.iconst 3, 1) := by decide +kernel
theorem dX11_taken_54 : decode cX11_taken 54 = .ok (.if_icmp .ne 25, 3) := by decide +kernel
theorem dX11_taken_57 : decode cX11_taken 57 = .ok (.aload_n 0, 1) := by decide +kernel
theorem dX11_taken_58 : decode cX11_taken 58 = .ok (.iload_n 3, 1) := by decide +kernel
theorem dX11_taken_59 : decode cX11_taken 59 = .ok (.iconst 0, 1) := by decide +kernel
theorem dX11_taken_60 : decode cX11_taken 60 = .ok (.aload_n 0, 1) := by decide +kernel
theorem dX11_taken_61 : decode cX11_taken 61 = .ok (.iload_n 1, 1) := by decide +kernel
theorem dX11_taken_62 : decode cX11_taken 62 = .ok (.invokevirtual 230, 3) := by decide +kernel
theorem dX11_taken_65 : decode cX11_taken 65 = .ok (.iconst 1, 1) := by decide +kernel
theorem dX11_taken_66 : decode cX11_taken 66 = .ok (.isub, 1) := by decide +kernel
theorem dX11_taken_67 : decode cX11_taken 67 = .ok (.invokevirtual 97, 3) := by decide +kernel
theorem dX11_taken_70 : decode cX11_taken 70 = .ok (.ifCond .ne 9, 3) := by decide +kernel
theorem dX11_taken_73 : decode cX11_taken 73 = .ok (.aload_n 0, 1) := by decide +kernel
theorem dX11_taken_74 : decode cX11_taken 74 = .ok (.iconst 1, 1) := by decide +kernel
theorem dX11_taken_75 : decode cX11_taken 75 = .ok (.invokevirtual 115, 3) := by decide +kernel
theorem dX11_taken_78 : decode cX11_taken 78 = .ok (.ireturn, 1) := by decide +kernel
theorem dX11_taken_79 : decode cX11_taken 79 = .ok (.aload_n 0, 1) := by decide +kernel
theorem dX11_taken_80 : decode cX11_taken 80 = .ok (.iconst 0, 1) := by decide +kernel
theorem dX11_taken_81 : decode cX11_taken 81 = .ok (.putfield 88, 3) := by decide +kernel
theorem dX11_taken_84 : decode cX11_taken 84 = .ok (.iload_n 2, 1) := by decide +kernel
theorem dX11_taken_85 : decode cX11_taken 85 = .ok (.iconst 3, 1) := by decide +kernel
theorem dX11_taken_86 : decode cX11_taken 86 = .ok (.if_icmp .ne 19, 3) := by decide +kernel
theorem dX11_taken_89 : decode cX11_taken 89 = .ok (.aload_n 0, 1) := by decide +kernel
theorem dX11_taken_90 : decode cX11_taken 90 = .ok (.getfield 40, 3) := by decide +kernel
theorem dX11_taken_93 : decode cX11_taken 93 = .ok (.bipush 121, 2) := by decide +kernel
theorem dX11_taken_95 : decode cX11_taken 95 = .ok (.iload_n 1, 1) := by decide +kernel
theorem dX11_taken_96 : decode cX11_taken 96 = .ok (.imul, 1) := by decide +kernel
theorem dX11_taken_97 : decode cX11_taken 97 = .ok (.iconst 1, 1) := by decide +kernel
theorem dX11_taken_98 : decode cX11_taken 98 = .ok (.iadd, 1) := by decide +kernel
theorem dX11_taken_99 : decode cX11_taken 99 = .ok (.iload_n 3, 1) := by decide +kernel
theorem dX11_taken_100 : decode cX11_taken 100 = .ok (.iadd, 1) := by decide +kernel
theorem dX11_taken_101 : decode cX11_taken 101 = .ok (.iaload, 1) := by decide +kernel
theorem dX11_taken_102 : decode cX11_taken 102 = .ok (.goto 9, 3) := by decide +kernel
theorem dX11_taken_105 : decode cX11_taken 105 = .ok (.aload_n 0, 1) := by decide +kernel
theorem dX11_taken_106 : decode cX11_taken 106 = .ok (.getfield 37, 3) := by decide +kernel
theorem dX11_taken_109 : decode cX11_taken 109 = .ok (.iload_n 1, 1) := by decide +kernel
theorem dX11_taken_110 : decode cX11_taken 110 = .ok (.iaload, 1) := by decide +kernel
theorem dX11_taken_111 : decode cX11_taken 111 = .ok (.ireturn, 1) := by decide +kernel
theorem dX11_copy_0 : decode cX11_copy 0 = .ok (.aload_n 0, 1) := by decide +kernel
theorem dX11_copy_1 : decode cX11_copy 1 = .ok (.iconst 0, 1) := by decide +kernel
theorem dX11_copy_2 : decode cX11_copy 2 = .ok (.putfield 84, 3) := by decide +kernel
theorem dX11_copy_5 : decode cX11_copy 5 = .ok (.aload_n 0, 1) := by decide +kernel
theorem dX11_copy_6 : decode cX11_copy 6 = .ok (.iload_n 1, 1) := by decide +kernel
theorem dX11_copy_7 : decode cX11_copy 7 = .ok (.invokevirtual 224, 3) := by decide +kernel
theorem dX11_copy_10 : decode cX11_copy 10 = .ok (.ifCond .eq 11, 3) := by decide +kernel
theorem dX11_copy_13 : decode cX11_copy 13 = .ok (.aload_n 0, 1) := by decide +kernel
theorem dX11_copy_14 : decode cX11_copy 14 = .ok (.iload_n 3, 1) := by decide +kernel
theorem dX11_copy_15 : decode cX11_copy 15 = .ok (.invokevirtual 224, 3) := by decide +kernel
theorem dX11_copy_18 : decode cX11_copy 18 = .ok (.ifCond .ne 9, 3) := by decide +kernel
theorem dX11_copy_21 : decode cX11_copy 21 = .ok (.aload_n 0, 1) := by decide +kernel
theorem dX11_copy_22 : decode cX11_copy 22 = .ok (.iconst 1, 1) := by decide +kernel
theorem dX11_copy_23 : decode cX11_copy 23 = .ok (.invokevirtual 115, 3) := by decide +kernel
theorem dX11_copy_26 : decode cX11_copy 26 = .ok (.ireturn, 1) := by decide +kernel
theorem dX11_copy_27 : decode cX11_copy 27 = .ok (.aload_n 0, 1) := by decide +kernel
theorem dX11_copy_28 : decode cX11_copy 28 = .ok (.getfield 34, 3) := by decide +kernel
theorem dX11_copy_31 : decode cX11_copy 31 = .ok (.iload_n 1, 1) := by decide +kernel
theorem dX11_copy_32 : decode cX11_copy 32 = .ok (.iaload, 1) := by decide +kernel
theorem dX11_copy_33 : decode cX11_copy 33 = .ok (.iconst 3, 1) := by decide +kernel
theorem dX11_copy_34 : decode cX11_copy 34 = .ok (.if_icmp .ne 13, 3) := by decide +kernel
theorem dX11_copy_37 : decode cX11_copy 37 = .ok (.aload_n 0, 1) := by decide +kernel
theorem dX11_copy_38 : decode cX11_copy 38 = .ok (.getfield 34, 3) := by decide +kernel
theorem dX11_copy_41 : decode cX11_copy 41 = .ok (.iload_n 3, 1) := by decide +kernel
theorem dX11_copy_42 : decode cX11_copy 42 = .ok (.iaload, 1) := by decide +kernel
theorem dX11_copy_43 : decode cX11_copy 43 = .ok (.iconst 3, 1) := by decide +kernel
theorem dX11_copy_44 : decode cX11_copy 44 = .ok (.if_icmp .eq 10, 3) := by decide +kernel
theorem dX11_copy_47 : decode cX11_copy 47 = .ok (.aload_n 0, 1) := by decide +kernel
theorem dX11_copy_48 : decode cX11_copy 48 = .ok (.bipush 6, 2) := by decide +kernel
theorem dX11_copy_50 : decode cX11_copy 50 = .ok (.invokevirtual 115, 3) := by decide +kernel
theorem dX11_copy_53 : decode cX11_copy 53 = .ok (.ireturn, 1) := by decide +kernel
theorem dX11_copy_54 : decode cX11_copy 54 = .ok (.iload_n 2, 1) := by decide +kernel
theorem dX11_copy_55 : decode cX11_copy 55 = .ok (.ifCond .lt 38, 3) := by decide +kernel
theorem dX11_copy_58 : decode cX11_copy 58 = .ok (.iload 4, 2) := by decide +kernel
theorem dX11_copy_60 : decode cX11_copy 60 = .ok (.ifCond .lt 33, 3) := by decide +kernel
theorem dX11_copy_63 : decode cX11_copy 63 = .ok (.iload 5, 2) := by decide +kernel
theorem dX11_copy_65 : decode cX11_copy 65 = .ok (.ifCond .lt 28, 3) := by decide +kernel
theorem dX11_copy_68 : decode cX11_copy 68 = .ok (.iload 5, 2) := by decide +kernel
theorem dX11_copy_70 : decode cX11_copy 70 = .ok (.aload_n 0, 1) := by decide +kernel
theorem dX11_copy_71 : decode cX11_copy 71 = .ok (.iload_n 1, 1) := by decide +kernel
theorem dX11_copy_72 : decode cX11_copy 72 = .ok (.invokevirtual 230, 3) := by decide +kernel
theorem dX11_copy_75 : decode cX11_copy 75 = .ok (.iload_n 2, 1) := by decide +kernel
theorem dX11_copy_76 : decode cX11_copy 76 = .ok (.isub, 1) := by decide +kernel
theorem dX11_copy_77 : decode cX11_copy 77 = .ok (.if_icmp .gt 16, 3) := by decide +kernel
theorem dX11_copy_80 : decode cX11_copy 80 = .ok (.iload 5, 2) := by decide +kernel
theorem dX11_copy_82 : decode cX11_copy 82 = .ok (.aload_n 0, 1) := by decide +kernel
theorem dX11_copy_83 : decode cX11_copy 83 = .ok (.iload_n 3, 1) := by decide +kernel
theorem dX11_copy_84 : decode cX11_copy 84 = .ok (.invokevirtual 230, 3) := by decide +kernel
theorem dX11_copy_87 : decode cX11_copy 87 = .ok (.iload 4, 2) := by decide +kernel
theorem dX11_copy_89 : decode cX11_copy 89 = .ok (.isub, 1) := by decide +kernel
theorem dX11_copy_90 : decode cX11_copy 90 = .ok (.if_icmp .le 9, 3) := by decide +kernel
theorem dX11_copy_93 : decode cX11_copy 93 = .ok (.aload_n 0, 1) := by decide +kernel
theorem dX11_copy_94 : decode cX11_copy 94 = .ok (.iconst 2, 1) := by decide +kernel
theorem dX11_copy_95 : decode cX11_copy 95 = .ok (.invokevirtual 115, 3) := by decide +kernel
theorem dX11_copy_98 : decode cX11_copy 98 = .ok (.ireturn, 1) := by decide +kernel
theorem dX11_copy_99 : decode cX11_copy 99 = .ok (.aload_n 0, 1) := by decide +kernel
theorem dX11_copy_100 : decode cX11_copy 100 = .ok (.iload_n 3, 1) := by decide +kernel
theorem dX11_copy_101 : decode cX11_copy 101 = .ok (.invokevirtual 227, 3) := by decide +kernel
theorem dX11_copy_104 : decode cX11_copy 104 = .ok (.iconst 0, 1) := by decide +kernel
theorem dX11_copy_105 : decode cX11_copy 105 = .ok (.istore 6, 2) := by decide +kernel
theorem dX11_copy_107 : decode cX11_copy 107 = .ok (.iload 6, 2) := by decide +kernel
theorem dX11_copy_109 : decode cX11_copy 109 = .ok (.iload 5, 2) := by decide +kernel
theorem dX11_copy_111 : decode cX11_copy 111 = .ok (.if_icmp .ge 32, 3) := by decide +kernel
theorem dX11_copy_114 : decode cX11_copy 114 = .ok (.aload_n 0, 1) := by decide +kernel
theorem dX11_copy_115 : decode cX11_copy 115 = .ok (.getfield 81, 3) := by decide +kernel
theorem dX11_copy_118 : decode cX11_copy 118 = .ok (.iload 6, 2) := by decide +kernel
theorem dX11_copy_120 : decode cX11_copy 120 = .ok (.aload_n 0, 1) := by decide +kernel
theorem dX11_copy_121 : decode cX11_copy 121 = .ok (.getfield 40, 3) := by decide +kernel
theorem dX11_copy_124 : decode cX11_copy 124 = .ok (.bipush 121, 2) := by decide +kernel
theorem dX11_copy_126 : decode cX11_copy 126 = .ok (.iload_n 1, 1) := by decide +kernel
theorem dX11_copy_127 : decode cX11_copy 127 = .ok (.imul, 1) := by decide +kernel
theorem dX11_copy_128 : decode cX11_copy 128 = .ok (.iconst 1, 1) := by decide +kernel
theorem dX11_copy_129 : decode cX11_copy 129 = .ok (.iadd, 1) := by decide +kernel
theorem dX11_copy_130 : decode cX11_copy 130 = .ok (.iload_n 2, 1) := by decide +kernel
theorem dX11_copy_131 : decode cX11_copy 131 = .ok (.iadd, 1) := by decide +kernel
theorem dX11_copy_132 : decode cX11_copy 132 = .ok (.iload 6, 2) := by decide +kernel
theorem dX11_copy_134 : decode cX11_copy 134 = .ok (.iadd, 1) := by decide +kernel
theorem dX11_copy_135 : decode cX11_copy 135 = .ok (.iaload, 1) := by decide +kernel
theorem dX11_copy_136 : decode cX11_copy 136 = .ok (.iastore, 1) := by decide +kernel
theorem dX11_copy_137 : decode cX11_copy 137 = .ok (.iinc 6 1, 3) := by decide +kernel
theorem dX11_copy_140 : decode cX11_copy 140 = .ok (.goto (-33), 3) := by decide +kernel
theorem dX11_copy_143 : decode cX11_copy 143 = .ok (.iconst 0, 1) := by decide +kernel
theorem dX11_copy_144 : decode cX11_copy 144 = .ok (.istore 6, 2) := by decide +kernel
theorem dX11_copy_146 : decode cX11_copy 146 = .ok (.iload 6, 2) := by decide +kernel
theorem dX11_copy_148 : decode cX11_copy 148 = .ok (.iload 5, 2) := by decide +kernel
theorem dX11_copy_150 : decode cX11_copy 150 = .ok (.if_icmp .ge 33, 3) := by decide +kernel
theorem dX11_copy_153 : decode cX11_copy 153 = .ok (.aload_n 0, 1) := by decide +kernel
theorem dX11_copy_154 : decode cX11_copy 154 = .ok (.getfield 40, 3) := by decide +kernel
theorem dX11_copy_157 : decode cX11_copy 157 = .ok (.bipush 121, 2) := by decide +kernel
theorem dX11_copy_159 : decode cX11_copy 159 = .ok (.iload_n 3, 1) := by decide +kernel
theorem dX11_copy_160 : decode cX11_copy 160 = .ok (.imul, 1) := by decide +kernel
theorem dX11_copy_161 : decode cX11_copy 161 = .ok (.iconst 1, 1) := by decide +kernel
theorem dX11_copy_162 : decode cX11_copy 162 = .ok (.iadd, 1) := by decide +kernel
theorem dX11_copy_163 : decode cX11_copy 163 = .ok (.iload 4, 2) := by decide +kernel
theorem dX11_copy_165 : decode cX11_copy 165 = .ok (.iadd, 1) := by decide +kernel
theorem dX11_copy_166 : decode cX11_copy 166 = .ok (.iload 6, 2) := by decide +kernel
theorem dX11_copy_168 : decode cX11_copy 168 = .ok (.iadd, 1) := by decide +kernel
theorem dX11_copy_169 : decode cX11_copy 169 = .ok (.aload_n 0, 1) := by decide +kernel
theorem dX11_copy_170 : decode cX11_copy 170 = .ok (.getfield 81, 3) := by decide +kernel
theorem dX11_copy_173 : decode cX11_copy 173 = .ok (.iload 6, 2) := by decide +kernel
theorem dX11_copy_175 : decode cX11_copy 175 = .ok (.iaload, 1) := by decide +kernel
theorem dX11_copy_176 : decode cX11_copy 176 = .ok (.iastore, 1) := by decide +kernel
theorem dX11_copy_177 : decode cX11_copy 177 = .ok (.iinc 6 1, 3) := by decide +kernel
theorem dX11_copy_180 : decode cX11_copy 180 = .ok (.goto (-34), 3) := by decide +kernel
theorem dX11_copy_183 : decode cX11_copy 183 = .ok (.iconst 1, 1) := by decide +kernel
theorem dX11_copy_184 : decode cX11_copy 184 = .ok (.ireturn, 1) := by decide +kernel
theorem dX11_use_0 : decode cX11_use 0 = .ok (.aload_n 0, 1) := by decide +kernel
theorem dX11_use_1 : decode cX11_use 1 = .ok (.iconst 0, 1) := by decide +kernel
theorem dX11_use_2 : decode cX11_use 2 = .ok (.putfield 84, 3) := by decide +kernel
theorem dX11_use_5 : decode cX11_use 5 = .ok (.aload_n 0, 1) := by decide +kernel
theorem dX11_use_6 : decode cX11_use 6 = .ok (.iload_n 1, 1) := by decide +kernel
theorem dX11_use_7 : decode cX11_use 7 = .ok (.invokevirtual 224, 3) := by decide +kernel
theorem dX11_use_10 : decode cX11_use 10 = .ok (.ifCond .ne 9, 3) := by decide +kernel
theorem dX11_use_13 : decode cX11_use 13 = .ok (.aload_n 0, 1) := by decide +kernel
theorem dX11_use_14 : decode cX11_use 14 = .ok (.iconst 1, 1) := by decide +kernel
theorem dX11_use_15 : decode cX11_use 15 = .ok (.invokevirtual 115, 3) := by decide +kernel
theorem dX11_use_18 : decode cX11_use 18 = .ok (.ireturn, 1) := by decide +kernel
theorem dX11_use_19 : decode cX11_use 19 = .ok (.aload_n 0, 1) := by decide +kernel
theorem dX11_use_20 : decode cX11_use 20 = .ok (.getfield 34, 3) := by decide +kernel
theorem dX11_use_23 : decode cX11_use 23 = .ok (.iload_n 1, 1) := by decide +kernel
theorem dX11_use_24 : decode cX11_use 24 = .ok (.iaload, 1) := by decide +kernel
theorem dX11_use_25 : decode cX11_use 25 = .ok (.iconst 3, 1) := by decide +kernel
theorem dX11_use_26 : decode cX11_use 26 = .ok (.if_icmp .eq 10, 3) := by decide +kernel
theorem dX11_use_29 : decode cX11_use 29 = .ok (.aload_n 0, 1) := by decide +kernel
theorem dX11_use_30 : decode cX11_use 30 = .ok (.bipush 6, 2) := by decide +kernel
theorem dX11_use_32 : decode cX11_use 32 = .ok (.invokevirtual 115, 3) := by decide +kernel
theorem dX11_use_35 : decode cX11_use 35 = .ok (.ireturn, 1) := by decide +kernel
theorem dX11_use_36 : decode cX11_use 36 = .ok (.iconst 0, 1) := by decide +kernel
theorem dX11_use_37 : decode cX11_use 37 = .ok (.istore_n 2, 1) := by decide +kernel
theorem dX11_use_38 : decode cX11_use 38 = .ok (.iconst 0, 1) := by decide +kernel
theorem dX11_use_39 : decode cX11_use 39 = .ok (.istore_n 3, 1) := by decide +kernel
theorem dX11_use_40 : decode cX11_use 40 = .ok (.iload_n 3, 1) := by decide +kernel
theorem dX11_use_41 : decode cX11_use 41 = .ok (.aload_n 0, 1) := by decide +kernel
theorem dX11_use_42 : decode cX11_use 42 = .ok (.iload_n 1, 1) := by decide +kernel
theorem dX11_use_43 : decode cX11_use 43 = .ok (.invokevirtual 230, 3) := by decide +kernel
theorem dX11_use_46 : decode cX11_use 46 = .ok (.if_icmp .ge 25, 3) := by decide +kernel
theorem dX11_use_49 : decode cX11_use 49 = .ok (.iload_n 2, 1) := by decide +kernel
theorem dX11_use_50 : decode cX11_use 50 = .ok (.aload_n 0, 1) := by decide +kernel
theorem dX11_use_51 : decode cX11_use 51 = .ok (.getfield 40, 3) := by decide +kernel
theorem dX11_use_54 : decode cX11_use 54 = .ok (.bipush 121, 2) := by decide +kernel
theorem dX11_use_56 : decode cX11_use 56 = .ok (.iload_n 1, 1) := by decide +kernel
theorem dX11_use_57 : decode cX11_use 57 = .ok (.imul, 1) := by decide +kernel
theorem dX11_use_58 : decode cX11_use 58 = .ok (.iconst 1, 1) := by decide +kernel
theorem dX11_use_59 : decode cX11_use 59 = .ok (.iadd, 1) := by decide +kernel
theorem dX11_use_60 : decode cX11_use 60 = .ok (.iload_n 3, 1) := by decide +kernel
theorem dX11_use_61 : decode cX11_use 61 = .ok (.iadd, 1) := by decide +kernel
theorem dX11_use_62 : decode cX11_use 62 = .ok (.iaload, 1) := by decide +kernel
theorem dX11_use_63 : decode cX11_use 63 = .ok (.iadd, 1) := by decide +kernel
theorem dX11_use_64 : decode cX11_use 64 = .ok (.istore_n 2, 1) := by decide +kernel
theorem dX11_use_65 : decode cX11_use 65 = .ok (.iinc 3 1, 3) := by decide +kernel
theorem dX11_use_68 : decode cX11_use 68 = .ok (.goto (-28), 3) := by decide +kernel
theorem dX11_use_71 : decode cX11_use 71 = .ok (.iload_n 2, 1) := by decide +kernel
theorem dX11_use_72 : decode cX11_use 72 = .ok (.ifCond .ne 9, 3) := by decide +kernel
theorem dX11_use_75 : decode cX11_use 75 = .ok (.aload_n 0, 1) := by decide +kernel
theorem dX11_use_76 : decode cX11_use 76 = .ok (.iconst 5, 1) := by decide +kernel
theorem dX11_use_77 : decode cX11_use 77 = .ok (.invokevirtual 115, 3) := by decide +kernel
theorem dX11_use_80 : decode cX11_use 80 = .ok (.ireturn, 1) := by decide +kernel
theorem dX11_use_81 : decode cX11_use 81 = .ok (.aload_n 0, 1) := by decide +kernel
theorem dX11_use_82 : decode cX11_use 82 = .ok (.invokevirtual 190, 3) := by decide +kernel
theorem dX11_use_85 : decode cX11_use 85 = .ok (.aload_n 0, 1) := by decide +kernel
theorem dX11_use_86 : decode cX11_use 86 = .ok (.iconst 1, 1) := by decide +kernel
theorem dX11_use_87 : decode cX11_use 87 = .ok (.putfield 104, 3) := by decide +kernel
theorem dX11_use_90 : decode cX11_use 90 = .ok (.iconst 0, 1) := by decide +kernel
theorem dX11_use_91 : decode cX11_use 91 = .ok (.istore_n 3, 1) := by decide +kernel
theorem dX11_use_92 : decode cX11_use 92 = .ok (.iload_n 3, 1) := by decide +kernel
theorem dX11_use_93 : decode cX11_use 93 = .ok (.bipush 121, 2) := by decide +kernel
theorem dX11_use_95 : decode cX11_use 95 = .ok (.if_icmp .ge 26, 3) := by decide +kernel
theorem dX11_use_98 : decode cX11_use 98 = .ok (.aload_n 0, 1) := by decide +kernel
theorem dX11_use_99 : decode cX11_use 99 = .ok (.getfield 31, 3) := by decide +kernel
theorem dX11_use_102 : decode cX11_use 102 = .ok (.iload_n 3, 1) := by decide +kernel
theorem dX11_use_103 : decode cX11_use 103 = .ok (.aload_n 0, 1) := by decide +kernel
theorem dX11_use_104 : decode cX11_use 104 = .ok (.getfield 40, 3) := by decide +kernel
theorem dX11_use_107 : decode cX11_use 107 = .ok (.bipush 121, 2) := by decide +kernel
theorem dX11_use_109 : decode cX11_use 109 = .ok (.iload_n 1, 1) := by decide +kernel
theorem dX11_use_110 : decode cX11_use 110 = .ok (.imul, 1) := by decide +kernel
theorem dX11_use_111 : decode cX11_use 111 = .ok (.iload_n 3, 1) := by decide +kernel
theorem dX11_use_112 : decode cX11_use 112 = .ok (.iadd, 1) := by decide +kernel
theorem dX11_use_113 : decode cX11_use 113 = .ok (.iaload, 1) := by decide +kernel
theorem dX11_use_114 : decode cX11_use 114 = .ok (.iastore, 1) := by decide +kernel
theorem dX11_use_115 : decode cX11_use 115 = .ok (.iinc 3 1, 3) := by decide +kernel
theorem dX11_use_118 : decode cX11_use 118 = .ok (.goto (-26), 3) := by decide +kernel
theorem dX11_use_121 : decode cX11_use 121 = .ok (.iconst 1, 1) := by decide +kernel
theorem dX11_use_122 : decode cX11_use 122 = .ok (.ireturn, 1) := by decide +kernel
theorem dX11_size_0 : decode cX11_size 0 = .ok (.aload_n 0, 1) := by decide +kernel
theorem dX11_size_1 : decode cX11_size 1 = .ok (.iconst 0, 1) := by decide +kernel
theorem dX11_size_2 : decode cX11_size 2 = .ok (.putfield 84, 3) := by decide +kernel
theorem dX11_size_5 : decode cX11_size 5 = .ok (.iload_n 1, 1) := by decide +kernel
theorem dX11_size_6 : decode cX11_size 6 = .ok (.tableswitch 59 0 4 #[34, 39, 44, 49, 54], 34) := by decide +kernel
theorem dX11_size_40 : decode cX11_size 40 = .ok (.aload_n 0, 1) := by decide +kernel
theorem dX11_size_41 : decode cX11_size 41 = .ok (.getfield 91, 3) := by decide +kernel
theorem dX11_size_44 : decode cX11_size 44 = .ok (.ireturn, 1) := by decide +kernel
theorem dX11_size_45 : decode cX11_size 45 = .ok (.aload_n 0, 1) := by decide +kernel
theorem dX11_size_46 : decode cX11_size 46 = .ok (.getfield 94, 3) := by decide +kernel
theorem dX11_size_49 : decode cX11_size 49 = .ok (.ireturn, 1) := by decide +kernel
theorem dX11_size_50 : decode cX11_size 50 = .ok (.aload_n 0, 1) := by decide +kernel
theorem dX11_size_51 : decode cX11_size 51 = .ok (.getfield 112, 3) := by decide +kernel
theorem dX11_size_54 : decode cX11_size 54 = .ok (.ireturn, 1) := by decide +kernel
theorem dX11_size_55 : decode cX11_size 55 = .ok (.aload_n 0, 1) := by decide +kernel
theorem dX11_size_56 : decode cX11_size 56 = .ok (.getfield 101, 3) := by decide +kernel
theorem dX11_size_59 : decode cX11_size 59 = .ok (.ireturn, 1) := by decide +kernel
theorem dX11_size_60 : decode cX11_size 60 = .ok (.aload_n 0, 1) := by decide +kernel
theorem dX11_size_61 : decode cX11_size 61 = .ok (.getfield 221, 3) := by decide +kernel
theorem dX11_size_64 : decode cX11_size 64 = .ok (.ireturn, 1) := by decide +kernel
theorem dX11_size_65 : decode cX11_size 65 = .ok (.iconst (-1), 1) := by decide +kernel
theorem dX11_size_66 : decode cX11_size 66 = .ok (.ireturn, 1) := by decide +kernel
theorem dX11_status_0 : decode cX11_status 0 = .ok (.aload_n 0, 1) := by decide +kernel
theorem dX11_status_1 : decode cX11_status 1 = .ok (.iconst 0, 1) := by decide +kernel
theorem dX11_status_2 : decode cX11_status 2 = .ok (.putfield 84, 3) := by decide +kernel
theorem dX11_status_5 : decode cX11_status 5 = .ok (.aload_n 0, 1) := by decide +kernel
theorem dX11_status_6 : decode cX11_status 6 = .ok (.getfield 88, 3) := by decide +kernel
theorem dX11_status_9 : decode cX11_status 9 = .ok (.ireturn, 1) := by decide +kernel
end
section
theorem dL_law_0 : decode cL_law 0 = .ok (.new 7, 3) := by decide +kernel
theorem dL_law_3 : decode cL_law 3 = .ok (.dup, 1) := by decide +kernel
theorem dL_law_4 : decode cL_law 4 = .ok (.invokespecial 9, 3) := by decide +kernel
theorem dL_law_7 : decode cL_law 7 = .ok (.astore_n 1, 1) := by decide +kernel
theorem dL_law_8 : decode cL_law 8 = .ok (.new 10, 3) := by decide +kernel
theorem dL_law_11 : decode cL_law 11 = .ok (.dup, 1) := by decide +kernel
theorem dL_law_12 : decode cL_law 12 = .ok (.invokespecial 12, 3) := by decide +kernel
theorem dL_law_15 : decode cL_law 15 = .ok (.astore_n 2, 1) := by decide +kernel
theorem dL_law_16 : decode cL_law 16 = .ok (.iconst 0, 1) := by decide +kernel
theorem dL_law_17 : decode cL_law 17 = .ok (.istore_n 3, 1) := by decide +kernel
theorem dL_law_18 : decode cL_law 18 = .ok (.iload_n 3, 1) := by decide +kernel
theorem dL_law_19 : decode cL_law 19 = .ok (.aload_n 0, 1) := by decide +kernel
theorem dL_law_20 : decode cL_law 20 = .ok (.arraylength, 1) := by decide +kernel
theorem dL_law_21 : decode cL_law 21 = .ok (.bipush 7, 2) := by decide +kernel
theorem dL_law_23 : decode cL_law 23 = .ok (.isub, 1) := by decide +kernel
theorem dL_law_24 : decode cL_law 24 = .ok (.if_icmp .gt 1542, 3) := by decide +kernel
theorem dL_law_27 : decode cL_law 27 = .ok (.aload_n 0, 1) := by decide +kernel
theorem dL_law_28 : decode cL_law 28 = .ok (.iload_n 3, 1) := by decide +kernel
theorem dL_law_29 : decode cL_law 29 = .ok (.iaload, 1) := by decide +kernel
theorem dL_law_30 : decode cL_law 30 = .ok (.bipush 63, 2) := by decide +kernel
theorem dL_law_32 : decode cL_law 32 = .ok (.iand, 1) := by decide +kernel
theorem dL_law_33 : decode cL_law 33 = .ok (.tableswitch 1527 0 42 #[187, 220, 253, 286, 309, 322, 345, 388, 463, 496, 529, 572, 595, 628, 661, 684, 717, 750, 783, 816, 839, 862, 911, 935, 958, 991, 1014, 1037, 1086, 1119, 1168, 1181, 1204, 1227, 1260, 1283, 1326, 1349, 1392, 1455, 1478, 1491, 1514], 187) := by decide +kernel
theorem dL_law_220 : decode cL_law 220 = .ok (.aload_n 1, 1) := by decide +kernel
theorem dL_law_221 : decode cL_law 221 = .ok (.aload_n 0, 1) := by decide +kernel
theorem dL_law_222 : decode cL_law 222 = .ok (.iload_n 3, 1) := by decide +kernel
theorem dL_law_223 : decode cL_law 223 = .ok (.iconst 1, 1) := by decide +kernel
theorem dL_law_224 : decode cL_law 224 = .ok (.iadd, 1) := by decide +kernel
theorem dL_law_225 : decode cL_law 225 = .ok (.iaload, 1) := by decide +kernel
theorem dL_law_226 : decode cL_law 226 = .ok (.aload_n 0, 1) := by decide +kernel
theorem dL_law_227 : decode cL_law 227 = .ok (.iload_n 3, 1) := by decide +kernel
theorem dL_law_228 : decode cL_law 228 = .ok (.iconst 2, 1) := by decide +kernel
theorem dL_law_229 : decode cL_law 229 = .ok (.iadd, 1) := by decide +kernel
theorem dL_law_230 : decode cL_law 230 = .ok (.iaload, 1) := by decide +kernel
theorem dL_law_231 : decode cL_law 231 = .ok (.invokevirtual 13, 3) := by decide +kernel
theorem dL_law_234 : decode cL_law 234 = .ok (.aload_n 2, 1) := by decide +kernel
theorem dL_law_235 : decode cL_law 235 = .ok (.aload_n 0, 1) := by decide +kernel
theorem dL_law_236 : decode cL_law 236 = .ok (.iload_n 3, 1) := by decide +kernel
theorem dL_law_237 : decode cL_law 237 = .ok (.iconst 1, 1) := by decide +kernel
theorem dL_law_238 : decode cL_law 238 = .ok (.iadd, 1) := by decide +kernel
theorem dL_law_239 : decode cL_law 239 = .ok (.iaload, 1) := by decide +kernel
theorem dL_law_240 : decode cL_law 240 = .ok (.aload_n 0, 1) := by decide +kernel
theorem dL_law_241 : decode cL_law 241 = .ok (.iload_n 3, 1) := by decide +kernel
theorem dL_law_242 : decode cL_law 242 = .ok (.iconst 2, 1) := by decide +kernel
theorem dL_law_243 : decode cL_law 243 = .ok (.iadd, 1) := by decide +kernel
theorem dL_law_244 : decode cL_law 244 = .ok (.iaload, 1) := by decide +kernel
theorem dL_law_245 : decode cL_law 245 = .ok (.invokevirtual 17, 3) := by decide +kernel
theorem dL_law_248 : decode cL_law 248 = .ok (.if_icmp .eq 1312, 3) := by decide +kernel
theorem dL_law_251 : decode cL_law 251 = .ok (.iconst 0, 1) := by decide +kernel
theorem dL_law_252 : decode cL_law 252 = .ok (.ireturn, 1) := by decide +kernel
theorem dL_law_253 : decode cL_law 253 = .ok (.aload_n 1, 1) := by decide +kernel
theorem dL_law_254 : decode cL_law 254 = .ok (.aload_n 0, 1) := by decide +kernel
theorem dL_law_255 : decode cL_law 255 = .ok (.iload_n 3, 1) := by decide +kernel
theorem dL_law_256 : decode cL_law 256 = .ok (.iconst 1, 1) := by decide +kernel
theorem dL_law_257 : decode cL_law 257 = .ok (.iadd, 1) := by decide +kernel
theorem dL_law_258 : decode cL_law 258 = .ok (.iaload, 1) := by decide +kernel
theorem dL_law_259 : decode cL_law 259 = .ok (.aload_n 0, 1) := by decide +kernel
theorem dL_law_260 : decode cL_law 260 = .ok (.iload_n 3, 1) := by decide +kernel
theorem dL_law_261 : decode cL_law 261 = .ok (.iconst 2, 1) := by decide +kernel
theorem dL_law_262 : decode cL_law 262 = .ok (.iadd, 1) := by decide +kernel
theorem dL_law_263 : decode cL_law 263 = .ok (.iaload, 1) := by decide +kernel
theorem dL_law_264 : decode cL_law 264 = .ok (.invokevirtual 18, 3) := by decide +kernel
theorem dL_law_267 : decode cL_law 267 = .ok (.aload_n 2, 1) := by decide +kernel
theorem dL_law_268 : decode cL_law 268 = .ok (.aload_n 0, 1) := by decide +kernel
theorem dL_law_269 : decode cL_law 269 = .ok (.iload_n 3, 1) := by decide +kernel
theorem dL_law_270 : decode cL_law 270 = .ok (.iconst 1, 1) := by decide +kernel
theorem dL_law_271 : decode cL_law 271 = .ok (.iadd, 1) := by decide +kernel
theorem dL_law_272 : decode cL_law 272 = .ok (.iaload, 1) := by decide +kernel
theorem dL_law_273 : decode cL_law 273 = .ok (.aload_n 0, 1) := by decide +kernel
theorem dL_law_274 : decode cL_law 274 = .ok (.iload_n 3, 1) := by decide +kernel
theorem dL_law_275 : decode cL_law 275 = .ok (.iconst 2, 1) := by decide +kernel
theorem dL_law_276 : decode cL_law 276 = .ok (.iadd, 1) := by decide +kernel
theorem dL_law_277 : decode cL_law 277 = .ok (.iaload, 1) := by decide +kernel
theorem dL_law_278 : decode cL_law 278 = .ok (.invokevirtual 22, 3) := by decide +kernel
theorem dL_law_281 : decode cL_law 281 = .ok (.if_icmp .eq 1279, 3) := by decide +kernel
theorem dL_law_284 : decode cL_law 284 = .ok (.iconst 0, 1) := by decide +kernel
theorem dL_law_285 : decode cL_law 285 = .ok (.ireturn, 1) := by decide +kernel
theorem dL_law_286 : decode cL_law 286 = .ok (.aload_n 1, 1) := by decide +kernel
theorem dL_law_287 : decode cL_law 287 = .ok (.aload_n 0, 1) := by decide +kernel
theorem dL_law_288 : decode cL_law 288 = .ok (.iload_n 3, 1) := by decide +kernel
theorem dL_law_289 : decode cL_law 289 = .ok (.iconst 1, 1) := by decide +kernel
theorem dL_law_290 : decode cL_law 290 = .ok (.iadd, 1) := by decide +kernel
theorem dL_law_291 : decode cL_law 291 = .ok (.iaload, 1) := by decide +kernel
theorem dL_law_292 : decode cL_law 292 = .ok (.aload_n 0, 1) := by decide +kernel
theorem dL_law_293 : decode cL_law 293 = .ok (.iload_n 3, 1) := by decide +kernel
theorem dL_law_294 : decode cL_law 294 = .ok (.iconst 2, 1) := by decide +kernel
theorem dL_law_295 : decode cL_law 295 = .ok (.iadd, 1) := by decide +kernel
theorem dL_law_296 : decode cL_law 296 = .ok (.iaload, 1) := by decide +kernel
theorem dL_law_297 : decode cL_law 297 = .ok (.invokevirtual 23, 3) := by decide +kernel
theorem dL_law_300 : decode cL_law 300 = .ok (.aload_n 2, 1) := by decide +kernel
theorem dL_law_301 : decode cL_law 301 = .ok (.aload_n 0, 1) := by decide +kernel
theorem dL_law_302 : decode cL_law 302 = .ok (.iload_n 3, 1) := by decide +kernel
theorem dL_law_303 : decode cL_law 303 = .ok (.iconst 1, 1) := by decide +kernel
theorem dL_law_304 : decode cL_law 304 = .ok (.iadd, 1) := by decide +kernel
theorem dL_law_305 : decode cL_law 305 = .ok (.iaload, 1) := by decide +kernel
theorem dL_law_306 : decode cL_law 306 = .ok (.aload_n 0, 1) := by decide +kernel
theorem dL_law_307 : decode cL_law 307 = .ok (.iload_n 3, 1) := by decide +kernel
theorem dL_law_308 : decode cL_law 308 = .ok (.iconst 2, 1) := by decide +kernel
theorem dL_law_309 : decode cL_law 309 = .ok (.iadd, 1) := by decide +kernel
theorem dL_law_310 : decode cL_law 310 = .ok (.iaload, 1) := by decide +kernel
theorem dL_law_311 : decode cL_law 311 = .ok (.invokevirtual 26, 3) := by decide +kernel
theorem dL_law_314 : decode cL_law 314 = .ok (.if_icmp .eq 1246, 3) := by decide +kernel
theorem dL_law_317 : decode cL_law 317 = .ok (.iconst 0, 1) := by decide +kernel
theorem dL_law_318 : decode cL_law 318 = .ok (.ireturn, 1) := by decide +kernel
theorem dL_law_319 : decode cL_law 319 = .ok (.aload_n 1, 1) := by decide +kernel
theorem dL_law_320 : decode cL_law 320 = .ok (.aload_n 0, 1) := by decide +kernel
theorem dL_law_321 : decode cL_law 321 = .ok (.iload_n 3, 1) := by decide +kernel
theorem dL_law_322 : decode cL_law 322 = .ok (.iconst 1, 1) := by decide +kernel
theorem dL_law_323 : decode cL_law 323 = .ok (.iadd, 1) := by decide +kernel
theorem dL_law_324 : decode cL_law 324 = .ok (.iaload, 1) := by decide +kernel
theorem dL_law_325 : decode cL_law 325 = .ok (.invokevirtual 27, 3) := by decide +kernel
theorem dL_law_328 : decode cL_law 328 = .ok (.aload_n 2, 1) := by decide +kernel
theorem dL_law_329 : decode cL_law 329 = .ok (.aload_n 0, 1) := by decide +kernel
theorem dL_law_330 : decode cL_law 330 = .ok (.iload_n 3, 1) := by decide +kernel
theorem dL_law_331 : decode cL_law 331 = .ok (.iconst 1, 1) := by decide +kernel
theorem dL_law_332 : decode cL_law 332 = .ok (.iadd, 1) := by decide +kernel
theorem dL_law_333 : decode cL_law 333 = .ok (.iaload, 1) := by decide +kernel
theorem dL_law_334 : decode cL_law 334 = .ok (.invokevirtual 31, 3) := by decide +kernel
theorem dL_law_337 : decode cL_law 337 = .ok (.if_icmp .eq 1223, 3) := by decide +kernel
theorem dL_law_340 : decode cL_law 340 = .ok (.iconst 0, 1) := by decide +kernel
theorem dL_law_341 : decode cL_law 341 = .ok (.ireturn, 1) := by decide +kernel
theorem dL_law_342 : decode cL_law 342 = .ok (.aload_n 1, 1) := by decide +kernel
theorem dL_law_343 : decode cL_law 343 = .ok (.invokevirtual 32, 3) := by decide +kernel
theorem dL_law_346 : decode cL_law 346 = .ok (.aload_n 2, 1) := by decide +kernel
theorem dL_law_347 : decode cL_law 347 = .ok (.invokevirtual 36, 3) := by decide +kernel
theorem dL_law_350 : decode cL_law 350 = .ok (.if_icmp .eq 1210, 3) := by decide +kernel
theorem dL_law_353 : decode cL_law 353 = .ok (.iconst 0, 1) := by decide +kernel
theorem dL_law_354 : decode cL_law 354 = .ok (.ireturn, 1) := by decide +kernel
theorem dL_law_355 : decode cL_law 355 = .ok (.aload_n 1, 1) := by decide +kernel
theorem dL_law_356 : decode cL_law 356 = .ok (.aload_n 0, 1) := by decide +kernel
theorem dL_law_357 : decode cL_law 357 = .ok (.iload_n 3, 1) := by decide +kernel
theorem dL_law_358 : decode cL_law 358 = .ok (.iconst 1, 1) := by decide +kernel
theorem dL_law_359 : decode cL_law 359 = .ok (.iadd, 1) := by decide +kernel
theorem dL_law_360 : decode cL_law 360 = .ok (.iaload, 1) := by decide +kernel
theorem dL_law_361 : decode cL_law 361 = .ok (.invokevirtual 37, 3) := by decide +kernel
theorem dL_law_364 : decode cL_law 364 = .ok (.aload_n 2, 1) := by decide +kernel
theorem dL_law_365 : decode cL_law 365 = .ok (.aload_n 0, 1) := by decide +kernel
theorem dL_law_366 : decode cL_law 366 = .ok (.iload_n 3, 1) := by decide +kernel
theorem dL_law_367 : decode cL_law 367 = .ok (.iconst 1, 1) := by decide +kernel
theorem dL_law_368 : decode cL_law 368 = .ok (.iadd, 1) := by decide +kernel
theorem dL_law_369 : decode cL_law 369 = .ok (.iaload, 1) := by decide +kernel
theorem dL_law_370 : decode cL_law 370 = .ok (.invokevirtual 40, 3) := by decide +kernel
theorem dL_law_373 : decode cL_law 373 = .ok (.if_icmp .eq 1187, 3) := by decide +kernel
theorem dL_law_376 : decode cL_law 376 = .ok (.iconst 0, 1) := by decide +kernel
theorem dL_law_377 : decode cL_law 377 = .ok (.ireturn, 1) := by decide +kernel
theorem dL_law_378 : decode cL_law 378 = .ok (.aload_n 1, 1) := by decide +kernel
theorem dL_law_379 : decode cL_law 379 = .ok (.aload_n 0, 1) := by decide +kernel
theorem dL_law_380 : decode cL_law 380 = .ok (.iload_n 3, 1) := by decide +kernel
theorem dL_law_381 : decode cL_law 381 = .ok (.iconst 1, 1) := by decide +kernel
theorem dL_law_382 : decode cL_law 382 = .ok (.iadd, 1) := by decide +kernel
theorem dL_law_383 : decode cL_law 383 = .ok (.iaload, 1) := by decide +kernel
theorem dL_law_384 : decode cL_law 384 = .ok (.aload_n 0, 1) := by decide +kernel
theorem dL_law_385 : decode cL_law 385 = .ok (.iload_n 3, 1) := by decide +kernel
theorem dL_law_386 : decode cL_law 386 = .ok (.iconst 2, 1) := by decide +kernel
theorem dL_law_387 : decode cL_law 387 = .ok (.iadd, 1) := by decide +kernel
theorem dL_law_388 : decode cL_law 388 = .ok (.iaload, 1) := by decide +kernel
theorem dL_law_389 : decode cL_law 389 = .ok (.aload_n 0, 1) := by decide +kernel
theorem dL_law_390 : decode cL_law 390 = .ok (.iload_n 3, 1) := by decide +kernel
theorem dL_law_391 : decode cL_law 391 = .ok (.iconst 3, 1) := by decide +kernel
theorem dL_law_392 : decode cL_law 392 = .ok (.iadd, 1) := by decide +kernel
theorem dL_law_393 : decode cL_law 393 = .ok (.iaload, 1) := by decide +kernel
theorem dL_law_394 : decode cL_law 394 = .ok (.invokevirtual 41, 3) := by decide +kernel
theorem dL_law_397 : decode cL_law 397 = .ok (.aload_n 2, 1) := by decide +kernel
theorem dL_law_398 : decode cL_law 398 = .ok (.aload_n 0, 1) := by decide +kernel
theorem dL_law_399 : decode cL_law 399 = .ok (.iload_n 3, 1) := by decide +kernel
theorem dL_law_400 : decode cL_law 400 = .ok (.iconst 1, 1) := by decide +kernel
theorem dL_law_401 : decode cL_law 401 = .ok (.iadd, 1) := by decide +kernel
theorem dL_law_402 : decode cL_law 402 = .ok (.iaload, 1) := by decide +kernel
theorem dL_law_403 : decode cL_law 403 = .ok (.aload_n 0, 1) := by decide +kernel
theorem dL_law_404 : decode cL_law 404 = .ok (.iload_n 3, 1) := by decide +kernel
theorem dL_law_405 : decode cL_law 405 = .ok (.iconst 2, 1) := by decide +kernel
theorem dL_law_406 : decode cL_law 406 = .ok (.iadd, 1) := by decide +kernel
theorem dL_law_407 : decode cL_law 407 = .ok (.iaload, 1) := by decide +kernel
theorem dL_law_408 : decode cL_law 408 = .ok (.aload_n 0, 1) := by decide +kernel
theorem dL_law_409 : decode cL_law 409 = .ok (.iload_n 3, 1) := by decide +kernel
theorem dL_law_410 : decode cL_law 410 = .ok (.iconst 3, 1) := by decide +kernel
theorem dL_law_411 : decode cL_law 411 = .ok (.iadd, 1) := by decide +kernel
theorem dL_law_412 : decode cL_law 412 = .ok (.iaload, 1) := by decide +kernel
theorem dL_law_413 : decode cL_law 413 = .ok (.invokevirtual 45, 3) := by decide +kernel
theorem dL_law_416 : decode cL_law 416 = .ok (.if_icmp .eq 1144, 3) := by decide +kernel
theorem dL_law_419 : decode cL_law 419 = .ok (.iconst 0, 1) := by decide +kernel
theorem dL_law_420 : decode cL_law 420 = .ok (.ireturn, 1) := by decide +kernel
theorem dL_law_421 : decode cL_law 421 = .ok (.aload_n 1, 1) := by decide +kernel
theorem dL_law_422 : decode cL_law 422 = .ok (.aload_n 0, 1) := by decide +kernel
theorem dL_law_423 : decode cL_law 423 = .ok (.iload_n 3, 1) := by decide +kernel
theorem dL_law_424 : decode cL_law 424 = .ok (.iconst 1, 1) := by decide +kernel
theorem dL_law_425 : decode cL_law 425 = .ok (.iadd, 1) := by decide +kernel
theorem dL_law_426 : decode cL_law 426 = .ok (.iaload, 1) := by decide +kernel
theorem dL_law_427 : decode cL_law 427 = .ok (.aload_n 0, 1) := by decide +kernel
theorem dL_law_428 : decode cL_law 428 = .ok (.iload_n 3, 1) := by decide +kernel
theorem dL_law_429 : decode cL_law 429 = .ok (.iconst 2, 1) := by decide +kernel
theorem dL_law_430 : decode cL_law 430 = .ok (.iadd, 1) := by decide +kernel
theorem dL_law_431 : decode cL_law 431 = .ok (.iaload, 1) := by decide +kernel
theorem dL_law_432 : decode cL_law 432 = .ok (.aload_n 0, 1) := by decide +kernel
theorem dL_law_433 : decode cL_law 433 = .ok (.iload_n 3, 1) := by decide +kernel
theorem dL_law_434 : decode cL_law 434 = .ok (.iconst 3, 1) := by decide +kernel
theorem dL_law_435 : decode cL_law 435 = .ok (.iadd, 1) := by decide +kernel
theorem dL_law_436 : decode cL_law 436 = .ok (.iaload, 1) := by decide +kernel
theorem dL_law_437 : decode cL_law 437 = .ok (.aload_n 0, 1) := by decide +kernel
theorem dL_law_438 : decode cL_law 438 = .ok (.iload_n 3, 1) := by decide +kernel
theorem dL_law_439 : decode cL_law 439 = .ok (.iconst 4, 1) := by decide +kernel
theorem dL_law_440 : decode cL_law 440 = .ok (.iadd, 1) := by decide +kernel
theorem dL_law_441 : decode cL_law 441 = .ok (.iaload, 1) := by decide +kernel
theorem dL_law_442 : decode cL_law 442 = .ok (.aload_n 0, 1) := by decide +kernel
theorem dL_law_443 : decode cL_law 443 = .ok (.iload_n 3, 1) := by decide +kernel
theorem dL_law_444 : decode cL_law 444 = .ok (.iconst 5, 1) := by decide +kernel
theorem dL_law_445 : decode cL_law 445 = .ok (.iadd, 1) := by decide +kernel
theorem dL_law_446 : decode cL_law 446 = .ok (.iaload, 1) := by decide +kernel
theorem dL_law_447 : decode cL_law 447 = .ok (.aload_n 0, 1) := by decide +kernel
theorem dL_law_448 : decode cL_law 448 = .ok (.iload_n 3, 1) := by decide +kernel
theorem dL_law_449 : decode cL_law 449 = .ok (.bipush 6, 2) := by decide +kernel
theorem dL_law_451 : decode cL_law 451 = .ok (.iadd, 1) := by decide +kernel
theorem dL_law_452 : decode cL_law 452 = .ok (.iaload, 1) := by decide +kernel
theorem dL_law_453 : decode cL_law 453 = .ok (.invokevirtual 46, 3) := by decide +kernel
theorem dL_law_456 : decode cL_law 456 = .ok (.aload_n 2, 1) := by decide +kernel
theorem dL_law_457 : decode cL_law 457 = .ok (.aload_n 0, 1) := by decide +kernel
theorem dL_law_458 : decode cL_law 458 = .ok (.iload_n 3, 1) := by decide +kernel
theorem dL_law_459 : decode cL_law 459 = .ok (.iconst 1, 1) := by decide +kernel
theorem dL_law_460 : decode cL_law 460 = .ok (.iadd, 1) := by decide +kernel
theorem dL_law_461 : decode cL_law 461 = .ok (.iaload, 1) := by decide +kernel
theorem dL_law_462 : decode cL_law 462 = .ok (.aload_n 0, 1) := by decide +kernel
theorem dL_law_463 : decode cL_law 463 = .ok (.iload_n 3, 1) := by decide +kernel
theorem dL_law_464 : decode cL_law 464 = .ok (.iconst 2, 1) := by decide +kernel
theorem dL_law_465 : decode cL_law 465 = .ok (.iadd, 1) := by decide +kernel
theorem dL_law_466 : decode cL_law 466 = .ok (.iaload, 1) := by decide +kernel
theorem dL_law_467 : decode cL_law 467 = .ok (.aload_n 0, 1) := by decide +kernel
theorem dL_law_468 : decode cL_law 468 = .ok (.iload_n 3, 1) := by decide +kernel
theorem dL_law_469 : decode cL_law 469 = .ok (.iconst 3, 1) := by decide +kernel
theorem dL_law_470 : decode cL_law 470 = .ok (.iadd, 1) := by decide +kernel
theorem dL_law_471 : decode cL_law 471 = .ok (.iaload, 1) := by decide +kernel
theorem dL_law_472 : decode cL_law 472 = .ok (.aload_n 0, 1) := by decide +kernel
theorem dL_law_473 : decode cL_law 473 = .ok (.iload_n 3, 1) := by decide +kernel
theorem dL_law_474 : decode cL_law 474 = .ok (.iconst 4, 1) := by decide +kernel
theorem dL_law_475 : decode cL_law 475 = .ok (.iadd, 1) := by decide +kernel
theorem dL_law_476 : decode cL_law 476 = .ok (.iaload, 1) := by decide +kernel
theorem dL_law_477 : decode cL_law 477 = .ok (.aload_n 0, 1) := by decide +kernel
theorem dL_law_478 : decode cL_law 478 = .ok (.iload_n 3, 1) := by decide +kernel
theorem dL_law_479 : decode cL_law 479 = .ok (.iconst 5, 1) := by decide +kernel
theorem dL_law_480 : decode cL_law 480 = .ok (.iadd, 1) := by decide +kernel
theorem dL_law_481 : decode cL_law 481 = .ok (.iaload, 1) := by decide +kernel
theorem dL_law_482 : decode cL_law 482 = .ok (.aload_n 0, 1) := by decide +kernel
theorem dL_law_483 : decode cL_law 483 = .ok (.iload_n 3, 1) := by decide +kernel
theorem dL_law_484 : decode cL_law 484 = .ok (.bipush 6, 2) := by decide +kernel
theorem dL_law_486 : decode cL_law 486 = .ok (.iadd, 1) := by decide +kernel
theorem dL_law_487 : decode cL_law 487 = .ok (.iaload, 1) := by decide +kernel
theorem dL_law_488 : decode cL_law 488 = .ok (.invokevirtual 50, 3) := by decide +kernel
theorem dL_law_491 : decode cL_law 491 = .ok (.if_icmp .eq 1069, 3) := by decide +kernel
theorem dL_law_494 : decode cL_law 494 = .ok (.iconst 0, 1) := by decide +kernel
theorem dL_law_495 : decode cL_law 495 = .ok (.ireturn, 1) := by decide +kernel
theorem dL_law_496 : decode cL_law 496 = .ok (.aload_n 1, 1) := by decide +kernel
theorem dL_law_497 : decode cL_law 497 = .ok (.aload_n 0, 1) := by decide +kernel
theorem dL_law_498 : decode cL_law 498 = .ok (.iload_n 3, 1) := by decide +kernel
theorem dL_law_499 : decode cL_law 499 = .ok (.iconst 1, 1) := by decide +kernel
theorem dL_law_500 : decode cL_law 500 = .ok (.iadd, 1) := by decide +kernel
theorem dL_law_501 : decode cL_law 501 = .ok (.iaload, 1) := by decide +kernel
theorem dL_law_502 : decode cL_law 502 = .ok (.aload_n 0, 1) := by decide +kernel
theorem dL_law_503 : decode cL_law 503 = .ok (.iload_n 3, 1) := by decide +kernel
theorem dL_law_504 : decode cL_law 504 = .ok (.iconst 2, 1) := by decide +kernel
theorem dL_law_505 : decode cL_law 505 = .ok (.iadd, 1) := by decide +kernel
theorem dL_law_506 : decode cL_law 506 = .ok (.iaload, 1) := by decide +kernel
theorem dL_law_507 : decode cL_law 507 = .ok (.invokevirtual 51, 3) := by decide +kernel
theorem dL_law_510 : decode cL_law 510 = .ok (.aload_n 2, 1) := by decide +kernel
theorem dL_law_511 : decode cL_law 511 = .ok (.aload_n 0, 1) := by decide +kernel
theorem dL_law_512 : decode cL_law 512 = .ok (.iload_n 3, 1) := by decide +kernel
theorem dL_law_513 : decode cL_law 513 = .ok (.iconst 1, 1) := by decide +kernel
theorem dL_law_514 : decode cL_law 514 = .ok (.iadd, 1) := by decide +kernel
theorem dL_law_515 : decode cL_law 515 = .ok (.iaload, 1) := by decide +kernel
theorem dL_law_516 : decode cL_law 516 = .ok (.aload_n 0, 1) := by decide +kernel
theorem dL_law_517 : decode cL_law 517 = .ok (.iload_n 3, 1) := by decide +kernel
theorem dL_law_518 : decode cL_law 518 = .ok (.iconst 2, 1) := by decide +kernel
theorem dL_law_519 : decode cL_law 519 = .ok (.iadd, 1) := by decide +kernel
theorem dL_law_520 : decode cL_law 520 = .ok (.iaload, 1) := by decide +kernel
theorem dL_law_521 : decode cL_law 521 = .ok (.invokevirtual 54, 3) := by decide +kernel
theorem dL_law_524 : decode cL_law 524 = .ok (.if_icmp .eq 1036, 3) := by decide +kernel
theorem dL_law_527 : decode cL_law 527 = .ok (.iconst 0, 1) := by decide +kernel
theorem dL_law_528 : decode cL_law 528 = .ok (.ireturn, 1) := by decide +kernel
theorem dL_law_529 : decode cL_law 529 = .ok (.aload_n 1, 1) := by decide +kernel
theorem dL_law_530 : decode cL_law 530 = .ok (.aload_n 0, 1) := by decide +kernel
theorem dL_law_531 : decode cL_law 531 = .ok (.iload_n 3, 1) := by decide +kernel
theorem dL_law_532 : decode cL_law 532 = .ok (.iconst 1, 1) := by decide +kernel
theorem dL_law_533 : decode cL_law 533 = .ok (.iadd, 1) := by decide +kernel
theorem dL_law_534 : decode cL_law 534 = .ok (.iaload, 1) := by decide +kernel
theorem dL_law_535 : decode cL_law 535 = .ok (.aload_n 0, 1) := by decide +kernel
theorem dL_law_536 : decode cL_law 536 = .ok (.iload_n 3, 1) := by decide +kernel
theorem dL_law_537 : decode cL_law 537 = .ok (.iconst 2, 1) := by decide +kernel
theorem dL_law_538 : decode cL_law 538 = .ok (.iadd, 1) := by decide +kernel
theorem dL_law_539 : decode cL_law 539 = .ok (.iaload, 1) := by decide +kernel
theorem dL_law_540 : decode cL_law 540 = .ok (.invokevirtual 55, 3) := by decide +kernel
theorem dL_law_543 : decode cL_law 543 = .ok (.aload_n 2, 1) := by decide +kernel
theorem dL_law_544 : decode cL_law 544 = .ok (.aload_n 0, 1) := by decide +kernel
theorem dL_law_545 : decode cL_law 545 = .ok (.iload_n 3, 1) := by decide +kernel
theorem dL_law_546 : decode cL_law 546 = .ok (.iconst 1, 1) := by decide +kernel
theorem dL_law_547 : decode cL_law 547 = .ok (.iadd, 1) := by decide +kernel
theorem dL_law_548 : decode cL_law 548 = .ok (.iaload, 1) := by decide +kernel
theorem dL_law_549 : decode cL_law 549 = .ok (.aload_n 0, 1) := by decide +kernel
theorem dL_law_550 : decode cL_law 550 = .ok (.iload_n 3, 1) := by decide +kernel
theorem dL_law_551 : decode cL_law 551 = .ok (.iconst 2, 1) := by decide +kernel
theorem dL_law_552 : decode cL_law 552 = .ok (.iadd, 1) := by decide +kernel
theorem dL_law_553 : decode cL_law 553 = .ok (.iaload, 1) := by decide +kernel
theorem dL_law_554 : decode cL_law 554 = .ok (.invokevirtual 58, 3) := by decide +kernel
theorem dL_law_557 : decode cL_law 557 = .ok (.if_icmp .eq 1003, 3) := by decide +kernel
theorem dL_law_560 : decode cL_law 560 = .ok (.iconst 0, 1) := by decide +kernel
theorem dL_law_561 : decode cL_law 561 = .ok (.ireturn, 1) := by decide +kernel
theorem dL_law_562 : decode cL_law 562 = .ok (.aload_n 1, 1) := by decide +kernel
theorem dL_law_563 : decode cL_law 563 = .ok (.aload_n 0, 1) := by decide +kernel
theorem dL_law_564 : decode cL_law 564 = .ok (.iload_n 3, 1) := by decide +kernel
theorem dL_law_565 : decode cL_law 565 = .ok (.iconst 1, 1) := by decide +kernel
theorem dL_law_566 : decode cL_law 566 = .ok (.iadd, 1) := by decide +kernel
theorem dL_law_567 : decode cL_law 567 = .ok (.iaload, 1) := by decide +kernel
theorem dL_law_568 : decode cL_law 568 = .ok (.aload_n 0, 1) := by decide +kernel
theorem dL_law_569 : decode cL_law 569 = .ok (.iload_n 3, 1) := by decide +kernel
theorem dL_law_570 : decode cL_law 570 = .ok (.iconst 2, 1) := by decide +kernel
theorem dL_law_571 : decode cL_law 571 = .ok (.iadd, 1) := by decide +kernel
theorem dL_law_572 : decode cL_law 572 = .ok (.iaload, 1) := by decide +kernel
theorem dL_law_573 : decode cL_law 573 = .ok (.aload_n 0, 1) := by decide +kernel
theorem dL_law_574 : decode cL_law 574 = .ok (.iload_n 3, 1) := by decide +kernel
theorem dL_law_575 : decode cL_law 575 = .ok (.iconst 3, 1) := by decide +kernel
theorem dL_law_576 : decode cL_law 576 = .ok (.iadd, 1) := by decide +kernel
theorem dL_law_577 : decode cL_law 577 = .ok (.iaload, 1) := by decide +kernel
theorem dL_law_578 : decode cL_law 578 = .ok (.invokevirtual 59, 3) := by decide +kernel
theorem dL_law_581 : decode cL_law 581 = .ok (.aload_n 2, 1) := by decide +kernel
theorem dL_law_582 : decode cL_law 582 = .ok (.aload_n 0, 1) := by decide +kernel
theorem dL_law_583 : decode cL_law 583 = .ok (.iload_n 3, 1) := by decide +kernel
theorem dL_law_584 : decode cL_law 584 = .ok (.iconst 1, 1) := by decide +kernel
theorem dL_law_585 : decode cL_law 585 = .ok (.iadd, 1) := by decide +kernel
theorem dL_law_586 : decode cL_law 586 = .ok (.iaload, 1) := by decide +kernel
theorem dL_law_587 : decode cL_law 587 = .ok (.aload_n 0, 1) := by decide +kernel
theorem dL_law_588 : decode cL_law 588 = .ok (.iload_n 3, 1) := by decide +kernel
theorem dL_law_589 : decode cL_law 589 = .ok (.iconst 2, 1) := by decide +kernel
theorem dL_law_590 : decode cL_law 590 = .ok (.iadd, 1) := by decide +kernel
theorem dL_law_591 : decode cL_law 591 = .ok (.iaload, 1) := by decide +kernel
theorem dL_law_592 : decode cL_law 592 = .ok (.aload_n 0, 1) := by decide +kernel
theorem dL_law_593 : decode cL_law 593 = .ok (.iload_n 3, 1) := by decide +kernel
theorem dL_law_594 : decode cL_law 594 = .ok (.iconst 3, 1) := by decide +kernel
theorem dL_law_595 : decode cL_law 595 = .ok (.iadd, 1) := by decide +kernel
theorem dL_law_596 : decode cL_law 596 = .ok (.iaload, 1) := by decide +kernel
theorem dL_law_597 : decode cL_law 597 = .ok (.invokevirtual 62, 3) := by decide +kernel
theorem dL_law_600 : decode cL_law 600 = .ok (.if_icmp .eq 960, 3) := by decide +kernel
theorem dL_law_603 : decode cL_law 603 = .ok (.iconst 0, 1) := by decide +kernel
theorem dL_law_604 : decode cL_law 604 = .ok (.ireturn, 1) := by decide +kernel
theorem dL_law_605 : decode cL_law 605 = .ok (.aload_n 1, 1) := by decide +kernel
theorem dL_law_606 : decode cL_law 606 = .ok (.aload_n 0, 1) := by decide +kernel
theorem dL_law_607 : decode cL_law 607 = .ok (.iload_n 3, 1) := by decide +kernel
theorem dL_law_608 : decode cL_law 608 = .ok (.iconst 1, 1) := by decide +kernel
theorem dL_law_609 : decode cL_law 609 = .ok (.iadd, 1) := by decide +kernel
theorem dL_law_610 : decode cL_law 610 = .ok (.iaload, 1) := by decide +kernel
theorem dL_law_611 : decode cL_law 611 = .ok (.invokevirtual 63, 3) := by decide +kernel
theorem dL_law_614 : decode cL_law 614 = .ok (.aload_n 2, 1) := by decide +kernel
theorem dL_law_615 : decode cL_law 615 = .ok (.aload_n 0, 1) := by decide +kernel
theorem dL_law_616 : decode cL_law 616 = .ok (.iload_n 3, 1) := by decide +kernel
theorem dL_law_617 : decode cL_law 617 = .ok (.iconst 1, 1) := by decide +kernel
theorem dL_law_618 : decode cL_law 618 = .ok (.iadd, 1) := by decide +kernel
theorem dL_law_619 : decode cL_law 619 = .ok (.iaload, 1) := by decide +kernel
theorem dL_law_620 : decode cL_law 620 = .ok (.invokevirtual 66, 3) := by decide +kernel
theorem dL_law_623 : decode cL_law 623 = .ok (.if_icmp .eq 937, 3) := by decide +kernel
theorem dL_law_626 : decode cL_law 626 = .ok (.iconst 0, 1) := by decide +kernel
theorem dL_law_627 : decode cL_law 627 = .ok (.ireturn, 1) := by decide +kernel
theorem dL_law_628 : decode cL_law 628 = .ok (.aload_n 1, 1) := by decide +kernel
theorem dL_law_629 : decode cL_law 629 = .ok (.aload_n 0, 1) := by decide +kernel
theorem dL_law_630 : decode cL_law 630 = .ok (.iload_n 3, 1) := by decide +kernel
theorem dL_law_631 : decode cL_law 631 = .ok (.iconst 1, 1) := by decide +kernel
theorem dL_law_632 : decode cL_law 632 = .ok (.iadd, 1) := by decide +kernel
theorem dL_law_633 : decode cL_law 633 = .ok (.iaload, 1) := by decide +kernel
theorem dL_law_634 : decode cL_law 634 = .ok (.aload_n 0, 1) := by decide +kernel
theorem dL_law_635 : decode cL_law 635 = .ok (.iload_n 3, 1) := by decide +kernel
theorem dL_law_636 : decode cL_law 636 = .ok (.iconst 2, 1) := by decide +kernel
theorem dL_law_637 : decode cL_law 637 = .ok (.iadd, 1) := by decide +kernel
theorem dL_law_638 : decode cL_law 638 = .ok (.iaload, 1) := by decide +kernel
theorem dL_law_639 : decode cL_law 639 = .ok (.invokevirtual 67, 3) := by decide +kernel
theorem dL_law_642 : decode cL_law 642 = .ok (.aload_n 2, 1) := by decide +kernel
theorem dL_law_643 : decode cL_law 643 = .ok (.aload_n 0, 1) := by decide +kernel
theorem dL_law_644 : decode cL_law 644 = .ok (.iload_n 3, 1) := by decide +kernel
theorem dL_law_645 : decode cL_law 645 = .ok (.iconst 1, 1) := by decide +kernel
theorem dL_law_646 : decode cL_law 646 = .ok (.iadd, 1) := by decide +kernel
theorem dL_law_647 : decode cL_law 647 = .ok (.iaload, 1) := by decide +kernel
theorem dL_law_648 : decode cL_law 648 = .ok (.aload_n 0, 1) := by decide +kernel
theorem dL_law_649 : decode cL_law 649 = .ok (.iload_n 3, 1) := by decide +kernel
theorem dL_law_650 : decode cL_law 650 = .ok (.iconst 2, 1) := by decide +kernel
theorem dL_law_651 : decode cL_law 651 = .ok (.iadd, 1) := by decide +kernel
theorem dL_law_652 : decode cL_law 652 = .ok (.iaload, 1) := by decide +kernel
theorem dL_law_653 : decode cL_law 653 = .ok (.invokevirtual 70, 3) := by decide +kernel
theorem dL_law_656 : decode cL_law 656 = .ok (.if_icmp .eq 904, 3) := by decide +kernel
theorem dL_law_659 : decode cL_law 659 = .ok (.iconst 0, 1) := by decide +kernel
theorem dL_law_660 : decode cL_law 660 = .ok (.ireturn, 1) := by decide +kernel
theorem dL_law_661 : decode cL_law 661 = .ok (.aload_n 1, 1) := by decide +kernel
theorem dL_law_662 : decode cL_law 662 = .ok (.aload_n 0, 1) := by decide +kernel
theorem dL_law_663 : decode cL_law 663 = .ok (.iload_n 3, 1) := by decide +kernel
theorem dL_law_664 : decode cL_law 664 = .ok (.iconst 1, 1) := by decide +kernel
theorem dL_law_665 : decode cL_law 665 = .ok (.iadd, 1) := by decide +kernel
theorem dL_law_666 : decode cL_law 666 = .ok (.iaload, 1) := by decide +kernel
theorem dL_law_667 : decode cL_law 667 = .ok (.aload_n 0, 1) := by decide +kernel
theorem dL_law_668 : decode cL_law 668 = .ok (.iload_n 3, 1) := by decide +kernel
theorem dL_law_669 : decode cL_law 669 = .ok (.iconst 2, 1) := by decide +kernel
theorem dL_law_670 : decode cL_law 670 = .ok (.iadd, 1) := by decide +kernel
theorem dL_law_671 : decode cL_law 671 = .ok (.iaload, 1) := by decide +kernel
theorem dL_law_672 : decode cL_law 672 = .ok (.invokevirtual 71, 3) := by decide +kernel
theorem dL_law_675 : decode cL_law 675 = .ok (.aload_n 2, 1) := by decide +kernel
theorem dL_law_676 : decode cL_law 676 = .ok (.aload_n 0, 1) := by decide +kernel
theorem dL_law_677 : decode cL_law 677 = .ok (.iload_n 3, 1) := by decide +kernel
theorem dL_law_678 : decode cL_law 678 = .ok (.iconst 1, 1) := by decide +kernel
theorem dL_law_679 : decode cL_law 679 = .ok (.iadd, 1) := by decide +kernel
theorem dL_law_680 : decode cL_law 680 = .ok (.iaload, 1) := by decide +kernel
theorem dL_law_681 : decode cL_law 681 = .ok (.aload_n 0, 1) := by decide +kernel
theorem dL_law_682 : decode cL_law 682 = .ok (.iload_n 3, 1) := by decide +kernel
theorem dL_law_683 : decode cL_law 683 = .ok (.iconst 2, 1) := by decide +kernel
theorem dL_law_684 : decode cL_law 684 = .ok (.iadd, 1) := by decide +kernel
theorem dL_law_685 : decode cL_law 685 = .ok (.iaload, 1) := by decide +kernel
theorem dL_law_686 : decode cL_law 686 = .ok (.invokevirtual 74, 3) := by decide +kernel
theorem dL_law_689 : decode cL_law 689 = .ok (.if_icmp .eq 871, 3) := by decide +kernel
theorem dL_law_692 : decode cL_law 692 = .ok (.iconst 0, 1) := by decide +kernel
theorem dL_law_693 : decode cL_law 693 = .ok (.ireturn, 1) := by decide +kernel
theorem dL_law_694 : decode cL_law 694 = .ok (.aload_n 1, 1) := by decide +kernel
theorem dL_law_695 : decode cL_law 695 = .ok (.aload_n 0, 1) := by decide +kernel
theorem dL_law_696 : decode cL_law 696 = .ok (.iload_n 3, 1) := by decide +kernel
theorem dL_law_697 : decode cL_law 697 = .ok (.iconst 1, 1) := by decide +kernel
theorem dL_law_698 : decode cL_law 698 = .ok (.iadd, 1) := by decide +kernel
theorem dL_law_699 : decode cL_law 699 = .ok (.iaload, 1) := by decide +kernel
theorem dL_law_700 : decode cL_law 700 = .ok (.invokevirtual 75, 3) := by decide +kernel
theorem dL_law_703 : decode cL_law 703 = .ok (.aload_n 2, 1) := by decide +kernel
theorem dL_law_704 : decode cL_law 704 = .ok (.aload_n 0, 1) := by decide +kernel
theorem dL_law_705 : decode cL_law 705 = .ok (.iload_n 3, 1) := by decide +kernel
theorem dL_law_706 : decode cL_law 706 = .ok (.iconst 1, 1) := by decide +kernel
theorem dL_law_707 : decode cL_law 707 = .ok (.iadd, 1) := by decide +kernel
theorem dL_law_708 : decode cL_law 708 = .ok (.iaload, 1) := by decide +kernel
theorem dL_law_709 : decode cL_law 709 = .ok (.invokevirtual 78, 3) := by decide +kernel
theorem dL_law_712 : decode cL_law 712 = .ok (.if_icmp .eq 848, 3) := by decide +kernel
theorem dL_law_715 : decode cL_law 715 = .ok (.iconst 0, 1) := by decide +kernel
theorem dL_law_716 : decode cL_law 716 = .ok (.ireturn, 1) := by decide +kernel
theorem dL_law_717 : decode cL_law 717 = .ok (.aload_n 1, 1) := by decide +kernel
theorem dL_law_718 : decode cL_law 718 = .ok (.aload_n 0, 1) := by decide +kernel
theorem dL_law_719 : decode cL_law 719 = .ok (.iload_n 3, 1) := by decide +kernel
theorem dL_law_720 : decode cL_law 720 = .ok (.iconst 1, 1) := by decide +kernel
theorem dL_law_721 : decode cL_law 721 = .ok (.iadd, 1) := by decide +kernel
theorem dL_law_722 : decode cL_law 722 = .ok (.iaload, 1) := by decide +kernel
theorem dL_law_723 : decode cL_law 723 = .ok (.aload_n 0, 1) := by decide +kernel
theorem dL_law_724 : decode cL_law 724 = .ok (.iload_n 3, 1) := by decide +kernel
theorem dL_law_725 : decode cL_law 725 = .ok (.iconst 2, 1) := by decide +kernel
theorem dL_law_726 : decode cL_law 726 = .ok (.iadd, 1) := by decide +kernel
theorem dL_law_727 : decode cL_law 727 = .ok (.iaload, 1) := by decide +kernel
theorem dL_law_728 : decode cL_law 728 = .ok (.invokevirtual 79, 3) := by decide +kernel
theorem dL_law_731 : decode cL_law 731 = .ok (.aload_n 2, 1) := by decide +kernel
theorem dL_law_732 : decode cL_law 732 = .ok (.aload_n 0, 1) := by decide +kernel
theorem dL_law_733 : decode cL_law 733 = .ok (.iload_n 3, 1) := by decide +kernel
theorem dL_law_734 : decode cL_law 734 = .ok (.iconst 1, 1) := by decide +kernel
theorem dL_law_735 : decode cL_law 735 = .ok (.iadd, 1) := by decide +kernel
theorem dL_law_736 : decode cL_law 736 = .ok (.iaload, 1) := by decide +kernel
theorem dL_law_737 : decode cL_law 737 = .ok (.aload_n 0, 1) := by decide +kernel
theorem dL_law_738 : decode cL_law 738 = .ok (.iload_n 3, 1) := by decide +kernel
theorem dL_law_739 : decode cL_law 739 = .ok (.iconst 2, 1) := by decide +kernel
theorem dL_law_740 : decode cL_law 740 = .ok (.iadd, 1) := by decide +kernel
theorem dL_law_741 : decode cL_law 741 = .ok (.iaload, 1) := by decide +kernel
theorem dL_law_742 : decode cL_law 742 = .ok (.invokevirtual 82, 3) := by decide +kernel
theorem dL_law_745 : decode cL_law 745 = .ok (.if_icmp .eq 815, 3) := by decide +kernel
theorem dL_law_748 : decode cL_law 748 = .ok (.iconst 0, 1) := by decide +kernel
theorem dL_law_749 : decode cL_law 749 = .ok (.ireturn, 1) := by decide +kernel
theorem dL_law_750 : decode cL_law 750 = .ok (.aload_n 1, 1) := by decide +kernel
theorem dL_law_751 : decode cL_law 751 = .ok (.aload_n 0, 1) := by decide +kernel
theorem dL_law_752 : decode cL_law 752 = .ok (.iload_n 3, 1) := by decide +kernel
theorem dL_law_753 : decode cL_law 753 = .ok (.iconst 1, 1) := by decide +kernel
theorem dL_law_754 : decode cL_law 754 = .ok (.iadd, 1) := by decide +kernel
theorem dL_law_755 : decode cL_law 755 = .ok (.iaload, 1) := by decide +kernel
theorem dL_law_756 : decode cL_law 756 = .ok (.aload_n 0, 1) := by decide +kernel
theorem dL_law_757 : decode cL_law 757 = .ok (.iload_n 3, 1) := by decide +kernel
theorem dL_law_758 : decode cL_law 758 = .ok (.iconst 2, 1) := by decide +kernel
theorem dL_law_759 : decode cL_law 759 = .ok (.iadd, 1) := by decide +kernel
theorem dL_law_760 : decode cL_law 760 = .ok (.iaload, 1) := by decide +kernel
theorem dL_law_761 : decode cL_law 761 = .ok (.invokevirtual 83, 3) := by decide +kernel
theorem dL_law_764 : decode cL_law 764 = .ok (.aload_n 2, 1) := by decide +kernel
theorem dL_law_765 : decode cL_law 765 = .ok (.aload_n 0, 1) := by decide +kernel
theorem dL_law_766 : decode cL_law 766 = .ok (.iload_n 3, 1) := by decide +kernel
theorem dL_law_767 : decode cL_law 767 = .ok (.iconst 1, 1) := by decide +kernel
theorem dL_law_768 : decode cL_law 768 = .ok (.iadd, 1) := by decide +kernel
theorem dL_law_769 : decode cL_law 769 = .ok (.iaload, 1) := by decide +kernel
theorem dL_law_770 : decode cL_law 770 = .ok (.aload_n 0, 1) := by decide +kernel
theorem dL_law_771 : decode cL_law 771 = .ok (.iload_n 3, 1) := by decide +kernel
theorem dL_law_772 : decode cL_law 772 = .ok (.iconst 2, 1) := by decide +kernel
theorem dL_law_773 : decode cL_law 773 = .ok (.iadd, 1) := by decide +kernel
theorem dL_law_774 : decode cL_law 774 = .ok (.iaload, 1) := by decide +kernel
theorem dL_law_775 : decode cL_law 775 = .ok (.invokevirtual 86, 3) := by decide +kernel
theorem dL_law_778 : decode cL_law 778 = .ok (.if_icmp .eq 782, 3) := by decide +kernel
theorem dL_law_781 : decode cL_law 781 = .ok (.iconst 0, 1) := by decide +kernel
theorem dL_law_782 : decode cL_law 782 = .ok (.ireturn, 1) := by decide +kernel
theorem dL_law_783 : decode cL_law 783 = .ok (.aload_n 1, 1) := by decide +kernel
theorem dL_law_784 : decode cL_law 784 = .ok (.aload_n 0, 1) := by decide +kernel
theorem dL_law_785 : decode cL_law 785 = .ok (.iload_n 3, 1) := by decide +kernel
theorem dL_law_786 : decode cL_law 786 = .ok (.iconst 1, 1) := by decide +kernel
theorem dL_law_787 : decode cL_law 787 = .ok (.iadd, 1) := by decide +kernel
theorem dL_law_788 : decode cL_law 788 = .ok (.iaload, 1) := by decide +kernel
theorem dL_law_789 : decode cL_law 789 = .ok (.aload_n 0, 1) := by decide +kernel
theorem dL_law_790 : decode cL_law 790 = .ok (.iload_n 3, 1) := by decide +kernel
theorem dL_law_791 : decode cL_law 791 = .ok (.iconst 2, 1) := by decide +kernel
theorem dL_law_792 : decode cL_law 792 = .ok (.iadd, 1) := by decide +kernel
theorem dL_law_793 : decode cL_law 793 = .ok (.iaload, 1) := by decide +kernel
theorem dL_law_794 : decode cL_law 794 = .ok (.invokevirtual 87, 3) := by decide +kernel
theorem dL_law_797 : decode cL_law 797 = .ok (.aload_n 2, 1) := by decide +kernel
theorem dL_law_798 : decode cL_law 798 = .ok (.aload_n 0, 1) := by decide +kernel
theorem dL_law_799 : decode cL_law 799 = .ok (.iload_n 3, 1) := by decide +kernel
theorem dL_law_800 : decode cL_law 800 = .ok (.iconst 1, 1) := by decide +kernel
theorem dL_law_801 : decode cL_law 801 = .ok (.iadd, 1) := by decide +kernel
theorem dL_law_802 : decode cL_law 802 = .ok (.iaload, 1) := by decide +kernel
theorem dL_law_803 : decode cL_law 803 = .ok (.aload_n 0, 1) := by decide +kernel
theorem dL_law_804 : decode cL_law 804 = .ok (.iload_n 3, 1) := by decide +kernel
theorem dL_law_805 : decode cL_law 805 = .ok (.iconst 2, 1) := by decide +kernel
theorem dL_law_806 : decode cL_law 806 = .ok (.iadd, 1) := by decide +kernel
theorem dL_law_807 : decode cL_law 807 = .ok (.iaload, 1) := by decide +kernel
theorem dL_law_808 : decode cL_law 808 = .ok (.invokevirtual 90, 3) := by decide +kernel
theorem dL_law_811 : decode cL_law 811 = .ok (.if_icmp .eq 749, 3) := by decide +kernel
theorem dL_law_814 : decode cL_law 814 = .ok (.iconst 0, 1) := by decide +kernel
theorem dL_law_815 : decode cL_law 815 = .ok (.ireturn, 1) := by decide +kernel
theorem dL_law_816 : decode cL_law 816 = .ok (.aload_n 1, 1) := by decide +kernel
theorem dL_law_817 : decode cL_law 817 = .ok (.aload_n 0, 1) := by decide +kernel
theorem dL_law_818 : decode cL_law 818 = .ok (.iload_n 3, 1) := by decide +kernel
theorem dL_law_819 : decode cL_law 819 = .ok (.iconst 1, 1) := by decide +kernel
theorem dL_law_820 : decode cL_law 820 = .ok (.iadd, 1) := by decide +kernel
theorem dL_law_821 : decode cL_law 821 = .ok (.iaload, 1) := by decide +kernel
theorem dL_law_822 : decode cL_law 822 = .ok (.aload_n 0, 1) := by decide +kernel
theorem dL_law_823 : decode cL_law 823 = .ok (.iload_n 3, 1) := by decide +kernel
theorem dL_law_824 : decode cL_law 824 = .ok (.iconst 2, 1) := by decide +kernel
theorem dL_law_825 : decode cL_law 825 = .ok (.iadd, 1) := by decide +kernel
theorem dL_law_826 : decode cL_law 826 = .ok (.iaload, 1) := by decide +kernel
theorem dL_law_827 : decode cL_law 827 = .ok (.invokevirtual 91, 3) := by decide +kernel
theorem dL_law_830 : decode cL_law 830 = .ok (.aload_n 2, 1) := by decide +kernel
theorem dL_law_831 : decode cL_law 831 = .ok (.aload_n 0, 1) := by decide +kernel
theorem dL_law_832 : decode cL_law 832 = .ok (.iload_n 3, 1) := by decide +kernel
theorem dL_law_833 : decode cL_law 833 = .ok (.iconst 1, 1) := by decide +kernel
theorem dL_law_834 : decode cL_law 834 = .ok (.iadd, 1) := by decide +kernel
theorem dL_law_835 : decode cL_law 835 = .ok (.iaload, 1) := by decide +kernel
theorem dL_law_836 : decode cL_law 836 = .ok (.aload_n 0, 1) := by decide +kernel
theorem dL_law_837 : decode cL_law 837 = .ok (.iload_n 3, 1) := by decide +kernel
theorem dL_law_838 : decode cL_law 838 = .ok (.iconst 2, 1) := by decide +kernel
theorem dL_law_839 : decode cL_law 839 = .ok (.iadd, 1) := by decide +kernel
theorem dL_law_840 : decode cL_law 840 = .ok (.iaload, 1) := by decide +kernel
theorem dL_law_841 : decode cL_law 841 = .ok (.invokevirtual 94, 3) := by decide +kernel
theorem dL_law_844 : decode cL_law 844 = .ok (.if_icmp .eq 716, 3) := by decide +kernel
theorem dL_law_847 : decode cL_law 847 = .ok (.iconst 0, 1) := by decide +kernel
theorem dL_law_848 : decode cL_law 848 = .ok (.ireturn, 1) := by decide +kernel
theorem dL_law_849 : decode cL_law 849 = .ok (.aload_n 1, 1) := by decide +kernel
theorem dL_law_850 : decode cL_law 850 = .ok (.aload_n 0, 1) := by decide +kernel
theorem dL_law_851 : decode cL_law 851 = .ok (.iload_n 3, 1) := by decide +kernel
theorem dL_law_852 : decode cL_law 852 = .ok (.iconst 1, 1) := by decide +kernel
theorem dL_law_853 : decode cL_law 853 = .ok (.iadd, 1) := by decide +kernel
theorem dL_law_854 : decode cL_law 854 = .ok (.iaload, 1) := by decide +kernel
theorem dL_law_855 : decode cL_law 855 = .ok (.invokevirtual 95, 3) := by decide +kernel
theorem dL_law_858 : decode cL_law 858 = .ok (.aload_n 2, 1) := by decide +kernel
theorem dL_law_859 : decode cL_law 859 = .ok (.aload_n 0, 1) := by decide +kernel
theorem dL_law_860 : decode cL_law 860 = .ok (.iload_n 3, 1) := by decide +kernel
theorem dL_law_861 : decode cL_law 861 = .ok (.iconst 1, 1) := by decide +kernel
theorem dL_law_862 : decode cL_law 862 = .ok (.iadd, 1) := by decide +kernel
theorem dL_law_863 : decode cL_law 863 = .ok (.iaload, 1) := by decide +kernel
theorem dL_law_864 : decode cL_law 864 = .ok (.invokevirtual 98, 3) := by decide +kernel
theorem dL_law_867 : decode cL_law 867 = .ok (.if_icmp .eq 693, 3) := by decide +kernel
theorem dL_law_870 : decode cL_law 870 = .ok (.iconst 0, 1) := by decide +kernel
theorem dL_law_871 : decode cL_law 871 = .ok (.ireturn, 1) := by decide +kernel
theorem dL_law_872 : decode cL_law 872 = .ok (.aload_n 1, 1) := by decide +kernel
theorem dL_law_873 : decode cL_law 873 = .ok (.aload_n 0, 1) := by decide +kernel
theorem dL_law_874 : decode cL_law 874 = .ok (.iload_n 3, 1) := by decide +kernel
theorem dL_law_875 : decode cL_law 875 = .ok (.iconst 1, 1) := by decide +kernel
theorem dL_law_876 : decode cL_law 876 = .ok (.iadd, 1) := by decide +kernel
theorem dL_law_877 : decode cL_law 877 = .ok (.iaload, 1) := by decide +kernel
theorem dL_law_878 : decode cL_law 878 = .ok (.invokevirtual 99, 3) := by decide +kernel
theorem dL_law_881 : decode cL_law 881 = .ok (.aload_n 2, 1) := by decide +kernel
theorem dL_law_882 : decode cL_law 882 = .ok (.aload_n 0, 1) := by decide +kernel
theorem dL_law_883 : decode cL_law 883 = .ok (.iload_n 3, 1) := by decide +kernel
theorem dL_law_884 : decode cL_law 884 = .ok (.iconst 1, 1) := by decide +kernel
theorem dL_law_885 : decode cL_law 885 = .ok (.iadd, 1) := by decide +kernel
theorem dL_law_886 : decode cL_law 886 = .ok (.iaload, 1) := by decide +kernel
theorem dL_law_887 : decode cL_law 887 = .ok (.invokevirtual 102, 3) := by decide +kernel
theorem dL_law_890 : decode cL_law 890 = .ok (.if_icmp .eq 670, 3) := by decide +kernel
theorem dL_law_893 : decode cL_law 893 = .ok (.iconst 0, 1) := by decide +kernel
theorem dL_law_894 : decode cL_law 894 = .ok (.ireturn, 1) := by decide +kernel
theorem dL_law_895 : decode cL_law 895 = .ok (.aload_n 1, 1) := by decide +kernel
theorem dL_law_896 : decode cL_law 896 = .ok (.aload_n 0, 1) := by decide +kernel
theorem dL_law_897 : decode cL_law 897 = .ok (.iload_n 3, 1) := by decide +kernel
theorem dL_law_898 : decode cL_law 898 = .ok (.iconst 1, 1) := by decide +kernel
theorem dL_law_899 : decode cL_law 899 = .ok (.iadd, 1) := by decide +kernel
theorem dL_law_900 : decode cL_law 900 = .ok (.iaload, 1) := by decide +kernel
theorem dL_law_901 : decode cL_law 901 = .ok (.aload_n 0, 1) := by decide +kernel
theorem dL_law_902 : decode cL_law 902 = .ok (.iload_n 3, 1) := by decide +kernel
theorem dL_law_903 : decode cL_law 903 = .ok (.iconst 2, 1) := by decide +kernel
theorem dL_law_904 : decode cL_law 904 = .ok (.iadd, 1) := by decide +kernel
theorem dL_law_905 : decode cL_law 905 = .ok (.iaload, 1) := by decide +kernel
theorem dL_law_906 : decode cL_law 906 = .ok (.ifCond .eq 7, 3) := by decide +kernel
theorem dL_law_909 : decode cL_law 909 = .ok (.iconst 1, 1) := by decide +kernel
theorem dL_law_910 : decode cL_law 910 = .ok (.goto 4, 3) := by decide +kernel
theorem dL_law_913 : decode cL_law 913 = .ok (.iconst 0, 1) := by decide +kernel
theorem dL_law_914 : decode cL_law 914 = .ok (.invokevirtual 103, 3) := by decide +kernel
theorem dL_law_917 : decode cL_law 917 = .ok (.aload_n 2, 1) := by decide +kernel
theorem dL_law_918 : decode cL_law 918 = .ok (.aload_n 0, 1) := by decide +kernel
theorem dL_law_919 : decode cL_law 919 = .ok (.iload_n 3, 1) := by decide +kernel
theorem dL_law_920 : decode cL_law 920 = .ok (.iconst 1, 1) := by decide +kernel
theorem dL_law_921 : decode cL_law 921 = .ok (.iadd, 1) := by decide +kernel
theorem dL_law_922 : decode cL_law 922 = .ok (.iaload, 1) := by decide +kernel
theorem dL_law_923 : decode cL_law 923 = .ok (.aload_n 0, 1) := by decide +kernel
theorem dL_law_924 : decode cL_law 924 = .ok (.iload_n 3, 1) := by decide +kernel
theorem dL_law_925 : decode cL_law 925 = .ok (.iconst 2, 1) := by decide +kernel
theorem dL_law_926 : decode cL_law 926 = .ok (.iadd, 1) := by decide +kernel
theorem dL_law_927 : decode cL_law 927 = .ok (.iaload, 1) := by decide +kernel
theorem dL_law_928 : decode cL_law 928 = .ok (.ifCond .eq 7, 3) := by decide +kernel
theorem dL_law_931 : decode cL_law 931 = .ok (.iconst 1, 1) := by decide +kernel
theorem dL_law_932 : decode cL_law 932 = .ok (.goto 4, 3) := by decide +kernel
theorem dL_law_935 : decode cL_law 935 = .ok (.iconst 0, 1) := by decide +kernel
theorem dL_law_936 : decode cL_law 936 = .ok (.invokevirtual 107, 3) := by decide +kernel
theorem dL_law_939 : decode cL_law 939 = .ok (.if_icmp .eq 621, 3) := by decide +kernel
theorem dL_law_942 : decode cL_law 942 = .ok (.iconst 0, 1) := by decide +kernel
theorem dL_law_943 : decode cL_law 943 = .ok (.ireturn, 1) := by decide +kernel
theorem dL_law_944 : decode cL_law 944 = .ok (.aload_n 1, 1) := by decide +kernel
theorem dL_law_945 : decode cL_law 945 = .ok (.aload_n 0, 1) := by decide +kernel
theorem dL_law_946 : decode cL_law 946 = .ok (.iload_n 3, 1) := by decide +kernel
theorem dL_law_947 : decode cL_law 947 = .ok (.iconst 1, 1) := by decide +kernel
theorem dL_law_948 : decode cL_law 948 = .ok (.iadd, 1) := by decide +kernel
theorem dL_law_949 : decode cL_law 949 = .ok (.iaload, 1) := by decide +kernel
theorem dL_law_950 : decode cL_law 950 = .ok (.invokevirtual 108, 3) := by decide +kernel
theorem dL_law_953 : decode cL_law 953 = .ok (.aload_n 2, 1) := by decide +kernel
theorem dL_law_954 : decode cL_law 954 = .ok (.aload_n 0, 1) := by decide +kernel
theorem dL_law_955 : decode cL_law 955 = .ok (.iload_n 3, 1) := by decide +kernel
theorem dL_law_956 : decode cL_law 956 = .ok (.iconst 1, 1) := by decide +kernel
theorem dL_law_957 : decode cL_law 957 = .ok (.iadd, 1) := by decide +kernel
theorem dL_law_958 : decode cL_law 958 = .ok (.iaload, 1) := by decide +kernel
theorem dL_law_959 : decode cL_law 959 = .ok (.invokevirtual 112, 3) := by decide +kernel
theorem dL_law_962 : decode cL_law 962 = .ok (.lcmp, 1) := by decide +kernel
theorem dL_law_963 : decode cL_law 963 = .ok (.ifCond .eq 597, 3) := by decide +kernel
theorem dL_law_966 : decode cL_law 966 = .ok (.iconst 0, 1) := by decide +kernel
theorem dL_law_967 : decode cL_law 967 = .ok (.ireturn, 1) := by decide +kernel
theorem dL_law_968 : decode cL_law 968 = .ok (.aload_n 1, 1) := by decide +kernel
theorem dL_law_969 : decode cL_law 969 = .ok (.aload_n 0, 1) := by decide +kernel
theorem dL_law_970 : decode cL_law 970 = .ok (.iload_n 3, 1) := by decide +kernel
theorem dL_law_971 : decode cL_law 971 = .ok (.iconst 1, 1) := by decide +kernel
theorem dL_law_972 : decode cL_law 972 = .ok (.iadd, 1) := by decide +kernel
theorem dL_law_973 : decode cL_law 973 = .ok (.iaload, 1) := by decide +kernel
theorem dL_law_974 : decode cL_law 974 = .ok (.invokevirtual 113, 3) := by decide +kernel
theorem dL_law_977 : decode cL_law 977 = .ok (.aload_n 2, 1) := by decide +kernel
theorem dL_law_978 : decode cL_law 978 = .ok (.aload_n 0, 1) := by decide +kernel
theorem dL_law_979 : decode cL_law 979 = .ok (.iload_n 3, 1) := by decide +kernel
theorem dL_law_980 : decode cL_law 980 = .ok (.iconst 1, 1) := by decide +kernel
theorem dL_law_981 : decode cL_law 981 = .ok (.iadd, 1) := by decide +kernel
theorem dL_law_982 : decode cL_law 982 = .ok (.iaload, 1) := by decide +kernel
theorem dL_law_983 : decode cL_law 983 = .ok (.invokevirtual 117, 3) := by decide +kernel
theorem dL_law_986 : decode cL_law 986 = .ok (.if_icmp .eq 574, 3) := by decide +kernel
theorem dL_law_989 : decode cL_law 989 = .ok (.iconst 0, 1) := by decide +kernel
theorem dL_law_990 : decode cL_law 990 = .ok (.ireturn, 1) := by decide +kernel
theorem dL_law_991 : decode cL_law 991 = .ok (.aload_n 1, 1) := by decide +kernel
theorem dL_law_992 : decode cL_law 992 = .ok (.aload_n 0, 1) := by decide +kernel
theorem dL_law_993 : decode cL_law 993 = .ok (.iload_n 3, 1) := by decide +kernel
theorem dL_law_994 : decode cL_law 994 = .ok (.iconst 1, 1) := by decide +kernel
theorem dL_law_995 : decode cL_law 995 = .ok (.iadd, 1) := by decide +kernel
theorem dL_law_996 : decode cL_law 996 = .ok (.iaload, 1) := by decide +kernel
theorem dL_law_997 : decode cL_law 997 = .ok (.aload_n 0, 1) := by decide +kernel
theorem dL_law_998 : decode cL_law 998 = .ok (.iload_n 3, 1) := by decide +kernel
theorem dL_law_999 : decode cL_law 999 = .ok (.iconst 2, 1) := by decide +kernel
theorem dL_law_1000 : decode cL_law 1000 = .ok (.iadd, 1) := by decide +kernel
theorem dL_law_1001 : decode cL_law 1001 = .ok (.iaload, 1) := by decide +kernel
theorem dL_law_1002 : decode cL_law 1002 = .ok (.invokevirtual 118, 3) := by decide +kernel
theorem dL_law_1005 : decode cL_law 1005 = .ok (.aload_n 2, 1) := by decide +kernel
theorem dL_law_1006 : decode cL_law 1006 = .ok (.aload_n 0, 1) := by decide +kernel
theorem dL_law_1007 : decode cL_law 1007 = .ok (.iload_n 3, 1) := by decide +kernel
theorem dL_law_1008 : decode cL_law 1008 = .ok (.iconst 1, 1) := by decide +kernel
theorem dL_law_1009 : decode cL_law 1009 = .ok (.iadd, 1) := by decide +kernel
theorem dL_law_1010 : decode cL_law 1010 = .ok (.iaload, 1) := by decide +kernel
theorem dL_law_1011 : decode cL_law 1011 = .ok (.aload_n 0, 1) := by decide +kernel
theorem dL_law_1012 : decode cL_law 1012 = .ok (.iload_n 3, 1) := by decide +kernel
theorem dL_law_1013 : decode cL_law 1013 = .ok (.iconst 2, 1) := by decide +kernel
theorem dL_law_1014 : decode cL_law 1014 = .ok (.iadd, 1) := by decide +kernel
theorem dL_law_1015 : decode cL_law 1015 = .ok (.iaload, 1) := by decide +kernel
theorem dL_law_1016 : decode cL_law 1016 = .ok (.invokevirtual 121, 3) := by decide +kernel
theorem dL_law_1019 : decode cL_law 1019 = .ok (.if_icmp .eq 541, 3) := by decide +kernel
theorem dL_law_1022 : decode cL_law 1022 = .ok (.iconst 0, 1) := by decide +kernel
theorem dL_law_1023 : decode cL_law 1023 = .ok (.ireturn, 1) := by decide +kernel
theorem dL_law_1024 : decode cL_law 1024 = .ok (.aload_n 1, 1) := by decide +kernel
theorem dL_law_1025 : decode cL_law 1025 = .ok (.aload_n 0, 1) := by decide +kernel
theorem dL_law_1026 : decode cL_law 1026 = .ok (.iload_n 3, 1) := by decide +kernel
theorem dL_law_1027 : decode cL_law 1027 = .ok (.iconst 1, 1) := by decide +kernel
theorem dL_law_1028 : decode cL_law 1028 = .ok (.iadd, 1) := by decide +kernel
theorem dL_law_1029 : decode cL_law 1029 = .ok (.iaload, 1) := by decide +kernel
theorem dL_law_1030 : decode cL_law 1030 = .ok (.invokevirtual 122, 3) := by decide +kernel
theorem dL_law_1033 : decode cL_law 1033 = .ok (.aload_n 2, 1) := by decide +kernel
theorem dL_law_1034 : decode cL_law 1034 = .ok (.aload_n 0, 1) := by decide +kernel
theorem dL_law_1035 : decode cL_law 1035 = .ok (.iload_n 3, 1) := by decide +kernel
theorem dL_law_1036 : decode cL_law 1036 = .ok (.iconst 1, 1) := by decide +kernel
theorem dL_law_1037 : decode cL_law 1037 = .ok (.iadd, 1) := by decide +kernel
theorem dL_law_1038 : decode cL_law 1038 = .ok (.iaload, 1) := by decide +kernel
theorem dL_law_1039 : decode cL_law 1039 = .ok (.invokevirtual 125, 3) := by decide +kernel
theorem dL_law_1042 : decode cL_law 1042 = .ok (.if_icmp .eq 518, 3) := by decide +kernel
theorem dL_law_1045 : decode cL_law 1045 = .ok (.iconst 0, 1) := by decide +kernel
theorem dL_law_1046 : decode cL_law 1046 = .ok (.ireturn, 1) := by decide +kernel
theorem dL_law_1047 : decode cL_law 1047 = .ok (.aload_n 1, 1) := by decide +kernel
theorem dL_law_1048 : decode cL_law 1048 = .ok (.aload_n 0, 1) := by decide +kernel
theorem dL_law_1049 : decode cL_law 1049 = .ok (.iload_n 3, 1) := by decide +kernel
theorem dL_law_1050 : decode cL_law 1050 = .ok (.iconst 1, 1) := by decide +kernel
theorem dL_law_1051 : decode cL_law 1051 = .ok (.iadd, 1) := by decide +kernel
theorem dL_law_1052 : decode cL_law 1052 = .ok (.iaload, 1) := by decide +kernel
theorem dL_law_1053 : decode cL_law 1053 = .ok (.invokevirtual 126, 3) := by decide +kernel
theorem dL_law_1056 : decode cL_law 1056 = .ok (.aload_n 2, 1) := by decide +kernel
theorem dL_law_1057 : decode cL_law 1057 = .ok (.aload_n 0, 1) := by decide +kernel
theorem dL_law_1058 : decode cL_law 1058 = .ok (.iload_n 3, 1) := by decide +kernel
theorem dL_law_1059 : decode cL_law 1059 = .ok (.iconst 1, 1) := by decide +kernel
theorem dL_law_1060 : decode cL_law 1060 = .ok (.iadd, 1) := by decide +kernel
theorem dL_law_1061 : decode cL_law 1061 = .ok (.iaload, 1) := by decide +kernel
theorem dL_law_1062 : decode cL_law 1062 = .ok (.invokevirtual 129, 3) := by decide +kernel
theorem dL_law_1065 : decode cL_law 1065 = .ok (.if_icmp .eq 495, 3) := by decide +kernel
theorem dL_law_1068 : decode cL_law 1068 = .ok (.iconst 0, 1) := by decide +kernel
theorem dL_law_1069 : decode cL_law 1069 = .ok (.ireturn, 1) := by decide +kernel
theorem dL_law_1070 : decode cL_law 1070 = .ok (.aload_n 1, 1) := by decide +kernel
theorem dL_law_1071 : decode cL_law 1071 = .ok (.aload_n 0, 1) := by decide +kernel
theorem dL_law_1072 : decode cL_law 1072 = .ok (.iload_n 3, 1) := by decide +kernel
theorem dL_law_1073 : decode cL_law 1073 = .ok (.iconst 1, 1) := by decide +kernel
theorem dL_law_1074 : decode cL_law 1074 = .ok (.iadd, 1) := by decide +kernel
theorem dL_law_1075 : decode cL_law 1075 = .ok (.iaload, 1) := by decide +kernel
theorem dL_law_1076 : decode cL_law 1076 = .ok (.aload_n 0, 1) := by decide +kernel
theorem dL_law_1077 : decode cL_law 1077 = .ok (.iload_n 3, 1) := by decide +kernel
theorem dL_law_1078 : decode cL_law 1078 = .ok (.iconst 2, 1) := by decide +kernel
theorem dL_law_1079 : decode cL_law 1079 = .ok (.iadd, 1) := by decide +kernel
theorem dL_law_1080 : decode cL_law 1080 = .ok (.iaload, 1) := by decide +kernel
theorem dL_law_1081 : decode cL_law 1081 = .ok (.ifCond .eq 7, 3) := by decide +kernel
theorem dL_law_1084 : decode cL_law 1084 = .ok (.iconst 1, 1) := by decide +kernel
theorem dL_law_1085 : decode cL_law 1085 = .ok (.goto 4, 3) := by decide +kernel
theorem dL_law_1088 : decode cL_law 1088 = .ok (.iconst 0, 1) := by decide +kernel
theorem dL_law_1089 : decode cL_law 1089 = .ok (.invokevirtual 130, 3) := by decide +kernel
theorem dL_law_1092 : decode cL_law 1092 = .ok (.aload_n 2, 1) := by decide +kernel
theorem dL_law_1093 : decode cL_law 1093 = .ok (.aload_n 0, 1) := by decide +kernel
theorem dL_law_1094 : decode cL_law 1094 = .ok (.iload_n 3, 1) := by decide +kernel
theorem dL_law_1095 : decode cL_law 1095 = .ok (.iconst 1, 1) := by decide +kernel
theorem dL_law_1096 : decode cL_law 1096 = .ok (.iadd, 1) := by decide +kernel
theorem dL_law_1097 : decode cL_law 1097 = .ok (.iaload, 1) := by decide +kernel
theorem dL_law_1098 : decode cL_law 1098 = .ok (.aload_n 0, 1) := by decide +kernel
theorem dL_law_1099 : decode cL_law 1099 = .ok (.iload_n 3, 1) := by decide +kernel
theorem dL_law_1100 : decode cL_law 1100 = .ok (.iconst 2, 1) := by decide +kernel
theorem dL_law_1101 : decode cL_law 1101 = .ok (.iadd, 1) := by decide +kernel
theorem dL_law_1102 : decode cL_law 1102 = .ok (.iaload, 1) := by decide +kernel
theorem dL_law_1103 : decode cL_law 1103 = .ok (.ifCond .eq 7, 3) := by decide +kernel
theorem dL_law_1106 : decode cL_law 1106 = .ok (.iconst 1, 1) := by decide +kernel
theorem dL_law_1107 : decode cL_law 1107 = .ok (.goto 4, 3) := by decide +kernel
theorem dL_law_1110 : decode cL_law 1110 = .ok (.iconst 0, 1) := by decide +kernel
theorem dL_law_1111 : decode cL_law 1111 = .ok (.invokevirtual 133, 3) := by decide +kernel
theorem dL_law_1114 : decode cL_law 1114 = .ok (.if_icmp .eq 446, 3) := by decide +kernel
theorem dL_law_1117 : decode cL_law 1117 = .ok (.iconst 0, 1) := by decide +kernel
theorem dL_law_1118 : decode cL_law 1118 = .ok (.ireturn, 1) := by decide +kernel
theorem dL_law_1119 : decode cL_law 1119 = .ok (.aload_n 1, 1) := by decide +kernel
theorem dL_law_1120 : decode cL_law 1120 = .ok (.aload_n 0, 1) := by decide +kernel
theorem dL_law_1121 : decode cL_law 1121 = .ok (.iload_n 3, 1) := by decide +kernel
theorem dL_law_1122 : decode cL_law 1122 = .ok (.iconst 1, 1) := by decide +kernel
theorem dL_law_1123 : decode cL_law 1123 = .ok (.iadd, 1) := by decide +kernel
theorem dL_law_1124 : decode cL_law 1124 = .ok (.iaload, 1) := by decide +kernel
theorem dL_law_1125 : decode cL_law 1125 = .ok (.aload_n 0, 1) := by decide +kernel
theorem dL_law_1126 : decode cL_law 1126 = .ok (.iload_n 3, 1) := by decide +kernel
theorem dL_law_1127 : decode cL_law 1127 = .ok (.iconst 2, 1) := by decide +kernel
theorem dL_law_1128 : decode cL_law 1128 = .ok (.iadd, 1) := by decide +kernel
theorem dL_law_1129 : decode cL_law 1129 = .ok (.iaload, 1) := by decide +kernel
theorem dL_law_1130 : decode cL_law 1130 = .ok (.invokevirtual 134, 3) := by decide +kernel
theorem dL_law_1133 : decode cL_law 1133 = .ok (.aload_n 2, 1) := by decide +kernel
theorem dL_law_1134 : decode cL_law 1134 = .ok (.aload_n 0, 1) := by decide +kernel
theorem dL_law_1135 : decode cL_law 1135 = .ok (.iload_n 3, 1) := by decide +kernel
theorem dL_law_1136 : decode cL_law 1136 = .ok (.iconst 1, 1) := by decide +kernel
theorem dL_law_1137 : decode cL_law 1137 = .ok (.iadd, 1) := by decide +kernel
theorem dL_law_1138 : decode cL_law 1138 = .ok (.iaload, 1) := by decide +kernel
theorem dL_law_1139 : decode cL_law 1139 = .ok (.aload_n 0, 1) := by decide +kernel
theorem dL_law_1140 : decode cL_law 1140 = .ok (.iload_n 3, 1) := by decide +kernel
theorem dL_law_1141 : decode cL_law 1141 = .ok (.iconst 2, 1) := by decide +kernel
theorem dL_law_1142 : decode cL_law 1142 = .ok (.iadd, 1) := by decide +kernel
theorem dL_law_1143 : decode cL_law 1143 = .ok (.iaload, 1) := by decide +kernel
theorem dL_law_1144 : decode cL_law 1144 = .ok (.invokevirtual 137, 3) := by decide +kernel
theorem dL_law_1147 : decode cL_law 1147 = .ok (.if_icmp .eq 413, 3) := by decide +kernel
theorem dL_law_1150 : decode cL_law 1150 = .ok (.iconst 0, 1) := by decide +kernel
theorem dL_law_1151 : decode cL_law 1151 = .ok (.ireturn, 1) := by decide +kernel
theorem dL_law_1152 : decode cL_law 1152 = .ok (.aload_n 1, 1) := by decide +kernel
theorem dL_law_1153 : decode cL_law 1153 = .ok (.aload_n 0, 1) := by decide +kernel
theorem dL_law_1154 : decode cL_law 1154 = .ok (.iload_n 3, 1) := by decide +kernel
theorem dL_law_1155 : decode cL_law 1155 = .ok (.iconst 1, 1) := by decide +kernel
theorem dL_law_1156 : decode cL_law 1156 = .ok (.iadd, 1) := by decide +kernel
theorem dL_law_1157 : decode cL_law 1157 = .ok (.iaload, 1) := by decide +kernel
theorem dL_law_1158 : decode cL_law 1158 = .ok (.aload_n 0, 1) := by decide +kernel
theorem dL_law_1159 : decode cL_law 1159 = .ok (.iload_n 3, 1) := by decide +kernel
theorem dL_law_1160 : decode cL_law 1160 = .ok (.iconst 2, 1) := by decide +kernel
theorem dL_law_1161 : decode cL_law 1161 = .ok (.iadd, 1) := by decide +kernel
theorem dL_law_1162 : decode cL_law 1162 = .ok (.iaload, 1) := by decide +kernel
theorem dL_law_1163 : decode cL_law 1163 = .ok (.ifCond .eq 7, 3) := by decide +kernel
theorem dL_law_1166 : decode cL_law 1166 = .ok (.iconst 1, 1) := by decide +kernel
theorem dL_law_1167 : decode cL_law 1167 = .ok (.goto 4, 3) := by decide +kernel
theorem dL_law_1170 : decode cL_law 1170 = .ok (.iconst 0, 1) := by decide +kernel
theorem dL_law_1171 : decode cL_law 1171 = .ok (.invokevirtual 138, 3) := by decide +kernel
theorem dL_law_1174 : decode cL_law 1174 = .ok (.aload_n 2, 1) := by decide +kernel
theorem dL_law_1175 : decode cL_law 1175 = .ok (.aload_n 0, 1) := by decide +kernel
theorem dL_law_1176 : decode cL_law 1176 = .ok (.iload_n 3, 1) := by decide +kernel
theorem dL_law_1177 : decode cL_law 1177 = .ok (.iconst 1, 1) := by decide +kernel
theorem dL_law_1178 : decode cL_law 1178 = .ok (.iadd, 1) := by decide +kernel
theorem dL_law_1179 : decode cL_law 1179 = .ok (.iaload, 1) := by decide +kernel
theorem dL_law_1180 : decode cL_law 1180 = .ok (.aload_n 0, 1) := by decide +kernel
theorem dL_law_1181 : decode cL_law 1181 = .ok (.iload_n 3, 1) := by decide +kernel
theorem dL_law_1182 : decode cL_law 1182 = .ok (.iconst 2, 1) := by decide +kernel
theorem dL_law_1183 : decode cL_law 1183 = .ok (.iadd, 1) := by decide +kernel
theorem dL_law_1184 : decode cL_law 1184 = .ok (.iaload, 1) := by decide +kernel
theorem dL_law_1185 : decode cL_law 1185 = .ok (.ifCond .eq 7, 3) := by decide +kernel
theorem dL_law_1188 : decode cL_law 1188 = .ok (.iconst 1, 1) := by decide +kernel
theorem dL_law_1189 : decode cL_law 1189 = .ok (.goto 4, 3) := by decide +kernel
theorem dL_law_1192 : decode cL_law 1192 = .ok (.iconst 0, 1) := by decide +kernel
theorem dL_law_1193 : decode cL_law 1193 = .ok (.invokevirtual 141, 3) := by decide +kernel
theorem dL_law_1196 : decode cL_law 1196 = .ok (.if_icmp .eq 364, 3) := by decide +kernel
theorem dL_law_1199 : decode cL_law 1199 = .ok (.iconst 0, 1) := by decide +kernel
theorem dL_law_1200 : decode cL_law 1200 = .ok (.ireturn, 1) := by decide +kernel
theorem dL_law_1201 : decode cL_law 1201 = .ok (.aload_n 1, 1) := by decide +kernel
theorem dL_law_1202 : decode cL_law 1202 = .ok (.invokevirtual 142, 3) := by decide +kernel
theorem dL_law_1205 : decode cL_law 1205 = .ok (.aload_n 2, 1) := by decide +kernel
theorem dL_law_1206 : decode cL_law 1206 = .ok (.invokevirtual 145, 3) := by decide +kernel
theorem dL_law_1209 : decode cL_law 1209 = .ok (.if_icmp .eq 351, 3) := by decide +kernel
theorem dL_law_1212 : decode cL_law 1212 = .ok (.iconst 0, 1) := by decide +kernel
theorem dL_law_1213 : decode cL_law 1213 = .ok (.ireturn, 1) := by decide +kernel
theorem dL_law_1214 : decode cL_law 1214 = .ok (.aload_n 1, 1) := by decide +kernel
theorem dL_law_1215 : decode cL_law 1215 = .ok (.aload_n 0, 1) := by decide +kernel
theorem dL_law_1216 : decode cL_law 1216 = .ok (.iload_n 3, 1) := by decide +kernel
theorem dL_law_1217 : decode cL_law 1217 = .ok (.iconst 1, 1) := by decide +kernel
theorem dL_law_1218 : decode cL_law 1218 = .ok (.iadd, 1) := by decide +kernel
theorem dL_law_1219 : decode cL_law 1219 = .ok (.iaload, 1) := by decide +kernel
theorem dL_law_1220 : decode cL_law 1220 = .ok (.invokevirtual 146, 3) := by decide +kernel
theorem dL_law_1223 : decode cL_law 1223 = .ok (.aload_n 2, 1) := by decide +kernel
theorem dL_law_1224 : decode cL_law 1224 = .ok (.aload_n 0, 1) := by decide +kernel
theorem dL_law_1225 : decode cL_law 1225 = .ok (.iload_n 3, 1) := by decide +kernel
theorem dL_law_1226 : decode cL_law 1226 = .ok (.iconst 1, 1) := by decide +kernel
theorem dL_law_1227 : decode cL_law 1227 = .ok (.iadd, 1) := by decide +kernel
theorem dL_law_1228 : decode cL_law 1228 = .ok (.iaload, 1) := by decide +kernel
theorem dL_law_1229 : decode cL_law 1229 = .ok (.invokevirtual 149, 3) := by decide +kernel
theorem dL_law_1232 : decode cL_law 1232 = .ok (.if_icmp .eq 328, 3) := by decide +kernel
theorem dL_law_1235 : decode cL_law 1235 = .ok (.iconst 0, 1) := by decide +kernel
theorem dL_law_1236 : decode cL_law 1236 = .ok (.ireturn, 1) := by decide +kernel
theorem dL_law_1237 : decode cL_law 1237 = .ok (.aload_n 1, 1) := by decide +kernel
theorem dL_law_1238 : decode cL_law 1238 = .ok (.aload_n 0, 1) := by decide +kernel
theorem dL_law_1239 : decode cL_law 1239 = .ok (.iload_n 3, 1) := by decide +kernel
theorem dL_law_1240 : decode cL_law 1240 = .ok (.iconst 1, 1) := by decide +kernel
theorem dL_law_1241 : decode cL_law 1241 = .ok (.iadd, 1) := by decide +kernel
theorem dL_law_1242 : decode cL_law 1242 = .ok (.iaload, 1) := by decide +kernel
theorem dL_law_1243 : decode cL_law 1243 = .ok (.invokevirtual 150, 3) := by decide +kernel
theorem dL_law_1246 : decode cL_law 1246 = .ok (.aload_n 2, 1) := by decide +kernel
theorem dL_law_1247 : decode cL_law 1247 = .ok (.aload_n 0, 1) := by decide +kernel
theorem dL_law_1248 : decode cL_law 1248 = .ok (.iload_n 3, 1) := by decide +kernel
theorem dL_law_1249 : decode cL_law 1249 = .ok (.iconst 1, 1) := by decide +kernel
theorem dL_law_1250 : decode cL_law 1250 = .ok (.iadd, 1) := by decide +kernel
theorem dL_law_1251 : decode cL_law 1251 = .ok (.iaload, 1) := by decide +kernel
theorem dL_law_1252 : decode cL_law 1252 = .ok (.invokevirtual 153, 3) := by decide +kernel
theorem dL_law_1255 : decode cL_law 1255 = .ok (.if_icmp .eq 305, 3) := by decide +kernel
theorem dL_law_1258 : decode cL_law 1258 = .ok (.iconst 0, 1) := by decide +kernel
theorem dL_law_1259 : decode cL_law 1259 = .ok (.ireturn, 1) := by decide +kernel
theorem dL_law_1260 : decode cL_law 1260 = .ok (.aload_n 1, 1) := by decide +kernel
theorem dL_law_1261 : decode cL_law 1261 = .ok (.aload_n 0, 1) := by decide +kernel
theorem dL_law_1262 : decode cL_law 1262 = .ok (.iload_n 3, 1) := by decide +kernel
theorem dL_law_1263 : decode cL_law 1263 = .ok (.iconst 1, 1) := by decide +kernel
theorem dL_law_1264 : decode cL_law 1264 = .ok (.iadd, 1) := by decide +kernel
theorem dL_law_1265 : decode cL_law 1265 = .ok (.iaload, 1) := by decide +kernel
theorem dL_law_1266 : decode cL_law 1266 = .ok (.aload_n 0, 1) := by decide +kernel
theorem dL_law_1267 : decode cL_law 1267 = .ok (.iload_n 3, 1) := by decide +kernel
theorem dL_law_1268 : decode cL_law 1268 = .ok (.iconst 2, 1) := by decide +kernel
theorem dL_law_1269 : decode cL_law 1269 = .ok (.iadd, 1) := by decide +kernel
theorem dL_law_1270 : decode cL_law 1270 = .ok (.iaload, 1) := by decide +kernel
theorem dL_law_1271 : decode cL_law 1271 = .ok (.invokevirtual 154, 3) := by decide +kernel
theorem dL_law_1274 : decode cL_law 1274 = .ok (.aload_n 2, 1) := by decide +kernel
theorem dL_law_1275 : decode cL_law 1275 = .ok (.aload_n 0, 1) := by decide +kernel
theorem dL_law_1276 : decode cL_law 1276 = .ok (.iload_n 3, 1) := by decide +kernel
theorem dL_law_1277 : decode cL_law 1277 = .ok (.iconst 1, 1) := by decide +kernel
theorem dL_law_1278 : decode cL_law 1278 = .ok (.iadd, 1) := by decide +kernel
theorem dL_law_1279 : decode cL_law 1279 = .ok (.iaload, 1) := by decide +kernel
theorem dL_law_1280 : decode cL_law 1280 = .ok (.aload_n 0, 1) := by decide +kernel
theorem dL_law_1281 : decode cL_law 1281 = .ok (.iload_n 3, 1) := by decide +kernel
theorem dL_law_1282 : decode cL_law 1282 = .ok (.iconst 2, 1) := by decide +kernel
theorem dL_law_1283 : decode cL_law 1283 = .ok (.iadd, 1) := by decide +kernel
theorem dL_law_1284 : decode cL_law 1284 = .ok (.iaload, 1) := by decide +kernel
theorem dL_law_1285 : decode cL_law 1285 = .ok (.invokevirtual 157, 3) := by decide +kernel
theorem dL_law_1288 : decode cL_law 1288 = .ok (.if_icmp .eq 272, 3) := by decide +kernel
theorem dL_law_1291 : decode cL_law 1291 = .ok (.iconst 0, 1) := by decide +kernel
theorem dL_law_1292 : decode cL_law 1292 = .ok (.ireturn, 1) := by decide +kernel
theorem dL_law_1293 : decode cL_law 1293 = .ok (.aload_n 1, 1) := by decide +kernel
theorem dL_law_1294 : decode cL_law 1294 = .ok (.aload_n 0, 1) := by decide +kernel
theorem dL_law_1295 : decode cL_law 1295 = .ok (.iload_n 3, 1) := by decide +kernel
theorem dL_law_1296 : decode cL_law 1296 = .ok (.iconst 1, 1) := by decide +kernel
theorem dL_law_1297 : decode cL_law 1297 = .ok (.iadd, 1) := by decide +kernel
theorem dL_law_1298 : decode cL_law 1298 = .ok (.iaload, 1) := by decide +kernel
theorem dL_law_1299 : decode cL_law 1299 = .ok (.invokevirtual 158, 3) := by decide +kernel
theorem dL_law_1302 : decode cL_law 1302 = .ok (.aload_n 2, 1) := by decide +kernel
theorem dL_law_1303 : decode cL_law 1303 = .ok (.aload_n 0, 1) := by decide +kernel
theorem dL_law_1304 : decode cL_law 1304 = .ok (.iload_n 3, 1) := by decide +kernel
theorem dL_law_1305 : decode cL_law 1305 = .ok (.iconst 1, 1) := by decide +kernel
theorem dL_law_1306 : decode cL_law 1306 = .ok (.iadd, 1) := by decide +kernel
theorem dL_law_1307 : decode cL_law 1307 = .ok (.iaload, 1) := by decide +kernel
theorem dL_law_1308 : decode cL_law 1308 = .ok (.invokevirtual 161, 3) := by decide +kernel
theorem dL_law_1311 : decode cL_law 1311 = .ok (.if_icmp .eq 249, 3) := by decide +kernel
theorem dL_law_1314 : decode cL_law 1314 = .ok (.iconst 0, 1) := by decide +kernel
theorem dL_law_1315 : decode cL_law 1315 = .ok (.ireturn, 1) := by decide +kernel
theorem dL_law_1316 : decode cL_law 1316 = .ok (.aload_n 1, 1) := by decide +kernel
theorem dL_law_1317 : decode cL_law 1317 = .ok (.aload_n 0, 1) := by decide +kernel
theorem dL_law_1318 : decode cL_law 1318 = .ok (.iload_n 3, 1) := by decide +kernel
theorem dL_law_1319 : decode cL_law 1319 = .ok (.iconst 1, 1) := by decide +kernel
theorem dL_law_1320 : decode cL_law 1320 = .ok (.iadd, 1) := by decide +kernel
theorem dL_law_1321 : decode cL_law 1321 = .ok (.iaload, 1) := by decide +kernel
theorem dL_law_1322 : decode cL_law 1322 = .ok (.aload_n 0, 1) := by decide +kernel
theorem dL_law_1323 : decode cL_law 1323 = .ok (.iload_n 3, 1) := by decide +kernel
theorem dL_law_1324 : decode cL_law 1324 = .ok (.iconst 2, 1) := by decide +kernel
theorem dL_law_1325 : decode cL_law 1325 = .ok (.iadd, 1) := by decide +kernel
theorem dL_law_1326 : decode cL_law 1326 = .ok (.iaload, 1) := by decide +kernel
theorem dL_law_1327 : decode cL_law 1327 = .ok (.aload_n 0, 1) := by decide +kernel
theorem dL_law_1328 : decode cL_law 1328 = .ok (.iload_n 3, 1) := by decide +kernel
theorem dL_law_1329 : decode cL_law 1329 = .ok (.iconst 3, 1) := by decide +kernel
theorem dL_law_1330 : decode cL_law 1330 = .ok (.iadd, 1) := by decide +kernel
theorem dL_law_1331 : decode cL_law 1331 = .ok (.iaload, 1) := by decide +kernel
theorem dL_law_1332 : decode cL_law 1332 = .ok (.invokevirtual 162, 3) := by decide +kernel
theorem dL_law_1335 : decode cL_law 1335 = .ok (.aload_n 2, 1) := by decide +kernel
theorem dL_law_1336 : decode cL_law 1336 = .ok (.aload_n 0, 1) := by decide +kernel
theorem dL_law_1337 : decode cL_law 1337 = .ok (.iload_n 3, 1) := by decide +kernel
theorem dL_law_1338 : decode cL_law 1338 = .ok (.iconst 1, 1) := by decide +kernel
theorem dL_law_1339 : decode cL_law 1339 = .ok (.iadd, 1) := by decide +kernel
theorem dL_law_1340 : decode cL_law 1340 = .ok (.iaload, 1) := by decide +kernel
theorem dL_law_1341 : decode cL_law 1341 = .ok (.aload_n 0, 1) := by decide +kernel
theorem dL_law_1342 : decode cL_law 1342 = .ok (.iload_n 3, 1) := by decide +kernel
theorem dL_law_1343 : decode cL_law 1343 = .ok (.iconst 2, 1) := by decide +kernel
theorem dL_law_1344 : decode cL_law 1344 = .ok (.iadd, 1) := by decide +kernel
theorem dL_law_1345 : decode cL_law 1345 = .ok (.iaload, 1) := by decide +kernel
theorem dL_law_1346 : decode cL_law 1346 = .ok (.aload_n 0, 1) := by decide +kernel
theorem dL_law_1347 : decode cL_law 1347 = .ok (.iload_n 3, 1) := by decide +kernel
theorem dL_law_1348 : decode cL_law 1348 = .ok (.iconst 3, 1) := by decide +kernel
theorem dL_law_1349 : decode cL_law 1349 = .ok (.iadd, 1) := by decide +kernel
theorem dL_law_1350 : decode cL_law 1350 = .ok (.iaload, 1) := by decide +kernel
theorem dL_law_1351 : decode cL_law 1351 = .ok (.invokevirtual 165, 3) := by decide +kernel
theorem dL_law_1354 : decode cL_law 1354 = .ok (.if_icmp .eq 206, 3) := by decide +kernel
theorem dL_law_1357 : decode cL_law 1357 = .ok (.iconst 0, 1) := by decide +kernel
theorem dL_law_1358 : decode cL_law 1358 = .ok (.ireturn, 1) := by decide +kernel
theorem dL_law_1359 : decode cL_law 1359 = .ok (.aload_n 1, 1) := by decide +kernel
theorem dL_law_1360 : decode cL_law 1360 = .ok (.aload_n 0, 1) := by decide +kernel
theorem dL_law_1361 : decode cL_law 1361 = .ok (.iload_n 3, 1) := by decide +kernel
theorem dL_law_1362 : decode cL_law 1362 = .ok (.iconst 1, 1) := by decide +kernel
theorem dL_law_1363 : decode cL_law 1363 = .ok (.iadd, 1) := by decide +kernel
theorem dL_law_1364 : decode cL_law 1364 = .ok (.iaload, 1) := by decide +kernel
theorem dL_law_1365 : decode cL_law 1365 = .ok (.invokevirtual 166, 3) := by decide +kernel
theorem dL_law_1368 : decode cL_law 1368 = .ok (.aload_n 2, 1) := by decide +kernel
theorem dL_law_1369 : decode cL_law 1369 = .ok (.aload_n 0, 1) := by decide +kernel
theorem dL_law_1370 : decode cL_law 1370 = .ok (.iload_n 3, 1) := by decide +kernel
theorem dL_law_1371 : decode cL_law 1371 = .ok (.iconst 1, 1) := by decide +kernel
theorem dL_law_1372 : decode cL_law 1372 = .ok (.iadd, 1) := by decide +kernel
theorem dL_law_1373 : decode cL_law 1373 = .ok (.iaload, 1) := by decide +kernel
theorem dL_law_1374 : decode cL_law 1374 = .ok (.invokevirtual 169, 3) := by decide +kernel
theorem dL_law_1377 : decode cL_law 1377 = .ok (.if_icmp .eq 183, 3) := by decide +kernel
theorem dL_law_1380 : decode cL_law 1380 = .ok (.iconst 0, 1) := by decide +kernel
theorem dL_law_1381 : decode cL_law 1381 = .ok (.ireturn, 1) := by decide +kernel
theorem dL_law_1382 : decode cL_law 1382 = .ok (.aload_n 1, 1) := by decide +kernel
theorem dL_law_1383 : decode cL_law 1383 = .ok (.aload_n 0, 1) := by decide +kernel
theorem dL_law_1384 : decode cL_law 1384 = .ok (.iload_n 3, 1) := by decide +kernel
theorem dL_law_1385 : decode cL_law 1385 = .ok (.iconst 1, 1) := by decide +kernel
theorem dL_law_1386 : decode cL_law 1386 = .ok (.iadd, 1) := by decide +kernel
theorem dL_law_1387 : decode cL_law 1387 = .ok (.iaload, 1) := by decide +kernel
theorem dL_law_1388 : decode cL_law 1388 = .ok (.aload_n 0, 1) := by decide +kernel
theorem dL_law_1389 : decode cL_law 1389 = .ok (.iload_n 3, 1) := by decide +kernel
theorem dL_law_1390 : decode cL_law 1390 = .ok (.iconst 2, 1) := by decide +kernel
theorem dL_law_1391 : decode cL_law 1391 = .ok (.iadd, 1) := by decide +kernel
theorem dL_law_1392 : decode cL_law 1392 = .ok (.iaload, 1) := by decide +kernel
theorem dL_law_1393 : decode cL_law 1393 = .ok (.aload_n 0, 1) := by decide +kernel
theorem dL_law_1394 : decode cL_law 1394 = .ok (.iload_n 3, 1) := by decide +kernel
theorem dL_law_1395 : decode cL_law 1395 = .ok (.iconst 3, 1) := by decide +kernel
theorem dL_law_1396 : decode cL_law 1396 = .ok (.iadd, 1) := by decide +kernel
theorem dL_law_1397 : decode cL_law 1397 = .ok (.iaload, 1) := by decide +kernel
theorem dL_law_1398 : decode cL_law 1398 = .ok (.invokevirtual 170, 3) := by decide +kernel
theorem dL_law_1401 : decode cL_law 1401 = .ok (.aload_n 2, 1) := by decide +kernel
theorem dL_law_1402 : decode cL_law 1402 = .ok (.aload_n 0, 1) := by decide +kernel
theorem dL_law_1403 : decode cL_law 1403 = .ok (.iload_n 3, 1) := by decide +kernel
theorem dL_law_1404 : decode cL_law 1404 = .ok (.iconst 1, 1) := by decide +kernel
theorem dL_law_1405 : decode cL_law 1405 = .ok (.iadd, 1) := by decide +kernel
theorem dL_law_1406 : decode cL_law 1406 = .ok (.iaload, 1) := by decide +kernel
theorem dL_law_1407 : decode cL_law 1407 = .ok (.aload_n 0, 1) := by decide +kernel
theorem dL_law_1408 : decode cL_law 1408 = .ok (.iload_n 3, 1) := by decide +kernel
theorem dL_law_1409 : decode cL_law 1409 = .ok (.iconst 2, 1) := by decide +kernel
theorem dL_law_1410 : decode cL_law 1410 = .ok (.iadd, 1) := by decide +kernel
theorem dL_law_1411 : decode cL_law 1411 = .ok (.iaload, 1) := by decide +kernel
theorem dL_law_1412 : decode cL_law 1412 = .ok (.aload_n 0, 1) := by decide +kernel
theorem dL_law_1413 : decode cL_law 1413 = .ok (.iload_n 3, 1) := by decide +kernel
theorem dL_law_1414 : decode cL_law 1414 = .ok (.iconst 3, 1) := by decide +kernel
theorem dL_law_1415 : decode cL_law 1415 = .ok (.iadd, 1) := by decide +kernel
theorem dL_law_1416 : decode cL_law 1416 = .ok (.iaload, 1) := by decide +kernel
theorem dL_law_1417 : decode cL_law 1417 = .ok (.invokevirtual 173, 3) := by decide +kernel
theorem dL_law_1420 : decode cL_law 1420 = .ok (.if_icmp .eq 140, 3) := by decide +kernel
theorem dL_law_1423 : decode cL_law 1423 = .ok (.iconst 0, 1) := by decide +kernel
theorem dL_law_1424 : decode cL_law 1424 = .ok (.ireturn, 1) := by decide +kernel
theorem dL_law_1425 : decode cL_law 1425 = .ok (.aload_n 1, 1) := by decide +kernel
theorem dL_law_1426 : decode cL_law 1426 = .ok (.aload_n 0, 1) := by decide +kernel
theorem dL_law_1427 : decode cL_law 1427 = .ok (.iload_n 3, 1) := by decide +kernel
theorem dL_law_1428 : decode cL_law 1428 = .ok (.iconst 1, 1) := by decide +kernel
theorem dL_law_1429 : decode cL_law 1429 = .ok (.iadd, 1) := by decide +kernel
theorem dL_law_1430 : decode cL_law 1430 = .ok (.iaload, 1) := by decide +kernel
theorem dL_law_1431 : decode cL_law 1431 = .ok (.aload_n 0, 1) := by decide +kernel
theorem dL_law_1432 : decode cL_law 1432 = .ok (.iload_n 3, 1) := by decide +kernel
theorem dL_law_1433 : decode cL_law 1433 = .ok (.iconst 2, 1) := by decide +kernel
theorem dL_law_1434 : decode cL_law 1434 = .ok (.iadd, 1) := by decide +kernel
theorem dL_law_1435 : decode cL_law 1435 = .ok (.iaload, 1) := by decide +kernel
theorem dL_law_1436 : decode cL_law 1436 = .ok (.aload_n 0, 1) := by decide +kernel
theorem dL_law_1437 : decode cL_law 1437 = .ok (.iload_n 3, 1) := by decide +kernel
theorem dL_law_1438 : decode cL_law 1438 = .ok (.iconst 3, 1) := by decide +kernel
theorem dL_law_1439 : decode cL_law 1439 = .ok (.iadd, 1) := by decide +kernel
theorem dL_law_1440 : decode cL_law 1440 = .ok (.iaload, 1) := by decide +kernel
theorem dL_law_1441 : decode cL_law 1441 = .ok (.aload_n 0, 1) := by decide +kernel
theorem dL_law_1442 : decode cL_law 1442 = .ok (.iload_n 3, 1) := by decide +kernel
theorem dL_law_1443 : decode cL_law 1443 = .ok (.iconst 4, 1) := by decide +kernel
theorem dL_law_1444 : decode cL_law 1444 = .ok (.iadd, 1) := by decide +kernel
theorem dL_law_1445 : decode cL_law 1445 = .ok (.iaload, 1) := by decide +kernel
theorem dL_law_1446 : decode cL_law 1446 = .ok (.aload_n 0, 1) := by decide +kernel
theorem dL_law_1447 : decode cL_law 1447 = .ok (.iload_n 3, 1) := by decide +kernel
theorem dL_law_1448 : decode cL_law 1448 = .ok (.iconst 5, 1) := by decide +kernel
theorem dL_law_1449 : decode cL_law 1449 = .ok (.iadd, 1) := by decide +kernel
theorem dL_law_1450 : decode cL_law 1450 = .ok (.iaload, 1) := by decide +kernel
theorem dL_law_1451 : decode cL_law 1451 = .ok (.invokevirtual 174, 3) := by decide +kernel
theorem dL_law_1454 : decode cL_law 1454 = .ok (.aload_n 2, 1) := by decide +kernel
theorem dL_law_1455 : decode cL_law 1455 = .ok (.aload_n 0, 1) := by decide +kernel
theorem dL_law_1456 : decode cL_law 1456 = .ok (.iload_n 3, 1) := by decide +kernel
theorem dL_law_1457 : decode cL_law 1457 = .ok (.iconst 1, 1) := by decide +kernel
theorem dL_law_1458 : decode cL_law 1458 = .ok (.iadd, 1) := by decide +kernel
theorem dL_law_1459 : decode cL_law 1459 = .ok (.iaload, 1) := by decide +kernel
theorem dL_law_1460 : decode cL_law 1460 = .ok (.aload_n 0, 1) := by decide +kernel
theorem dL_law_1461 : decode cL_law 1461 = .ok (.iload_n 3, 1) := by decide +kernel
theorem dL_law_1462 : decode cL_law 1462 = .ok (.iconst 2, 1) := by decide +kernel
theorem dL_law_1463 : decode cL_law 1463 = .ok (.iadd, 1) := by decide +kernel
theorem dL_law_1464 : decode cL_law 1464 = .ok (.iaload, 1) := by decide +kernel
theorem dL_law_1465 : decode cL_law 1465 = .ok (.aload_n 0, 1) := by decide +kernel
theorem dL_law_1466 : decode cL_law 1466 = .ok (.iload_n 3, 1) := by decide +kernel
theorem dL_law_1467 : decode cL_law 1467 = .ok (.iconst 3, 1) := by decide +kernel
theorem dL_law_1468 : decode cL_law 1468 = .ok (.iadd, 1) := by decide +kernel
theorem dL_law_1469 : decode cL_law 1469 = .ok (.iaload, 1) := by decide +kernel
theorem dL_law_1470 : decode cL_law 1470 = .ok (.aload_n 0, 1) := by decide +kernel
theorem dL_law_1471 : decode cL_law 1471 = .ok (.iload_n 3, 1) := by decide +kernel
theorem dL_law_1472 : decode cL_law 1472 = .ok (.iconst 4, 1) := by decide +kernel
theorem dL_law_1473 : decode cL_law 1473 = .ok (.iadd, 1) := by decide +kernel
theorem dL_law_1474 : decode cL_law 1474 = .ok (.iaload, 1) := by decide +kernel
theorem dL_law_1475 : decode cL_law 1475 = .ok (.aload_n 0, 1) := by decide +kernel
theorem dL_law_1476 : decode cL_law 1476 = .ok (.iload_n 3, 1) := by decide +kernel
theorem dL_law_1477 : decode cL_law 1477 = .ok (.iconst 5, 1) := by decide +kernel
theorem dL_law_1478 : decode cL_law 1478 = .ok (.iadd, 1) := by decide +kernel
theorem dL_law_1479 : decode cL_law 1479 = .ok (.iaload, 1) := by decide +kernel
theorem dL_law_1480 : decode cL_law 1480 = .ok (.invokevirtual 178, 3) := by decide +kernel
theorem dL_law_1483 : decode cL_law 1483 = .ok (.if_icmp .eq 77, 3) := by decide +kernel
theorem dL_law_1486 : decode cL_law 1486 = .ok (.iconst 0, 1) := by decide +kernel
theorem dL_law_1487 : decode cL_law 1487 = .ok (.ireturn, 1) := by decide +kernel
theorem dL_law_1488 : decode cL_law 1488 = .ok (.aload_n 1, 1) := by decide +kernel
theorem dL_law_1489 : decode cL_law 1489 = .ok (.aload_n 0, 1) := by decide +kernel
theorem dL_law_1490 : decode cL_law 1490 = .ok (.iload_n 3, 1) := by decide +kernel
theorem dL_law_1491 : decode cL_law 1491 = .ok (.iconst 1, 1) := by decide +kernel
theorem dL_law_1492 : decode cL_law 1492 = .ok (.iadd, 1) := by decide +kernel
theorem dL_law_1493 : decode cL_law 1493 = .ok (.iaload, 1) := by decide +kernel
theorem dL_law_1494 : decode cL_law 1494 = .ok (.invokevirtual 179, 3) := by decide +kernel
theorem dL_law_1497 : decode cL_law 1497 = .ok (.aload_n 2, 1) := by decide +kernel
theorem dL_law_1498 : decode cL_law 1498 = .ok (.aload_n 0, 1) := by decide +kernel
theorem dL_law_1499 : decode cL_law 1499 = .ok (.iload_n 3, 1) := by decide +kernel
theorem dL_law_1500 : decode cL_law 1500 = .ok (.iconst 1, 1) := by decide +kernel
theorem dL_law_1501 : decode cL_law 1501 = .ok (.iadd, 1) := by decide +kernel
theorem dL_law_1502 : decode cL_law 1502 = .ok (.iaload, 1) := by decide +kernel
theorem dL_law_1503 : decode cL_law 1503 = .ok (.invokevirtual 182, 3) := by decide +kernel
theorem dL_law_1506 : decode cL_law 1506 = .ok (.if_icmp .eq 54, 3) := by decide +kernel
theorem dL_law_1509 : decode cL_law 1509 = .ok (.iconst 0, 1) := by decide +kernel
theorem dL_law_1510 : decode cL_law 1510 = .ok (.ireturn, 1) := by decide +kernel
theorem dL_law_1511 : decode cL_law 1511 = .ok (.aload_n 1, 1) := by decide +kernel
theorem dL_law_1512 : decode cL_law 1512 = .ok (.invokevirtual 183, 3) := by decide +kernel
theorem dL_law_1515 : decode cL_law 1515 = .ok (.aload_n 2, 1) := by decide +kernel
theorem dL_law_1516 : decode cL_law 1516 = .ok (.invokevirtual 186, 3) := by decide +kernel
theorem dL_law_1519 : decode cL_law 1519 = .ok (.if_icmp .eq 41, 3) := by decide +kernel
theorem dL_law_1522 : decode cL_law 1522 = .ok (.iconst 0, 1) := by decide +kernel
theorem dL_law_1523 : decode cL_law 1523 = .ok (.ireturn, 1) := by decide +kernel
theorem dL_law_1524 : decode cL_law 1524 = .ok (.aload_n 1, 1) := by decide +kernel
theorem dL_law_1525 : decode cL_law 1525 = .ok (.aload_n 0, 1) := by decide +kernel
theorem dL_law_1526 : decode cL_law 1526 = .ok (.iload_n 3, 1) := by decide +kernel
theorem dL_law_1527 : decode cL_law 1527 = .ok (.iconst 1, 1) := by decide +kernel
theorem dL_law_1528 : decode cL_law 1528 = .ok (.iadd, 1) := by decide +kernel
theorem dL_law_1529 : decode cL_law 1529 = .ok (.iaload, 1) := by decide +kernel
theorem dL_law_1530 : decode cL_law 1530 = .ok (.invokevirtual 187, 3) := by decide +kernel
theorem dL_law_1533 : decode cL_law 1533 = .ok (.aload_n 2, 1) := by decide +kernel
theorem dL_law_1534 : decode cL_law 1534 = .ok (.aload_n 0, 1) := by decide +kernel
theorem dL_law_1535 : decode cL_law 1535 = .ok (.iload_n 3, 1) := by decide +kernel
theorem dL_law_1536 : decode cL_law 1536 = .ok (.iconst 1, 1) := by decide +kernel
theorem dL_law_1537 : decode cL_law 1537 = .ok (.iadd, 1) := by decide +kernel
theorem dL_law_1538 : decode cL_law 1538 = .ok (.iaload, 1) := by decide +kernel
theorem dL_law_1539 : decode cL_law 1539 = .ok (.invokevirtual 190, 3) := by decide +kernel
theorem dL_law_1542 : decode cL_law 1542 = .ok (.if_icmp .eq 18, 3) := by decide +kernel
theorem dL_law_1545 : decode cL_law 1545 = .ok (.iconst 0, 1) := by decide +kernel
theorem dL_law_1546 : decode cL_law 1546 = .ok (.ireturn, 1) := by decide +kernel
theorem dL_law_1547 : decode cL_law 1547 = .ok (.aload_n 1, 1) := by decide +kernel
theorem dL_law_1548 : decode cL_law 1548 = .ok (.invokevirtual 191, 3) := by decide +kernel
theorem dL_law_1551 : decode cL_law 1551 = .ok (.aload_n 2, 1) := by decide +kernel
theorem dL_law_1552 : decode cL_law 1552 = .ok (.invokevirtual 194, 3) := by decide +kernel
theorem dL_law_1555 : decode cL_law 1555 = .ok (.if_icmp .eq 5, 3) := by decide +kernel
theorem dL_law_1558 : decode cL_law 1558 = .ok (.iconst 0, 1) := by decide +kernel
theorem dL_law_1559 : decode cL_law 1559 = .ok (.ireturn, 1) := by decide +kernel
theorem dL_law_1560 : decode cL_law 1560 = .ok (.iinc 3 7, 3) := by decide +kernel
theorem dL_law_1563 : decode cL_law 1563 = .ok (.goto (-1545), 3) := by decide +kernel
theorem dL_law_1566 : decode cL_law 1566 = .ok (.iconst 1, 1) := by decide +kernel
theorem dL_law_1567 : decode cL_law 1567 = .ok (.ireturn, 1) := by decide +kernel
end
section
/-! MEMORY OF NUMBERED CELLS: after the constructors the layout never changes; a cell is a number, its address is 'ad' of it -/
/-- the tables' words that every warmed state keeps -/
def tbG : List Cond := lw_tbl.filter goodWord
theorem tbG_of {v : Cond} (h : v ∈ lw_tbl) (hg : goodWord v = true) : v ∈ tbG := List.mem_filter.mpr ⟨h, hg⟩
abbrev Mem : Type := (Nat → Nat → Int32) × (Nat → Nat → Int64)
def sI (M : Mem) (c i : Nat) (v : Int32) : Mem := (fun a b => if a = c ∧ b = i then v else M.1 a b, M.2)
def sL (M : Mem) (c i : Nat) (v : Int64) : Mem := (M.1, fun a b => if a = c ∧ b = i then v else M.2 a b)
theorem sI_1 (M : Mem) (c i : Nat) (v : Int32) (a b : Nat) : (sI M c i v).1 a b = if a = c ∧ b = i then v else M.1 a b := rfl
theorem sI_2 (M : Mem) (c i : Nat) (v : Int32) : (sI M c i v).2 = M.2 := rfl
theorem sL_1 (M : Mem) (c i : Nat) (v : Int64) : (sL M c i v).1 = M.1 := rfl
theorem sL_2 (M : Mem) (c i : Nat) (v : Int64) (a b : Nat) : (sL M c i v).2 a b = if a = c ∧ b = i then v else M.2 a b := rfl
theorem sI_row (M : Mem) (c i : Nat) (v : Int32) : (sI M c i v).1 c = upd (M.1 c) i v := by
  funext b
  simp [sI, upd]
theorem sI_off (M : Mem) (c i : Nat) (v : Int32) {a : Nat} (h : a ≠ c) : (sI M c i v).1 a = M.1 a := by
  funext b
  simp [sI, h]
theorem sL_row (M : Mem) (c i : Nat) (v : Int64) : (sL M c i v).2 c = vp_updL (M.2 c) i v := by
  funext b
  simp [sL, vp_updL]
theorem sL_off (M : Mem) (c i : Nat) (v : Int64) {a : Nat} (h : a ≠ c) : (sL M c i v).2 a = M.2 a := by
  funext b
  simp [sL, h]
/-- the world's own numbers: class numbers and slots; array classes (0 int, 1 long, 2 boolean, 3 .. of references); addresses of the cells; the address of the static table -/
abbrev Wp : Type := va_G × (Nat → ClassId) × (Nat → Nat) × Nat
abbrev Wad (w : Wp) (c : Nat) : Nat := w.2.2.1 c
/-- a shape: how many cells, and what stands in each -/
abbrev Sh : Type := Nat × (Wp → Mem → Nat → va_E)
def wd (h : Sh) (w : Wp) (M : Mem) : va_W := (List.range h.1).map fun c => (w.2.2.1 c, h.2 w M c)
def wA (h : Sh) (w : Wp) : Nat → Prop := fun q => ∃ c, c < h.1 ∧ q = w.2.2.1 c
def ShLoc (h : Sh) : Prop := ∀ (w : Wp) (M N : Mem) (c : Nat), N.1 c = M.1 c → N.2 c = M.2 c → h.2 w N c = h.2 w M c
def tysW (w : Wp) : List (ClassId × FieldType) := [(w.2.1 0, .int), (w.2.1 1, .long), (w.2.1 2, .boolean), (w.2.1 3, .object "MeetHouse$Family"), (w.2.1 4, .object "MeetHouse$Thing"), (w.2.1 5, .object "MeetHouse$Act")]
def WL (k : Nat) : Int64 := match k with
  | 0 => 6148914691236517205
  | 1 => 3689348814741910323
  | 2 => 1085102592571150095
  | 3 => 71777214294589695
  | 4 => 281470681808895
  | _ => 4294967295
def WInj (h : Sh) (w : Wp) : Prop := ∀ i j, i < h.1 → j < h.1 → w.2.2.1 i = w.2.2.1 j → i = j
def Kw (h : Sh) (w : Wp) (U : State) : Prop := va_K w.1 vwCl (tysW w) U ∧ WInj h w ∧ va_Z "MeetHouse$Pot" "WITHOUT" "[J" (.ref w.2.2.2) (wA h w) U U.heap ∧ va_T .long w.2.2.2 6 (fun j => .long (WL j)) (wA h w) U U.heap
theorem Kw.moved {h : Sh} {w : Wp} {u U : State} (k : Kw h w u) (hvm : u.vm.Alike U.vm) (hq : ∀ a : Nat, a < u.heap.size → ¬ wA h w a → U.heap[a]? = u.heap[a]?) : Kw h w U :=
  ⟨k.1.moved hvm, k.2.1, (k.2.2.1.moved hvm).kept hq, (k.2.2.2.moved hvm).kept hq⟩
theorem wd_at {h : Sh} {w : Wp} {M : Mem} {c : Nat} (hc : c < h.1) : (wd h w M)[c]? = some (w.2.2.1 c, h.2 w M c) := by
  simp [wd, List.getElem?_map, List.getElem?_range hc]
theorem wd_lt {h : Sh} {w : Wp} {M : Mem} {c : Nat} {q : Nat × va_E} (hc : (wd h w M)[c]? = some q) : c < h.1 := by
  have h1 := (List.getElem?_eq_some_iff.mp hc).1
  simpa [wd] using h1
theorem wd_D {h : Sh} {w : Wp} {M : Mem} (hi : WInj h w) : va_D (wA h w) (wd h w M) := by
  refine ⟨fun i j p q h1 h2 e => ?_, fun k q hk => ?_⟩
  · have l1 := wd_lt h1
    have l2 := wd_lt h2
    rw [wd_at l1] at h1
    rw [wd_at l2] at h2
    cases h1; cases h2
    exact hi i j l1 l2 e
  · have l1 := wd_lt hk
    rw [wd_at l1] at hk
    cases hk
    exact ⟨k, l1, rfl⟩
theorem wd_set {h : Sh} {w : Wp} {M N : Mem} {c : Nat} {e : va_E} (hl : ShLoc h) (hc : c < h.1) (he : h.2 w N c = e) (h1 : ∀ a, a ≠ c → N.1 a = M.1 a) (h2 : ∀ a, a ≠ c → N.2 a = M.2 a) : (wd h w M).set c (w.2.2.1 c, e) = wd h w N := by
  apply List.ext_getElem?
  intro i
  by_cases hi : i = c
  · subst hi
    rw [wd_at hc, List.getElem?_set_self (by simpa [wd] using hc), he]
  · rw [List.getElem?_set_ne (fun q => hi q.symm)]
    by_cases hb : i < h.1
    · rw [wd_at hb, wd_at hb, hl w M N i (h1 i hi) (h2 i hi)]
    · rw [List.getElem?_eq_none (by simpa [wd] using hb), List.getElem?_eq_none (by simpa [wd] using hb)]
/-- a walk's own things -/
abbrev Cx : Type := Program × Launch × Env × Room × State × MethodId × Array Value × List Frame × Method × Code
def rmd (d : Nat) : Room := { frames := d, cells := 0, slots := 0, locals := 64 * d }
def Qct (h : Sh) (w : Wp) (r : Option Value × Mem) : Array Value → State → Outcome → State → Prop := fun _ st oc t => (oc = .returned r.1 ∧ va_P w.1 vwCl (wd h w r.2) t.heap) ∧ va_F (wA h w) st t
def wsy (y : MethodName) (cc : ByteArray) (n : Nat) (rt : Option FieldType) : List Cond := Cond.code y cc n rt :: tbG
/-- A METHOD'S CONTRACT: at memory M, with the values av, it answers v and leaves memory M' -/
def Ct (h : Sh) (w : Wp) (l : Launch) (y : MethodName) (cc : ByteArray) (n : Nat) (rt : Option FieldType) (d : Nat) (av : List Value) (M : Mem) (r : Option Value × Mem) : Prop :=
  Met l y (wsy y cc n rt) (rmd d) (va_Pc av (fun U => va_P w.1 vwCl (wd h w M) U.heap ∧ Kw h w U)) (Qct h w r) 0 0 (wA h w)
/-- what stands fast in a walk -/
def Gd (h : Sh) (w : Wp) (x : Cx) (own : String) (cc : ByteArray) (n : Nat) (rt : Option FieldType) (d : Nat) : Prop :=
  x.1.tables.exec = Jvm.exec ∧ x.2.2.2.2.2.2.2.2.2.code = cc ∧ x.2.2.2.2.2.2.2.2.2.maxLocals = n ∧ x.2.2.2.2.1.vm.findClass own = some x.2.2.2.2.2.1.cls ∧ (∀ w ∈ tbG, w.before x.2.2.2.2.2.2.1 x.2.2.2.2.1 = true) ∧ Kw h w x.2.2.2.2.1 ∧ x.2.2.2.2.2.2.2.2.1.sig.returnType = rt ∧ x.2.2.2.2.2.2.2.2.1.locks = false ∧ x.2.2.2.1 = rmd d ∧ ShLoc h
/-- THE WALK: at pc, with locals L, stack st, memory M, the method comes to its end with r -/
def U (h : Sh) (w : Wp) (x : Cx) (r : Option Value × Mem) (M : Mem) (pc : Nat) (L : List (Nat × Value)) (st : List Value) : Prop :=
  ∀ (H : Heap) (locs : List Loc) (ls : Array Slot), va_P w.1 vwCl (wd h w M) H → va_S (wA h w) x.2.2.2.2.1.heap H locs → lv_has ls x.2.2.2.2.2.2.2.2.2.maxLocals L →
    W x.1 x.2.1 x.2.2.1 x.2.2.2.1 x.2.2.2.2.1 x.2.2.2.2.2.1 x.2.2.2.2.2.2.1 x.2.2.2.2.2.2.2.1 x.2.2.2.2.2.2.2.2.1 x.2.2.2.2.2.2.2.2.2 H locs 0 0 (MQ x.2.2.2.2.2.2.2.1 (Qct h w r) x.2.2.2.2.2.2.1 x.2.2.2.2.1 0 0 (wA h w)) (F0 x.2.2.2.2.2.1 pc ls st)
theorem ct_of {h : Sh} {w : Wp} {l : Launch} {y : MethodName} {cc : ByteArray} {n : Nat} {rt : Option FieldType} {d : Nat} {av : List Value} {M : Mem} {r : Option Value × Mem} {L : List (Nat × Value)} (hs : ShLoc h) (hy : plainName y.cls = true) (hn : (lg_sl av).length ≤ n) (hL : lv_args 0 av = L)
    (body : ∀ x : Cx, x.2.1 = l → Gd h w x y.cls cc n rt d → U h w x r M 0 L []) : Ct h w l y cc n rt d av M r := by
  refine Met.ofW (cc := cc) (maxL := n) (ret := rt) hy rfl ?_
  intro p e s m args below meth c s₁ B hml hv
  obtain ⟨rfl, hP, hK⟩ := hv
  have hts := atoms_spec (ws := wsy y cc n rt) B.pre
  have g : Gd h w (p, l, e, rmd d, s, m, av.toArray, below, meth, c) y.cls cc n rt d := ⟨B.exec, B.bytes, hml, findClass_of_methodNamed B.named, fun v hv => hts v (List.mem_cons_of_mem _ hv), hK, B.returns, B.notSynchronized, rfl, hs⟩
  have hl := lv_entry av hn
  rw [lg_entry_eq]
  rw [hL] at hl
  have hb := body _ rfl g s.heap [] _ hP va_S.rf (by show lv_has _ c.maxLocals L; rw [hml]; exact hl)
  exact hb
section URows
variable {h : Sh} {w : Wp} {x : Cx} {r : Option Value × Mem} {M : Mem} {pc : Nat} {L : List (Nat × Value)} {st : List Value} {own : String} {cc : ByteArray} {n : Nat} {rt : Option FieldType} {d : Nat}
theorem u_iconst (g : Gd h w x own cc n rt d) {k : Int} {v : Int32} (hd : decode cc pc = .ok (.iconst k, 1)) (hv : Int32.ofInt k = v) (kk : U h w x r M (pc + 1) L (.int v :: st)) : U h w x r M pc L st := fun H locs ls hP hS hl => lv_iconst g.1 g.2.1 hd hv (kk H locs ls hP hS hl)
theorem u_bipush (g : Gd h w x own cc n rt d) {k : Int} {v : Int32} (hd : decode cc pc = .ok (.bipush k, 2)) (hv : (Int8.ofInt k).toInt32 = v) (kk : U h w x r M (pc + 2) L (.int v :: st)) : U h w x r M pc L st := fun H locs ls hP hS hl => lv_bipush g.1 g.2.1 hd hv (kk H locs ls hP hS hl)
theorem u_sipush (g : Gd h w x own cc n rt d) {k : Int} {v : Int32} (hd : decode cc pc = .ok (.sipush k, 3)) (hv : (Int16.ofInt k).toInt32 = v) (kk : U h w x r M (pc + 3) L (.int v :: st)) : U h w x r M pc L st := fun H locs ls hP hS hl => lv_sipush g.1 g.2.1 hd hv (kk H locs ls hP hS hl)
theorem u_lconst (g : Gd h w x own cc n rt d) {k : Fin 2} {v : Int64} (hd : decode cc pc = .ok (.lconst k, 1)) (hv : Int64.ofNat (k : Nat) = v) (kk : U h w x r M (pc + 1) L (.long v :: st)) : U h w x r M pc L st := fun H locs ls hP hS hl => lv_lconst g.1 g.2.1 hd hv (kk H locs ls hP hS hl)
theorem u_null (g : Gd h w x own cc n rt d) (hd : decode cc pc = .ok (.aconst_null, 1)) (kk : U h w x r M (pc + 1) L (.null :: st)) : U h w x r M pc L st := fun H locs ls hP hS hl => lv_null g.1 g.2.1 hd (kk H locs ls hP hS hl)
theorem u_ldc (g : Gd h w x own cc n rt d) {i : Nat} {v : Int32} (hw : Cond.constant own i v ∈ tbG) (hd : decode cc pc = .ok (.ldc i, 2)) (kk : U h w x r M (pc + 2) L (.int v :: st)) : U h w x r M pc L st := fun H locs ls hP hS hl => lv_ldc g.1 g.2.1 g.2.2.2.1 (g.2.2.2.2.1 _ hw) hd (kk H locs ls hP hS hl)
theorem u_ldc_w (g : Gd h w x own cc n rt d) {i : Nat} {v : Int32} (hw : Cond.constant own i v ∈ tbG) (hd : decode cc pc = .ok (.ldc_w i, 3)) (kk : U h w x r M (pc + 3) L (.int v :: st)) : U h w x r M pc L st := fun H locs ls hP hS hl => lv_ldcw g.1 g.2.1 g.2.2.2.1 (g.2.2.2.2.1 _ hw) hd (kk H locs ls hP hS hl)
theorem u_ldc2_w (g : Gd h w x own cc n rt d) {i : Nat} {v : Int64} (hw : Cond.constantLong own i v ∈ tbG) (hd : decode cc pc = .ok (.ldc2_w i, 3)) (kk : U h w x r M (pc + 3) L (.long v :: st)) : U h w x r M pc L st := fun H locs ls hP hS hl => lv_ldc2 g.1 g.2.1 g.2.2.2.1 (g.2.2.2.2.1 _ hw) hd (kk H locs ls hP hS hl)
theorem u_iload_n (g : Gd h w x own cc n rt d) (q : Nat) {k : Fin 4} {v : Int32} (hd : decode cc pc = .ok (.iload_n k, 1)) (hL : L[q]? = some ((k : Nat), .int v)) (kk : U h w x r M (pc + 1) L (.int v :: st)) : U h w x r M pc L st := fun H locs ls hP hS hl => lv_iload_n g.1 g.2.1 hd rfl (lv_at hl q hL) (kk H locs ls hP hS hl)
theorem u_iload (g : Gd h w x own cc n rt d) (q : Nat) {k : Nat} {v : Int32} (hd : decode cc pc = .ok (.iload k, 2)) (hL : L[q]? = some (k, .int v)) (kk : U h w x r M (pc + 2) L (.int v :: st)) : U h w x r M pc L st := fun H locs ls hP hS hl => lv_iload g.1 g.2.1 hd (lv_at hl q hL) (kk H locs ls hP hS hl)
theorem u_lload_n (g : Gd h w x own cc n rt d) (q : Nat) {k : Fin 4} {v : Int64} (hd : decode cc pc = .ok (.lload_n k, 1)) (hL : L[q]? = some ((k : Nat), .long v)) (kk : U h w x r M (pc + 1) L (.long v :: st)) : U h w x r M pc L st := fun H locs ls hP hS hl => lv_lload_n g.1 g.2.1 hd rfl (lv_at hl q hL) (kk H locs ls hP hS hl)
theorem u_lload (g : Gd h w x own cc n rt d) (q : Nat) {k : Nat} {v : Int64} (hd : decode cc pc = .ok (.lload k, 2)) (hL : L[q]? = some (k, .long v)) (kk : U h w x r M (pc + 2) L (.long v :: st)) : U h w x r M pc L st := fun H locs ls hP hS hl => lv_lload g.1 g.2.1 hd (lv_at hl q hL) (kk H locs ls hP hS hl)
theorem u_aload_n (g : Gd h w x own cc n rt d) (q : Nat) {k : Fin 4} {v : Nat} (hd : decode cc pc = .ok (.aload_n k, 1)) (hL : L[q]? = some ((k : Nat), .ref v)) (kk : U h w x r M (pc + 1) L (.ref v :: st)) : U h w x r M pc L st := fun H locs ls hP hS hl => lv_aload_n g.1 g.2.1 hd rfl (lv_at hl q hL) (kk H locs ls hP hS hl)
theorem u_aload (g : Gd h w x own cc n rt d) (q : Nat) {k : Nat} {v : Nat} (hd : decode cc pc = .ok (.aload k, 2)) (hL : L[q]? = some (k, .ref v)) (kk : U h w x r M (pc + 2) L (.ref v :: st)) : U h w x r M pc L st := fun H locs ls hP hS hl => lv_aload g.1 g.2.1 hd (lv_at hl q hL) (kk H locs ls hP hS hl)
theorem u_aload_nN (g : Gd h w x own cc n rt d) (q : Nat) {k : Fin 4} (hd : decode cc pc = .ok (.aload_n k, 1)) (hL : L[q]? = some ((k : Nat), .null)) (kk : U h w x r M (pc + 1) L (.null :: st)) : U h w x r M pc L st := fun H locs ls hP hS hl => lv_aload_nN g.1 g.2.1 hd rfl (lv_at hl q hL) (kk H locs ls hP hS hl)
theorem u_aloadN (g : Gd h w x own cc n rt d) (q : Nat) {k : Nat} (hd : decode cc pc = .ok (.aload k, 2)) (hL : L[q]? = some (k, .null)) (kk : U h w x r M (pc + 2) L (.null :: st)) : U h w x r M pc L st := fun H locs ls hP hS hl => lv_aloadN g.1 g.2.1 hd (lv_at hl q hL) (kk H locs ls hP hS hl)
theorem u_istore_n (g : Gd h w x own cc n rt d) {k : Fin 4} {v : Int32} (L' : List (Nat × Value)) (hd : decode cc pc = .ok (.istore_n k, 1)) (hn : (k : Nat) < n) (hL : ((k : Nat), Value.int v) :: L.filter (fun q => !(q.1 == (k : Nat)) && !(q.1 + 1 == (k : Nat) && q.2.category == 2)) = L') (kk : U h w x r M (pc + 1) L' st) : U h w x r M pc L (.int v :: st) := fun H locs ls hP hS hl => lv_istore_n g.1 g.2.1 hd rfl hl (by rw [g.2.2.1]; exact hn) hL (fun ls' hl' => kk H locs ls' hP hS hl')
theorem u_istore (g : Gd h w x own cc n rt d) {k : Nat} {v : Int32} (L' : List (Nat × Value)) (hd : decode cc pc = .ok (.istore k, 2)) (hn : k < n) (hL : (k, Value.int v) :: L.filter (fun q => !(q.1 == k) && !(q.1 + 1 == k && q.2.category == 2)) = L') (kk : U h w x r M (pc + 2) L' st) : U h w x r M pc L (.int v :: st) := fun H locs ls hP hS hl => lv_istore g.1 g.2.1 hd hl (by rw [g.2.2.1]; exact hn) hL (fun ls' hl' => kk H locs ls' hP hS hl')
theorem u_lstore_n (g : Gd h w x own cc n rt d) {k : Fin 4} {v : Int64} (L' : List (Nat × Value)) (hd : decode cc pc = .ok (.lstore_n k, 1)) (hn : (k : Nat) + 1 < n) (hL : ((k : Nat), Value.long v) :: L.filter (fun q => !(q.1 == (k : Nat)) && (!(q.1 == (k : Nat) + 1) && !(q.1 + 1 == (k : Nat) && q.2.category == 2))) = L') (kk : U h w x r M (pc + 1) L' st) : U h w x r M pc L (.long v :: st) := fun H locs ls hP hS hl => lv_lstore_n g.1 g.2.1 hd rfl hl (by rw [g.2.2.1]; exact hn) hL (fun ls' hl' => kk H locs ls' hP hS hl')
theorem u_lstore (g : Gd h w x own cc n rt d) {k : Nat} {v : Int64} (L' : List (Nat × Value)) (hd : decode cc pc = .ok (.lstore k, 2)) (hn : k + 1 < n) (hL : (k, Value.long v) :: L.filter (fun q => !(q.1 == k) && (!(q.1 == k + 1) && !(q.1 + 1 == k && q.2.category == 2))) = L') (kk : U h w x r M (pc + 2) L' st) : U h w x r M pc L (.long v :: st) := fun H locs ls hP hS hl => lv_lstore g.1 g.2.1 hd hl (by rw [g.2.2.1]; exact hn) hL (fun ls' hl' => kk H locs ls' hP hS hl')
theorem u_astore_n (g : Gd h w x own cc n rt d) {k : Fin 4} {v : Nat} (L' : List (Nat × Value)) (hd : decode cc pc = .ok (.astore_n k, 1)) (hn : (k : Nat) < n) (hL : ((k : Nat), Value.ref v) :: L.filter (fun q => !(q.1 == (k : Nat)) && !(q.1 + 1 == (k : Nat) && q.2.category == 2)) = L') (kk : U h w x r M (pc + 1) L' st) : U h w x r M pc L (.ref v :: st) := fun H locs ls hP hS hl => lv_astore_n g.1 g.2.1 hd rfl hl (by rw [g.2.2.1]; exact hn) hL (fun ls' hl' => kk H locs ls' hP hS hl')
theorem u_astore (g : Gd h w x own cc n rt d) {k : Nat} {v : Nat} (L' : List (Nat × Value)) (hd : decode cc pc = .ok (.astore k, 2)) (hn : k < n) (hL : (k, Value.ref v) :: L.filter (fun q => !(q.1 == k) && !(q.1 + 1 == k && q.2.category == 2)) = L') (kk : U h w x r M (pc + 2) L' st) : U h w x r M pc L (.ref v :: st) := fun H locs ls hP hS hl => lv_astore g.1 g.2.1 hd hl (by rw [g.2.2.1]; exact hn) hL (fun ls' hl' => kk H locs ls' hP hS hl')
theorem u_astore_nN (g : Gd h w x own cc n rt d) {k : Fin 4} (L' : List (Nat × Value)) (hd : decode cc pc = .ok (.astore_n k, 1)) (hn : (k : Nat) < n) (hL : ((k : Nat), Value.null) :: L.filter (fun q => !(q.1 == (k : Nat)) && !(q.1 + 1 == (k : Nat) && q.2.category == 2)) = L') (kk : U h w x r M (pc + 1) L' st) : U h w x r M pc L (.null :: st) := fun H locs ls hP hS hl => lv_astore_nN g.1 g.2.1 hd rfl hl (by rw [g.2.2.1]; exact hn) hL (fun ls' hl' => kk H locs ls' hP hS hl')
theorem u_astoreN (g : Gd h w x own cc n rt d) {k : Nat} (L' : List (Nat × Value)) (hd : decode cc pc = .ok (.astore k, 2)) (hn : k < n) (hL : (k, Value.null) :: L.filter (fun q => !(q.1 == k) && !(q.1 + 1 == k && q.2.category == 2)) = L') (kk : U h w x r M (pc + 2) L' st) : U h w x r M pc L (.null :: st) := fun H locs ls hP hS hl => lv_astoreN g.1 g.2.1 hd hl (by rw [g.2.2.1]; exact hn) hL (fun ls' hl' => kk H locs ls' hP hS hl')
theorem u_iinc (g : Gd h w x own cc n rt d) (q : Nat) {k : Nat} {i : Int} {u v : Int32} (L' : List (Nat × Value)) (hd : decode cc pc = .ok (.iinc k i, 3)) (hq : L[q]? = some (k, .int u)) (hv : u + Int32.ofInt i = v) (hn : k < n) (hL : (k, Value.int v) :: L.filter (fun q => !(q.1 == k) && !(q.1 + 1 == k && q.2.category == 2)) = L') (kk : U h w x r M (pc + 3) L' st) : U h w x r M pc L st := fun H locs ls hP hS hl => lv_iinc g.1 g.2.1 hd hl hq hv (by rw [g.2.2.1]; exact hn) hL (fun ls' hl' => kk H locs ls' hP hS hl')
theorem u_sub (ks : List Nat) {L' : List (Nat × Value)} (hL : lv_pick L ks = L') (kk : U h w x r M pc L' st) : U h w x r M pc L st := fun H locs ls hP hS hl => kk H locs ls hP hS (lv_sub hl ks hL)
theorem u_iadd (g : Gd h w x own cc n rt d) {a b : Int32} (hd : decode cc pc = .ok (.iadd, 1)) (kk : U h w x r M (pc + 1) L (.int (a + b) :: st)) : U h w x r M pc L (.int b :: .int a :: st) := fun H locs ls hP hS hl => lv_iadd g.1 g.2.1 hd (kk H locs ls hP hS hl)
theorem u_isub (g : Gd h w x own cc n rt d) {a b : Int32} (hd : decode cc pc = .ok (.isub, 1)) (kk : U h w x r M (pc + 1) L (.int (a - b) :: st)) : U h w x r M pc L (.int b :: .int a :: st) := fun H locs ls hP hS hl => lv_isub g.1 g.2.1 hd (kk H locs ls hP hS hl)
theorem u_imul (g : Gd h w x own cc n rt d) {a b : Int32} (hd : decode cc pc = .ok (.imul, 1)) (kk : U h w x r M (pc + 1) L (.int (a * b) :: st)) : U h w x r M pc L (.int b :: .int a :: st) := fun H locs ls hP hS hl => lv_imul g.1 g.2.1 hd (kk H locs ls hP hS hl)
theorem u_iand (g : Gd h w x own cc n rt d) {a b : Int32} (hd : decode cc pc = .ok (.iand, 1)) (kk : U h w x r M (pc + 1) L (.int (a &&& b) :: st)) : U h w x r M pc L (.int b :: .int a :: st) := fun H locs ls hP hS hl => lv_iand g.1 g.2.1 hd (kk H locs ls hP hS hl)
theorem u_ior (g : Gd h w x own cc n rt d) {a b : Int32} (hd : decode cc pc = .ok (.ior, 1)) (kk : U h w x r M (pc + 1) L (.int (a ||| b) :: st)) : U h w x r M pc L (.int b :: .int a :: st) := fun H locs ls hP hS hl => lv_ior g.1 g.2.1 hd (kk H locs ls hP hS hl)
theorem u_ixor (g : Gd h w x own cc n rt d) {a b : Int32} (hd : decode cc pc = .ok (.ixor, 1)) (kk : U h w x r M (pc + 1) L (.int (a ^^^ b) :: st)) : U h w x r M pc L (.int b :: .int a :: st) := fun H locs ls hP hS hl => lv_ixor g.1 g.2.1 hd (kk H locs ls hP hS hl)
theorem u_idiv (g : Gd h w x own cc n rt d) {a b : Int32} (hd : decode cc pc = .ok (.idiv, 1)) (hne : ¬ b = 0) (kk : U h w x r M (pc + 1) L (.int (a / b) :: st)) : U h w x r M pc L (.int b :: .int a :: st) := fun H locs ls hP hS hl => lv_idiv g.1 g.2.1 hd hne (kk H locs ls hP hS hl)
theorem u_irem (g : Gd h w x own cc n rt d) {a b : Int32} (hd : decode cc pc = .ok (.irem, 1)) (hne : ¬ b = 0) (kk : U h w x r M (pc + 1) L (.int (a - a / b * b) :: st)) : U h w x r M pc L (.int b :: .int a :: st) := fun H locs ls hP hS hl => lv_irem g.1 g.2.1 hd hne (kk H locs ls hP hS hl)
theorem u_ineg (g : Gd h w x own cc n rt d) {a : Int32} (hd : decode cc pc = .ok (.ineg, 1)) (kk : U h w x r M (pc + 1) L (.int (-a) :: st)) : U h w x r M pc L (.int a :: st) := fun H locs ls hP hS hl => lv_ineg g.1 g.2.1 hd (kk H locs ls hP hS hl)
theorem u_ishl (g : Gd h w x own cc n rt d) {a b : Int32} (hd : decode cc pc = .ok (.ishl, 1)) (kk : U h w x r M (pc + 1) L (.int (a <<< (b &&& 31)) :: st)) : U h w x r M pc L (.int b :: .int a :: st) := fun H locs ls hP hS hl => lv_ishl g.1 g.2.1 hd (kk H locs ls hP hS hl)
theorem u_ishr (g : Gd h w x own cc n rt d) {a b : Int32} (hd : decode cc pc = .ok (.ishr, 1)) (kk : U h w x r M (pc + 1) L (.int (a >>> (b &&& 31)) :: st)) : U h w x r M pc L (.int b :: .int a :: st) := fun H locs ls hP hS hl => lv_ishr g.1 g.2.1 hd (kk H locs ls hP hS hl)
def iushr (a b : Int32) : Int32 := (a.toUInt32 >>> (b.toUInt32 &&& Int32.toUInt32 31)).toInt32
def lushr (a : Int64) (b : Int32) : Int64 := (a.toUInt64 >>> (b.toInt64.toUInt64 &&& Int64.toUInt64 63)).toInt64
def lshl (a : Int64) (b : Int32) : Int64 := a <<< (b.toInt64 &&& 63)
theorem u_iushr (g : Gd h w x own cc n rt d) {a b : Int32} (hd : decode cc pc = .ok (.iushr, 1)) (kk : U h w x r M (pc + 1) L (.int (iushr a b) :: st)) : U h w x r M pc L (.int b :: .int a :: st) := fun H locs ls hP hS hl => lv_iushr g.1 g.2.1 hd rfl (kk H locs ls hP hS hl)
theorem u_lushr (g : Gd h w x own cc n rt d) {a : Int64} {b : Int32} (hd : decode cc pc = .ok (.lushr, 1)) (kk : U h w x r M (pc + 1) L (.long (lushr a b) :: st)) : U h w x r M pc L (.int b :: .long a :: st) := fun H locs ls hP hS hl => lv_lushr g.1 g.2.1 hd rfl (kk H locs ls hP hS hl)
theorem u_lshl (g : Gd h w x own cc n rt d) {a : Int64} {b : Int32} (hd : decode cc pc = .ok (.lshl, 1)) (kk : U h w x r M (pc + 1) L (.long (lshl a b) :: st)) : U h w x r M pc L (.int b :: .long a :: st) := fun H locs ls hP hS hl => lv_lshl g.1 g.2.1 hd rfl (kk H locs ls hP hS hl)
theorem u_ladd (g : Gd h w x own cc n rt d) {a b : Int64} (hd : decode cc pc = .ok (.ladd, 1)) (kk : U h w x r M (pc + 1) L (.long (a + b) :: st)) : U h w x r M pc L (.long b :: .long a :: st) := fun H locs ls hP hS hl => lv_ladd g.1 g.2.1 hd (kk H locs ls hP hS hl)
theorem u_lsub (g : Gd h w x own cc n rt d) {a b : Int64} (hd : decode cc pc = .ok (.lsub, 1)) (kk : U h w x r M (pc + 1) L (.long (a - b) :: st)) : U h w x r M pc L (.long b :: .long a :: st) := fun H locs ls hP hS hl => lv_lsub g.1 g.2.1 hd (kk H locs ls hP hS hl)
theorem u_lmul (g : Gd h w x own cc n rt d) {a b : Int64} (hd : decode cc pc = .ok (.lmul, 1)) (kk : U h w x r M (pc + 1) L (.long (a * b) :: st)) : U h w x r M pc L (.long b :: .long a :: st) := fun H locs ls hP hS hl => lv_lmul g.1 g.2.1 hd (kk H locs ls hP hS hl)
theorem u_land (g : Gd h w x own cc n rt d) {a b : Int64} (hd : decode cc pc = .ok (.land, 1)) (kk : U h w x r M (pc + 1) L (.long (a &&& b) :: st)) : U h w x r M pc L (.long b :: .long a :: st) := fun H locs ls hP hS hl => lv_land g.1 g.2.1 hd (kk H locs ls hP hS hl)
theorem u_lor (g : Gd h w x own cc n rt d) {a b : Int64} (hd : decode cc pc = .ok (.lor, 1)) (kk : U h w x r M (pc + 1) L (.long (a ||| b) :: st)) : U h w x r M pc L (.long b :: .long a :: st) := fun H locs ls hP hS hl => lv_lor g.1 g.2.1 hd (kk H locs ls hP hS hl)
theorem u_lxor (g : Gd h w x own cc n rt d) {a b : Int64} (hd : decode cc pc = .ok (.lxor, 1)) (kk : U h w x r M (pc + 1) L (.long (a ^^^ b) :: st)) : U h w x r M pc L (.long b :: .long a :: st) := fun H locs ls hP hS hl => lv_lxor g.1 g.2.1 hd (kk H locs ls hP hS hl)
theorem u_lneg (g : Gd h w x own cc n rt d) {a : Int64} (hd : decode cc pc = .ok (.lneg, 1)) (kk : U h w x r M (pc + 1) L (.long (-a) :: st)) : U h w x r M pc L (.long a :: st) := fun H locs ls hP hS hl => lv_lneg g.1 g.2.1 hd (kk H locs ls hP hS hl)
theorem u_i2l (g : Gd h w x own cc n rt d) {a : Int32} (hd : decode cc pc = .ok (.i2l, 1)) (kk : U h w x r M (pc + 1) L (.long a.toInt64 :: st)) : U h w x r M pc L (.int a :: st) := fun H locs ls hP hS hl => lv_i2l g.1 g.2.1 hd rfl (kk H locs ls hP hS hl)
theorem u_l2i (g : Gd h w x own cc n rt d) {a : Int64} (hd : decode cc pc = .ok (.l2i, 1)) (kk : U h w x r M (pc + 1) L (.int a.toInt32 :: st)) : U h w x r M pc L (.long a :: st) := fun H locs ls hP hS hl => lv_l2i g.1 g.2.1 hd rfl (kk H locs ls hP hS hl)
theorem u_lcmp (g : Gd h w x own cc n rt d) {a b : Int64} (hd : decode cc pc = .ok (.lcmp, 1)) (kk : U h w x r M (pc + 1) L (.int (lg_cmp a b) :: st)) : U h w x r M pc L (.long b :: .long a :: st) := fun H locs ls hP hS hl => W.lcmp g.1 g.2.1 hd (kk H locs ls hP hS hl)
theorem u_dup (g : Gd h w x own cc n rt d) {v : Value} (hd : decode cc pc = .ok (.dup, 1)) (hv : v.category = 1) (kk : U h w x r M (pc + 1) L (v :: v :: st)) : U h w x r M pc L (v :: st) := fun H locs ls hP hS hl => lv_dup g.1 g.2.1 hd hv (kk H locs ls hP hS hl)
theorem u_pop (g : Gd h w x own cc n rt d) {v : Value} (hd : decode cc pc = .ok (.pop, 1)) (hv : v.category = 1) (kk : U h w x r M (pc + 1) L st) : U h w x r M pc L (v :: st) := fun H locs ls hP hS hl => lv_pop g.1 g.2.1 hd hv (kk H locs ls hP hS hl)
theorem u_dup2 (g : Gd h w x own cc n rt d) {u v : Value} (hd : decode cc pc = .ok (.dup2, 1)) (hu : u.category = 1) (hv : v.category = 1) (kk : U h w x r M (pc + 1) L (u :: v :: u :: v :: st)) : U h w x r M pc L (u :: v :: st) := fun H locs ls hP hS hl => lv_dup2_11 g.1 g.2.1 hd hu hv (kk H locs ls hP hS hl)
theorem u_goto (g : Gd h w x own cc n rt d) {off : Int} (tgt : Nat) (hd : decode cc pc = .ok (.goto off, 3)) (ht : (pc : Int) + off = (tgt : Int)) (kk : U h w x r M tgt L st) : U h w x r M pc L st := fun H locs ls hP hS hl => lv_goto g.1 g.2.1 hd ht (kk H locs ls hP hS hl)
theorem u_if_eq (g : Gd h w x own cc n rt d) {a : Int32} {off : Int} (tgt : Nat) (hd : decode cc pc = .ok (.ifCond .eq off, 3)) (ht : (pc : Int) + off = (tgt : Int)) (kt : a = 0 → U h w x r M tgt L st) (kf : ¬ a = 0 → U h w x r M (pc + 3) L st) : U h w x r M pc L (.int a :: st) := fun H locs ls hP hS hl => lv_if_eq g.1 g.2.1 hd ht (fun q => kt q H locs ls hP hS hl) (fun q => kf q H locs ls hP hS hl)
theorem u_if_ne (g : Gd h w x own cc n rt d) {a : Int32} {off : Int} (tgt : Nat) (hd : decode cc pc = .ok (.ifCond .ne off, 3)) (ht : (pc : Int) + off = (tgt : Int)) (kt : ¬ a = 0 → U h w x r M tgt L st) (kf : a = 0 → U h w x r M (pc + 3) L st) : U h w x r M pc L (.int a :: st) := fun H locs ls hP hS hl => lv_if_ne g.1 g.2.1 hd ht (fun q => kt q H locs ls hP hS hl) (fun q => kf (by first | exact q | exact Classical.not_not.mp q) H locs ls hP hS hl)
theorem u_if_lt (g : Gd h w x own cc n rt d) {a : Int32} {off : Int} (tgt : Nat) (hd : decode cc pc = .ok (.ifCond .lt off, 3)) (ht : (pc : Int) + off = (tgt : Int)) (kt : a < 0 → U h w x r M tgt L st) (kf : ¬ a < 0 → U h w x r M (pc + 3) L st) : U h w x r M pc L (.int a :: st) := fun H locs ls hP hS hl => lv_if_lt g.1 g.2.1 hd ht (fun q => kt q H locs ls hP hS hl) (fun q => kf q H locs ls hP hS hl)
theorem u_if_ge (g : Gd h w x own cc n rt d) {a : Int32} {off : Int} (tgt : Nat) (hd : decode cc pc = .ok (.ifCond .ge off, 3)) (ht : (pc : Int) + off = (tgt : Int)) (kt : 0 ≤ a → U h w x r M tgt L st) (kf : ¬ 0 ≤ a → U h w x r M (pc + 3) L st) : U h w x r M pc L (.int a :: st) := fun H locs ls hP hS hl => lv_if_ge g.1 g.2.1 hd ht (fun q => kt q H locs ls hP hS hl) (fun q => kf q H locs ls hP hS hl)
theorem u_if_gt (g : Gd h w x own cc n rt d) {a : Int32} {off : Int} (tgt : Nat) (hd : decode cc pc = .ok (.ifCond .gt off, 3)) (ht : (pc : Int) + off = (tgt : Int)) (kt : 0 < a → U h w x r M tgt L st) (kf : ¬ 0 < a → U h w x r M (pc + 3) L st) : U h w x r M pc L (.int a :: st) := fun H locs ls hP hS hl => lv_if_gt g.1 g.2.1 hd ht (fun q => kt q H locs ls hP hS hl) (fun q => kf q H locs ls hP hS hl)
theorem u_if_le (g : Gd h w x own cc n rt d) {a : Int32} {off : Int} (tgt : Nat) (hd : decode cc pc = .ok (.ifCond .le off, 3)) (ht : (pc : Int) + off = (tgt : Int)) (kt : a ≤ 0 → U h w x r M tgt L st) (kf : ¬ a ≤ 0 → U h w x r M (pc + 3) L st) : U h w x r M pc L (.int a :: st) := fun H locs ls hP hS hl => lv_if_le g.1 g.2.1 hd ht (fun q => kt q H locs ls hP hS hl) (fun q => kf q H locs ls hP hS hl)
theorem u_icmp_eq (g : Gd h w x own cc n rt d) {a b : Int32} {off : Int} (tgt : Nat) (hd : decode cc pc = .ok (.if_icmp .eq off, 3)) (ht : (pc : Int) + off = (tgt : Int)) (kt : a = b → U h w x r M tgt L st) (kf : ¬ a = b → U h w x r M (pc + 3) L st) : U h w x r M pc L (.int b :: .int a :: st) := fun H locs ls hP hS hl => lv_icmp_eq g.1 g.2.1 hd ht (fun q => kt q H locs ls hP hS hl) (fun q => kf q H locs ls hP hS hl)
theorem u_icmp_ne (g : Gd h w x own cc n rt d) {a b : Int32} {off : Int} (tgt : Nat) (hd : decode cc pc = .ok (.if_icmp .ne off, 3)) (ht : (pc : Int) + off = (tgt : Int)) (kt : ¬ a = b → U h w x r M tgt L st) (kf : a = b → U h w x r M (pc + 3) L st) : U h w x r M pc L (.int b :: .int a :: st) := fun H locs ls hP hS hl => lv_icmp_ne g.1 g.2.1 hd ht (fun q => kt q H locs ls hP hS hl) (fun q => kf (by first | exact q | exact Classical.not_not.mp q) H locs ls hP hS hl)
theorem u_icmp_lt (g : Gd h w x own cc n rt d) {a b : Int32} {off : Int} (tgt : Nat) (hd : decode cc pc = .ok (.if_icmp .lt off, 3)) (ht : (pc : Int) + off = (tgt : Int)) (kt : a < b → U h w x r M tgt L st) (kf : ¬ a < b → U h w x r M (pc + 3) L st) : U h w x r M pc L (.int b :: .int a :: st) := fun H locs ls hP hS hl => lv_icmp_lt g.1 g.2.1 hd ht (fun q => kt q H locs ls hP hS hl) (fun q => kf q H locs ls hP hS hl)
theorem u_icmp_ge (g : Gd h w x own cc n rt d) {a b : Int32} {off : Int} (tgt : Nat) (hd : decode cc pc = .ok (.if_icmp .ge off, 3)) (ht : (pc : Int) + off = (tgt : Int)) (kt : b ≤ a → U h w x r M tgt L st) (kf : ¬ b ≤ a → U h w x r M (pc + 3) L st) : U h w x r M pc L (.int b :: .int a :: st) := fun H locs ls hP hS hl => lv_icmp_ge g.1 g.2.1 hd ht (fun q => kt q H locs ls hP hS hl) (fun q => kf q H locs ls hP hS hl)
theorem u_icmp_gt (g : Gd h w x own cc n rt d) {a b : Int32} {off : Int} (tgt : Nat) (hd : decode cc pc = .ok (.if_icmp .gt off, 3)) (ht : (pc : Int) + off = (tgt : Int)) (kt : b < a → U h w x r M tgt L st) (kf : ¬ b < a → U h w x r M (pc + 3) L st) : U h w x r M pc L (.int b :: .int a :: st) := fun H locs ls hP hS hl => lv_icmp_gt g.1 g.2.1 hd ht (fun q => kt q H locs ls hP hS hl) (fun q => kf q H locs ls hP hS hl)
theorem u_icmp_le (g : Gd h w x own cc n rt d) {a b : Int32} {off : Int} (tgt : Nat) (hd : decode cc pc = .ok (.if_icmp .le off, 3)) (ht : (pc : Int) + off = (tgt : Int)) (kt : a ≤ b → U h w x r M tgt L st) (kf : ¬ a ≤ b → U h w x r M (pc + 3) L st) : U h w x r M pc L (.int b :: .int a :: st) := fun H locs ls hP hS hl => lv_icmp_le g.1 g.2.1 hd ht (fun q => kt q H locs ls hP hS hl) (fun q => kf q H locs ls hP hS hl)
theorem u_nonnull (g : Gd h w x own cc n rt d) {a : Nat} {off : Int} (tgt : Nat) (hd : decode cc pc = .ok (.ifnonnull off, 3)) (ht : (pc : Int) + off = (tgt : Int)) (kk : U h w x r M tgt L st) : U h w x r M pc L (.ref a :: st) := fun H locs ls hP hS hl => lv_ifnonnull g.1 g.2.1 hd ht (kk H locs ls hP hS hl)
theorem u_nonnullN (g : Gd h w x own cc n rt d) {off : Int} (hd : decode cc pc = .ok (.ifnonnull off, 3)) (kk : U h w x r M (pc + 3) L st) : U h w x r M pc L (.null :: st) := fun H locs ls hP hS hl => lv_ifnonnullN g.1 g.2.1 hd (kk H locs ls hP hS hl)
theorem u_isnull (g : Gd h w x own cc n rt d) {a : Nat} {off : Int} (hd : decode cc pc = .ok (.ifnull off, 3)) (kk : U h w x r M (pc + 3) L st) : U h w x r M pc L (.ref a :: st) := fun H locs ls hP hS hl => lv_ifnull g.1 g.2.1 hd (kk H locs ls hP hS hl)
theorem u_isnullN (g : Gd h w x own cc n rt d) {off : Int} (tgt : Nat) (hd : decode cc pc = .ok (.ifnull off, 3)) (ht : (pc : Int) + off = (tgt : Int)) (kk : U h w x r M tgt L st) : U h w x r M pc L (.null :: st) := fun H locs ls hP hS hl => lv_ifnullN g.1 g.2.1 hd ht (kk H locs ls hP hS hl)
theorem u_acmp_ne (g : Gd h w x own cc n rt d) {a b : Nat} {off : Int} (tgt : Nat) (ha : a < h.1) (hb : b < h.1) (hd : decode cc pc = .ok (.if_acmp .ne off, 3)) (ht : (pc : Int) + off = (tgt : Int)) (kt : ¬ a = b → U h w x r M tgt L st) (kf : a = b → U h w x r M (pc + 3) L st) : U h w x r M pc L (.ref (w.2.2.1 b) :: .ref (w.2.2.1 a) :: st) := fun H locs ls hP hS hl => lv_acmp_ne (rx := some (w.2.2.1 a)) (ry := some (w.2.2.1 b)) g.1 g.2.1 hd ht (fun q => kt (fun e => q (by rw [e])) H locs ls hP hS hl) (fun q => kf (g.2.2.2.2.2.1.2.1 a b ha hb (Option.some.inj q)) H locs ls hP hS hl)
theorem u_tableIn (g : Gd h w x own cc n rt d) {a : Int32} {dflt lo hi off : Int} {offs : Array Int} {len : Nat} (tgt : Nat) (hd : decode cc pc = .ok (.tableswitch dflt lo hi offs, len)) (v : Int32) (hv : a = v) (h1 : (decide (v.toInt < lo) || decide (hi < v.toInt)) = false) (ho : offs[(v.toInt - lo).toNat]? = some off) (ht : (pc : Int) + off = (tgt : Int)) (kk : U h w x r M tgt L st) : U h w x r M pc L (.int a :: st) := by
  intro H locs ls hP hS hl
  subst hv
  simp only [Bool.or_eq_false_iff, decide_eq_false_iff_not] at h1
  exact lv_tableIn g.1 g.2.1 hd h1.1 h1.2 ho ht (kk H locs ls hP hS hl)
theorem u_tableOut (g : Gd h w x own cc n rt d) {a : Int32} {dflt lo hi : Int} {offs : Array Int} {len : Nat} (tgt : Nat) (hd : decode cc pc = .ok (.tableswitch dflt lo hi offs, len)) (ho : a.toInt < lo ∨ hi < a.toInt) (ht : (pc : Int) + dflt = (tgt : Int)) (kk : U h w x r M tgt L st) : U h w x r M pc L (.int a :: st) := fun H locs ls hP hS hl => lv_tableOut g.1 g.2.1 hd ho ht (kk H locs ls hP hS hl)
theorem u_get (g : Gd h w x own cc n rt d) {c ci : Nat} {fs : List Value} {C : String} {T : u_T} {N : Nat} (hc : c < h.1) (he : h.2 w M c = .inr (ci, fs)) (hcl : vwCl[ci]? = some (C, T, N)) (hin : ∀ v ∈ u_ws C T N, v ∈ tbG) (k : Nat) (hk : k < N) {index : Nat} (hlink : Cond.fieldLink own index (T k).1 (T k).2.1 (T k).2.2.1 ∈ tbG) {v : Value} (hv : fs[k]? = some v) (hd : decode cc pc = .ok (.getfield index, 3)) (kk : U h w x r M (pc + 3) L (v :: st)) : U h w x r M pc L (.ref (w.2.2.1 c) :: st) := by
  intro H locs ls hP hS hl
  exact va_get (D := w.1) g.1 g.2.1 g.2.2.2.2.1 hin g.2.2.2.1 g.2.2.2.2.2.1.1 hP c (by rw [wd_at hc, he]) hcl k hk (g.2.2.2.2.1 _ hlink) (fun _ q => q) hv hd (kk H locs ls hP hS hl)
theorem u_put (g : Gd h w x own cc n rt d) {c ci : Nat} {fs : List Value} {C : String} {T : u_T} {N : Nat} (hc : c < h.1) (he : h.2 w M c = .inr (ci, fs)) (hcl : vwCl[ci]? = some (C, T, N)) (hin : ∀ v ∈ u_ws C T N, v ∈ tbG) (ty0 : Nat → FieldType) (hty : ∀ k, k < N → parseFieldDescriptor (T k).2.2.1 = some (ty0 k)) (hnm : ∀ a, a < N → ∀ b, b < N → a ≠ b → (T a).2.1 ≠ (T b).2.1) (k : Nat) (hk : k < N) {index : Nat} (hlink : Cond.fieldLink own index (T k).1 (T k).2.1 (T k).2.2.1 ∈ tbG) (hfin : (T k).2.2.2 = false) {v : Int32} (hn : narrow (ty0 k) (.int v) = .int v) (hfit : fits (ty0 k) (.int v) = true) (hlen : k < fs.length) (heN : h.2 w (sI M c k v) c = .inr (ci, fs.set k (.int v))) (hd : decode cc pc = .ok (.putfield index, 3)) (kk : U h w x r (sI M c k v) (pc + 3) L st) : U h w x r M pc L (.int v :: .ref (w.2.2.1 c) :: st) := by
  intro H locs ls hP hS hl
  refine va_put (D := w.1) g.1 g.2.1 g.2.2.2.2.1 hin ty0 hty hnm g.2.2.2.1 g.2.2.2.2.2.1.1 hP (wd_D g.2.2.2.2.2.1.2.1) hS c (by rw [wd_at hc, he]) hcl k hk (g.2.2.2.2.1 _ hlink) (fun _ q => q) hfin (hty k hk) hn hfit hlen hd (fun H1 locs1 hP1 _ hS1 => ?_)
  rw [wd_set (N := sI M c k v) g.2.2.2.2.2.2.2.2.2 hc heN (fun a ha => sI_off M c k v ha) (fun a _ => rfl)] at hP1
  exact kk H1 locs1 ls hP1 hS1 hl
theorem u_iald (g : Gd h w x own cc n rt d) {c N : Nat} {i : Int32} (hc : c < h.1) (he : h.2 w M c = .inl (w.2.1 0, N, .inl (M.1 c))) (hi : vp_in i N) (hd : decode cc pc = .ok (.iaload, 1)) (kk : U h w x r M (pc + 1) L (.int (M.1 c i.toNatClampNeg) :: st)) : U h w x r M pc L (.int i :: .ref (w.2.2.1 c) :: st) := fun H locs ls hP hS hl => va_iald (D := w.1) g.1 g.2.1 g.2.2.2.2.2.1.1 hP c 0 (by rw [wd_at hc, he]) rfl hi hd (kk H locs ls hP hS hl)
theorem u_zald (g : Gd h w x own cc n rt d) {c N : Nat} {i : Int32} (hc : c < h.1) (he : h.2 w M c = .inl (w.2.1 2, N, .inl (M.1 c))) (hi : vp_in i N) (hd : decode cc pc = .ok (.baload, 1)) (kk : U h w x r M (pc + 1) L (.int (M.1 c i.toNatClampNeg) :: st)) : U h w x r M pc L (.int i :: .ref (w.2.2.1 c) :: st) := fun H locs ls hP hS hl => va_zald (D := w.1) g.1 g.2.1 g.2.2.2.2.2.1.1 hP c 2 (by rw [wd_at hc, he]) rfl hi hd (kk H locs ls hP hS hl)
theorem u_lald (g : Gd h w x own cc n rt d) {c N : Nat} {i : Int32} (hc : c < h.1) (he : h.2 w M c = .inl (w.2.1 1, N, .inr (.inl (M.2 c)))) (hi : vp_in i N) (hd : decode cc pc = .ok (.laload, 1)) (kk : U h w x r M (pc + 1) L (.long (M.2 c i.toNatClampNeg) :: st)) : U h w x r M pc L (.int i :: .ref (w.2.2.1 c) :: st) := fun H locs ls hP hS hl => va_lald (D := w.1) g.1 g.2.1 g.2.2.2.2.2.1.1 hP c 1 (by rw [wd_at hc, he]) rfl hi hd (kk H locs ls hP hS hl)
theorem u_aald (g : Gd h w x own cc n rt d) {c N t0 : Nat} {C : String} {f : Nat → Nat} {i : Int32} (hc : c < h.1) (he : h.2 w M c = .inl (w.2.1 t0, N, .inr (.inr (.inr (.inr (fun j => some (w.2.2.1 (f j)))))))) (ht : (tysW w)[t0]? = some (w.2.1 t0, .object C)) (hi : vp_in i N) (hd : decode cc pc = .ok (.aaload, 1)) (kk : U h w x r M (pc + 1) L (.ref (w.2.2.1 (f i.toNatClampNeg)) :: st)) : U h w x r M pc L (.int i :: .ref (w.2.2.1 c) :: st) := fun H locs ls hP hS hl => va_aldq (D := w.1) (f := fun j => some (w.2.2.1 (f j))) g.1 g.2.1 g.2.2.2.2.2.1.1 hP c t0 (by rw [wd_at hc, he]) ht hi hd (kk H locs ls hP hS hl)
theorem u_iast (g : Gd h w x own cc n rt d) {c N : Nat} {i v : Int32} (hc : c < h.1) (he : h.2 w M c = .inl (w.2.1 0, N, .inl (M.1 c))) (heN : h.2 w (sI M c i.toNatClampNeg v) c = .inl (w.2.1 0, N, .inl ((sI M c i.toNatClampNeg v).1 c))) (hi : vp_in i N) (hd : decode cc pc = .ok (.iastore, 1)) (kk : U h w x r (sI M c i.toNatClampNeg v) (pc + 1) L st) : U h w x r M pc L (.int v :: .int i :: .ref (w.2.2.1 c) :: st) := by
  intro H locs ls hP hS hl
  refine va_iast (D := w.1) g.1 g.2.1 g.2.2.2.2.2.1.1 hP (wd_D g.2.2.2.2.2.1.2.1) hS c 0 (by rw [wd_at hc, he]) rfl hi hd (fun H1 locs1 hP1 _ hS1 => ?_)
  rw [wd_set (N := sI M c i.toNatClampNeg v) g.2.2.2.2.2.2.2.2.2 hc (by rw [heN, sI_row]) (fun a ha => sI_off M c _ v ha) (fun a _ => rfl)] at hP1
  exact kk H1 locs1 ls hP1 hS1 hl
def isB (v : Int32) : Prop := v = 0 ∨ v = 1
theorem isB_nar {v : Int32} (h : isB v) : vp_nar .boolean v = v := by rcases h with rfl | rfl <;> rfl
theorem isB_narrow {v : Int32} (h : isB v) : narrow .boolean (.int v) = .int v := by rcases h with rfl | rfl <;> rfl
theorem isB_fits {v : Int32} (h : isB v) : fits .boolean (.int v) = true := by rcases h with rfl | rfl <;> rfl
theorem u_zast (g : Gd h w x own cc n rt d) {c N : Nat} {i v : Int32} (hv : isB v) (hc : c < h.1) (he : h.2 w M c = .inl (w.2.1 2, N, .inl (M.1 c))) (heN : h.2 w (sI M c i.toNatClampNeg v) c = .inl (w.2.1 2, N, .inl ((sI M c i.toNatClampNeg v).1 c))) (hi : vp_in i N) (hd : decode cc pc = .ok (.bastore, 1)) (kk : U h w x r (sI M c i.toNatClampNeg v) (pc + 1) L st) : U h w x r M pc L (.int v :: .int i :: .ref (w.2.2.1 c) :: st) := by
  intro H locs ls hP hS hl
  refine va_zast (D := w.1) g.1 g.2.1 g.2.2.2.2.2.1.1 hP (wd_D g.2.2.2.2.2.1.2.1) hS c 2 (by rw [wd_at hc, he]) rfl hi hd (fun H1 locs1 hP1 _ hS1 => ?_)
  rw [isB_nar hv, wd_set (N := sI M c i.toNatClampNeg v) g.2.2.2.2.2.2.2.2.2 hc (by rw [heN, sI_row]) (fun a ha => sI_off M c _ v ha) (fun a _ => rfl)] at hP1
  exact kk H1 locs1 ls hP1 hS1 hl
theorem u_last (g : Gd h w x own cc n rt d) {c N : Nat} {i : Int32} {v : Int64} (hc : c < h.1) (he : h.2 w M c = .inl (w.2.1 1, N, .inr (.inl (M.2 c)))) (heN : h.2 w (sL M c i.toNatClampNeg v) c = .inl (w.2.1 1, N, .inr (.inl ((sL M c i.toNatClampNeg v).2 c)))) (hi : vp_in i N) (hd : decode cc pc = .ok (.lastore, 1)) (kk : U h w x r (sL M c i.toNatClampNeg v) (pc + 1) L st) : U h w x r M pc L (.long v :: .int i :: .ref (w.2.2.1 c) :: st) := by
  intro H locs ls hP hS hl
  refine va_last (D := w.1) g.1 g.2.1 g.2.2.2.2.2.1.1 hP (wd_D g.2.2.2.2.2.1.2.1) hS c 1 (by rw [wd_at hc, he]) rfl hi hd (fun H1 locs1 hP1 _ hS1 => ?_)
  rw [wd_set (M := M) (N := sL M c i.toNatClampNeg v) g.2.2.2.2.2.2.2.2.2 hc (by rw [heN, sL_row]) (fun a _ => rfl) (fun a ha => sL_off M c _ v ha)] at hP1
  exact kk H1 locs1 ls hP1 hS1 hl
theorem u_getsW (g : Gd h w x own cc n rt d) {index : Nat} (hw : Cond.fieldLink own index "MeetHouse$Pot" "WITHOUT" "[J" ∈ tbG) (hd : decode cc pc = .ok (.getstatic index, 3)) (kk : U h w x r M (pc + 3) L (.ref w.2.2.2 :: st)) : U h w x r M pc L st := fun H locs ls hP hS hl => va_gets g.1 g.2.1 g.2.2.2.2.2.1.2.2.1 hS g.2.2.2.1 (g.2.2.2.2.1 _ hw) (fun _ q => q) hd (kk H locs ls hP hS hl)
theorem u_tlW (g : Gd h w x own cc n rt d) {i : Int32} (hi : vp_in i 6) (hd : decode cc pc = .ok (.laload, 1)) (kk : U h w x r M (pc + 1) L (.long (WL i.toNatClampNeg) :: st)) : U h w x r M pc L (.int i :: .ref w.2.2.2 :: st) := fun H locs ls hP hS hl => va_tl g.1 g.2.1 g.2.2.2.2.2.1.2.2.2 hS hi rfl hd (kk H locs ls hP hS hl)
theorem u_iret (g : Gd h w x own cc n (some .int) d) {v : Int32} (hd : decode cc pc = .ok (.ireturn, 1)) (hr : r = (some (.int v), M)) : U h w x r M pc L [.int v] := by
  intro H locs ls hP hS hl
  subst hr
  exact W.iret g.1 g.2.1 g.2.2.2.2.2.2.1 (fun t ht hW => ⟨⟨rfl, by rw [ht]; exact hP⟩, hS.F ht⟩) hS.2.2 hd (hlocks := g.2.2.2.2.2.2.2.1)
theorem u_zret (g : Gd h w x own cc n (some .boolean) d) {v : Int32} (hv : isB v) (hd : decode cc pc = .ok (.ireturn, 1)) (hr : r = (some (.int v), M)) : U h w x r M pc L [.int v] := by
  intro H locs ls hP hS hl
  subst hr
  exact W.zret g.1 g.2.1 g.2.2.2.2.2.2.1 (isB_narrow hv) (fun t ht hW => ⟨⟨rfl, by rw [ht]; exact hP⟩, hS.F ht⟩) hS.2.2 hd (hlocks := g.2.2.2.2.2.2.2.1)
theorem u_lret (g : Gd h w x own cc n (some .long) d) {v : Int64} (hd : decode cc pc = .ok (.lreturn, 1)) (hr : r = (some (.long v), M)) : U h w x r M pc L [.long v] := by
  intro H locs ls hP hS hl
  subst hr
  exact W.lret g.1 g.2.1 g.2.2.2.2.2.2.1 (fun t ht hW => ⟨⟨rfl, by rw [ht]; exact hP⟩, hS.F ht⟩) hS.2.2 hd (hlocks := g.2.2.2.2.2.2.2.1)
theorem u_vret (g : Gd h w x own cc n none d) (hd : decode cc pc = .ok (.return_, 1)) (hr : r = (none, M)) : U h w x r M pc L [] := by
  intro H locs ls hP hS hl
  subst hr
  exact W.vret g.1 g.2.1 g.2.2.2.2.2.2.1 (fun t ht hW => ⟨⟨rfl, by rw [ht]; exact hP⟩, hS.F ht⟩) hS.2.2 hd (hlocks := g.2.2.2.2.2.2.2.1)
def rv (w : Wp) (o : Option Nat) : Value := match o with
  | none => .null
  | some c => .ref (w.2.2.1 c)
theorem u_aret {C : String} (g : Gd h w x own cc n (some (.object C)) d) {v : Option Nat} (hd : decode cc pc = .ok (.areturn, 1)) (hr : r = (some (rv w v), M)) : U h w x r M pc L [rv w v] := by
  intro H locs ls hP hS hl
  subst hr
  exact W.aret g.1 g.2.1 g.2.2.2.2.2.2.1 (Or.inl ⟨_, rfl⟩) (by cases v with | none => exact Or.inl rfl | some c => exact Or.inr ⟨_, rfl⟩) (fun t ht hW => ⟨⟨rfl, by rw [ht]; exact hP⟩, hS.F ht⟩) hS.2.2 hd (hlocks := g.2.2.2.2.2.2.2.1)
end URows
end
section
theorem goodTbl : tbG.all goodWord = true := by
  refine List.all_eq_true.mpr fun v hv => ?_
  exact (List.mem_filter.mp hv).2
theorem good_all {ws : List Cond} (h : ∀ v ∈ ws, v ∈ tbG) : GoodIn tbG ws := fun v hv => ⟨h v hv, good_of_word (List.all_eq_true.mp goodTbl v (h v hv))⟩
/-- the words of a call: the link, the method's own, its code, its parameters -/
def CWv (own : String) (index : Nat) (y : MethodName) (cy : ByteArray) (ny : Nat) (ry : Option FieldType) (k : Nat) : Prop := (Cond.methodLink own index y ∈ tbG ∧ Cond.instanceMethod y ∈ tbG ∧ Cond.selects y.cls y y ∈ tbG ∧ Cond.initialized y.cls ∈ tbG ∧ Cond.code y cy ny ry ∈ tbG) ∧ (y.cls ≠ "java/lang/invoke/MethodHandle" ∧ y.cls ≠ "java/lang/invoke/VarHandle" ∧ (parseMethodDescriptor y.desc).map (fun d => d.parameters.length) = some k)
def CWs (own : String) (index : Nat) (y : MethodName) (cy : ByteArray) (ny : Nat) (ry : Option FieldType) (k : Nat) : Prop := (Cond.methodLink own index y ∈ tbG ∧ Cond.static y ∈ tbG ∧ Cond.initialized y.cls ∈ tbG ∧ Cond.code y cy ny ry ∈ tbG) ∧ (y.cls ≠ "java/lang/invoke/MethodHandle" ∧ y.cls ≠ "java/lang/invoke/VarHandle" ∧ (parseMethodDescriptor y.desc).map (fun d => d.parameters.length) = some k)
section UCalls
variable {h : Sh} {w : Wp} {x : Cx} {r : Option Value × Mem} {M : Mem} {pc : Nat} {L : List (Nat × Value)} {st S : List Value} {own : String} {cc : ByteArray} {n : Nat} {rt : Option FieldType} {d : Nat}
theorem u_back {v : Option Value} {M1 : Mem} {H : Heap} {locs : List Loc} {ls : Array Slot} {av : Array Value} (hS : va_S (wA h w) x.2.2.2.2.1.heap H locs) (hl : lv_has ls x.2.2.2.2.2.2.2.2.2.maxLocals L)
    (hrun : va_Run x.1 x.2.1 x.2.2.1 x.2.2.2.1 x.2.2.2.2.1 x.2.2.2.2.2.1 x.2.2.2.2.2.2.1 x.2.2.2.2.2.2.2.1 x.2.2.2.2.2.2.2.2.1 x.2.2.2.2.2.2.2.2.2 H locs 0 0 0 0 (F0 x.2.2.2.2.2.1 pc ls S) st (Qct h w (v, M1) av) (wA h w))
    (kk : U h w x r M1 (pc + 3) L (v.toList ++ st)) : W x.1 x.2.1 x.2.2.1 x.2.2.2.1 x.2.2.2.2.1 x.2.2.2.2.2.1 x.2.2.2.2.2.2.1 x.2.2.2.2.2.2.2.1 x.2.2.2.2.2.2.2.2.1 x.2.2.2.2.2.2.2.2.2 H locs 0 0 (MQ x.2.2.2.2.2.2.2.1 (Qct h w r) x.2.2.2.2.2.2.1 x.2.2.2.2.1 0 0 (wA h w)) (F0 x.2.2.2.2.2.1 pc ls S) := by
  intro T hT X
  obtain ⟨v', st₀, t, T', L', h0, X', hL, e1, e2, ⟨⟨hv, hP1⟩, hF⟩, stp⟩ := hrun T hT X
  have hvv : v' = v := by cases hv; rfl
  subst hvv
  have hS1 : va_S (wA h w) x.2.2.2.2.1.heap T'.heap (locs ++ L') := by
    refine ⟨Nat.le_trans hS.1 (by rw [e1, ← h0]; exact hF.1), fun q h1 h2 => ?_, fun q hq => ?_⟩
    · rw [e1, hF.2 q (by rw [h0]; exact Nat.lt_of_lt_of_le h1 hS.1) h2, h0]
      exact hS.2.1 q h1 h2
    · rcases List.mem_append.mp hq with h1 | h1
      · exact hS.2.2 q h1
      · exact hL q h1
  obtain ⟨t2, a1, b1⟩ := kk T'.heap (locs ++ L') ls (by rw [e1]; exact hP1) hS1 hl T' rfl X'
  exact ⟨t2, stp t2 a1, b1⟩
theorem u_blind {av : List Value} : FrameBlind (va_Pc av (fun V => va_P w.1 vwCl (wd h w M) V.heap ∧ Kw h w V)) := by
  intro a V g mk q
  obtain ⟨q1, q2, q3⟩ := q
  exact ⟨q1, q2, q3.moved (U := V.calling g mk a) (Vm.Alike.refl V.vm) (fun _ _ _ => rfl)⟩
theorem u_pre {av : List Value} {H : Heap} {locs : List Loc} (g : Gd h w x own cc n rt d) (hP : va_P w.1 vwCl (wd h w M) H) (hS : va_S (wA h w) x.2.2.2.2.1.heap H locs) : ∀ V : State, V.heap = H → x.2.2.2.2.1.WarmedH V.vm → va_Pc av (fun V => va_P w.1 vwCl (wd h w M) V.heap ∧ Kw h w V) av.toArray V := by
  intro V hV hW
  exact ⟨rfl, by rw [hV]; exact hP, g.2.2.2.2.2.1.moved hW.alike (fun a h1 h2 => by rw [hV]; exact hS.2.1 a h1 h2)⟩
theorem u_callV {index k c ci dy ny : Nat} {y : MethodName} {cy : ByteArray} {ry : Option FieldType} {fs : List Value} {q : vw_C} {v : Option Value} {M1 : Mem} (g : Gd h w x own cc n rt d) (cw : CWv own index y cy ny ry k) (As : List Value) (hc : c < h.1) (he : h.2 w M c = .inr (ci, fs)) (hcl : vwCl[ci]? = some q) (hq : q.1 = y.cls)
    (hct : Ct h w x.2.1 y cy ny ry dy (.ref (w.2.2.1 c) :: As) M (v, M1)) (hdd : dy + 1 ≤ d) (hny : ny ≤ 45) (hk : As.length = k) (hst : (st.map fun v => v.category).sum ≤ 8) (hSt : S = As.reverse ++ .ref (w.2.2.1 c) :: st) (hd : decode cc pc = .ok (.invokevirtual index, 3))
    (kk : U h w x r M1 (pc + 3) L (v.toList ++ st)) : U h w x r M pc L S := by
  intro H locs ls hP hS hl
  have hR : x.2.2.2.1 = rmd d := g.2.2.2.2.2.2.2.2.1
  obtain ⟨⟨w1, w2, w3, w4, w5⟩, n1, n2, n3⟩ := cw
  have hws : ∀ v ∈ wsV own index y.cls y (wsy y cy ny ry), v ∈ tbG := by
    intro v hv
    simp only [wsV, wsy, List.cons_append, List.nil_append, List.mem_cons] at hv
    rcases hv with rfl | rfl | rfl | rfl | rfl | hv
    · exact w1
    · exact w2
    · exact w3
    · exact w4
    · exact w5
    · exact hv
  refine u_back (st := st) (av := (Value.ref (w.2.2.1 c) :: As).toArray) hS hl ?_ kk
  refine va_runV (C := y.cls) (Ts := tbG) (cc := cc) (own := own) (nL := x.2.2.2.2.2.2.2.2.2.maxLocals) (bytes := cy) (maxL := ny) (ret := ry) (n := k) ⟨g.1, g.2.1, rfl, g.2.2.2.1, g.2.2.2.2.1⟩ hct (cwV k g.2.2.2.2.1 (good_all hws) rfl rfl rfl ⟨rfl, n1, n2, n3⟩ ?_) ⟨u_blind, ?_, u_pre g hP hS⟩ rfl hk hl.1 hSt (lv_room hst) hd ⟨?_, ?_⟩
  · rw [hR]
    show dy + 1 ≤ d ∧ 8 + (ny + 11) + 64 * dy ≤ 64 * d
    omega
  · obtain ⟨cell, a1, a2, a3⟩ := va_recv g.2.2.2.2.2.1.1 hP hcl (q0 := c) (by rw [wd_at hc, he])
    exact ⟨cell, a1, a2, by rw [← hq]; exact a3⟩
  · exact Nat.zero_le _
  · exact Nat.zero_le _
theorem u_callS {index k dy ny : Nat} {y : MethodName} {cy : ByteArray} {ry : Option FieldType} {v : Option Value} {M1 : Mem} (g : Gd h w x own cc n rt d) (cw : CWs own index y cy ny ry k) (As : List Value)
    (hct : Ct h w x.2.1 y cy ny ry dy As M (v, M1)) (hdd : dy + 1 ≤ d) (hny : ny ≤ 45) (hk : As.length = k) (hst : (st.map fun v => v.category).sum ≤ 8) (hSt : S = As.reverse ++ st) (hd : decode cc pc = .ok (.invokestatic index, 3))
    (kk : U h w x r M1 (pc + 3) L (v.toList ++ st)) : U h w x r M pc L S := by
  intro H locs ls hP hS hl
  have hR : x.2.2.2.1 = rmd d := g.2.2.2.2.2.2.2.2.1
  obtain ⟨⟨w1, w2, w3, w4⟩, n1, n2, n3⟩ := cw
  have hws : ∀ v ∈ va_wsS own index y (wsy y cy ny ry), v ∈ tbG := by
    intro v hv
    simp only [va_wsS, wsy, List.cons_append, List.nil_append, List.mem_cons] at hv
    rcases hv with rfl | rfl | rfl | rfl | hv
    · exact w1
    · exact w2
    · exact w3
    · exact w4
    · exact hv
  refine u_back (st := st) (av := As.toArray) hS hl ?_ kk
  refine va_runS (Ts := tbG) (cc := cc) (own := own) (nL := x.2.2.2.2.2.2.2.2.2.maxLocals) (bytes := cy) (maxL := ny) (ret := ry) (n := k) ⟨g.1, g.2.1, rfl, g.2.2.2.1, g.2.2.2.2.1⟩ hct (va_cwS k g.2.2.2.2.1 (good_all hws) rfl rfl rfl ⟨n1, n2, n3⟩ ?_) ⟨u_blind, u_pre g hP hS⟩ rfl hk hl.1 hSt (lv_room hst) hd ⟨?_, ?_⟩
  · rw [hR]
    show dy + 1 ≤ d ∧ 8 + (ny + 11) + 64 * dy ≤ 64 * d
    omega
  · exact Nat.zero_le _
  · exact Nat.zero_le _
end UCalls
theorem ob_if {α : Type} {c : Prop} [Decidable c] {a : Option α} {r : α} (h : (if c then a else none) = some r) : c ∧ a = some r := by
  by_cases hc : c
  · rw [if_pos hc] at h; exact ⟨hc, h⟩
  · rw [if_neg hc] at h; cases h
theorem ob_bind {α β : Type} {a : Option α} {f : α → Option β} {r : β} (h : a.bind f = some r) : ∃ q, a = some q ∧ f q = some r := by
  cases a with
  | none => cases h
  | some q => exact ⟨q, rfl, h⟩
def inB (i : Int32) (n : Nat) : Bool := !(decide (i < 0) || decide (n ≤ i.toNatClampNeg))
theorem inB_in {i : Int32} {n : Nat} (h : inB i n = true) : vp_in i n := by
  intro q
  rcases q with q | q <;> simp [inB, q] at h
theorem inB_iff {i : Int32} {n : Nat} : inB i n = true ↔ vp_in i n := by
  refine ⟨inB_in, fun q => ?_⟩
  simp only [inB, Bool.not_eq_true', Bool.or_eq_false_iff, decide_eq_false_iff_not]
  exact ⟨fun e => q (Or.inl e), fun e => q (Or.inr e)⟩
/-- turns enough for every loop -/
def fuelN : Nat := 70000
end
